-- ===== PART A: goes FIRST, ahead of the names: the tables' words, and 'selects' of the private methods out of them =====
/-- a private method of a class that the tables say can be made, by its rows of tables_1 -/
def lw_okq (q : MethodName × Nat) : Prop := (q.1.cls ≠ "java/lang/invoke/MethodHandle" ∧ q.1.cls ≠ "java/lang/invoke/VarHandle") ∧ Cond.instantiable q.1.cls q.2 ∈ tables_1 ∧ Cond.privateMethod q.1 ∈ tables_1 ∧ Cond.instanceMethod q.1 ∈ tables_1
theorem lw_p0 : lw_okq (⟨"DoorGuard", "append", "(I)V"⟩, 13) := ⟨⟨by decide +kernel, by decide +kernel⟩, List.mem_of_getElem? (i := 14) (by decide +kernel), List.mem_of_getElem? (i := 207) (by decide +kernel), List.mem_of_getElem? (i := 208) (by decide +kernel)⟩
theorem lw_p1 : lw_okq (⟨"DoorGuard", "takeTape", "()LDoorGuard$Text;"⟩, 13) := ⟨⟨by decide +kernel, by decide +kernel⟩, List.mem_of_getElem? (i := 14) (by decide +kernel), List.mem_of_getElem? (i := 222) (by decide +kernel), List.mem_of_getElem? (i := 223) (by decide +kernel)⟩
theorem lw_p2 : lw_okq (⟨"DoorGuard$Text", "unwrapOnce", "()V"⟩, 8) := ⟨⟨by decide +kernel, by decide +kernel⟩, List.mem_of_getElem? (i := 45) (by decide +kernel), List.mem_of_getElem? (i := 233) (by decide +kernel), List.mem_of_getElem? (i := 234) (by decide +kernel)⟩
theorem lw_p3 : lw_okq (⟨"DoorGuard$Text", "wrappedAt", "(I)I"⟩, 8) := ⟨⟨by decide +kernel, by decide +kernel⟩, List.mem_of_getElem? (i := 45) (by decide +kernel), List.mem_of_getElem? (i := 237) (by decide +kernel), List.mem_of_getElem? (i := 238) (by decide +kernel)⟩
theorem lw_p4 : lw_okq (⟨"DoorGuard$Text", "makeSmall", "()V"⟩, 8) := ⟨⟨by decide +kernel, by decide +kernel⟩, List.mem_of_getElem? (i := 45) (by decide +kernel), List.mem_of_getElem? (i := 247) (by decide +kernel), List.mem_of_getElem? (i := 248) (by decide +kernel)⟩
theorem lw_p5 : lw_okq (⟨"DoorGuard$Text", "splitWords", "()V"⟩, 8) := ⟨⟨by decide +kernel, by decide +kernel⟩, List.mem_of_getElem? (i := 45) (by decide +kernel), List.mem_of_getElem? (i := 251) (by decide +kernel), List.mem_of_getElem? (i := 252) (by decide +kernel)⟩
theorem lw_p6 : lw_okq (⟨"DoorGuard$Text", "isOfWord", "(I)Z"⟩, 8) := ⟨⟨by decide +kernel, by decide +kernel⟩, List.mem_of_getElem? (i := 45) (by decide +kernel), List.mem_of_getElem? (i := 255) (by decide +kernel), List.mem_of_getElem? (i := 256) (by decide +kernel)⟩
theorem lw_p7 : lw_okq (⟨"DoorGuard$Text", "addWord", "(II)V"⟩, 8) := ⟨⟨by decide +kernel, by decide +kernel⟩, List.mem_of_getElem? (i := 45) (by decide +kernel), List.mem_of_getElem? (i := 259) (by decide +kernel), List.mem_of_getElem? (i := 260) (by decide +kernel)⟩
theorem lw_p8 : lw_okq (⟨"DoorGuard", "forgetKindsOver", "(I)V"⟩, 13) := ⟨⟨by decide +kernel, by decide +kernel⟩, List.mem_of_getElem? (i := 14) (by decide +kernel), List.mem_of_getElem? (i := 263) (by decide +kernel), List.mem_of_getElem? (i := 264) (by decide +kernel)⟩
theorem lw_p9 : lw_okq (⟨"DoorGuard", "forgetSights", "(I)V"⟩, 13) := ⟨⟨by decide +kernel, by decide +kernel⟩, List.mem_of_getElem? (i := 14) (by decide +kernel), List.mem_of_getElem? (i := 271) (by decide +kernel), List.mem_of_getElem? (i := 272) (by decide +kernel)⟩
theorem lw_p10 : lw_okq (⟨"DoorGuard", "readTape", "()LDoorGuard$Text;"⟩, 13) := ⟨⟨by decide +kernel, by decide +kernel⟩, List.mem_of_getElem? (i := 14) (by decide +kernel), List.mem_of_getElem? (i := 282) (by decide +kernel), List.mem_of_getElem? (i := 283) (by decide +kernel)⟩
theorem lw_p11 : lw_okq (⟨"DoorGuard", "setKind", "(ILDoorGuard$Kind;)V"⟩, 13) := ⟨⟨by decide +kernel, by decide +kernel⟩, List.mem_of_getElem? (i := 14) (by decide +kernel), List.mem_of_getElem? (i := 286) (by decide +kernel), List.mem_of_getElem? (i := 287) (by decide +kernel)⟩
theorem lw_p12 : lw_okq (⟨"DoorGuard", "isRule", "(IIIII)Z"⟩, 13) := ⟨⟨by decide +kernel, by decide +kernel⟩, List.mem_of_getElem? (i := 14) (by decide +kernel), List.mem_of_getElem? (i := 319) (by decide +kernel), List.mem_of_getElem? (i := 320) (by decide +kernel)⟩
theorem lw_p13 : lw_okq (⟨"DoorGuard", "copyOfTape", "()[I"⟩, 13) := ⟨⟨by decide +kernel, by decide +kernel⟩, List.mem_of_getElem? (i := 14) (by decide +kernel), List.mem_of_getElem? (i := 375) (by decide +kernel), List.mem_of_getElem? (i := 376) (by decide +kernel)⟩
theorem lw_p14 : lw_okq (⟨"DoorGuard", "sightAll", "()V"⟩, 13) := ⟨⟨by decide +kernel, by decide +kernel⟩, List.mem_of_getElem? (i := 14) (by decide +kernel), List.mem_of_getElem? (i := 445) (by decide +kernel), List.mem_of_getElem? (i := 446) (by decide +kernel)⟩
theorem lw_p15 : lw_okq (⟨"DoorGuard", "collect", "(LDoorGuard$Kind;LDoorGuard$Text;LDoorGuard$Findings;)V"⟩, 13) := ⟨⟨by decide +kernel, by decide +kernel⟩, List.mem_of_getElem? (i := 14) (by decide +kernel), List.mem_of_getElem? (i := 457) (by decide +kernel), List.mem_of_getElem? (i := 458) (by decide +kernel)⟩
def lw_privs_1 : List (MethodName × Nat) := [(⟨"DoorGuard", "append", "(I)V"⟩, 13), (⟨"DoorGuard", "takeTape", "()LDoorGuard$Text;"⟩, 13), (⟨"DoorGuard$Text", "unwrapOnce", "()V"⟩, 8), (⟨"DoorGuard$Text", "wrappedAt", "(I)I"⟩, 8), (⟨"DoorGuard$Text", "makeSmall", "()V"⟩, 8), (⟨"DoorGuard$Text", "splitWords", "()V"⟩, 8), (⟨"DoorGuard$Text", "isOfWord", "(I)Z"⟩, 8), (⟨"DoorGuard$Text", "addWord", "(II)V"⟩, 8), (⟨"DoorGuard", "forgetKindsOver", "(I)V"⟩, 13), (⟨"DoorGuard", "forgetSights", "(I)V"⟩, 13), (⟨"DoorGuard", "readTape", "()LDoorGuard$Text;"⟩, 13), (⟨"DoorGuard", "setKind", "(ILDoorGuard$Kind;)V"⟩, 13), (⟨"DoorGuard", "isRule", "(IIIII)Z"⟩, 13), (⟨"DoorGuard", "copyOfTape", "()[I"⟩, 13), (⟨"DoorGuard", "sightAll", "()V"⟩, 13), (⟨"DoorGuard", "collect", "(LDoorGuard$Kind;LDoorGuard$Text;LDoorGuard$Findings;)V"⟩, 13)]
theorem lw_r1 : ∀ q ∈ lw_privs_1, lw_okq q := List.forall_mem_cons.mpr ⟨lw_p0, List.forall_mem_cons.mpr ⟨lw_p1, List.forall_mem_cons.mpr ⟨lw_p2, List.forall_mem_cons.mpr ⟨lw_p3, List.forall_mem_cons.mpr ⟨lw_p4, List.forall_mem_cons.mpr ⟨lw_p5, List.forall_mem_cons.mpr ⟨lw_p6, List.forall_mem_cons.mpr ⟨lw_p7, List.forall_mem_cons.mpr ⟨lw_p8, List.forall_mem_cons.mpr ⟨lw_p9, List.forall_mem_cons.mpr ⟨lw_p10, List.forall_mem_cons.mpr ⟨lw_p11, List.forall_mem_cons.mpr ⟨lw_p12, List.forall_mem_cons.mpr ⟨lw_p13, List.forall_mem_cons.mpr ⟨lw_p14, List.forall_mem_cons.mpr ⟨lw_p15, fun _ h => absurd h List.not_mem_nil⟩⟩⟩⟩⟩⟩⟩⟩⟩⟩⟩⟩⟩⟩⟩⟩
theorem lw_p16 : lw_okq (⟨"DoorGuard$Text", "isAlike", "(ILDoorGuard$Text;I)Z"⟩, 8) := ⟨⟨by decide +kernel, by decide +kernel⟩, List.mem_of_getElem? (i := 45) (by decide +kernel), List.mem_of_getElem? (i := 465) (by decide +kernel), List.mem_of_getElem? (i := 466) (by decide +kernel)⟩
theorem lw_p17 : lw_okq (⟨"DoorGuard$Text", "placeStart", "(I)I"⟩, 8) := ⟨⟨by decide +kernel, by decide +kernel⟩, List.mem_of_getElem? (i := 45) (by decide +kernel), List.mem_of_getElem? (i := 469) (by decide +kernel), List.mem_of_getElem? (i := 470) (by decide +kernel)⟩
theorem lw_p18 : lw_okq (⟨"DoorGuard$Text", "placeEnd", "(I)I"⟩, 8) := ⟨⟨by decide +kernel, by decide +kernel⟩, List.mem_of_getElem? (i := 45) (by decide +kernel), List.mem_of_getElem? (i := 473) (by decide +kernel), List.mem_of_getElem? (i := 474) (by decide +kernel)⟩
theorem lw_p19 : lw_okq (⟨"DoorGuard$Text", "endOfDigits", "(I)I"⟩, 8) := ⟨⟨by decide +kernel, by decide +kernel⟩, List.mem_of_getElem? (i := 45) (by decide +kernel), List.mem_of_getElem? (i := 489) (by decide +kernel), List.mem_of_getElem? (i := 490) (by decide +kernel)⟩
theorem lw_p20 : lw_okq (⟨"DoorGuard$Text", "isNumber", "(II)Z"⟩, 8) := ⟨⟨by decide +kernel, by decide +kernel⟩, List.mem_of_getElem? (i := 45) (by decide +kernel), List.mem_of_getElem? (i := 493) (by decide +kernel), List.mem_of_getElem? (i := 494) (by decide +kernel)⟩
theorem lw_p21 : lw_okq (⟨"DoorGuard$Text", "isAlikeRow", "(ILDoorGuard$Text;II)Z"⟩, 8) := ⟨⟨by decide +kernel, by decide +kernel⟩, List.mem_of_getElem? (i := 45) (by decide +kernel), List.mem_of_getElem? (i := 502) (by decide +kernel), List.mem_of_getElem? (i := 503) (by decide +kernel)⟩
theorem lw_p22 : lw_okq (⟨"DoorGuard$Text", "isPart", "(II)Z"⟩, 8) := ⟨⟨by decide +kernel, by decide +kernel⟩, List.mem_of_getElem? (i := 45) (by decide +kernel), List.mem_of_getElem? (i := 506) (by decide +kernel), List.mem_of_getElem? (i := 507) (by decide +kernel)⟩
theorem lw_p23 : lw_okq (⟨"DoorGuard", "firstRule", "(LDoorGuard$RuleRow;I)LDoorGuard$Rule;"⟩, 13) := ⟨⟨by decide +kernel, by decide +kernel⟩, List.mem_of_getElem? (i := 14) (by decide +kernel), List.mem_of_getElem? (i := 510) (by decide +kernel), List.mem_of_getElem? (i := 511) (by decide +kernel)⟩
theorem lw_p24 : lw_okq (⟨"DoorGuard", "has", "(II)Z"⟩, 13) := ⟨⟨by decide +kernel, by decide +kernel⟩, List.mem_of_getElem? (i := 14) (by decide +kernel), List.mem_of_getElem? (i := 518) (by decide +kernel), List.mem_of_getElem? (i := 519) (by decide +kernel)⟩
theorem lw_p25 : lw_okq (⟨"DoorGuard", "piecesLetOut", "(II)I"⟩, 13) := ⟨⟨by decide +kernel, by decide +kernel⟩, List.mem_of_getElem? (i := 14) (by decide +kernel), List.mem_of_getElem? (i := 522) (by decide +kernel), List.mem_of_getElem? (i := 523) (by decide +kernel)⟩
theorem lw_p26 : lw_okq (⟨"DoorGuard", "deal", "(LDoorGuard$Letter;LDoorGuard$Rule;)V"⟩, 13) := ⟨⟨by decide +kernel, by decide +kernel⟩, List.mem_of_getElem? (i := 14) (by decide +kernel), List.mem_of_getElem? (i := 541) (by decide +kernel), List.mem_of_getElem? (i := 542) (by decide +kernel)⟩
theorem lw_p27 : lw_okq (⟨"DoorGuard$Findings", "keptCount", "()I"⟩, 5) := ⟨⟨by decide +kernel, by decide +kernel⟩, List.mem_of_getElem? (i := 80) (by decide +kernel), List.mem_of_getElem? (i := 556) (by decide +kernel), List.mem_of_getElem? (i := 557) (by decide +kernel)⟩
theorem lw_p28 : lw_okq (⟨"DoorGuard", "letterAt", "(I)LDoorGuard$Letter;"⟩, 13) := ⟨⟨by decide +kernel, by decide +kernel⟩, List.mem_of_getElem? (i := 14) (by decide +kernel), List.mem_of_getElem? (i := 565) (by decide +kernel), List.mem_of_getElem? (i := 566) (by decide +kernel)⟩
theorem lw_p29 : lw_okq (⟨"DoorGuard$Findings", "isKept", "(I)Z"⟩, 5) := ⟨⟨by decide +kernel, by decide +kernel⟩, List.mem_of_getElem? (i := 80) (by decide +kernel), List.mem_of_getElem? (i := 585) (by decide +kernel), List.mem_of_getElem? (i := 586) (by decide +kernel)⟩
theorem lw_p30 : lw_okq (⟨"DoorGuard", "setTrial", "(IIIII)Z"⟩, 13) := ⟨⟨by decide +kernel, by decide +kernel⟩, List.mem_of_getElem? (i := 14) (by decide +kernel), List.mem_of_getElem? (i := 614) (by decide +kernel), List.mem_of_getElem? (i := 615) (by decide +kernel)⟩
theorem lw_p31 : lw_okq (⟨"DoorGuard", "isOtherByTrial", "(I)Z"⟩, 13) := ⟨⟨by decide +kernel, by decide +kernel⟩, List.mem_of_getElem? (i := 14) (by decide +kernel), List.mem_of_getElem? (i := 623) (by decide +kernel), List.mem_of_getElem? (i := 624) (by decide +kernel)⟩
def lw_privs_2 : List (MethodName × Nat) := [(⟨"DoorGuard$Text", "isAlike", "(ILDoorGuard$Text;I)Z"⟩, 8), (⟨"DoorGuard$Text", "placeStart", "(I)I"⟩, 8), (⟨"DoorGuard$Text", "placeEnd", "(I)I"⟩, 8), (⟨"DoorGuard$Text", "endOfDigits", "(I)I"⟩, 8), (⟨"DoorGuard$Text", "isNumber", "(II)Z"⟩, 8), (⟨"DoorGuard$Text", "isAlikeRow", "(ILDoorGuard$Text;II)Z"⟩, 8), (⟨"DoorGuard$Text", "isPart", "(II)Z"⟩, 8), (⟨"DoorGuard", "firstRule", "(LDoorGuard$RuleRow;I)LDoorGuard$Rule;"⟩, 13), (⟨"DoorGuard", "has", "(II)Z"⟩, 13), (⟨"DoorGuard", "piecesLetOut", "(II)I"⟩, 13), (⟨"DoorGuard", "deal", "(LDoorGuard$Letter;LDoorGuard$Rule;)V"⟩, 13), (⟨"DoorGuard$Findings", "keptCount", "()I"⟩, 5), (⟨"DoorGuard", "letterAt", "(I)LDoorGuard$Letter;"⟩, 13), (⟨"DoorGuard$Findings", "isKept", "(I)Z"⟩, 5), (⟨"DoorGuard", "setTrial", "(IIIII)Z"⟩, 13), (⟨"DoorGuard", "isOtherByTrial", "(I)Z"⟩, 13)]
theorem lw_r2 : ∀ q ∈ lw_privs_2, lw_okq q := List.forall_mem_cons.mpr ⟨lw_p16, List.forall_mem_cons.mpr ⟨lw_p17, List.forall_mem_cons.mpr ⟨lw_p18, List.forall_mem_cons.mpr ⟨lw_p19, List.forall_mem_cons.mpr ⟨lw_p20, List.forall_mem_cons.mpr ⟨lw_p21, List.forall_mem_cons.mpr ⟨lw_p22, List.forall_mem_cons.mpr ⟨lw_p23, List.forall_mem_cons.mpr ⟨lw_p24, List.forall_mem_cons.mpr ⟨lw_p25, List.forall_mem_cons.mpr ⟨lw_p26, List.forall_mem_cons.mpr ⟨lw_p27, List.forall_mem_cons.mpr ⟨lw_p28, List.forall_mem_cons.mpr ⟨lw_p29, List.forall_mem_cons.mpr ⟨lw_p30, List.forall_mem_cons.mpr ⟨lw_p31, fun _ h => absurd h List.not_mem_nil⟩⟩⟩⟩⟩⟩⟩⟩⟩⟩⟩⟩⟩⟩⟩⟩
theorem lw_p32 : lw_okq (⟨"DoorGuard", "lettersOfFate", "(I)I"⟩, 13) := ⟨⟨by decide +kernel, by decide +kernel⟩, List.mem_of_getElem? (i := 14) (by decide +kernel), List.mem_of_getElem? (i := 635) (by decide +kernel), List.mem_of_getElem? (i := 636) (by decide +kernel)⟩
theorem lw_p33 : lw_okq (⟨"DoorGuard", "lettersThatWereTold", "()I"⟩, 13) := ⟨⟨by decide +kernel, by decide +kernel⟩, List.mem_of_getElem? (i := 14) (by decide +kernel), List.mem_of_getElem? (i := 639) (by decide +kernel), List.mem_of_getElem? (i := 640) (by decide +kernel)⟩
theorem lw_p34 : lw_okq (⟨"DoorGuardModel", "read", "([III)V"⟩, 47) := ⟨⟨by decide +kernel, by decide +kernel⟩, List.mem_of_getElem? (i := 643) (by decide +kernel), List.mem_of_getElem? (i := 813) (by decide +kernel), List.mem_of_getElem? (i := 814) (by decide +kernel)⟩
theorem lw_p35 : lw_okq (⟨"DoorGuardModel", "pass", "()V"⟩, 47) := ⟨⟨by decide +kernel, by decide +kernel⟩, List.mem_of_getElem? (i := 643) (by decide +kernel), List.mem_of_getElem? (i := 817) (by decide +kernel), List.mem_of_getElem? (i := 818) (by decide +kernel)⟩
theorem lw_p36 : lw_okq (⟨"DoorGuardModel", "readNumbers", "()V"⟩, 47) := ⟨⟨by decide +kernel, by decide +kernel⟩, List.mem_of_getElem? (i := 643) (by decide +kernel), List.mem_of_getElem? (i := 833) (by decide +kernel), List.mem_of_getElem? (i := 834) (by decide +kernel)⟩
theorem lw_p37 : lw_okq (⟨"DoorGuardModel", "isDigitAt", "(I)Z"⟩, 47) := ⟨⟨by decide +kernel, by decide +kernel⟩, List.mem_of_getElem? (i := 643) (by decide +kernel), List.mem_of_getElem? (i := 837) (by decide +kernel), List.mem_of_getElem? (i := 838) (by decide +kernel)⟩
theorem lw_p38 : lw_okq (⟨"DoorGuardModel", "isNumber", "(II)Z"⟩, 47) := ⟨⟨by decide +kernel, by decide +kernel⟩, List.mem_of_getElem? (i := 643) (by decide +kernel), List.mem_of_getElem? (i := 841) (by decide +kernel), List.mem_of_getElem? (i := 842) (by decide +kernel)⟩
theorem lw_p39 : lw_okq (⟨"DoorGuardModel", "isRule", "(IIIII)Z"⟩, 47) := ⟨⟨by decide +kernel, by decide +kernel⟩, List.mem_of_getElem? (i := 643) (by decide +kernel), List.mem_of_getElem? (i := 869) (by decide +kernel), List.mem_of_getElem? (i := 870) (by decide +kernel)⟩
theorem lw_p40 : lw_okq (⟨"DoorGuardModel", "insert", "(IIIII)V"⟩, 47) := ⟨⟨by decide +kernel, by decide +kernel⟩, List.mem_of_getElem? (i := 643) (by decide +kernel), List.mem_of_getElem? (i := 873) (by decide +kernel), List.mem_of_getElem? (i := 874) (by decide +kernel)⟩
theorem lw_p41 : lw_okq (⟨"DoorGuardModel", "remove", "(I)V"⟩, 47) := ⟨⟨by decide +kernel, by decide +kernel⟩, List.mem_of_getElem? (i := 643) (by decide +kernel), List.mem_of_getElem? (i := 881) (by decide +kernel), List.mem_of_getElem? (i := 882) (by decide +kernel)⟩
theorem lw_p42 : lw_okq (⟨"DoorGuardModel", "readLetter", "(I)V"⟩, 47) := ⟨⟨by decide +kernel, by decide +kernel⟩, List.mem_of_getElem? (i := 643) (by decide +kernel), List.mem_of_getElem? (i := 889) (by decide +kernel), List.mem_of_getElem? (i := 890) (by decide +kernel)⟩
theorem lw_p43 : lw_okq (⟨"DoorGuardModel", "ruleFor", "(I)I"⟩, 47) := ⟨⟨by decide +kernel, by decide +kernel⟩, List.mem_of_getElem? (i := 643) (by decide +kernel), List.mem_of_getElem? (i := 893) (by decide +kernel), List.mem_of_getElem? (i := 894) (by decide +kernel)⟩
theorem lw_p44 : lw_okq (⟨"DoorGuardModel", "isHad", "(II)Z"⟩, 47) := ⟨⟨by decide +kernel, by decide +kernel⟩, List.mem_of_getElem? (i := 643) (by decide +kernel), List.mem_of_getElem? (i := 897) (by decide +kernel), List.mem_of_getElem? (i := 898) (by decide +kernel)⟩
theorem lw_p45 : lw_okq (⟨"DoorGuardModel", "find", "(IIZ)I"⟩, 47) := ⟨⟨by decide +kernel, by decide +kernel⟩, List.mem_of_getElem? (i := 643) (by decide +kernel), List.mem_of_getElem? (i := 901) (by decide +kernel), List.mem_of_getElem? (i := 902) (by decide +kernel)⟩
theorem lw_p46 : lw_okq (⟨"DoorGuardModel", "isMark", "(II)Z"⟩, 47) := ⟨⟨by decide +kernel, by decide +kernel⟩, List.mem_of_getElem? (i := 643) (by decide +kernel), List.mem_of_getElem? (i := 905) (by decide +kernel), List.mem_of_getElem? (i := 906) (by decide +kernel)⟩
theorem lw_p47 : lw_okq (⟨"DoorGuardModel", "found", "(IIIZ)V"⟩, 47) := ⟨⟨by decide +kernel, by decide +kernel⟩, List.mem_of_getElem? (i := 643) (by decide +kernel), List.mem_of_getElem? (i := 909) (by decide +kernel), List.mem_of_getElem? (i := 910) (by decide +kernel)⟩
def lw_privs_3 : List (MethodName × Nat) := [(⟨"DoorGuard", "lettersOfFate", "(I)I"⟩, 13), (⟨"DoorGuard", "lettersThatWereTold", "()I"⟩, 13), (⟨"DoorGuardModel", "read", "([III)V"⟩, 47), (⟨"DoorGuardModel", "pass", "()V"⟩, 47), (⟨"DoorGuardModel", "readNumbers", "()V"⟩, 47), (⟨"DoorGuardModel", "isDigitAt", "(I)Z"⟩, 47), (⟨"DoorGuardModel", "isNumber", "(II)Z"⟩, 47), (⟨"DoorGuardModel", "isRule", "(IIIII)Z"⟩, 47), (⟨"DoorGuardModel", "insert", "(IIIII)V"⟩, 47), (⟨"DoorGuardModel", "remove", "(I)V"⟩, 47), (⟨"DoorGuardModel", "readLetter", "(I)V"⟩, 47), (⟨"DoorGuardModel", "ruleFor", "(I)I"⟩, 47), (⟨"DoorGuardModel", "isHad", "(II)Z"⟩, 47), (⟨"DoorGuardModel", "find", "(IIZ)I"⟩, 47), (⟨"DoorGuardModel", "isMark", "(II)Z"⟩, 47), (⟨"DoorGuardModel", "found", "(IIIZ)V"⟩, 47)]
theorem lw_r3 : ∀ q ∈ lw_privs_3, lw_okq q := List.forall_mem_cons.mpr ⟨lw_p32, List.forall_mem_cons.mpr ⟨lw_p33, List.forall_mem_cons.mpr ⟨lw_p34, List.forall_mem_cons.mpr ⟨lw_p35, List.forall_mem_cons.mpr ⟨lw_p36, List.forall_mem_cons.mpr ⟨lw_p37, List.forall_mem_cons.mpr ⟨lw_p38, List.forall_mem_cons.mpr ⟨lw_p39, List.forall_mem_cons.mpr ⟨lw_p40, List.forall_mem_cons.mpr ⟨lw_p41, List.forall_mem_cons.mpr ⟨lw_p42, List.forall_mem_cons.mpr ⟨lw_p43, List.forall_mem_cons.mpr ⟨lw_p44, List.forall_mem_cons.mpr ⟨lw_p45, List.forall_mem_cons.mpr ⟨lw_p46, List.forall_mem_cons.mpr ⟨lw_p47, fun _ h => absurd h List.not_mem_nil⟩⟩⟩⟩⟩⟩⟩⟩⟩⟩⟩⟩⟩⟩⟩⟩
theorem lw_p48 : lw_okq (⟨"DoorGuardModel", "isEnough", "(II)Z"⟩, 47) := ⟨⟨by decide +kernel, by decide +kernel⟩, List.mem_of_getElem? (i := 643) (by decide +kernel), List.mem_of_getElem? (i := 916) (by decide +kernel), List.mem_of_getElem? (i := 917) (by decide +kernel)⟩
theorem lw_p49 : lw_okq (⟨"DoorGuardModel", "noParts", "()V"⟩, 47) := ⟨⟨by decide +kernel, by decide +kernel⟩, List.mem_of_getElem? (i := 643) (by decide +kernel), List.mem_of_getElem? (i := 920) (by decide +kernel), List.mem_of_getElem? (i := 921) (by decide +kernel)⟩
theorem lw_p50 : lw_okq (⟨"DoorGuardModel", "addParts", "(II)V"⟩, 47) := ⟨⟨by decide +kernel, by decide +kernel⟩, List.mem_of_getElem? (i := 643) (by decide +kernel), List.mem_of_getElem? (i := 924) (by decide +kernel), List.mem_of_getElem? (i := 925) (by decide +kernel)⟩
theorem lw_p51 : lw_okq (⟨"DoorGuardModel", "stands", "(IIII)Z"⟩, 47) := ⟨⟨by decide +kernel, by decide +kernel⟩, List.mem_of_getElem? (i := 643) (by decide +kernel), List.mem_of_getElem? (i := 928) (by decide +kernel), List.mem_of_getElem? (i := 929) (by decide +kernel)⟩
theorem lw_p52 : lw_okq (⟨"DoorGuardModel", "isPart", "(III)Z"⟩, 47) := ⟨⟨by decide +kernel, by decide +kernel⟩, List.mem_of_getElem? (i := 643) (by decide +kernel), List.mem_of_getElem? (i := 932) (by decide +kernel), List.mem_of_getElem? (i := 933) (by decide +kernel)⟩
theorem lw_p53 : lw_okq (⟨"DoorGuardModel", "isWord", "(III)Z"⟩, 47) := ⟨⟨by decide +kernel, by decide +kernel⟩, List.mem_of_getElem? (i := 643) (by decide +kernel), List.mem_of_getElem? (i := 936) (by decide +kernel), List.mem_of_getElem? (i := 937) (by decide +kernel)⟩
theorem lw_p54 : lw_okq (⟨"DoorGuardModel", "partsHad", "(I)I"⟩, 47) := ⟨⟨by decide +kernel, by decide +kernel⟩, List.mem_of_getElem? (i := 643) (by decide +kernel), List.mem_of_getElem? (i := 940) (by decide +kernel), List.mem_of_getElem? (i := 941) (by decide +kernel)⟩
theorem lw_p55 : lw_okq (⟨"DoorGuardModel", "findParts", "(IZ)I"⟩, 47) := ⟨⟨by decide +kernel, by decide +kernel⟩, List.mem_of_getElem? (i := 643) (by decide +kernel), List.mem_of_getElem? (i := 944) (by decide +kernel), List.mem_of_getElem? (i := 945) (by decide +kernel)⟩
theorem lw_p56 : lw_okq (⟨"DoorGuardModel", "isLetter", "(I)Z"⟩, 47) := ⟨⟨by decide +kernel, by decide +kernel⟩, List.mem_of_getElem? (i := 643) (by decide +kernel), List.mem_of_getElem? (i := 952) (by decide +kernel), List.mem_of_getElem? (i := 953) (by decide +kernel)⟩
theorem lw_p57 : lw_okq (⟨"DoorGuardModel", "triedAt", "(I)I"⟩, 47) := ⟨⟨by decide +kernel, by decide +kernel⟩, List.mem_of_getElem? (i := 643) (by decide +kernel), List.mem_of_getElem? (i := 984) (by decide +kernel), List.mem_of_getElem? (i := 985) (by decide +kernel)⟩
theorem lw_p58 : lw_okq (⟨"DoorGuardModel", "isOther", "(I)Z"⟩, 47) := ⟨⟨by decide +kernel, by decide +kernel⟩, List.mem_of_getElem? (i := 643) (by decide +kernel), List.mem_of_getElem? (i := 988) (by decide +kernel), List.mem_of_getElem? (i := 989) (by decide +kernel)⟩
theorem lw_p59 : lw_okq (⟨"DoorGuardModel", "isFor", "(III)Z"⟩, 47) := ⟨⟨by decide +kernel, by decide +kernel⟩, List.mem_of_getElem? (i := 643) (by decide +kernel), List.mem_of_getElem? (i := 1001) (by decide +kernel), List.mem_of_getElem? (i := 1002) (by decide +kernel)⟩
def lw_privs_4 : List (MethodName × Nat) := [(⟨"DoorGuardModel", "isEnough", "(II)Z"⟩, 47), (⟨"DoorGuardModel", "noParts", "()V"⟩, 47), (⟨"DoorGuardModel", "addParts", "(II)V"⟩, 47), (⟨"DoorGuardModel", "stands", "(IIII)Z"⟩, 47), (⟨"DoorGuardModel", "isPart", "(III)Z"⟩, 47), (⟨"DoorGuardModel", "isWord", "(III)Z"⟩, 47), (⟨"DoorGuardModel", "partsHad", "(I)I"⟩, 47), (⟨"DoorGuardModel", "findParts", "(IZ)I"⟩, 47), (⟨"DoorGuardModel", "isLetter", "(I)Z"⟩, 47), (⟨"DoorGuardModel", "triedAt", "(I)I"⟩, 47), (⟨"DoorGuardModel", "isOther", "(I)Z"⟩, 47), (⟨"DoorGuardModel", "isFor", "(III)Z"⟩, 47)]
theorem lw_r4 : ∀ q ∈ lw_privs_4, lw_okq q := List.forall_mem_cons.mpr ⟨lw_p48, List.forall_mem_cons.mpr ⟨lw_p49, List.forall_mem_cons.mpr ⟨lw_p50, List.forall_mem_cons.mpr ⟨lw_p51, List.forall_mem_cons.mpr ⟨lw_p52, List.forall_mem_cons.mpr ⟨lw_p53, List.forall_mem_cons.mpr ⟨lw_p54, List.forall_mem_cons.mpr ⟨lw_p55, List.forall_mem_cons.mpr ⟨lw_p56, List.forall_mem_cons.mpr ⟨lw_p57, List.forall_mem_cons.mpr ⟨lw_p58, List.forall_mem_cons.mpr ⟨lw_p59, fun _ h => absurd h List.not_mem_nil⟩⟩⟩⟩⟩⟩⟩⟩⟩⟩⟩⟩
def lw_privs : List (MethodName × Nat) := lw_privs_1 ++ (lw_privs_2 ++ (lw_privs_3 ++ (lw_privs_4)))
def lw_tbl : List Cond := k2_sels lw_privs ++ tables_1
theorem lw_privs_ok : ∀ q ∈ lw_privs, lw_okq q := by
  show ∀ q ∈ lw_privs_1 ++ (lw_privs_2 ++ (lw_privs_3 ++ (lw_privs_4))), lw_okq q
  exact List.forall_mem_append.mpr ⟨lw_r1, List.forall_mem_append.mpr ⟨lw_r2, List.forall_mem_append.mpr ⟨lw_r3, lw_r4⟩⟩⟩
-- ===== end of PART A; then your names; then what follows =====
theorem goodIn_r {big : List Cond} (ws : List Cond) (ps : List Nat) (hp : ws = ps.filterMap (fun i => big[i]?)) (h : ws.all goodWord = true) : GoodIn big ws := by
  intro w hw
  have h1 := List.all_eq_true.mp h w hw
  rw [hp] at hw
  obtain ⟨i, -, hi⟩ := List.mem_filterMap.mp hw
  have hm : w ∈ big := by first | exact List.mem_of_getElem? hi | exact List.getElem?_mem hi
  exact ⟨hm, good_of_word h1⟩
theorem goodIn_app {big a b : List Cond} (ha : GoodIn big a) (hb : GoodIn big b) : GoodIn big (a ++ b) := fun w h => (List.mem_append.mp h).elim (ha w) (hb w)
theorem goodIn_ca {big a b : List Cond} {c : Cond} (ha : GoodIn big (c :: a)) (hb : GoodIn big b) : GoodIn big (c :: (a ++ b)) := fun w h => (List.mem_cons.mp h).elim (fun e => ha w (List.mem_cons.mpr (Or.inl e))) (fun h => (List.mem_append.mp h).elim (fun h => ha w (List.mem_cons.mpr (Or.inr h))) (hb w))
theorem goodIn_sub {big ws : List Cond} (hm : ∀ w ∈ ws, w ∈ big) (h : ws.all goodWord = true) : GoodIn big ws := fun w hw => ⟨hm w hw, good_of_word (List.all_eq_true.mp h w hw)⟩
def RX0 : String := "DoorGuard$Findings"
def TX0 : u_T := fun k => match k with
  | 0 => ("DoorGuard$Findings", "firsts", "[I", true)
  | 1 => ("DoorGuard$Findings", "lasts", "[I", true)
  | 2 => ("DoorGuard$Findings", "parts", "[I", true)
  | 3 => ("DoorGuard$Findings", "different", "LDoorGuard$PartSet;", true)
  | _ => ("DoorGuard$Findings", "count", "I", false)
def tyX0 : Nat → FieldType := fun k => match k with
  | 0 => .array .int
  | 1 => .array .int
  | 2 => .array .int
  | 3 => .object "DoorGuard$PartSet"
  | _ => .int
theorem nmX0 : ∀ a, a < 5 → ∀ b, b < 5 → a ≠ b → (TX0 a).2.1 ≠ (TX0 b).2.1 := by decide +kernel
theorem tyX0_ok : ∀ k, k < 5 → parseFieldDescriptor (TX0 k).2.2.1 = some (tyX0 k) := by decide +kernel
abbrev cX0_init : ByteArray := prog_2_method_1_code
def yX0_init : MethodName := ⟨RX0, "<init>", "(I)V"⟩
abbrev cX0_clear : ByteArray := prog_2_method_2_code
def yX0_clear : MethodName := ⟨RX0, "clear", "()V"⟩
abbrev cX0_put : ByteArray := prog_2_method_3_code
def yX0_put : MethodName := ⟨RX0, "put", "(III)V"⟩
abbrev cX0_keptCount : ByteArray := prog_2_method_4_code
def yX0_keptCount : MethodName := ⟨RX0, "keptCount", "()I"⟩
abbrev cX0_isKept : ByteArray := prog_2_method_5_code
def yX0_isKept : MethodName := ⟨RX0, "isKept", "(I)Z"⟩
abbrev cX0_firstOf : ByteArray := prog_2_method_6_code
def yX0_firstOf : MethodName := ⟨RX0, "firstOf", "(I)I"⟩
abbrev cX0_lastOf : ByteArray := prog_2_method_7_code
def yX0_lastOf : MethodName := ⟨RX0, "lastOf", "(I)I"⟩
abbrev cX0_partOf : ByteArray := prog_2_method_8_code
def yX0_partOf : MethodName := ⟨RX0, "partOf", "(I)I"⟩
abbrev cX0_blackened : ByteArray := prog_2_method_9_code
def yX0_blackened : MethodName := ⟨RX0, "blackened", "([I)[I"⟩
def RX1 : String := "DoorGuard$Kind"
def TX1 : u_T := fun k => match k with
  | 0 => ("DoorGuard$Kind", "sort", "I", true)
  | 1 => ("DoorGuard$Kind", "word", "LDoorGuard$Text;", true)
  | 2 => ("DoorGuard$Kind", "text", "I", true)
  | 3 => ("DoorGuard$Kind", "row", "I", true)
  | 4 => ("DoorGuard$Kind", "least", "I", true)
  | _ => ("DoorGuard$Kind", "daysBack", "I", true)
def tyX1 : Nat → FieldType := fun k => match k with
  | 0 => .int
  | 1 => .object "DoorGuard$Text"
  | 2 => .int
  | 3 => .int
  | 4 => .int
  | _ => .int
theorem nmX1 : ∀ a, a < 6 → ∀ b, b < 6 → a ≠ b → (TX1 a).2.1 ≠ (TX1 b).2.1 := by decide +kernel
theorem tyX1_ok : ∀ k, k < 6 → parseFieldDescriptor (TX1 k).2.2.1 = some (tyX1 k) := by decide +kernel
abbrev cX1_init : ByteArray := prog_3_method_1_code
def yX1_init : MethodName := ⟨RX1, "<init>", "(ILDoorGuard$Text;IIII)V"⟩
abbrev cX1_isOver : ByteArray := prog_3_method_2_code
def yX1_isOver : MethodName := ⟨RX1, "isOver", "(I)Z"⟩
def RX2 : String := "DoorGuard$Letter"
def TX2 : u_T := fun k => match k with
  | 0 => ("DoorGuard$Letter", "sender", "I", true)
  | 1 => ("DoorGuard$Letter", "taker", "I", true)
  | 2 => ("DoorGuard$Letter", "way", "I", true)
  | 3 => ("DoorGuard$Letter", "day", "I", true)
  | 4 => ("DoorGuard$Letter", "came", "[I", true)
  | 5 => ("DoorGuard$Letter", "text", "LDoorGuard$Text;", true)
  | 6 => ("DoorGuard$Letter", "act", "I", false)
  | 7 => ("DoorGuard$Letter", "kind", "I", false)
  | 8 => ("DoorGuard$Letter", "fate", "I", false)
  | 9 => ("DoorGuard$Letter", "findings", "LDoorGuard$Findings;", false)
  | 10 => ("DoorGuard$Letter", "leaving", "[I", false)
  | 11 => ("DoorGuard$Letter", "sights", "[LDoorGuard$Findings;", true)
  | _ => ("DoorGuard$Letter", "sighted", "[Z", true)
def tyX2 : Nat → FieldType := fun k => match k with
  | 0 => .int
  | 1 => .int
  | 2 => .int
  | 3 => .int
  | 4 => .array .int
  | 5 => .object "DoorGuard$Text"
  | 6 => .int
  | 7 => .int
  | 8 => .int
  | 9 => .object "DoorGuard$Findings"
  | 10 => .array .int
  | 11 => .array (.object "DoorGuard$Findings")
  | _ => .array .boolean
theorem nmX2 : ∀ a, a < 13 → ∀ b, b < 13 → a ≠ b → (TX2 a).2.1 ≠ (TX2 b).2.1 := by decide +kernel
theorem tyX2_ok : ∀ k, k < 13 → parseFieldDescriptor (TX2 k).2.2.1 = some (tyX2 k) := by decide +kernel
abbrev cX2_init : ByteArray := prog_4_method_1_code
def yX2_init : MethodName := ⟨RX2, "<init>", "(IIII[ILDoorGuard$Text;)V"⟩
def RX3 : String := "DoorGuard$PartSet"
def TX3 : u_T := fun k => match k with
  | 0 => ("DoorGuard$PartSet", "low", "J", false)
  | 1 => ("DoorGuard$PartSet", "middle", "J", false)
  | _ => ("DoorGuard$PartSet", "high", "J", false)
def tyX3 : Nat → FieldType := fun k => match k with
  | 0 => .long
  | 1 => .long
  | _ => .long
theorem nmX3 : ∀ a, a < 3 → ∀ b, b < 3 → a ≠ b → (TX3 a).2.1 ≠ (TX3 b).2.1 := by decide +kernel
theorem tyX3_ok : ∀ k, k < 3 → parseFieldDescriptor (TX3 k).2.2.1 = some (tyX3 k) := by decide +kernel
abbrev cX3_init : ByteArray := prog_5_method_1_code
def yX3_init : MethodName := ⟨RX3, "<init>", "()V"⟩
abbrev cX3_clear : ByteArray := prog_5_method_2_code
def yX3_clear : MethodName := ⟨RX3, "clear", "()V"⟩
abbrev cX3_put : ByteArray := prog_5_method_3_code
def yX3_put : MethodName := ⟨RX3, "put", "(I)V"⟩
abbrev cX3_putAll : ByteArray := prog_5_method_4_code
def yX3_putAll : MethodName := ⟨RX3, "putAll", "(LDoorGuard$PartSet;)V"⟩
abbrev cX3_size : ByteArray := prog_5_method_5_code
def yX3_size : MethodName := ⟨RX3, "size", "()I"⟩
def RX4 : String := "DoorGuard$Rule"
def TX4 : u_T := fun k => match k with
  | 0 => ("DoorGuard$Rule", "sender", "I", true)
  | 1 => ("DoorGuard$Rule", "way", "I", true)
  | 2 => ("DoorGuard$Rule", "kind", "I", true)
  | _ => ("DoorGuard$Rule", "act", "I", true)
def tyX4 : Nat → FieldType := fun k => match k with
  | 0 => .int
  | 1 => .int
  | 2 => .int
  | _ => .int
theorem nmX4 : ∀ a, a < 4 → ∀ b, b < 4 → a ≠ b → (TX4 a).2.1 ≠ (TX4 b).2.1 := by decide +kernel
theorem tyX4_ok : ∀ k, k < 4 → parseFieldDescriptor (TX4 k).2.2.1 = some (tyX4 k) := by decide +kernel
abbrev cX4_init : ByteArray := prog_6_method_1_code
def yX4_init : MethodName := ⟨RX4, "<init>", "(IIII)V"⟩
abbrev cX4_isFor : ByteArray := prog_6_method_2_code
def yX4_isFor : MethodName := ⟨RX4, "isFor", "(LDoorGuard$Letter;)Z"⟩
def RX5 : String := "DoorGuard$RuleRow"
def TX5 : u_T := fun k => match k with
  | 0 => ("DoorGuard$RuleRow", "row", "[LDoorGuard$Rule;", true)
  | _ => ("DoorGuard$RuleRow", "size", "I", false)
def tyX5 : Nat → FieldType := fun k => match k with
  | 0 => .array (.object "DoorGuard$Rule")
  | _ => .int
theorem nmX5 : ∀ a, a < 2 → ∀ b, b < 2 → a ≠ b → (TX5 a).2.1 ≠ (TX5 b).2.1 := by decide +kernel
theorem tyX5_ok : ∀ k, k < 2 → parseFieldDescriptor (TX5 k).2.2.1 = some (tyX5 k) := by decide +kernel
abbrev cX5_init : ByteArray := prog_7_method_1_code
def yX5_init : MethodName := ⟨RX5, "<init>", "()V"⟩
abbrev cX5_get : ByteArray := prog_7_method_2_code
def yX5_get : MethodName := ⟨RX5, "get", "(I)LDoorGuard$Rule;"⟩
abbrev cX5_insert : ByteArray := prog_7_method_3_code
def yX5_insert : MethodName := ⟨RX5, "insert", "(ILDoorGuard$Rule;)V"⟩
abbrev cX5_remove : ByteArray := prog_7_method_4_code
def yX5_remove : MethodName := ⟨RX5, "remove", "(I)V"⟩
abbrev cX5_copyWith : ByteArray := prog_7_method_5_code
def yX5_copyWith : MethodName := ⟨RX5, "copyWith", "(LDoorGuard$RuleRow;ILDoorGuard$Rule;)V"⟩
def RX6 : String := "DoorGuard$Text"
def TX6 : u_T := fun k => match k with
  | 0 => ("DoorGuard$Text", "bytes", "[I", true)
  | 1 => ("DoorGuard$Text", "firsts", "[I", true)
  | 2 => ("DoorGuard$Text", "lasts", "[I", true)
  | 3 => ("DoorGuard$Text", "size", "I", false)
  | 4 => ("DoorGuard$Text", "wordStarts", "[I", true)
  | 5 => ("DoorGuard$Text", "wordLengths", "[I", true)
  | 6 => ("DoorGuard$Text", "wordHashes", "[I", true)
  | _ => ("DoorGuard$Text", "wordCount", "I", false)
def tyX6 : Nat → FieldType := fun k => match k with
  | 0 => .array .int
  | 1 => .array .int
  | 2 => .array .int
  | 3 => .int
  | 4 => .array .int
  | 5 => .array .int
  | 6 => .array .int
  | _ => .int
theorem nmX6 : ∀ a, a < 8 → ∀ b, b < 8 → a ≠ b → (TX6 a).2.1 ≠ (TX6 b).2.1 := by decide +kernel
theorem tyX6_ok : ∀ k, k < 8 → parseFieldDescriptor (TX6 k).2.2.1 = some (tyX6 k) := by decide +kernel
abbrev cX6_init : ByteArray := prog_8_method_1_code
def yX6_init : MethodName := ⟨RX6, "<init>", "(I)V"⟩
abbrev cX6_read : ByteArray := prog_8_method_2_code
def yX6_read : MethodName := ⟨RX6, "read", "([II)V"⟩
abbrev cX6_unwrapOnce : ByteArray := prog_8_method_3_code
def yX6_unwrapOnce : MethodName := ⟨RX6, "unwrapOnce", "()V"⟩
abbrev cX6_wrappedAt : ByteArray := prog_8_method_4_code
def yX6_wrappedAt : MethodName := ⟨RX6, "wrappedAt", "(I)I"⟩
abbrev cX6_hexOf : ByteArray := prog_8_method_5_code
def yX6_hexOf : MethodName := ⟨RX6, "hexOf", "(I)I"⟩
abbrev cX6_isDigit : ByteArray := prog_8_method_6_code
def yX6_isDigit : MethodName := ⟨RX6, "isDigit", "(I)Z"⟩
abbrev cX6_makeSmall : ByteArray := prog_8_method_7_code
def yX6_makeSmall : MethodName := ⟨RX6, "makeSmall", "()V"⟩
abbrev cX6_isOfWord : ByteArray := prog_8_method_8_code
def yX6_isOfWord : MethodName := ⟨RX6, "isOfWord", "(I)Z"⟩
abbrev cX6_splitWords : ByteArray := prog_8_method_9_code
def yX6_splitWords : MethodName := ⟨RX6, "splitWords", "()V"⟩
abbrev cX6_addWord : ByteArray := prog_8_method_10_code
def yX6_addWord : MethodName := ⟨RX6, "addWord", "(II)V"⟩
abbrev cX6_placeStart : ByteArray := prog_8_method_11_code
def yX6_placeStart : MethodName := ⟨RX6, "placeStart", "(I)I"⟩
abbrev cX6_placeEnd : ByteArray := prog_8_method_12_code
def yX6_placeEnd : MethodName := ⟨RX6, "placeEnd", "(I)I"⟩
abbrev cX6_isAlike : ByteArray := prog_8_method_13_code
def yX6_isAlike : MethodName := ⟨RX6, "isAlike", "(ILDoorGuard$Text;I)Z"⟩
abbrev cX6_isAlikeRow : ByteArray := prog_8_method_14_code
def yX6_isAlikeRow : MethodName := ⟨RX6, "isAlikeRow", "(ILDoorGuard$Text;II)Z"⟩
abbrev cX6_isPart : ByteArray := prog_8_method_15_code
def yX6_isPart : MethodName := ⟨RX6, "isPart", "(II)Z"⟩
abbrev cX6_collectAlike : ByteArray := prog_8_method_16_code
def yX6_collectAlike : MethodName := ⟨RX6, "collectAlike", "(LDoorGuard$Text;LDoorGuard$Findings;)V"⟩
abbrev cX6_collectParts : ByteArray := prog_8_method_17_code
def yX6_collectParts : MethodName := ⟨RX6, "collectParts", "(LDoorGuard$Text;ILDoorGuard$Findings;)V"⟩
abbrev cX6_collectNumbers : ByteArray := prog_8_method_18_code
def yX6_collectNumbers : MethodName := ⟨RX6, "collectNumbers", "(LDoorGuard$Findings;)V"⟩
abbrev cX6_endOfDigits : ByteArray := prog_8_method_19_code
def yX6_endOfDigits : MethodName := ⟨RX6, "endOfDigits", "(I)I"⟩
abbrev cX6_isNumber : ByteArray := prog_8_method_20_code
def yX6_isNumber : MethodName := ⟨RX6, "isNumber", "(II)Z"⟩
def RX7 : String := "DoorGuard"
def TX7 : u_T := fun k => match k with
  | 0 => ("DoorGuard", "day", "I", false)
  | 1 => ("DoorGuard", "tape", "[I", true)
  | 2 => ("DoorGuard", "tapeSize", "I", false)
  | 3 => ("DoorGuard", "kept", "[LDoorGuard$Text;", true)
  | 4 => ("DoorGuard", "kinds", "[LDoorGuard$Kind;", true)
  | 5 => ("DoorGuard", "allowed", "[Z", true)
  | 6 => ("DoorGuard", "rules", "LDoorGuard$RuleRow;", true)
  | 7 => ("DoorGuard", "letters", "[LDoorGuard$Letter;", true)
  | 8 => ("DoorGuard", "letterCount", "I", false)
  | 9 => ("DoorGuard", "tapeText", "LDoorGuard$Text;", true)
  | 10 => ("DoorGuard", "tapeFindings", "LDoorGuard$Findings;", true)
  | 11 => ("DoorGuard", "partsTogether", "LDoorGuard$PartSet;", true)
  | _ => ("DoorGuard", "trialRules", "LDoorGuard$RuleRow;", true)
def tyX7 : Nat → FieldType := fun k => match k with
  | 0 => .int
  | 1 => .array .int
  | 2 => .int
  | 3 => .array (.object "DoorGuard$Text")
  | 4 => .array (.object "DoorGuard$Kind")
  | 5 => .array .boolean
  | 6 => .object "DoorGuard$RuleRow"
  | 7 => .array (.object "DoorGuard$Letter")
  | 8 => .int
  | 9 => .object "DoorGuard$Text"
  | 10 => .object "DoorGuard$Findings"
  | 11 => .object "DoorGuard$PartSet"
  | _ => .object "DoorGuard$RuleRow"
theorem nmX7 : ∀ a, a < 13 → ∀ b, b < 13 → a ≠ b → (TX7 a).2.1 ≠ (TX7 b).2.1 := by decide +kernel
theorem tyX7_ok : ∀ k, k < 13 → parseFieldDescriptor (TX7 k).2.2.1 = some (tyX7 k) := by decide +kernel
abbrev cX7_init : ByteArray := prog_1_method_1_code
def yX7_init : MethodName := ⟨RX7, "<init>", "()V"⟩
abbrev cX7_days : ByteArray := prog_1_method_2_code
def yX7_days : MethodName := ⟨RX7, "days", "(I)I"⟩
abbrev cX7_feed : ByteArray := prog_1_method_3_code
def yX7_feed : MethodName := ⟨RX7, "feed", "(IIIII)I"⟩
abbrev cX7_end : ByteArray := prog_1_method_4_code
def yX7_end : MethodName := ⟨RX7, "end", "(I)Z"⟩
abbrev cX7_keep : ByteArray := prog_1_method_5_code
def yX7_keep : MethodName := ⟨RX7, "keep", "(I)I"⟩
abbrev cX7_mark : ByteArray := prog_1_method_6_code
def yX7_mark : MethodName := ⟨RX7, "mark", "(I)Z"⟩
abbrev cX7_near : ByteArray := prog_1_method_7_code
def yX7_near : MethodName := ⟨RX7, "near", "(III)Z"⟩
abbrev cX7_count : ByteArray := prog_1_method_8_code
def yX7_count : MethodName := ⟨RX7, "count", "(II)Z"⟩
abbrev cX7_pieces : ByteArray := prog_1_method_9_code
def yX7_pieces : MethodName := ⟨RX7, "pieces", "(IIIII)Z"⟩
abbrev cX7_allow : ByteArray := prog_1_method_10_code
def yX7_allow : MethodName := ⟨RX7, "allow", "(IIIZ)Z"⟩
abbrev cX7_rule : ByteArray := prog_1_method_11_code
def yX7_rule : MethodName := ⟨RX7, "rule", "(IIIII)I"⟩
abbrev cX7_drop : ByteArray := prog_1_method_12_code
def yX7_drop : MethodName := ⟨RX7, "drop", "(I)Z"⟩
abbrev cX7_quarrel : ByteArray := prog_1_method_13_code
def yX7_quarrel : MethodName := ⟨RX7, "quarrel", "(II)I"⟩
abbrev cX7_send : ByteArray := prog_1_method_14_code
def yX7_send : MethodName := ⟨RX7, "send", "(III)I"⟩
abbrev cX7_answer : ByteArray := prog_1_method_15_code
def yX7_answer : MethodName := ⟨RX7, "answer", "(IZ)Z"⟩
abbrev cX7_told : ByteArray := prog_1_method_16_code
def yX7_told : MethodName := ⟨RX7, "told", "(II)I"⟩
abbrev cX7_at : ByteArray := prog_1_method_17_code
def yX7_at : MethodName := ⟨RX7, "at", "(IIZ)I"⟩
abbrev cX7_found : ByteArray := prog_1_method_18_code
def yX7_found : MethodName := ⟨RX7, "found", "(III)I"⟩
abbrev cX7_words : ByteArray := prog_1_method_19_code
def yX7_words : MethodName := ⟨RX7, "words", "()I"⟩
abbrev cX7_numbers : ByteArray := prog_1_method_20_code
def yX7_numbers : MethodName := ⟨RX7, "numbers", "()I"⟩
abbrev cX7_parts : ByteArray := prog_1_method_21_code
def yX7_parts : MethodName := ⟨RX7, "parts", "(II)I"⟩
abbrev cX7_trial : ByteArray := prog_1_method_22_code
def yX7_trial : MethodName := ⟨RX7, "trial", "(IIIII)I"⟩
abbrev cX7_tried : ByteArray := prog_1_method_23_code
def yX7_tried : MethodName := ⟨RX7, "tried", "(IIIIII)I"⟩
abbrev cX7_state : ByteArray := prog_1_method_24_code
def yX7_state : MethodName := ⟨RX7, "state", "(I)I"⟩
abbrev cX7_within : ByteArray := prog_1_method_25_code
def yX7_within : MethodName := ⟨RX7, "within", "(III)Z"⟩
abbrev cX7_isKind : ByteArray := prog_1_method_26_code
def yX7_isKind : MethodName := ⟨RX7, "isKind", "(I)Z"⟩
abbrev cX7_isText : ByteArray := prog_1_method_27_code
def yX7_isText : MethodName := ⟨RX7, "isText", "(I)Z"⟩
abbrev cX7_isRow : ByteArray := prog_1_method_28_code
def yX7_isRow : MethodName := ⟨RX7, "isRow", "(I)Z"⟩
abbrev cX7_isPerson : ByteArray := prog_1_method_29_code
def yX7_isPerson : MethodName := ⟨RX7, "isPerson", "(I)Z"⟩
abbrev cX7_isRule : ByteArray := prog_1_method_30_code
def yX7_isRule : MethodName := ⟨RX7, "isRule", "(IIIII)Z"⟩
abbrev cX7_bytesOf : ByteArray := prog_1_method_31_code
def yX7_bytesOf : MethodName := ⟨RX7, "bytesOf", "(I)I"⟩
abbrev cX7_append : ByteArray := prog_1_method_32_code
def yX7_append : MethodName := ⟨RX7, "append", "(I)V"⟩
abbrev cX7_copyOfTape : ByteArray := prog_1_method_33_code
def yX7_copyOfTape : MethodName := ⟨RX7, "copyOfTape", "()[I"⟩
abbrev cX7_readTape : ByteArray := prog_1_method_34_code
def yX7_readTape : MethodName := ⟨RX7, "readTape", "()LDoorGuard$Text;"⟩
abbrev cX7_takeTape : ByteArray := prog_1_method_35_code
def yX7_takeTape : MethodName := ⟨RX7, "takeTape", "()LDoorGuard$Text;"⟩
abbrev cX7_pairOf : ByteArray := prog_1_method_36_code
def yX7_pairOf : MethodName := ⟨RX7, "pairOf", "(III)I"⟩
abbrev cX7_setKind : ByteArray := prog_1_method_37_code
def yX7_setKind : MethodName := ⟨RX7, "setKind", "(ILDoorGuard$Kind;)V"⟩
abbrev cX7_forgetKindsOver : ByteArray := prog_1_method_38_code
def yX7_forgetKindsOver : MethodName := ⟨RX7, "forgetKindsOver", "(I)V"⟩
abbrev cX7_forgetSights : ByteArray := prog_1_method_39_code
def yX7_forgetSights : MethodName := ⟨RX7, "forgetSights", "(I)V"⟩
abbrev cX7_sightAll : ByteArray := prog_1_method_40_code
def yX7_sightAll : MethodName := ⟨RX7, "sightAll", "()V"⟩
abbrev cX7_collect : ByteArray := prog_1_method_41_code
def yX7_collect : MethodName := ⟨RX7, "collect", "(LDoorGuard$Kind;LDoorGuard$Text;LDoorGuard$Findings;)V"⟩
abbrev cX7_has : ByteArray := prog_1_method_42_code
def yX7_has : MethodName := ⟨RX7, "has", "(II)Z"⟩
abbrev cX7_piecesLetOut : ByteArray := prog_1_method_43_code
def yX7_piecesLetOut : MethodName := ⟨RX7, "piecesLetOut", "(II)I"⟩
abbrev cX7_letterAt : ByteArray := prog_1_method_44_code
def yX7_letterAt : MethodName := ⟨RX7, "letterAt", "(I)LDoorGuard$Letter;"⟩
abbrev cX7_firstRule : ByteArray := prog_1_method_45_code
def yX7_firstRule : MethodName := ⟨RX7, "firstRule", "(LDoorGuard$RuleRow;I)LDoorGuard$Rule;"⟩
abbrev cX7_deal : ByteArray := prog_1_method_46_code
def yX7_deal : MethodName := ⟨RX7, "deal", "(LDoorGuard$Letter;LDoorGuard$Rule;)V"⟩
abbrev cX7_setTrial : ByteArray := prog_1_method_47_code
def yX7_setTrial : MethodName := ⟨RX7, "setTrial", "(IIIII)Z"⟩
abbrev cX7_isOtherByTrial : ByteArray := prog_1_method_48_code
def yX7_isOtherByTrial : MethodName := ⟨RX7, "isOtherByTrial", "(I)Z"⟩
abbrev cX7_lettersOfFate : ByteArray := prog_1_method_49_code
def yX7_lettersOfFate : MethodName := ⟨RX7, "lettersOfFate", "(I)I"⟩
abbrev cX7_lettersThatWereTold : ByteArray := prog_1_method_50_code
def yX7_lettersThatWereTold : MethodName := ⟨RX7, "lettersThatWereTold", "()I"⟩
abbrev cX7_leastShared : ByteArray := prog_1_method_51_code
def yX7_leastShared : MethodName := ⟨RX7, "leastShared", "(II)I"⟩
def RX8 : String := "DoorGuardModel"
def TX8 : u_T := fun k => match k with
  | 0 => ("DoorGuardModel", "day", "I", false)
  | 1 => ("DoorGuardModel", "letters", "I", false)
  | 2 => ("DoorGuardModel", "ruleMany", "I", false)
  | 3 => ("DoorGuardModel", "tape", "[I", true)
  | 4 => ("DoorGuardModel", "taped", "I", false)
  | 5 => ("DoorGuardModel", "plain", "[I", true)
  | 6 => ("DoorGuardModel", "from", "[I", true)
  | 7 => ("DoorGuardModel", "to", "[I", true)
  | 8 => ("DoorGuardModel", "plains", "I", false)
  | 9 => ("DoorGuardModel", "wordFrom", "[I", true)
  | 10 => ("DoorGuardModel", "wordTo", "[I", true)
  | 11 => ("DoorGuardModel", "wordMany", "I", false)
  | 12 => ("DoorGuardModel", "numberFrom", "[I", true)
  | 13 => ("DoorGuardModel", "numberTo", "[I", true)
  | 14 => ("DoorGuardModel", "numberMany", "I", false)
  | 15 => ("DoorGuardModel", "keptBytes", "[I", true)
  | 16 => ("DoorGuardModel", "keptFrom", "[I", true)
  | 17 => ("DoorGuardModel", "keptTo", "[I", true)
  | 18 => ("DoorGuardModel", "keptWords", "[I", true)
  | 19 => ("DoorGuardModel", "has", "[Z", true)
  | 20 => ("DoorGuardModel", "sort", "[I", true)
  | 21 => ("DoorGuardModel", "word", "[I", true)
  | 22 => ("DoorGuardModel", "wordLong", "[I", true)
  | 23 => ("DoorGuardModel", "textOf", "[I", true)
  | 24 => ("DoorGuardModel", "manyOf", "[I", true)
  | 25 => ("DoorGuardModel", "least", "[I", true)
  | 26 => ("DoorGuardModel", "daysOf", "[I", true)
  | 27 => ("DoorGuardModel", "allowed", "[Z", true)
  | 28 => ("DoorGuardModel", "letterBytes", "[I", true)
  | 29 => ("DoorGuardModel", "letterSize", "[I", true)
  | 30 => ("DoorGuardModel", "sender", "[I", true)
  | 31 => ("DoorGuardModel", "taker", "[I", true)
  | 32 => ("DoorGuardModel", "way", "[I", true)
  | 33 => ("DoorGuardModel", "came", "[I", true)
  | 34 => ("DoorGuardModel", "act", "[I", true)
  | 35 => ("DoorGuardModel", "kindOf", "[I", true)
  | 36 => ("DoorGuardModel", "fate", "[I", true)
  | 37 => ("DoorGuardModel", "foundAt", "[I", true)
  | 38 => ("DoorGuardModel", "foundMany", "[I", true)
  | 39 => ("DoorGuardModel", "foundFrom", "[I", false)
  | 40 => ("DoorGuardModel", "foundTo", "[I", false)
  | 41 => ("DoorGuardModel", "foundPart", "[I", false)
  | 42 => ("DoorGuardModel", "founds", "I", false)
  | 43 => ("DoorGuardModel", "ruleSender", "[I", true)
  | 44 => ("DoorGuardModel", "ruleWay", "[I", true)
  | 45 => ("DoorGuardModel", "ruleKind", "[I", true)
  | _ => ("DoorGuardModel", "ruleAct", "[I", true)
def tyX8 : Nat → FieldType := fun k => match k with
  | 0 => .int
  | 1 => .int
  | 2 => .int
  | 3 => .array .int
  | 4 => .int
  | 5 => .array .int
  | 6 => .array .int
  | 7 => .array .int
  | 8 => .int
  | 9 => .array .int
  | 10 => .array .int
  | 11 => .int
  | 12 => .array .int
  | 13 => .array .int
  | 14 => .int
  | 15 => .array .int
  | 16 => .array .int
  | 17 => .array .int
  | 18 => .array .int
  | 19 => .array .boolean
  | 20 => .array .int
  | 21 => .array .int
  | 22 => .array .int
  | 23 => .array .int
  | 24 => .array .int
  | 25 => .array .int
  | 26 => .array .int
  | 27 => .array .boolean
  | 28 => .array .int
  | 29 => .array .int
  | 30 => .array .int
  | 31 => .array .int
  | 32 => .array .int
  | 33 => .array .int
  | 34 => .array .int
  | 35 => .array .int
  | 36 => .array .int
  | 37 => .array .int
  | 38 => .array .int
  | 39 => .array .int
  | 40 => .array .int
  | 41 => .array .int
  | 42 => .int
  | 43 => .array .int
  | 44 => .array .int
  | 45 => .array .int
  | _ => .array .int
theorem nmX8 : ∀ a, a < 47 → ∀ b, b < 47 → a ≠ b → (TX8 a).2.1 ≠ (TX8 b).2.1 := by decide +kernel
theorem tyX8_ok : ∀ k, k < 47 → parseFieldDescriptor (TX8 k).2.2.1 = some (tyX8 k) := by decide +kernel
abbrev cX8_init : ByteArray := prog_10_method_1_code
def yX8_init : MethodName := ⟨RX8, "<init>", "()V"⟩
abbrev cX8_in : ByteArray := prog_10_method_2_code
def yX8_in : MethodName := ⟨RX8, "in", "(III)Z"⟩
abbrev cX8_days : ByteArray := prog_10_method_3_code
def yX8_days : MethodName := ⟨RX8, "days", "(I)I"⟩
abbrev cX8_byteOf : ByteArray := prog_10_method_4_code
def yX8_byteOf : MethodName := ⟨RX8, "byteOf", "(IIIIII)I"⟩
abbrev cX8_feed : ByteArray := prog_10_method_5_code
def yX8_feed : MethodName := ⟨RX8, "feed", "(IIIII)I"⟩
abbrev cX8_end : ByteArray := prog_10_method_6_code
def yX8_end : MethodName := ⟨RX8, "end", "(I)Z"⟩
abbrev cX8_hex : ByteArray := prog_10_method_7_code
def yX8_hex : MethodName := ⟨RX8, "hex", "(I)I"⟩
abbrev cX8_pass : ByteArray := prog_10_method_8_code
def yX8_pass : MethodName := ⟨RX8, "pass", "()V"⟩
abbrev cX8_small : ByteArray := prog_10_method_9_code
def yX8_small : MethodName := ⟨RX8, "small", "(I)I"⟩
abbrev cX8_isDigit : ByteArray := prog_10_method_10_code
def yX8_isDigit : MethodName := ⟨RX8, "isDigit", "(I)Z"⟩
abbrev cX8_isSign : ByteArray := prog_10_method_11_code
def yX8_isSign : MethodName := ⟨RX8, "isSign", "(I)Z"⟩
abbrev cX8_read : ByteArray := prog_10_method_12_code
def yX8_read : MethodName := ⟨RX8, "read", "([III)V"⟩
abbrev cX8_isDigitAt : ByteArray := prog_10_method_13_code
def yX8_isDigitAt : MethodName := ⟨RX8, "isDigitAt", "(I)Z"⟩
abbrev cX8_readNumbers : ByteArray := prog_10_method_14_code
def yX8_readNumbers : MethodName := ⟨RX8, "readNumbers", "()V"⟩
abbrev cX8_isNumber : ByteArray := prog_10_method_15_code
def yX8_isNumber : MethodName := ⟨RX8, "isNumber", "(II)Z"⟩
abbrev cX8_keep : ByteArray := prog_10_method_16_code
def yX8_keep : MethodName := ⟨RX8, "keep", "(I)I"⟩
abbrev cX8_isPart : ByteArray := prog_10_method_17_code
def yX8_isPart : MethodName := ⟨RX8, "isPart", "(III)Z"⟩
abbrev cX8_isWord : ByteArray := prog_10_method_18_code
def yX8_isWord : MethodName := ⟨RX8, "isWord", "(III)Z"⟩
abbrev cX8_stands : ByteArray := prog_10_method_19_code
def yX8_stands : MethodName := ⟨RX8, "stands", "(IIII)Z"⟩
abbrev cX8_addParts : ByteArray := prog_10_method_20_code
def yX8_addParts : MethodName := ⟨RX8, "addParts", "(II)V"⟩
abbrev cX8_partsHad : ByteArray := prog_10_method_21_code
def yX8_partsHad : MethodName := ⟨RX8, "partsHad", "(I)I"⟩
abbrev cX8_noParts : ByteArray := prog_10_method_22_code
def yX8_noParts : MethodName := ⟨RX8, "noParts", "()V"⟩
abbrev cX8_mark : ByteArray := prog_10_method_23_code
def yX8_mark : MethodName := ⟨RX8, "mark", "(I)Z"⟩
abbrev cX8_near : ByteArray := prog_10_method_24_code
def yX8_near : MethodName := ⟨RX8, "near", "(III)Z"⟩
abbrev cX8_count : ByteArray := prog_10_method_25_code
def yX8_count : MethodName := ⟨RX8, "count", "(II)Z"⟩
abbrev cX8_pieces : ByteArray := prog_10_method_26_code
def yX8_pieces : MethodName := ⟨RX8, "pieces", "(IIIII)Z"⟩
abbrev cX8_allow : ByteArray := prog_10_method_27_code
def yX8_allow : MethodName := ⟨RX8, "allow", "(IIIZ)Z"⟩
abbrev cX8_readLetter : ByteArray := prog_10_method_28_code
def yX8_readLetter : MethodName := ⟨RX8, "readLetter", "(I)V"⟩
abbrev cX8_isMark : ByteArray := prog_10_method_29_code
def yX8_isMark : MethodName := ⟨RX8, "isMark", "(II)Z"⟩
abbrev cX8_longer : ByteArray := prog_10_method_30_code
def yX8_longer : MethodName := ⟨RX8, "longer", "([I)[I"⟩
abbrev cX8_found : ByteArray := prog_10_method_31_code
def yX8_found : MethodName := ⟨RX8, "found", "(IIIZ)V"⟩
abbrev cX8_find : ByteArray := prog_10_method_32_code
def yX8_find : MethodName := ⟨RX8, "find", "(IIZ)I"⟩
abbrev cX8_findParts : ByteArray := prog_10_method_33_code
def yX8_findParts : MethodName := ⟨RX8, "findParts", "(IZ)I"⟩
abbrev cX8_isEnough : ByteArray := prog_10_method_34_code
def yX8_isEnough : MethodName := ⟨RX8, "isEnough", "(II)Z"⟩
abbrev cX8_isHad : ByteArray := prog_10_method_35_code
def yX8_isHad : MethodName := ⟨RX8, "isHad", "(II)Z"⟩
abbrev cX8_isRule : ByteArray := prog_10_method_36_code
def yX8_isRule : MethodName := ⟨RX8, "isRule", "(IIIII)Z"⟩
abbrev cX8_insert : ByteArray := prog_10_method_37_code
def yX8_insert : MethodName := ⟨RX8, "insert", "(IIIII)V"⟩
abbrev cX8_remove : ByteArray := prog_10_method_38_code
def yX8_remove : MethodName := ⟨RX8, "remove", "(I)V"⟩
abbrev cX8_rule : ByteArray := prog_10_method_39_code
def yX8_rule : MethodName := ⟨RX8, "rule", "(IIIII)I"⟩
abbrev cX8_drop : ByteArray := prog_10_method_40_code
def yX8_drop : MethodName := ⟨RX8, "drop", "(I)Z"⟩
abbrev cX8_ruleFor : ByteArray := prog_10_method_41_code
def yX8_ruleFor : MethodName := ⟨RX8, "ruleFor", "(I)I"⟩
abbrev cX8_send : ByteArray := prog_10_method_42_code
def yX8_send : MethodName := ⟨RX8, "send", "(III)I"⟩
abbrev cX8_isLetter : ByteArray := prog_10_method_43_code
def yX8_isLetter : MethodName := ⟨RX8, "isLetter", "(I)Z"⟩
abbrev cX8_answer : ByteArray := prog_10_method_44_code
def yX8_answer : MethodName := ⟨RX8, "answer", "(IZ)Z"⟩
abbrev cX8_told : ByteArray := prog_10_method_45_code
def yX8_told : MethodName := ⟨RX8, "told", "(II)I"⟩
abbrev cX8_at : ByteArray := prog_10_method_46_code
def yX8_at : MethodName := ⟨RX8, "at", "(IIZ)I"⟩
abbrev cX8_found_ : ByteArray := prog_10_method_47_code
def yX8_found_ : MethodName := ⟨RX8, "found", "(III)I"⟩
abbrev cX8_words : ByteArray := prog_10_method_48_code
def yX8_words : MethodName := ⟨RX8, "words", "()I"⟩
abbrev cX8_numbers : ByteArray := prog_10_method_49_code
def yX8_numbers : MethodName := ⟨RX8, "numbers", "()I"⟩
abbrev cX8_parts : ByteArray := prog_10_method_50_code
def yX8_parts : MethodName := ⟨RX8, "parts", "(II)I"⟩
abbrev cX8_isOther : ByteArray := prog_10_method_51_code
def yX8_isOther : MethodName := ⟨RX8, "isOther", "(I)Z"⟩
abbrev cX8_triedAt : ByteArray := prog_10_method_52_code
def yX8_triedAt : MethodName := ⟨RX8, "triedAt", "(I)I"⟩
abbrev cX8_trial : ByteArray := prog_10_method_53_code
def yX8_trial : MethodName := ⟨RX8, "trial", "(IIIII)I"⟩
abbrev cX8_tried : ByteArray := prog_10_method_54_code
def yX8_tried : MethodName := ⟨RX8, "tried", "(IIIIII)I"⟩
abbrev cX8_quarrel : ByteArray := prog_10_method_55_code
def yX8_quarrel : MethodName := ⟨RX8, "quarrel", "(II)I"⟩
abbrev cX8_isFor : ByteArray := prog_10_method_56_code
def yX8_isFor : MethodName := ⟨RX8, "isFor", "(III)Z"⟩
abbrev cX8_state : ByteArray := prog_10_method_57_code
def yX8_state : MethodName := ⟨RX8, "state", "(I)I"⟩
def RJx8e188 : String := "java/lang/Cloneable"
def TJx8e188 : u_T := fun k => match k with
  | _ => ("", "", "", false)
def tyJx8e188 : Nat → FieldType := fun k => match k with
  | _ => .int
theorem nmJx8e188 : ∀ a, a < 0 → ∀ b, b < 0 → a ≠ b → (TJx8e188 a).2.1 ≠ (TJx8e188 b).2.1 := by decide +kernel
theorem tyJx8e188_ok : ∀ k, k < 0 → parseFieldDescriptor (TJx8e188 k).2.2.1 = some (tyJx8e188 k) := by decide +kernel
def RJ13 : String := "java/lang/Long"
def TJ13 : u_T := fun k => match k with
  | _ => ("", "", "", false)
def tyJ13 : Nat → FieldType := fun k => match k with
  | _ => .int
theorem nmJ13 : ∀ a, a < 0 → ∀ b, b < 0 → a ≠ b → (TJ13 a).2.1 ≠ (TJ13 b).2.1 := by decide +kernel
theorem tyJ13_ok : ∀ k, k < 0 → parseFieldDescriptor (TJ13 k).2.2.1 = some (tyJ13 k) := by decide +kernel
abbrev cJ13_bitCount_95d88 : ByteArray := prog_12_method_50_code
def yJ13_bitCount_95d88 : MethodName := ⟨RJ13, "bitCount", "(J)I"⟩
def RJ9 : String := "java/lang/Math"
def TJ9 : u_T := fun k => match k with
  | _ => ("", "", "", false)
def tyJ9 : Nat → FieldType := fun k => match k with
  | _ => .int
theorem nmJ9 : ∀ a, a < 0 → ∀ b, b < 0 → a ≠ b → (TJ9 a).2.1 ≠ (TJ9 b).2.1 := by decide +kernel
theorem tyJ9_ok : ∀ k, k < 0 → parseFieldDescriptor (TJ9 k).2.2.1 = some (tyJ9 k) := by decide +kernel
abbrev cJ9_max_7cf53 : ByteArray := prog_13_method_65_code
def yJ9_max_7cf53 : MethodName := ⟨RJ9, "max", "(II)I"⟩
abbrev cJ9_min_7cf53 : ByteArray := prog_13_method_69_code
def yJ9_min_7cf53 : MethodName := ⟨RJ9, "min", "(II)I"⟩
def RJ10 : String := "java/lang/System"
def TJ10 : u_T := fun k => match k with
  | _ => ("", "", "", false)
def tyJ10 : Nat → FieldType := fun k => match k with
  | _ => .int
theorem nmJ10 : ∀ a, a < 0 → ∀ b, b < 0 → a ≠ b → (TJ10 a).2.1 ≠ (TJ10 b).2.1 := by decide +kernel
theorem tyJ10_ok : ∀ k, k < 0 → parseFieldDescriptor (TJ10 k).2.2.1 = some (tyJ10 k) := by decide +kernel
def RL : String := "DoorGuardLaw"
abbrev cL_law : ByteArray := code
def yL_law : MethodName := ⟨RL, "law", "([I)Z"⟩
abbrev vwCl : List vw_C := [(RX0, TX0, 5), (RX1, TX1, 6), (RX2, TX2, 13), (RX3, TX3, 3), (RX4, TX4, 4), (RX5, TX5, 2), (RX6, TX6, 8), (RX7, TX7, 13), (RX8, TX8, 47)]
/-! memberships -/
def gw : List Cond := lw_tbl.filter goodWord
theorem gw_good : GoodIn gw gw := fun w h => ⟨h, good_of_word (List.mem_filter.mp h).2⟩
def isNw : Cond → Bool
  | .fieldLinkNest _ _ _ _ _ _ => true
  | .methodLinkNest _ _ _ _ => true
  | .arrayOver (.object _) => true
  | .castable _ _ => true
  | _ => false
def nwl : List Cond := lw_tbl.filter isNw
set_option maxRecDepth 100000 in
theorem inX0 : ∀ w ∈ u_ws RX0 TX0 5, w ∈ gw := by decide +kernel
set_option maxRecDepth 100000 in
theorem inX1 : ∀ w ∈ u_ws RX1 TX1 6, w ∈ gw := by decide +kernel
set_option maxRecDepth 100000 in
theorem inX2 : ∀ w ∈ u_ws RX2 TX2 13, w ∈ gw := by decide +kernel
set_option maxRecDepth 100000 in
theorem inX3 : ∀ w ∈ u_ws RX3 TX3 3, w ∈ gw := by decide +kernel
set_option maxRecDepth 100000 in
theorem inX4 : ∀ w ∈ u_ws RX4 TX4 4, w ∈ gw := by decide +kernel
set_option maxRecDepth 100000 in
theorem inX5 : ∀ w ∈ u_ws RX5 TX5 2, w ∈ gw := by decide +kernel
set_option maxRecDepth 100000 in
theorem inX6 : ∀ w ∈ u_ws RX6 TX6 8, w ∈ gw := by decide +kernel
set_option maxRecDepth 100000 in
theorem inX7 : ∀ w ∈ u_ws RX7 TX7 13, w ∈ gw := by decide +kernel
set_option maxRecDepth 100000 in
theorem inX8 : ∀ w ∈ u_ws RX8 TX8 47, w ∈ gw := by decide +kernel
