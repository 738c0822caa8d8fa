-- ===== PART A: goes FIRST, ahead of the names: the tables' words, and 'selects' of the private methods out of them =====
/-- a private method of a class that the tables say can be made, by its rows of tables_1 -/
def lw_okq (q : MethodName × Nat) : Prop := (q.1.cls ≠ "java/lang/invoke/MethodHandle" ∧ q.1.cls ≠ "java/lang/invoke/VarHandle") ∧ Cond.instantiable q.1.cls q.2 ∈ tables_1 ∧ Cond.privateMethod q.1 ∈ tables_1 ∧ Cond.instanceMethod q.1 ∈ tables_1
theorem lw_p0 : lw_okq (⟨"BasketEnvoys$World", "letThingsSayThemselves", "()V"⟩, 9) := ⟨⟨by decide +kernel, by decide +kernel⟩, List.mem_of_getElem? (i := 31) (by decide +kernel), List.mem_of_getElem? (i := 269) (by decide +kernel), List.mem_of_getElem? (i := 270) (by decide +kernel)⟩
theorem lw_p1 : lw_okq (⟨"BasketEnvoys$History", "townAt", "(I)LBasketEnvoys$Town;"⟩, 3) := ⟨⟨by decide +kernel, by decide +kernel⟩, List.mem_of_getElem? (i := 313) (by decide +kernel), List.mem_of_getElem? (i := 551) (by decide +kernel), List.mem_of_getElem? (i := 552) (by decide +kernel)⟩
theorem lw_p2 : lw_okq (⟨"BasketEnvoys$Course", "sendTo", "(LBasketEnvoys$Town;IIZ)V"⟩, 2) := ⟨⟨by decide +kernel, by decide +kernel⟩, List.mem_of_getElem? (i := 405) (by decide +kernel), List.mem_of_getElem? (i := 573) (by decide +kernel), List.mem_of_getElem? (i := 574) (by decide +kernel)⟩
theorem lw_p3 : lw_okq (⟨"BasketEnvoys$Course", "goHome", "(LBasketEnvoys$Town;IZ)V"⟩, 2) := ⟨⟨by decide +kernel, by decide +kernel⟩, List.mem_of_getElem? (i := 405) (by decide +kernel), List.mem_of_getElem? (i := 582) (by decide +kernel), List.mem_of_getElem? (i := 583) (by decide +kernel)⟩
theorem lw_p4 : lw_okq (⟨"BasketEnvoys$Course", "prick", "(I)V"⟩, 2) := ⟨⟨by decide +kernel, by decide +kernel⟩, List.mem_of_getElem? (i := 405) (by decide +kernel), List.mem_of_getElem? (i := 592) (by decide +kernel), List.mem_of_getElem? (i := 593) (by decide +kernel)⟩
theorem lw_p5 : lw_okq (⟨"BasketEnvoys$Course", "gather", "(LBasketEnvoys$Town;II)V"⟩, 2) := ⟨⟨by decide +kernel, by decide +kernel⟩, List.mem_of_getElem? (i := 405) (by decide +kernel), List.mem_of_getElem? (i := 609) (by decide +kernel), List.mem_of_getElem? (i := 610) (by decide +kernel)⟩
theorem lw_p6 : lw_okq (⟨"BasketEnvoys$Law", "run", "(II[I)I"⟩, 8) := ⟨⟨by decide +kernel, by decide +kernel⟩, List.mem_of_getElem? (i := 236) (by decide +kernel), List.mem_of_getElem? (i := 627) (by decide +kernel), List.mem_of_getElem? (i := 628) (by decide +kernel)⟩
theorem lw_p7 : lw_okq (⟨"BasketEnvoys$Course", "falls", "(LBasketEnvoys$Town;IZ)Z"⟩, 2) := ⟨⟨by decide +kernel, by decide +kernel⟩, List.mem_of_getElem? (i := 405) (by decide +kernel), List.mem_of_getElem? (i := 637) (by decide +kernel), List.mem_of_getElem? (i := 638) (by decide +kernel)⟩
theorem lw_p8 : lw_okq (⟨"BasketEnvoys$Course", "follow", "(LBasketEnvoys$Town;IZ)V"⟩, 2) := ⟨⟨by decide +kernel, by decide +kernel⟩, List.mem_of_getElem? (i := 405) (by decide +kernel), List.mem_of_getElem? (i := 662) (by decide +kernel), List.mem_of_getElem? (i := 663) (by decide +kernel)⟩
theorem lw_p9 : lw_okq (⟨"BasketEnvoys$Course", "addTrust", "(LBasketEnvoys$Town;II)V"⟩, 2) := ⟨⟨by decide +kernel, by decide +kernel⟩, List.mem_of_getElem? (i := 405) (by decide +kernel), List.mem_of_getElem? (i := 666) (by decide +kernel), List.mem_of_getElem? (i := 667) (by decide +kernel)⟩
theorem lw_p10 : lw_okq (⟨"BasketEnvoys$Course", "takeTurn", "(LBasketEnvoys$Town;IZ)V"⟩, 2) := ⟨⟨by decide +kernel, by decide +kernel⟩, List.mem_of_getElem? (i := 405) (by decide +kernel), List.mem_of_getElem? (i := 670) (by decide +kernel), List.mem_of_getElem? (i := 671) (by decide +kernel)⟩
theorem lw_p11 : lw_okq (⟨"BasketEnvoys$Course", "cryOut", "(LBasketEnvoys$Town;IZ)V"⟩, 2) := ⟨⟨by decide +kernel, by decide +kernel⟩, List.mem_of_getElem? (i := 405) (by decide +kernel), List.mem_of_getElem? (i := 674) (by decide +kernel), List.mem_of_getElem? (i := 675) (by decide +kernel)⟩
theorem lw_p12 : lw_okq (⟨"BasketEnvoys$Course", "showThing", "(LBasketEnvoys$Town;IZ)V"⟩, 2) := ⟨⟨by decide +kernel, by decide +kernel⟩, List.mem_of_getElem? (i := 405) (by decide +kernel), List.mem_of_getElem? (i := 678) (by decide +kernel), List.mem_of_getElem? (i := 679) (by decide +kernel)⟩
theorem lw_p13 : lw_okq (⟨"BasketEnvoys$Course", "readOn", "(LBasketEnvoys$Town;IIZ)V"⟩, 2) := ⟨⟨by decide +kernel, by decide +kernel⟩, List.mem_of_getElem? (i := 405) (by decide +kernel), List.mem_of_getElem? (i := 682) (by decide +kernel), List.mem_of_getElem? (i := 683) (by decide +kernel)⟩
theorem lw_p14 : lw_okq (⟨"BasketEnvoys$Tokens", "add", "(II)V"⟩, 13) := ⟨⟨by decide +kernel, by decide +kernel⟩, List.mem_of_getElem? (i := 339) (by decide +kernel), List.mem_of_getElem? (i := 813) (by decide +kernel), List.mem_of_getElem? (i := 814) (by decide +kernel)⟩
theorem lw_p15 : lw_okq (⟨"BasketEnvoys$Tokens", "settle", "(ILjava/lang/String;)V"⟩, 13) := ⟨⟨by decide +kernel, by decide +kernel⟩, List.mem_of_getElem? (i := 339) (by decide +kernel), List.mem_of_getElem? (i := 817) (by decide +kernel), List.mem_of_getElem? (i := 818) (by decide +kernel)⟩
def lw_privs_1 : List (MethodName × Nat) := [(⟨"BasketEnvoys$World", "letThingsSayThemselves", "()V"⟩, 9), (⟨"BasketEnvoys$History", "townAt", "(I)LBasketEnvoys$Town;"⟩, 3), (⟨"BasketEnvoys$Course", "sendTo", "(LBasketEnvoys$Town;IIZ)V"⟩, 2), (⟨"BasketEnvoys$Course", "goHome", "(LBasketEnvoys$Town;IZ)V"⟩, 2), (⟨"BasketEnvoys$Course", "prick", "(I)V"⟩, 2), (⟨"BasketEnvoys$Course", "gather", "(LBasketEnvoys$Town;II)V"⟩, 2), (⟨"BasketEnvoys$Law", "run", "(II[I)I"⟩, 8), (⟨"BasketEnvoys$Course", "falls", "(LBasketEnvoys$Town;IZ)Z"⟩, 2), (⟨"BasketEnvoys$Course", "follow", "(LBasketEnvoys$Town;IZ)V"⟩, 2), (⟨"BasketEnvoys$Course", "addTrust", "(LBasketEnvoys$Town;II)V"⟩, 2), (⟨"BasketEnvoys$Course", "takeTurn", "(LBasketEnvoys$Town;IZ)V"⟩, 2), (⟨"BasketEnvoys$Course", "cryOut", "(LBasketEnvoys$Town;IZ)V"⟩, 2), (⟨"BasketEnvoys$Course", "showThing", "(LBasketEnvoys$Town;IZ)V"⟩, 2), (⟨"BasketEnvoys$Course", "readOn", "(LBasketEnvoys$Town;IIZ)V"⟩, 2), (⟨"BasketEnvoys$Tokens", "add", "(II)V"⟩, 13), (⟨"BasketEnvoys$Tokens", "settle", "(ILjava/lang/String;)V"⟩, 13)]
theorem lw_r1 : ∀ q ∈ lw_privs_1, lw_okq q := List.forall_mem_cons.mpr ⟨lw_p0, List.forall_mem_cons.mpr ⟨lw_p1, List.forall_mem_cons.mpr ⟨lw_p2, List.forall_mem_cons.mpr ⟨lw_p3, List.forall_mem_cons.mpr ⟨lw_p4, List.forall_mem_cons.mpr ⟨lw_p5, List.forall_mem_cons.mpr ⟨lw_p6, List.forall_mem_cons.mpr ⟨lw_p7, List.forall_mem_cons.mpr ⟨lw_p8, List.forall_mem_cons.mpr ⟨lw_p9, List.forall_mem_cons.mpr ⟨lw_p10, List.forall_mem_cons.mpr ⟨lw_p11, List.forall_mem_cons.mpr ⟨lw_p12, List.forall_mem_cons.mpr ⟨lw_p13, List.forall_mem_cons.mpr ⟨lw_p14, List.forall_mem_cons.mpr ⟨lw_p15, fun _ h => absurd h List.not_mem_nil⟩⟩⟩⟩⟩⟩⟩⟩⟩⟩⟩⟩⟩⟩⟩⟩
theorem lw_p16 : lw_okq (⟨"BasketEnvoys$Tokens", "numberOfWord", "(Ljava/lang/String;II)I"⟩, 13) := ⟨⟨by decide +kernel, by decide +kernel⟩, List.mem_of_getElem? (i := 339) (by decide +kernel), List.mem_of_getElem? (i := 821) (by decide +kernel), List.mem_of_getElem? (i := 822) (by decide +kernel)⟩
theorem lw_p17 : lw_okq (⟨"BasketEnvoys$Tokens", "isAt", "(Ljava/lang/String;III)Z"⟩, 13) := ⟨⟨by decide +kernel, by decide +kernel⟩, List.mem_of_getElem? (i := 339) (by decide +kernel), List.mem_of_getElem? (i := 846) (by decide +kernel), List.mem_of_getElem? (i := 847) (by decide +kernel)⟩
theorem lw_p18 : lw_okq (⟨"BasketEnvoys$Tokens", "signAt", "(I)C"⟩, 13) := ⟨⟨by decide +kernel, by decide +kernel⟩, List.mem_of_getElem? (i := 339) (by decide +kernel), List.mem_of_getElem? (i := 851) (by decide +kernel), List.mem_of_getElem? (i := 852) (by decide +kernel)⟩
theorem lw_p19 : lw_okq (⟨"BasketEnvoys$Tokens", "readNumber", "(II)I"⟩, 13) := ⟨⟨by decide +kernel, by decide +kernel⟩, List.mem_of_getElem? (i := 339) (by decide +kernel), List.mem_of_getElem? (i := 855) (by decide +kernel), List.mem_of_getElem? (i := 856) (by decide +kernel)⟩
theorem lw_p20 : lw_okq (⟨"BasketEnvoys$Reader", "readLawLine", "(I)V"⟩, 3) := ⟨⟨by decide +kernel, by decide +kernel⟩, List.mem_of_getElem? (i := 333) (by decide +kernel), List.mem_of_getElem? (i := 871) (by decide +kernel), List.mem_of_getElem? (i := 872) (by decide +kernel)⟩
theorem lw_p21 : lw_okq (⟨"BasketEnvoys$Reader", "readSum", "()V"⟩, 3) := ⟨⟨by decide +kernel, by decide +kernel⟩, List.mem_of_getElem? (i := 333) (by decide +kernel), List.mem_of_getElem? (i := 889) (by decide +kernel), List.mem_of_getElem? (i := 890) (by decide +kernel)⟩
theorem lw_p22 : lw_okq (⟨"BasketEnvoys$Reader", "readUnit", "()V"⟩, 3) := ⟨⟨by decide +kernel, by decide +kernel⟩, List.mem_of_getElem? (i := 333) (by decide +kernel), List.mem_of_getElem? (i := 893) (by decide +kernel), List.mem_of_getElem? (i := 894) (by decide +kernel)⟩
theorem lw_p23 : lw_okq (⟨"BasketEnvoys$Reader", "readAny", "(I)V"⟩, 3) := ⟨⟨by decide +kernel, by decide +kernel⟩, List.mem_of_getElem? (i := 333) (by decide +kernel), List.mem_of_getElem? (i := 927) (by decide +kernel), List.mem_of_getElem? (i := 928) (by decide +kernel)⟩
theorem lw_p24 : lw_okq (⟨"BasketEnvoys$Reader", "readCondition", "(I)V"⟩, 3) := ⟨⟨by decide +kernel, by decide +kernel⟩, List.mem_of_getElem? (i := 333) (by decide +kernel), List.mem_of_getElem? (i := 931) (by decide +kernel), List.mem_of_getElem? (i := 932) (by decide +kernel)⟩
theorem lw_p25 : lw_okq (⟨"BasketEnvoys$Reader", "comparisonHere", "()I"⟩, 3) := ⟨⟨by decide +kernel, by decide +kernel⟩, List.mem_of_getElem? (i := 333) (by decide +kernel), List.mem_of_getElem? (i := 940) (by decide +kernel), List.mem_of_getElem? (i := 941) (by decide +kernel)⟩
theorem lw_p26 : lw_okq (⟨"BasketEnvoys$Reader", "readRow", "(IILBasketEnvoys$Town;)V"⟩, 3) := ⟨⟨by decide +kernel, by decide +kernel⟩, List.mem_of_getElem? (i := 333) (by decide +kernel), List.mem_of_getElem? (i := 956) (by decide +kernel), List.mem_of_getElem? (i := 957) (by decide +kernel)⟩
theorem lw_p27 : lw_okq (⟨"BasketEnvoys$Reader", "readTongue", "(ILBasketEnvoys$Town;)V"⟩, 3) := ⟨⟨by decide +kernel, by decide +kernel⟩, List.mem_of_getElem? (i := 333) (by decide +kernel), List.mem_of_getElem? (i := 960) (by decide +kernel), List.mem_of_getElem? (i := 961) (by decide +kernel)⟩
theorem lw_p28 : lw_okq (⟨"BasketEnvoys$Reader", "readCourt", "(ILBasketEnvoys$Town;)V"⟩, 3) := ⟨⟨by decide +kernel, by decide +kernel⟩, List.mem_of_getElem? (i := 333) (by decide +kernel), List.mem_of_getElem? (i := 970) (by decide +kernel), List.mem_of_getElem? (i := 971) (by decide +kernel)⟩
theorem lw_p29 : lw_okq (⟨"BasketEnvoys$Reader", "readWants", "(ILBasketEnvoys$Town;)V"⟩, 3) := ⟨⟨by decide +kernel, by decide +kernel⟩, List.mem_of_getElem? (i := 333) (by decide +kernel), List.mem_of_getElem? (i := 974) (by decide +kernel), List.mem_of_getElem? (i := 975) (by decide +kernel)⟩
theorem lw_p30 : lw_okq (⟨"BasketEnvoys$World", "tellTongues", "([II)V"⟩, 9) := ⟨⟨by decide +kernel, by decide +kernel⟩, List.mem_of_getElem? (i := 31) (by decide +kernel), List.mem_of_getElem? (i := 987) (by decide +kernel), List.mem_of_getElem? (i := 988) (by decide +kernel)⟩
theorem lw_p31 : lw_okq (⟨"BasketEnvoys$World", "tellCourt", "([II)V"⟩, 9) := ⟨⟨by decide +kernel, by decide +kernel⟩, List.mem_of_getElem? (i := 31) (by decide +kernel), List.mem_of_getElem? (i := 992) (by decide +kernel), List.mem_of_getElem? (i := 993) (by decide +kernel)⟩
def lw_privs_2 : List (MethodName × Nat) := [(⟨"BasketEnvoys$Tokens", "numberOfWord", "(Ljava/lang/String;II)I"⟩, 13), (⟨"BasketEnvoys$Tokens", "isAt", "(Ljava/lang/String;III)Z"⟩, 13), (⟨"BasketEnvoys$Tokens", "signAt", "(I)C"⟩, 13), (⟨"BasketEnvoys$Tokens", "readNumber", "(II)I"⟩, 13), (⟨"BasketEnvoys$Reader", "readLawLine", "(I)V"⟩, 3), (⟨"BasketEnvoys$Reader", "readSum", "()V"⟩, 3), (⟨"BasketEnvoys$Reader", "readUnit", "()V"⟩, 3), (⟨"BasketEnvoys$Reader", "readAny", "(I)V"⟩, 3), (⟨"BasketEnvoys$Reader", "readCondition", "(I)V"⟩, 3), (⟨"BasketEnvoys$Reader", "comparisonHere", "()I"⟩, 3), (⟨"BasketEnvoys$Reader", "readRow", "(IILBasketEnvoys$Town;)V"⟩, 3), (⟨"BasketEnvoys$Reader", "readTongue", "(ILBasketEnvoys$Town;)V"⟩, 3), (⟨"BasketEnvoys$Reader", "readCourt", "(ILBasketEnvoys$Town;)V"⟩, 3), (⟨"BasketEnvoys$Reader", "readWants", "(ILBasketEnvoys$Town;)V"⟩, 3), (⟨"BasketEnvoys$World", "tellTongues", "([II)V"⟩, 9), (⟨"BasketEnvoys$World", "tellCourt", "([II)V"⟩, 9)]
theorem lw_r2 : ∀ q ∈ lw_privs_2, lw_okq q := List.forall_mem_cons.mpr ⟨lw_p16, List.forall_mem_cons.mpr ⟨lw_p17, List.forall_mem_cons.mpr ⟨lw_p18, List.forall_mem_cons.mpr ⟨lw_p19, List.forall_mem_cons.mpr ⟨lw_p20, List.forall_mem_cons.mpr ⟨lw_p21, List.forall_mem_cons.mpr ⟨lw_p22, List.forall_mem_cons.mpr ⟨lw_p23, List.forall_mem_cons.mpr ⟨lw_p24, List.forall_mem_cons.mpr ⟨lw_p25, List.forall_mem_cons.mpr ⟨lw_p26, List.forall_mem_cons.mpr ⟨lw_p27, List.forall_mem_cons.mpr ⟨lw_p28, List.forall_mem_cons.mpr ⟨lw_p29, List.forall_mem_cons.mpr ⟨lw_p30, List.forall_mem_cons.mpr ⟨lw_p31, fun _ h => absurd h List.not_mem_nil⟩⟩⟩⟩⟩⟩⟩⟩⟩⟩⟩⟩⟩⟩⟩⟩
theorem lw_p32 : lw_okq (⟨"BasketEnvoys$World", "tellWants", "([II)V"⟩, 9) := ⟨⟨by decide +kernel, by decide +kernel⟩, List.mem_of_getElem? (i := 31) (by decide +kernel), List.mem_of_getElem? (i := 996) (by decide +kernel), List.mem_of_getElem? (i := 997) (by decide +kernel)⟩
theorem lw_p33 : lw_okq (⟨"BasketEnvoys", "couldShow", "(I)Z"⟩, 8) := ⟨⟨by decide +kernel, by decide +kernel⟩, List.mem_of_getElem? (i := 23) (by decide +kernel), List.mem_of_getElem? (i := 1014) (by decide +kernel), List.mem_of_getElem? (i := 1015) (by decide +kernel)⟩
theorem lw_p34 : lw_okq (⟨"BasketEnvoys$Riddles", "thingsThatSay", "(II)I"⟩, 11) := ⟨⟨by decide +kernel, by decide +kernel⟩, List.mem_of_getElem? (i := 418) (by decide +kernel), List.mem_of_getElem? (i := 1096) (by decide +kernel), List.mem_of_getElem? (i := 1097) (by decide +kernel)⟩
theorem lw_p35 : lw_okq (⟨"BasketEnvoys$Riddles", "takeLeast", "(I)I"⟩, 11) := ⟨⟨by decide +kernel, by decide +kernel⟩, List.mem_of_getElem? (i := 418) (by decide +kernel), List.mem_of_getElem? (i := 1130) (by decide +kernel), List.mem_of_getElem? (i := 1131) (by decide +kernel)⟩
theorem lw_p36 : lw_okq (⟨"BasketEnvoys$Riddles", "rests", "(I)Z"⟩, 11) := ⟨⟨by decide +kernel, by decide +kernel⟩, List.mem_of_getElem? (i := 418) (by decide +kernel), List.mem_of_getElem? (i := 1155) (by decide +kernel), List.mem_of_getElem? (i := 1156) (by decide +kernel)⟩
theorem lw_p37 : lw_okq (⟨"BasketEnvoys$Riddles", "whatRowGets", "(I)I"⟩, 11) := ⟨⟨by decide +kernel, by decide +kernel⟩, List.mem_of_getElem? (i := 418) (by decide +kernel), List.mem_of_getElem? (i := 1167) (by decide +kernel), List.mem_of_getElem? (i := 1168) (by decide +kernel)⟩
theorem lw_p38 : lw_okq (⟨"BasketEnvoys$Riddles", "planSending", "(I)V"⟩, 11) := ⟨⟨by decide +kernel, by decide +kernel⟩, List.mem_of_getElem? (i := 418) (by decide +kernel), List.mem_of_getElem? (i := 1202) (by decide +kernel), List.mem_of_getElem? (i := 1203) (by decide +kernel)⟩
theorem lw_p39 : lw_okq (⟨"BasketEnvoys$Riddles", "worthIfSent", "(III)I"⟩, 11) := ⟨⟨by decide +kernel, by decide +kernel⟩, List.mem_of_getElem? (i := 418) (by decide +kernel), List.mem_of_getElem? (i := 1212) (by decide +kernel), List.mem_of_getElem? (i := 1213) (by decide +kernel)⟩
theorem lw_p40 : lw_okq (⟨"BasketEnvoys$Riddles", "holds", "(I)Z"⟩, 11) := ⟨⟨by decide +kernel, by decide +kernel⟩, List.mem_of_getElem? (i := 418) (by decide +kernel), List.mem_of_getElem? (i := 1251) (by decide +kernel), List.mem_of_getElem? (i := 1252) (by decide +kernel)⟩
theorem lw_p41 : lw_okq (⟨"BasketEnvoys$Riddles", "paintAll", "()V"⟩, 11) := ⟨⟨by decide +kernel, by decide +kernel⟩, List.mem_of_getElem? (i := 418) (by decide +kernel), List.mem_of_getElem? (i := 1287) (by decide +kernel), List.mem_of_getElem? (i := 1288) (by decide +kernel)⟩
theorem lw_p42 : lw_okq (⟨"BasketEnvoys$Riddles", "laid", "(II)I"⟩, 11) := ⟨⟨by decide +kernel, by decide +kernel⟩, List.mem_of_getElem? (i := 418) (by decide +kernel), List.mem_of_getElem? (i := 1310) (by decide +kernel), List.mem_of_getElem? (i := 1311) (by decide +kernel)⟩
theorem lw_p43 : lw_okq (⟨"BasketEnvoys$Riddles", "madeOf", "(II)I"⟩, 11) := ⟨⟨by decide +kernel, by decide +kernel⟩, List.mem_of_getElem? (i := 418) (by decide +kernel), List.mem_of_getElem? (i := 1329) (by decide +kernel), List.mem_of_getElem? (i := 1330) (by decide +kernel)⟩
theorem lw_p44 : lw_okq (⟨"BasketEnvoys$Riddles", "roundsOf", "(I)I"⟩, 11) := ⟨⟨by decide +kernel, by decide +kernel⟩, List.mem_of_getElem? (i := 418) (by decide +kernel), List.mem_of_getElem? (i := 1341) (by decide +kernel), List.mem_of_getElem? (i := 1342) (by decide +kernel)⟩
theorem lw_p45 : lw_okq (⟨"BasketEnvoys$Riddles", "learnSilence", "()V"⟩, 11) := ⟨⟨by decide +kernel, by decide +kernel⟩, List.mem_of_getElem? (i := 418) (by decide +kernel), List.mem_of_getElem? (i := 1358) (by decide +kernel), List.mem_of_getElem? (i := 1359) (by decide +kernel)⟩
theorem lw_p46 : lw_okq (⟨"BasketEnvoys$Riddles", "firstWinningMove", "(IIIZ)I"⟩, 11) := ⟨⟨by decide +kernel, by decide +kernel⟩, List.mem_of_getElem? (i := 418) (by decide +kernel), List.mem_of_getElem? (i := 1362) (by decide +kernel), List.mem_of_getElem? (i := 1363) (by decide +kernel)⟩
theorem lw_p47 : lw_okq (⟨"BasketEnvoys$Riddles", "isWon", "(I)Z"⟩, 11) := ⟨⟨by decide +kernel, by decide +kernel⟩, List.mem_of_getElem? (i := 418) (by decide +kernel), List.mem_of_getElem? (i := 1366) (by decide +kernel), List.mem_of_getElem? (i := 1367) (by decide +kernel)⟩
def lw_privs_3 : List (MethodName × Nat) := [(⟨"BasketEnvoys$World", "tellWants", "([II)V"⟩, 9), (⟨"BasketEnvoys", "couldShow", "(I)Z"⟩, 8), (⟨"BasketEnvoys$Riddles", "thingsThatSay", "(II)I"⟩, 11), (⟨"BasketEnvoys$Riddles", "takeLeast", "(I)I"⟩, 11), (⟨"BasketEnvoys$Riddles", "rests", "(I)Z"⟩, 11), (⟨"BasketEnvoys$Riddles", "whatRowGets", "(I)I"⟩, 11), (⟨"BasketEnvoys$Riddles", "planSending", "(I)V"⟩, 11), (⟨"BasketEnvoys$Riddles", "worthIfSent", "(III)I"⟩, 11), (⟨"BasketEnvoys$Riddles", "holds", "(I)Z"⟩, 11), (⟨"BasketEnvoys$Riddles", "paintAll", "()V"⟩, 11), (⟨"BasketEnvoys$Riddles", "laid", "(II)I"⟩, 11), (⟨"BasketEnvoys$Riddles", "madeOf", "(II)I"⟩, 11), (⟨"BasketEnvoys$Riddles", "roundsOf", "(I)I"⟩, 11), (⟨"BasketEnvoys$Riddles", "learnSilence", "()V"⟩, 11), (⟨"BasketEnvoys$Riddles", "firstWinningMove", "(IIIZ)I"⟩, 11), (⟨"BasketEnvoys$Riddles", "isWon", "(I)Z"⟩, 11)]
theorem lw_r3 : ∀ q ∈ lw_privs_3, lw_okq q := List.forall_mem_cons.mpr ⟨lw_p32, List.forall_mem_cons.mpr ⟨lw_p33, List.forall_mem_cons.mpr ⟨lw_p34, List.forall_mem_cons.mpr ⟨lw_p35, List.forall_mem_cons.mpr ⟨lw_p36, List.forall_mem_cons.mpr ⟨lw_p37, List.forall_mem_cons.mpr ⟨lw_p38, List.forall_mem_cons.mpr ⟨lw_p39, List.forall_mem_cons.mpr ⟨lw_p40, List.forall_mem_cons.mpr ⟨lw_p41, List.forall_mem_cons.mpr ⟨lw_p42, List.forall_mem_cons.mpr ⟨lw_p43, List.forall_mem_cons.mpr ⟨lw_p44, List.forall_mem_cons.mpr ⟨lw_p45, List.forall_mem_cons.mpr ⟨lw_p46, List.forall_mem_cons.mpr ⟨lw_p47, fun _ h => absurd h List.not_mem_nil⟩⟩⟩⟩⟩⟩⟩⟩⟩⟩⟩⟩⟩⟩⟩⟩
theorem lw_p48 : lw_okq (⟨"BasketEnvoysModel", "layNone", "()V"⟩, 37) := ⟨⟨by decide +kernel, by decide +kernel⟩, List.mem_of_getElem? (i := 1411) (by decide +kernel), List.mem_of_getElem? (i := 1417) (by decide +kernel), List.mem_of_getElem? (i := 1418) (by decide +kernel)⟩
theorem lw_p49 : lw_okq (⟨"BasketEnvoysModel", "forgets", "()V"⟩, 37) := ⟨⟨by decide +kernel, by decide +kernel⟩, List.mem_of_getElem? (i := 1411) (by decide +kernel), List.mem_of_getElem? (i := 1537) (by decide +kernel), List.mem_of_getElem? (i := 1538) (by decide +kernel)⟩
theorem lw_p50 : lw_okq (⟨"BasketEnvoysModel", "isPower", "(I)Z"⟩, 37) := ⟨⟨by decide +kernel, by decide +kernel⟩, List.mem_of_getElem? (i := 1411) (by decide +kernel), List.mem_of_getElem? (i := 1556) (by decide +kernel), List.mem_of_getElem? (i := 1557) (by decide +kernel)⟩
theorem lw_p51 : lw_okq (⟨"BasketEnvoysModel", "isMute", "(I)Z"⟩, 37) := ⟨⟨by decide +kernel, by decide +kernel⟩, List.mem_of_getElem? (i := 1411) (by decide +kernel), List.mem_of_getElem? (i := 1560) (by decide +kernel), List.mem_of_getElem? (i := 1561) (by decide +kernel)⟩
theorem lw_p52 : lw_okq (⟨"BasketEnvoysModel", "next0", "()V"⟩, 37) := ⟨⟨by decide +kernel, by decide +kernel⟩, List.mem_of_getElem? (i := 1411) (by decide +kernel), List.mem_of_getElem? (i := 1576) (by decide +kernel), List.mem_of_getElem? (i := 1577) (by decide +kernel)⟩
theorem lw_p53 : lw_okq (⟨"BasketEnvoysModel", "see", "(I)I"⟩, 37) := ⟨⟨by decide +kernel, by decide +kernel⟩, List.mem_of_getElem? (i := 1411) (by decide +kernel), List.mem_of_getElem? (i := 1580) (by decide +kernel), List.mem_of_getElem? (i := 1581) (by decide +kernel)⟩
theorem lw_p54 : lw_okq (⟨"BasketEnvoysModel", "wordOf", "()I"⟩, 37) := ⟨⟨by decide +kernel, by decide +kernel⟩, List.mem_of_getElem? (i := 1411) (by decide +kernel), List.mem_of_getElem? (i := 1587) (by decide +kernel), List.mem_of_getElem? (i := 1588) (by decide +kernel)⟩
theorem lw_p55 : lw_okq (⟨"BasketEnvoysModel", "lawWord", "()I"⟩, 37) := ⟨⟨by decide +kernel, by decide +kernel⟩, List.mem_of_getElem? (i := 1411) (by decide +kernel), List.mem_of_getElem? (i := 1591) (by decide +kernel), List.mem_of_getElem? (i := 1592) (by decide +kernel)⟩
theorem lw_p56 : lw_okq (⟨"BasketEnvoysModel", "is", "(Ljava/lang/String;)Z"⟩, 37) := ⟨⟨by decide +kernel, by decide +kernel⟩, List.mem_of_getElem? (i := 1411) (by decide +kernel), List.mem_of_getElem? (i := 1596) (by decide +kernel), List.mem_of_getElem? (i := 1597) (by decide +kernel)⟩
theorem lw_p57 : lw_okq (⟨"BasketEnvoysModel", "asked", "()I"⟩, 37) := ⟨⟨by decide +kernel, by decide +kernel⟩, List.mem_of_getElem? (i := 1411) (by decide +kernel), List.mem_of_getElem? (i := 1608) (by decide +kernel), List.mem_of_getElem? (i := 1609) (by decide +kernel)⟩
theorem lw_p58 : lw_okq (⟨"BasketEnvoysModel", "courtWord", "()I"⟩, 37) := ⟨⟨by decide +kernel, by decide +kernel⟩, List.mem_of_getElem? (i := 1411) (by decide +kernel), List.mem_of_getElem? (i := 1623) (by decide +kernel), List.mem_of_getElem? (i := 1624) (by decide +kernel)⟩
theorem lw_p59 : lw_okq (⟨"BasketEnvoysModel", "readsLaw", "()Z"⟩, 37) := ⟨⟨by decide +kernel, by decide +kernel⟩, List.mem_of_getElem? (i := 1411) (by decide +kernel), List.mem_of_getElem? (i := 1636) (by decide +kernel), List.mem_of_getElem? (i := 1637) (by decide +kernel)⟩
theorem lw_p60 : lw_okq (⟨"BasketEnvoysModel", "aLine", "()Z"⟩, 37) := ⟨⟨by decide +kernel, by decide +kernel⟩, List.mem_of_getElem? (i := 1411) (by decide +kernel), List.mem_of_getElem? (i := 1640) (by decide +kernel), List.mem_of_getElem? (i := 1641) (by decide +kernel)⟩
theorem lw_p61 : lw_okq (⟨"BasketEnvoysModel", "bad", "(I)Z"⟩, 37) := ⟨⟨by decide +kernel, by decide +kernel⟩, List.mem_of_getElem? (i := 1411) (by decide +kernel), List.mem_of_getElem? (i := 1644) (by decide +kernel), List.mem_of_getElem? (i := 1645) (by decide +kernel)⟩
theorem lw_p62 : lw_okq (⟨"BasketEnvoysModel", "sumUp", "()Z"⟩, 37) := ⟨⟨by decide +kernel, by decide +kernel⟩, List.mem_of_getElem? (i := 1411) (by decide +kernel), List.mem_of_getElem? (i := 1648) (by decide +kernel), List.mem_of_getElem? (i := 1649) (by decide +kernel)⟩
theorem lw_p63 : lw_okq (⟨"BasketEnvoysModel", "product", "()Z"⟩, 37) := ⟨⟨by decide +kernel, by decide +kernel⟩, List.mem_of_getElem? (i := 1411) (by decide +kernel), List.mem_of_getElem? (i := 1652) (by decide +kernel), List.mem_of_getElem? (i := 1653) (by decide +kernel)⟩
def lw_privs_4 : List (MethodName × Nat) := [(⟨"BasketEnvoysModel", "layNone", "()V"⟩, 37), (⟨"BasketEnvoysModel", "forgets", "()V"⟩, 37), (⟨"BasketEnvoysModel", "isPower", "(I)Z"⟩, 37), (⟨"BasketEnvoysModel", "isMute", "(I)Z"⟩, 37), (⟨"BasketEnvoysModel", "next0", "()V"⟩, 37), (⟨"BasketEnvoysModel", "see", "(I)I"⟩, 37), (⟨"BasketEnvoysModel", "wordOf", "()I"⟩, 37), (⟨"BasketEnvoysModel", "lawWord", "()I"⟩, 37), (⟨"BasketEnvoysModel", "is", "(Ljava/lang/String;)Z"⟩, 37), (⟨"BasketEnvoysModel", "asked", "()I"⟩, 37), (⟨"BasketEnvoysModel", "courtWord", "()I"⟩, 37), (⟨"BasketEnvoysModel", "readsLaw", "()Z"⟩, 37), (⟨"BasketEnvoysModel", "aLine", "()Z"⟩, 37), (⟨"BasketEnvoysModel", "bad", "(I)Z"⟩, 37), (⟨"BasketEnvoysModel", "sumUp", "()Z"⟩, 37), (⟨"BasketEnvoysModel", "product", "()Z"⟩, 37)]
theorem lw_r4 : ∀ q ∈ lw_privs_4, lw_okq q := List.forall_mem_cons.mpr ⟨lw_p48, List.forall_mem_cons.mpr ⟨lw_p49, List.forall_mem_cons.mpr ⟨lw_p50, List.forall_mem_cons.mpr ⟨lw_p51, List.forall_mem_cons.mpr ⟨lw_p52, List.forall_mem_cons.mpr ⟨lw_p53, List.forall_mem_cons.mpr ⟨lw_p54, List.forall_mem_cons.mpr ⟨lw_p55, List.forall_mem_cons.mpr ⟨lw_p56, List.forall_mem_cons.mpr ⟨lw_p57, List.forall_mem_cons.mpr ⟨lw_p58, List.forall_mem_cons.mpr ⟨lw_p59, List.forall_mem_cons.mpr ⟨lw_p60, List.forall_mem_cons.mpr ⟨lw_p61, List.forall_mem_cons.mpr ⟨lw_p62, List.forall_mem_cons.mpr ⟨lw_p63, fun _ h => absurd h List.not_mem_nil⟩⟩⟩⟩⟩⟩⟩⟩⟩⟩⟩⟩⟩⟩⟩⟩
theorem lw_p64 : lw_okq (⟨"BasketEnvoysModel", "unit", "()Z"⟩, 37) := ⟨⟨by decide +kernel, by decide +kernel⟩, List.mem_of_getElem? (i := 1411) (by decide +kernel), List.mem_of_getElem? (i := 1656) (by decide +kernel), List.mem_of_getElem? (i := 1657) (by decide +kernel)⟩
theorem lw_p65 : lw_okq (⟨"BasketEnvoysModel", "lay", "(II)V"⟩, 37) := ⟨⟨by decide +kernel, by decide +kernel⟩, List.mem_of_getElem? (i := 1411) (by decide +kernel), List.mem_of_getElem? (i := 1660) (by decide +kernel), List.mem_of_getElem? (i := 1661) (by decide +kernel)⟩
theorem lw_p66 : lw_okq (⟨"BasketEnvoysModel", "any", "()Z"⟩, 37) := ⟨⟨by decide +kernel, by decide +kernel⟩, List.mem_of_getElem? (i := 1411) (by decide +kernel), List.mem_of_getElem? (i := 1664) (by decide +kernel), List.mem_of_getElem? (i := 1665) (by decide +kernel)⟩
theorem lw_p67 : lw_okq (⟨"BasketEnvoysModel", "every", "()Z"⟩, 37) := ⟨⟨by decide +kernel, by decide +kernel⟩, List.mem_of_getElem? (i := 1411) (by decide +kernel), List.mem_of_getElem? (i := 1668) (by decide +kernel), List.mem_of_getElem? (i := 1669) (by decide +kernel)⟩
theorem lw_p68 : lw_okq (⟨"BasketEnvoysModel", "oneTest", "()Z"⟩, 37) := ⟨⟨by decide +kernel, by decide +kernel⟩, List.mem_of_getElem? (i := 1411) (by decide +kernel), List.mem_of_getElem? (i := 1672) (by decide +kernel), List.mem_of_getElem? (i := 1673) (by decide +kernel)⟩
theorem lw_p69 : lw_okq (⟨"BasketEnvoysModel", "opens", "()Z"⟩, 37) := ⟨⟨by decide +kernel, by decide +kernel⟩, List.mem_of_getElem? (i := 1411) (by decide +kernel), List.mem_of_getElem? (i := 1676) (by decide +kernel), List.mem_of_getElem? (i := 1677) (by decide +kernel)⟩
theorem lw_p70 : lw_okq (⟨"BasketEnvoysModel", "need", "(I)Z"⟩, 37) := ⟨⟨by decide +kernel, by decide +kernel⟩, List.mem_of_getElem? (i := 1411) (by decide +kernel), List.mem_of_getElem? (i := 1680) (by decide +kernel), List.mem_of_getElem? (i := 1681) (by decide +kernel)⟩
theorem lw_p71 : lw_okq (⟨"BasketEnvoysModel", "readsRows", "()Z"⟩, 37) := ⟨⟨by decide +kernel, by decide +kernel⟩, List.mem_of_getElem? (i := 1411) (by decide +kernel), List.mem_of_getElem? (i := 1684) (by decide +kernel), List.mem_of_getElem? (i := 1685) (by decide +kernel)⟩
theorem lw_p72 : lw_okq (⟨"BasketEnvoysModel", "aRow", "()Z"⟩, 37) := ⟨⟨by decide +kernel, by decide +kernel⟩, List.mem_of_getElem? (i := 1411) (by decide +kernel), List.mem_of_getElem? (i := 1688) (by decide +kernel), List.mem_of_getElem? (i := 1689) (by decide +kernel)⟩
theorem lw_p73 : lw_okq (⟨"BasketEnvoysModel", "aTongue", "()Z"⟩, 37) := ⟨⟨by decide +kernel, by decide +kernel⟩, List.mem_of_getElem? (i := 1411) (by decide +kernel), List.mem_of_getElem? (i := 1692) (by decide +kernel), List.mem_of_getElem? (i := 1693) (by decide +kernel)⟩
theorem lw_p74 : lw_okq (⟨"BasketEnvoysModel", "told", "(IIII)Z"⟩, 37) := ⟨⟨by decide +kernel, by decide +kernel⟩, List.mem_of_getElem? (i := 1411) (by decide +kernel), List.mem_of_getElem? (i := 1696) (by decide +kernel), List.mem_of_getElem? (i := 1697) (by decide +kernel)⟩
theorem lw_p75 : lw_okq (⟨"BasketEnvoysModel", "number", "(III)Z"⟩, 37) := ⟨⟨by decide +kernel, by decide +kernel⟩, List.mem_of_getElem? (i := 1411) (by decide +kernel), List.mem_of_getElem? (i := 1700) (by decide +kernel), List.mem_of_getElem? (i := 1701) (by decide +kernel)⟩
theorem lw_p76 : lw_okq (⟨"BasketEnvoysModel", "aCourtDay", "()Z"⟩, 37) := ⟨⟨by decide +kernel, by decide +kernel⟩, List.mem_of_getElem? (i := 1411) (by decide +kernel), List.mem_of_getElem? (i := 1704) (by decide +kernel), List.mem_of_getElem? (i := 1705) (by decide +kernel)⟩
theorem lw_p77 : lw_okq (⟨"BasketEnvoysModel", "aWant", "()Z"⟩, 37) := ⟨⟨by decide +kernel, by decide +kernel⟩, List.mem_of_getElem? (i := 1411) (by decide +kernel), List.mem_of_getElem? (i := 1708) (by decide +kernel), List.mem_of_getElem? (i := 1709) (by decide +kernel)⟩
theorem lw_p78 : lw_okq (⟨"BasketEnvoysModel", "putsText", "(I)I"⟩, 37) := ⟨⟨by decide +kernel, by decide +kernel⟩, List.mem_of_getElem? (i := 1411) (by decide +kernel), List.mem_of_getElem? (i := 1712) (by decide +kernel), List.mem_of_getElem? (i := 1713) (by decide +kernel)⟩
theorem lw_p79 : lw_okq (⟨"BasketEnvoysModel", "putsLaw", "()I"⟩, 37) := ⟨⟨by decide +kernel, by decide +kernel⟩, List.mem_of_getElem? (i := 1411) (by decide +kernel), List.mem_of_getElem? (i := 1716) (by decide +kernel), List.mem_of_getElem? (i := 1717) (by decide +kernel)⟩
def lw_privs_5 : List (MethodName × Nat) := [(⟨"BasketEnvoysModel", "unit", "()Z"⟩, 37), (⟨"BasketEnvoysModel", "lay", "(II)V"⟩, 37), (⟨"BasketEnvoysModel", "any", "()Z"⟩, 37), (⟨"BasketEnvoysModel", "every", "()Z"⟩, 37), (⟨"BasketEnvoysModel", "oneTest", "()Z"⟩, 37), (⟨"BasketEnvoysModel", "opens", "()Z"⟩, 37), (⟨"BasketEnvoysModel", "need", "(I)Z"⟩, 37), (⟨"BasketEnvoysModel", "readsRows", "()Z"⟩, 37), (⟨"BasketEnvoysModel", "aRow", "()Z"⟩, 37), (⟨"BasketEnvoysModel", "aTongue", "()Z"⟩, 37), (⟨"BasketEnvoysModel", "told", "(IIII)Z"⟩, 37), (⟨"BasketEnvoysModel", "number", "(III)Z"⟩, 37), (⟨"BasketEnvoysModel", "aCourtDay", "()Z"⟩, 37), (⟨"BasketEnvoysModel", "aWant", "()Z"⟩, 37), (⟨"BasketEnvoysModel", "putsText", "(I)I"⟩, 37), (⟨"BasketEnvoysModel", "putsLaw", "()I"⟩, 37)]
theorem lw_r5 : ∀ q ∈ lw_privs_5, lw_okq q := List.forall_mem_cons.mpr ⟨lw_p64, List.forall_mem_cons.mpr ⟨lw_p65, List.forall_mem_cons.mpr ⟨lw_p66, List.forall_mem_cons.mpr ⟨lw_p67, List.forall_mem_cons.mpr ⟨lw_p68, List.forall_mem_cons.mpr ⟨lw_p69, List.forall_mem_cons.mpr ⟨lw_p70, List.forall_mem_cons.mpr ⟨lw_p71, List.forall_mem_cons.mpr ⟨lw_p72, List.forall_mem_cons.mpr ⟨lw_p73, List.forall_mem_cons.mpr ⟨lw_p74, List.forall_mem_cons.mpr ⟨lw_p75, List.forall_mem_cons.mpr ⟨lw_p76, List.forall_mem_cons.mpr ⟨lw_p77, List.forall_mem_cons.mpr ⟨lw_p78, List.forall_mem_cons.mpr ⟨lw_p79, fun _ h => absurd h List.not_mem_nil⟩⟩⟩⟩⟩⟩⟩⟩⟩⟩⟩⟩⟩⟩⟩⟩
theorem lw_p80 : lw_okq (⟨"BasketEnvoysModel", "puts", "(III)I"⟩, 37) := ⟨⟨by decide +kernel, by decide +kernel⟩, List.mem_of_getElem? (i := 1411) (by decide +kernel), List.mem_of_getElem? (i := 1720) (by decide +kernel), List.mem_of_getElem? (i := 1721) (by decide +kernel)⟩
theorem lw_p81 : lw_okq (⟨"BasketEnvoysModel", "canAct", "(III)Z"⟩, 37) := ⟨⟨by decide +kernel, by decide +kernel⟩, List.mem_of_getElem? (i := 1411) (by decide +kernel), List.mem_of_getElem? (i := 1736) (by decide +kernel), List.mem_of_getElem? (i := 1737) (by decide +kernel)⟩
theorem lw_p82 : lw_okq (⟨"BasketEnvoysModel", "keeps", "()V"⟩, 37) := ⟨⟨by decide +kernel, by decide +kernel⟩, List.mem_of_getElem? (i := 1411) (by decide +kernel), List.mem_of_getElem? (i := 1740) (by decide +kernel), List.mem_of_getElem? (i := 1741) (by decide +kernel)⟩
theorem lw_p83 : lw_okq (⟨"BasketEnvoysModel", "sends", "(II)V"⟩, 37) := ⟨⟨by decide +kernel, by decide +kernel⟩, List.mem_of_getElem? (i := 1411) (by decide +kernel), List.mem_of_getElem? (i := 1744) (by decide +kernel), List.mem_of_getElem? (i := 1745) (by decide +kernel)⟩
theorem lw_p84 : lw_okq (⟨"BasketEnvoysModel", "notes", "(III)V"⟩, 37) := ⟨⟨by decide +kernel, by decide +kernel⟩, List.mem_of_getElem? (i := 1411) (by decide +kernel), List.mem_of_getElem? (i := 1748) (by decide +kernel), List.mem_of_getElem? (i := 1749) (by decide +kernel)⟩
theorem lw_p85 : lw_okq (⟨"BasketEnvoysModel", "calls", "(I)V"⟩, 37) := ⟨⟨by decide +kernel, by decide +kernel⟩, List.mem_of_getElem? (i := 1411) (by decide +kernel), List.mem_of_getElem? (i := 1752) (by decide +kernel), List.mem_of_getElem? (i := 1753) (by decide +kernel)⟩
theorem lw_p86 : lw_okq (⟨"BasketEnvoysModel", "criesOf", "(I)I"⟩, 37) := ⟨⟨by decide +kernel, by decide +kernel⟩, List.mem_of_getElem? (i := 1411) (by decide +kernel), List.mem_of_getElem? (i := 1756) (by decide +kernel), List.mem_of_getElem? (i := 1757) (by decide +kernel)⟩
theorem lw_p87 : lw_okq (⟨"BasketEnvoysModel", "asks", "(II)V"⟩, 37) := ⟨⟨by decide +kernel, by decide +kernel⟩, List.mem_of_getElem? (i := 1411) (by decide +kernel), List.mem_of_getElem? (i := 1760) (by decide +kernel), List.mem_of_getElem? (i := 1761) (by decide +kernel)⟩
theorem lw_p88 : lw_okq (⟨"BasketEnvoysModel", "meaning", "(II)I"⟩, 37) := ⟨⟨by decide +kernel, by decide +kernel⟩, List.mem_of_getElem? (i := 1411) (by decide +kernel), List.mem_of_getElem? (i := 1764) (by decide +kernel), List.mem_of_getElem? (i := 1765) (by decide +kernel)⟩
theorem lw_p89 : lw_okq (⟨"BasketEnvoysModel", "lawSays", "(III)I"⟩, 37) := ⟨⟨by decide +kernel, by decide +kernel⟩, List.mem_of_getElem? (i := 1411) (by decide +kernel), List.mem_of_getElem? (i := 1768) (by decide +kernel), List.mem_of_getElem? (i := 1769) (by decide +kernel)⟩
theorem lw_p90 : lw_okq (⟨"BasketEnvoysModel", "isSo", "(I)Z"⟩, 37) := ⟨⟨by decide +kernel, by decide +kernel⟩, List.mem_of_getElem? (i := 1411) (by decide +kernel), List.mem_of_getElem? (i := 1772) (by decide +kernel), List.mem_of_getElem? (i := 1773) (by decide +kernel)⟩
theorem lw_p91 : lw_okq (⟨"BasketEnvoysModel", "comesTo", "(II)I"⟩, 37) := ⟨⟨by decide +kernel, by decide +kernel⟩, List.mem_of_getElem? (i := 1411) (by decide +kernel), List.mem_of_getElem? (i := 1776) (by decide +kernel), List.mem_of_getElem? (i := 1777) (by decide +kernel)⟩
theorem lw_p92 : lw_okq (⟨"BasketEnvoysModel", "falls", "(I)Z"⟩, 37) := ⟨⟨by decide +kernel, by decide +kernel⟩, List.mem_of_getElem? (i := 1411) (by decide +kernel), List.mem_of_getElem? (i := 1789) (by decide +kernel), List.mem_of_getElem? (i := 1790) (by decide +kernel)⟩
theorem lw_p93 : lw_okq (⟨"BasketEnvoysModel", "draw", "(I)I"⟩, 37) := ⟨⟨by decide +kernel, by decide +kernel⟩, List.mem_of_getElem? (i := 1411) (by decide +kernel), List.mem_of_getElem? (i := 1793) (by decide +kernel), List.mem_of_getElem? (i := 1794) (by decide +kernel)⟩
theorem lw_p94 : lw_okq (⟨"BasketEnvoysModel", "goesBy", "()I"⟩, 37) := ⟨⟨by decide +kernel, by decide +kernel⟩, List.mem_of_getElem? (i := 1411) (by decide +kernel), List.mem_of_getElem? (i := 1803) (by decide +kernel), List.mem_of_getElem? (i := 1804) (by decide +kernel)⟩
theorem lw_p95 : lw_okq (⟨"BasketEnvoysModel", "court", "()V"⟩, 37) := ⟨⟨by decide +kernel, by decide +kernel⟩, List.mem_of_getElem? (i := 1411) (by decide +kernel), List.mem_of_getElem? (i := 1807) (by decide +kernel), List.mem_of_getElem? (i := 1808) (by decide +kernel)⟩
def lw_privs_6 : List (MethodName × Nat) := [(⟨"BasketEnvoysModel", "puts", "(III)I"⟩, 37), (⟨"BasketEnvoysModel", "canAct", "(III)Z"⟩, 37), (⟨"BasketEnvoysModel", "keeps", "()V"⟩, 37), (⟨"BasketEnvoysModel", "sends", "(II)V"⟩, 37), (⟨"BasketEnvoysModel", "notes", "(III)V"⟩, 37), (⟨"BasketEnvoysModel", "calls", "(I)V"⟩, 37), (⟨"BasketEnvoysModel", "criesOf", "(I)I"⟩, 37), (⟨"BasketEnvoysModel", "asks", "(II)V"⟩, 37), (⟨"BasketEnvoysModel", "meaning", "(II)I"⟩, 37), (⟨"BasketEnvoysModel", "lawSays", "(III)I"⟩, 37), (⟨"BasketEnvoysModel", "isSo", "(I)Z"⟩, 37), (⟨"BasketEnvoysModel", "comesTo", "(II)I"⟩, 37), (⟨"BasketEnvoysModel", "falls", "(I)Z"⟩, 37), (⟨"BasketEnvoysModel", "draw", "(I)I"⟩, 37), (⟨"BasketEnvoysModel", "goesBy", "()I"⟩, 37), (⟨"BasketEnvoysModel", "court", "()V"⟩, 37)]
theorem lw_r6 : ∀ q ∈ lw_privs_6, lw_okq q := List.forall_mem_cons.mpr ⟨lw_p80, List.forall_mem_cons.mpr ⟨lw_p81, List.forall_mem_cons.mpr ⟨lw_p82, List.forall_mem_cons.mpr ⟨lw_p83, List.forall_mem_cons.mpr ⟨lw_p84, List.forall_mem_cons.mpr ⟨lw_p85, List.forall_mem_cons.mpr ⟨lw_p86, List.forall_mem_cons.mpr ⟨lw_p87, List.forall_mem_cons.mpr ⟨lw_p88, List.forall_mem_cons.mpr ⟨lw_p89, List.forall_mem_cons.mpr ⟨lw_p90, List.forall_mem_cons.mpr ⟨lw_p91, List.forall_mem_cons.mpr ⟨lw_p92, List.forall_mem_cons.mpr ⟨lw_p93, List.forall_mem_cons.mpr ⟨lw_p94, List.forall_mem_cons.mpr ⟨lw_p95, fun _ h => absurd h List.not_mem_nil⟩⟩⟩⟩⟩⟩⟩⟩⟩⟩⟩⟩⟩⟩⟩⟩
theorem lw_p96 : lw_okq (⟨"BasketEnvoysModel", "turnOf", "(I)I"⟩, 37) := ⟨⟨by decide +kernel, by decide +kernel⟩, List.mem_of_getElem? (i := 1411) (by decide +kernel), List.mem_of_getElem? (i := 1811) (by decide +kernel), List.mem_of_getElem? (i := 1812) (by decide +kernel)⟩
theorem lw_p97 : lw_okq (⟨"BasketEnvoysModel", "criesOut", "(I)V"⟩, 37) := ⟨⟨by decide +kernel, by decide +kernel⟩, List.mem_of_getElem? (i := 1411) (by decide +kernel), List.mem_of_getElem? (i := 1815) (by decide +kernel), List.mem_of_getElem? (i := 1816) (by decide +kernel)⟩
theorem lw_p98 : lw_okq (⟨"BasketEnvoysModel", "nextThing", "(I)I"⟩, 37) := ⟨⟨by decide +kernel, by decide +kernel⟩, List.mem_of_getElem? (i := 1411) (by decide +kernel), List.mem_of_getElem? (i := 1819) (by decide +kernel), List.mem_of_getElem? (i := 1820) (by decide +kernel)⟩
theorem lw_p99 : lw_okq (⟨"BasketEnvoysModel", "isNoddedAt", "(II)Z"⟩, 37) := ⟨⟨by decide +kernel, by decide +kernel⟩, List.mem_of_getElem? (i := 1411) (by decide +kernel), List.mem_of_getElem? (i := 1823) (by decide +kernel), List.mem_of_getElem? (i := 1824) (by decide +kernel)⟩
theorem lw_p100 : lw_okq (⟨"BasketEnvoysModel", "nodsOf", "(II)I"⟩, 37) := ⟨⟨by decide +kernel, by decide +kernel⟩, List.mem_of_getElem? (i := 1411) (by decide +kernel), List.mem_of_getElem? (i := 1827) (by decide +kernel), List.mem_of_getElem? (i := 1828) (by decide +kernel)⟩
theorem lw_p101 : lw_okq (⟨"BasketEnvoysModel", "winsOf", "(II)I"⟩, 37) := ⟨⟨by decide +kernel, by decide +kernel⟩, List.mem_of_getElem? (i := 1411) (by decide +kernel), List.mem_of_getElem? (i := 1831) (by decide +kernel), List.mem_of_getElem? (i := 1832) (by decide +kernel)⟩
theorem lw_p102 : lw_okq (⟨"BasketEnvoysModel", "isRead", "(III)V"⟩, 37) := ⟨⟨by decide +kernel, by decide +kernel⟩, List.mem_of_getElem? (i := 1411) (by decide +kernel), List.mem_of_getElem? (i := 1835) (by decide +kernel), List.mem_of_getElem? (i := 1836) (by decide +kernel)⟩
theorem lw_p103 : lw_okq (⟨"BasketEnvoysModel", "atOf", "(I)I"⟩, 37) := ⟨⟨by decide +kernel, by decide +kernel⟩, List.mem_of_getElem? (i := 1411) (by decide +kernel), List.mem_of_getElem? (i := 1847) (by decide +kernel), List.mem_of_getElem? (i := 1848) (by decide +kernel)⟩
theorem lw_p104 : lw_okq (⟨"BasketEnvoysModel", "thinks", "()V"⟩, 37) := ⟨⟨by decide +kernel, by decide +kernel⟩, List.mem_of_getElem? (i := 1411) (by decide +kernel), List.mem_of_getElem? (i := 1859) (by decide +kernel), List.mem_of_getElem? (i := 1860) (by decide +kernel)⟩
theorem lw_p105 : lw_okq (⟨"BasketEnvoysModel", "together", "(I)I"⟩, 37) := ⟨⟨by decide +kernel, by decide +kernel⟩, List.mem_of_getElem? (i := 1411) (by decide +kernel), List.mem_of_getElem? (i := 1863) (by decide +kernel), List.mem_of_getElem? (i := 1864) (by decide +kernel)⟩
theorem lw_p106 : lw_okq (⟨"BasketEnvoysModel", "putsBack", "()V"⟩, 37) := ⟨⟨by decide +kernel, by decide +kernel⟩, List.mem_of_getElem? (i := 1411) (by decide +kernel), List.mem_of_getElem? (i := 1867) (by decide +kernel), List.mem_of_getElem? (i := 1868) (by decide +kernel)⟩
theorem lw_p107 : lw_okq (⟨"BasketEnvoysModel", "endsRow", "(I)I"⟩, 37) := ⟨⟨by decide +kernel, by decide +kernel⟩, List.mem_of_getElem? (i := 1411) (by decide +kernel), List.mem_of_getElem? (i := 1879) (by decide +kernel), List.mem_of_getElem? (i := 1880) (by decide +kernel)⟩
theorem lw_p108 : lw_okq (⟨"BasketEnvoysModel", "tellsOne", "(III)I"⟩, 37) := ⟨⟨by decide +kernel, by decide +kernel⟩, List.mem_of_getElem? (i := 1411) (by decide +kernel), List.mem_of_getElem? (i := 1883) (by decide +kernel), List.mem_of_getElem? (i := 1884) (by decide +kernel)⟩
theorem lw_p109 : lw_okq (⟨"BasketEnvoysModel", "readAlike", "(II)Z"⟩, 37) := ⟨⟨by decide +kernel, by decide +kernel⟩, List.mem_of_getElem? (i := 1411) (by decide +kernel), List.mem_of_getElem? (i := 1891) (by decide +kernel), List.mem_of_getElem? (i := 1892) (by decide +kernel)⟩
theorem lw_p110 : lw_okq (⟨"BasketEnvoysModel", "lightestSaying", "(II)I"⟩, 37) := ⟨⟨by decide +kernel, by decide +kernel⟩, List.mem_of_getElem? (i := 1411) (by decide +kernel), List.mem_of_getElem? (i := 1904) (by decide +kernel), List.mem_of_getElem? (i := 1905) (by decide +kernel)⟩
theorem lw_p111 : lw_okq (⟨"BasketEnvoysModel", "sayingSo", "(II)I"⟩, 37) := ⟨⟨by decide +kernel, by decide +kernel⟩, List.mem_of_getElem? (i := 1411) (by decide +kernel), List.mem_of_getElem? (i := 1908) (by decide +kernel), List.mem_of_getElem? (i := 1909) (by decide +kernel)⟩
def lw_privs_7 : List (MethodName × Nat) := [(⟨"BasketEnvoysModel", "turnOf", "(I)I"⟩, 37), (⟨"BasketEnvoysModel", "criesOut", "(I)V"⟩, 37), (⟨"BasketEnvoysModel", "nextThing", "(I)I"⟩, 37), (⟨"BasketEnvoysModel", "isNoddedAt", "(II)Z"⟩, 37), (⟨"BasketEnvoysModel", "nodsOf", "(II)I"⟩, 37), (⟨"BasketEnvoysModel", "winsOf", "(II)I"⟩, 37), (⟨"BasketEnvoysModel", "isRead", "(III)V"⟩, 37), (⟨"BasketEnvoysModel", "atOf", "(I)I"⟩, 37), (⟨"BasketEnvoysModel", "thinks", "()V"⟩, 37), (⟨"BasketEnvoysModel", "together", "(I)I"⟩, 37), (⟨"BasketEnvoysModel", "putsBack", "()V"⟩, 37), (⟨"BasketEnvoysModel", "endsRow", "(I)I"⟩, 37), (⟨"BasketEnvoysModel", "tellsOne", "(III)I"⟩, 37), (⟨"BasketEnvoysModel", "readAlike", "(II)Z"⟩, 37), (⟨"BasketEnvoysModel", "lightestSaying", "(II)I"⟩, 37), (⟨"BasketEnvoysModel", "sayingSo", "(II)I"⟩, 37)]
theorem lw_r7 : ∀ q ∈ lw_privs_7, lw_okq q := List.forall_mem_cons.mpr ⟨lw_p96, List.forall_mem_cons.mpr ⟨lw_p97, List.forall_mem_cons.mpr ⟨lw_p98, List.forall_mem_cons.mpr ⟨lw_p99, List.forall_mem_cons.mpr ⟨lw_p100, List.forall_mem_cons.mpr ⟨lw_p101, List.forall_mem_cons.mpr ⟨lw_p102, List.forall_mem_cons.mpr ⟨lw_p103, List.forall_mem_cons.mpr ⟨lw_p104, List.forall_mem_cons.mpr ⟨lw_p105, List.forall_mem_cons.mpr ⟨lw_p106, List.forall_mem_cons.mpr ⟨lw_p107, List.forall_mem_cons.mpr ⟨lw_p108, List.forall_mem_cons.mpr ⟨lw_p109, List.forall_mem_cons.mpr ⟨lw_p110, List.forall_mem_cons.mpr ⟨lw_p111, fun _ h => absurd h List.not_mem_nil⟩⟩⟩⟩⟩⟩⟩⟩⟩⟩⟩⟩⟩⟩⟩⟩
theorem lw_p112 : lw_okq (⟨"BasketEnvoysModel", "isReadSo", "(I)Z"⟩, 37) := ⟨⟨by decide +kernel, by decide +kernel⟩, List.mem_of_getElem? (i := 1411) (by decide +kernel), List.mem_of_getElem? (i := 1921) (by decide +kernel), List.mem_of_getElem? (i := 1922) (by decide +kernel)⟩
theorem lw_p113 : lw_okq (⟨"BasketEnvoysModel", "leastHeap", "(II)I"⟩, 37) := ⟨⟨by decide +kernel, by decide +kernel⟩, List.mem_of_getElem? (i := 1411) (by decide +kernel), List.mem_of_getElem? (i := 1933) (by decide +kernel), List.mem_of_getElem? (i := 1934) (by decide +kernel)⟩
theorem lw_p114 : lw_okq (⟨"BasketEnvoysModel", "onePrickMore", "(I)V"⟩, 37) := ⟨⟨by decide +kernel, by decide +kernel⟩, List.mem_of_getElem? (i := 1411) (by decide +kernel), List.mem_of_getElem? (i := 1941) (by decide +kernel), List.mem_of_getElem? (i := 1942) (by decide +kernel)⟩
theorem lw_p115 : lw_okq (⟨"BasketEnvoysModel", "canPart", "(II)Z"⟩, 37) := ⟨⟨by decide +kernel, by decide +kernel⟩, List.mem_of_getElem? (i := 1411) (by decide +kernel), List.mem_of_getElem? (i := 1945) (by decide +kernel), List.mem_of_getElem? (i := 1946) (by decide +kernel)⟩
theorem lw_p116 : lw_okq (⟨"BasketEnvoysModel", "led", "(I)I"⟩, 37) := ⟨⟨by decide +kernel, by decide +kernel⟩, List.mem_of_getElem? (i := 1411) (by decide +kernel), List.mem_of_getElem? (i := 1957) (by decide +kernel), List.mem_of_getElem? (i := 1958) (by decide +kernel)⟩
theorem lw_p117 : lw_okq (⟨"BasketEnvoysModel", "gets", "(III)I"⟩, 37) := ⟨⟨by decide +kernel, by decide +kernel⟩, List.mem_of_getElem? (i := 1411) (by decide +kernel), List.mem_of_getElem? (i := 1961) (by decide +kernel), List.mem_of_getElem? (i := 1962) (by decide +kernel)⟩
theorem lw_p118 : lw_okq (⟨"BasketEnvoysModel", "rests", "(II)Z"⟩, 37) := ⟨⟨by decide +kernel, by decide +kernel⟩, List.mem_of_getElem? (i := 1411) (by decide +kernel), List.mem_of_getElem? (i := 1965) (by decide +kernel), List.mem_of_getElem? (i := 1966) (by decide +kernel)⟩
theorem lw_p119 : lw_okq (⟨"BasketEnvoysModel", "layMostFor", "(I)V"⟩, 37) := ⟨⟨by decide +kernel, by decide +kernel⟩, List.mem_of_getElem? (i := 1411) (by decide +kernel), List.mem_of_getElem? (i := 1987) (by decide +kernel), List.mem_of_getElem? (i := 1988) (by decide +kernel)⟩
theorem lw_p120 : lw_okq (⟨"BasketEnvoysModel", "allOf", "(II)I"⟩, 37) := ⟨⟨by decide +kernel, by decide +kernel⟩, List.mem_of_getElem? (i := 1411) (by decide +kernel), List.mem_of_getElem? (i := 2002) (by decide +kernel), List.mem_of_getElem? (i := 2003) (by decide +kernel)⟩
theorem lw_p121 : lw_okq (⟨"BasketEnvoysModel", "allHold", "(I)Z"⟩, 37) := ⟨⟨by decide +kernel, by decide +kernel⟩, List.mem_of_getElem? (i := 1411) (by decide +kernel), List.mem_of_getElem? (i := 2014) (by decide +kernel), List.mem_of_getElem? (i := 2015) (by decide +kernel)⟩
theorem lw_p122 : lw_okq (⟨"BasketEnvoysModel", "oneColourMore", "()V"⟩, 37) := ⟨⟨by decide +kernel, by decide +kernel⟩, List.mem_of_getElem? (i := 1411) (by decide +kernel), List.mem_of_getElem? (i := 2034) (by decide +kernel), List.mem_of_getElem? (i := 2035) (by decide +kernel)⟩
theorem lw_p123 : lw_okq (⟨"BasketEnvoysModel", "canBeOne", "(I)Z"⟩, 37) := ⟨⟨by decide +kernel, by decide +kernel⟩, List.mem_of_getElem? (i := 1411) (by decide +kernel), List.mem_of_getElem? (i := 2038) (by decide +kernel), List.mem_of_getElem? (i := 2039) (by decide +kernel)⟩
theorem lw_p124 : lw_okq (⟨"BasketEnvoysModel", "layCloths", "()V"⟩, 37) := ⟨⟨by decide +kernel, by decide +kernel⟩, List.mem_of_getElem? (i := 1411) (by decide +kernel), List.mem_of_getElem? (i := 2050) (by decide +kernel), List.mem_of_getElem? (i := 2051) (by decide +kernel)⟩
theorem lw_p125 : lw_okq (⟨"BasketEnvoysModel", "areFive", "(I)Z"⟩, 37) := ⟨⟨by decide +kernel, by decide +kernel⟩, List.mem_of_getElem? (i := 1411) (by decide +kernel), List.mem_of_getElem? (i := 2058) (by decide +kernel), List.mem_of_getElem? (i := 2059) (by decide +kernel)⟩
theorem lw_p126 : lw_okq (⟨"BasketEnvoysModel", "becomes", "(I)I"⟩, 37) := ⟨⟨by decide +kernel, by decide +kernel⟩, List.mem_of_getElem? (i := 1411) (by decide +kernel), List.mem_of_getElem? (i := 2066) (by decide +kernel), List.mem_of_getElem? (i := 2067) (by decide +kernel)⟩
theorem lw_p127 : lw_okq (⟨"BasketEnvoysModel", "begins", "(I)I"⟩, 37) := ⟨⟨by decide +kernel, by decide +kernel⟩, List.mem_of_getElem? (i := 1411) (by decide +kernel), List.mem_of_getElem? (i := 2077) (by decide +kernel), List.mem_of_getElem? (i := 2078) (by decide +kernel)⟩
def lw_privs_8 : List (MethodName × Nat) := [(⟨"BasketEnvoysModel", "isReadSo", "(I)Z"⟩, 37), (⟨"BasketEnvoysModel", "leastHeap", "(II)I"⟩, 37), (⟨"BasketEnvoysModel", "onePrickMore", "(I)V"⟩, 37), (⟨"BasketEnvoysModel", "canPart", "(II)Z"⟩, 37), (⟨"BasketEnvoysModel", "led", "(I)I"⟩, 37), (⟨"BasketEnvoysModel", "gets", "(III)I"⟩, 37), (⟨"BasketEnvoysModel", "rests", "(II)Z"⟩, 37), (⟨"BasketEnvoysModel", "layMostFor", "(I)V"⟩, 37), (⟨"BasketEnvoysModel", "allOf", "(II)I"⟩, 37), (⟨"BasketEnvoysModel", "allHold", "(I)Z"⟩, 37), (⟨"BasketEnvoysModel", "oneColourMore", "()V"⟩, 37), (⟨"BasketEnvoysModel", "canBeOne", "(I)Z"⟩, 37), (⟨"BasketEnvoysModel", "layCloths", "()V"⟩, 37), (⟨"BasketEnvoysModel", "areFive", "(I)Z"⟩, 37), (⟨"BasketEnvoysModel", "becomes", "(I)I"⟩, 37), (⟨"BasketEnvoysModel", "begins", "(I)I"⟩, 37)]
theorem lw_r8 : ∀ q ∈ lw_privs_8, lw_okq q := List.forall_mem_cons.mpr ⟨lw_p112, List.forall_mem_cons.mpr ⟨lw_p113, List.forall_mem_cons.mpr ⟨lw_p114, List.forall_mem_cons.mpr ⟨lw_p115, List.forall_mem_cons.mpr ⟨lw_p116, List.forall_mem_cons.mpr ⟨lw_p117, List.forall_mem_cons.mpr ⟨lw_p118, List.forall_mem_cons.mpr ⟨lw_p119, List.forall_mem_cons.mpr ⟨lw_p120, List.forall_mem_cons.mpr ⟨lw_p121, List.forall_mem_cons.mpr ⟨lw_p122, List.forall_mem_cons.mpr ⟨lw_p123, List.forall_mem_cons.mpr ⟨lw_p124, List.forall_mem_cons.mpr ⟨lw_p125, List.forall_mem_cons.mpr ⟨lw_p126, List.forall_mem_cons.mpr ⟨lw_p127, fun _ h => absurd h List.not_mem_nil⟩⟩⟩⟩⟩⟩⟩⟩⟩⟩⟩⟩⟩⟩⟩⟩
theorem lw_p128 : lw_okq (⟨"BasketEnvoysModel", "those", "(Z)I"⟩, 37) := ⟨⟨by decide +kernel, by decide +kernel⟩, List.mem_of_getElem? (i := 1411) (by decide +kernel), List.mem_of_getElem? (i := 2092) (by decide +kernel), List.mem_of_getElem? (i := 2093) (by decide +kernel)⟩
def lw_privs_9 : List (MethodName × Nat) := [(⟨"BasketEnvoysModel", "those", "(Z)I"⟩, 37)]
theorem lw_r9 : ∀ q ∈ lw_privs_9, lw_okq q := List.forall_mem_cons.mpr ⟨lw_p128, fun _ h => absurd h List.not_mem_nil⟩
def lw_privs : List (MethodName × Nat) := lw_privs_1 ++ (lw_privs_2 ++ (lw_privs_3 ++ (lw_privs_4 ++ (lw_privs_5 ++ (lw_privs_6 ++ (lw_privs_7 ++ (lw_privs_8 ++ (lw_privs_9))))))))
def lw_tbl : List Cond := k2_sels lw_privs ++ tables_1
theorem lw_privs_ok : ∀ q ∈ lw_privs, lw_okq q := by
  show ∀ q ∈ lw_privs_1 ++ (lw_privs_2 ++ (lw_privs_3 ++ (lw_privs_4 ++ (lw_privs_5 ++ (lw_privs_6 ++ (lw_privs_7 ++ (lw_privs_8 ++ (lw_privs_9)))))))), lw_okq q
  exact List.forall_mem_append.mpr ⟨lw_r1, List.forall_mem_append.mpr ⟨lw_r2, List.forall_mem_append.mpr ⟨lw_r3, List.forall_mem_append.mpr ⟨lw_r4, List.forall_mem_append.mpr ⟨lw_r5, List.forall_mem_append.mpr ⟨lw_r6, List.forall_mem_append.mpr ⟨lw_r7, List.forall_mem_append.mpr ⟨lw_r8, lw_r9⟩⟩⟩⟩⟩⟩⟩⟩
def RX0 : String := "BasketEnvoys$Course"
def TX0 : u_T := fun k => match k with
  | 0 => ("BasketEnvoys$Course", "world", "LBasketEnvoys$World;", true)
  | _ => ("BasketEnvoys$Course", "facts", "[I", true)
def tyX0 : Nat → FieldType := fun k => match k with
  | 0 => .object "BasketEnvoys$World"
  | _ => .array .int
abbrev wsX00 : List Cond := u_ws RX0 TX0 2
theorem nmX0 : ∀ a, a < 2 → ∀ b, b < 2 → a ≠ b → (TX0 a).2.1 ≠ (TX0 b).2.1 := by decide +kernel
theorem tyX0_ok : ∀ k, k < 2 → parseFieldDescriptor (TX0 k).2.2.1 = some (tyX0 k) := by decide +kernel
abbrev cX0_init : ByteArray := prog_2_method_1_code
def yX0_init : MethodName := ⟨RX0, "<init>", "(LBasketEnvoys$World;)V"⟩
abbrev cX0_doByHand : ByteArray := prog_2_method_2_code
def yX0_doByHand : MethodName := ⟨RX0, "doByHand", "(III)V"⟩
abbrev cX0_pass : ByteArray := prog_2_method_3_code
def yX0_pass : MethodName := ⟨RX0, "pass", "(LBasketEnvoys$Town;Z)V"⟩
abbrev cX0_follow : ByteArray := prog_2_method_4_code
def yX0_follow : MethodName := ⟨RX0, "follow", "(LBasketEnvoys$Town;IZ)V"⟩
abbrev cX0_sendTo : ByteArray := prog_2_method_5_code
def yX0_sendTo : MethodName := ⟨RX0, "sendTo", "(LBasketEnvoys$Town;IIZ)V"⟩
abbrev cX0_goHome : ByteArray := prog_2_method_6_code
def yX0_goHome : MethodName := ⟨RX0, "goHome", "(LBasketEnvoys$Town;IZ)V"⟩
abbrev cX0_addTrust : ByteArray := prog_2_method_7_code
def yX0_addTrust : MethodName := ⟨RX0, "addTrust", "(LBasketEnvoys$Town;II)V"⟩
abbrev cX0_prick : ByteArray := prog_2_method_8_code
def yX0_prick : MethodName := ⟨RX0, "prick", "(I)V"⟩
abbrev cX0_takeTurn : ByteArray := prog_2_method_9_code
def yX0_takeTurn : MethodName := ⟨RX0, "takeTurn", "(LBasketEnvoys$Town;IZ)V"⟩
abbrev cX0_falls : ByteArray := prog_2_method_10_code
def yX0_falls : MethodName := ⟨RX0, "falls", "(LBasketEnvoys$Town;IZ)Z"⟩
abbrev cX0_cryOut : ByteArray := prog_2_method_11_code
def yX0_cryOut : MethodName := ⟨RX0, "cryOut", "(LBasketEnvoys$Town;IZ)V"⟩
abbrev cX0_showThing : ByteArray := prog_2_method_12_code
def yX0_showThing : MethodName := ⟨RX0, "showThing", "(LBasketEnvoys$Town;IZ)V"⟩
abbrev cX0_readOn : ByteArray := prog_2_method_13_code
def yX0_readOn : MethodName := ⟨RX0, "readOn", "(LBasketEnvoys$Town;IIZ)V"⟩
abbrev cX0_ask : ByteArray := prog_2_method_14_code
def yX0_ask : MethodName := ⟨RX0, "ask", "(LBasketEnvoys$Town;II)I"⟩
abbrev cX0_gather : ByteArray := prog_2_method_15_code
def yX0_gather : MethodName := ⟨RX0, "gather", "(LBasketEnvoys$Town;II)V"⟩
def RX1 : String := "BasketEnvoys$History"
def TX1 : u_T := fun k => match k with
  | 0 => ("BasketEnvoys$History", "size", "I", false)
  | 1 => ("BasketEnvoys$History", "next", "I", false)
  | _ => ("BasketEnvoys$History", "towns", "[LBasketEnvoys$Town;", true)
def tyX1 : Nat → FieldType := fun k => match k with
  | 0 => .int
  | 1 => .int
  | _ => .array (.object "BasketEnvoys$Town")
abbrev wsX10 : List Cond := u_ws RX1 TX1 3
theorem nmX1 : ∀ a, a < 3 → ∀ b, b < 3 → a ≠ b → (TX1 a).2.1 ≠ (TX1 b).2.1 := by decide +kernel
theorem tyX1_ok : ∀ k, k < 3 → parseFieldDescriptor (TX1 k).2.2.1 = some (tyX1 k) := by decide +kernel
abbrev cX1_init : ByteArray := prog_3_method_1_code
def yX1_init : MethodName := ⟨RX1, "<init>", "()V"⟩
abbrev cX1_keep : ByteArray := prog_3_method_2_code
def yX1_keep : MethodName := ⟨RX1, "keep", "(LBasketEnvoys$Town;)V"⟩
abbrev cX1_giveBack : ByteArray := prog_3_method_3_code
def yX1_giveBack : MethodName := ⟨RX1, "giveBack", "(LBasketEnvoys$Town;)Z"⟩
abbrev cX1_forget : ByteArray := prog_3_method_4_code
def yX1_forget : MethodName := ⟨RX1, "forget", "()V"⟩
abbrev cX1_townAt : ByteArray := prog_3_method_5_code
def yX1_townAt : MethodName := ⟨RX1, "townAt", "(I)LBasketEnvoys$Town;"⟩
def RX2 : String := "BasketEnvoys$Law"
def TX2 : u_T := fun k => match k with
  | 0 => ("BasketEnvoys$Law", "lines", "I", false)
  | 1 => ("BasketEnvoys$Law", "length", "I", false)
  | 2 => ("BasketEnvoys$Law", "word", "[I", true)
  | 3 => ("BasketEnvoys$Law", "from", "[I", true)
  | 4 => ("BasketEnvoys$Law", "when", "[I", true)
  | 5 => ("BasketEnvoys$Law", "to", "[I", true)
  | 6 => ("BasketEnvoys$Law", "code", "[I", true)
  | _ => ("BasketEnvoys$Law", "stack", "[I", true)
def tyX2 : Nat → FieldType := fun k => match k with
  | 0 => .int
  | 1 => .int
  | 2 => .array .int
  | 3 => .array .int
  | 4 => .array .int
  | 5 => .array .int
  | 6 => .array .int
  | _ => .array .int
abbrev wsX20 : List Cond := u_ws RX2 TX2 8
theorem nmX2 : ∀ a, a < 8 → ∀ b, b < 8 → a ≠ b → (TX2 a).2.1 ≠ (TX2 b).2.1 := by decide +kernel
theorem tyX2_ok : ∀ k, k < 8 → parseFieldDescriptor (TX2 k).2.2.1 = some (tyX2 k) := by decide +kernel
abbrev cX2_init : ByteArray := prog_4_method_1_code
def yX2_init : MethodName := ⟨RX2, "<init>", "()V"⟩
abbrev cX2_clear : ByteArray := prog_4_method_2_code
def yX2_clear : MethodName := ⟨RX2, "clear", "()V"⟩
abbrev cX2_copyFrom : ByteArray := prog_4_method_3_code
def yX2_copyFrom : MethodName := ⟨RX2, "copyFrom", "(LBasketEnvoys$Law;)V"⟩
abbrev cX2_emit : ByteArray := prog_4_method_4_code
def yX2_emit : MethodName := ⟨RX2, "emit", "(I)V"⟩
abbrev cX2_here : ByteArray := prog_4_method_5_code
def yX2_here : MethodName := ⟨RX2, "here", "()I"⟩
abbrev cX2_addLine : ByteArray := prog_4_method_6_code
def yX2_addLine : MethodName := ⟨RX2, "addLine", "(III)V"⟩
abbrev cX2_tell : ByteArray := prog_4_method_7_code
def yX2_tell : MethodName := ⟨RX2, "tell", "(I[II)I"⟩
abbrev cX2_run : ByteArray := prog_4_method_8_code
def yX2_run : MethodName := ⟨RX2, "run", "(II[I)I"⟩
abbrev cX2_join : ByteArray := prog_4_method_9_code
def yX2_join : MethodName := ⟨RX2, "join", "(III)I"⟩
def RX3 : String := "BasketEnvoys$Reader"
def TX3 : u_T := fun k => match k with
  | 0 => ("BasketEnvoys$Reader", "tokens", "LBasketEnvoys$Tokens;", true)
  | 1 => ("BasketEnvoys$Reader", "draft", "LBasketEnvoys$Law;", true)
  | _ => ("BasketEnvoys$Reader", "rows", "[I", true)
def tyX3 : Nat → FieldType := fun k => match k with
  | 0 => .object "BasketEnvoys$Tokens"
  | 1 => .object "BasketEnvoys$Law"
  | _ => .array .int
abbrev wsX30 : List Cond := u_ws RX3 TX3 3
theorem nmX3 : ∀ a, a < 3 → ∀ b, b < 3 → a ≠ b → (TX3 a).2.1 ≠ (TX3 b).2.1 := by decide +kernel
theorem tyX3_ok : ∀ k, k < 3 → parseFieldDescriptor (TX3 k).2.2.1 = some (tyX3 k) := by decide +kernel
abbrev cX3_init : ByteArray := prog_5_method_1_code
def yX3_init : MethodName := ⟨RX3, "<init>", "()V"⟩
abbrev cX3_readLaw : ByteArray := prog_5_method_2_code
def yX3_readLaw : MethodName := ⟨RX3, "readLaw", "()I"⟩
abbrev cX3_readLawLine : ByteArray := prog_5_method_3_code
def yX3_readLawLine : MethodName := ⟨RX3, "readLawLine", "(I)V"⟩
abbrev cX3_readAny : ByteArray := prog_5_method_4_code
def yX3_readAny : MethodName := ⟨RX3, "readAny", "(I)V"⟩
abbrev cX3_readCondition : ByteArray := prog_5_method_5_code
def yX3_readCondition : MethodName := ⟨RX3, "readCondition", "(I)V"⟩
abbrev cX3_comparisonHere : ByteArray := prog_5_method_6_code
def yX3_comparisonHere : MethodName := ⟨RX3, "comparisonHere", "()I"⟩
abbrev cX3_readSum : ByteArray := prog_5_method_7_code
def yX3_readSum : MethodName := ⟨RX3, "readSum", "()V"⟩
abbrev cX3_readUnit : ByteArray := prog_5_method_8_code
def yX3_readUnit : MethodName := ⟨RX3, "readUnit", "()V"⟩
abbrev cX3_readRows : ByteArray := prog_5_method_9_code
def yX3_readRows : MethodName := ⟨RX3, "readRows", "(ILBasketEnvoys$Town;)I"⟩
abbrev cX3_readRow : ByteArray := prog_5_method_10_code
def yX3_readRow : MethodName := ⟨RX3, "readRow", "(IILBasketEnvoys$Town;)V"⟩
abbrev cX3_readTongue : ByteArray := prog_5_method_11_code
def yX3_readTongue : MethodName := ⟨RX3, "readTongue", "(ILBasketEnvoys$Town;)V"⟩
abbrev cX3_readCourt : ByteArray := prog_5_method_12_code
def yX3_readCourt : MethodName := ⟨RX3, "readCourt", "(ILBasketEnvoys$Town;)V"⟩
abbrev cX3_readWants : ByteArray := prog_5_method_13_code
def yX3_readWants : MethodName := ⟨RX3, "readWants", "(ILBasketEnvoys$Town;)V"⟩
def RX4 : String := "BasketEnvoys$Riddles"
def TX4 : u_T := fun k => match k with
  | 0 => ("BasketEnvoys$Riddles", "world", "LBasketEnvoys$World;", true)
  | 1 => ("BasketEnvoys$Riddles", "told", "LBasketEnvoys$Told;", true)
  | 2 => ("BasketEnvoys$Riddles", "bySet", "[I", true)
  | 3 => ("BasketEnvoys$Riddles", "alsoBySet", "[I", true)
  | 4 => ("BasketEnvoys$Riddles", "piles", "[I", true)
  | 5 => ("BasketEnvoys$Riddles", "neighbours", "[I", true)
  | 6 => ("BasketEnvoys$Riddles", "painted", "[I", true)
  | 7 => ("BasketEnvoys$Riddles", "paintings", "[I", true)
  | 8 => ("BasketEnvoys$Riddles", "grid", "[I", true)
  | 9 => ("BasketEnvoys$Riddles", "wins", "[Z", true)
  | _ => ("BasketEnvoys$Riddles", "winsKnown", "Z", false)
def tyX4 : Nat → FieldType := fun k => match k with
  | 0 => .object "BasketEnvoys$World"
  | 1 => .object "BasketEnvoys$Told"
  | 2 => .array .int
  | 3 => .array .int
  | 4 => .array .int
  | 5 => .array .int
  | 6 => .array .int
  | 7 => .array .int
  | 8 => .array .int
  | 9 => .array .boolean
  | _ => .boolean
abbrev wsX40 : List Cond := u_ws RX4 TX4 11
theorem nmX4 : ∀ a, a < 11 → ∀ b, b < 11 → a ≠ b → (TX4 a).2.1 ≠ (TX4 b).2.1 := by decide +kernel
theorem tyX4_ok : ∀ k, k < 11 → parseFieldDescriptor (TX4 k).2.2.1 = some (tyX4 k) := by decide +kernel
abbrev cX4_init : ByteArray := prog_6_method_1_code
def yX4_init : MethodName := ⟨RX4, "<init>", "(LBasketEnvoys$World;)V"⟩
abbrev cX4_whoReadsAs : ByteArray := prog_6_method_2_code
def yX4_whoReadsAs : MethodName := ⟨RX4, "whoReadsAs", "(I)I"⟩
abbrev cX4_leastWeight : ByteArray := prog_6_method_3_code
def yX4_leastWeight : MethodName := ⟨RX4, "leastWeight", "(I)I"⟩
abbrev cX4_rowsOfWants : ByteArray := prog_6_method_4_code
def yX4_rowsOfWants : MethodName := ⟨RX4, "rowsOfWants", "(I)I"⟩
abbrev cX4_rowsHeard : ByteArray := prog_6_method_5_code
def yX4_rowsHeard : MethodName := ⟨RX4, "rowsHeard", "(I)I"⟩
abbrev cX4_thingsThatSay : ByteArray := prog_6_method_6_code
def yX4_thingsThatSay : MethodName := ⟨RX4, "thingsThatSay", "(II)I"⟩
abbrev cX4_isHeardSo : ByteArray := prog_6_method_7_code
def yX4_isHeardSo : MethodName := ⟨RX4, "isHeardSo", "(I)Z"⟩
abbrev cX4_leastSigns : ByteArray := prog_6_method_8_code
def yX4_leastSigns : MethodName := ⟨RX4, "leastSigns", "()I"⟩
abbrev cX4_takeLeast : ByteArray := prog_6_method_9_code
def yX4_takeLeast : MethodName := ⟨RX4, "takeLeast", "(I)I"⟩
abbrev cX4_fewestPricks : ByteArray := prog_6_method_10_code
def yX4_fewestPricks : MethodName := ⟨RX4, "fewestPricks", "(II)I"⟩
abbrev cX4_restingCells : ByteArray := prog_6_method_11_code
def yX4_restingCells : MethodName := ⟨RX4, "restingCells", "()I"⟩
abbrev cX4_firstRest : ByteArray := prog_6_method_12_code
def yX4_firstRest : MethodName := ⟨RX4, "firstRest", "()I"⟩
abbrev cX4_rests : ByteArray := prog_6_method_13_code
def yX4_rests : MethodName := ⟨RX4, "rests", "(I)Z"⟩
abbrev cX4_leads : ByteArray := prog_6_method_14_code
def yX4_leads : MethodName := ⟨RX4, "leads", "()I"⟩
abbrev cX4_whatRowGets : ByteArray := prog_6_method_15_code
def yX4_whatRowGets : MethodName := ⟨RX4, "whatRowGets", "(I)I"⟩
abbrev cX4_standChance : ByteArray := prog_6_method_16_code
def yX4_standChance : MethodName := ⟨RX4, "standChance", "(II)I"⟩
abbrev cX4_bestStand : ByteArray := prog_6_method_17_code
def yX4_bestStand : MethodName := ⟨RX4, "bestStand", "(I)I"⟩
abbrev cX4_commonPart : ByteArray := prog_6_method_18_code
def yX4_commonPart : MethodName := ⟨RX4, "commonPart", "(II)I"⟩
abbrev cX4_mostSent : ByteArray := prog_6_method_19_code
def yX4_mostSent : MethodName := ⟨RX4, "mostSent", "(I)I"⟩
abbrev cX4_howSent : ByteArray := prog_6_method_20_code
def yX4_howSent : MethodName := ⟨RX4, "howSent", "(I)I"⟩
abbrev cX4_planSending : ByteArray := prog_6_method_21_code
def yX4_planSending : MethodName := ⟨RX4, "planSending", "(I)V"⟩
abbrev cX4_worthIfSent : ByteArray := prog_6_method_22_code
def yX4_worthIfSent : MethodName := ⟨RX4, "worthIfSent", "(III)I"⟩
abbrev cX4_bestLoad : ByteArray := prog_6_method_23_code
def yX4_bestLoad : MethodName := ⟨RX4, "bestLoad", "(I)I"⟩
abbrev cX4_worthOf : ByteArray := prog_6_method_24_code
def yX4_worthOf : MethodName := ⟨RX4, "worthOf", "(I)I"⟩
abbrev cX4_waysKept : ByteArray := prog_6_method_25_code
def yX4_waysKept : MethodName := ⟨RX4, "waysKept", "()I"⟩
abbrev cX4_leastKept : ByteArray := prog_6_method_26_code
def yX4_leastKept : MethodName := ⟨RX4, "leastKept", "()I"⟩
abbrev cX4_surelyKept : ByteArray := prog_6_method_27_code
def yX4_surelyKept : MethodName := ⟨RX4, "surelyKept", "()I"⟩
abbrev cX4_holds : ByteArray := prog_6_method_28_code
def yX4_holds : MethodName := ⟨RX4, "holds", "(I)Z"⟩
abbrev cX4_waysOfHats : ByteArray := prog_6_method_29_code
def yX4_waysOfHats : MethodName := ⟨RX4, "waysOfHats", "(I)I"⟩
abbrev cX4_fewestColours : ByteArray := prog_6_method_30_code
def yX4_fewestColours : MethodName := ⟨RX4, "fewestColours", "()I"⟩
abbrev cX4_waysPainted : ByteArray := prog_6_method_31_code
def yX4_waysPainted : MethodName := ⟨RX4, "waysPainted", "(I)I"⟩
abbrev cX4_paintAll : ByteArray := prog_6_method_32_code
def yX4_paintAll : MethodName := ⟨RX4, "paintAll", "()V"⟩
abbrev cX4_paint : ByteArray := prog_6_method_33_code
def yX4_paint : MethodName := ⟨RX4, "paint", "(II[I[I[I)V"⟩
abbrev cX4_mostAlike : ByteArray := prog_6_method_34_code
def yX4_mostAlike : MethodName := ⟨RX4, "mostAlike", "()I"⟩
abbrev cX4_fewestChanges : ByteArray := prog_6_method_35_code
def yX4_fewestChanges : MethodName := ⟨RX4, "fewestChanges", "()I"⟩
abbrev cX4_laid : ByteArray := prog_6_method_36_code
def yX4_laid : MethodName := ⟨RX4, "laid", "(II)I"⟩
abbrev cX4_hasEachWordOnce : ByteArray := prog_6_method_37_code
def yX4_hasEachWordOnce : MethodName := ⟨RX4, "hasEachWordOnce", "(I)Z"⟩
abbrev cX4_madeOf : ByteArray := prog_6_method_38_code
def yX4_madeOf : MethodName := ⟨RX4, "madeOf", "(II)I"⟩
abbrev cX4_becomes : ByteArray := prog_6_method_39_code
def yX4_becomes : MethodName := ⟨RX4, "becomes", "(I)I"⟩
abbrev cX4_roundsOfWords : ByteArray := prog_6_method_40_code
def yX4_roundsOfWords : MethodName := ⟨RX4, "roundsOfWords", "()I"⟩
abbrev cX4_roundsOf : ByteArray := prog_6_method_41_code
def yX4_roundsOf : MethodName := ⟨RX4, "roundsOf", "(I)I"⟩
abbrev cX4_beginning : ByteArray := prog_6_method_42_code
def yX4_beginning : MethodName := ⟨RX4, "beginning", "(IIIZ)I"⟩
abbrev cX4_learnSilence : ByteArray := prog_6_method_43_code
def yX4_learnSilence : MethodName := ⟨RX4, "learnSilence", "()V"⟩
abbrev cX4_firstWinningMove : ByteArray := prog_6_method_44_code
def yX4_firstWinningMove : MethodName := ⟨RX4, "firstWinningMove", "(IIIZ)I"⟩
abbrev cX4_isWon : ByteArray := prog_6_method_45_code
def yX4_isWon : MethodName := ⟨RX4, "isWon", "(I)Z"⟩
def RX5 : String := "BasketEnvoys$Row"
def TX5 : u_T := fun k => match k with
  | 0 => ("BasketEnvoys$Row", "size", "I", false)
  | _ => ("BasketEnvoys$Row", "cells", "[I", true)
def tyX5 : Nat → FieldType := fun k => match k with
  | 0 => .int
  | _ => .array .int
abbrev wsX50 : List Cond := u_ws RX5 TX5 2
theorem nmX5 : ∀ a, a < 2 → ∀ b, b < 2 → a ≠ b → (TX5 a).2.1 ≠ (TX5 b).2.1 := by decide +kernel
theorem tyX5_ok : ∀ k, k < 2 → parseFieldDescriptor (TX5 k).2.2.1 = some (tyX5 k) := by decide +kernel
abbrev cX5_init : ByteArray := prog_7_method_1_code
def yX5_init : MethodName := ⟨RX5, "<init>", "(I)V"⟩
abbrev cX5_tell : ByteArray := prog_7_method_2_code
def yX5_tell : MethodName := ⟨RX5, "tell", "(IZ)I"⟩
abbrev cX5_empty : ByteArray := prog_7_method_3_code
def yX5_empty : MethodName := ⟨RX5, "empty", "()I"⟩
abbrev cX5_add : ByteArray := prog_7_method_4_code
def yX5_add : MethodName := ⟨RX5, "add", "(IZ)I"⟩
abbrev cX5_get : ByteArray := prog_7_method_5_code
def yX5_get : MethodName := ⟨RX5, "get", "(I)I"⟩
abbrev cX5_copyFrom : ByteArray := prog_7_method_6_code
def yX5_copyFrom : MethodName := ⟨RX5, "copyFrom", "(LBasketEnvoys$Row;)V"⟩
def RX6 : String := "BasketEnvoys$Tokens"
def TX6 : u_T := fun k => match k with
  | 0 => ("BasketEnvoys$Tokens", "length", "I", false)
  | 1 => ("BasketEnvoys$Tokens", "fault", "I", false)
  | 2 => ("BasketEnvoys$Tokens", "faultPlace", "I", false)
  | 3 => ("BasketEnvoys$Tokens", "count", "I", false)
  | 4 => ("BasketEnvoys$Tokens", "next", "I", false)
  | 5 => ("BasketEnvoys$Tokens", "kindHere", "I", false)
  | 6 => ("BasketEnvoys$Tokens", "valueHere", "I", false)
  | 7 => ("BasketEnvoys$Tokens", "placeHere", "I", false)
  | 8 => ("BasketEnvoys$Tokens", "tape", "[C", true)
  | 9 => ("BasketEnvoys$Tokens", "kind", "[I", true)
  | 10 => ("BasketEnvoys$Tokens", "place", "[I", true)
  | 11 => ("BasketEnvoys$Tokens", "width", "[I", true)
  | _ => ("BasketEnvoys$Tokens", "value", "[I", true)
def tyX6 : Nat → FieldType := fun k => match k with
  | 0 => .int
  | 1 => .int
  | 2 => .int
  | 3 => .int
  | 4 => .int
  | 5 => .int
  | 6 => .int
  | 7 => .int
  | 8 => .array .char
  | 9 => .array .int
  | 10 => .array .int
  | 11 => .array .int
  | _ => .array .int
abbrev wsX60 : List Cond := u_ws RX6 TX6 13
theorem nmX6 : ∀ a, a < 13 → ∀ b, b < 13 → a ≠ b → (TX6 a).2.1 ≠ (TX6 b).2.1 := by decide +kernel
theorem tyX6_ok : ∀ k, k < 13 → parseFieldDescriptor (TX6 k).2.2.1 = some (tyX6 k) := by decide +kernel
abbrev cX6_init : ByteArray := prog_8_method_1_code
def yX6_init : MethodName := ⟨RX6, "<init>", "()V"⟩
abbrev cX6_hasRoom : ByteArray := prog_8_method_2_code
def yX6_hasRoom : MethodName := ⟨RX6, "hasRoom", "()Z"⟩
abbrev cX6_addBytes : ByteArray := prog_8_method_3_code
def yX6_addBytes : MethodName := ⟨RX6, "addBytes", "(I)V"⟩
abbrev cX6_clearFault : ByteArray := prog_8_method_4_code
def yX6_clearFault : MethodName := ⟨RX6, "clearFault", "()V"⟩
abbrev cX6_scan : ByteArray := prog_8_method_5_code
def yX6_scan : MethodName := ⟨RX6, "scan", "(Ljava/lang/String;)V"⟩
abbrev cX6_kindOf : ByteArray := prog_8_method_6_code
def yX6_kindOf : MethodName := ⟨RX6, "kindOf", "(C)I"⟩
abbrev cX6_add : ByteArray := prog_8_method_7_code
def yX6_add : MethodName := ⟨RX6, "add", "(II)V"⟩
abbrev cX6_settle : ByteArray := prog_8_method_8_code
def yX6_settle : MethodName := ⟨RX6, "settle", "(ILjava/lang/String;)V"⟩
abbrev cX6_signAt : ByteArray := prog_8_method_9_code
def yX6_signAt : MethodName := ⟨RX6, "signAt", "(I)C"⟩
abbrev cX6_readNumber : ByteArray := prog_8_method_10_code
def yX6_readNumber : MethodName := ⟨RX6, "readNumber", "(II)I"⟩
abbrev cX6_numberOfWord : ByteArray := prog_8_method_11_code
def yX6_numberOfWord : MethodName := ⟨RX6, "numberOfWord", "(Ljava/lang/String;II)I"⟩
abbrev cX6_isAt : ByteArray := prog_8_method_12_code
def yX6_isAt : MethodName := ⟨RX6, "isAt", "(Ljava/lang/String;III)Z"⟩
abbrev cX6_refuse : ByteArray := prog_8_method_13_code
def yX6_refuse : MethodName := ⟨RX6, "refuse", "(I)V"⟩
abbrev cX6_goesOn : ByteArray := prog_8_method_14_code
def yX6_goesOn : MethodName := ⟨RX6, "goesOn", "()Z"⟩
abbrev cX6_isWord : ByteArray := prog_8_method_15_code
def yX6_isWord : MethodName := ⟨RX6, "isWord", "(I)Z"⟩
abbrev cX6_isNumber : ByteArray := prog_8_method_16_code
def yX6_isNumber : MethodName := ⟨RX6, "isNumber", "()Z"⟩
abbrev cX6_wordHere : ByteArray := prog_8_method_17_code
def yX6_wordHere : MethodName := ⟨RX6, "wordHere", "()I"⟩
abbrev cX6_numberHere : ByteArray := prog_8_method_18_code
def yX6_numberHere : MethodName := ⟨RX6, "numberHere", "()I"⟩
abbrev cX6_signHere : ByteArray := prog_8_method_19_code
def yX6_signHere : MethodName := ⟨RX6, "signHere", "()C"⟩
abbrev cX6_skip : ByteArray := prog_8_method_20_code
def yX6_skip : MethodName := ⟨RX6, "skip", "()V"⟩
abbrev cX6_takeWord : ByteArray := prog_8_method_21_code
def yX6_takeWord : MethodName := ⟨RX6, "takeWord", "(I)V"⟩
abbrev cX6_takeSign : ByteArray := prog_8_method_22_code
def yX6_takeSign : MethodName := ⟨RX6, "takeSign", "(C)V"⟩
abbrev cX6_takeNumber : ByteArray := prog_8_method_23_code
def yX6_takeNumber : MethodName := ⟨RX6, "takeNumber", "(II)I"⟩
def RX7 : String := "BasketEnvoys$Told"
def TX7 : u_T := fun k => match k with
  | 0 => ("BasketEnvoys$Told", "things", "LBasketEnvoys$Row;", true)
  | 1 => ("BasketEnvoys$Told", "meanings", "LBasketEnvoys$Row;", true)
  | 2 => ("BasketEnvoys$Told", "counts", "LBasketEnvoys$Row;", true)
  | 3 => ("BasketEnvoys$Told", "loads", "LBasketEnvoys$Row;", true)
  | 4 => ("BasketEnvoys$Told", "promises", "LBasketEnvoys$Row;", true)
  | 5 => ("BasketEnvoys$Told", "borders", "LBasketEnvoys$Row;", true)
  | 6 => ("BasketEnvoys$Told", "firstCloths", "LBasketEnvoys$Row;", true)
  | 7 => ("BasketEnvoys$Told", "secondCloths", "LBasketEnvoys$Row;", true)
  | 8 => ("BasketEnvoys$Told", "interpreters", "LBasketEnvoys$Row;", true)
  | 9 => ("BasketEnvoys$Told", "weights", "[I", true)
  | 10 => ("BasketEnvoys$Told", "firstTable", "[I", true)
  | 11 => ("BasketEnvoys$Told", "secondTable", "[I", true)
  | 12 => ("BasketEnvoys$Told", "worths", "[I", true)
  | _ => ("BasketEnvoys$Told", "hats", "[I", true)
def tyX7 : Nat → FieldType := fun k => match k with
  | 0 => .object "BasketEnvoys$Row"
  | 1 => .object "BasketEnvoys$Row"
  | 2 => .object "BasketEnvoys$Row"
  | 3 => .object "BasketEnvoys$Row"
  | 4 => .object "BasketEnvoys$Row"
  | 5 => .object "BasketEnvoys$Row"
  | 6 => .object "BasketEnvoys$Row"
  | 7 => .object "BasketEnvoys$Row"
  | 8 => .object "BasketEnvoys$Row"
  | 9 => .array .int
  | 10 => .array .int
  | 11 => .array .int
  | 12 => .array .int
  | _ => .array .int
abbrev wsX70 : List Cond := u_ws RX7 TX7 14
theorem nmX7 : ∀ a, a < 14 → ∀ b, b < 14 → a ≠ b → (TX7 a).2.1 ≠ (TX7 b).2.1 := by decide +kernel
theorem tyX7_ok : ∀ k, k < 14 → parseFieldDescriptor (TX7 k).2.2.1 = some (tyX7 k) := by decide +kernel
abbrev cX7_init : ByteArray := prog_9_method_1_code
def yX7_init : MethodName := ⟨RX7, "<init>", "()V"⟩
abbrev cX7_copyFrom : ByteArray := prog_9_method_2_code
def yX7_copyFrom : MethodName := ⟨RX7, "copyFrom", "(LBasketEnvoys$Told;)V"⟩
def RX8 : String := "BasketEnvoys$Town"
def TX8 : u_T := fun k => match k with
  | 0 => ("BasketEnvoys$Town", "powers", "I", false)
  | 1 => ("BasketEnvoys$Town", "mutes", "I", false)
  | 2 => ("BasketEnvoys$Town", "ports", "I", false)
  | 3 => ("BasketEnvoys$Town", "lost", "I", false)
  | 4 => ("BasketEnvoys$Town", "day", "I", false)
  | 5 => ("BasketEnvoys$Town", "draws", "I", false)
  | 6 => ("BasketEnvoys$Town", "bookLines", "I", false)
  | 7 => ("BasketEnvoys$Town", "trust", "[I", true)
  | 8 => ("BasketEnvoys$Town", "step", "[I", true)
  | 9 => ("BasketEnvoys$Town", "nods", "[I", true)
  | 10 => ("BasketEnvoys$Town", "treaties", "[I", true)
  | 11 => ("BasketEnvoys$Town", "skill", "[I", true)
  | 12 => ("BasketEnvoys$Town", "grief", "[I", true)
  | 13 => ("BasketEnvoys$Town", "isFalse", "[I", true)
  | 14 => ("BasketEnvoys$Town", "at", "[I", true)
  | 15 => ("BasketEnvoys$Town", "known", "[I", true)
  | 16 => ("BasketEnvoys$Town", "carries", "[I", true)
  | 17 => ("BasketEnvoys$Town", "shown", "[I", true)
  | _ => ("BasketEnvoys$Town", "baskets", "[I", true)
def tyX8 : Nat → FieldType := fun k => match k with
  | 0 => .int
  | 1 => .int
  | 2 => .int
  | 3 => .int
  | 4 => .int
  | 5 => .int
  | 6 => .int
  | 7 => .array .int
  | 8 => .array .int
  | 9 => .array .int
  | 10 => .array .int
  | 11 => .array .int
  | 12 => .array .int
  | 13 => .array .int
  | 14 => .array .int
  | 15 => .array .int
  | 16 => .array .int
  | 17 => .array .int
  | _ => .array .int
abbrev wsX80 : List Cond := u_ws RX8 TX8 19
theorem nmX8 : ∀ a, a < 19 → ∀ b, b < 19 → a ≠ b → (TX8 a).2.1 ≠ (TX8 b).2.1 := by decide +kernel
theorem tyX8_ok : ∀ k, k < 19 → parseFieldDescriptor (TX8 k).2.2.1 = some (tyX8 k) := by decide +kernel
abbrev cX8_init : ByteArray := prog_10_method_1_code
def yX8_init : MethodName := ⟨RX8, "<init>", "()V"⟩
abbrev cX8_copyFrom : ByteArray := prog_10_method_2_code
def yX8_copyFrom : MethodName := ⟨RX8, "copyFrom", "(LBasketEnvoys$Town;)V"⟩
abbrev cX8_addPower : ByteArray := prog_10_method_3_code
def yX8_addPower : MethodName := ⟨RX8, "addPower", "(I)I"⟩
abbrev cX8_addMute : ByteArray := prog_10_method_4_code
def yX8_addMute : MethodName := ⟨RX8, "addMute", "(IIZ)I"⟩
abbrev cX8_change : ByteArray := prog_10_method_5_code
def yX8_change : MethodName := ⟨RX8, "change", "(III)Z"⟩
abbrev cX8_allows : ByteArray := prog_10_method_6_code
def yX8_allows : MethodName := ⟨RX8, "allows", "(III)Z"⟩
abbrev cX8_hasPower : ByteArray := prog_10_method_7_code
def yX8_hasPower : MethodName := ⟨RX8, "hasPower", "(I)Z"⟩
abbrev cX8_hasMute : ByteArray := prog_10_method_8_code
def yX8_hasMute : MethodName := ⟨RX8, "hasMute", "(I)Z"⟩
abbrev cX8_isHome : ByteArray := prog_10_method_9_code
def yX8_isHome : MethodName := ⟨RX8, "isHome", "(I)Z"⟩
abbrev cX8_isAway : ByteArray := prog_10_method_10_code
def yX8_isAway : MethodName := ⟨RX8, "isAway", "(I)Z"⟩
abbrev cX8_whoIsAt : ByteArray := prog_10_method_11_code
def yX8_whoIsAt : MethodName := ⟨RX8, "whoIsAt", "(I)I"⟩
abbrev cX8_whoIsAway : ByteArray := prog_10_method_12_code
def yX8_whoIsAway : MethodName := ⟨RX8, "whoIsAway", "()I"⟩
abbrev cX8_whoIsKnown : ByteArray := prog_10_method_13_code
def yX8_whoIsKnown : MethodName := ⟨RX8, "whoIsKnown", "()I"⟩
abbrev cX8_thingOf : ByteArray := prog_10_method_14_code
def yX8_thingOf : MethodName := ⟨RX8, "thingOf", "(II)I"⟩
abbrev cX8_nextThing : ByteArray := prog_10_method_15_code
def yX8_nextThing : MethodName := ⟨RX8, "nextThing", "(I)I"⟩
abbrev cX8_putThing : ByteArray := prog_10_method_16_code
def yX8_putThing : MethodName := ⟨RX8, "putThing", "(II)V"⟩
abbrev cX8_drawsBelow : ByteArray := prog_10_method_17_code
def yX8_drawsBelow : MethodName := ⟨RX8, "drawsBelow", "(I)Z"⟩
def RX9 : String := "BasketEnvoys$World"
def TX9 : u_T := fun k => match k with
  | 0 => ("BasketEnvoys$World", "town", "LBasketEnvoys$Town;", true)
  | 1 => ("BasketEnvoys$World", "told", "LBasketEnvoys$Told;", true)
  | 2 => ("BasketEnvoys$World", "law", "LBasketEnvoys$Law;", true)
  | 3 => ("BasketEnvoys$World", "book", "[I", true)
  | 4 => ("BasketEnvoys$World", "lines", "[I", true)
  | 5 => ("BasketEnvoys$World", "says", "[I", true)
  | 6 => ("BasketEnvoys$World", "court", "[I", true)
  | 7 => ("BasketEnvoys$World", "wants", "[I", true)
  | _ => ("BasketEnvoys$World", "wanted", "[I", true)
def tyX9 : Nat → FieldType := fun k => match k with
  | 0 => .object "BasketEnvoys$Town"
  | 1 => .object "BasketEnvoys$Told"
  | 2 => .object "BasketEnvoys$Law"
  | 3 => .array .int
  | 4 => .array .int
  | 5 => .array .int
  | 6 => .array .int
  | 7 => .array .int
  | _ => .array .int
abbrev wsX90 : List Cond := u_ws RX9 TX9 9
theorem nmX9 : ∀ a, a < 9 → ∀ b, b < 9 → a ≠ b → (TX9 a).2.1 ≠ (TX9 b).2.1 := by decide +kernel
theorem tyX9_ok : ∀ k, k < 9 → parseFieldDescriptor (TX9 k).2.2.1 = some (tyX9 k) := by decide +kernel
abbrev cX9_init : ByteArray := prog_11_method_1_code
def yX9_init : MethodName := ⟨RX9, "<init>", "()V"⟩
abbrev cX9_copyFrom : ByteArray := prog_11_method_2_code
def yX9_copyFrom : MethodName := ⟨RX9, "copyFrom", "(LBasketEnvoys$World;)V"⟩
abbrev cX9_letThingsSayThemselves : ByteArray := prog_11_method_3_code
def yX9_letThingsSayThemselves : MethodName := ⟨RX9, "letThingsSayThemselves", "()V"⟩
abbrev cX9_tell : ByteArray := prog_11_method_4_code
def yX9_tell : MethodName := ⟨RX9, "tell", "(I[II)V"⟩
abbrev cX9_tellTongues : ByteArray := prog_11_method_5_code
def yX9_tellTongues : MethodName := ⟨RX9, "tellTongues", "([II)V"⟩
abbrev cX9_tellCourt : ByteArray := prog_11_method_6_code
def yX9_tellCourt : MethodName := ⟨RX9, "tellCourt", "([II)V"⟩
abbrev cX9_tellWants : ByteArray := prog_11_method_7_code
def yX9_tellWants : MethodName := ⟨RX9, "tellWants", "([II)V"⟩
abbrev cX9_saysTo : ByteArray := prog_11_method_8_code
def yX9_saysTo : MethodName := ⟨RX9, "saysTo", "(II)I"⟩
abbrev cX9_wantedBy : ByteArray := prog_11_method_9_code
def yX9_wantedBy : MethodName := ⟨RX9, "wantedBy", "(I)I"⟩
abbrev cX9_wantAt : ByteArray := prog_11_method_10_code
def yX9_wantAt : MethodName := ⟨RX9, "wantAt", "(II)I"⟩
abbrev cX9_courtAt : ByteArray := prog_11_method_11_code
def yX9_courtAt : MethodName := ⟨RX9, "courtAt", "(II)I"⟩
abbrev cX9_write : ByteArray := prog_11_method_12_code
def yX9_write : MethodName := ⟨RX9, "write", "(III)V"⟩
def RX10 : String := "BasketEnvoys"
def TX10 : u_T := fun k => match k with
  | 0 => ("BasketEnvoys", "now", "LBasketEnvoys$World;", true)
  | 1 => ("BasketEnvoys", "imaged", "LBasketEnvoys$World;", true)
  | 2 => ("BasketEnvoys", "imageTaken", "Z", false)
  | 3 => ("BasketEnvoys", "thought", "LBasketEnvoys$Town;", true)
  | 4 => ("BasketEnvoys", "history", "LBasketEnvoys$History;", true)
  | 5 => ("BasketEnvoys", "reader", "LBasketEnvoys$Reader;", true)
  | 6 => ("BasketEnvoys", "course", "LBasketEnvoys$Course;", true)
  | _ => ("BasketEnvoys", "riddles", "LBasketEnvoys$Riddles;", true)
def tyX10 : Nat → FieldType := fun k => match k with
  | 0 => .object "BasketEnvoys$World"
  | 1 => .object "BasketEnvoys$World"
  | 2 => .boolean
  | 3 => .object "BasketEnvoys$Town"
  | 4 => .object "BasketEnvoys$History"
  | 5 => .object "BasketEnvoys$Reader"
  | 6 => .object "BasketEnvoys$Course"
  | _ => .object "BasketEnvoys$Riddles"
abbrev wsX100 : List Cond := u_ws RX10 TX10 8
theorem nmX10 : ∀ a, a < 8 → ∀ b, b < 8 → a ≠ b → (TX10 a).2.1 ≠ (TX10 b).2.1 := by decide +kernel
theorem tyX10_ok : ∀ k, k < 8 → parseFieldDescriptor (TX10 k).2.2.1 = some (tyX10 k) := by decide +kernel
abbrev cX10_init : ByteArray := prog_1_method_1_code
def yX10_init : MethodName := ⟨RX10, "<init>", "()V"⟩
abbrev cX10_state : ByteArray := prog_1_method_2_code
def yX10_state : MethodName := ⟨RX10, "state", "(I)I"⟩
abbrev cX10_power : ByteArray := prog_1_method_3_code
def yX10_power : MethodName := ⟨RX10, "power", "(I)I"⟩
abbrev cX10_mute : ByteArray := prog_1_method_4_code
def yX10_mute : MethodName := ⟨RX10, "mute", "(IIZ)I"⟩
abbrev cX10_set : ByteArray := prog_1_method_5_code
def yX10_set : MethodName := ⟨RX10, "set", "(III)Z"⟩
abbrev cX10_act : ByteArray := prog_1_method_6_code
def yX10_act : MethodName := ⟨RX10, "act", "(III)Z"⟩
abbrev cX10_days : ByteArray := prog_1_method_7_code
def yX10_days : MethodName := ⟨RX10, "days", "(I)I"⟩
abbrev cX10_feed : ByteArray := prog_1_method_8_code
def yX10_feed : MethodName := ⟨RX10, "feed", "(IIIII)I"⟩
abbrev cX10_end : ByteArray := prog_1_method_9_code
def yX10_end : MethodName := ⟨RX10, "end", "(I)Z"⟩
abbrev cX10_text : ByteArray := prog_1_method_10_code
def yX10_text : MethodName := ⟨RX10, "text", "(I)I"⟩
abbrev cX10_fault : ByteArray := prog_1_method_11_code
def yX10_fault : MethodName := ⟨RX10, "fault", "(I)I"⟩
abbrev cX10_of : ByteArray := prog_1_method_12_code
def yX10_of : MethodName := ⟨RX10, "of", "(II)I"⟩
abbrev cX10_powerOf : ByteArray := prog_1_method_13_code
def yX10_powerOf : MethodName := ⟨RX10, "powerOf", "(II)I"⟩
abbrev cX10_book : ByteArray := prog_1_method_14_code
def yX10_book : MethodName := ⟨RX10, "book", "(II)I"⟩
abbrev cX10_goes : ByteArray := prog_1_method_15_code
def yX10_goes : MethodName := ⟨RX10, "goes", "(II)I"⟩
abbrev cX10_peace : ByteArray := prog_1_method_16_code
def yX10_peace : MethodName := ⟨RX10, "peace", "(I)I"⟩
abbrev cX10_shows : ByteArray := prog_1_method_17_code
def yX10_shows : MethodName := ⟨RX10, "shows", "(I)I"⟩
abbrev cX10_alike : ByteArray := prog_1_method_18_code
def yX10_alike : MethodName := ⟨RX10, "alike", "(I)I"⟩
abbrev cX10_weighs : ByteArray := prog_1_method_19_code
def yX10_weighs : MethodName := ⟨RX10, "weighs", "(II)Z"⟩
abbrev cX10_lightest : ByteArray := prog_1_method_20_code
def yX10_lightest : MethodName := ⟨RX10, "lightest", "(II)I"⟩
abbrev cX10_hears : ByteArray := prog_1_method_21_code
def yX10_hears : MethodName := ⟨RX10, "hears", "(I)I"⟩
abbrev cX10_heard : ByteArray := prog_1_method_22_code
def yX10_heard : MethodName := ⟨RX10, "heard", "(II)I"⟩
abbrev cX10_count : ByteArray := prog_1_method_23_code
def yX10_count : MethodName := ⟨RX10, "count", "(I)I"⟩
abbrev cX10_signs : ByteArray := prog_1_method_24_code
def yX10_signs : MethodName := ⟨RX10, "signs", "()I"⟩
abbrev cX10_pins : ByteArray := prog_1_method_25_code
def yX10_pins : MethodName := ⟨RX10, "pins", "(II)I"⟩
abbrev cX10_table : ByteArray := prog_1_method_26_code
def yX10_table : MethodName := ⟨RX10, "table", "(III)Z"⟩
abbrev cX10_tables : ByteArray := prog_1_method_27_code
def yX10_tables : MethodName := ⟨RX10, "tables", "(I)I"⟩
abbrev cX10_stand : ByteArray := prog_1_method_28_code
def yX10_stand : MethodName := ⟨RX10, "stand", "(III)I"⟩
abbrev cX10_worth : ByteArray := prog_1_method_29_code
def yX10_worth : MethodName := ⟨RX10, "worth", "(III)Z"⟩
abbrev cX10_sent : ByteArray := prog_1_method_30_code
def yX10_sent : MethodName := ⟨RX10, "sent", "(II)I"⟩
abbrev cX10_load : ByteArray := prog_1_method_31_code
def yX10_load : MethodName := ⟨RX10, "load", "(II)I"⟩
abbrev cX10_carried : ByteArray := prog_1_method_32_code
def yX10_carried : MethodName := ⟨RX10, "carried", "(II)I"⟩
abbrev cX10_promise : ByteArray := prog_1_method_33_code
def yX10_promise : MethodName := ⟨RX10, "promise", "(III)I"⟩
abbrev cX10_kept : ByteArray := prog_1_method_34_code
def yX10_kept : MethodName := ⟨RX10, "kept", "(I)I"⟩
abbrev cX10_hat : ByteArray := prog_1_method_35_code
def yX10_hat : MethodName := ⟨RX10, "hat", "(II)Z"⟩
abbrev cX10_hats : ByteArray := prog_1_method_36_code
def yX10_hats : MethodName := ⟨RX10, "hats", "(I)I"⟩
abbrev cX10_border : ByteArray := prog_1_method_37_code
def yX10_border : MethodName := ⟨RX10, "border", "(II)I"⟩
abbrev cX10_map : ByteArray := prog_1_method_38_code
def yX10_map : MethodName := ⟨RX10, "map", "(I)I"⟩
abbrev cX10_cloth : ByteArray := prog_1_method_39_code
def yX10_cloth : MethodName := ⟨RX10, "cloth", "(II)I"⟩
abbrev cX10_cloths : ByteArray := prog_1_method_40_code
def yX10_cloths : MethodName := ⟨RX10, "cloths", "(I)I"⟩
abbrev cX10_interpreter : ByteArray := prog_1_method_41_code
def yX10_interpreter : MethodName := ⟨RX10, "interpreter", "(I)I"⟩
abbrev cX10_word : ByteArray := prog_1_method_42_code
def yX10_word : MethodName := ⟨RX10, "word", "(I)I"⟩
abbrev cX10_silence : ByteArray := prog_1_method_43_code
def yX10_silence : MethodName := ⟨RX10, "silence", "(IIIZ)I"⟩
abbrev cX10_undo : ByteArray := prog_1_method_44_code
def yX10_undo : MethodName := ⟨RX10, "undo", "()Z"⟩
abbrev cX10_image : ByteArray := prog_1_method_45_code
def yX10_image : MethodName := ⟨RX10, "image", "(Z)Z"⟩
abbrev cX10_look : ByteArray := prog_1_method_46_code
def yX10_look : MethodName := ⟨RX10, "look", "(I)I"⟩
abbrev cX10_couldShow : ByteArray := prog_1_method_47_code
def yX10_couldShow : MethodName := ⟨RX10, "couldShow", "(I)Z"⟩
abbrev cX10_within : ByteArray := prog_1_method_48_code
def yX10_within : MethodName := ⟨RX10, "within", "(III)Z"⟩
abbrev cX10_sum : ByteArray := prog_1_method_49_code
def yX10_sum : MethodName := ⟨RX10, "sum", "([I)I"⟩
abbrev cX10_put : ByteArray := prog_1_method_50_code
def yX10_put : MethodName := ⟨RX10, "put", "([IIIZ)Z"⟩
abbrev cX10_entry : ByteArray := prog_1_method_51_code
def yX10_entry : MethodName := ⟨RX10, "entry", "([II)I"⟩
abbrev cX10_copy : ByteArray := prog_1_method_52_code
def yX10_copy : MethodName := ⟨RX10, "copy", "([I[I)V"⟩
def RX11 : String := "BasketEnvoysModel"
def TX11 : u_T := fun k => match k with
  | 0 => ("BasketEnvoysModel", "w", "[I", true)
  | 1 => ("BasketEnvoysModel", "kept", "[I", true)
  | 2 => ("BasketEnvoysModel", "back", "[I", true)
  | 3 => ("BasketEnvoysModel", "lying", "[I", true)
  | 4 => ("BasketEnvoysModel", "backMany", "I", false)
  | 5 => ("BasketEnvoysModel", "hasImage", "Z", false)
  | 6 => ("BasketEnvoysModel", "freshLine", "[I", true)
  | 7 => ("BasketEnvoysModel", "freshStep", "[I", true)
  | 8 => ("BasketEnvoysModel", "freshRow", "[I", true)
  | 9 => ("BasketEnvoysModel", "tape", "[I", true)
  | 10 => ("BasketEnvoysModel", "pile", "[I", true)
  | 11 => ("BasketEnvoysModel", "facts", "[I", true)
  | 12 => ("BasketEnvoysModel", "reading", "I", false)
  | 13 => ("BasketEnvoysModel", "lines", "I", false)
  | 14 => ("BasketEnvoysModel", "steps", "I", false)
  | 15 => ("BasketEnvoysModel", "rows", "I", false)
  | 16 => ("BasketEnvoysModel", "taped", "I", false)
  | 17 => ("BasketEnvoysModel", "at", "I", false)
  | 18 => ("BasketEnvoysModel", "token", "I", false)
  | 19 => ("BasketEnvoysModel", "tokenAt", "I", false)
  | 20 => ("BasketEnvoysModel", "value", "I", false)
  | 21 => ("BasketEnvoysModel", "wrong", "I", false)
  | 22 => ("BasketEnvoysModel", "wrongAt", "I", false)
  | 23 => ("BasketEnvoysModel", "faultKind", "I", false)
  | 24 => ("BasketEnvoysModel", "depth", "I", false)
  | 25 => ("BasketEnvoysModel", "faultPlace", "I", false)
  | 26 => ("BasketEnvoysModel", "isTrue", "Z", false)
  | 27 => ("BasketEnvoysModel", "heap", "[I", true)
  | 28 => ("BasketEnvoysModel", "found", "[Z", true)
  | 29 => ("BasketEnvoysModel", "foundThen", "[Z", true)
  | 30 => ("BasketEnvoysModel", "mostFor", "[I", true)
  | 31 => ("BasketEnvoysModel", "waysFor", "[I", true)
  | 32 => ("BasketEnvoysModel", "waysThen", "[I", true)
  | 33 => ("BasketEnvoysModel", "oneRow", "[I", true)
  | 34 => ("BasketEnvoysModel", "changed", "[I", true)
  | 35 => ("BasketEnvoysModel", "digit", "[I", true)
  | _ => ("BasketEnvoysModel", "lost", "[Z", true)
def tyX11 : Nat → FieldType := fun k => match k with
  | 0 => .array .int
  | 1 => .array .int
  | 2 => .array .int
  | 3 => .array .int
  | 4 => .int
  | 5 => .boolean
  | 6 => .array .int
  | 7 => .array .int
  | 8 => .array .int
  | 9 => .array .int
  | 10 => .array .int
  | 11 => .array .int
  | 12 => .int
  | 13 => .int
  | 14 => .int
  | 15 => .int
  | 16 => .int
  | 17 => .int
  | 18 => .int
  | 19 => .int
  | 20 => .int
  | 21 => .int
  | 22 => .int
  | 23 => .int
  | 24 => .int
  | 25 => .int
  | 26 => .boolean
  | 27 => .array .int
  | 28 => .array .boolean
  | 29 => .array .boolean
  | 30 => .array .int
  | 31 => .array .int
  | 32 => .array .int
  | 33 => .array .int
  | 34 => .array .int
  | 35 => .array .int
  | _ => .array .boolean
abbrev wsX110 : List Cond := u_ws RX11 TX11 37
theorem nmX11 : ∀ a, a < 37 → ∀ b, b < 37 → a ≠ b → (TX11 a).2.1 ≠ (TX11 b).2.1 := by decide +kernel
theorem tyX11_ok : ∀ k, k < 37 → parseFieldDescriptor (TX11 k).2.2.1 = some (tyX11 k) := by decide +kernel
abbrev cX11_init : ByteArray := prog_13_method_1_code
def yX11_init : MethodName := ⟨RX11, "<init>", "()V"⟩
abbrev cX11_layNone : ByteArray := prog_13_method_2_code
def yX11_layNone : MethodName := ⟨RX11, "layNone", "()V"⟩
abbrev cX11_isIn : ByteArray := prog_13_method_3_code
def yX11_isIn : MethodName := ⟨RX11, "isIn", "(III)Z"⟩
abbrev cX11_lesser : ByteArray := prog_13_method_4_code
def yX11_lesser : MethodName := ⟨RX11, "lesser", "(II)I"⟩
abbrev cX11_greater : ByteArray := prog_13_method_5_code
def yX11_greater : MethodName := ⟨RX11, "greater", "(II)I"⟩
abbrev cX11_bitsOf : ByteArray := prog_13_method_6_code
def yX11_bitsOf : MethodName := ⟨RX11, "bitsOf", "(I)I"⟩
abbrev cX11_common : ByteArray := prog_13_method_7_code
def yX11_common : MethodName := ⟨RX11, "common", "(II)I"⟩
abbrev cX11_isPower : ByteArray := prog_13_method_8_code
def yX11_isPower : MethodName := ⟨RX11, "isPower", "(I)Z"⟩
abbrev cX11_isMute : ByteArray := prog_13_method_9_code
def yX11_isMute : MethodName := ⟨RX11, "isMute", "(I)Z"⟩
abbrev cX11_forgets : ByteArray := prog_13_method_10_code
def yX11_forgets : MethodName := ⟨RX11, "forgets", "()V"⟩
abbrev cX11_state : ByteArray := prog_13_method_11_code
def yX11_state : MethodName := ⟨RX11, "state", "(I)I"⟩
abbrev cX11_draw : ByteArray := prog_13_method_12_code
def yX11_draw : MethodName := ⟨RX11, "draw", "(I)I"⟩
abbrev cX11_power : ByteArray := prog_13_method_13_code
def yX11_power : MethodName := ⟨RX11, "power", "(I)I"⟩
abbrev cX11_mute : ByteArray := prog_13_method_14_code
def yX11_mute : MethodName := ⟨RX11, "mute", "(IIZ)I"⟩
abbrev cX11_set : ByteArray := prog_13_method_15_code
def yX11_set : MethodName := ⟨RX11, "set", "(III)Z"⟩
abbrev cX11_feed : ByteArray := prog_13_method_16_code
def yX11_feed : MethodName := ⟨RX11, "feed", "(IIIII)I"⟩
abbrev cX11_end : ByteArray := prog_13_method_17_code
def yX11_end : MethodName := ⟨RX11, "end", "(I)Z"⟩
abbrev cX11_see : ByteArray := prog_13_method_18_code
def yX11_see : MethodName := ⟨RX11, "see", "(I)I"⟩
abbrev cX11_isLetter : ByteArray := prog_13_method_19_code
def yX11_isLetter : MethodName := ⟨RX11, "isLetter", "(I)Z"⟩
abbrev cX11_isDigit : ByteArray := prog_13_method_20_code
def yX11_isDigit : MethodName := ⟨RX11, "isDigit", "(I)Z"⟩
abbrev cX11_is : ByteArray := prog_13_method_21_code
def yX11_is : MethodName := ⟨RX11, "is", "(Ljava/lang/String;)Z"⟩
abbrev cX11_asked : ByteArray := prog_13_method_22_code
def yX11_asked : MethodName := ⟨RX11, "asked", "()I"⟩
abbrev cX11_lawWord : ByteArray := prog_13_method_23_code
def yX11_lawWord : MethodName := ⟨RX11, "lawWord", "()I"⟩
abbrev cX11_courtWord : ByteArray := prog_13_method_24_code
def yX11_courtWord : MethodName := ⟨RX11, "courtWord", "()I"⟩
abbrev cX11_wordOf : ByteArray := prog_13_method_25_code
def yX11_wordOf : MethodName := ⟨RX11, "wordOf", "()I"⟩
abbrev cX11_next0 : ByteArray := prog_13_method_26_code
def yX11_next0 : MethodName := ⟨RX11, "next0", "()V"⟩
abbrev cX11_bad : ByteArray := prog_13_method_27_code
def yX11_bad : MethodName := ⟨RX11, "bad", "(I)Z"⟩
abbrev cX11_need : ByteArray := prog_13_method_28_code
def yX11_need : MethodName := ⟨RX11, "need", "(I)Z"⟩
abbrev cX11_lay : ByteArray := prog_13_method_29_code
def yX11_lay : MethodName := ⟨RX11, "lay", "(II)V"⟩
abbrev cX11_opens : ByteArray := prog_13_method_30_code
def yX11_opens : MethodName := ⟨RX11, "opens", "()Z"⟩
abbrev cX11_sumUp : ByteArray := prog_13_method_31_code
def yX11_sumUp : MethodName := ⟨RX11, "sumUp", "()Z"⟩
abbrev cX11_product : ByteArray := prog_13_method_32_code
def yX11_product : MethodName := ⟨RX11, "product", "()Z"⟩
abbrev cX11_unit : ByteArray := prog_13_method_33_code
def yX11_unit : MethodName := ⟨RX11, "unit", "()Z"⟩
abbrev cX11_any : ByteArray := prog_13_method_34_code
def yX11_any : MethodName := ⟨RX11, "any", "()Z"⟩
abbrev cX11_every : ByteArray := prog_13_method_35_code
def yX11_every : MethodName := ⟨RX11, "every", "()Z"⟩
abbrev cX11_oneTest : ByteArray := prog_13_method_36_code
def yX11_oneTest : MethodName := ⟨RX11, "oneTest", "()Z"⟩
abbrev cX11_aLine : ByteArray := prog_13_method_37_code
def yX11_aLine : MethodName := ⟨RX11, "aLine", "()Z"⟩
abbrev cX11_readsLaw : ByteArray := prog_13_method_38_code
def yX11_readsLaw : MethodName := ⟨RX11, "readsLaw", "()Z"⟩
abbrev cX11_number : ByteArray := prog_13_method_39_code
def yX11_number : MethodName := ⟨RX11, "number", "(III)Z"⟩
abbrev cX11_told : ByteArray := prog_13_method_40_code
def yX11_told : MethodName := ⟨RX11, "told", "(IIII)Z"⟩
abbrev cX11_aTongue : ByteArray := prog_13_method_41_code
def yX11_aTongue : MethodName := ⟨RX11, "aTongue", "()Z"⟩
abbrev cX11_aCourtDay : ByteArray := prog_13_method_42_code
def yX11_aCourtDay : MethodName := ⟨RX11, "aCourtDay", "()Z"⟩
abbrev cX11_aWant : ByteArray := prog_13_method_43_code
def yX11_aWant : MethodName := ⟨RX11, "aWant", "()Z"⟩
abbrev cX11_aRow : ByteArray := prog_13_method_44_code
def yX11_aRow : MethodName := ⟨RX11, "aRow", "()Z"⟩
abbrev cX11_readsRows : ByteArray := prog_13_method_45_code
def yX11_readsRows : MethodName := ⟨RX11, "readsRows", "()Z"⟩
abbrev cX11_putsLaw : ByteArray := prog_13_method_46_code
def yX11_putsLaw : MethodName := ⟨RX11, "putsLaw", "()I"⟩
abbrev cX11_puts : ByteArray := prog_13_method_47_code
def yX11_puts : MethodName := ⟨RX11, "puts", "(III)I"⟩
abbrev cX11_putsText : ByteArray := prog_13_method_48_code
def yX11_putsText : MethodName := ⟨RX11, "putsText", "(I)I"⟩
abbrev cX11_text : ByteArray := prog_13_method_49_code
def yX11_text : MethodName := ⟨RX11, "text", "(I)I"⟩
abbrev cX11_fault : ByteArray := prog_13_method_50_code
def yX11_fault : MethodName := ⟨RX11, "fault", "(I)I"⟩
abbrev cX11_both : ByteArray := prog_13_method_51_code
def yX11_both : MethodName := ⟨RX11, "both", "(III)I"⟩
abbrev cX11_comesTo : ByteArray := prog_13_method_52_code
def yX11_comesTo : MethodName := ⟨RX11, "comesTo", "(II)I"⟩
abbrev cX11_isSo : ByteArray := prog_13_method_53_code
def yX11_isSo : MethodName := ⟨RX11, "isSo", "(I)Z"⟩
abbrev cX11_lawSays : ByteArray := prog_13_method_54_code
def yX11_lawSays : MethodName := ⟨RX11, "lawSays", "(III)I"⟩
abbrev cX11_meaning : ByteArray := prog_13_method_55_code
def yX11_meaning : MethodName := ⟨RX11, "meaning", "(II)I"⟩
abbrev cX11_asks : ByteArray := prog_13_method_56_code
def yX11_asks : MethodName := ⟨RX11, "asks", "(II)V"⟩
abbrev cX11_criesOf : ByteArray := prog_13_method_57_code
def yX11_criesOf : MethodName := ⟨RX11, "criesOf", "(I)I"⟩
abbrev cX11_nodsOf : ByteArray := prog_13_method_58_code
def yX11_nodsOf : MethodName := ⟨RX11, "nodsOf", "(II)I"⟩
abbrev cX11_winsOf : ByteArray := prog_13_method_59_code
def yX11_winsOf : MethodName := ⟨RX11, "winsOf", "(II)I"⟩
abbrev cX11_nextThing : ByteArray := prog_13_method_60_code
def yX11_nextThing : MethodName := ⟨RX11, "nextThing", "(I)I"⟩
abbrev cX11_keeps : ByteArray := prog_13_method_61_code
def yX11_keeps : MethodName := ⟨RX11, "keeps", "()V"⟩
abbrev cX11_undo : ByteArray := prog_13_method_62_code
def yX11_undo : MethodName := ⟨RX11, "undo", "()Z"⟩
abbrev cX11_notes : ByteArray := prog_13_method_63_code
def yX11_notes : MethodName := ⟨RX11, "notes", "(III)V"⟩
abbrev cX11_falls : ByteArray := prog_13_method_64_code
def yX11_falls : MethodName := ⟨RX11, "falls", "(I)Z"⟩
abbrev cX11_sends : ByteArray := prog_13_method_65_code
def yX11_sends : MethodName := ⟨RX11, "sends", "(II)V"⟩
abbrev cX11_calls : ByteArray := prog_13_method_66_code
def yX11_calls : MethodName := ⟨RX11, "calls", "(I)V"⟩
abbrev cX11_canAct : ByteArray := prog_13_method_67_code
def yX11_canAct : MethodName := ⟨RX11, "canAct", "(III)Z"⟩
abbrev cX11_act : ByteArray := prog_13_method_68_code
def yX11_act : MethodName := ⟨RX11, "act", "(III)Z"⟩
abbrev cX11_court : ByteArray := prog_13_method_69_code
def yX11_court : MethodName := ⟨RX11, "court", "()V"⟩
abbrev cX11_criesOut : ByteArray := prog_13_method_70_code
def yX11_criesOut : MethodName := ⟨RX11, "criesOut", "(I)V"⟩
abbrev cX11_isRead : ByteArray := prog_13_method_71_code
def yX11_isRead : MethodName := ⟨RX11, "isRead", "(III)V"⟩
abbrev cX11_isNoddedAt : ByteArray := prog_13_method_72_code
def yX11_isNoddedAt : MethodName := ⟨RX11, "isNoddedAt", "(II)Z"⟩
abbrev cX11_turnOf : ByteArray := prog_13_method_73_code
def yX11_turnOf : MethodName := ⟨RX11, "turnOf", "(I)I"⟩
abbrev cX11_goesBy : ByteArray := prog_13_method_74_code
def yX11_goesBy : MethodName := ⟨RX11, "goesBy", "()I"⟩
abbrev cX11_days : ByteArray := prog_13_method_75_code
def yX11_days : MethodName := ⟨RX11, "days", "(I)I"⟩
abbrev cX11_atOf : ByteArray := prog_13_method_76_code
def yX11_atOf : MethodName := ⟨RX11, "atOf", "(I)I"⟩
abbrev cX11_of : ByteArray := prog_13_method_77_code
def yX11_of : MethodName := ⟨RX11, "of", "(II)I"⟩
abbrev cX11_powerOf : ByteArray := prog_13_method_78_code
def yX11_powerOf : MethodName := ⟨RX11, "powerOf", "(II)I"⟩
abbrev cX11_book : ByteArray := prog_13_method_79_code
def yX11_book : MethodName := ⟨RX11, "book", "(II)I"⟩
abbrev cX11_thinks : ByteArray := prog_13_method_80_code
def yX11_thinks : MethodName := ⟨RX11, "thinks", "()V"⟩
abbrev cX11_putsBack : ByteArray := prog_13_method_81_code
def yX11_putsBack : MethodName := ⟨RX11, "putsBack", "()V"⟩
abbrev cX11_together : ByteArray := prog_13_method_82_code
def yX11_together : MethodName := ⟨RX11, "together", "(I)I"⟩
abbrev cX11_goes : ByteArray := prog_13_method_83_code
def yX11_goes : MethodName := ⟨RX11, "goes", "(II)I"⟩
abbrev cX11_peace : ByteArray := prog_13_method_84_code
def yX11_peace : MethodName := ⟨RX11, "peace", "(I)I"⟩
abbrev cX11_tellsOne : ByteArray := prog_13_method_85_code
def yX11_tellsOne : MethodName := ⟨RX11, "tellsOne", "(III)I"⟩
abbrev cX11_endsRow : ByteArray := prog_13_method_86_code
def yX11_endsRow : MethodName := ⟨RX11, "endsRow", "(I)I"⟩
abbrev cX11_shows : ByteArray := prog_13_method_87_code
def yX11_shows : MethodName := ⟨RX11, "shows", "(I)I"⟩
abbrev cX11_readAlike : ByteArray := prog_13_method_88_code
def yX11_readAlike : MethodName := ⟨RX11, "readAlike", "(II)Z"⟩
abbrev cX11_alike : ByteArray := prog_13_method_89_code
def yX11_alike : MethodName := ⟨RX11, "alike", "(I)I"⟩
abbrev cX11_weighs : ByteArray := prog_13_method_90_code
def yX11_weighs : MethodName := ⟨RX11, "weighs", "(II)Z"⟩
abbrev cX11_sayingSo : ByteArray := prog_13_method_91_code
def yX11_sayingSo : MethodName := ⟨RX11, "sayingSo", "(II)I"⟩
abbrev cX11_lightestSaying : ByteArray := prog_13_method_92_code
def yX11_lightestSaying : MethodName := ⟨RX11, "lightestSaying", "(II)I"⟩
abbrev cX11_lightest : ByteArray := prog_13_method_93_code
def yX11_lightest : MethodName := ⟨RX11, "lightest", "(II)I"⟩
abbrev cX11_hears : ByteArray := prog_13_method_94_code
def yX11_hears : MethodName := ⟨RX11, "hears", "(I)I"⟩
abbrev cX11_isReadSo : ByteArray := prog_13_method_95_code
def yX11_isReadSo : MethodName := ⟨RX11, "isReadSo", "(I)Z"⟩
abbrev cX11_heard : ByteArray := prog_13_method_96_code
def yX11_heard : MethodName := ⟨RX11, "heard", "(II)I"⟩
abbrev cX11_count : ByteArray := prog_13_method_97_code
def yX11_count : MethodName := ⟨RX11, "count", "(I)I"⟩
abbrev cX11_leastHeap : ByteArray := prog_13_method_98_code
def yX11_leastHeap : MethodName := ⟨RX11, "leastHeap", "(II)I"⟩
abbrev cX11_signs : ByteArray := prog_13_method_99_code
def yX11_signs : MethodName := ⟨RX11, "signs", "()I"⟩
abbrev cX11_canPart : ByteArray := prog_13_method_100_code
def yX11_canPart : MethodName := ⟨RX11, "canPart", "(II)Z"⟩
abbrev cX11_onePrickMore : ByteArray := prog_13_method_101_code
def yX11_onePrickMore : MethodName := ⟨RX11, "onePrickMore", "(I)V"⟩
abbrev cX11_pins : ByteArray := prog_13_method_102_code
def yX11_pins : MethodName := ⟨RX11, "pins", "(II)I"⟩
abbrev cX11_table : ByteArray := prog_13_method_103_code
def yX11_table : MethodName := ⟨RX11, "table", "(III)Z"⟩
abbrev cX11_gets : ByteArray := prog_13_method_104_code
def yX11_gets : MethodName := ⟨RX11, "gets", "(III)I"⟩
abbrev cX11_rests : ByteArray := prog_13_method_105_code
def yX11_rests : MethodName := ⟨RX11, "rests", "(II)Z"⟩
abbrev cX11_led : ByteArray := prog_13_method_106_code
def yX11_led : MethodName := ⟨RX11, "led", "(I)I"⟩
abbrev cX11_tables : ByteArray := prog_13_method_107_code
def yX11_tables : MethodName := ⟨RX11, "tables", "(I)I"⟩
abbrev cX11_luck : ByteArray := prog_13_method_108_code
def yX11_luck : MethodName := ⟨RX11, "luck", "(II)I"⟩
abbrev cX11_stand : ByteArray := prog_13_method_109_code
def yX11_stand : MethodName := ⟨RX11, "stand", "(III)I"⟩
abbrev cX11_worth : ByteArray := prog_13_method_110_code
def yX11_worth : MethodName := ⟨RX11, "worth", "(III)Z"⟩
abbrev cX11_layMostFor : ByteArray := prog_13_method_111_code
def yX11_layMostFor : MethodName := ⟨RX11, "layMostFor", "(I)V"⟩
abbrev cX11_sent : ByteArray := prog_13_method_112_code
def yX11_sent : MethodName := ⟨RX11, "sent", "(II)I"⟩
abbrev cX11_load : ByteArray := prog_13_method_113_code
def yX11_load : MethodName := ⟨RX11, "load", "(II)I"⟩
abbrev cX11_allOf : ByteArray := prog_13_method_114_code
def yX11_allOf : MethodName := ⟨RX11, "allOf", "(II)I"⟩
abbrev cX11_carried : ByteArray := prog_13_method_115_code
def yX11_carried : MethodName := ⟨RX11, "carried", "(II)I"⟩
abbrev cX11_promise : ByteArray := prog_13_method_116_code
def yX11_promise : MethodName := ⟨RX11, "promise", "(III)I"⟩
abbrev cX11_allHold : ByteArray := prog_13_method_117_code
def yX11_allHold : MethodName := ⟨RX11, "allHold", "(I)Z"⟩
abbrev cX11_kept : ByteArray := prog_13_method_118_code
def yX11_kept : MethodName := ⟨RX11, "kept", "(I)I"⟩
abbrev cX11_hat : ByteArray := prog_13_method_119_code
def yX11_hat : MethodName := ⟨RX11, "hat", "(II)Z"⟩
abbrev cX11_hats : ByteArray := prog_13_method_120_code
def yX11_hats : MethodName := ⟨RX11, "hats", "(I)I"⟩
abbrev cX11_border : ByteArray := prog_13_method_121_code
def yX11_border : MethodName := ⟨RX11, "border", "(II)I"⟩
abbrev cX11_canBeOne : ByteArray := prog_13_method_122_code
def yX11_canBeOne : MethodName := ⟨RX11, "canBeOne", "(I)Z"⟩
abbrev cX11_oneColourMore : ByteArray := prog_13_method_123_code
def yX11_oneColourMore : MethodName := ⟨RX11, "oneColourMore", "()V"⟩
abbrev cX11_map : ByteArray := prog_13_method_124_code
def yX11_map : MethodName := ⟨RX11, "map", "(I)I"⟩
abbrev cX11_cloth : ByteArray := prog_13_method_125_code
def yX11_cloth : MethodName := ⟨RX11, "cloth", "(II)I"⟩
abbrev cX11_layCloths : ByteArray := prog_13_method_126_code
def yX11_layCloths : MethodName := ⟨RX11, "layCloths", "()V"⟩
abbrev cX11_cloths : ByteArray := prog_13_method_127_code
def yX11_cloths : MethodName := ⟨RX11, "cloths", "(I)I"⟩
abbrev cX11_areFive : ByteArray := prog_13_method_128_code
def yX11_areFive : MethodName := ⟨RX11, "areFive", "(I)Z"⟩
abbrev cX11_interpreter : ByteArray := prog_13_method_129_code
def yX11_interpreter : MethodName := ⟨RX11, "interpreter", "(I)I"⟩
abbrev cX11_becomes : ByteArray := prog_13_method_130_code
def yX11_becomes : MethodName := ⟨RX11, "becomes", "(I)I"⟩
abbrev cX11_word : ByteArray := prog_13_method_131_code
def yX11_word : MethodName := ⟨RX11, "word", "(I)I"⟩
abbrev cX11_lies : ByteArray := prog_13_method_132_code
def yX11_lies : MethodName := ⟨RX11, "lies", "(IIII)I"⟩
abbrev cX11_onHeap : ByteArray := prog_13_method_133_code
def yX11_onHeap : MethodName := ⟨RX11, "onHeap", "(II)I"⟩
abbrev cX11_begins : ByteArray := prog_13_method_134_code
def yX11_begins : MethodName := ⟨RX11, "begins", "(I)I"⟩
abbrev cX11_silence : ByteArray := prog_13_method_135_code
def yX11_silence : MethodName := ⟨RX11, "silence", "(IIIZ)I"⟩
abbrev cX11_image : ByteArray := prog_13_method_136_code
def yX11_image : MethodName := ⟨RX11, "image", "(Z)Z"⟩
abbrev cX11_those : ByteArray := prog_13_method_137_code
def yX11_those : MethodName := ⟨RX11, "those", "(Z)I"⟩
abbrev cX11_look : ByteArray := prog_13_method_138_code
def yX11_look : MethodName := ⟨RX11, "look", "(I)I"⟩
abbrev vwCl : List vw_C := [(RX0, TX0, 2), (RX1, TX1, 3), (RX2, TX2, 8), (RX3, TX3, 3), (RX4, TX4, 11), (RX5, TX5, 2), (RX6, TX6, 13), (RX7, TX7, 14), (RX8, TX8, 19), (RX9, TX9, 9), (RX10, TX10, 8), (RX11, TX11, 37)]
