-- ===== PART A: goes FIRST, ahead of the names: the tables' words, and 'selects' of the private methods out of them =====
/-- a private method of a class that the tables say can be made, by its rows of tables_1 -/
def lw_okq (q : MethodName × Nat) : Prop := (q.1.cls ≠ "java/lang/invoke/MethodHandle" ∧ q.1.cls ≠ "java/lang/invoke/VarHandle") ∧ Cond.instantiable q.1.cls q.2 ∈ tables_1 ∧ Cond.privateMethod q.1 ∈ tables_1 ∧ Cond.instanceMethod q.1 ∈ tables_1
theorem lw_p0 : lw_okq (⟨"LeftoverRule", "wrong", "(I)I"⟩, 9) := ⟨⟨by decide +kernel, by decide +kernel⟩, List.mem_of_getElem? (i := 13) (by decide +kernel), List.mem_of_getElem? (i := 251) (by decide +kernel), List.mem_of_getElem? (i := 252) (by decide +kernel)⟩
theorem lw_p1 : lw_okq (⟨"LeftoverRule$Table", "claimOfKind", "(I)I"⟩, 11) := ⟨⟨by decide +kernel, by decide +kernel⟩, List.mem_of_getElem? (i := 50) (by decide +kernel), List.mem_of_getElem? (i := 272) (by decide +kernel), List.mem_of_getElem? (i := 273) (by decide +kernel)⟩
theorem lw_p2 : lw_okq (⟨"LeftoverRule$Law", "withoutText", "(II)I"⟩, 5) := ⟨⟨by decide +kernel, by decide +kernel⟩, List.mem_of_getElem? (i := 27) (by decide +kernel), List.mem_of_getElem? (i := 280) (by decide +kernel), List.mem_of_getElem? (i := 281) (by decide +kernel)⟩
theorem lw_p3 : lw_okq (⟨"LeftoverRule$Reader", "readLevel", "(II)V"⟩, 6) := ⟨⟨by decide +kernel, by decide +kernel⟩, List.mem_of_getElem? (i := 137) (by decide +kernel), List.mem_of_getElem? (i := 356) (by decide +kernel), List.mem_of_getElem? (i := 357) (by decide +kernel)⟩
theorem lw_p4 : lw_okq (⟨"LeftoverRule$Reader", "readQ", "(I)V"⟩, 6) := ⟨⟨by decide +kernel, by decide +kernel⟩, List.mem_of_getElem? (i := 137) (by decide +kernel), List.mem_of_getElem? (i := 360) (by decide +kernel), List.mem_of_getElem? (i := 361) (by decide +kernel)⟩
theorem lw_p5 : lw_okq (⟨"LeftoverRule$Reader", "next", "()I"⟩, 6) := ⟨⟨by decide +kernel, by decide +kernel⟩, List.mem_of_getElem? (i := 137) (by decide +kernel), List.mem_of_getElem? (i := 364) (by decide +kernel), List.mem_of_getElem? (i := 365) (by decide +kernel)⟩
theorem lw_p6 : lw_okq (⟨"LeftoverRule$Reader", "nameOf", "(I)I"⟩, 6) := ⟨⟨by decide +kernel, by decide +kernel⟩, List.mem_of_getElem? (i := 137) (by decide +kernel), List.mem_of_getElem? (i := 368) (by decide +kernel), List.mem_of_getElem? (i := 369) (by decide +kernel)⟩
theorem lw_p7 : lw_okq (⟨"LeftoverRule$Reader", "readNumber", "()V"⟩, 6) := ⟨⟨by decide +kernel, by decide +kernel⟩, List.mem_of_getElem? (i := 137) (by decide +kernel), List.mem_of_getElem? (i := 377) (by decide +kernel), List.mem_of_getElem? (i := 378) (by decide +kernel)⟩
theorem lw_p8 : lw_okq (⟨"LeftoverRule$Reader", "readClosing", "()V"⟩, 6) := ⟨⟨by decide +kernel, by decide +kernel⟩, List.mem_of_getElem? (i := 137) (by decide +kernel), List.mem_of_getElem? (i := 385) (by decide +kernel), List.mem_of_getElem? (i := 386) (by decide +kernel)⟩
theorem lw_p9 : lw_okq (⟨"LeftoverRule", "lawOf", "(I)LLeftoverRule$Law;"⟩, 9) := ⟨⟨by decide +kernel, by decide +kernel⟩, List.mem_of_getElem? (i := 13) (by decide +kernel), List.mem_of_getElem? (i := 392) (by decide +kernel), List.mem_of_getElem? (i := 393) (by decide +kernel)⟩
theorem lw_p10 : lw_okq (⟨"LeftoverRule$Table", "eat", "(II)I"⟩, 11) := ⟨⟨by decide +kernel, by decide +kernel⟩, List.mem_of_getElem? (i := 50) (by decide +kernel), List.mem_of_getElem? (i := 423) (by decide +kernel), List.mem_of_getElem? (i := 424) (by decide +kernel)⟩
theorem lw_p11 : lw_okq (⟨"LeftoverRule$Table", "leastClaim", "()I"⟩, 11) := ⟨⟨by decide +kernel, by decide +kernel⟩, List.mem_of_getElem? (i := 50) (by decide +kernel), List.mem_of_getElem? (i := 428) (by decide +kernel), List.mem_of_getElem? (i := 429) (by decide +kernel)⟩
theorem lw_p12 : lw_okq (⟨"LeftoverRule$House", "draw", "()I"⟩, 8) := ⟨⟨by decide +kernel, by decide +kernel⟩, List.mem_of_getElem? (i := 21) (by decide +kernel), List.mem_of_getElem? (i := 456) (by decide +kernel), List.mem_of_getElem? (i := 457) (by decide +kernel)⟩
theorem lw_p13 : lw_okq (⟨"LeftoverRule", "rulesWithout", "(IIII)Z"⟩, 9) := ⟨⟨by decide +kernel, by decide +kernel⟩, List.mem_of_getElem? (i := 13) (by decide +kernel), List.mem_of_getElem? (i := 493) (by decide +kernel), List.mem_of_getElem? (i := 494) (by decide +kernel)⟩
theorem lw_p14 : lw_okq (⟨"LeftoverRule", "tellsSizes", "(LLeftoverRule$Sheet;)Z"⟩, 9) := ⟨⟨by decide +kernel, by decide +kernel⟩, List.mem_of_getElem? (i := 13) (by decide +kernel), List.mem_of_getElem? (i := 523) (by decide +kernel), List.mem_of_getElem? (i := 524) (by decide +kernel)⟩
theorem lw_p15 : lw_okq (⟨"LeftoverRule$Voices", "say", "(IIII)I"⟩, 6) := ⟨⟨by decide +kernel, by decide +kernel⟩, List.mem_of_getElem? (i := 165) (by decide +kernel), List.mem_of_getElem? (i := 535) (by decide +kernel), List.mem_of_getElem? (i := 536) (by decide +kernel)⟩
def lw_privs_1 : List (MethodName × Nat) := [(⟨"LeftoverRule", "wrong", "(I)I"⟩, 9), (⟨"LeftoverRule$Table", "claimOfKind", "(I)I"⟩, 11), (⟨"LeftoverRule$Law", "withoutText", "(II)I"⟩, 5), (⟨"LeftoverRule$Reader", "readLevel", "(II)V"⟩, 6), (⟨"LeftoverRule$Reader", "readQ", "(I)V"⟩, 6), (⟨"LeftoverRule$Reader", "next", "()I"⟩, 6), (⟨"LeftoverRule$Reader", "nameOf", "(I)I"⟩, 6), (⟨"LeftoverRule$Reader", "readNumber", "()V"⟩, 6), (⟨"LeftoverRule$Reader", "readClosing", "()V"⟩, 6), (⟨"LeftoverRule", "lawOf", "(I)LLeftoverRule$Law;"⟩, 9), (⟨"LeftoverRule$Table", "eat", "(II)I"⟩, 11), (⟨"LeftoverRule$Table", "leastClaim", "()I"⟩, 11), (⟨"LeftoverRule$House", "draw", "()I"⟩, 8), (⟨"LeftoverRule", "rulesWithout", "(IIII)Z"⟩, 9), (⟨"LeftoverRule", "tellsSizes", "(LLeftoverRule$Sheet;)Z"⟩, 9), (⟨"LeftoverRule$Voices", "say", "(IIII)I"⟩, 6)]
theorem lw_r1 : ∀ q ∈ lw_privs_1, lw_okq q := List.forall_mem_cons.mpr ⟨lw_p0, List.forall_mem_cons.mpr ⟨lw_p1, List.forall_mem_cons.mpr ⟨lw_p2, List.forall_mem_cons.mpr ⟨lw_p3, List.forall_mem_cons.mpr ⟨lw_p4, List.forall_mem_cons.mpr ⟨lw_p5, List.forall_mem_cons.mpr ⟨lw_p6, List.forall_mem_cons.mpr ⟨lw_p7, List.forall_mem_cons.mpr ⟨lw_p8, List.forall_mem_cons.mpr ⟨lw_p9, List.forall_mem_cons.mpr ⟨lw_p10, List.forall_mem_cons.mpr ⟨lw_p11, List.forall_mem_cons.mpr ⟨lw_p12, List.forall_mem_cons.mpr ⟨lw_p13, List.forall_mem_cons.mpr ⟨lw_p14, List.forall_mem_cons.mpr ⟨lw_p15, fun _ h => absurd h List.not_mem_nil⟩⟩⟩⟩⟩⟩⟩⟩⟩⟩⟩⟩⟩⟩⟩⟩
theorem lw_p16 : lw_okq (⟨"LeftoverRule$Voices", "began", "(I)V"⟩, 6) := ⟨⟨by decide +kernel, by decide +kernel⟩, List.mem_of_getElem? (i := 165) (by decide +kernel), List.mem_of_getElem? (i := 545) (by decide +kernel), List.mem_of_getElem? (i := 546) (by decide +kernel)⟩
theorem lw_p17 : lw_okq (⟨"LeftoverRule$Voices", "part", "(I)I"⟩, 6) := ⟨⟨by decide +kernel, by decide +kernel⟩, List.mem_of_getElem? (i := 165) (by decide +kernel), List.mem_of_getElem? (i := 549) (by decide +kernel), List.mem_of_getElem? (i := 550) (by decide +kernel)⟩
theorem lw_p18 : lw_okq (⟨"LeftoverRule$Voices", "partOfJoint", "(II)I"⟩, 6) := ⟨⟨by decide +kernel, by decide +kernel⟩, List.mem_of_getElem? (i := 165) (by decide +kernel), List.mem_of_getElem? (i := 553) (by decide +kernel), List.mem_of_getElem? (i := 554) (by decide +kernel)⟩
theorem lw_p19 : lw_okq (⟨"LeftoverRuleModel", "error", "(I)I"⟩, 22) := ⟨⟨by decide +kernel, by decide +kernel⟩, List.mem_of_getElem? (i := 625) (by decide +kernel), List.mem_of_getElem? (i := 706) (by decide +kernel), List.mem_of_getElem? (i := 707) (by decide +kernel)⟩
theorem lw_p20 : lw_okq (⟨"LeftoverRuleModel", "whole", "()Z"⟩, 22) := ⟨⟨by decide +kernel, by decide +kernel⟩, List.mem_of_getElem? (i := 625) (by decide +kernel), List.mem_of_getElem? (i := 716) (by decide +kernel), List.mem_of_getElem? (i := 717) (by decide +kernel)⟩
theorem lw_p21 : lw_okq (⟨"LeftoverRuleModel", "both", "()Z"⟩, 22) := ⟨⟨by decide +kernel, by decide +kernel⟩, List.mem_of_getElem? (i := 625) (by decide +kernel), List.mem_of_getElem? (i := 720) (by decide +kernel), List.mem_of_getElem? (i := 721) (by decide +kernel)⟩
theorem lw_p22 : lw_okq (⟨"LeftoverRuleModel", "compared", "()Z"⟩, 22) := ⟨⟨by decide +kernel, by decide +kernel⟩, List.mem_of_getElem? (i := 625) (by decide +kernel), List.mem_of_getElem? (i := 724) (by decide +kernel), List.mem_of_getElem? (i := 725) (by decide +kernel)⟩
theorem lw_p23 : lw_okq (⟨"LeftoverRuleModel", "sum", "()Z"⟩, 22) := ⟨⟨by decide +kernel, by decide +kernel⟩, List.mem_of_getElem? (i := 625) (by decide +kernel), List.mem_of_getElem? (i := 728) (by decide +kernel), List.mem_of_getElem? (i := 729) (by decide +kernel)⟩
theorem lw_p24 : lw_okq (⟨"LeftoverRuleModel", "product", "()Z"⟩, 22) := ⟨⟨by decide +kernel, by decide +kernel⟩, List.mem_of_getElem? (i := 625) (by decide +kernel), List.mem_of_getElem? (i := 732) (by decide +kernel), List.mem_of_getElem? (i := 733) (by decide +kernel)⟩
theorem lw_p25 : lw_okq (⟨"LeftoverRuleModel", "one", "()Z"⟩, 22) := ⟨⟨by decide +kernel, by decide +kernel⟩, List.mem_of_getElem? (i := 625) (by decide +kernel), List.mem_of_getElem? (i := 736) (by decide +kernel), List.mem_of_getElem? (i := 737) (by decide +kernel)⟩
theorem lw_p26 : lw_okq (⟨"LeftoverRuleModel", "look", "()I"⟩, 22) := ⟨⟨by decide +kernel, by decide +kernel⟩, List.mem_of_getElem? (i := 625) (by decide +kernel), List.mem_of_getElem? (i := 740) (by decide +kernel), List.mem_of_getElem? (i := 741) (by decide +kernel)⟩
theorem lw_p27 : lw_okq (⟨"LeftoverRuleModel", "isName", "(I)Z"⟩, 22) := ⟨⟨by decide +kernel, by decide +kernel⟩, List.mem_of_getElem? (i := 625) (by decide +kernel), List.mem_of_getElem? (i := 744) (by decide +kernel), List.mem_of_getElem? (i := 745) (by decide +kernel)⟩
theorem lw_p28 : lw_okq (⟨"LeftoverRuleModel", "step1", "(II)V"⟩, 22) := ⟨⟨by decide +kernel, by decide +kernel⟩, List.mem_of_getElem? (i := 625) (by decide +kernel), List.mem_of_getElem? (i := 748) (by decide +kernel), List.mem_of_getElem? (i := 749) (by decide +kernel)⟩
theorem lw_p29 : lw_okq (⟨"LeftoverRuleModel", "opens", "()Z"⟩, 22) := ⟨⟨by decide +kernel, by decide +kernel⟩, List.mem_of_getElem? (i := 625) (by decide +kernel), List.mem_of_getElem? (i := 752) (by decide +kernel), List.mem_of_getElem? (i := 753) (by decide +kernel)⟩
theorem lw_p30 : lw_okq (⟨"LeftoverRuleModel", "hasText", "(I)Z"⟩, 22) := ⟨⟨by decide +kernel, by decide +kernel⟩, List.mem_of_getElem? (i := 625) (by decide +kernel), List.mem_of_getElem? (i := 760) (by decide +kernel), List.mem_of_getElem? (i := 761) (by decide +kernel)⟩
theorem lw_p31 : lw_okq (⟨"LeftoverRuleModel", "laysDish", "(III)V"⟩, 22) := ⟨⟨by decide +kernel, by decide +kernel⟩, List.mem_of_getElem? (i := 625) (by decide +kernel), List.mem_of_getElem? (i := 771) (by decide +kernel), List.mem_of_getElem? (i := 772) (by decide +kernel)⟩
def lw_privs_2 : List (MethodName × Nat) := [(⟨"LeftoverRule$Voices", "began", "(I)V"⟩, 6), (⟨"LeftoverRule$Voices", "part", "(I)I"⟩, 6), (⟨"LeftoverRule$Voices", "partOfJoint", "(II)I"⟩, 6), (⟨"LeftoverRuleModel", "error", "(I)I"⟩, 22), (⟨"LeftoverRuleModel", "whole", "()Z"⟩, 22), (⟨"LeftoverRuleModel", "both", "()Z"⟩, 22), (⟨"LeftoverRuleModel", "compared", "()Z"⟩, 22), (⟨"LeftoverRuleModel", "sum", "()Z"⟩, 22), (⟨"LeftoverRuleModel", "product", "()Z"⟩, 22), (⟨"LeftoverRuleModel", "one", "()Z"⟩, 22), (⟨"LeftoverRuleModel", "look", "()I"⟩, 22), (⟨"LeftoverRuleModel", "isName", "(I)Z"⟩, 22), (⟨"LeftoverRuleModel", "step1", "(II)V"⟩, 22), (⟨"LeftoverRuleModel", "opens", "()Z"⟩, 22), (⟨"LeftoverRuleModel", "hasText", "(I)Z"⟩, 22), (⟨"LeftoverRuleModel", "laysDish", "(III)V"⟩, 22)]
theorem lw_r2 : ∀ q ∈ lw_privs_2, lw_okq q := List.forall_mem_cons.mpr ⟨lw_p16, List.forall_mem_cons.mpr ⟨lw_p17, List.forall_mem_cons.mpr ⟨lw_p18, List.forall_mem_cons.mpr ⟨lw_p19, List.forall_mem_cons.mpr ⟨lw_p20, List.forall_mem_cons.mpr ⟨lw_p21, List.forall_mem_cons.mpr ⟨lw_p22, List.forall_mem_cons.mpr ⟨lw_p23, List.forall_mem_cons.mpr ⟨lw_p24, List.forall_mem_cons.mpr ⟨lw_p25, List.forall_mem_cons.mpr ⟨lw_p26, List.forall_mem_cons.mpr ⟨lw_p27, List.forall_mem_cons.mpr ⟨lw_p28, List.forall_mem_cons.mpr ⟨lw_p29, List.forall_mem_cons.mpr ⟨lw_p30, List.forall_mem_cons.mpr ⟨lw_p31, fun _ h => absurd h List.not_mem_nil⟩⟩⟩⟩⟩⟩⟩⟩⟩⟩⟩⟩⟩⟩⟩⟩
theorem lw_p32 : lw_okq (⟨"LeftoverRuleModel", "lays1", "(III)V"⟩, 22) := ⟨⟨by decide +kernel, by decide +kernel⟩, List.mem_of_getElem? (i := 625) (by decide +kernel), List.mem_of_getElem? (i := 775) (by decide +kernel), List.mem_of_getElem? (i := 776) (by decide +kernel)⟩
theorem lw_p33 : lw_okq (⟨"LeftoverRuleModel", "isDish", "(I)Z"⟩, 22) := ⟨⟨by decide +kernel, by decide +kernel⟩, List.mem_of_getElem? (i := 625) (by decide +kernel), List.mem_of_getElem? (i := 783) (by decide +kernel), List.mem_of_getElem? (i := 784) (by decide +kernel)⟩
theorem lw_p34 : lw_okq (⟨"LeftoverRuleModel", "claimOf", "(I)I"⟩, 22) := ⟨⟨by decide +kernel, by decide +kernel⟩, List.mem_of_getElem? (i := 625) (by decide +kernel), List.mem_of_getElem? (i := 787) (by decide +kernel), List.mem_of_getElem? (i := 788) (by decide +kernel)⟩
theorem lw_p35 : lw_okq (⟨"LeftoverRuleModel", "claimsOf", "(I)I"⟩, 22) := ⟨⟨by decide +kernel, by decide +kernel⟩, List.mem_of_getElem? (i := 625) (by decide +kernel), List.mem_of_getElem? (i := 791) (by decide +kernel), List.mem_of_getElem? (i := 792) (by decide +kernel)⟩
theorem lw_p36 : lw_okq (⟨"LeftoverRuleModel", "its", "(II)I"⟩, 22) := ⟨⟨by decide +kernel, by decide +kernel⟩, List.mem_of_getElem? (i := 625) (by decide +kernel), List.mem_of_getElem? (i := 795) (by decide +kernel), List.mem_of_getElem? (i := 796) (by decide +kernel)⟩
theorem lw_p37 : lw_okq (⟨"LeftoverRuleModel", "claimTold", "(III)I"⟩, 22) := ⟨⟨by decide +kernel, by decide +kernel⟩, List.mem_of_getElem? (i := 625) (by decide +kernel), List.mem_of_getElem? (i := 799) (by decide +kernel), List.mem_of_getElem? (i := 800) (by decide +kernel)⟩
theorem lw_p38 : lw_okq (⟨"LeftoverRuleModel", "worked", "(I)I"⟩, 22) := ⟨⟨by decide +kernel, by decide +kernel⟩, List.mem_of_getElem? (i := 625) (by decide +kernel), List.mem_of_getElem? (i := 803) (by decide +kernel), List.mem_of_getElem? (i := 804) (by decide +kernel)⟩
theorem lw_p39 : lw_okq (⟨"LeftoverRuleModel", "spoilsOf", "(I)I"⟩, 22) := ⟨⟨by decide +kernel, by decide +kernel⟩, List.mem_of_getElem? (i := 625) (by decide +kernel), List.mem_of_getElem? (i := 813) (by decide +kernel), List.mem_of_getElem? (i := 814) (by decide +kernel)⟩
theorem lw_p40 : lw_okq (⟨"LeftoverRuleModel", "findRuler", "()I"⟩, 22) := ⟨⟨by decide +kernel, by decide +kernel⟩, List.mem_of_getElem? (i := 625) (by decide +kernel), List.mem_of_getElem? (i := 817) (by decide +kernel), List.mem_of_getElem? (i := 818) (by decide +kernel)⟩
theorem lw_p41 : lw_okq (⟨"LeftoverRuleModel", "isInKeeping", "(II)Z"⟩, 22) := ⟨⟨by decide +kernel, by decide +kernel⟩, List.mem_of_getElem? (i := 625) (by decide +kernel), List.mem_of_getElem? (i := 821) (by decide +kernel), List.mem_of_getElem? (i := 822) (by decide +kernel)⟩
theorem lw_p42 : lw_okq (⟨"LeftoverRuleModel", "keepingTold", "(III)I"⟩, 22) := ⟨⟨by decide +kernel, by decide +kernel⟩, List.mem_of_getElem? (i := 625) (by decide +kernel), List.mem_of_getElem? (i := 825) (by decide +kernel), List.mem_of_getElem? (i := 826) (by decide +kernel)⟩
theorem lw_p43 : lw_okq (⟨"LeftoverRuleModel", "change1", "(II)I"⟩, 22) := ⟨⟨by decide +kernel, by decide +kernel⟩, List.mem_of_getElem? (i := 625) (by decide +kernel), List.mem_of_getElem? (i := 835) (by decide +kernel), List.mem_of_getElem? (i := 836) (by decide +kernel)⟩
theorem lw_p44 : lw_okq (⟨"LeftoverRuleModel", "aMeal", "(I)I"⟩, 22) := ⟨⟨by decide +kernel, by decide +kernel⟩, List.mem_of_getElem? (i := 625) (by decide +kernel), List.mem_of_getElem? (i := 869) (by decide +kernel), List.mem_of_getElem? (i := 870) (by decide +kernel)⟩
theorem lw_p45 : lw_okq (⟨"LeftoverRuleModel", "eaten", "(I)I"⟩, 22) := ⟨⟨by decide +kernel, by decide +kernel⟩, List.mem_of_getElem? (i := 625) (by decide +kernel), List.mem_of_getElem? (i := 873) (by decide +kernel), List.mem_of_getElem? (i := 874) (by decide +kernel)⟩
theorem lw_p46 : lw_okq (⟨"LeftoverRuleModel", "leastClaim", "()I"⟩, 22) := ⟨⟨by decide +kernel, by decide +kernel⟩, List.mem_of_getElem? (i := 625) (by decide +kernel), List.mem_of_getElem? (i := 877) (by decide +kernel), List.mem_of_getElem? (i := 878) (by decide +kernel)⟩
theorem lw_p47 : lw_okq (⟨"LeftoverRuleModel", "goes", "(II)V"⟩, 22) := ⟨⟨by decide +kernel, by decide +kernel⟩, List.mem_of_getElem? (i := 625) (by decide +kernel), List.mem_of_getElem? (i := 886) (by decide +kernel), List.mem_of_getElem? (i := 887) (by decide +kernel)⟩
def lw_privs_3 : List (MethodName × Nat) := [(⟨"LeftoverRuleModel", "lays1", "(III)V"⟩, 22), (⟨"LeftoverRuleModel", "isDish", "(I)Z"⟩, 22), (⟨"LeftoverRuleModel", "claimOf", "(I)I"⟩, 22), (⟨"LeftoverRuleModel", "claimsOf", "(I)I"⟩, 22), (⟨"LeftoverRuleModel", "its", "(II)I"⟩, 22), (⟨"LeftoverRuleModel", "claimTold", "(III)I"⟩, 22), (⟨"LeftoverRuleModel", "worked", "(I)I"⟩, 22), (⟨"LeftoverRuleModel", "spoilsOf", "(I)I"⟩, 22), (⟨"LeftoverRuleModel", "findRuler", "()I"⟩, 22), (⟨"LeftoverRuleModel", "isInKeeping", "(II)Z"⟩, 22), (⟨"LeftoverRuleModel", "keepingTold", "(III)I"⟩, 22), (⟨"LeftoverRuleModel", "change1", "(II)I"⟩, 22), (⟨"LeftoverRuleModel", "aMeal", "(I)I"⟩, 22), (⟨"LeftoverRuleModel", "eaten", "(I)I"⟩, 22), (⟨"LeftoverRuleModel", "leastClaim", "()I"⟩, 22), (⟨"LeftoverRuleModel", "goes", "(II)V"⟩, 22)]
theorem lw_r3 : ∀ q ∈ lw_privs_3, lw_okq q := List.forall_mem_cons.mpr ⟨lw_p32, List.forall_mem_cons.mpr ⟨lw_p33, List.forall_mem_cons.mpr ⟨lw_p34, List.forall_mem_cons.mpr ⟨lw_p35, List.forall_mem_cons.mpr ⟨lw_p36, List.forall_mem_cons.mpr ⟨lw_p37, List.forall_mem_cons.mpr ⟨lw_p38, List.forall_mem_cons.mpr ⟨lw_p39, List.forall_mem_cons.mpr ⟨lw_p40, List.forall_mem_cons.mpr ⟨lw_p41, List.forall_mem_cons.mpr ⟨lw_p42, List.forall_mem_cons.mpr ⟨lw_p43, List.forall_mem_cons.mpr ⟨lw_p44, List.forall_mem_cons.mpr ⟨lw_p45, List.forall_mem_cons.mpr ⟨lw_p46, List.forall_mem_cons.mpr ⟨lw_p47, fun _ h => absurd h List.not_mem_nil⟩⟩⟩⟩⟩⟩⟩⟩⟩⟩⟩⟩⟩⟩⟩⟩
theorem lw_p48 : lw_okq (⟨"LeftoverRuleModel", "allLeft", "()I"⟩, 22) := ⟨⟨by decide +kernel, by decide +kernel⟩, List.mem_of_getElem? (i := 625) (by decide +kernel), List.mem_of_getElem? (i := 890) (by decide +kernel), List.mem_of_getElem? (i := 891) (by decide +kernel)⟩
theorem lw_p49 : lw_okq (⟨"LeftoverRuleModel", "guests", "()V"⟩, 22) := ⟨⟨by decide +kernel, by decide +kernel⟩, List.mem_of_getElem? (i := 625) (by decide +kernel), List.mem_of_getElem? (i := 898) (by decide +kernel), List.mem_of_getElem? (i := 899) (by decide +kernel)⟩
theorem lw_p50 : lw_okq (⟨"LeftoverRuleModel", "draw", "()I"⟩, 22) := ⟨⟨by decide +kernel, by decide +kernel⟩, List.mem_of_getElem? (i := 625) (by decide +kernel), List.mem_of_getElem? (i := 902) (by decide +kernel), List.mem_of_getElem? (i := 903) (by decide +kernel)⟩
theorem lw_p51 : lw_okq (⟨"LeftoverRuleModel", "layDown", "()V"⟩, 22) := ⟨⟨by decide +kernel, by decide +kernel⟩, List.mem_of_getElem? (i := 625) (by decide +kernel), List.mem_of_getElem? (i := 915) (by decide +kernel), List.mem_of_getElem? (i := 916) (by decide +kernel)⟩
theorem lw_p52 : lw_okq (⟨"LeftoverRuleModel", "layBack", "()V"⟩, 22) := ⟨⟨by decide +kernel, by decide +kernel⟩, List.mem_of_getElem? (i := 625) (by decide +kernel), List.mem_of_getElem? (i := 919) (by decide +kernel), List.mem_of_getElem? (i := 920) (by decide +kernel)⟩
theorem lw_p53 : lw_okq (⟨"LeftoverRuleModel", "doesRule", "(IIII)Z"⟩, 22) := ⟨⟨by decide +kernel, by decide +kernel⟩, List.mem_of_getElem? (i := 625) (by decide +kernel), List.mem_of_getElem? (i := 938) (by decide +kernel), List.mem_of_getElem? (i := 939) (by decide +kernel)⟩
theorem lw_p54 : lw_okq (⟨"LeftoverRuleModel", "keepingSizes", "()I"⟩, 22) := ⟨⟨by decide +kernel, by decide +kernel⟩, List.mem_of_getElem? (i := 625) (by decide +kernel), List.mem_of_getElem? (i := 946) (by decide +kernel), List.mem_of_getElem? (i := 947) (by decide +kernel)⟩
theorem lw_p55 : lw_okq (⟨"LeftoverRuleModel", "lacks", "(I)I"⟩, 22) := ⟨⟨by decide +kernel, by decide +kernel⟩, List.mem_of_getElem? (i := 625) (by decide +kernel), List.mem_of_getElem? (i := 961) (by decide +kernel), List.mem_of_getElem? (i := 962) (by decide +kernel)⟩
theorem lw_p56 : lw_okq (⟨"LeftoverRuleModel", "isLeftSo", "(II)Z"⟩, 22) := ⟨⟨by decide +kernel, by decide +kernel⟩, List.mem_of_getElem? (i := 625) (by decide +kernel), List.mem_of_getElem? (i := 968) (by decide +kernel), List.mem_of_getElem? (i := 969) (by decide +kernel)⟩
theorem lw_p57 : lw_okq (⟨"LeftoverRuleModel", "kindNow", "()I"⟩, 22) := ⟨⟨by decide +kernel, by decide +kernel⟩, List.mem_of_getElem? (i := 625) (by decide +kernel), List.mem_of_getElem? (i := 976) (by decide +kernel), List.mem_of_getElem? (i := 977) (by decide +kernel)⟩
theorem lw_p58 : lw_okq (⟨"LeftoverRuleModel", "sighsAs", "(II)I"⟩, 22) := ⟨⟨by decide +kernel, by decide +kernel⟩, List.mem_of_getElem? (i := 625) (by decide +kernel), List.mem_of_getElem? (i := 980) (by decide +kernel), List.mem_of_getElem? (i := 981) (by decide +kernel)⟩
theorem lw_p59 : lw_okq (⟨"LeftoverRuleModel", "starts", "(I)V"⟩, 22) := ⟨⟨by decide +kernel, by decide +kernel⟩, List.mem_of_getElem? (i := 625) (by decide +kernel), List.mem_of_getElem? (i := 984) (by decide +kernel), List.mem_of_getElem? (i := 985) (by decide +kernel)⟩
theorem lw_p60 : lw_okq (⟨"LeftoverRuleModel", "asksAs", "(II)I"⟩, 22) := ⟨⟨by decide +kernel, by decide +kernel⟩, List.mem_of_getElem? (i := 625) (by decide +kernel), List.mem_of_getElem? (i := 988) (by decide +kernel), List.mem_of_getElem? (i := 989) (by decide +kernel)⟩
theorem lw_p61 : lw_okq (⟨"LeftoverRuleModel", "mNow", "()I"⟩, 22) := ⟨⟨by decide +kernel, by decide +kernel⟩, List.mem_of_getElem? (i := 625) (by decide +kernel), List.mem_of_getElem? (i := 992) (by decide +kernel), List.mem_of_getElem? (i := 993) (by decide +kernel)⟩
theorem lw_p62 : lw_okq (⟨"LeftoverRuleModel", "scrapesAs", "(II)I"⟩, 22) := ⟨⟨by decide +kernel, by decide +kernel⟩, List.mem_of_getElem? (i := 625) (by decide +kernel), List.mem_of_getElem? (i := 996) (by decide +kernel), List.mem_of_getElem? (i := 997) (by decide +kernel)⟩
theorem lw_p63 : lw_okq (⟨"LeftoverRuleModel", "partsAs", "(II)I"⟩, 22) := ⟨⟨by decide +kernel, by decide +kernel⟩, List.mem_of_getElem? (i := 625) (by decide +kernel), List.mem_of_getElem? (i := 1000) (by decide +kernel), List.mem_of_getElem? (i := 1001) (by decide +kernel)⟩
def lw_privs_4 : List (MethodName × Nat) := [(⟨"LeftoverRuleModel", "allLeft", "()I"⟩, 22), (⟨"LeftoverRuleModel", "guests", "()V"⟩, 22), (⟨"LeftoverRuleModel", "draw", "()I"⟩, 22), (⟨"LeftoverRuleModel", "layDown", "()V"⟩, 22), (⟨"LeftoverRuleModel", "layBack", "()V"⟩, 22), (⟨"LeftoverRuleModel", "doesRule", "(IIII)Z"⟩, 22), (⟨"LeftoverRuleModel", "keepingSizes", "()I"⟩, 22), (⟨"LeftoverRuleModel", "lacks", "(I)I"⟩, 22), (⟨"LeftoverRuleModel", "isLeftSo", "(II)Z"⟩, 22), (⟨"LeftoverRuleModel", "kindNow", "()I"⟩, 22), (⟨"LeftoverRuleModel", "sighsAs", "(II)I"⟩, 22), (⟨"LeftoverRuleModel", "starts", "(I)V"⟩, 22), (⟨"LeftoverRuleModel", "asksAs", "(II)I"⟩, 22), (⟨"LeftoverRuleModel", "mNow", "()I"⟩, 22), (⟨"LeftoverRuleModel", "scrapesAs", "(II)I"⟩, 22), (⟨"LeftoverRuleModel", "partsAs", "(II)I"⟩, 22)]
theorem lw_r4 : ∀ q ∈ lw_privs_4, lw_okq q := List.forall_mem_cons.mpr ⟨lw_p48, List.forall_mem_cons.mpr ⟨lw_p49, List.forall_mem_cons.mpr ⟨lw_p50, List.forall_mem_cons.mpr ⟨lw_p51, List.forall_mem_cons.mpr ⟨lw_p52, List.forall_mem_cons.mpr ⟨lw_p53, List.forall_mem_cons.mpr ⟨lw_p54, List.forall_mem_cons.mpr ⟨lw_p55, List.forall_mem_cons.mpr ⟨lw_p56, List.forall_mem_cons.mpr ⟨lw_p57, List.forall_mem_cons.mpr ⟨lw_p58, List.forall_mem_cons.mpr ⟨lw_p59, List.forall_mem_cons.mpr ⟨lw_p60, List.forall_mem_cons.mpr ⟨lw_p61, List.forall_mem_cons.mpr ⟨lw_p62, List.forall_mem_cons.mpr ⟨lw_p63, fun _ h => absurd h List.not_mem_nil⟩⟩⟩⟩⟩⟩⟩⟩⟩⟩⟩⟩⟩⟩⟩⟩
def lw_privs : List (MethodName × Nat) := lw_privs_1 ++ (lw_privs_2 ++ (lw_privs_3 ++ (lw_privs_4)))
def lw_tbl : List Cond := k2_sels lw_privs ++ tables_1
theorem lw_privs_ok : ∀ q ∈ lw_privs, lw_okq q := by
  show ∀ q ∈ lw_privs_1 ++ (lw_privs_2 ++ (lw_privs_3 ++ (lw_privs_4))), lw_okq q
  exact List.forall_mem_append.mpr ⟨lw_r1, List.forall_mem_append.mpr ⟨lw_r2, List.forall_mem_append.mpr ⟨lw_r3, lw_r4⟩⟩⟩
-- ===== end of PART A; then your names; then what follows =====
def RX0 : String := "LeftoverRule$House"
def TX0 : u_T := fun k => match k with
  | 0 => ("LeftoverRule$House", "claim", "LLeftoverRule$Law;", true)
  | 1 => ("LeftoverRule$House", "keeping", "LLeftoverRule$Law;", true)
  | 2 => ("LeftoverRule$House", "table", "LLeftoverRule$Table;", true)
  | 3 => ("LeftoverRule$House", "tape", "[I", true)
  | 4 => ("LeftoverRule$House", "taped", "I", false)
  | 5 => ("LeftoverRule$House", "waits", "[I", true)
  | 6 => ("LeftoverRule$House", "waiting", "I", false)
  | _ => ("LeftoverRule$House", "z", "I", false)
def tyX0 : Nat → FieldType := fun k => match k with
  | 0 => .object "LeftoverRule$Law"
  | 1 => .object "LeftoverRule$Law"
  | 2 => .object "LeftoverRule$Table"
  | 3 => .array .int
  | 4 => .int
  | 5 => .array .int
  | 6 => .int
  | _ => .int
abbrev wsX00 : List Cond := u_ws RX0 TX0 8
theorem nmX0 : ∀ a, a < 8 → ∀ b, b < 8 → a ≠ b → (TX0 a).2.1 ≠ (TX0 b).2.1 := by decide +kernel
theorem tyX0_ok : ∀ k, k < 8 → parseFieldDescriptor (TX0 k).2.2.1 = some (tyX0 k) := by decide +kernel
abbrev cX0_init : ByteArray := prog_2_method_1_code
def yX0_init : MethodName := ⟨RX0, "<init>", "()V"⟩
abbrev cX0_takeFrom : ByteArray := prog_2_method_2_code
def yX0_takeFrom : MethodName := ⟨RX0, "takeFrom", "(LLeftoverRule$House;)V"⟩
abbrev cX0_dineByDraws : ByteArray := prog_2_method_3_code
def yX0_dineByDraws : MethodName := ⟨RX0, "dineByDraws", "()I"⟩
abbrev cX0_draw : ByteArray := prog_2_method_4_code
def yX0_draw : MethodName := ⟨RX0, "draw", "()I"⟩
def RX1 : String := "LeftoverRule$Law"
def TX1 : u_T := fun k => match k with
  | 0 => ("LeftoverRule$Law", "most", "I", true)
  | 1 => ("LeftoverRule$Law", "ofFlavours", "Z", true)
  | 2 => ("LeftoverRule$Law", "steps", "[I", true)
  | 3 => ("LeftoverRule$Law", "stack", "[I", true)
  | _ => ("LeftoverRule$Law", "length", "I", false)
def tyX1 : Nat → FieldType := fun k => match k with
  | 0 => .int
  | 1 => .boolean
  | 2 => .array .int
  | 3 => .array .int
  | _ => .int
abbrev wsX10 : List Cond := u_ws RX1 TX1 5
theorem nmX1 : ∀ a, a < 5 → ∀ b, b < 5 → a ≠ b → (TX1 a).2.1 ≠ (TX1 b).2.1 := by decide +kernel
theorem tyX1_ok : ∀ k, k < 5 → parseFieldDescriptor (TX1 k).2.2.1 = some (tyX1 k) := by decide +kernel
abbrev cX1_init : ByteArray := prog_3_method_1_code
def yX1_init : MethodName := ⟨RX1, "<init>", "(IZ)V"⟩
abbrev cX1_add : ByteArray := prog_3_method_2_code
def yX1_add : MethodName := ⟨RX1, "add", "(I)V"⟩
abbrev cX1_takeFrom : ByteArray := prog_3_method_3_code
def yX1_takeFrom : MethodName := ⟨RX1, "takeFrom", "(LLeftoverRule$Law;)V"⟩
abbrev cX1_forget : ByteArray := prog_3_method_4_code
def yX1_forget : MethodName := ⟨RX1, "forget", "()Z"⟩
abbrev cX1_gives : ByteArray := prog_3_method_5_code
def yX1_gives : MethodName := ⟨RX1, "gives", "(III)I"⟩
abbrev cX1_withoutText : ByteArray := prog_3_method_6_code
def yX1_withoutText : MethodName := ⟨RX1, "withoutText", "(II)I"⟩
abbrev cX1_joined : ByteArray := prog_3_method_7_code
def yX1_joined : MethodName := ⟨RX1, "joined", "(III)I"⟩
def RX2 : String := "LeftoverRule$Reader"
def TX2 : u_T := fun k => match k with
  | 0 => ("LeftoverRule$Reader", "draft", "LLeftoverRule$Law;", true)
  | 1 => ("LeftoverRule$Reader", "bytes", "[I", true)
  | 2 => ("LeftoverRule$Reader", "length", "I", false)
  | 3 => ("LeftoverRule$Reader", "place", "I", false)
  | 4 => ("LeftoverRule$Reader", "use", "I", false)
  | _ => ("LeftoverRule$Reader", "faulty", "Z", false)
def tyX2 : Nat → FieldType := fun k => match k with
  | 0 => .object "LeftoverRule$Law"
  | 1 => .array .int
  | 2 => .int
  | 3 => .int
  | 4 => .int
  | _ => .boolean
abbrev wsX20 : List Cond := u_ws RX2 TX2 6
theorem nmX2 : ∀ a, a < 6 → ∀ b, b < 6 → a ≠ b → (TX2 a).2.1 ≠ (TX2 b).2.1 := by decide +kernel
theorem tyX2_ok : ∀ k, k < 6 → parseFieldDescriptor (TX2 k).2.2.1 = some (tyX2 k) := by decide +kernel
abbrev cX2_init : ByteArray := prog_4_method_1_code
def yX2_init : MethodName := ⟨RX2, "<init>", "()V"⟩
abbrev cX2_read : ByteArray := prog_4_method_2_code
def yX2_read : MethodName := ⟨RX2, "read", "([III)I"⟩
abbrev cX2_next : ByteArray := prog_4_method_3_code
def yX2_next : MethodName := ⟨RX2, "next", "()I"⟩
abbrev cX2_readLevel : ByteArray := prog_4_method_4_code
def yX2_readLevel : MethodName := ⟨RX2, "readLevel", "(II)V"⟩
abbrev cX2_levelOf : ByteArray := prog_4_method_5_code
def yX2_levelOf : MethodName := ⟨RX2, "levelOf", "(I)I"⟩
abbrev cX2_readQ : ByteArray := prog_4_method_6_code
def yX2_readQ : MethodName := ⟨RX2, "readQ", "(I)V"⟩
abbrev cX2_readClosing : ByteArray := prog_4_method_7_code
def yX2_readClosing : MethodName := ⟨RX2, "readClosing", "()V"⟩
abbrev cX2_readNumber : ByteArray := prog_4_method_8_code
def yX2_readNumber : MethodName := ⟨RX2, "readNumber", "()V"⟩
abbrev cX2_isDigit : ByteArray := prog_4_method_9_code
def yX2_isDigit : MethodName := ⟨RX2, "isDigit", "(I)Z"⟩
abbrev cX2_nameOf : ByteArray := prog_4_method_10_code
def yX2_nameOf : MethodName := ⟨RX2, "nameOf", "(I)I"⟩
def RX3 : String := "LeftoverRule$Sheet"
def TX3 : u_T := fun k => match k with
  | 0 => ("LeftoverRule$Sheet", "bits", "I", false)
  | 1 => ("LeftoverRule$Sheet", "length", "I", false)
  | _ => ("LeftoverRule$Sheet", "numbers", "[I", true)
def tyX3 : Nat → FieldType := fun k => match k with
  | 0 => .int
  | 1 => .int
  | _ => .array .int
abbrev wsX30 : List Cond := u_ws RX3 TX3 3
theorem nmX3 : ∀ a, a < 3 → ∀ b, b < 3 → a ≠ b → (TX3 a).2.1 ≠ (TX3 b).2.1 := by decide +kernel
theorem tyX3_ok : ∀ k, k < 3 → parseFieldDescriptor (TX3 k).2.2.1 = some (tyX3 k) := by decide +kernel
abbrev cX3_init : ByteArray := prog_5_method_1_code
def yX3_init : MethodName := ⟨RX3, "<init>", "()V"⟩
abbrev cX3_isMissing : ByteArray := prog_5_method_2_code
def yX3_isMissing : MethodName := ⟨RX3, "isMissing", "()Z"⟩
abbrev cX3_lay : ByteArray := prog_5_method_3_code
def yX3_lay : MethodName := ⟨RX3, "lay", "(II)V"⟩
abbrev cX3_write : ByteArray := prog_5_method_4_code
def yX3_write : MethodName := ⟨RX3, "write", "(II)V"⟩
abbrev cX3_holds : ByteArray := prog_5_method_5_code
def yX3_holds : MethodName := ⟨RX3, "holds", "(II)Z"⟩
def RX4 : String := "LeftoverRule$Table"
def TX4 : u_T := fun k => match k with
  | 0 => ("LeftoverRule$Table", "claim", "LLeftoverRule$Law;", true)
  | 1 => ("LeftoverRule$Table", "keeping", "LLeftoverRule$Law;", true)
  | 2 => ("LeftoverRule$Table", "dishes", "I", false)
  | 3 => ("LeftoverRule$Table", "day", "I", false)
  | 4 => ("LeftoverRule$Table", "hungry", "I", false)
  | 5 => ("LeftoverRule$Table", "kind", "[I", true)
  | 6 => ("LeftoverRule$Table", "mark", "[I", true)
  | 7 => ("LeftoverRule$Table", "size", "[I", true)
  | 8 => ("LeftoverRule$Table", "age", "[I", true)
  | 9 => ("LeftoverRule$Table", "flavour", "[I", true)
  | _ => ("LeftoverRule$Table", "claims", "[I", true)
def tyX4 : Nat → FieldType := fun k => match k with
  | 0 => .object "LeftoverRule$Law"
  | 1 => .object "LeftoverRule$Law"
  | 2 => .int
  | 3 => .int
  | 4 => .int
  | 5 => .array .int
  | 6 => .array .int
  | 7 => .array .int
  | 8 => .array .int
  | 9 => .array .int
  | _ => .array .int
abbrev wsX40 : List Cond := u_ws RX4 TX4 11
theorem nmX4 : ∀ a, a < 11 → ∀ b, b < 11 → a ≠ b → (TX4 a).2.1 ≠ (TX4 b).2.1 := by decide +kernel
theorem tyX4_ok : ∀ k, k < 11 → parseFieldDescriptor (TX4 k).2.2.1 = some (tyX4 k) := by decide +kernel
abbrev cX4_init : ByteArray := prog_6_method_1_code
def yX4_init : MethodName := ⟨RX4, "<init>", "(LLeftoverRule$Law;LLeftoverRule$Law;)V"⟩
abbrev cX4_takeFrom : ByteArray := prog_6_method_2_code
def yX4_takeFrom : MethodName := ⟨RX4, "takeFrom", "(LLeftoverRule$Table;)V"⟩
abbrev cX4_has : ByteArray := prog_6_method_3_code
def yX4_has : MethodName := ⟨RX4, "has", "(I)Z"⟩
abbrev cX4_bring : ByteArray := prog_6_method_4_code
def yX4_bring : MethodName := ⟨RX4, "bring", "(III)I"⟩
abbrev cX4_left : ByteArray := prog_6_method_5_code
def yX4_left : MethodName := ⟨RX4, "left", "()I"⟩
abbrev cX4_leftInKeeping : ByteArray := prog_6_method_6_code
def yX4_leftInKeeping : MethodName := ⟨RX4, "leftInKeeping", "()I"⟩
abbrev cX4_isKeptBy : ByteArray := prog_6_method_7_code
def yX4_isKeptBy : MethodName := ⟨RX4, "isKeptBy", "(II)Z"⟩
abbrev cX4_claimOf : ByteArray := prog_6_method_8_code
def yX4_claimOf : MethodName := ⟨RX4, "claimOf", "(I)I"⟩
abbrev cX4_claimOfKind : ByteArray := prog_6_method_9_code
def yX4_claimOfKind : MethodName := ⟨RX4, "claimOfKind", "(I)I"⟩
abbrev cX4_spoilOf : ByteArray := prog_6_method_10_code
def yX4_spoilOf : MethodName := ⟨RX4, "spoilOf", "(I)I"⟩
abbrev cX4_sayer : ByteArray := prog_6_method_11_code
def yX4_sayer : MethodName := ⟨RX4, "sayer", "()I"⟩
abbrev cX4_pass : ByteArray := prog_6_method_12_code
def yX4_pass : MethodName := ⟨RX4, "pass", "(II)V"⟩
abbrev cX4_dine : ByteArray := prog_6_method_13_code
def yX4_dine : MethodName := ⟨RX4, "dine", "(I)I"⟩
abbrev cX4_eat : ByteArray := prog_6_method_14_code
def yX4_eat : MethodName := ⟨RX4, "eat", "(II)I"⟩
abbrev cX4_leastClaim : ByteArray := prog_6_method_15_code
def yX4_leastClaim : MethodName := ⟨RX4, "leastClaim", "()I"⟩
def RX5 : String := "LeftoverRule$Voices"
def TX5 : u_T := fun k => match k with
  | 0 => ("LeftoverRule$Voices", "trace", "[I", true)
  | 1 => ("LeftoverRule$Voices", "traced", "I", false)
  | 2 => ("LeftoverRule$Voices", "parted", "Z", false)
  | 3 => ("LeftoverRule$Voices", "kind", "I", false)
  | 4 => ("LeftoverRule$Voices", "k", "I", false)
  | _ => ("LeftoverRule$Voices", "m", "I", false)
def tyX5 : Nat → FieldType := fun k => match k with
  | 0 => .array .int
  | 1 => .int
  | 2 => .boolean
  | 3 => .int
  | 4 => .int
  | _ => .int
abbrev wsX50 : List Cond := u_ws RX5 TX5 6
theorem nmX5 : ∀ a, a < 6 → ∀ b, b < 6 → a ≠ b → (TX5 a).2.1 ≠ (TX5 b).2.1 := by decide +kernel
theorem tyX5_ok : ∀ k, k < 6 → parseFieldDescriptor (TX5 k).2.2.1 = some (tyX5 k) := by decide +kernel
abbrev cX5_init : ByteArray := prog_7_method_1_code
def yX5_init : MethodName := ⟨RX5, "<init>", "()V"⟩
abbrev cX5_speak : ByteArray := prog_7_method_2_code
def yX5_speak : MethodName := ⟨RX5, "speak", "(LLeftoverRule$Table;III)I"⟩
abbrev cX5_say : ByteArray := prog_7_method_3_code
def yX5_say : MethodName := ⟨RX5, "say", "(IIII)I"⟩
abbrev cX5_ownerOf : ByteArray := prog_7_method_4_code
def yX5_ownerOf : MethodName := ⟨RX5, "ownerOf", "(II)I"⟩
abbrev cX5_began : ByteArray := prog_7_method_5_code
def yX5_began : MethodName := ⟨RX5, "began", "(I)V"⟩
abbrev cX5_part : ByteArray := prog_7_method_6_code
def yX5_part : MethodName := ⟨RX5, "part", "(I)I"⟩
abbrev cX5_partOfJoint : ByteArray := prog_7_method_7_code
def yX5_partOfJoint : MethodName := ⟨RX5, "partOfJoint", "(II)I"⟩
def RX6 : String := "LeftoverRule"
def TX6 : u_T := fun k => match k with
  | 0 => ("LeftoverRule", "house", "LLeftoverRule$House;", true)
  | 1 => ("LeftoverRule", "kept", "LLeftoverRule$House;", true)
  | 2 => ("LeftoverRule", "table", "LLeftoverRule$Table;", true)
  | 3 => ("LeftoverRule", "thought", "LLeftoverRule$Table;", true)
  | 4 => ("LeftoverRule", "reader", "LLeftoverRule$Reader;", true)
  | 5 => ("LeftoverRule", "voices", "LLeftoverRule$Voices;", true)
  | 6 => ("LeftoverRule", "sheets", "[LLeftoverRule$Sheet;", true)
  | 7 => ("LeftoverRule", "errors", "[I", true)
  | _ => ("LeftoverRule", "images", "I", false)
def tyX6 : Nat → FieldType := fun k => match k with
  | 0 => .object "LeftoverRule$House"
  | 1 => .object "LeftoverRule$House"
  | 2 => .object "LeftoverRule$Table"
  | 3 => .object "LeftoverRule$Table"
  | 4 => .object "LeftoverRule$Reader"
  | 5 => .object "LeftoverRule$Voices"
  | 6 => .array (.object "LeftoverRule$Sheet")
  | 7 => .array .int
  | _ => .int
abbrev wsX60 : List Cond := u_ws RX6 TX6 9
theorem nmX6 : ∀ a, a < 9 → ∀ b, b < 9 → a ≠ b → (TX6 a).2.1 ≠ (TX6 b).2.1 := by decide +kernel
theorem tyX6_ok : ∀ k, k < 9 → parseFieldDescriptor (TX6 k).2.2.1 = some (tyX6 k) := by decide +kernel
abbrev cX6_init : ByteArray := prog_1_method_1_code
def yX6_init : MethodName := ⟨RX6, "<init>", "()V"⟩
abbrev cX6_dish : ByteArray := prog_1_method_2_code
def yX6_dish : MethodName := ⟨RX6, "dish", "(III)I"⟩
abbrev cX6_dishIs : ByteArray := prog_1_method_3_code
def yX6_dishIs : MethodName := ⟨RX6, "dishIs", "(II)I"⟩
abbrev cX6_become : ByteArray := prog_1_method_4_code
def yX6_become : MethodName := ⟨RX6, "become", "(II)I"⟩
abbrev cX6_as : ByteArray := prog_1_method_5_code
def yX6_as : MethodName := ⟨RX6, "as", "(II)I"⟩
abbrev cX6_serve : ByteArray := prog_1_method_6_code
def yX6_serve : MethodName := ⟨RX6, "serve", "(II)I"⟩
abbrev cX6_season : ByteArray := prog_1_method_7_code
def yX6_season : MethodName := ⟨RX6, "season", "(II)I"⟩
abbrev cX6_rules : ByteArray := prog_1_method_8_code
def yX6_rules : MethodName := ⟨RX6, "rules", "()I"⟩
abbrev cX6_feed : ByteArray := prog_1_method_9_code
def yX6_feed : MethodName := ⟨RX6, "feed", "(JI)I"⟩
abbrev cX6_text : ByteArray := prog_1_method_10_code
def yX6_text : MethodName := ⟨RX6, "text", "(I)I"⟩
abbrev cX6_untell : ByteArray := prog_1_method_11_code
def yX6_untell : MethodName := ⟨RX6, "untell", "(I)I"⟩
abbrev cX6_law : ByteArray := prog_1_method_12_code
def yX6_law : MethodName := ⟨RX6, "law", "(IIII)I"⟩
abbrev cX6_meal : ByteArray := prog_1_method_13_code
def yX6_meal : MethodName := ⟨RX6, "meal", "(I)I"⟩
abbrev cX6_meals : ByteArray := prog_1_method_14_code
def yX6_meals : MethodName := ⟨RX6, "meals", "(II)I"⟩
abbrev cX6_loose : ByteArray := prog_1_method_15_code
def yX6_loose : MethodName := ⟨RX6, "loose", "(I)I"⟩
abbrev cX6_seed : ByteArray := prog_1_method_16_code
def yX6_seed : MethodName := ⟨RX6, "seed", "(I)I"⟩
abbrev cX6_then : ByteArray := prog_1_method_17_code
def yX6_then : MethodName := ⟨RX6, "then", "(III)I"⟩
abbrev cX6_gone : ByteArray := prog_1_method_18_code
def yX6_gone : MethodName := ⟨RX6, "gone", "(II)I"⟩
abbrev cX6_needs : ByteArray := prog_1_method_19_code
def yX6_needs : MethodName := ⟨RX6, "needs", "(I)I"⟩
abbrev cX6_clears : ByteArray := prog_1_method_20_code
def yX6_clears : MethodName := ⟨RX6, "clears", "(IIII)I"⟩
abbrev cX6_brings : ByteArray := prog_1_method_21_code
def yX6_brings : MethodName := ⟨RX6, "brings", "(II)I"⟩
abbrev cX6_odds : ByteArray := prog_1_method_22_code
def yX6_odds : MethodName := ⟨RX6, "odds", "(I)I"⟩
abbrev cX6_fits : ByteArray := prog_1_method_23_code
def yX6_fits : MethodName := ⟨RX6, "fits", "(II)I"⟩
abbrev cX6_voice : ByteArray := prog_1_method_24_code
def yX6_voice : MethodName := ⟨RX6, "voice", "(III)I"⟩
abbrev cX6_body : ByteArray := prog_1_method_25_code
def yX6_body : MethodName := ⟨RX6, "body", "(I)I"⟩
abbrev cX6_sheet : ByteArray := prog_1_method_26_code
def yX6_sheet : MethodName := ⟨RX6, "sheet", "(III)I"⟩
abbrev cX6_put : ByteArray := prog_1_method_27_code
def yX6_put : MethodName := ⟨RX6, "put", "(III)I"⟩
abbrev cX6_move : ByteArray := prog_1_method_28_code
def yX6_move : MethodName := ⟨RX6, "move", "(IIIII)I"⟩
abbrev cX6_serves : ByteArray := prog_1_method_29_code
def yX6_serves : MethodName := ⟨RX6, "serves", "(I)I"⟩
abbrev cX6_judge : ByteArray := prog_1_method_30_code
def yX6_judge : MethodName := ⟨RX6, "judge", "(I)I"⟩
abbrev cX6_image : ByteArray := prog_1_method_31_code
def yX6_image : MethodName := ⟨RX6, "image", "()I"⟩
abbrev cX6_restore : ByteArray := prog_1_method_32_code
def yX6_restore : MethodName := ⟨RX6, "restore", "()I"⟩
abbrev cX6_tell : ByteArray := prog_1_method_33_code
def yX6_tell : MethodName := ⟨RX6, "tell", "(I)I"⟩
abbrev cX6_check : ByteArray := prog_1_method_34_code
def yX6_check : MethodName := ⟨RX6, "check", "()I"⟩
abbrev cX6_count : ByteArray := prog_1_method_35_code
def yX6_count : MethodName := ⟨RX6, "count", "(I)I"⟩
abbrev cX6_told : ByteArray := prog_1_method_36_code
def yX6_told : MethodName := ⟨RX6, "told", "(I)I"⟩
abbrev cX6_wrong : ByteArray := prog_1_method_37_code
def yX6_wrong : MethodName := ⟨RX6, "wrong", "(I)I"⟩
abbrev cX6_within : ByteArray := prog_1_method_38_code
def yX6_within : MethodName := ⟨RX6, "within", "(III)Z"⟩
abbrev cX6_isKm : ByteArray := prog_1_method_39_code
def yX6_isKm : MethodName := ⟨RX6, "isKm", "(I)Z"⟩
abbrev cX6_isHunger : ByteArray := prog_1_method_40_code
def yX6_isHunger : MethodName := ⟨RX6, "isHunger", "(I)Z"⟩
abbrev cX6_isUse : ByteArray := prog_1_method_41_code
def yX6_isUse : MethodName := ⟨RX6, "isUse", "(I)Z"⟩
abbrev cX6_isSheet : ByteArray := prog_1_method_42_code
def yX6_isSheet : MethodName := ⟨RX6, "isSheet", "(I)Z"⟩
abbrev cX6_lawOf : ByteArray := prog_1_method_43_code
def yX6_lawOf : MethodName := ⟨RX6, "lawOf", "(I)LLeftoverRule$Law;"⟩
abbrev cX6_rulesWithout : ByteArray := prog_1_method_44_code
def yX6_rulesWithout : MethodName := ⟨RX6, "rulesWithout", "(IIII)Z"⟩
abbrev cX6_tellsSizes : ByteArray := prog_1_method_45_code
def yX6_tellsSizes : MethodName := ⟨RX6, "tellsSizes", "(LLeftoverRule$Sheet;)Z"⟩
abbrev cX6_commonDivisor : ByteArray := prog_1_method_46_code
def yX6_commonDivisor : MethodName := ⟨RX6, "commonDivisor", "(II)I"⟩
def RX7 : String := "LeftoverRuleModel"
def TX7 : u_T := fun k => match k with
  | 0 => ("LeftoverRuleModel", "s", "[I", true)
  | 1 => ("LeftoverRuleModel", "kept", "[I", true)
  | 2 => ("LeftoverRuleModel", "laid", "[I", true)
  | 3 => ("LeftoverRuleModel", "images", "I", false)
  | 4 => ("LeftoverRuleModel", "errors", "[I", true)
  | 5 => ("LeftoverRuleModel", "at", "I", false)
  | 6 => ("LeftoverRuleModel", "open", "I", false)
  | 7 => ("LeftoverRuleModel", "steps", "I", false)
  | 8 => ("LeftoverRuleModel", "use", "I", false)
  | 9 => ("LeftoverRuleModel", "step", "[I", true)
  | 10 => ("LeftoverRuleModel", "named", "[I", true)
  | 11 => ("LeftoverRuleModel", "pile", "[I", true)
  | 12 => ("LeftoverRuleModel", "claims", "[I", true)
  | 13 => ("LeftoverRuleModel", "mayBe", "[Z", true)
  | 14 => ("LeftoverRuleModel", "traced", "I", false)
  | 15 => ("LeftoverRuleModel", "trace", "[I", true)
  | 16 => ("LeftoverRuleModel", "speaks", "I", false)
  | 17 => ("LeftoverRuleModel", "isParted", "Z", false)
  | 18 => ("LeftoverRuleModel", "bits", "[I", true)
  | 19 => ("LeftoverRuleModel", "sizes", "[I", true)
  | 20 => ("LeftoverRuleModel", "number", "[I", true)
  | _ => ("LeftoverRuleModel", "aside", "[I", true)
def tyX7 : Nat → FieldType := fun k => match k with
  | 0 => .array .int
  | 1 => .array .int
  | 2 => .array .int
  | 3 => .int
  | 4 => .array .int
  | 5 => .int
  | 6 => .int
  | 7 => .int
  | 8 => .int
  | 9 => .array .int
  | 10 => .array .int
  | 11 => .array .int
  | 12 => .array .int
  | 13 => .array .boolean
  | 14 => .int
  | 15 => .array .int
  | 16 => .int
  | 17 => .boolean
  | 18 => .array .int
  | 19 => .array .int
  | 20 => .array .int
  | _ => .array .int
abbrev wsX70 : List Cond := u_ws RX7 TX7 22
theorem nmX7 : ∀ a, a < 22 → ∀ b, b < 22 → a ≠ b → (TX7 a).2.1 ≠ (TX7 b).2.1 := by decide +kernel
theorem tyX7_ok : ∀ k, k < 22 → parseFieldDescriptor (TX7 k).2.2.1 = some (tyX7 k) := by decide +kernel
abbrev cX7_init : ByteArray := prog_9_method_1_code
def yX7_init : MethodName := ⟨RX7, "<init>", "()V"⟩
abbrev cX7_error : ByteArray := prog_9_method_2_code
def yX7_error : MethodName := ⟨RX7, "error", "(I)I"⟩
abbrev cX7_in : ByteArray := prog_9_method_3_code
def yX7_in : MethodName := ⟨RX7, "in", "(III)Z"⟩
abbrev cX7_held : ByteArray := prog_9_method_4_code
def yX7_held : MethodName := ⟨RX7, "held", "(III)I"⟩
abbrev cX7_copyAll : ByteArray := prog_9_method_5_code
def yX7_copyAll : MethodName := ⟨RX7, "copyAll", "([I[I)V"⟩
abbrev cX7_layDown : ByteArray := prog_9_method_6_code
def yX7_layDown : MethodName := ⟨RX7, "layDown", "()V"⟩
abbrev cX7_layBack : ByteArray := prog_9_method_7_code
def yX7_layBack : MethodName := ⟨RX7, "layBack", "()V"⟩
abbrev cX7_isDish : ByteArray := prog_9_method_8_code
def yX7_isDish : MethodName := ⟨RX7, "isDish", "(I)Z"⟩
abbrev cX7_its : ByteArray := prog_9_method_9_code
def yX7_its : MethodName := ⟨RX7, "its", "(II)I"⟩
abbrev cX7_lays1 : ByteArray := prog_9_method_10_code
def yX7_lays1 : MethodName := ⟨RX7, "lays1", "(III)V"⟩
abbrev cX7_change1 : ByteArray := prog_9_method_11_code
def yX7_change1 : MethodName := ⟨RX7, "change1", "(II)I"⟩
abbrev cX7_feed : ByteArray := prog_9_method_12_code
def yX7_feed : MethodName := ⟨RX7, "feed", "(JI)I"⟩
abbrev cX7_look : ByteArray := prog_9_method_13_code
def yX7_look : MethodName := ⟨RX7, "look", "()I"⟩
abbrev cX7_isName : ByteArray := prog_9_method_14_code
def yX7_isName : MethodName := ⟨RX7, "isName", "(I)Z"⟩
abbrev cX7_step1 : ByteArray := prog_9_method_15_code
def yX7_step1 : MethodName := ⟨RX7, "step1", "(II)V"⟩
abbrev cX7_whole : ByteArray := prog_9_method_16_code
def yX7_whole : MethodName := ⟨RX7, "whole", "()Z"⟩
abbrev cX7_both : ByteArray := prog_9_method_17_code
def yX7_both : MethodName := ⟨RX7, "both", "()Z"⟩
abbrev cX7_compared : ByteArray := prog_9_method_18_code
def yX7_compared : MethodName := ⟨RX7, "compared", "()Z"⟩
abbrev cX7_sum : ByteArray := prog_9_method_19_code
def yX7_sum : MethodName := ⟨RX7, "sum", "()Z"⟩
abbrev cX7_product : ByteArray := prog_9_method_20_code
def yX7_product : MethodName := ⟨RX7, "product", "()Z"⟩
abbrev cX7_opens : ByteArray := prog_9_method_21_code
def yX7_opens : MethodName := ⟨RX7, "opens", "()Z"⟩
abbrev cX7_one : ByteArray := prog_9_method_22_code
def yX7_one : MethodName := ⟨RX7, "one", "()Z"⟩
abbrev cX7_hasText : ByteArray := prog_9_method_23_code
def yX7_hasText : MethodName := ⟨RX7, "hasText", "(I)Z"⟩
abbrev cX7_text : ByteArray := prog_9_method_24_code
def yX7_text : MethodName := ⟨RX7, "text", "(I)I"⟩
abbrev cX7_untell : ByteArray := prog_9_method_25_code
def yX7_untell : MethodName := ⟨RX7, "untell", "(I)I"⟩
abbrev cX7_joined : ByteArray := prog_9_method_26_code
def yX7_joined : MethodName := ⟨RX7, "joined", "(III)I"⟩
abbrev cX7_worked : ByteArray := prog_9_method_27_code
def yX7_worked : MethodName := ⟨RX7, "worked", "(I)I"⟩
abbrev cX7_claimsOf : ByteArray := prog_9_method_28_code
def yX7_claimsOf : MethodName := ⟨RX7, "claimsOf", "(I)I"⟩
abbrev cX7_spoilsOf : ByteArray := prog_9_method_29_code
def yX7_spoilsOf : MethodName := ⟨RX7, "spoilsOf", "(I)I"⟩
abbrev cX7_claimTold : ByteArray := prog_9_method_30_code
def yX7_claimTold : MethodName := ⟨RX7, "claimTold", "(III)I"⟩
abbrev cX7_keepingTold : ByteArray := prog_9_method_31_code
def yX7_keepingTold : MethodName := ⟨RX7, "keepingTold", "(III)I"⟩
abbrev cX7_claimOf : ByteArray := prog_9_method_32_code
def yX7_claimOf : MethodName := ⟨RX7, "claimOf", "(I)I"⟩
abbrev cX7_findRuler : ByteArray := prog_9_method_33_code
def yX7_findRuler : MethodName := ⟨RX7, "findRuler", "()I"⟩
abbrev cX7_isInKeeping : ByteArray := prog_9_method_34_code
def yX7_isInKeeping : MethodName := ⟨RX7, "isInKeeping", "(II)Z"⟩
abbrev cX7_allLeft : ByteArray := prog_9_method_35_code
def yX7_allLeft : MethodName := ⟨RX7, "allLeft", "()I"⟩
abbrev cX7_leastClaim : ByteArray := prog_9_method_36_code
def yX7_leastClaim : MethodName := ⟨RX7, "leastClaim", "()I"⟩
abbrev cX7_eaten : ByteArray := prog_9_method_37_code
def yX7_eaten : MethodName := ⟨RX7, "eaten", "(I)I"⟩
abbrev cX7_aMeal : ByteArray := prog_9_method_38_code
def yX7_aMeal : MethodName := ⟨RX7, "aMeal", "(I)I"⟩
abbrev cX7_goes : ByteArray := prog_9_method_39_code
def yX7_goes : MethodName := ⟨RX7, "goes", "(II)V"⟩
abbrev cX7_draw : ByteArray := prog_9_method_40_code
def yX7_draw : MethodName := ⟨RX7, "draw", "()I"⟩
abbrev cX7_isKind : ByteArray := prog_9_method_41_code
def yX7_isKind : MethodName := ⟨RX7, "isKind", "(I)Z"⟩
abbrev cX7_laysDish : ByteArray := prog_9_method_42_code
def yX7_laysDish : MethodName := ⟨RX7, "laysDish", "(III)V"⟩
abbrev cX7_dish : ByteArray := prog_9_method_43_code
def yX7_dish : MethodName := ⟨RX7, "dish", "(III)I"⟩
abbrev cX7_dishIs : ByteArray := prog_9_method_44_code
def yX7_dishIs : MethodName := ⟨RX7, "dishIs", "(II)I"⟩
abbrev cX7_become : ByteArray := prog_9_method_45_code
def yX7_become : MethodName := ⟨RX7, "become", "(II)I"⟩
abbrev cX7_as : ByteArray := prog_9_method_46_code
def yX7_as : MethodName := ⟨RX7, "as", "(II)I"⟩
abbrev cX7_serve : ByteArray := prog_9_method_47_code
def yX7_serve : MethodName := ⟨RX7, "serve", "(II)I"⟩
abbrev cX7_season : ByteArray := prog_9_method_48_code
def yX7_season : MethodName := ⟨RX7, "season", "(II)I"⟩
abbrev cX7_rules : ByteArray := prog_9_method_49_code
def yX7_rules : MethodName := ⟨RX7, "rules", "()I"⟩
abbrev cX7_law : ByteArray := prog_9_method_50_code
def yX7_law : MethodName := ⟨RX7, "law", "(IIII)I"⟩
abbrev cX7_isHunger : ByteArray := prog_9_method_51_code
def yX7_isHunger : MethodName := ⟨RX7, "isHunger", "(I)Z"⟩
abbrev cX7_meal : ByteArray := prog_9_method_52_code
def yX7_meal : MethodName := ⟨RX7, "meal", "(I)I"⟩
abbrev cX7_meals : ByteArray := prog_9_method_53_code
def yX7_meals : MethodName := ⟨RX7, "meals", "(II)I"⟩
abbrev cX7_guests : ByteArray := prog_9_method_54_code
def yX7_guests : MethodName := ⟨RX7, "guests", "()V"⟩
abbrev cX7_loose : ByteArray := prog_9_method_55_code
def yX7_loose : MethodName := ⟨RX7, "loose", "(I)I"⟩
abbrev cX7_seed : ByteArray := prog_9_method_56_code
def yX7_seed : MethodName := ⟨RX7, "seed", "(I)I"⟩
abbrev cX7_then : ByteArray := prog_9_method_57_code
def yX7_then : MethodName := ⟨RX7, "then", "(III)I"⟩
abbrev cX7_gone : ByteArray := prog_9_method_58_code
def yX7_gone : MethodName := ⟨RX7, "gone", "(II)I"⟩
abbrev cX7_needs : ByteArray := prog_9_method_59_code
def yX7_needs : MethodName := ⟨RX7, "needs", "(I)I"⟩
abbrev cX7_manyIn : ByteArray := prog_9_method_60_code
def yX7_manyIn : MethodName := ⟨RX7, "manyIn", "(I)I"⟩
abbrev cX7_doesRule : ByteArray := prog_9_method_61_code
def yX7_doesRule : MethodName := ⟨RX7, "doesRule", "(IIII)Z"⟩
abbrev cX7_clears : ByteArray := prog_9_method_62_code
def yX7_clears : MethodName := ⟨RX7, "clears", "(IIII)I"⟩
abbrev cX7_keepingSizes : ByteArray := prog_9_method_63_code
def yX7_keepingSizes : MethodName := ⟨RX7, "keepingSizes", "()I"⟩
abbrev cX7_brings : ByteArray := prog_9_method_64_code
def yX7_brings : MethodName := ⟨RX7, "brings", "(II)I"⟩
abbrev cX7_divisor : ByteArray := prog_9_method_65_code
def yX7_divisor : MethodName := ⟨RX7, "divisor", "(II)I"⟩
abbrev cX7_odds : ByteArray := prog_9_method_66_code
def yX7_odds : MethodName := ⟨RX7, "odds", "(I)I"⟩
abbrev cX7_isLeftSo : ByteArray := prog_9_method_67_code
def yX7_isLeftSo : MethodName := ⟨RX7, "isLeftSo", "(II)Z"⟩
abbrev cX7_fits : ByteArray := prog_9_method_68_code
def yX7_fits : MethodName := ⟨RX7, "fits", "(II)I"⟩
abbrev cX7_starts : ByteArray := prog_9_method_69_code
def yX7_starts : MethodName := ⟨RX7, "starts", "(I)V"⟩
abbrev cX7_above : ByteArray := prog_9_method_70_code
def yX7_above : MethodName := ⟨RX7, "above", "(I)I"⟩
abbrev cX7_kindNow : ByteArray := prog_9_method_71_code
def yX7_kindNow : MethodName := ⟨RX7, "kindNow", "()I"⟩
abbrev cX7_mNow : ByteArray := prog_9_method_72_code
def yX7_mNow : MethodName := ⟨RX7, "mNow", "()I"⟩
abbrev cX7_sighsAs : ByteArray := prog_9_method_73_code
def yX7_sighsAs : MethodName := ⟨RX7, "sighsAs", "(II)I"⟩
abbrev cX7_asksAs : ByteArray := prog_9_method_74_code
def yX7_asksAs : MethodName := ⟨RX7, "asksAs", "(II)I"⟩
abbrev cX7_scrapesAs : ByteArray := prog_9_method_75_code
def yX7_scrapesAs : MethodName := ⟨RX7, "scrapesAs", "(II)I"⟩
abbrev cX7_partsAs : ByteArray := prog_9_method_76_code
def yX7_partsAs : MethodName := ⟨RX7, "partsAs", "(II)I"⟩
abbrev cX7_voice : ByteArray := prog_9_method_77_code
def yX7_voice : MethodName := ⟨RX7, "voice", "(III)I"⟩
abbrev cX7_body : ByteArray := prog_9_method_78_code
def yX7_body : MethodName := ⟨RX7, "body", "(I)I"⟩
abbrev cX7_isSheet : ByteArray := prog_9_method_79_code
def yX7_isSheet : MethodName := ⟨RX7, "isSheet", "(I)Z"⟩
abbrev cX7_sheet : ByteArray := prog_9_method_80_code
def yX7_sheet : MethodName := ⟨RX7, "sheet", "(III)I"⟩
abbrev cX7_put : ByteArray := prog_9_method_81_code
def yX7_put : MethodName := ⟨RX7, "put", "(III)I"⟩
abbrev cX7_move : ByteArray := prog_9_method_82_code
def yX7_move : MethodName := ⟨RX7, "move", "(IIIII)I"⟩
abbrev cX7_lacks : ByteArray := prog_9_method_83_code
def yX7_lacks : MethodName := ⟨RX7, "lacks", "(I)I"⟩
abbrev cX7_serves : ByteArray := prog_9_method_84_code
def yX7_serves : MethodName := ⟨RX7, "serves", "(I)I"⟩
abbrev cX7_judge : ByteArray := prog_9_method_85_code
def yX7_judge : MethodName := ⟨RX7, "judge", "(I)I"⟩
abbrev cX7_image : ByteArray := prog_9_method_86_code
def yX7_image : MethodName := ⟨RX7, "image", "()I"⟩
abbrev cX7_restore : ByteArray := prog_9_method_87_code
def yX7_restore : MethodName := ⟨RX7, "restore", "()I"⟩
abbrev cX7_tell : ByteArray := prog_9_method_88_code
def yX7_tell : MethodName := ⟨RX7, "tell", "(I)I"⟩
abbrev cX7_check : ByteArray := prog_9_method_89_code
def yX7_check : MethodName := ⟨RX7, "check", "()I"⟩
abbrev cX7_count : ByteArray := prog_9_method_90_code
def yX7_count : MethodName := ⟨RX7, "count", "(I)I"⟩
abbrev cX7_told : ByteArray := prog_9_method_91_code
def yX7_told : MethodName := ⟨RX7, "told", "(I)I"⟩
def RJ6 : String := "java/lang/Integer"
def TJ6 : u_T := fun k => match k with
  | _ => ("", "", "", false)
def tyJ6 : Nat → FieldType := fun k => match k with
  | _ => .int
abbrev wsJ60 : List Cond := u_ws RJ6 TJ6 0
theorem nmJ6 : ∀ a, a < 0 → ∀ b, b < 0 → a ≠ b → (TJ6 a).2.1 ≠ (TJ6 b).2.1 := by decide +kernel
theorem tyJ6_ok : ∀ k, k < 0 → parseFieldDescriptor (TJ6 k).2.2.1 = some (tyJ6 k) := by decide +kernel
abbrev cJ6_bitCount_0f7a4 : ByteArray := prog_10_method_49_code
def yJ6_bitCount_0f7a4 : MethodName := ⟨RJ6, "bitCount", "(I)I"⟩
def RJ9 : String := "java/lang/Math"
def TJ9 : u_T := fun k => match k with
  | _ => ("", "", "", false)
def tyJ9 : Nat → FieldType := fun k => match k with
  | _ => .int
abbrev wsJ90 : List Cond := u_ws RJ9 TJ9 0
theorem nmJ9 : ∀ a, a < 0 → ∀ b, b < 0 → a ≠ b → (TJ9 a).2.1 ≠ (TJ9 b).2.1 := by decide +kernel
theorem tyJ9_ok : ∀ k, k < 0 → parseFieldDescriptor (TJ9 k).2.2.1 = some (tyJ9 k) := by decide +kernel
abbrev cJ9_abs_067f4 : ByteArray := prog_11_method_61_code
def yJ9_abs_067f4 : MethodName := ⟨RJ9, "abs", "(J)J"⟩
abbrev cJ9_max_7cf53 : ByteArray := prog_11_method_65_code
def yJ9_max_7cf53 : MethodName := ⟨RJ9, "max", "(II)I"⟩
abbrev cJ9_min_7cf53 : ByteArray := prog_11_method_69_code
def yJ9_min_7cf53 : MethodName := ⟨RJ9, "min", "(II)I"⟩
def RJ10 : String := "java/lang/System"
def TJ10 : u_T := fun k => match k with
  | _ => ("", "", "", false)
def tyJ10 : Nat → FieldType := fun k => match k with
  | _ => .int
abbrev wsJ100 : List Cond := u_ws RJ10 TJ10 0
theorem nmJ10 : ∀ a, a < 0 → ∀ b, b < 0 → a ≠ b → (TJ10 a).2.1 ≠ (TJ10 b).2.1 := by decide +kernel
theorem tyJ10_ok : ∀ k, k < 0 → parseFieldDescriptor (TJ10 k).2.2.1 = some (tyJ10 k) := by decide +kernel
def RL : String := "LeftoverRuleLaw"
abbrev cL_law : ByteArray := code
def yL_law : MethodName := ⟨RL, "law", "([I)Z"⟩
abbrev vwCl : List vw_C := [(RX0, TX0, 8), (RX1, TX1, 5), (RX2, TX2, 6), (RX3, TX3, 3), (RX4, TX4, 11), (RX5, TX5, 6), (RX6, TX6, 9), (RX7, TX7, 22)]
/-- the words that a contract may rest on -/
def AW : List Cond := lw_tbl.filter goodWord
theorem aw_in {w : Cond} (i : Nat) (h : lw_tbl[i]? = some w) (hg : goodWord w = true) : w ∈ AW := List.mem_filter.mpr ⟨List.mem_of_getElem? h, hg⟩
theorem aw_tbl {w : Cond} (h : w ∈ AW) : w ∈ lw_tbl := (List.mem_filter.mp h).1
theorem aw_good {w : Cond} (h : w ∈ AW) : goodWord w = true := (List.mem_filter.mp h).2
