section
-- ===== PART A: goes FIRST, ahead of the names: the tables' words, and 'selects' of the private methods out of them =====
/-- a private method of a class that the tables say can be made, by its rows of tables_1 -/
def lw_okq (q : MethodName × Nat) : Prop := (q.1.cls ≠ "java/lang/invoke/MethodHandle" ∧ q.1.cls ≠ "java/lang/invoke/VarHandle") ∧ Cond.instantiable q.1.cls q.2 ∈ tables_1 ∧ Cond.privateMethod q.1 ∈ tables_1 ∧ Cond.instanceMethod q.1 ∈ tables_1
theorem lw_p0 : lw_okq (⟨"LeftoverRule", "wrong", "(I)I"⟩, 9) := ⟨⟨by decide +kernel, by decide +kernel⟩, List.mem_of_getElem? (i := 13) (by decide +kernel), List.mem_of_getElem? (i := 251) (by decide +kernel), List.mem_of_getElem? (i := 252) (by decide +kernel)⟩
theorem lw_p1 : lw_okq (⟨"LeftoverRule$Table", "claimOfKind", "(I)I"⟩, 11) := ⟨⟨by decide +kernel, by decide +kernel⟩, List.mem_of_getElem? (i := 50) (by decide +kernel), List.mem_of_getElem? (i := 272) (by decide +kernel), List.mem_of_getElem? (i := 273) (by decide +kernel)⟩
theorem lw_p2 : lw_okq (⟨"LeftoverRule$Law", "withoutText", "(II)I"⟩, 5) := ⟨⟨by decide +kernel, by decide +kernel⟩, List.mem_of_getElem? (i := 27) (by decide +kernel), List.mem_of_getElem? (i := 280) (by decide +kernel), List.mem_of_getElem? (i := 281) (by decide +kernel)⟩
theorem lw_p3 : lw_okq (⟨"LeftoverRule$Reader", "readLevel", "(II)V"⟩, 6) := ⟨⟨by decide +kernel, by decide +kernel⟩, List.mem_of_getElem? (i := 137) (by decide +kernel), List.mem_of_getElem? (i := 356) (by decide +kernel), List.mem_of_getElem? (i := 357) (by decide +kernel)⟩
theorem lw_p4 : lw_okq (⟨"LeftoverRule$Reader", "readQ", "(I)V"⟩, 6) := ⟨⟨by decide +kernel, by decide +kernel⟩, List.mem_of_getElem? (i := 137) (by decide +kernel), List.mem_of_getElem? (i := 360) (by decide +kernel), List.mem_of_getElem? (i := 361) (by decide +kernel)⟩
theorem lw_p5 : lw_okq (⟨"LeftoverRule$Reader", "next", "()I"⟩, 6) := ⟨⟨by decide +kernel, by decide +kernel⟩, List.mem_of_getElem? (i := 137) (by decide +kernel), List.mem_of_getElem? (i := 364) (by decide +kernel), List.mem_of_getElem? (i := 365) (by decide +kernel)⟩
theorem lw_p6 : lw_okq (⟨"LeftoverRule$Reader", "nameOf", "(I)I"⟩, 6) := ⟨⟨by decide +kernel, by decide +kernel⟩, List.mem_of_getElem? (i := 137) (by decide +kernel), List.mem_of_getElem? (i := 368) (by decide +kernel), List.mem_of_getElem? (i := 369) (by decide +kernel)⟩
theorem lw_p7 : lw_okq (⟨"LeftoverRule$Reader", "readNumber", "()V"⟩, 6) := ⟨⟨by decide +kernel, by decide +kernel⟩, List.mem_of_getElem? (i := 137) (by decide +kernel), List.mem_of_getElem? (i := 377) (by decide +kernel), List.mem_of_getElem? (i := 378) (by decide +kernel)⟩
theorem lw_p8 : lw_okq (⟨"LeftoverRule$Reader", "readClosing", "()V"⟩, 6) := ⟨⟨by decide +kernel, by decide +kernel⟩, List.mem_of_getElem? (i := 137) (by decide +kernel), List.mem_of_getElem? (i := 385) (by decide +kernel), List.mem_of_getElem? (i := 386) (by decide +kernel)⟩
theorem lw_p9 : lw_okq (⟨"LeftoverRule", "lawOf", "(I)LLeftoverRule$Law;"⟩, 9) := ⟨⟨by decide +kernel, by decide +kernel⟩, List.mem_of_getElem? (i := 13) (by decide +kernel), List.mem_of_getElem? (i := 392) (by decide +kernel), List.mem_of_getElem? (i := 393) (by decide +kernel)⟩
theorem lw_p10 : lw_okq (⟨"LeftoverRule$Table", "eat", "(II)I"⟩, 11) := ⟨⟨by decide +kernel, by decide +kernel⟩, List.mem_of_getElem? (i := 50) (by decide +kernel), List.mem_of_getElem? (i := 423) (by decide +kernel), List.mem_of_getElem? (i := 424) (by decide +kernel)⟩
theorem lw_p11 : lw_okq (⟨"LeftoverRule$Table", "leastClaim", "()I"⟩, 11) := ⟨⟨by decide +kernel, by decide +kernel⟩, List.mem_of_getElem? (i := 50) (by decide +kernel), List.mem_of_getElem? (i := 428) (by decide +kernel), List.mem_of_getElem? (i := 429) (by decide +kernel)⟩
theorem lw_p12 : lw_okq (⟨"LeftoverRule$House", "draw", "()I"⟩, 8) := ⟨⟨by decide +kernel, by decide +kernel⟩, List.mem_of_getElem? (i := 21) (by decide +kernel), List.mem_of_getElem? (i := 456) (by decide +kernel), List.mem_of_getElem? (i := 457) (by decide +kernel)⟩
theorem lw_p13 : lw_okq (⟨"LeftoverRule", "rulesWithout", "(IIII)Z"⟩, 9) := ⟨⟨by decide +kernel, by decide +kernel⟩, List.mem_of_getElem? (i := 13) (by decide +kernel), List.mem_of_getElem? (i := 493) (by decide +kernel), List.mem_of_getElem? (i := 494) (by decide +kernel)⟩
theorem lw_p14 : lw_okq (⟨"LeftoverRule", "tellsSizes", "(LLeftoverRule$Sheet;)Z"⟩, 9) := ⟨⟨by decide +kernel, by decide +kernel⟩, List.mem_of_getElem? (i := 13) (by decide +kernel), List.mem_of_getElem? (i := 523) (by decide +kernel), List.mem_of_getElem? (i := 524) (by decide +kernel)⟩
theorem lw_p15 : lw_okq (⟨"LeftoverRule$Voices", "say", "(IIII)I"⟩, 6) := ⟨⟨by decide +kernel, by decide +kernel⟩, List.mem_of_getElem? (i := 165) (by decide +kernel), List.mem_of_getElem? (i := 535) (by decide +kernel), List.mem_of_getElem? (i := 536) (by decide +kernel)⟩
def lw_privs_1 : List (MethodName × Nat) := [(⟨"LeftoverRule", "wrong", "(I)I"⟩, 9), (⟨"LeftoverRule$Table", "claimOfKind", "(I)I"⟩, 11), (⟨"LeftoverRule$Law", "withoutText", "(II)I"⟩, 5), (⟨"LeftoverRule$Reader", "readLevel", "(II)V"⟩, 6), (⟨"LeftoverRule$Reader", "readQ", "(I)V"⟩, 6), (⟨"LeftoverRule$Reader", "next", "()I"⟩, 6), (⟨"LeftoverRule$Reader", "nameOf", "(I)I"⟩, 6), (⟨"LeftoverRule$Reader", "readNumber", "()V"⟩, 6), (⟨"LeftoverRule$Reader", "readClosing", "()V"⟩, 6), (⟨"LeftoverRule", "lawOf", "(I)LLeftoverRule$Law;"⟩, 9), (⟨"LeftoverRule$Table", "eat", "(II)I"⟩, 11), (⟨"LeftoverRule$Table", "leastClaim", "()I"⟩, 11), (⟨"LeftoverRule$House", "draw", "()I"⟩, 8), (⟨"LeftoverRule", "rulesWithout", "(IIII)Z"⟩, 9), (⟨"LeftoverRule", "tellsSizes", "(LLeftoverRule$Sheet;)Z"⟩, 9), (⟨"LeftoverRule$Voices", "say", "(IIII)I"⟩, 6)]
theorem lw_r1 : ∀ q ∈ lw_privs_1, lw_okq q := List.forall_mem_cons.mpr ⟨lw_p0, List.forall_mem_cons.mpr ⟨lw_p1, List.forall_mem_cons.mpr ⟨lw_p2, List.forall_mem_cons.mpr ⟨lw_p3, List.forall_mem_cons.mpr ⟨lw_p4, List.forall_mem_cons.mpr ⟨lw_p5, List.forall_mem_cons.mpr ⟨lw_p6, List.forall_mem_cons.mpr ⟨lw_p7, List.forall_mem_cons.mpr ⟨lw_p8, List.forall_mem_cons.mpr ⟨lw_p9, List.forall_mem_cons.mpr ⟨lw_p10, List.forall_mem_cons.mpr ⟨lw_p11, List.forall_mem_cons.mpr ⟨lw_p12, List.forall_mem_cons.mpr ⟨lw_p13, List.forall_mem_cons.mpr ⟨lw_p14, List.forall_mem_cons.mpr ⟨lw_p15, fun _ h => absurd h List.not_mem_nil⟩⟩⟩⟩⟩⟩⟩⟩⟩⟩⟩⟩⟩⟩⟩⟩
theorem lw_p16 : lw_okq (⟨"LeftoverRule$Voices", "began", "(I)V"⟩, 6) := ⟨⟨by decide +kernel, by decide +kernel⟩, List.mem_of_getElem? (i := 165) (by decide +kernel), List.mem_of_getElem? (i := 545) (by decide +kernel), List.mem_of_getElem? (i := 546) (by decide +kernel)⟩
theorem lw_p17 : lw_okq (⟨"LeftoverRule$Voices", "part", "(I)I"⟩, 6) := ⟨⟨by decide +kernel, by decide +kernel⟩, List.mem_of_getElem? (i := 165) (by decide +kernel), List.mem_of_getElem? (i := 549) (by decide +kernel), List.mem_of_getElem? (i := 550) (by decide +kernel)⟩
theorem lw_p18 : lw_okq (⟨"LeftoverRule$Voices", "partOfJoint", "(II)I"⟩, 6) := ⟨⟨by decide +kernel, by decide +kernel⟩, List.mem_of_getElem? (i := 165) (by decide +kernel), List.mem_of_getElem? (i := 553) (by decide +kernel), List.mem_of_getElem? (i := 554) (by decide +kernel)⟩
theorem lw_p19 : lw_okq (⟨"LeftoverRuleModel", "error", "(I)I"⟩, 22) := ⟨⟨by decide +kernel, by decide +kernel⟩, List.mem_of_getElem? (i := 625) (by decide +kernel), List.mem_of_getElem? (i := 706) (by decide +kernel), List.mem_of_getElem? (i := 707) (by decide +kernel)⟩
theorem lw_p20 : lw_okq (⟨"LeftoverRuleModel", "whole", "()Z"⟩, 22) := ⟨⟨by decide +kernel, by decide +kernel⟩, List.mem_of_getElem? (i := 625) (by decide +kernel), List.mem_of_getElem? (i := 716) (by decide +kernel), List.mem_of_getElem? (i := 717) (by decide +kernel)⟩
theorem lw_p21 : lw_okq (⟨"LeftoverRuleModel", "both", "()Z"⟩, 22) := ⟨⟨by decide +kernel, by decide +kernel⟩, List.mem_of_getElem? (i := 625) (by decide +kernel), List.mem_of_getElem? (i := 720) (by decide +kernel), List.mem_of_getElem? (i := 721) (by decide +kernel)⟩
theorem lw_p22 : lw_okq (⟨"LeftoverRuleModel", "compared", "()Z"⟩, 22) := ⟨⟨by decide +kernel, by decide +kernel⟩, List.mem_of_getElem? (i := 625) (by decide +kernel), List.mem_of_getElem? (i := 724) (by decide +kernel), List.mem_of_getElem? (i := 725) (by decide +kernel)⟩
theorem lw_p23 : lw_okq (⟨"LeftoverRuleModel", "sum", "()Z"⟩, 22) := ⟨⟨by decide +kernel, by decide +kernel⟩, List.mem_of_getElem? (i := 625) (by decide +kernel), List.mem_of_getElem? (i := 728) (by decide +kernel), List.mem_of_getElem? (i := 729) (by decide +kernel)⟩
theorem lw_p24 : lw_okq (⟨"LeftoverRuleModel", "product", "()Z"⟩, 22) := ⟨⟨by decide +kernel, by decide +kernel⟩, List.mem_of_getElem? (i := 625) (by decide +kernel), List.mem_of_getElem? (i := 732) (by decide +kernel), List.mem_of_getElem? (i := 733) (by decide +kernel)⟩
theorem lw_p25 : lw_okq (⟨"LeftoverRuleModel", "one", "()Z"⟩, 22) := ⟨⟨by decide +kernel, by decide +kernel⟩, List.mem_of_getElem? (i := 625) (by decide +kernel), List.mem_of_getElem? (i := 736) (by decide +kernel), List.mem_of_getElem? (i := 737) (by decide +kernel)⟩
theorem lw_p26 : lw_okq (⟨"LeftoverRuleModel", "look", "()I"⟩, 22) := ⟨⟨by decide +kernel, by decide +kernel⟩, List.mem_of_getElem? (i := 625) (by decide +kernel), List.mem_of_getElem? (i := 740) (by decide +kernel), List.mem_of_getElem? (i := 741) (by decide +kernel)⟩
theorem lw_p27 : lw_okq (⟨"LeftoverRuleModel", "isName", "(I)Z"⟩, 22) := ⟨⟨by decide +kernel, by decide +kernel⟩, List.mem_of_getElem? (i := 625) (by decide +kernel), List.mem_of_getElem? (i := 744) (by decide +kernel), List.mem_of_getElem? (i := 745) (by decide +kernel)⟩
theorem lw_p28 : lw_okq (⟨"LeftoverRuleModel", "step1", "(II)V"⟩, 22) := ⟨⟨by decide +kernel, by decide +kernel⟩, List.mem_of_getElem? (i := 625) (by decide +kernel), List.mem_of_getElem? (i := 748) (by decide +kernel), List.mem_of_getElem? (i := 749) (by decide +kernel)⟩
theorem lw_p29 : lw_okq (⟨"LeftoverRuleModel", "opens", "()Z"⟩, 22) := ⟨⟨by decide +kernel, by decide +kernel⟩, List.mem_of_getElem? (i := 625) (by decide +kernel), List.mem_of_getElem? (i := 752) (by decide +kernel), List.mem_of_getElem? (i := 753) (by decide +kernel)⟩
theorem lw_p30 : lw_okq (⟨"LeftoverRuleModel", "hasText", "(I)Z"⟩, 22) := ⟨⟨by decide +kernel, by decide +kernel⟩, List.mem_of_getElem? (i := 625) (by decide +kernel), List.mem_of_getElem? (i := 760) (by decide +kernel), List.mem_of_getElem? (i := 761) (by decide +kernel)⟩
theorem lw_p31 : lw_okq (⟨"LeftoverRuleModel", "laysDish", "(III)V"⟩, 22) := ⟨⟨by decide +kernel, by decide +kernel⟩, List.mem_of_getElem? (i := 625) (by decide +kernel), List.mem_of_getElem? (i := 771) (by decide +kernel), List.mem_of_getElem? (i := 772) (by decide +kernel)⟩
def lw_privs_2 : List (MethodName × Nat) := [(⟨"LeftoverRule$Voices", "began", "(I)V"⟩, 6), (⟨"LeftoverRule$Voices", "part", "(I)I"⟩, 6), (⟨"LeftoverRule$Voices", "partOfJoint", "(II)I"⟩, 6), (⟨"LeftoverRuleModel", "error", "(I)I"⟩, 22), (⟨"LeftoverRuleModel", "whole", "()Z"⟩, 22), (⟨"LeftoverRuleModel", "both", "()Z"⟩, 22), (⟨"LeftoverRuleModel", "compared", "()Z"⟩, 22), (⟨"LeftoverRuleModel", "sum", "()Z"⟩, 22), (⟨"LeftoverRuleModel", "product", "()Z"⟩, 22), (⟨"LeftoverRuleModel", "one", "()Z"⟩, 22), (⟨"LeftoverRuleModel", "look", "()I"⟩, 22), (⟨"LeftoverRuleModel", "isName", "(I)Z"⟩, 22), (⟨"LeftoverRuleModel", "step1", "(II)V"⟩, 22), (⟨"LeftoverRuleModel", "opens", "()Z"⟩, 22), (⟨"LeftoverRuleModel", "hasText", "(I)Z"⟩, 22), (⟨"LeftoverRuleModel", "laysDish", "(III)V"⟩, 22)]
theorem lw_r2 : ∀ q ∈ lw_privs_2, lw_okq q := List.forall_mem_cons.mpr ⟨lw_p16, List.forall_mem_cons.mpr ⟨lw_p17, List.forall_mem_cons.mpr ⟨lw_p18, List.forall_mem_cons.mpr ⟨lw_p19, List.forall_mem_cons.mpr ⟨lw_p20, List.forall_mem_cons.mpr ⟨lw_p21, List.forall_mem_cons.mpr ⟨lw_p22, List.forall_mem_cons.mpr ⟨lw_p23, List.forall_mem_cons.mpr ⟨lw_p24, List.forall_mem_cons.mpr ⟨lw_p25, List.forall_mem_cons.mpr ⟨lw_p26, List.forall_mem_cons.mpr ⟨lw_p27, List.forall_mem_cons.mpr ⟨lw_p28, List.forall_mem_cons.mpr ⟨lw_p29, List.forall_mem_cons.mpr ⟨lw_p30, List.forall_mem_cons.mpr ⟨lw_p31, fun _ h => absurd h List.not_mem_nil⟩⟩⟩⟩⟩⟩⟩⟩⟩⟩⟩⟩⟩⟩⟩⟩
theorem lw_p32 : lw_okq (⟨"LeftoverRuleModel", "lays1", "(III)V"⟩, 22) := ⟨⟨by decide +kernel, by decide +kernel⟩, List.mem_of_getElem? (i := 625) (by decide +kernel), List.mem_of_getElem? (i := 775) (by decide +kernel), List.mem_of_getElem? (i := 776) (by decide +kernel)⟩
theorem lw_p33 : lw_okq (⟨"LeftoverRuleModel", "isDish", "(I)Z"⟩, 22) := ⟨⟨by decide +kernel, by decide +kernel⟩, List.mem_of_getElem? (i := 625) (by decide +kernel), List.mem_of_getElem? (i := 783) (by decide +kernel), List.mem_of_getElem? (i := 784) (by decide +kernel)⟩
theorem lw_p34 : lw_okq (⟨"LeftoverRuleModel", "claimOf", "(I)I"⟩, 22) := ⟨⟨by decide +kernel, by decide +kernel⟩, List.mem_of_getElem? (i := 625) (by decide +kernel), List.mem_of_getElem? (i := 787) (by decide +kernel), List.mem_of_getElem? (i := 788) (by decide +kernel)⟩
theorem lw_p35 : lw_okq (⟨"LeftoverRuleModel", "claimsOf", "(I)I"⟩, 22) := ⟨⟨by decide +kernel, by decide +kernel⟩, List.mem_of_getElem? (i := 625) (by decide +kernel), List.mem_of_getElem? (i := 791) (by decide +kernel), List.mem_of_getElem? (i := 792) (by decide +kernel)⟩
theorem lw_p36 : lw_okq (⟨"LeftoverRuleModel", "its", "(II)I"⟩, 22) := ⟨⟨by decide +kernel, by decide +kernel⟩, List.mem_of_getElem? (i := 625) (by decide +kernel), List.mem_of_getElem? (i := 795) (by decide +kernel), List.mem_of_getElem? (i := 796) (by decide +kernel)⟩
theorem lw_p37 : lw_okq (⟨"LeftoverRuleModel", "claimTold", "(III)I"⟩, 22) := ⟨⟨by decide +kernel, by decide +kernel⟩, List.mem_of_getElem? (i := 625) (by decide +kernel), List.mem_of_getElem? (i := 799) (by decide +kernel), List.mem_of_getElem? (i := 800) (by decide +kernel)⟩
theorem lw_p38 : lw_okq (⟨"LeftoverRuleModel", "worked", "(I)I"⟩, 22) := ⟨⟨by decide +kernel, by decide +kernel⟩, List.mem_of_getElem? (i := 625) (by decide +kernel), List.mem_of_getElem? (i := 803) (by decide +kernel), List.mem_of_getElem? (i := 804) (by decide +kernel)⟩
theorem lw_p39 : lw_okq (⟨"LeftoverRuleModel", "spoilsOf", "(I)I"⟩, 22) := ⟨⟨by decide +kernel, by decide +kernel⟩, List.mem_of_getElem? (i := 625) (by decide +kernel), List.mem_of_getElem? (i := 813) (by decide +kernel), List.mem_of_getElem? (i := 814) (by decide +kernel)⟩
theorem lw_p40 : lw_okq (⟨"LeftoverRuleModel", "findRuler", "()I"⟩, 22) := ⟨⟨by decide +kernel, by decide +kernel⟩, List.mem_of_getElem? (i := 625) (by decide +kernel), List.mem_of_getElem? (i := 817) (by decide +kernel), List.mem_of_getElem? (i := 818) (by decide +kernel)⟩
theorem lw_p41 : lw_okq (⟨"LeftoverRuleModel", "isInKeeping", "(II)Z"⟩, 22) := ⟨⟨by decide +kernel, by decide +kernel⟩, List.mem_of_getElem? (i := 625) (by decide +kernel), List.mem_of_getElem? (i := 821) (by decide +kernel), List.mem_of_getElem? (i := 822) (by decide +kernel)⟩
theorem lw_p42 : lw_okq (⟨"LeftoverRuleModel", "keepingTold", "(III)I"⟩, 22) := ⟨⟨by decide +kernel, by decide +kernel⟩, List.mem_of_getElem? (i := 625) (by decide +kernel), List.mem_of_getElem? (i := 825) (by decide +kernel), List.mem_of_getElem? (i := 826) (by decide +kernel)⟩
theorem lw_p43 : lw_okq (⟨"LeftoverRuleModel", "change1", "(II)I"⟩, 22) := ⟨⟨by decide +kernel, by decide +kernel⟩, List.mem_of_getElem? (i := 625) (by decide +kernel), List.mem_of_getElem? (i := 835) (by decide +kernel), List.mem_of_getElem? (i := 836) (by decide +kernel)⟩
theorem lw_p44 : lw_okq (⟨"LeftoverRuleModel", "aMeal", "(I)I"⟩, 22) := ⟨⟨by decide +kernel, by decide +kernel⟩, List.mem_of_getElem? (i := 625) (by decide +kernel), List.mem_of_getElem? (i := 869) (by decide +kernel), List.mem_of_getElem? (i := 870) (by decide +kernel)⟩
theorem lw_p45 : lw_okq (⟨"LeftoverRuleModel", "eaten", "(I)I"⟩, 22) := ⟨⟨by decide +kernel, by decide +kernel⟩, List.mem_of_getElem? (i := 625) (by decide +kernel), List.mem_of_getElem? (i := 873) (by decide +kernel), List.mem_of_getElem? (i := 874) (by decide +kernel)⟩
theorem lw_p46 : lw_okq (⟨"LeftoverRuleModel", "leastClaim", "()I"⟩, 22) := ⟨⟨by decide +kernel, by decide +kernel⟩, List.mem_of_getElem? (i := 625) (by decide +kernel), List.mem_of_getElem? (i := 877) (by decide +kernel), List.mem_of_getElem? (i := 878) (by decide +kernel)⟩
theorem lw_p47 : lw_okq (⟨"LeftoverRuleModel", "goes", "(II)V"⟩, 22) := ⟨⟨by decide +kernel, by decide +kernel⟩, List.mem_of_getElem? (i := 625) (by decide +kernel), List.mem_of_getElem? (i := 886) (by decide +kernel), List.mem_of_getElem? (i := 887) (by decide +kernel)⟩
def lw_privs_3 : List (MethodName × Nat) := [(⟨"LeftoverRuleModel", "lays1", "(III)V"⟩, 22), (⟨"LeftoverRuleModel", "isDish", "(I)Z"⟩, 22), (⟨"LeftoverRuleModel", "claimOf", "(I)I"⟩, 22), (⟨"LeftoverRuleModel", "claimsOf", "(I)I"⟩, 22), (⟨"LeftoverRuleModel", "its", "(II)I"⟩, 22), (⟨"LeftoverRuleModel", "claimTold", "(III)I"⟩, 22), (⟨"LeftoverRuleModel", "worked", "(I)I"⟩, 22), (⟨"LeftoverRuleModel", "spoilsOf", "(I)I"⟩, 22), (⟨"LeftoverRuleModel", "findRuler", "()I"⟩, 22), (⟨"LeftoverRuleModel", "isInKeeping", "(II)Z"⟩, 22), (⟨"LeftoverRuleModel", "keepingTold", "(III)I"⟩, 22), (⟨"LeftoverRuleModel", "change1", "(II)I"⟩, 22), (⟨"LeftoverRuleModel", "aMeal", "(I)I"⟩, 22), (⟨"LeftoverRuleModel", "eaten", "(I)I"⟩, 22), (⟨"LeftoverRuleModel", "leastClaim", "()I"⟩, 22), (⟨"LeftoverRuleModel", "goes", "(II)V"⟩, 22)]
theorem lw_r3 : ∀ q ∈ lw_privs_3, lw_okq q := List.forall_mem_cons.mpr ⟨lw_p32, List.forall_mem_cons.mpr ⟨lw_p33, List.forall_mem_cons.mpr ⟨lw_p34, List.forall_mem_cons.mpr ⟨lw_p35, List.forall_mem_cons.mpr ⟨lw_p36, List.forall_mem_cons.mpr ⟨lw_p37, List.forall_mem_cons.mpr ⟨lw_p38, List.forall_mem_cons.mpr ⟨lw_p39, List.forall_mem_cons.mpr ⟨lw_p40, List.forall_mem_cons.mpr ⟨lw_p41, List.forall_mem_cons.mpr ⟨lw_p42, List.forall_mem_cons.mpr ⟨lw_p43, List.forall_mem_cons.mpr ⟨lw_p44, List.forall_mem_cons.mpr ⟨lw_p45, List.forall_mem_cons.mpr ⟨lw_p46, List.forall_mem_cons.mpr ⟨lw_p47, fun _ h => absurd h List.not_mem_nil⟩⟩⟩⟩⟩⟩⟩⟩⟩⟩⟩⟩⟩⟩⟩⟩
theorem lw_p48 : lw_okq (⟨"LeftoverRuleModel", "allLeft", "()I"⟩, 22) := ⟨⟨by decide +kernel, by decide +kernel⟩, List.mem_of_getElem? (i := 625) (by decide +kernel), List.mem_of_getElem? (i := 890) (by decide +kernel), List.mem_of_getElem? (i := 891) (by decide +kernel)⟩
theorem lw_p49 : lw_okq (⟨"LeftoverRuleModel", "guests", "()V"⟩, 22) := ⟨⟨by decide +kernel, by decide +kernel⟩, List.mem_of_getElem? (i := 625) (by decide +kernel), List.mem_of_getElem? (i := 898) (by decide +kernel), List.mem_of_getElem? (i := 899) (by decide +kernel)⟩
theorem lw_p50 : lw_okq (⟨"LeftoverRuleModel", "draw", "()I"⟩, 22) := ⟨⟨by decide +kernel, by decide +kernel⟩, List.mem_of_getElem? (i := 625) (by decide +kernel), List.mem_of_getElem? (i := 902) (by decide +kernel), List.mem_of_getElem? (i := 903) (by decide +kernel)⟩
theorem lw_p51 : lw_okq (⟨"LeftoverRuleModel", "layDown", "()V"⟩, 22) := ⟨⟨by decide +kernel, by decide +kernel⟩, List.mem_of_getElem? (i := 625) (by decide +kernel), List.mem_of_getElem? (i := 915) (by decide +kernel), List.mem_of_getElem? (i := 916) (by decide +kernel)⟩
theorem lw_p52 : lw_okq (⟨"LeftoverRuleModel", "layBack", "()V"⟩, 22) := ⟨⟨by decide +kernel, by decide +kernel⟩, List.mem_of_getElem? (i := 625) (by decide +kernel), List.mem_of_getElem? (i := 919) (by decide +kernel), List.mem_of_getElem? (i := 920) (by decide +kernel)⟩
theorem lw_p53 : lw_okq (⟨"LeftoverRuleModel", "doesRule", "(IIII)Z"⟩, 22) := ⟨⟨by decide +kernel, by decide +kernel⟩, List.mem_of_getElem? (i := 625) (by decide +kernel), List.mem_of_getElem? (i := 938) (by decide +kernel), List.mem_of_getElem? (i := 939) (by decide +kernel)⟩
theorem lw_p54 : lw_okq (⟨"LeftoverRuleModel", "keepingSizes", "()I"⟩, 22) := ⟨⟨by decide +kernel, by decide +kernel⟩, List.mem_of_getElem? (i := 625) (by decide +kernel), List.mem_of_getElem? (i := 946) (by decide +kernel), List.mem_of_getElem? (i := 947) (by decide +kernel)⟩
theorem lw_p55 : lw_okq (⟨"LeftoverRuleModel", "lacks", "(I)I"⟩, 22) := ⟨⟨by decide +kernel, by decide +kernel⟩, List.mem_of_getElem? (i := 625) (by decide +kernel), List.mem_of_getElem? (i := 961) (by decide +kernel), List.mem_of_getElem? (i := 962) (by decide +kernel)⟩
theorem lw_p56 : lw_okq (⟨"LeftoverRuleModel", "isLeftSo", "(II)Z"⟩, 22) := ⟨⟨by decide +kernel, by decide +kernel⟩, List.mem_of_getElem? (i := 625) (by decide +kernel), List.mem_of_getElem? (i := 968) (by decide +kernel), List.mem_of_getElem? (i := 969) (by decide +kernel)⟩
theorem lw_p57 : lw_okq (⟨"LeftoverRuleModel", "kindNow", "()I"⟩, 22) := ⟨⟨by decide +kernel, by decide +kernel⟩, List.mem_of_getElem? (i := 625) (by decide +kernel), List.mem_of_getElem? (i := 976) (by decide +kernel), List.mem_of_getElem? (i := 977) (by decide +kernel)⟩
theorem lw_p58 : lw_okq (⟨"LeftoverRuleModel", "sighsAs", "(II)I"⟩, 22) := ⟨⟨by decide +kernel, by decide +kernel⟩, List.mem_of_getElem? (i := 625) (by decide +kernel), List.mem_of_getElem? (i := 980) (by decide +kernel), List.mem_of_getElem? (i := 981) (by decide +kernel)⟩
theorem lw_p59 : lw_okq (⟨"LeftoverRuleModel", "starts", "(I)V"⟩, 22) := ⟨⟨by decide +kernel, by decide +kernel⟩, List.mem_of_getElem? (i := 625) (by decide +kernel), List.mem_of_getElem? (i := 984) (by decide +kernel), List.mem_of_getElem? (i := 985) (by decide +kernel)⟩
theorem lw_p60 : lw_okq (⟨"LeftoverRuleModel", "asksAs", "(II)I"⟩, 22) := ⟨⟨by decide +kernel, by decide +kernel⟩, List.mem_of_getElem? (i := 625) (by decide +kernel), List.mem_of_getElem? (i := 988) (by decide +kernel), List.mem_of_getElem? (i := 989) (by decide +kernel)⟩
theorem lw_p61 : lw_okq (⟨"LeftoverRuleModel", "mNow", "()I"⟩, 22) := ⟨⟨by decide +kernel, by decide +kernel⟩, List.mem_of_getElem? (i := 625) (by decide +kernel), List.mem_of_getElem? (i := 992) (by decide +kernel), List.mem_of_getElem? (i := 993) (by decide +kernel)⟩
theorem lw_p62 : lw_okq (⟨"LeftoverRuleModel", "scrapesAs", "(II)I"⟩, 22) := ⟨⟨by decide +kernel, by decide +kernel⟩, List.mem_of_getElem? (i := 625) (by decide +kernel), List.mem_of_getElem? (i := 996) (by decide +kernel), List.mem_of_getElem? (i := 997) (by decide +kernel)⟩
theorem lw_p63 : lw_okq (⟨"LeftoverRuleModel", "partsAs", "(II)I"⟩, 22) := ⟨⟨by decide +kernel, by decide +kernel⟩, List.mem_of_getElem? (i := 625) (by decide +kernel), List.mem_of_getElem? (i := 1000) (by decide +kernel), List.mem_of_getElem? (i := 1001) (by decide +kernel)⟩
def lw_privs_4 : List (MethodName × Nat) := [(⟨"LeftoverRuleModel", "allLeft", "()I"⟩, 22), (⟨"LeftoverRuleModel", "guests", "()V"⟩, 22), (⟨"LeftoverRuleModel", "draw", "()I"⟩, 22), (⟨"LeftoverRuleModel", "layDown", "()V"⟩, 22), (⟨"LeftoverRuleModel", "layBack", "()V"⟩, 22), (⟨"LeftoverRuleModel", "doesRule", "(IIII)Z"⟩, 22), (⟨"LeftoverRuleModel", "keepingSizes", "()I"⟩, 22), (⟨"LeftoverRuleModel", "lacks", "(I)I"⟩, 22), (⟨"LeftoverRuleModel", "isLeftSo", "(II)Z"⟩, 22), (⟨"LeftoverRuleModel", "kindNow", "()I"⟩, 22), (⟨"LeftoverRuleModel", "sighsAs", "(II)I"⟩, 22), (⟨"LeftoverRuleModel", "starts", "(I)V"⟩, 22), (⟨"LeftoverRuleModel", "asksAs", "(II)I"⟩, 22), (⟨"LeftoverRuleModel", "mNow", "()I"⟩, 22), (⟨"LeftoverRuleModel", "scrapesAs", "(II)I"⟩, 22), (⟨"LeftoverRuleModel", "partsAs", "(II)I"⟩, 22)]
theorem lw_r4 : ∀ q ∈ lw_privs_4, lw_okq q := List.forall_mem_cons.mpr ⟨lw_p48, List.forall_mem_cons.mpr ⟨lw_p49, List.forall_mem_cons.mpr ⟨lw_p50, List.forall_mem_cons.mpr ⟨lw_p51, List.forall_mem_cons.mpr ⟨lw_p52, List.forall_mem_cons.mpr ⟨lw_p53, List.forall_mem_cons.mpr ⟨lw_p54, List.forall_mem_cons.mpr ⟨lw_p55, List.forall_mem_cons.mpr ⟨lw_p56, List.forall_mem_cons.mpr ⟨lw_p57, List.forall_mem_cons.mpr ⟨lw_p58, List.forall_mem_cons.mpr ⟨lw_p59, List.forall_mem_cons.mpr ⟨lw_p60, List.forall_mem_cons.mpr ⟨lw_p61, List.forall_mem_cons.mpr ⟨lw_p62, List.forall_mem_cons.mpr ⟨lw_p63, fun _ h => absurd h List.not_mem_nil⟩⟩⟩⟩⟩⟩⟩⟩⟩⟩⟩⟩⟩⟩⟩⟩
def lw_privs : List (MethodName × Nat) := lw_privs_1 ++ (lw_privs_2 ++ (lw_privs_3 ++ (lw_privs_4)))
def lw_tbl : List Cond := k2_sels lw_privs ++ tables_1
theorem lw_privs_ok : ∀ q ∈ lw_privs, lw_okq q := by
  show ∀ q ∈ lw_privs_1 ++ (lw_privs_2 ++ (lw_privs_3 ++ (lw_privs_4))), lw_okq q
  exact List.forall_mem_append.mpr ⟨lw_r1, List.forall_mem_append.mpr ⟨lw_r2, List.forall_mem_append.mpr ⟨lw_r3, lw_r4⟩⟩⟩
-- ===== end of PART A; then your names; then what follows =====
def RX0 : String := "LeftoverRule$House"
def TX0 : u_T := fun k => match k with
  | 0 => ("LeftoverRule$House", "claim", "LLeftoverRule$Law;", true)
  | 1 => ("LeftoverRule$House", "keeping", "LLeftoverRule$Law;", true)
  | 2 => ("LeftoverRule$House", "table", "LLeftoverRule$Table;", true)
  | 3 => ("LeftoverRule$House", "tape", "[I", true)
  | 4 => ("LeftoverRule$House", "taped", "I", false)
  | 5 => ("LeftoverRule$House", "waits", "[I", true)
  | 6 => ("LeftoverRule$House", "waiting", "I", false)
  | _ => ("LeftoverRule$House", "z", "I", false)
def tyX0 : Nat → FieldType := fun k => match k with
  | 0 => .object "LeftoverRule$Law"
  | 1 => .object "LeftoverRule$Law"
  | 2 => .object "LeftoverRule$Table"
  | 3 => .array .int
  | 4 => .int
  | 5 => .array .int
  | 6 => .int
  | _ => .int
abbrev wsX00 : List Cond := u_ws RX0 TX0 8
theorem nmX0 : ∀ a, a < 8 → ∀ b, b < 8 → a ≠ b → (TX0 a).2.1 ≠ (TX0 b).2.1 := by decide +kernel
theorem tyX0_ok : ∀ k, k < 8 → parseFieldDescriptor (TX0 k).2.2.1 = some (tyX0 k) := by decide +kernel
abbrev cX0_init : ByteArray := prog_2_method_1_code
def yX0_init : MethodName := ⟨RX0, "<init>", "()V"⟩
abbrev cX0_takeFrom : ByteArray := prog_2_method_2_code
def yX0_takeFrom : MethodName := ⟨RX0, "takeFrom", "(LLeftoverRule$House;)V"⟩
abbrev cX0_dineByDraws : ByteArray := prog_2_method_3_code
def yX0_dineByDraws : MethodName := ⟨RX0, "dineByDraws", "()I"⟩
abbrev cX0_draw : ByteArray := prog_2_method_4_code
def yX0_draw : MethodName := ⟨RX0, "draw", "()I"⟩
def RX1 : String := "LeftoverRule$Law"
def TX1 : u_T := fun k => match k with
  | 0 => ("LeftoverRule$Law", "most", "I", true)
  | 1 => ("LeftoverRule$Law", "ofFlavours", "Z", true)
  | 2 => ("LeftoverRule$Law", "steps", "[I", true)
  | 3 => ("LeftoverRule$Law", "stack", "[I", true)
  | _ => ("LeftoverRule$Law", "length", "I", false)
def tyX1 : Nat → FieldType := fun k => match k with
  | 0 => .int
  | 1 => .boolean
  | 2 => .array .int
  | 3 => .array .int
  | _ => .int
abbrev wsX10 : List Cond := u_ws RX1 TX1 5
theorem nmX1 : ∀ a, a < 5 → ∀ b, b < 5 → a ≠ b → (TX1 a).2.1 ≠ (TX1 b).2.1 := by decide +kernel
theorem tyX1_ok : ∀ k, k < 5 → parseFieldDescriptor (TX1 k).2.2.1 = some (tyX1 k) := by decide +kernel
abbrev cX1_init : ByteArray := prog_3_method_1_code
def yX1_init : MethodName := ⟨RX1, "<init>", "(IZ)V"⟩
abbrev cX1_add : ByteArray := prog_3_method_2_code
def yX1_add : MethodName := ⟨RX1, "add", "(I)V"⟩
abbrev cX1_takeFrom : ByteArray := prog_3_method_3_code
def yX1_takeFrom : MethodName := ⟨RX1, "takeFrom", "(LLeftoverRule$Law;)V"⟩
abbrev cX1_forget : ByteArray := prog_3_method_4_code
def yX1_forget : MethodName := ⟨RX1, "forget", "()Z"⟩
abbrev cX1_gives : ByteArray := prog_3_method_5_code
def yX1_gives : MethodName := ⟨RX1, "gives", "(III)I"⟩
abbrev cX1_withoutText : ByteArray := prog_3_method_6_code
def yX1_withoutText : MethodName := ⟨RX1, "withoutText", "(II)I"⟩
abbrev cX1_joined : ByteArray := prog_3_method_7_code
def yX1_joined : MethodName := ⟨RX1, "joined", "(III)I"⟩
def RX2 : String := "LeftoverRule$Reader"
def TX2 : u_T := fun k => match k with
  | 0 => ("LeftoverRule$Reader", "draft", "LLeftoverRule$Law;", true)
  | 1 => ("LeftoverRule$Reader", "bytes", "[I", true)
  | 2 => ("LeftoverRule$Reader", "length", "I", false)
  | 3 => ("LeftoverRule$Reader", "place", "I", false)
  | 4 => ("LeftoverRule$Reader", "use", "I", false)
  | _ => ("LeftoverRule$Reader", "faulty", "Z", false)
def tyX2 : Nat → FieldType := fun k => match k with
  | 0 => .object "LeftoverRule$Law"
  | 1 => .array .int
  | 2 => .int
  | 3 => .int
  | 4 => .int
  | _ => .boolean
abbrev wsX20 : List Cond := u_ws RX2 TX2 6
theorem nmX2 : ∀ a, a < 6 → ∀ b, b < 6 → a ≠ b → (TX2 a).2.1 ≠ (TX2 b).2.1 := by decide +kernel
theorem tyX2_ok : ∀ k, k < 6 → parseFieldDescriptor (TX2 k).2.2.1 = some (tyX2 k) := by decide +kernel
abbrev cX2_init : ByteArray := prog_4_method_1_code
def yX2_init : MethodName := ⟨RX2, "<init>", "()V"⟩
abbrev cX2_read : ByteArray := prog_4_method_2_code
def yX2_read : MethodName := ⟨RX2, "read", "([III)I"⟩
abbrev cX2_next : ByteArray := prog_4_method_3_code
def yX2_next : MethodName := ⟨RX2, "next", "()I"⟩
abbrev cX2_readLevel : ByteArray := prog_4_method_4_code
def yX2_readLevel : MethodName := ⟨RX2, "readLevel", "(II)V"⟩
abbrev cX2_levelOf : ByteArray := prog_4_method_5_code
def yX2_levelOf : MethodName := ⟨RX2, "levelOf", "(I)I"⟩
abbrev cX2_readQ : ByteArray := prog_4_method_6_code
def yX2_readQ : MethodName := ⟨RX2, "readQ", "(I)V"⟩
abbrev cX2_readClosing : ByteArray := prog_4_method_7_code
def yX2_readClosing : MethodName := ⟨RX2, "readClosing", "()V"⟩
abbrev cX2_readNumber : ByteArray := prog_4_method_8_code
def yX2_readNumber : MethodName := ⟨RX2, "readNumber", "()V"⟩
abbrev cX2_isDigit : ByteArray := prog_4_method_9_code
def yX2_isDigit : MethodName := ⟨RX2, "isDigit", "(I)Z"⟩
abbrev cX2_nameOf : ByteArray := prog_4_method_10_code
def yX2_nameOf : MethodName := ⟨RX2, "nameOf", "(I)I"⟩
def RX3 : String := "LeftoverRule$Sheet"
def TX3 : u_T := fun k => match k with
  | 0 => ("LeftoverRule$Sheet", "bits", "I", false)
  | 1 => ("LeftoverRule$Sheet", "length", "I", false)
  | _ => ("LeftoverRule$Sheet", "numbers", "[I", true)
def tyX3 : Nat → FieldType := fun k => match k with
  | 0 => .int
  | 1 => .int
  | _ => .array .int
abbrev wsX30 : List Cond := u_ws RX3 TX3 3
theorem nmX3 : ∀ a, a < 3 → ∀ b, b < 3 → a ≠ b → (TX3 a).2.1 ≠ (TX3 b).2.1 := by decide +kernel
theorem tyX3_ok : ∀ k, k < 3 → parseFieldDescriptor (TX3 k).2.2.1 = some (tyX3 k) := by decide +kernel
abbrev cX3_init : ByteArray := prog_5_method_1_code
def yX3_init : MethodName := ⟨RX3, "<init>", "()V"⟩
abbrev cX3_isMissing : ByteArray := prog_5_method_2_code
def yX3_isMissing : MethodName := ⟨RX3, "isMissing", "()Z"⟩
abbrev cX3_lay : ByteArray := prog_5_method_3_code
def yX3_lay : MethodName := ⟨RX3, "lay", "(II)V"⟩
abbrev cX3_write : ByteArray := prog_5_method_4_code
def yX3_write : MethodName := ⟨RX3, "write", "(II)V"⟩
abbrev cX3_holds : ByteArray := prog_5_method_5_code
def yX3_holds : MethodName := ⟨RX3, "holds", "(II)Z"⟩
def RX4 : String := "LeftoverRule$Table"
def TX4 : u_T := fun k => match k with
  | 0 => ("LeftoverRule$Table", "claim", "LLeftoverRule$Law;", true)
  | 1 => ("LeftoverRule$Table", "keeping", "LLeftoverRule$Law;", true)
  | 2 => ("LeftoverRule$Table", "dishes", "I", false)
  | 3 => ("LeftoverRule$Table", "day", "I", false)
  | 4 => ("LeftoverRule$Table", "hungry", "I", false)
  | 5 => ("LeftoverRule$Table", "kind", "[I", true)
  | 6 => ("LeftoverRule$Table", "mark", "[I", true)
  | 7 => ("LeftoverRule$Table", "size", "[I", true)
  | 8 => ("LeftoverRule$Table", "age", "[I", true)
  | 9 => ("LeftoverRule$Table", "flavour", "[I", true)
  | _ => ("LeftoverRule$Table", "claims", "[I", true)
def tyX4 : Nat → FieldType := fun k => match k with
  | 0 => .object "LeftoverRule$Law"
  | 1 => .object "LeftoverRule$Law"
  | 2 => .int
  | 3 => .int
  | 4 => .int
  | 5 => .array .int
  | 6 => .array .int
  | 7 => .array .int
  | 8 => .array .int
  | 9 => .array .int
  | _ => .array .int
abbrev wsX40 : List Cond := u_ws RX4 TX4 11
theorem nmX4 : ∀ a, a < 11 → ∀ b, b < 11 → a ≠ b → (TX4 a).2.1 ≠ (TX4 b).2.1 := by decide +kernel
theorem tyX4_ok : ∀ k, k < 11 → parseFieldDescriptor (TX4 k).2.2.1 = some (tyX4 k) := by decide +kernel
abbrev cX4_init : ByteArray := prog_6_method_1_code
def yX4_init : MethodName := ⟨RX4, "<init>", "(LLeftoverRule$Law;LLeftoverRule$Law;)V"⟩
abbrev cX4_takeFrom : ByteArray := prog_6_method_2_code
def yX4_takeFrom : MethodName := ⟨RX4, "takeFrom", "(LLeftoverRule$Table;)V"⟩
abbrev cX4_has : ByteArray := prog_6_method_3_code
def yX4_has : MethodName := ⟨RX4, "has", "(I)Z"⟩
abbrev cX4_bring : ByteArray := prog_6_method_4_code
def yX4_bring : MethodName := ⟨RX4, "bring", "(III)I"⟩
abbrev cX4_left : ByteArray := prog_6_method_5_code
def yX4_left : MethodName := ⟨RX4, "left", "()I"⟩
abbrev cX4_leftInKeeping : ByteArray := prog_6_method_6_code
def yX4_leftInKeeping : MethodName := ⟨RX4, "leftInKeeping", "()I"⟩
abbrev cX4_isKeptBy : ByteArray := prog_6_method_7_code
def yX4_isKeptBy : MethodName := ⟨RX4, "isKeptBy", "(II)Z"⟩
abbrev cX4_claimOf : ByteArray := prog_6_method_8_code
def yX4_claimOf : MethodName := ⟨RX4, "claimOf", "(I)I"⟩
abbrev cX4_claimOfKind : ByteArray := prog_6_method_9_code
def yX4_claimOfKind : MethodName := ⟨RX4, "claimOfKind", "(I)I"⟩
abbrev cX4_spoilOf : ByteArray := prog_6_method_10_code
def yX4_spoilOf : MethodName := ⟨RX4, "spoilOf", "(I)I"⟩
abbrev cX4_sayer : ByteArray := prog_6_method_11_code
def yX4_sayer : MethodName := ⟨RX4, "sayer", "()I"⟩
abbrev cX4_pass : ByteArray := prog_6_method_12_code
def yX4_pass : MethodName := ⟨RX4, "pass", "(II)V"⟩
abbrev cX4_dine : ByteArray := prog_6_method_13_code
def yX4_dine : MethodName := ⟨RX4, "dine", "(I)I"⟩
abbrev cX4_eat : ByteArray := prog_6_method_14_code
def yX4_eat : MethodName := ⟨RX4, "eat", "(II)I"⟩
abbrev cX4_leastClaim : ByteArray := prog_6_method_15_code
def yX4_leastClaim : MethodName := ⟨RX4, "leastClaim", "()I"⟩
def RX5 : String := "LeftoverRule$Voices"
def TX5 : u_T := fun k => match k with
  | 0 => ("LeftoverRule$Voices", "trace", "[I", true)
  | 1 => ("LeftoverRule$Voices", "traced", "I", false)
  | 2 => ("LeftoverRule$Voices", "parted", "Z", false)
  | 3 => ("LeftoverRule$Voices", "kind", "I", false)
  | 4 => ("LeftoverRule$Voices", "k", "I", false)
  | _ => ("LeftoverRule$Voices", "m", "I", false)
def tyX5 : Nat → FieldType := fun k => match k with
  | 0 => .array .int
  | 1 => .int
  | 2 => .boolean
  | 3 => .int
  | 4 => .int
  | _ => .int
abbrev wsX50 : List Cond := u_ws RX5 TX5 6
theorem nmX5 : ∀ a, a < 6 → ∀ b, b < 6 → a ≠ b → (TX5 a).2.1 ≠ (TX5 b).2.1 := by decide +kernel
theorem tyX5_ok : ∀ k, k < 6 → parseFieldDescriptor (TX5 k).2.2.1 = some (tyX5 k) := by decide +kernel
abbrev cX5_init : ByteArray := prog_7_method_1_code
def yX5_init : MethodName := ⟨RX5, "<init>", "()V"⟩
abbrev cX5_speak : ByteArray := prog_7_method_2_code
def yX5_speak : MethodName := ⟨RX5, "speak", "(LLeftoverRule$Table;III)I"⟩
abbrev cX5_say : ByteArray := prog_7_method_3_code
def yX5_say : MethodName := ⟨RX5, "say", "(IIII)I"⟩
abbrev cX5_ownerOf : ByteArray := prog_7_method_4_code
def yX5_ownerOf : MethodName := ⟨RX5, "ownerOf", "(II)I"⟩
abbrev cX5_began : ByteArray := prog_7_method_5_code
def yX5_began : MethodName := ⟨RX5, "began", "(I)V"⟩
abbrev cX5_part : ByteArray := prog_7_method_6_code
def yX5_part : MethodName := ⟨RX5, "part", "(I)I"⟩
abbrev cX5_partOfJoint : ByteArray := prog_7_method_7_code
def yX5_partOfJoint : MethodName := ⟨RX5, "partOfJoint", "(II)I"⟩
def RX6 : String := "LeftoverRule"
def TX6 : u_T := fun k => match k with
  | 0 => ("LeftoverRule", "house", "LLeftoverRule$House;", true)
  | 1 => ("LeftoverRule", "kept", "LLeftoverRule$House;", true)
  | 2 => ("LeftoverRule", "table", "LLeftoverRule$Table;", true)
  | 3 => ("LeftoverRule", "thought", "LLeftoverRule$Table;", true)
  | 4 => ("LeftoverRule", "reader", "LLeftoverRule$Reader;", true)
  | 5 => ("LeftoverRule", "voices", "LLeftoverRule$Voices;", true)
  | 6 => ("LeftoverRule", "sheets", "[LLeftoverRule$Sheet;", true)
  | 7 => ("LeftoverRule", "errors", "[I", true)
  | _ => ("LeftoverRule", "images", "I", false)
def tyX6 : Nat → FieldType := fun k => match k with
  | 0 => .object "LeftoverRule$House"
  | 1 => .object "LeftoverRule$House"
  | 2 => .object "LeftoverRule$Table"
  | 3 => .object "LeftoverRule$Table"
  | 4 => .object "LeftoverRule$Reader"
  | 5 => .object "LeftoverRule$Voices"
  | 6 => .array (.object "LeftoverRule$Sheet")
  | 7 => .array .int
  | _ => .int
abbrev wsX60 : List Cond := u_ws RX6 TX6 9
theorem nmX6 : ∀ a, a < 9 → ∀ b, b < 9 → a ≠ b → (TX6 a).2.1 ≠ (TX6 b).2.1 := by decide +kernel
theorem tyX6_ok : ∀ k, k < 9 → parseFieldDescriptor (TX6 k).2.2.1 = some (tyX6 k) := by decide +kernel
abbrev cX6_init : ByteArray := prog_1_method_1_code
def yX6_init : MethodName := ⟨RX6, "<init>", "()V"⟩
abbrev cX6_dish : ByteArray := prog_1_method_2_code
def yX6_dish : MethodName := ⟨RX6, "dish", "(III)I"⟩
abbrev cX6_dishIs : ByteArray := prog_1_method_3_code
def yX6_dishIs : MethodName := ⟨RX6, "dishIs", "(II)I"⟩
abbrev cX6_become : ByteArray := prog_1_method_4_code
def yX6_become : MethodName := ⟨RX6, "become", "(II)I"⟩
abbrev cX6_as : ByteArray := prog_1_method_5_code
def yX6_as : MethodName := ⟨RX6, "as", "(II)I"⟩
abbrev cX6_serve : ByteArray := prog_1_method_6_code
def yX6_serve : MethodName := ⟨RX6, "serve", "(II)I"⟩
abbrev cX6_season : ByteArray := prog_1_method_7_code
def yX6_season : MethodName := ⟨RX6, "season", "(II)I"⟩
abbrev cX6_rules : ByteArray := prog_1_method_8_code
def yX6_rules : MethodName := ⟨RX6, "rules", "()I"⟩
abbrev cX6_feed : ByteArray := prog_1_method_9_code
def yX6_feed : MethodName := ⟨RX6, "feed", "(JI)I"⟩
abbrev cX6_text : ByteArray := prog_1_method_10_code
def yX6_text : MethodName := ⟨RX6, "text", "(I)I"⟩
abbrev cX6_untell : ByteArray := prog_1_method_11_code
def yX6_untell : MethodName := ⟨RX6, "untell", "(I)I"⟩
abbrev cX6_law : ByteArray := prog_1_method_12_code
def yX6_law : MethodName := ⟨RX6, "law", "(IIII)I"⟩
abbrev cX6_meal : ByteArray := prog_1_method_13_code
def yX6_meal : MethodName := ⟨RX6, "meal", "(I)I"⟩
abbrev cX6_meals : ByteArray := prog_1_method_14_code
def yX6_meals : MethodName := ⟨RX6, "meals", "(II)I"⟩
abbrev cX6_loose : ByteArray := prog_1_method_15_code
def yX6_loose : MethodName := ⟨RX6, "loose", "(I)I"⟩
abbrev cX6_seed : ByteArray := prog_1_method_16_code
def yX6_seed : MethodName := ⟨RX6, "seed", "(I)I"⟩
abbrev cX6_then : ByteArray := prog_1_method_17_code
def yX6_then : MethodName := ⟨RX6, "then", "(III)I"⟩
abbrev cX6_gone : ByteArray := prog_1_method_18_code
def yX6_gone : MethodName := ⟨RX6, "gone", "(II)I"⟩
abbrev cX6_needs : ByteArray := prog_1_method_19_code
def yX6_needs : MethodName := ⟨RX6, "needs", "(I)I"⟩
abbrev cX6_clears : ByteArray := prog_1_method_20_code
def yX6_clears : MethodName := ⟨RX6, "clears", "(IIII)I"⟩
abbrev cX6_brings : ByteArray := prog_1_method_21_code
def yX6_brings : MethodName := ⟨RX6, "brings", "(II)I"⟩
abbrev cX6_odds : ByteArray := prog_1_method_22_code
def yX6_odds : MethodName := ⟨RX6, "odds", "(I)I"⟩
abbrev cX6_fits : ByteArray := prog_1_method_23_code
def yX6_fits : MethodName := ⟨RX6, "fits", "(II)I"⟩
abbrev cX6_voice : ByteArray := prog_1_method_24_code
def yX6_voice : MethodName := ⟨RX6, "voice", "(III)I"⟩
abbrev cX6_body : ByteArray := prog_1_method_25_code
def yX6_body : MethodName := ⟨RX6, "body", "(I)I"⟩
abbrev cX6_sheet : ByteArray := prog_1_method_26_code
def yX6_sheet : MethodName := ⟨RX6, "sheet", "(III)I"⟩
abbrev cX6_put : ByteArray := prog_1_method_27_code
def yX6_put : MethodName := ⟨RX6, "put", "(III)I"⟩
abbrev cX6_move : ByteArray := prog_1_method_28_code
def yX6_move : MethodName := ⟨RX6, "move", "(IIIII)I"⟩
abbrev cX6_serves : ByteArray := prog_1_method_29_code
def yX6_serves : MethodName := ⟨RX6, "serves", "(I)I"⟩
abbrev cX6_judge : ByteArray := prog_1_method_30_code
def yX6_judge : MethodName := ⟨RX6, "judge", "(I)I"⟩
abbrev cX6_image : ByteArray := prog_1_method_31_code
def yX6_image : MethodName := ⟨RX6, "image", "()I"⟩
abbrev cX6_restore : ByteArray := prog_1_method_32_code
def yX6_restore : MethodName := ⟨RX6, "restore", "()I"⟩
abbrev cX6_tell : ByteArray := prog_1_method_33_code
def yX6_tell : MethodName := ⟨RX6, "tell", "(I)I"⟩
abbrev cX6_check : ByteArray := prog_1_method_34_code
def yX6_check : MethodName := ⟨RX6, "check", "()I"⟩
abbrev cX6_count : ByteArray := prog_1_method_35_code
def yX6_count : MethodName := ⟨RX6, "count", "(I)I"⟩
abbrev cX6_told : ByteArray := prog_1_method_36_code
def yX6_told : MethodName := ⟨RX6, "told", "(I)I"⟩
abbrev cX6_wrong : ByteArray := prog_1_method_37_code
def yX6_wrong : MethodName := ⟨RX6, "wrong", "(I)I"⟩
abbrev cX6_within : ByteArray := prog_1_method_38_code
def yX6_within : MethodName := ⟨RX6, "within", "(III)Z"⟩
abbrev cX6_isKm : ByteArray := prog_1_method_39_code
def yX6_isKm : MethodName := ⟨RX6, "isKm", "(I)Z"⟩
abbrev cX6_isHunger : ByteArray := prog_1_method_40_code
def yX6_isHunger : MethodName := ⟨RX6, "isHunger", "(I)Z"⟩
abbrev cX6_isUse : ByteArray := prog_1_method_41_code
def yX6_isUse : MethodName := ⟨RX6, "isUse", "(I)Z"⟩
abbrev cX6_isSheet : ByteArray := prog_1_method_42_code
def yX6_isSheet : MethodName := ⟨RX6, "isSheet", "(I)Z"⟩
abbrev cX6_lawOf : ByteArray := prog_1_method_43_code
def yX6_lawOf : MethodName := ⟨RX6, "lawOf", "(I)LLeftoverRule$Law;"⟩
abbrev cX6_rulesWithout : ByteArray := prog_1_method_44_code
def yX6_rulesWithout : MethodName := ⟨RX6, "rulesWithout", "(IIII)Z"⟩
abbrev cX6_tellsSizes : ByteArray := prog_1_method_45_code
def yX6_tellsSizes : MethodName := ⟨RX6, "tellsSizes", "(LLeftoverRule$Sheet;)Z"⟩
abbrev cX6_commonDivisor : ByteArray := prog_1_method_46_code
def yX6_commonDivisor : MethodName := ⟨RX6, "commonDivisor", "(II)I"⟩
def RX7 : String := "LeftoverRuleModel"
def TX7 : u_T := fun k => match k with
  | 0 => ("LeftoverRuleModel", "s", "[I", true)
  | 1 => ("LeftoverRuleModel", "kept", "[I", true)
  | 2 => ("LeftoverRuleModel", "laid", "[I", true)
  | 3 => ("LeftoverRuleModel", "images", "I", false)
  | 4 => ("LeftoverRuleModel", "errors", "[I", true)
  | 5 => ("LeftoverRuleModel", "at", "I", false)
  | 6 => ("LeftoverRuleModel", "open", "I", false)
  | 7 => ("LeftoverRuleModel", "steps", "I", false)
  | 8 => ("LeftoverRuleModel", "use", "I", false)
  | 9 => ("LeftoverRuleModel", "step", "[I", true)
  | 10 => ("LeftoverRuleModel", "named", "[I", true)
  | 11 => ("LeftoverRuleModel", "pile", "[I", true)
  | 12 => ("LeftoverRuleModel", "claims", "[I", true)
  | 13 => ("LeftoverRuleModel", "mayBe", "[Z", true)
  | 14 => ("LeftoverRuleModel", "traced", "I", false)
  | 15 => ("LeftoverRuleModel", "trace", "[I", true)
  | 16 => ("LeftoverRuleModel", "speaks", "I", false)
  | 17 => ("LeftoverRuleModel", "isParted", "Z", false)
  | 18 => ("LeftoverRuleModel", "bits", "[I", true)
  | 19 => ("LeftoverRuleModel", "sizes", "[I", true)
  | 20 => ("LeftoverRuleModel", "number", "[I", true)
  | _ => ("LeftoverRuleModel", "aside", "[I", true)
def tyX7 : Nat → FieldType := fun k => match k with
  | 0 => .array .int
  | 1 => .array .int
  | 2 => .array .int
  | 3 => .int
  | 4 => .array .int
  | 5 => .int
  | 6 => .int
  | 7 => .int
  | 8 => .int
  | 9 => .array .int
  | 10 => .array .int
  | 11 => .array .int
  | 12 => .array .int
  | 13 => .array .boolean
  | 14 => .int
  | 15 => .array .int
  | 16 => .int
  | 17 => .boolean
  | 18 => .array .int
  | 19 => .array .int
  | 20 => .array .int
  | _ => .array .int
abbrev wsX70 : List Cond := u_ws RX7 TX7 22
theorem nmX7 : ∀ a, a < 22 → ∀ b, b < 22 → a ≠ b → (TX7 a).2.1 ≠ (TX7 b).2.1 := by decide +kernel
theorem tyX7_ok : ∀ k, k < 22 → parseFieldDescriptor (TX7 k).2.2.1 = some (tyX7 k) := by decide +kernel
abbrev cX7_init : ByteArray := prog_9_method_1_code
def yX7_init : MethodName := ⟨RX7, "<init>", "()V"⟩
abbrev cX7_error : ByteArray := prog_9_method_2_code
def yX7_error : MethodName := ⟨RX7, "error", "(I)I"⟩
abbrev cX7_in : ByteArray := prog_9_method_3_code
def yX7_in : MethodName := ⟨RX7, "in", "(III)Z"⟩
abbrev cX7_held : ByteArray := prog_9_method_4_code
def yX7_held : MethodName := ⟨RX7, "held", "(III)I"⟩
abbrev cX7_copyAll : ByteArray := prog_9_method_5_code
def yX7_copyAll : MethodName := ⟨RX7, "copyAll", "([I[I)V"⟩
abbrev cX7_layDown : ByteArray := prog_9_method_6_code
def yX7_layDown : MethodName := ⟨RX7, "layDown", "()V"⟩
abbrev cX7_layBack : ByteArray := prog_9_method_7_code
def yX7_layBack : MethodName := ⟨RX7, "layBack", "()V"⟩
abbrev cX7_isDish : ByteArray := prog_9_method_8_code
def yX7_isDish : MethodName := ⟨RX7, "isDish", "(I)Z"⟩
abbrev cX7_its : ByteArray := prog_9_method_9_code
def yX7_its : MethodName := ⟨RX7, "its", "(II)I"⟩
abbrev cX7_lays1 : ByteArray := prog_9_method_10_code
def yX7_lays1 : MethodName := ⟨RX7, "lays1", "(III)V"⟩
abbrev cX7_change1 : ByteArray := prog_9_method_11_code
def yX7_change1 : MethodName := ⟨RX7, "change1", "(II)I"⟩
abbrev cX7_feed : ByteArray := prog_9_method_12_code
def yX7_feed : MethodName := ⟨RX7, "feed", "(JI)I"⟩
abbrev cX7_look : ByteArray := prog_9_method_13_code
def yX7_look : MethodName := ⟨RX7, "look", "()I"⟩
abbrev cX7_isName : ByteArray := prog_9_method_14_code
def yX7_isName : MethodName := ⟨RX7, "isName", "(I)Z"⟩
abbrev cX7_step1 : ByteArray := prog_9_method_15_code
def yX7_step1 : MethodName := ⟨RX7, "step1", "(II)V"⟩
abbrev cX7_whole : ByteArray := prog_9_method_16_code
def yX7_whole : MethodName := ⟨RX7, "whole", "()Z"⟩
abbrev cX7_both : ByteArray := prog_9_method_17_code
def yX7_both : MethodName := ⟨RX7, "both", "()Z"⟩
abbrev cX7_compared : ByteArray := prog_9_method_18_code
def yX7_compared : MethodName := ⟨RX7, "compared", "()Z"⟩
abbrev cX7_sum : ByteArray := prog_9_method_19_code
def yX7_sum : MethodName := ⟨RX7, "sum", "()Z"⟩
abbrev cX7_product : ByteArray := prog_9_method_20_code
def yX7_product : MethodName := ⟨RX7, "product", "()Z"⟩
abbrev cX7_opens : ByteArray := prog_9_method_21_code
def yX7_opens : MethodName := ⟨RX7, "opens", "()Z"⟩
abbrev cX7_one : ByteArray := prog_9_method_22_code
def yX7_one : MethodName := ⟨RX7, "one", "()Z"⟩
abbrev cX7_hasText : ByteArray := prog_9_method_23_code
def yX7_hasText : MethodName := ⟨RX7, "hasText", "(I)Z"⟩
abbrev cX7_text : ByteArray := prog_9_method_24_code
def yX7_text : MethodName := ⟨RX7, "text", "(I)I"⟩
abbrev cX7_untell : ByteArray := prog_9_method_25_code
def yX7_untell : MethodName := ⟨RX7, "untell", "(I)I"⟩
abbrev cX7_joined : ByteArray := prog_9_method_26_code
def yX7_joined : MethodName := ⟨RX7, "joined", "(III)I"⟩
abbrev cX7_worked : ByteArray := prog_9_method_27_code
def yX7_worked : MethodName := ⟨RX7, "worked", "(I)I"⟩
abbrev cX7_claimsOf : ByteArray := prog_9_method_28_code
def yX7_claimsOf : MethodName := ⟨RX7, "claimsOf", "(I)I"⟩
abbrev cX7_spoilsOf : ByteArray := prog_9_method_29_code
def yX7_spoilsOf : MethodName := ⟨RX7, "spoilsOf", "(I)I"⟩
abbrev cX7_claimTold : ByteArray := prog_9_method_30_code
def yX7_claimTold : MethodName := ⟨RX7, "claimTold", "(III)I"⟩
abbrev cX7_keepingTold : ByteArray := prog_9_method_31_code
def yX7_keepingTold : MethodName := ⟨RX7, "keepingTold", "(III)I"⟩
abbrev cX7_claimOf : ByteArray := prog_9_method_32_code
def yX7_claimOf : MethodName := ⟨RX7, "claimOf", "(I)I"⟩
abbrev cX7_findRuler : ByteArray := prog_9_method_33_code
def yX7_findRuler : MethodName := ⟨RX7, "findRuler", "()I"⟩
abbrev cX7_isInKeeping : ByteArray := prog_9_method_34_code
def yX7_isInKeeping : MethodName := ⟨RX7, "isInKeeping", "(II)Z"⟩
abbrev cX7_allLeft : ByteArray := prog_9_method_35_code
def yX7_allLeft : MethodName := ⟨RX7, "allLeft", "()I"⟩
abbrev cX7_leastClaim : ByteArray := prog_9_method_36_code
def yX7_leastClaim : MethodName := ⟨RX7, "leastClaim", "()I"⟩
abbrev cX7_eaten : ByteArray := prog_9_method_37_code
def yX7_eaten : MethodName := ⟨RX7, "eaten", "(I)I"⟩
abbrev cX7_aMeal : ByteArray := prog_9_method_38_code
def yX7_aMeal : MethodName := ⟨RX7, "aMeal", "(I)I"⟩
abbrev cX7_goes : ByteArray := prog_9_method_39_code
def yX7_goes : MethodName := ⟨RX7, "goes", "(II)V"⟩
abbrev cX7_draw : ByteArray := prog_9_method_40_code
def yX7_draw : MethodName := ⟨RX7, "draw", "()I"⟩
abbrev cX7_isKind : ByteArray := prog_9_method_41_code
def yX7_isKind : MethodName := ⟨RX7, "isKind", "(I)Z"⟩
abbrev cX7_laysDish : ByteArray := prog_9_method_42_code
def yX7_laysDish : MethodName := ⟨RX7, "laysDish", "(III)V"⟩
abbrev cX7_dish : ByteArray := prog_9_method_43_code
def yX7_dish : MethodName := ⟨RX7, "dish", "(III)I"⟩
abbrev cX7_dishIs : ByteArray := prog_9_method_44_code
def yX7_dishIs : MethodName := ⟨RX7, "dishIs", "(II)I"⟩
abbrev cX7_become : ByteArray := prog_9_method_45_code
def yX7_become : MethodName := ⟨RX7, "become", "(II)I"⟩
abbrev cX7_as : ByteArray := prog_9_method_46_code
def yX7_as : MethodName := ⟨RX7, "as", "(II)I"⟩
abbrev cX7_serve : ByteArray := prog_9_method_47_code
def yX7_serve : MethodName := ⟨RX7, "serve", "(II)I"⟩
abbrev cX7_season : ByteArray := prog_9_method_48_code
def yX7_season : MethodName := ⟨RX7, "season", "(II)I"⟩
abbrev cX7_rules : ByteArray := prog_9_method_49_code
def yX7_rules : MethodName := ⟨RX7, "rules", "()I"⟩
abbrev cX7_law : ByteArray := prog_9_method_50_code
def yX7_law : MethodName := ⟨RX7, "law", "(IIII)I"⟩
abbrev cX7_isHunger : ByteArray := prog_9_method_51_code
def yX7_isHunger : MethodName := ⟨RX7, "isHunger", "(I)Z"⟩
abbrev cX7_meal : ByteArray := prog_9_method_52_code
def yX7_meal : MethodName := ⟨RX7, "meal", "(I)I"⟩
abbrev cX7_meals : ByteArray := prog_9_method_53_code
def yX7_meals : MethodName := ⟨RX7, "meals", "(II)I"⟩
abbrev cX7_guests : ByteArray := prog_9_method_54_code
def yX7_guests : MethodName := ⟨RX7, "guests", "()V"⟩
abbrev cX7_loose : ByteArray := prog_9_method_55_code
def yX7_loose : MethodName := ⟨RX7, "loose", "(I)I"⟩
abbrev cX7_seed : ByteArray := prog_9_method_56_code
def yX7_seed : MethodName := ⟨RX7, "seed", "(I)I"⟩
abbrev cX7_then : ByteArray := prog_9_method_57_code
def yX7_then : MethodName := ⟨RX7, "then", "(III)I"⟩
abbrev cX7_gone : ByteArray := prog_9_method_58_code
def yX7_gone : MethodName := ⟨RX7, "gone", "(II)I"⟩
abbrev cX7_needs : ByteArray := prog_9_method_59_code
def yX7_needs : MethodName := ⟨RX7, "needs", "(I)I"⟩
abbrev cX7_manyIn : ByteArray := prog_9_method_60_code
def yX7_manyIn : MethodName := ⟨RX7, "manyIn", "(I)I"⟩
abbrev cX7_doesRule : ByteArray := prog_9_method_61_code
def yX7_doesRule : MethodName := ⟨RX7, "doesRule", "(IIII)Z"⟩
abbrev cX7_clears : ByteArray := prog_9_method_62_code
def yX7_clears : MethodName := ⟨RX7, "clears", "(IIII)I"⟩
abbrev cX7_keepingSizes : ByteArray := prog_9_method_63_code
def yX7_keepingSizes : MethodName := ⟨RX7, "keepingSizes", "()I"⟩
abbrev cX7_brings : ByteArray := prog_9_method_64_code
def yX7_brings : MethodName := ⟨RX7, "brings", "(II)I"⟩
abbrev cX7_divisor : ByteArray := prog_9_method_65_code
def yX7_divisor : MethodName := ⟨RX7, "divisor", "(II)I"⟩
abbrev cX7_odds : ByteArray := prog_9_method_66_code
def yX7_odds : MethodName := ⟨RX7, "odds", "(I)I"⟩
abbrev cX7_isLeftSo : ByteArray := prog_9_method_67_code
def yX7_isLeftSo : MethodName := ⟨RX7, "isLeftSo", "(II)Z"⟩
abbrev cX7_fits : ByteArray := prog_9_method_68_code
def yX7_fits : MethodName := ⟨RX7, "fits", "(II)I"⟩
abbrev cX7_starts : ByteArray := prog_9_method_69_code
def yX7_starts : MethodName := ⟨RX7, "starts", "(I)V"⟩
abbrev cX7_above : ByteArray := prog_9_method_70_code
def yX7_above : MethodName := ⟨RX7, "above", "(I)I"⟩
abbrev cX7_kindNow : ByteArray := prog_9_method_71_code
def yX7_kindNow : MethodName := ⟨RX7, "kindNow", "()I"⟩
abbrev cX7_mNow : ByteArray := prog_9_method_72_code
def yX7_mNow : MethodName := ⟨RX7, "mNow", "()I"⟩
abbrev cX7_sighsAs : ByteArray := prog_9_method_73_code
def yX7_sighsAs : MethodName := ⟨RX7, "sighsAs", "(II)I"⟩
abbrev cX7_asksAs : ByteArray := prog_9_method_74_code
def yX7_asksAs : MethodName := ⟨RX7, "asksAs", "(II)I"⟩
abbrev cX7_scrapesAs : ByteArray := prog_9_method_75_code
def yX7_scrapesAs : MethodName := ⟨RX7, "scrapesAs", "(II)I"⟩
abbrev cX7_partsAs : ByteArray := prog_9_method_76_code
def yX7_partsAs : MethodName := ⟨RX7, "partsAs", "(II)I"⟩
abbrev cX7_voice : ByteArray := prog_9_method_77_code
def yX7_voice : MethodName := ⟨RX7, "voice", "(III)I"⟩
abbrev cX7_body : ByteArray := prog_9_method_78_code
def yX7_body : MethodName := ⟨RX7, "body", "(I)I"⟩
abbrev cX7_isSheet : ByteArray := prog_9_method_79_code
def yX7_isSheet : MethodName := ⟨RX7, "isSheet", "(I)Z"⟩
abbrev cX7_sheet : ByteArray := prog_9_method_80_code
def yX7_sheet : MethodName := ⟨RX7, "sheet", "(III)I"⟩
abbrev cX7_put : ByteArray := prog_9_method_81_code
def yX7_put : MethodName := ⟨RX7, "put", "(III)I"⟩
abbrev cX7_move : ByteArray := prog_9_method_82_code
def yX7_move : MethodName := ⟨RX7, "move", "(IIIII)I"⟩
abbrev cX7_lacks : ByteArray := prog_9_method_83_code
def yX7_lacks : MethodName := ⟨RX7, "lacks", "(I)I"⟩
abbrev cX7_serves : ByteArray := prog_9_method_84_code
def yX7_serves : MethodName := ⟨RX7, "serves", "(I)I"⟩
abbrev cX7_judge : ByteArray := prog_9_method_85_code
def yX7_judge : MethodName := ⟨RX7, "judge", "(I)I"⟩
abbrev cX7_image : ByteArray := prog_9_method_86_code
def yX7_image : MethodName := ⟨RX7, "image", "()I"⟩
abbrev cX7_restore : ByteArray := prog_9_method_87_code
def yX7_restore : MethodName := ⟨RX7, "restore", "()I"⟩
abbrev cX7_tell : ByteArray := prog_9_method_88_code
def yX7_tell : MethodName := ⟨RX7, "tell", "(I)I"⟩
abbrev cX7_check : ByteArray := prog_9_method_89_code
def yX7_check : MethodName := ⟨RX7, "check", "()I"⟩
abbrev cX7_count : ByteArray := prog_9_method_90_code
def yX7_count : MethodName := ⟨RX7, "count", "(I)I"⟩
abbrev cX7_told : ByteArray := prog_9_method_91_code
def yX7_told : MethodName := ⟨RX7, "told", "(I)I"⟩
def RJ6 : String := "java/lang/Integer"
def TJ6 : u_T := fun k => match k with
  | _ => ("", "", "", false)
def tyJ6 : Nat → FieldType := fun k => match k with
  | _ => .int
abbrev wsJ60 : List Cond := u_ws RJ6 TJ6 0
theorem nmJ6 : ∀ a, a < 0 → ∀ b, b < 0 → a ≠ b → (TJ6 a).2.1 ≠ (TJ6 b).2.1 := by decide +kernel
theorem tyJ6_ok : ∀ k, k < 0 → parseFieldDescriptor (TJ6 k).2.2.1 = some (tyJ6 k) := by decide +kernel
abbrev cJ6_bitCount_0f7a4 : ByteArray := prog_10_method_49_code
def yJ6_bitCount_0f7a4 : MethodName := ⟨RJ6, "bitCount", "(I)I"⟩
def RJ9 : String := "java/lang/Math"
def TJ9 : u_T := fun k => match k with
  | _ => ("", "", "", false)
def tyJ9 : Nat → FieldType := fun k => match k with
  | _ => .int
abbrev wsJ90 : List Cond := u_ws RJ9 TJ9 0
theorem nmJ9 : ∀ a, a < 0 → ∀ b, b < 0 → a ≠ b → (TJ9 a).2.1 ≠ (TJ9 b).2.1 := by decide +kernel
theorem tyJ9_ok : ∀ k, k < 0 → parseFieldDescriptor (TJ9 k).2.2.1 = some (tyJ9 k) := by decide +kernel
abbrev cJ9_abs_067f4 : ByteArray := prog_11_method_61_code
def yJ9_abs_067f4 : MethodName := ⟨RJ9, "abs", "(J)J"⟩
abbrev cJ9_max_7cf53 : ByteArray := prog_11_method_65_code
def yJ9_max_7cf53 : MethodName := ⟨RJ9, "max", "(II)I"⟩
abbrev cJ9_min_7cf53 : ByteArray := prog_11_method_69_code
def yJ9_min_7cf53 : MethodName := ⟨RJ9, "min", "(II)I"⟩
def RJ10 : String := "java/lang/System"
def TJ10 : u_T := fun k => match k with
  | _ => ("", "", "", false)
def tyJ10 : Nat → FieldType := fun k => match k with
  | _ => .int
abbrev wsJ100 : List Cond := u_ws RJ10 TJ10 0
theorem nmJ10 : ∀ a, a < 0 → ∀ b, b < 0 → a ≠ b → (TJ10 a).2.1 ≠ (TJ10 b).2.1 := by decide +kernel
theorem tyJ10_ok : ∀ k, k < 0 → parseFieldDescriptor (TJ10 k).2.2.1 = some (tyJ10 k) := by decide +kernel
def RL : String := "LeftoverRuleLaw"
abbrev cL_law : ByteArray := code
def yL_law : MethodName := ⟨RL, "law", "([I)Z"⟩
abbrev vwCl : List vw_C := [(RX0, TX0, 8), (RX1, TX1, 5), (RX2, TX2, 6), (RX3, TX3, 3), (RX4, TX4, 11), (RX5, TX5, 6), (RX6, TX6, 9), (RX7, TX7, 22)]
/-- the words that a contract may rest on -/
def AW : List Cond := lw_tbl.filter goodWord
theorem aw_in {w : Cond} (i : Nat) (h : lw_tbl[i]? = some w) (hg : goodWord w = true) : w ∈ AW := List.mem_filter.mpr ⟨List.mem_of_getElem? h, hg⟩
theorem aw_tbl {w : Cond} (h : w ∈ AW) : w ∈ lw_tbl := (List.mem_filter.mp h).1
theorem aw_good {w : Cond} (h : w ∈ AW) : goodWord w = true := (List.mem_filter.mp h).2
end
section
theorem q0 : Cond.selects RX6 yX6_wrong yX6_wrong ∈ AW := aw_in 0 (by decide +kernel) rfl
theorem q1 : Cond.selects RX4 yX4_claimOfKind yX4_claimOfKind ∈ AW := aw_in 1 (by decide +kernel) rfl
theorem q2 : Cond.selects RX1 yX1_withoutText yX1_withoutText ∈ AW := aw_in 2 (by decide +kernel) rfl
theorem q3 : Cond.selects RX2 yX2_readLevel yX2_readLevel ∈ AW := aw_in 3 (by decide +kernel) rfl
theorem q4 : Cond.selects RX2 yX2_readQ yX2_readQ ∈ AW := aw_in 4 (by decide +kernel) rfl
theorem q5 : Cond.selects RX2 yX2_next yX2_next ∈ AW := aw_in 5 (by decide +kernel) rfl
theorem q6 : Cond.selects RX2 yX2_nameOf yX2_nameOf ∈ AW := aw_in 6 (by decide +kernel) rfl
theorem q7 : Cond.selects RX2 yX2_readNumber yX2_readNumber ∈ AW := aw_in 7 (by decide +kernel) rfl
theorem q8 : Cond.selects RX2 yX2_readClosing yX2_readClosing ∈ AW := aw_in 8 (by decide +kernel) rfl
theorem q9 : Cond.selects RX6 yX6_lawOf yX6_lawOf ∈ AW := aw_in 9 (by decide +kernel) rfl
theorem q10 : Cond.selects RX4 yX4_eat yX4_eat ∈ AW := aw_in 10 (by decide +kernel) rfl
theorem q11 : Cond.selects RX4 yX4_leastClaim yX4_leastClaim ∈ AW := aw_in 11 (by decide +kernel) rfl
theorem q12 : Cond.selects RX0 yX0_draw yX0_draw ∈ AW := aw_in 12 (by decide +kernel) rfl
theorem q13 : Cond.selects RX6 yX6_rulesWithout yX6_rulesWithout ∈ AW := aw_in 13 (by decide +kernel) rfl
theorem q14 : Cond.selects RX6 yX6_tellsSizes yX6_tellsSizes ∈ AW := aw_in 14 (by decide +kernel) rfl
theorem q15 : Cond.selects RX5 yX5_say yX5_say ∈ AW := aw_in 15 (by decide +kernel) rfl
theorem q16 : Cond.selects RX5 yX5_began yX5_began ∈ AW := aw_in 16 (by decide +kernel) rfl
theorem q17 : Cond.selects RX5 yX5_part yX5_part ∈ AW := aw_in 17 (by decide +kernel) rfl
theorem q18 : Cond.selects RX5 yX5_partOfJoint yX5_partOfJoint ∈ AW := aw_in 18 (by decide +kernel) rfl
theorem q19 : Cond.selects RX7 yX7_error yX7_error ∈ AW := aw_in 19 (by decide +kernel) rfl
theorem q20 : Cond.selects RX7 yX7_whole yX7_whole ∈ AW := aw_in 20 (by decide +kernel) rfl
theorem q21 : Cond.selects RX7 yX7_both yX7_both ∈ AW := aw_in 21 (by decide +kernel) rfl
theorem q22 : Cond.selects RX7 yX7_compared yX7_compared ∈ AW := aw_in 22 (by decide +kernel) rfl
theorem q23 : Cond.selects RX7 yX7_sum yX7_sum ∈ AW := aw_in 23 (by decide +kernel) rfl
theorem q24 : Cond.selects RX7 yX7_product yX7_product ∈ AW := aw_in 24 (by decide +kernel) rfl
theorem q25 : Cond.selects RX7 yX7_one yX7_one ∈ AW := aw_in 25 (by decide +kernel) rfl
theorem q26 : Cond.selects RX7 yX7_look yX7_look ∈ AW := aw_in 26 (by decide +kernel) rfl
theorem q27 : Cond.selects RX7 yX7_isName yX7_isName ∈ AW := aw_in 27 (by decide +kernel) rfl
theorem q28 : Cond.selects RX7 yX7_step1 yX7_step1 ∈ AW := aw_in 28 (by decide +kernel) rfl
theorem q29 : Cond.selects RX7 yX7_opens yX7_opens ∈ AW := aw_in 29 (by decide +kernel) rfl
theorem q30 : Cond.selects RX7 yX7_hasText yX7_hasText ∈ AW := aw_in 30 (by decide +kernel) rfl
theorem q31 : Cond.selects RX7 yX7_laysDish yX7_laysDish ∈ AW := aw_in 31 (by decide +kernel) rfl
theorem q32 : Cond.selects RX7 yX7_lays1 yX7_lays1 ∈ AW := aw_in 32 (by decide +kernel) rfl
theorem q33 : Cond.selects RX7 yX7_isDish yX7_isDish ∈ AW := aw_in 33 (by decide +kernel) rfl
theorem q34 : Cond.selects RX7 yX7_claimOf yX7_claimOf ∈ AW := aw_in 34 (by decide +kernel) rfl
theorem q35 : Cond.selects RX7 yX7_claimsOf yX7_claimsOf ∈ AW := aw_in 35 (by decide +kernel) rfl
theorem q36 : Cond.selects RX7 yX7_its yX7_its ∈ AW := aw_in 36 (by decide +kernel) rfl
theorem q37 : Cond.selects RX7 yX7_claimTold yX7_claimTold ∈ AW := aw_in 37 (by decide +kernel) rfl
theorem q38 : Cond.selects RX7 yX7_worked yX7_worked ∈ AW := aw_in 38 (by decide +kernel) rfl
theorem q39 : Cond.selects RX7 yX7_spoilsOf yX7_spoilsOf ∈ AW := aw_in 39 (by decide +kernel) rfl
theorem q40 : Cond.selects RX7 yX7_findRuler yX7_findRuler ∈ AW := aw_in 40 (by decide +kernel) rfl
theorem q41 : Cond.selects RX7 yX7_isInKeeping yX7_isInKeeping ∈ AW := aw_in 41 (by decide +kernel) rfl
theorem q42 : Cond.selects RX7 yX7_keepingTold yX7_keepingTold ∈ AW := aw_in 42 (by decide +kernel) rfl
theorem q43 : Cond.selects RX7 yX7_change1 yX7_change1 ∈ AW := aw_in 43 (by decide +kernel) rfl
theorem q44 : Cond.selects RX7 yX7_aMeal yX7_aMeal ∈ AW := aw_in 44 (by decide +kernel) rfl
theorem q45 : Cond.selects RX7 yX7_eaten yX7_eaten ∈ AW := aw_in 45 (by decide +kernel) rfl
theorem q46 : Cond.selects RX7 yX7_leastClaim yX7_leastClaim ∈ AW := aw_in 46 (by decide +kernel) rfl
theorem q47 : Cond.selects RX7 yX7_goes yX7_goes ∈ AW := aw_in 47 (by decide +kernel) rfl
theorem q48 : Cond.selects RX7 yX7_allLeft yX7_allLeft ∈ AW := aw_in 48 (by decide +kernel) rfl
theorem q49 : Cond.selects RX7 yX7_guests yX7_guests ∈ AW := aw_in 49 (by decide +kernel) rfl
theorem q50 : Cond.selects RX7 yX7_draw yX7_draw ∈ AW := aw_in 50 (by decide +kernel) rfl
theorem q51 : Cond.selects RX7 yX7_layDown yX7_layDown ∈ AW := aw_in 51 (by decide +kernel) rfl
theorem q52 : Cond.selects RX7 yX7_layBack yX7_layBack ∈ AW := aw_in 52 (by decide +kernel) rfl
theorem q53 : Cond.selects RX7 yX7_doesRule yX7_doesRule ∈ AW := aw_in 53 (by decide +kernel) rfl
theorem q54 : Cond.selects RX7 yX7_keepingSizes yX7_keepingSizes ∈ AW := aw_in 54 (by decide +kernel) rfl
theorem q55 : Cond.selects RX7 yX7_lacks yX7_lacks ∈ AW := aw_in 55 (by decide +kernel) rfl
theorem q56 : Cond.selects RX7 yX7_isLeftSo yX7_isLeftSo ∈ AW := aw_in 56 (by decide +kernel) rfl
theorem q57 : Cond.selects RX7 yX7_kindNow yX7_kindNow ∈ AW := aw_in 57 (by decide +kernel) rfl
theorem q58 : Cond.selects RX7 yX7_sighsAs yX7_sighsAs ∈ AW := aw_in 58 (by decide +kernel) rfl
theorem q59 : Cond.selects RX7 yX7_starts yX7_starts ∈ AW := aw_in 59 (by decide +kernel) rfl
theorem q60 : Cond.selects RX7 yX7_asksAs yX7_asksAs ∈ AW := aw_in 60 (by decide +kernel) rfl
theorem q61 : Cond.selects RX7 yX7_mNow yX7_mNow ∈ AW := aw_in 61 (by decide +kernel) rfl
theorem q62 : Cond.selects RX7 yX7_scrapesAs yX7_scrapesAs ∈ AW := aw_in 62 (by decide +kernel) rfl
theorem q63 : Cond.selects RX7 yX7_partsAs yX7_partsAs ∈ AW := aw_in 63 (by decide +kernel) rfl
theorem q64 : Cond.initialized RL ∈ AW := aw_in 64 (by decide +kernel) rfl
theorem q65 : Cond.initialized RX6 ∈ AW := aw_in 65 (by decide +kernel) rfl
theorem q66 : Cond.initialized RX0 ∈ AW := aw_in 66 (by decide +kernel) rfl
theorem q67 : Cond.initialized RX1 ∈ AW := aw_in 67 (by decide +kernel) rfl
theorem q68 : Cond.initialized RX4 ∈ AW := aw_in 68 (by decide +kernel) rfl
theorem q69 : Cond.initialized RX2 ∈ AW := aw_in 69 (by decide +kernel) rfl
theorem q70 : Cond.initialized RX5 ∈ AW := aw_in 70 (by decide +kernel) rfl
theorem q71 : Cond.initialized RX3 ∈ AW := aw_in 71 (by decide +kernel) rfl
theorem q72 : Cond.initialized RX7 ∈ AW := aw_in 72 (by decide +kernel) rfl
theorem q73 : Cond.initialized "java/lang/Math" ∈ AW := aw_in 73 (by decide +kernel) rfl
theorem q74 : Cond.initialized "java/lang/System" ∈ AW := aw_in 74 (by decide +kernel) rfl
theorem q75 : Cond.initialized "java/lang/Integer" ∈ AW := aw_in 75 (by decide +kernel) rfl
theorem q76 : Cond.classLink RL 7 RX6 ∈ AW := aw_in 76 (by decide +kernel) rfl
theorem q77 : Cond.instantiable RX6 9 ∈ AW := aw_in 77 (by decide +kernel) rfl
theorem q78 : Cond.methodLink RL 9 yX6_init ∈ AW := aw_in 78 (by decide +kernel) rfl
theorem q79 : Cond.instanceMethod yX6_init ∈ AW := aw_in 79 (by decide +kernel) rfl
theorem q80 : Cond.code yX6_init cX6_init 2 none ∈ AW := aw_in 80 (by decide +kernel) rfl
theorem q81 : Cond.methodLink RX6 1 objectInit ∈ AW := aw_in 81 (by decide +kernel) rfl
theorem q82 : Cond.instanceMethod objectInit ∈ AW := aw_in 82 (by decide +kernel) rfl
theorem q83 : Cond.code objectInit (⟨#[0xb1]⟩ : ByteArray) 1 none ∈ AW := aw_in 83 (by decide +kernel) rfl
theorem q84 : Cond.classLink RX6 7 RX0 ∈ AW := aw_in 84 (by decide +kernel) rfl
theorem q85 : Cond.instantiable RX0 8 ∈ AW := aw_in 85 (by decide +kernel) rfl
theorem q87 : Cond.instanceMethod yX0_init ∈ AW := aw_in 87 (by decide +kernel) rfl
theorem q88 : Cond.code yX0_init cX0_init 1 none ∈ AW := aw_in 88 (by decide +kernel) rfl
theorem q89 : Cond.methodLink RX0 3 objectInit ∈ AW := aw_in 89 (by decide +kernel) rfl
theorem q90 : Cond.classLink RX0 9 RX1 ∈ AW := aw_in 90 (by decide +kernel) rfl
theorem q91 : Cond.instantiable RX1 5 ∈ AW := aw_in 91 (by decide +kernel) rfl
theorem q92 : Cond.methodLink RX0 11 yX1_init ∈ AW := aw_in 92 (by decide +kernel) rfl
theorem q93 : Cond.instanceMethod yX1_init ∈ AW := aw_in 93 (by decide +kernel) rfl
theorem q94 : Cond.code yX1_init cX1_init 3 none ∈ AW := aw_in 94 (by decide +kernel) rfl
theorem q95 : Cond.methodLink RX1 3 objectInit ∈ AW := aw_in 95 (by decide +kernel) rfl
theorem q96 : Cond.fieldLink RX1 18 "LeftoverRule$Law" "most" "I" ∈ AW := aw_in 96 (by decide +kernel) rfl
theorem q97 : Cond.fieldLink RX1 22 "LeftoverRule$Law" "ofFlavours" "Z" ∈ AW := aw_in 97 (by decide +kernel) rfl
theorem q98 : Cond.fieldLink RX1 9 "LeftoverRule$Law" "steps" "[I" ∈ AW := aw_in 98 (by decide +kernel) rfl
theorem q99 : Cond.fieldLink RX1 15 "LeftoverRule$Law" "stack" "[I" ∈ AW := aw_in 99 (by decide +kernel) rfl
theorem q100 : Cond.fieldLink RX1 26 "LeftoverRule$Law" "length" "I" ∈ AW := aw_in 100 (by decide +kernel) rfl
theorem q112 : Cond.arrayClass FieldType.int ∈ AW := aw_in 112 (by decide +kernel) rfl
theorem q113 : Cond.classLink RX0 23 RX4 ∈ AW := aw_in 113 (by decide +kernel) rfl
theorem q114 : Cond.instantiable RX4 11 ∈ AW := aw_in 114 (by decide +kernel) rfl
theorem q115 : Cond.methodLink RX0 25 yX4_init ∈ AW := aw_in 115 (by decide +kernel) rfl
theorem q116 : Cond.instanceMethod yX4_init ∈ AW := aw_in 116 (by decide +kernel) rfl
theorem q117 : Cond.code yX4_init cX4_init 3 none ∈ AW := aw_in 117 (by decide +kernel) rfl
theorem q118 : Cond.methodLink RX4 3 objectInit ∈ AW := aw_in 118 (by decide +kernel) rfl
theorem q119 : Cond.fieldLink RX4 30 "LeftoverRule$Table" "claim" "LLeftoverRule$Law;" ∈ AW := aw_in 119 (by decide +kernel) rfl
theorem q120 : Cond.fieldLink RX4 34 "LeftoverRule$Table" "keeping" "LLeftoverRule$Law;" ∈ AW := aw_in 120 (by decide +kernel) rfl
theorem q121 : Cond.fieldLink RX4 37 "LeftoverRule$Table" "dishes" "I" ∈ AW := aw_in 121 (by decide +kernel) rfl
theorem q122 : Cond.fieldLink RX6 76 "LeftoverRule$Table" "dishes" "I" ∈ AW := aw_in 122 (by decide +kernel) rfl
theorem q123 : Cond.fieldLink RX0 62 "LeftoverRule$Table" "dishes" "I" ∈ AW := aw_in 123 (by decide +kernel) rfl
theorem q124 : Cond.fieldLink RX4 41 "LeftoverRule$Table" "day" "I" ∈ AW := aw_in 124 (by decide +kernel) rfl
theorem q125 : Cond.fieldLink RX6 155 "LeftoverRule$Table" "day" "I" ∈ AW := aw_in 125 (by decide +kernel) rfl
theorem q126 : Cond.fieldLink RX4 44 "LeftoverRule$Table" "hungry" "I" ∈ AW := aw_in 126 (by decide +kernel) rfl
theorem q127 : Cond.fieldLink RX6 253 "LeftoverRule$Table" "hungry" "I" ∈ AW := aw_in 127 (by decide +kernel) rfl
theorem q128 : Cond.fieldLink RX4 9 "LeftoverRule$Table" "kind" "[I" ∈ AW := aw_in 128 (by decide +kernel) rfl
theorem q129 : Cond.fieldLink RX5 15 "LeftoverRule$Table" "kind" "[I" ∈ AW := aw_in 129 (by decide +kernel) rfl
theorem q130 : Cond.fieldLink RX6 87 "LeftoverRule$Table" "kind" "[I" ∈ AW := aw_in 130 (by decide +kernel) rfl
theorem q131 : Cond.fieldLink RX4 15 "LeftoverRule$Table" "mark" "[I" ∈ AW := aw_in 131 (by decide +kernel) rfl
theorem q132 : Cond.fieldLink RX5 26 "LeftoverRule$Table" "mark" "[I" ∈ AW := aw_in 132 (by decide +kernel) rfl
theorem q133 : Cond.fieldLink RX6 90 "LeftoverRule$Table" "mark" "[I" ∈ AW := aw_in 133 (by decide +kernel) rfl
theorem q134 : Cond.fieldLink RX4 18 "LeftoverRule$Table" "size" "[I" ∈ AW := aw_in 134 (by decide +kernel) rfl
theorem q135 : Cond.fieldLink RX0 69 "LeftoverRule$Table" "size" "[I" ∈ AW := aw_in 135 (by decide +kernel) rfl
theorem q136 : Cond.fieldLink RX6 93 "LeftoverRule$Table" "size" "[I" ∈ AW := aw_in 136 (by decide +kernel) rfl
theorem q137 : Cond.fieldLink RX4 21 "LeftoverRule$Table" "age" "[I" ∈ AW := aw_in 137 (by decide +kernel) rfl
theorem q138 : Cond.fieldLink RX6 96 "LeftoverRule$Table" "age" "[I" ∈ AW := aw_in 138 (by decide +kernel) rfl
theorem q139 : Cond.fieldLink RX4 24 "LeftoverRule$Table" "flavour" "[I" ∈ AW := aw_in 139 (by decide +kernel) rfl
theorem q140 : Cond.fieldLink RX6 99 "LeftoverRule$Table" "flavour" "[I" ∈ AW := aw_in 140 (by decide +kernel) rfl
theorem q141 : Cond.fieldLink RX4 27 "LeftoverRule$Table" "claims" "[I" ∈ AW := aw_in 141 (by decide +kernel) rfl
theorem q165 : Cond.fieldLink RX0 14 "LeftoverRule$House" "claim" "LLeftoverRule$Law;" ∈ AW := aw_in 165 (by decide +kernel) rfl
theorem q166 : Cond.fieldLink RX6 26 "LeftoverRule$House" "claim" "LLeftoverRule$Law;" ∈ AW := aw_in 166 (by decide +kernel) rfl
theorem q167 : Cond.fieldLink RX0 20 "LeftoverRule$House" "keeping" "LLeftoverRule$Law;" ∈ AW := aw_in 167 (by decide +kernel) rfl
theorem q168 : Cond.fieldLink RX6 30 "LeftoverRule$House" "keeping" "LLeftoverRule$Law;" ∈ AW := aw_in 168 (by decide +kernel) rfl
theorem q169 : Cond.fieldLink RX6 19 "LeftoverRule$House" "table" "LLeftoverRule$Table;" ∈ AW := aw_in 169 (by decide +kernel) rfl
theorem q170 : Cond.fieldLink RX0 28 "LeftoverRule$House" "table" "LLeftoverRule$Table;" ∈ AW := aw_in 170 (by decide +kernel) rfl
theorem q171 : Cond.fieldLink RX0 32 "LeftoverRule$House" "tape" "[I" ∈ AW := aw_in 171 (by decide +kernel) rfl
theorem q172 : Cond.fieldLink RX6 122 "LeftoverRule$House" "tape" "[I" ∈ AW := aw_in 172 (by decide +kernel) rfl
theorem q173 : Cond.fieldLink RX0 56 "LeftoverRule$House" "taped" "I" ∈ AW := aw_in 173 (by decide +kernel) rfl
theorem q174 : Cond.fieldLink RX6 119 "LeftoverRule$House" "taped" "I" ∈ AW := aw_in 174 (by decide +kernel) rfl
theorem q175 : Cond.fieldLink RX0 36 "LeftoverRule$House" "waits" "[I" ∈ AW := aw_in 175 (by decide +kernel) rfl
theorem q176 : Cond.fieldLink RX6 250 "LeftoverRule$House" "waits" "[I" ∈ AW := aw_in 176 (by decide +kernel) rfl
theorem q177 : Cond.fieldLink RX0 59 "LeftoverRule$House" "waiting" "I" ∈ AW := aw_in 177 (by decide +kernel) rfl
theorem q178 : Cond.fieldLink RX6 247 "LeftoverRule$House" "waiting" "I" ∈ AW := aw_in 178 (by decide +kernel) rfl
theorem q179 : Cond.fieldLink RX0 39 "LeftoverRule$House" "z" "I" ∈ AW := aw_in 179 (by decide +kernel) rfl
theorem q180 : Cond.fieldLink RX6 171 "LeftoverRule$House" "z" "I" ∈ AW := aw_in 180 (by decide +kernel) rfl
theorem q198 : Cond.classLink RX6 24 RX4 ∈ AW := aw_in 198 (by decide +kernel) rfl
theorem q199 : Cond.methodLink RX6 33 yX4_init ∈ AW := aw_in 199 (by decide +kernel) rfl
theorem q200 : Cond.classLink RX6 39 RX2 ∈ AW := aw_in 200 (by decide +kernel) rfl
theorem q201 : Cond.instantiable RX2 6 ∈ AW := aw_in 201 (by decide +kernel) rfl
theorem q203 : Cond.instanceMethod yX2_init ∈ AW := aw_in 203 (by decide +kernel) rfl
theorem q204 : Cond.code yX2_init cX2_init 1 none ∈ AW := aw_in 204 (by decide +kernel) rfl
theorem q205 : Cond.methodLink RX2 3 objectInit ∈ AW := aw_in 205 (by decide +kernel) rfl
theorem q206 : Cond.classLink RX2 9 RX1 ∈ AW := aw_in 206 (by decide +kernel) rfl
theorem q207 : Cond.methodLink RX2 11 yX1_init ∈ AW := aw_in 207 (by decide +kernel) rfl
theorem q208 : Cond.fieldLink RX2 14 "LeftoverRule$Reader" "draft" "LLeftoverRule$Law;" ∈ AW := aw_in 208 (by decide +kernel) rfl
theorem q209 : Cond.fieldLink RX6 136 "LeftoverRule$Reader" "draft" "LLeftoverRule$Law;" ∈ AW := aw_in 209 (by decide +kernel) rfl
theorem q210 : Cond.fieldLink RX2 20 "LeftoverRule$Reader" "bytes" "[I" ∈ AW := aw_in 210 (by decide +kernel) rfl
theorem q211 : Cond.fieldLink RX2 30 "LeftoverRule$Reader" "length" "I" ∈ AW := aw_in 211 (by decide +kernel) rfl
theorem q212 : Cond.fieldLink RX2 40 "LeftoverRule$Reader" "place" "I" ∈ AW := aw_in 212 (by decide +kernel) rfl
theorem q213 : Cond.fieldLink RX2 43 "LeftoverRule$Reader" "use" "I" ∈ AW := aw_in 213 (by decide +kernel) rfl
theorem q214 : Cond.fieldLink RX2 46 "LeftoverRule$Reader" "faulty" "Z" ∈ AW := aw_in 214 (by decide +kernel) rfl
theorem q228 : Cond.classLink RX6 46 RX5 ∈ AW := aw_in 228 (by decide +kernel) rfl
theorem q229 : Cond.instantiable RX5 6 ∈ AW := aw_in 229 (by decide +kernel) rfl
theorem q231 : Cond.instanceMethod yX5_init ∈ AW := aw_in 231 (by decide +kernel) rfl
theorem q232 : Cond.code yX5_init cX5_init 1 none ∈ AW := aw_in 232 (by decide +kernel) rfl
theorem q233 : Cond.methodLink RX5 3 objectInit ∈ AW := aw_in 233 (by decide +kernel) rfl
theorem q234 : Cond.fieldLink RX5 9 "LeftoverRule$Voices" "trace" "[I" ∈ AW := aw_in 234 (by decide +kernel) rfl
theorem q235 : Cond.fieldLink RX6 214 "LeftoverRule$Voices" "trace" "[I" ∈ AW := aw_in 235 (by decide +kernel) rfl
theorem q236 : Cond.fieldLink RX5 32 "LeftoverRule$Voices" "traced" "I" ∈ AW := aw_in 236 (by decide +kernel) rfl
theorem q237 : Cond.fieldLink RX6 211 "LeftoverRule$Voices" "traced" "I" ∈ AW := aw_in 237 (by decide +kernel) rfl
theorem q238 : Cond.fieldLink RX5 35 "LeftoverRule$Voices" "parted" "Z" ∈ AW := aw_in 238 (by decide +kernel) rfl
theorem q239 : Cond.fieldLink RX6 207 "LeftoverRule$Voices" "parted" "Z" ∈ AW := aw_in 239 (by decide +kernel) rfl
theorem q240 : Cond.fieldLink RX5 20 "LeftoverRule$Voices" "kind" "I" ∈ AW := aw_in 240 (by decide +kernel) rfl
theorem q241 : Cond.fieldLink RX5 23 "LeftoverRule$Voices" "k" "I" ∈ AW := aw_in 241 (by decide +kernel) rfl
theorem q242 : Cond.fieldLink RX5 29 "LeftoverRule$Voices" "m" "I" ∈ AW := aw_in 242 (by decide +kernel) rfl
theorem q256 : Cond.classLink RX6 53 RX3 ∈ AW := aw_in 256 (by decide +kernel) rfl
theorem q258 : Cond.instantiable RX3 3 ∈ AW := aw_in 258 (by decide +kernel) rfl
theorem q260 : Cond.instanceMethod yX3_init ∈ AW := aw_in 260 (by decide +kernel) rfl
theorem q261 : Cond.code yX3_init cX3_init 1 none ∈ AW := aw_in 261 (by decide +kernel) rfl
theorem q262 : Cond.methodLink RX3 3 objectInit ∈ AW := aw_in 262 (by decide +kernel) rfl
theorem q263 : Cond.fieldLink RX3 15 "LeftoverRule$Sheet" "bits" "I" ∈ AW := aw_in 263 (by decide +kernel) rfl
theorem q264 : Cond.fieldLink RX6 226 "LeftoverRule$Sheet" "bits" "I" ∈ AW := aw_in 264 (by decide +kernel) rfl
theorem q265 : Cond.fieldLink RX3 19 "LeftoverRule$Sheet" "length" "I" ∈ AW := aw_in 265 (by decide +kernel) rfl
theorem q266 : Cond.fieldLink RX6 220 "LeftoverRule$Sheet" "length" "I" ∈ AW := aw_in 266 (by decide +kernel) rfl
theorem q267 : Cond.fieldLink RX3 9 "LeftoverRule$Sheet" "numbers" "[I" ∈ AW := aw_in 267 (by decide +kernel) rfl
theorem q268 : Cond.fieldLink RX6 232 "LeftoverRule$Sheet" "numbers" "[I" ∈ AW := aw_in 268 (by decide +kernel) rfl
theorem q276 : Cond.fieldLink RX6 10 "LeftoverRule" "house" "LLeftoverRule$House;" ∈ AW := aw_in 276 (by decide +kernel) rfl
theorem q277 : Cond.fieldLink RX6 16 "LeftoverRule" "kept" "LLeftoverRule$House;" ∈ AW := aw_in 277 (by decide +kernel) rfl
theorem q278 : Cond.fieldLink RX6 23 "LeftoverRule" "table" "LLeftoverRule$Table;" ∈ AW := aw_in 278 (by decide +kernel) rfl
theorem q279 : Cond.fieldLink RX6 36 "LeftoverRule" "thought" "LLeftoverRule$Table;" ∈ AW := aw_in 279 (by decide +kernel) rfl
theorem q280 : Cond.fieldLink RX6 42 "LeftoverRule" "reader" "LLeftoverRule$Reader;" ∈ AW := aw_in 280 (by decide +kernel) rfl
theorem q281 : Cond.fieldLink RX6 49 "LeftoverRule" "voices" "LLeftoverRule$Voices;" ∈ AW := aw_in 281 (by decide +kernel) rfl
theorem q282 : Cond.fieldLink RX6 55 "LeftoverRule" "sheets" "[LLeftoverRule$Sheet;" ∈ AW := aw_in 282 (by decide +kernel) rfl
theorem q283 : Cond.fieldLink RX6 59 "LeftoverRule" "errors" "[I" ∈ AW := aw_in 283 (by decide +kernel) rfl
theorem q284 : Cond.fieldLink RX6 244 "LeftoverRule" "images" "I" ∈ AW := aw_in 284 (by decide +kernel) rfl
theorem q304 : Cond.methodLink RL 13 yX6_dish ∈ AW := aw_in 304 (by decide +kernel) rfl
theorem q305 : Cond.instanceMethod yX6_dish ∈ AW := aw_in 305 (by decide +kernel) rfl
theorem q306 : Cond.selects RX6 yX6_dish yX6_dish ∈ AW := aw_in 306 (by decide +kernel) rfl
theorem q307 : Cond.code yX6_dish cX6_dish 4 (some Jvm.ClassFile.FieldType.int) ∈ AW := aw_in 307 (by decide +kernel) rfl
theorem q308 : Cond.methodLink RX6 64 yX6_isKm ∈ AW := aw_in 308 (by decide +kernel) rfl
theorem q309 : Cond.static yX6_isKm ∈ AW := aw_in 309 (by decide +kernel) rfl
theorem q310 : Cond.code yX6_isKm cX6_isKm 1 (some Jvm.ClassFile.FieldType.boolean) ∈ AW := aw_in 310 (by decide +kernel) rfl
theorem q311 : Cond.methodLink RX6 68 yX6_within ∈ AW := aw_in 311 (by decide +kernel) rfl
theorem q312 : Cond.static yX6_within ∈ AW := aw_in 312 (by decide +kernel) rfl
theorem q313 : Cond.code yX6_within cX6_within 3 (some Jvm.ClassFile.FieldType.boolean) ∈ AW := aw_in 313 (by decide +kernel) rfl
theorem q314 : Cond.methodLink RX6 72 yX6_wrong ∈ AW := aw_in 314 (by decide +kernel) rfl
theorem q316 : Cond.instanceMethod yX6_wrong ∈ AW := aw_in 316 (by decide +kernel) rfl
theorem q317 : Cond.code yX6_wrong cX6_wrong 2 (some Jvm.ClassFile.FieldType.int) ∈ AW := aw_in 317 (by decide +kernel) rfl
theorem q318 : Cond.constant RX6 256 (-1000000000) ∈ AW := aw_in 318 (by decide +kernel) rfl
theorem q319 : Cond.methodLink RX6 80 yX4_bring ∈ AW := aw_in 319 (by decide +kernel) rfl
theorem q320 : Cond.instanceMethod yX4_bring ∈ AW := aw_in 320 (by decide +kernel) rfl
theorem q321 : Cond.selects RX4 yX4_bring yX4_bring ∈ AW := aw_in 321 (by decide +kernel) rfl
theorem q322 : Cond.code yX4_bring cX4_bring 5 (some Jvm.ClassFile.FieldType.int) ∈ AW := aw_in 322 (by decide +kernel) rfl
theorem q323 : Cond.methodLink RL 18 yX6_dishIs ∈ AW := aw_in 323 (by decide +kernel) rfl
theorem q324 : Cond.instanceMethod yX6_dishIs ∈ AW := aw_in 324 (by decide +kernel) rfl
theorem q325 : Cond.selects RX6 yX6_dishIs yX6_dishIs ∈ AW := aw_in 325 (by decide +kernel) rfl
theorem q326 : Cond.code yX6_dishIs cX6_dishIs 3 (some Jvm.ClassFile.FieldType.int) ∈ AW := aw_in 326 (by decide +kernel) rfl
theorem q327 : Cond.methodLink RX6 84 yX4_has ∈ AW := aw_in 327 (by decide +kernel) rfl
theorem q328 : Cond.instanceMethod yX4_has ∈ AW := aw_in 328 (by decide +kernel) rfl
theorem q329 : Cond.selects RX4 yX4_has yX4_has ∈ AW := aw_in 329 (by decide +kernel) rfl
theorem q330 : Cond.code yX4_has cX4_has 2 (some Jvm.ClassFile.FieldType.boolean) ∈ AW := aw_in 330 (by decide +kernel) rfl
theorem q331 : Cond.methodLink RX6 102 yX4_claimOf ∈ AW := aw_in 331 (by decide +kernel) rfl
theorem q332 : Cond.instanceMethod yX4_claimOf ∈ AW := aw_in 332 (by decide +kernel) rfl
theorem q333 : Cond.selects RX4 yX4_claimOf yX4_claimOf ∈ AW := aw_in 333 (by decide +kernel) rfl
theorem q334 : Cond.code yX4_claimOf cX4_claimOf 2 (some Jvm.ClassFile.FieldType.int) ∈ AW := aw_in 334 (by decide +kernel) rfl
theorem q335 : Cond.methodLink RX4 61 yX4_claimOfKind ∈ AW := aw_in 335 (by decide +kernel) rfl
theorem q337 : Cond.instanceMethod yX4_claimOfKind ∈ AW := aw_in 337 (by decide +kernel) rfl
theorem q338 : Cond.code yX4_claimOfKind cX4_claimOfKind 3 (some Jvm.ClassFile.FieldType.int) ∈ AW := aw_in 338 (by decide +kernel) rfl
theorem q339 : Cond.methodLink RX4 55 yX1_gives ∈ AW := aw_in 339 (by decide +kernel) rfl
theorem q340 : Cond.instanceMethod yX1_gives ∈ AW := aw_in 340 (by decide +kernel) rfl
theorem q341 : Cond.selects RX1 yX1_gives yX1_gives ∈ AW := aw_in 341 (by decide +kernel) rfl
theorem q342 : Cond.code yX1_gives cX1_gives 7 (some Jvm.ClassFile.FieldType.int) ∈ AW := aw_in 342 (by decide +kernel) rfl
theorem q343 : Cond.methodLink RX1 35 yX1_withoutText ∈ AW := aw_in 343 (by decide +kernel) rfl
theorem q345 : Cond.instanceMethod yX1_withoutText ∈ AW := aw_in 345 (by decide +kernel) rfl
theorem q346 : Cond.code yX1_withoutText cX1_withoutText 3 (some Jvm.ClassFile.FieldType.int) ∈ AW := aw_in 346 (by decide +kernel) rfl
theorem q347 : Cond.methodLink RX1 51 Lib.MathLoose.abs_long.x ∈ AW := aw_in 347 (by decide +kernel) rfl
theorem q348 : Cond.static Lib.MathLoose.abs_long.x ∈ AW := aw_in 348 (by decide +kernel) rfl
theorem q349 : Cond.code Lib.MathLoose.abs_long.x Lib.MathLoose.abs_long.code 2 (some Jvm.ClassFile.FieldType.long) ∈ AW := aw_in 349 (by decide +kernel) rfl
theorem q350 : Cond.constantLong RX1 55 (2) ∈ AW := aw_in 350 (by decide +kernel) rfl
theorem q351 : Cond.methodLink RX1 39 yX1_joined ∈ AW := aw_in 351 (by decide +kernel) rfl
theorem q352 : Cond.static yX1_joined ∈ AW := aw_in 352 (by decide +kernel) rfl
theorem q353 : Cond.code yX1_joined cX1_joined 3 (some Jvm.ClassFile.FieldType.int) ∈ AW := aw_in 353 (by decide +kernel) rfl
theorem q354 : Cond.methodLink RX1 43 Lib.Math.min.name ∈ AW := aw_in 354 (by decide +kernel) rfl
theorem q355 : Cond.static Lib.Math.min.name ∈ AW := aw_in 355 (by decide +kernel) rfl
theorem q356 : Cond.code Lib.Math.min.name Lib.Math.min.code 2 (some Jvm.ClassFile.FieldType.int) ∈ AW := aw_in 356 (by decide +kernel) rfl
theorem q357 : Cond.methodLink RX1 48 Lib.Math.max.name ∈ AW := aw_in 357 (by decide +kernel) rfl
theorem q358 : Cond.static Lib.Math.max.name ∈ AW := aw_in 358 (by decide +kernel) rfl
theorem q359 : Cond.code Lib.Math.max.name Lib.Math.max.code 2 (some Jvm.ClassFile.FieldType.int) ∈ AW := aw_in 359 (by decide +kernel) rfl
theorem q360 : Cond.methodLink RX6 105 yX4_spoilOf ∈ AW := aw_in 360 (by decide +kernel) rfl
theorem q361 : Cond.instanceMethod yX4_spoilOf ∈ AW := aw_in 361 (by decide +kernel) rfl
theorem q362 : Cond.selects RX4 yX4_spoilOf yX4_spoilOf ∈ AW := aw_in 362 (by decide +kernel) rfl
theorem q363 : Cond.code yX4_spoilOf cX4_spoilOf 3 (some Jvm.ClassFile.FieldType.int) ∈ AW := aw_in 363 (by decide +kernel) rfl
theorem q364 : Cond.methodLink RX4 65 Lib.Math.max.name ∈ AW := aw_in 364 (by decide +kernel) rfl
theorem q365 : Cond.methodLink RX6 108 yX4_sayer ∈ AW := aw_in 365 (by decide +kernel) rfl
theorem q366 : Cond.instanceMethod yX4_sayer ∈ AW := aw_in 366 (by decide +kernel) rfl
theorem q367 : Cond.selects RX4 yX4_sayer yX4_sayer ∈ AW := aw_in 367 (by decide +kernel) rfl
theorem q368 : Cond.code yX4_sayer cX4_sayer 3 (some Jvm.ClassFile.FieldType.int) ∈ AW := aw_in 368 (by decide +kernel) rfl
theorem q369 : Cond.methodLink RX4 71 yX4_claimOf ∈ AW := aw_in 369 (by decide +kernel) rfl
theorem q370 : Cond.methodLink RX6 112 yX4_isKeptBy ∈ AW := aw_in 370 (by decide +kernel) rfl
theorem q371 : Cond.instanceMethod yX4_isKeptBy ∈ AW := aw_in 371 (by decide +kernel) rfl
theorem q372 : Cond.selects RX4 yX4_isKeptBy yX4_isKeptBy ∈ AW := aw_in 372 (by decide +kernel) rfl
theorem q373 : Cond.code yX4_isKeptBy cX4_isKeptBy 3 (some Jvm.ClassFile.FieldType.boolean) ∈ AW := aw_in 373 (by decide +kernel) rfl
theorem q374 : Cond.methodLink RL 23 yX6_become ∈ AW := aw_in 374 (by decide +kernel) rfl
theorem q375 : Cond.instanceMethod yX6_become ∈ AW := aw_in 375 (by decide +kernel) rfl
theorem q376 : Cond.selects RX6 yX6_become yX6_become ∈ AW := aw_in 376 (by decide +kernel) rfl
theorem q377 : Cond.code yX6_become cX6_become 4 (some Jvm.ClassFile.FieldType.int) ∈ AW := aw_in 377 (by decide +kernel) rfl
theorem q378 : Cond.methodLink RL 27 yX6_as ∈ AW := aw_in 378 (by decide +kernel) rfl
theorem q379 : Cond.instanceMethod yX6_as ∈ AW := aw_in 379 (by decide +kernel) rfl
theorem q380 : Cond.selects RX6 yX6_as yX6_as ∈ AW := aw_in 380 (by decide +kernel) rfl
theorem q381 : Cond.code yX6_as cX6_as 5 (some Jvm.ClassFile.FieldType.int) ∈ AW := aw_in 381 (by decide +kernel) rfl
theorem q382 : Cond.fieldLink RX6 116 "LeftoverRule" "ABOVE" "[I" ∈ AW := aw_in 382 (by decide +kernel) rfl
theorem q384 : Cond.methodLink RL 31 yX6_serve ∈ AW := aw_in 384 (by decide +kernel) rfl
theorem q385 : Cond.instanceMethod yX6_serve ∈ AW := aw_in 385 (by decide +kernel) rfl
theorem q386 : Cond.selects RX6 yX6_serve yX6_serve ∈ AW := aw_in 386 (by decide +kernel) rfl
theorem q387 : Cond.code yX6_serve cX6_serve 4 (some Jvm.ClassFile.FieldType.int) ∈ AW := aw_in 387 (by decide +kernel) rfl
theorem q388 : Cond.methodLink RL 35 yX6_season ∈ AW := aw_in 388 (by decide +kernel) rfl
theorem q389 : Cond.instanceMethod yX6_season ∈ AW := aw_in 389 (by decide +kernel) rfl
theorem q390 : Cond.selects RX6 yX6_season yX6_season ∈ AW := aw_in 390 (by decide +kernel) rfl
theorem q391 : Cond.code yX6_season cX6_season 4 (some Jvm.ClassFile.FieldType.int) ∈ AW := aw_in 391 (by decide +kernel) rfl
theorem q392 : Cond.methodLink RL 39 yX6_rules ∈ AW := aw_in 392 (by decide +kernel) rfl
theorem q393 : Cond.instanceMethod yX6_rules ∈ AW := aw_in 393 (by decide +kernel) rfl
theorem q394 : Cond.selects RX6 yX6_rules yX6_rules ∈ AW := aw_in 394 (by decide +kernel) rfl
theorem q395 : Cond.code yX6_rules cX6_rules 2 (some Jvm.ClassFile.FieldType.int) ∈ AW := aw_in 395 (by decide +kernel) rfl
theorem q396 : Cond.methodLink RL 46 yX6_feed ∈ AW := aw_in 396 (by decide +kernel) rfl
theorem q397 : Cond.instanceMethod yX6_feed ∈ AW := aw_in 397 (by decide +kernel) rfl
theorem q398 : Cond.selects RX6 yX6_feed yX6_feed ∈ AW := aw_in 398 (by decide +kernel) rfl
theorem q399 : Cond.code yX6_feed cX6_feed 5 (some Jvm.ClassFile.FieldType.int) ∈ AW := aw_in 399 (by decide +kernel) rfl
theorem q400 : Cond.methodLink RL 51 yX6_text ∈ AW := aw_in 400 (by decide +kernel) rfl
theorem q401 : Cond.instanceMethod yX6_text ∈ AW := aw_in 401 (by decide +kernel) rfl
theorem q402 : Cond.selects RX6 yX6_text yX6_text ∈ AW := aw_in 402 (by decide +kernel) rfl
theorem q403 : Cond.code yX6_text cX6_text 3 (some Jvm.ClassFile.FieldType.int) ∈ AW := aw_in 403 (by decide +kernel) rfl
theorem q404 : Cond.methodLink RX6 125 yX6_isUse ∈ AW := aw_in 404 (by decide +kernel) rfl
theorem q405 : Cond.static yX6_isUse ∈ AW := aw_in 405 (by decide +kernel) rfl
theorem q406 : Cond.code yX6_isUse cX6_isUse 1 (some Jvm.ClassFile.FieldType.boolean) ∈ AW := aw_in 406 (by decide +kernel) rfl
theorem q407 : Cond.methodLink RX6 128 yX2_read ∈ AW := aw_in 407 (by decide +kernel) rfl
theorem q408 : Cond.instanceMethod yX2_read ∈ AW := aw_in 408 (by decide +kernel) rfl
theorem q409 : Cond.selects RX2 yX2_read yX2_read ∈ AW := aw_in 409 (by decide +kernel) rfl
theorem q410 : Cond.code yX2_read cX2_read 4 (some Jvm.ClassFile.FieldType.int) ∈ AW := aw_in 410 (by decide +kernel) rfl
theorem q411 : Cond.methodLink RX2 24 Lib.Math.min.name ∈ AW := aw_in 411 (by decide +kernel) rfl
theorem q412 : Cond.methodLink RX2 34 arraycopyName ∈ AW := aw_in 412 (by decide +kernel) rfl
theorem q413 : Cond.static arraycopyName ∈ AW := aw_in 413 (by decide +kernel) rfl
theorem q414 : Cond.native arraycopyName ∈ AW := aw_in 414 (by decide +kernel) rfl
theorem q415 : Cond.methodLink RX2 50 yX1_forget ∈ AW := aw_in 415 (by decide +kernel) rfl
theorem q416 : Cond.instanceMethod yX1_forget ∈ AW := aw_in 416 (by decide +kernel) rfl
theorem q417 : Cond.selects RX1 yX1_forget yX1_forget ∈ AW := aw_in 417 (by decide +kernel) rfl
theorem q418 : Cond.code yX1_forget cX1_forget 2 (some Jvm.ClassFile.FieldType.boolean) ∈ AW := aw_in 418 (by decide +kernel) rfl
theorem q419 : Cond.methodLink RX2 54 yX2_readLevel ∈ AW := aw_in 419 (by decide +kernel) rfl
theorem q421 : Cond.instanceMethod yX2_readLevel ∈ AW := aw_in 421 (by decide +kernel) rfl
theorem q422 : Cond.code yX2_readLevel cX2_readLevel 6 none ∈ AW := aw_in 422 (by decide +kernel) rfl
theorem q423 : Cond.methodLink RX2 58 yX2_readQ ∈ AW := aw_in 423 (by decide +kernel) rfl
theorem q425 : Cond.instanceMethod yX2_readQ ∈ AW := aw_in 425 (by decide +kernel) rfl
theorem q426 : Cond.code yX2_readQ cX2_readQ 4 none ∈ AW := aw_in 426 (by decide +kernel) rfl
theorem q427 : Cond.methodLink RX2 62 yX2_next ∈ AW := aw_in 427 (by decide +kernel) rfl
theorem q429 : Cond.instanceMethod yX2_next ∈ AW := aw_in 429 (by decide +kernel) rfl
theorem q430 : Cond.code yX2_next cX2_next 1 (some Jvm.ClassFile.FieldType.int) ∈ AW := aw_in 430 (by decide +kernel) rfl
theorem q431 : Cond.methodLink RX2 73 yX2_nameOf ∈ AW := aw_in 431 (by decide +kernel) rfl
theorem q433 : Cond.instanceMethod yX2_nameOf ∈ AW := aw_in 433 (by decide +kernel) rfl
theorem q434 : Cond.code yX2_nameOf cX2_nameOf 3 (some Jvm.ClassFile.FieldType.int) ∈ AW := aw_in 434 (by decide +kernel) rfl
theorem q437 : Cond.methodLink RX2 76 yX2_isDigit ∈ AW := aw_in 437 (by decide +kernel) rfl
theorem q438 : Cond.static yX2_isDigit ∈ AW := aw_in 438 (by decide +kernel) rfl
theorem q439 : Cond.code yX2_isDigit cX2_isDigit 1 (some Jvm.ClassFile.FieldType.boolean) ∈ AW := aw_in 439 (by decide +kernel) rfl
theorem q440 : Cond.methodLink RX2 80 yX2_readNumber ∈ AW := aw_in 440 (by decide +kernel) rfl
theorem q442 : Cond.instanceMethod yX2_readNumber ∈ AW := aw_in 442 (by decide +kernel) rfl
theorem q443 : Cond.code yX2_readNumber cX2_readNumber 3 none ∈ AW := aw_in 443 (by decide +kernel) rfl
theorem q444 : Cond.methodLink RX2 70 yX1_add ∈ AW := aw_in 444 (by decide +kernel) rfl
theorem q445 : Cond.instanceMethod yX1_add ∈ AW := aw_in 445 (by decide +kernel) rfl
theorem q446 : Cond.selects RX1 yX1_add yX1_add ∈ AW := aw_in 446 (by decide +kernel) rfl
theorem q447 : Cond.code yX1_add cX1_add 2 none ∈ AW := aw_in 447 (by decide +kernel) rfl
theorem q448 : Cond.methodLink RX2 83 yX2_readClosing ∈ AW := aw_in 448 (by decide +kernel) rfl
theorem q450 : Cond.instanceMethod yX2_readClosing ∈ AW := aw_in 450 (by decide +kernel) rfl
theorem q451 : Cond.code yX2_readClosing cX2_readClosing 1 none ∈ AW := aw_in 451 (by decide +kernel) rfl
theorem q452 : Cond.methodLink RX2 66 yX2_levelOf ∈ AW := aw_in 452 (by decide +kernel) rfl
theorem q453 : Cond.static yX2_levelOf ∈ AW := aw_in 453 (by decide +kernel) rfl
theorem q454 : Cond.code yX2_levelOf cX2_levelOf 1 (some Jvm.ClassFile.FieldType.int) ∈ AW := aw_in 454 (by decide +kernel) rfl
theorem q455 : Cond.methodLink RX6 132 yX6_lawOf ∈ AW := aw_in 455 (by decide +kernel) rfl
theorem q457 : Cond.instanceMethod yX6_lawOf ∈ AW := aw_in 457 (by decide +kernel) rfl
theorem q458 : Cond.code yX6_lawOf cX6_lawOf 2 (some (Jvm.ClassFile.FieldType.object "LeftoverRule$Law")) ∈ AW := aw_in 458 (by decide +kernel) rfl
theorem q459 : Cond.methodLink RX6 139 yX1_takeFrom ∈ AW := aw_in 459 (by decide +kernel) rfl
theorem q460 : Cond.instanceMethod yX1_takeFrom ∈ AW := aw_in 460 (by decide +kernel) rfl
theorem q461 : Cond.selects RX1 yX1_takeFrom yX1_takeFrom ∈ AW := aw_in 461 (by decide +kernel) rfl
theorem q462 : Cond.code yX1_takeFrom cX1_takeFrom 2 none ∈ AW := aw_in 462 (by decide +kernel) rfl
theorem q463 : Cond.methodLink RX1 29 arraycopyName ∈ AW := aw_in 463 (by decide +kernel) rfl
theorem q464 : Cond.methodLink RL 56 yX6_untell ∈ AW := aw_in 464 (by decide +kernel) rfl
theorem q465 : Cond.instanceMethod yX6_untell ∈ AW := aw_in 465 (by decide +kernel) rfl
theorem q466 : Cond.selects RX6 yX6_untell yX6_untell ∈ AW := aw_in 466 (by decide +kernel) rfl
theorem q467 : Cond.code yX6_untell cX6_untell 2 (some Jvm.ClassFile.FieldType.int) ∈ AW := aw_in 467 (by decide +kernel) rfl
theorem q468 : Cond.methodLink RX6 145 yX1_forget ∈ AW := aw_in 468 (by decide +kernel) rfl
theorem q469 : Cond.methodLink RL 60 yX6_law ∈ AW := aw_in 469 (by decide +kernel) rfl
theorem q470 : Cond.instanceMethod yX6_law ∈ AW := aw_in 470 (by decide +kernel) rfl
theorem q471 : Cond.selects RX6 yX6_law yX6_law ∈ AW := aw_in 471 (by decide +kernel) rfl
theorem q472 : Cond.code yX6_law cX6_law 5 (some Jvm.ClassFile.FieldType.int) ∈ AW := aw_in 472 (by decide +kernel) rfl
theorem q473 : Cond.methodLink RX6 149 yX1_gives ∈ AW := aw_in 473 (by decide +kernel) rfl
theorem q474 : Cond.methodLink RL 65 yX6_meal ∈ AW := aw_in 474 (by decide +kernel) rfl
theorem q475 : Cond.instanceMethod yX6_meal ∈ AW := aw_in 475 (by decide +kernel) rfl
theorem q476 : Cond.selects RX6 yX6_meal yX6_meal ∈ AW := aw_in 476 (by decide +kernel) rfl
theorem q477 : Cond.code yX6_meal cX6_meal 2 (some Jvm.ClassFile.FieldType.int) ∈ AW := aw_in 477 (by decide +kernel) rfl
theorem q478 : Cond.methodLink RX6 152 yX6_isHunger ∈ AW := aw_in 478 (by decide +kernel) rfl
theorem q479 : Cond.static yX6_isHunger ∈ AW := aw_in 479 (by decide +kernel) rfl
theorem q480 : Cond.code yX6_isHunger cX6_isHunger 1 (some Jvm.ClassFile.FieldType.boolean) ∈ AW := aw_in 480 (by decide +kernel) rfl
theorem q481 : Cond.methodLink RX6 158 yX4_dine ∈ AW := aw_in 481 (by decide +kernel) rfl
theorem q482 : Cond.instanceMethod yX4_dine ∈ AW := aw_in 482 (by decide +kernel) rfl
theorem q483 : Cond.selects RX4 yX4_dine yX4_dine ∈ AW := aw_in 483 (by decide +kernel) rfl
theorem q484 : Cond.code yX4_dine cX4_dine 4 (some Jvm.ClassFile.FieldType.int) ∈ AW := aw_in 484 (by decide +kernel) rfl
theorem q485 : Cond.methodLink RX4 47 yX4_sayer ∈ AW := aw_in 485 (by decide +kernel) rfl
theorem q486 : Cond.methodLink RX4 77 yX4_eat ∈ AW := aw_in 486 (by decide +kernel) rfl
theorem q488 : Cond.instanceMethod yX4_eat ∈ AW := aw_in 488 (by decide +kernel) rfl
theorem q489 : Cond.code yX4_eat cX4_eat 7 (some Jvm.ClassFile.FieldType.int) ∈ AW := aw_in 489 (by decide +kernel) rfl
theorem q490 : Cond.methodLink RX4 51 yX4_isKeptBy ∈ AW := aw_in 490 (by decide +kernel) rfl
theorem q491 : Cond.methodLink RX4 87 yX4_leastClaim ∈ AW := aw_in 491 (by decide +kernel) rfl
theorem q493 : Cond.instanceMethod yX4_leastClaim ∈ AW := aw_in 493 (by decide +kernel) rfl
theorem q494 : Cond.code yX4_leastClaim cX4_leastClaim 3 (some Jvm.ClassFile.FieldType.int) ∈ AW := aw_in 494 (by decide +kernel) rfl
theorem q495 : Cond.methodLink RX4 80 Lib.Math.min.name ∈ AW := aw_in 495 (by decide +kernel) rfl
theorem q496 : Cond.methodLink RX4 83 yX4_spoilOf ∈ AW := aw_in 496 (by decide +kernel) rfl
theorem q497 : Cond.constant RX4 86 (99999) ∈ AW := aw_in 497 (by decide +kernel) rfl
theorem q498 : Cond.methodLink RL 69 yX6_meals ∈ AW := aw_in 498 (by decide +kernel) rfl
theorem q499 : Cond.instanceMethod yX6_meals ∈ AW := aw_in 499 (by decide +kernel) rfl
theorem q500 : Cond.selects RX6 yX6_meals yX6_meals ∈ AW := aw_in 500 (by decide +kernel) rfl
theorem q501 : Cond.code yX6_meals cX6_meals 3 (some Jvm.ClassFile.FieldType.int) ∈ AW := aw_in 501 (by decide +kernel) rfl
theorem q502 : Cond.methodLink RX6 161 yX4_pass ∈ AW := aw_in 502 (by decide +kernel) rfl
theorem q503 : Cond.instanceMethod yX4_pass ∈ AW := aw_in 503 (by decide +kernel) rfl
theorem q504 : Cond.selects RX4 yX4_pass yX4_pass ∈ AW := aw_in 504 (by decide +kernel) rfl
theorem q505 : Cond.code yX4_pass cX4_pass 4 none ∈ AW := aw_in 505 (by decide +kernel) rfl
theorem q506 : Cond.methodLink RX4 74 yX4_dine ∈ AW := aw_in 506 (by decide +kernel) rfl
theorem q507 : Cond.methodLink RX6 165 yX4_left ∈ AW := aw_in 507 (by decide +kernel) rfl
theorem q508 : Cond.instanceMethod yX4_left ∈ AW := aw_in 508 (by decide +kernel) rfl
theorem q509 : Cond.selects RX4 yX4_left yX4_left ∈ AW := aw_in 509 (by decide +kernel) rfl
theorem q510 : Cond.code yX4_left cX4_left 3 (some Jvm.ClassFile.FieldType.int) ∈ AW := aw_in 510 (by decide +kernel) rfl
theorem q511 : Cond.methodLink RL 73 yX6_loose ∈ AW := aw_in 511 (by decide +kernel) rfl
theorem q512 : Cond.instanceMethod yX6_loose ∈ AW := aw_in 512 (by decide +kernel) rfl
theorem q513 : Cond.selects RX6 yX6_loose yX6_loose ∈ AW := aw_in 513 (by decide +kernel) rfl
theorem q514 : Cond.code yX6_loose cX6_loose 4 (some Jvm.ClassFile.FieldType.int) ∈ AW := aw_in 514 (by decide +kernel) rfl
theorem q515 : Cond.methodLink RX6 168 yX0_dineByDraws ∈ AW := aw_in 515 (by decide +kernel) rfl
theorem q516 : Cond.instanceMethod yX0_dineByDraws ∈ AW := aw_in 516 (by decide +kernel) rfl
theorem q517 : Cond.selects RX0 yX0_dineByDraws yX0_dineByDraws ∈ AW := aw_in 517 (by decide +kernel) rfl
theorem q518 : Cond.code yX0_dineByDraws cX0_dineByDraws 3 (some Jvm.ClassFile.FieldType.int) ∈ AW := aw_in 518 (by decide +kernel) rfl
theorem q519 : Cond.methodLink RX0 65 yX0_draw ∈ AW := aw_in 519 (by decide +kernel) rfl
theorem q521 : Cond.instanceMethod yX0_draw ∈ AW := aw_in 521 (by decide +kernel) rfl
theorem q522 : Cond.code yX0_draw cX0_draw 1 (some Jvm.ClassFile.FieldType.int) ∈ AW := aw_in 522 (by decide +kernel) rfl
theorem q523 : Cond.constant RX0 82 (1103515245) ∈ AW := aw_in 523 (by decide +kernel) rfl
theorem q524 : Cond.methodLink RX0 72 Lib.Math.min.name ∈ AW := aw_in 524 (by decide +kernel) rfl
theorem q525 : Cond.methodLink RX0 78 yX4_dine ∈ AW := aw_in 525 (by decide +kernel) rfl
theorem q526 : Cond.methodLink RL 77 yX6_seed ∈ AW := aw_in 526 (by decide +kernel) rfl
theorem q527 : Cond.instanceMethod yX6_seed ∈ AW := aw_in 527 (by decide +kernel) rfl
theorem q528 : Cond.selects RX6 yX6_seed yX6_seed ∈ AW := aw_in 528 (by decide +kernel) rfl
theorem q529 : Cond.code yX6_seed cX6_seed 3 (some Jvm.ClassFile.FieldType.int) ∈ AW := aw_in 529 (by decide +kernel) rfl
theorem q530 : Cond.methodLink RL 81 yX6_then ∈ AW := aw_in 530 (by decide +kernel) rfl
theorem q531 : Cond.instanceMethod yX6_then ∈ AW := aw_in 531 (by decide +kernel) rfl
theorem q532 : Cond.selects RX6 yX6_then yX6_then ∈ AW := aw_in 532 (by decide +kernel) rfl
theorem q533 : Cond.code yX6_then cX6_then 4 (some Jvm.ClassFile.FieldType.int) ∈ AW := aw_in 533 (by decide +kernel) rfl
theorem q534 : Cond.methodLink RX6 174 yX4_takeFrom ∈ AW := aw_in 534 (by decide +kernel) rfl
theorem q535 : Cond.instanceMethod yX4_takeFrom ∈ AW := aw_in 535 (by decide +kernel) rfl
theorem q536 : Cond.selects RX4 yX4_takeFrom yX4_takeFrom ∈ AW := aw_in 536 (by decide +kernel) rfl
theorem q537 : Cond.code yX4_takeFrom cX4_takeFrom 3 none ∈ AW := aw_in 537 (by decide +kernel) rfl
theorem q538 : Cond.methodLink RL 85 yX6_gone ∈ AW := aw_in 538 (by decide +kernel) rfl
theorem q539 : Cond.instanceMethod yX6_gone ∈ AW := aw_in 539 (by decide +kernel) rfl
theorem q540 : Cond.selects RX6 yX6_gone yX6_gone ∈ AW := aw_in 540 (by decide +kernel) rfl
theorem q541 : Cond.code yX6_gone cX6_gone 4 (some Jvm.ClassFile.FieldType.int) ∈ AW := aw_in 541 (by decide +kernel) rfl
theorem q542 : Cond.methodLink RL 89 yX6_needs ∈ AW := aw_in 542 (by decide +kernel) rfl
theorem q543 : Cond.instanceMethod yX6_needs ∈ AW := aw_in 543 (by decide +kernel) rfl
theorem q544 : Cond.selects RX6 yX6_needs yX6_needs ∈ AW := aw_in 544 (by decide +kernel) rfl
theorem q545 : Cond.code yX6_needs cX6_needs 3 (some Jvm.ClassFile.FieldType.int) ∈ AW := aw_in 545 (by decide +kernel) rfl
theorem q546 : Cond.methodLink RL 93 yX6_clears ∈ AW := aw_in 546 (by decide +kernel) rfl
theorem q547 : Cond.instanceMethod yX6_clears ∈ AW := aw_in 547 (by decide +kernel) rfl
theorem q548 : Cond.selects RX6 yX6_clears yX6_clears ∈ AW := aw_in 548 (by decide +kernel) rfl
theorem q549 : Cond.code yX6_clears cX6_clears 8 (some Jvm.ClassFile.FieldType.int) ∈ AW := aw_in 549 (by decide +kernel) rfl
theorem q550 : Cond.methodLink RX6 177 yJ6_bitCount_0f7a4 ∈ AW := aw_in 550 (by decide +kernel) rfl
theorem q551 : Cond.static yJ6_bitCount_0f7a4 ∈ AW := aw_in 551 (by decide +kernel) rfl
theorem q552 : Cond.code yJ6_bitCount_0f7a4 cJ6_bitCount_0f7a4 1 (some Jvm.ClassFile.FieldType.int) ∈ AW := aw_in 552 (by decide +kernel) rfl
theorem q553 : Cond.constant RJ6 265 (1431655765) ∈ AW := aw_in 553 (by decide +kernel) rfl
theorem q554 : Cond.constant RJ6 266 (858993459) ∈ AW := aw_in 554 (by decide +kernel) rfl
theorem q555 : Cond.constant RJ6 267 (252645135) ∈ AW := aw_in 555 (by decide +kernel) rfl
theorem q556 : Cond.methodLink RX6 182 yX6_rulesWithout ∈ AW := aw_in 556 (by decide +kernel) rfl
theorem q558 : Cond.instanceMethod yX6_rulesWithout ∈ AW := aw_in 558 (by decide +kernel) rfl
theorem q559 : Cond.code yX6_rulesWithout cX6_rulesWithout 6 (some Jvm.ClassFile.FieldType.boolean) ∈ AW := aw_in 559 (by decide +kernel) rfl
theorem q560 : Cond.methodLink RL 97 yX6_brings ∈ AW := aw_in 560 (by decide +kernel) rfl
theorem q561 : Cond.instanceMethod yX6_brings ∈ AW := aw_in 561 (by decide +kernel) rfl
theorem q562 : Cond.selects RX6 yX6_brings yX6_brings ∈ AW := aw_in 562 (by decide +kernel) rfl
theorem q563 : Cond.code yX6_brings cX6_brings 8 (some Jvm.ClassFile.FieldType.int) ∈ AW := aw_in 563 (by decide +kernel) rfl
theorem q564 : Cond.methodLink RX6 186 yX4_leftInKeeping ∈ AW := aw_in 564 (by decide +kernel) rfl
theorem q565 : Cond.instanceMethod yX4_leftInKeeping ∈ AW := aw_in 565 (by decide +kernel) rfl
theorem q566 : Cond.selects RX4 yX4_leftInKeeping yX4_leftInKeeping ∈ AW := aw_in 566 (by decide +kernel) rfl
theorem q567 : Cond.code yX4_leftInKeeping cX4_leftInKeeping 4 (some Jvm.ClassFile.FieldType.int) ∈ AW := aw_in 567 (by decide +kernel) rfl
theorem q568 : Cond.methodLink RL 101 yX6_odds ∈ AW := aw_in 568 (by decide +kernel) rfl
theorem q569 : Cond.instanceMethod yX6_odds ∈ AW := aw_in 569 (by decide +kernel) rfl
theorem q570 : Cond.selects RX6 yX6_odds yX6_odds ∈ AW := aw_in 570 (by decide +kernel) rfl
theorem q571 : Cond.code yX6_odds cX6_odds 5 (some Jvm.ClassFile.FieldType.int) ∈ AW := aw_in 571 (by decide +kernel) rfl
theorem q572 : Cond.methodLink RX6 189 yX6_commonDivisor ∈ AW := aw_in 572 (by decide +kernel) rfl
theorem q573 : Cond.static yX6_commonDivisor ∈ AW := aw_in 573 (by decide +kernel) rfl
theorem q574 : Cond.code yX6_commonDivisor cX6_commonDivisor 4 (some Jvm.ClassFile.FieldType.int) ∈ AW := aw_in 574 (by decide +kernel) rfl
theorem q575 : Cond.methodLink RL 105 yX6_fits ∈ AW := aw_in 575 (by decide +kernel) rfl
theorem q576 : Cond.instanceMethod yX6_fits ∈ AW := aw_in 576 (by decide +kernel) rfl
theorem q577 : Cond.selects RX6 yX6_fits yX6_fits ∈ AW := aw_in 577 (by decide +kernel) rfl
theorem q578 : Cond.code yX6_fits cX6_fits 6 (some Jvm.ClassFile.FieldType.int) ∈ AW := aw_in 578 (by decide +kernel) rfl
theorem q579 : Cond.methodLink RX6 193 yX6_isSheet ∈ AW := aw_in 579 (by decide +kernel) rfl
theorem q580 : Cond.static yX6_isSheet ∈ AW := aw_in 580 (by decide +kernel) rfl
theorem q581 : Cond.code yX6_isSheet cX6_isSheet 1 (some Jvm.ClassFile.FieldType.boolean) ∈ AW := aw_in 581 (by decide +kernel) rfl
theorem q582 : Cond.methodLink RX6 196 yX3_isMissing ∈ AW := aw_in 582 (by decide +kernel) rfl
theorem q583 : Cond.instanceMethod yX3_isMissing ∈ AW := aw_in 583 (by decide +kernel) rfl
theorem q584 : Cond.selects RX3 yX3_isMissing yX3_isMissing ∈ AW := aw_in 584 (by decide +kernel) rfl
theorem q585 : Cond.code yX3_isMissing cX3_isMissing 1 (some Jvm.ClassFile.FieldType.boolean) ∈ AW := aw_in 585 (by decide +kernel) rfl
theorem q586 : Cond.methodLink RX6 199 yX6_tellsSizes ∈ AW := aw_in 586 (by decide +kernel) rfl
theorem q588 : Cond.instanceMethod yX6_tellsSizes ∈ AW := aw_in 588 (by decide +kernel) rfl
theorem q589 : Cond.code yX6_tellsSizes cX6_tellsSizes 3 (some Jvm.ClassFile.FieldType.boolean) ∈ AW := aw_in 589 (by decide +kernel) rfl
theorem q590 : Cond.methodLink RL 109 yX6_voice ∈ AW := aw_in 590 (by decide +kernel) rfl
theorem q591 : Cond.instanceMethod yX6_voice ∈ AW := aw_in 591 (by decide +kernel) rfl
theorem q592 : Cond.selects RX6 yX6_voice yX6_voice ∈ AW := aw_in 592 (by decide +kernel) rfl
theorem q593 : Cond.code yX6_voice cX6_voice 5 (some Jvm.ClassFile.FieldType.int) ∈ AW := aw_in 593 (by decide +kernel) rfl
theorem q594 : Cond.methodLink RX6 203 yX5_speak ∈ AW := aw_in 594 (by decide +kernel) rfl
theorem q595 : Cond.instanceMethod yX5_speak ∈ AW := aw_in 595 (by decide +kernel) rfl
theorem q596 : Cond.selects RX5 yX5_speak yX5_speak ∈ AW := aw_in 596 (by decide +kernel) rfl
theorem q597 : Cond.code yX5_speak cX5_speak 5 (some Jvm.ClassFile.FieldType.int) ∈ AW := aw_in 597 (by decide +kernel) rfl
theorem q598 : Cond.methodLink RX5 39 yX5_say ∈ AW := aw_in 598 (by decide +kernel) rfl
theorem q600 : Cond.instanceMethod yX5_say ∈ AW := aw_in 600 (by decide +kernel) rfl
theorem q601 : Cond.code yX5_say cX5_say 8 (some Jvm.ClassFile.FieldType.int) ∈ AW := aw_in 601 (by decide +kernel) rfl
theorem q602 : Cond.methodLink RX5 43 yX5_ownerOf ∈ AW := aw_in 602 (by decide +kernel) rfl
theorem q603 : Cond.static yX5_ownerOf ∈ AW := aw_in 603 (by decide +kernel) rfl
theorem q604 : Cond.code yX5_ownerOf cX5_ownerOf 4 (some Jvm.ClassFile.FieldType.int) ∈ AW := aw_in 604 (by decide +kernel) rfl
theorem q608 : Cond.methodLink RX5 53 yX5_began ∈ AW := aw_in 608 (by decide +kernel) rfl
theorem q610 : Cond.instanceMethod yX5_began ∈ AW := aw_in 610 (by decide +kernel) rfl
theorem q611 : Cond.code yX5_began cX5_began 2 none ∈ AW := aw_in 611 (by decide +kernel) rfl
theorem q612 : Cond.methodLink RX5 57 yX5_part ∈ AW := aw_in 612 (by decide +kernel) rfl
theorem q614 : Cond.instanceMethod yX5_part ∈ AW := aw_in 614 (by decide +kernel) rfl
theorem q615 : Cond.code yX5_part cX5_part 3 (some Jvm.ClassFile.FieldType.int) ∈ AW := aw_in 615 (by decide +kernel) rfl
theorem q616 : Cond.methodLink RX5 61 yX5_partOfJoint ∈ AW := aw_in 616 (by decide +kernel) rfl
theorem q618 : Cond.instanceMethod yX5_partOfJoint ∈ AW := aw_in 618 (by decide +kernel) rfl
theorem q619 : Cond.code yX5_partOfJoint cX5_partOfJoint 3 (some Jvm.ClassFile.FieldType.int) ∈ AW := aw_in 619 (by decide +kernel) rfl
theorem q620 : Cond.methodLink RL 113 yX6_body ∈ AW := aw_in 620 (by decide +kernel) rfl
theorem q621 : Cond.instanceMethod yX6_body ∈ AW := aw_in 621 (by decide +kernel) rfl
theorem q622 : Cond.selects RX6 yX6_body yX6_body ∈ AW := aw_in 622 (by decide +kernel) rfl
theorem q623 : Cond.code yX6_body cX6_body 2 (some Jvm.ClassFile.FieldType.int) ∈ AW := aw_in 623 (by decide +kernel) rfl
theorem q624 : Cond.methodLink RL 117 yX6_sheet ∈ AW := aw_in 624 (by decide +kernel) rfl
theorem q625 : Cond.instanceMethod yX6_sheet ∈ AW := aw_in 625 (by decide +kernel) rfl
theorem q626 : Cond.selects RX6 yX6_sheet yX6_sheet ∈ AW := aw_in 626 (by decide +kernel) rfl
theorem q627 : Cond.code yX6_sheet cX6_sheet 4 (some Jvm.ClassFile.FieldType.int) ∈ AW := aw_in 627 (by decide +kernel) rfl
theorem q628 : Cond.methodLink RX6 217 yX3_lay ∈ AW := aw_in 628 (by decide +kernel) rfl
theorem q629 : Cond.instanceMethod yX3_lay ∈ AW := aw_in 629 (by decide +kernel) rfl
theorem q630 : Cond.selects RX3 yX3_lay yX3_lay ∈ AW := aw_in 630 (by decide +kernel) rfl
theorem q631 : Cond.code yX3_lay cX3_lay 4 none ∈ AW := aw_in 631 (by decide +kernel) rfl
theorem q632 : Cond.methodLink RL 121 yX6_put ∈ AW := aw_in 632 (by decide +kernel) rfl
theorem q633 : Cond.instanceMethod yX6_put ∈ AW := aw_in 633 (by decide +kernel) rfl
theorem q634 : Cond.selects RX6 yX6_put yX6_put ∈ AW := aw_in 634 (by decide +kernel) rfl
theorem q635 : Cond.code yX6_put cX6_put 5 (some Jvm.ClassFile.FieldType.int) ∈ AW := aw_in 635 (by decide +kernel) rfl
theorem q636 : Cond.methodLink RX6 223 yX3_write ∈ AW := aw_in 636 (by decide +kernel) rfl
theorem q637 : Cond.instanceMethod yX3_write ∈ AW := aw_in 637 (by decide +kernel) rfl
theorem q638 : Cond.selects RX3 yX3_write yX3_write ∈ AW := aw_in 638 (by decide +kernel) rfl
theorem q639 : Cond.code yX3_write cX3_write 3 none ∈ AW := aw_in 639 (by decide +kernel) rfl
theorem q640 : Cond.methodLink RL 125 yX6_move ∈ AW := aw_in 640 (by decide +kernel) rfl
theorem q641 : Cond.instanceMethod yX6_move ∈ AW := aw_in 641 (by decide +kernel) rfl
theorem q642 : Cond.selects RX6 yX6_move yX6_move ∈ AW := aw_in 642 (by decide +kernel) rfl
theorem q643 : Cond.code yX6_move cX6_move 8 (some Jvm.ClassFile.FieldType.int) ∈ AW := aw_in 643 (by decide +kernel) rfl
theorem q644 : Cond.methodLink RX6 229 yX3_holds ∈ AW := aw_in 644 (by decide +kernel) rfl
theorem q645 : Cond.instanceMethod yX3_holds ∈ AW := aw_in 645 (by decide +kernel) rfl
theorem q646 : Cond.selects RX3 yX3_holds yX3_holds ∈ AW := aw_in 646 (by decide +kernel) rfl
theorem q647 : Cond.code yX3_holds cX3_holds 3 (some Jvm.ClassFile.FieldType.boolean) ∈ AW := aw_in 647 (by decide +kernel) rfl
theorem q648 : Cond.methodLink RX6 235 arraycopyName ∈ AW := aw_in 648 (by decide +kernel) rfl
theorem q649 : Cond.methodLink RL 130 yX6_serves ∈ AW := aw_in 649 (by decide +kernel) rfl
theorem q650 : Cond.instanceMethod yX6_serves ∈ AW := aw_in 650 (by decide +kernel) rfl
theorem q651 : Cond.selects RX6 yX6_serves yX6_serves ∈ AW := aw_in 651 (by decide +kernel) rfl
theorem q652 : Cond.code yX6_serves cX6_serves 4 (some Jvm.ClassFile.FieldType.int) ∈ AW := aw_in 652 (by decide +kernel) rfl
theorem q653 : Cond.methodLink RL 134 yX6_judge ∈ AW := aw_in 653 (by decide +kernel) rfl
theorem q654 : Cond.instanceMethod yX6_judge ∈ AW := aw_in 654 (by decide +kernel) rfl
theorem q655 : Cond.selects RX6 yX6_judge yX6_judge ∈ AW := aw_in 655 (by decide +kernel) rfl
theorem q656 : Cond.code yX6_judge cX6_judge 4 (some Jvm.ClassFile.FieldType.int) ∈ AW := aw_in 656 (by decide +kernel) rfl
theorem q657 : Cond.methodLink RL 138 yX6_image ∈ AW := aw_in 657 (by decide +kernel) rfl
theorem q658 : Cond.instanceMethod yX6_image ∈ AW := aw_in 658 (by decide +kernel) rfl
theorem q659 : Cond.selects RX6 yX6_image yX6_image ∈ AW := aw_in 659 (by decide +kernel) rfl
theorem q660 : Cond.code yX6_image cX6_image 1 (some Jvm.ClassFile.FieldType.int) ∈ AW := aw_in 660 (by decide +kernel) rfl
theorem q661 : Cond.methodLink RX6 241 yX0_takeFrom ∈ AW := aw_in 661 (by decide +kernel) rfl
theorem q662 : Cond.instanceMethod yX0_takeFrom ∈ AW := aw_in 662 (by decide +kernel) rfl
theorem q663 : Cond.selects RX0 yX0_takeFrom yX0_takeFrom ∈ AW := aw_in 663 (by decide +kernel) rfl
theorem q664 : Cond.code yX0_takeFrom cX0_takeFrom 2 none ∈ AW := aw_in 664 (by decide +kernel) rfl
theorem q665 : Cond.methodLink RX0 43 yX1_takeFrom ∈ AW := aw_in 665 (by decide +kernel) rfl
theorem q666 : Cond.methodLink RX0 47 yX4_takeFrom ∈ AW := aw_in 666 (by decide +kernel) rfl
theorem q667 : Cond.methodLink RX0 50 arraycopyName ∈ AW := aw_in 667 (by decide +kernel) rfl
theorem q668 : Cond.methodLink RL 142 yX6_restore ∈ AW := aw_in 668 (by decide +kernel) rfl
theorem q669 : Cond.instanceMethod yX6_restore ∈ AW := aw_in 669 (by decide +kernel) rfl
theorem q670 : Cond.selects RX6 yX6_restore yX6_restore ∈ AW := aw_in 670 (by decide +kernel) rfl
theorem q671 : Cond.code yX6_restore cX6_restore 1 (some Jvm.ClassFile.FieldType.int) ∈ AW := aw_in 671 (by decide +kernel) rfl
theorem q672 : Cond.methodLink RL 146 yX6_tell ∈ AW := aw_in 672 (by decide +kernel) rfl
theorem q673 : Cond.instanceMethod yX6_tell ∈ AW := aw_in 673 (by decide +kernel) rfl
theorem q674 : Cond.selects RX6 yX6_tell yX6_tell ∈ AW := aw_in 674 (by decide +kernel) rfl
theorem q675 : Cond.code yX6_tell cX6_tell 2 (some Jvm.ClassFile.FieldType.int) ∈ AW := aw_in 675 (by decide +kernel) rfl
theorem q676 : Cond.methodLink RL 150 yX6_check ∈ AW := aw_in 676 (by decide +kernel) rfl
theorem q677 : Cond.instanceMethod yX6_check ∈ AW := aw_in 677 (by decide +kernel) rfl
theorem q678 : Cond.selects RX6 yX6_check yX6_check ∈ AW := aw_in 678 (by decide +kernel) rfl
theorem q679 : Cond.code yX6_check cX6_check 3 (some Jvm.ClassFile.FieldType.int) ∈ AW := aw_in 679 (by decide +kernel) rfl
theorem q680 : Cond.methodLink RL 154 yX6_count ∈ AW := aw_in 680 (by decide +kernel) rfl
theorem q681 : Cond.instanceMethod yX6_count ∈ AW := aw_in 681 (by decide +kernel) rfl
theorem q682 : Cond.selects RX6 yX6_count yX6_count ∈ AW := aw_in 682 (by decide +kernel) rfl
theorem q683 : Cond.code yX6_count cX6_count 2 (some Jvm.ClassFile.FieldType.int) ∈ AW := aw_in 683 (by decide +kernel) rfl
theorem q684 : Cond.methodLink RL 158 yX6_told ∈ AW := aw_in 684 (by decide +kernel) rfl
theorem q685 : Cond.instanceMethod yX6_told ∈ AW := aw_in 685 (by decide +kernel) rfl
theorem q686 : Cond.selects RX6 yX6_told yX6_told ∈ AW := aw_in 686 (by decide +kernel) rfl
theorem q687 : Cond.code yX6_told cX6_told 2 (some Jvm.ClassFile.FieldType.int) ∈ AW := aw_in 687 (by decide +kernel) rfl
theorem q688 : Cond.classLink RL 10 RX7 ∈ AW := aw_in 688 (by decide +kernel) rfl
theorem q689 : Cond.instantiable RX7 22 ∈ AW := aw_in 689 (by decide +kernel) rfl
theorem q690 : Cond.methodLink RL 12 yX7_init ∈ AW := aw_in 690 (by decide +kernel) rfl
theorem q691 : Cond.instanceMethod yX7_init ∈ AW := aw_in 691 (by decide +kernel) rfl
theorem q692 : Cond.code yX7_init cX7_init 1 none ∈ AW := aw_in 692 (by decide +kernel) rfl
theorem q693 : Cond.methodLink RX7 1 objectInit ∈ AW := aw_in 693 (by decide +kernel) rfl
theorem q694 : Cond.fieldLink RX7 7 "LeftoverRuleModel" "s" "[I" ∈ AW := aw_in 694 (by decide +kernel) rfl
theorem q695 : Cond.fieldLink RX7 13 "LeftoverRuleModel" "kept" "[I" ∈ AW := aw_in 695 (by decide +kernel) rfl
theorem q696 : Cond.fieldLink RX7 16 "LeftoverRuleModel" "laid" "[I" ∈ AW := aw_in 696 (by decide +kernel) rfl
theorem q697 : Cond.fieldLink RX7 263 "LeftoverRuleModel" "images" "I" ∈ AW := aw_in 697 (by decide +kernel) rfl
theorem q698 : Cond.fieldLink RX7 19 "LeftoverRuleModel" "errors" "[I" ∈ AW := aw_in 698 (by decide +kernel) rfl
theorem q699 : Cond.fieldLink RX7 64 "LeftoverRuleModel" "at" "I" ∈ AW := aw_in 699 (by decide +kernel) rfl
theorem q700 : Cond.fieldLink RX7 98 "LeftoverRuleModel" "open" "I" ∈ AW := aw_in 700 (by decide +kernel) rfl
theorem q701 : Cond.fieldLink RX7 71 "LeftoverRuleModel" "steps" "I" ∈ AW := aw_in 701 (by decide +kernel) rfl
theorem q702 : Cond.fieldLink RX7 68 "LeftoverRuleModel" "use" "I" ∈ AW := aw_in 702 (by decide +kernel) rfl
theorem q703 : Cond.fieldLink RX7 22 "LeftoverRuleModel" "step" "[I" ∈ AW := aw_in 703 (by decide +kernel) rfl
theorem q704 : Cond.fieldLink RX7 25 "LeftoverRuleModel" "named" "[I" ∈ AW := aw_in 704 (by decide +kernel) rfl
theorem q705 : Cond.fieldLink RX7 28 "LeftoverRuleModel" "pile" "[I" ∈ AW := aw_in 705 (by decide +kernel) rfl
theorem q706 : Cond.fieldLink RX7 31 "LeftoverRuleModel" "claims" "[I" ∈ AW := aw_in 706 (by decide +kernel) rfl
theorem q707 : Cond.fieldLink RX7 34 "LeftoverRuleModel" "mayBe" "[Z" ∈ AW := aw_in 707 (by decide +kernel) rfl
theorem q708 : Cond.fieldLink RX7 224 "LeftoverRuleModel" "traced" "I" ∈ AW := aw_in 708 (by decide +kernel) rfl
theorem q709 : Cond.fieldLink RX7 38 "LeftoverRuleModel" "trace" "[I" ∈ AW := aw_in 709 (by decide +kernel) rfl
theorem q710 : Cond.fieldLink RX7 227 "LeftoverRuleModel" "speaks" "I" ∈ AW := aw_in 710 (by decide +kernel) rfl
theorem q711 : Cond.fieldLink RX7 249 "LeftoverRuleModel" "isParted" "Z" ∈ AW := aw_in 711 (by decide +kernel) rfl
theorem q712 : Cond.fieldLink RX7 41 "LeftoverRuleModel" "bits" "[I" ∈ AW := aw_in 712 (by decide +kernel) rfl
theorem q713 : Cond.fieldLink RX7 44 "LeftoverRuleModel" "sizes" "[I" ∈ AW := aw_in 713 (by decide +kernel) rfl
theorem q714 : Cond.fieldLink RX7 47 "LeftoverRuleModel" "number" "[I" ∈ AW := aw_in 714 (by decide +kernel) rfl
theorem q715 : Cond.fieldLink RX7 50 "LeftoverRuleModel" "aside" "[I" ∈ AW := aw_in 715 (by decide +kernel) rfl
theorem q761 : Cond.arrayClass FieldType.boolean ∈ AW := aw_in 761 (by decide +kernel) rfl
theorem q762 : Cond.methodLink RL 50 yX7_feed ∈ AW := aw_in 762 (by decide +kernel) rfl
theorem q763 : Cond.instanceMethod yX7_feed ∈ AW := aw_in 763 (by decide +kernel) rfl
theorem q764 : Cond.selects RX7 yX7_feed yX7_feed ∈ AW := aw_in 764 (by decide +kernel) rfl
theorem q765 : Cond.code yX7_feed cX7_feed 5 (some Jvm.ClassFile.FieldType.int) ∈ AW := aw_in 765 (by decide +kernel) rfl
theorem q766 : Cond.methodLink RX7 54 yX7_in ∈ AW := aw_in 766 (by decide +kernel) rfl
theorem q767 : Cond.static yX7_in ∈ AW := aw_in 767 (by decide +kernel) rfl
theorem q768 : Cond.code yX7_in cX7_in 3 (some Jvm.ClassFile.FieldType.boolean) ∈ AW := aw_in 768 (by decide +kernel) rfl
theorem q769 : Cond.methodLink RX7 58 yX7_error ∈ AW := aw_in 769 (by decide +kernel) rfl
theorem q771 : Cond.instanceMethod yX7_error ∈ AW := aw_in 771 (by decide +kernel) rfl
theorem q772 : Cond.code yX7_error cX7_error 2 (some Jvm.ClassFile.FieldType.int) ∈ AW := aw_in 772 (by decide +kernel) rfl
theorem q773 : Cond.constant RX7 53 (-1000000000) ∈ AW := aw_in 773 (by decide +kernel) rfl
theorem q774 : Cond.constantLong RX7 62 (255) ∈ AW := aw_in 774 (by decide +kernel) rfl
theorem q775 : Cond.methodLink RL 55 yX7_text ∈ AW := aw_in 775 (by decide +kernel) rfl
theorem q776 : Cond.instanceMethod yX7_text ∈ AW := aw_in 776 (by decide +kernel) rfl
theorem q777 : Cond.selects RX7 yX7_text yX7_text ∈ AW := aw_in 777 (by decide +kernel) rfl
theorem q778 : Cond.code yX7_text cX7_text 5 (some Jvm.ClassFile.FieldType.int) ∈ AW := aw_in 778 (by decide +kernel) rfl
theorem q779 : Cond.methodLink RX7 108 yX7_whole ∈ AW := aw_in 779 (by decide +kernel) rfl
theorem q781 : Cond.instanceMethod yX7_whole ∈ AW := aw_in 781 (by decide +kernel) rfl
theorem q782 : Cond.code yX7_whole cX7_whole 1 (some Jvm.ClassFile.FieldType.boolean) ∈ AW := aw_in 782 (by decide +kernel) rfl
theorem q783 : Cond.methodLink RX7 74 yX7_both ∈ AW := aw_in 783 (by decide +kernel) rfl
theorem q785 : Cond.instanceMethod yX7_both ∈ AW := aw_in 785 (by decide +kernel) rfl
theorem q786 : Cond.code yX7_both cX7_both 1 (some Jvm.ClassFile.FieldType.boolean) ∈ AW := aw_in 786 (by decide +kernel) rfl
theorem q787 : Cond.methodLink RX7 86 yX7_compared ∈ AW := aw_in 787 (by decide +kernel) rfl
theorem q789 : Cond.instanceMethod yX7_compared ∈ AW := aw_in 789 (by decide +kernel) rfl
theorem q790 : Cond.code yX7_compared cX7_compared 2 (some Jvm.ClassFile.FieldType.boolean) ∈ AW := aw_in 790 (by decide +kernel) rfl
theorem q791 : Cond.methodLink RX7 89 yX7_sum ∈ AW := aw_in 791 (by decide +kernel) rfl
theorem q793 : Cond.instanceMethod yX7_sum ∈ AW := aw_in 793 (by decide +kernel) rfl
theorem q794 : Cond.code yX7_sum cX7_sum 2 (some Jvm.ClassFile.FieldType.boolean) ∈ AW := aw_in 794 (by decide +kernel) rfl
theorem q795 : Cond.methodLink RX7 92 yX7_product ∈ AW := aw_in 795 (by decide +kernel) rfl
theorem q797 : Cond.instanceMethod yX7_product ∈ AW := aw_in 797 (by decide +kernel) rfl
theorem q798 : Cond.code yX7_product cX7_product 2 (some Jvm.ClassFile.FieldType.boolean) ∈ AW := aw_in 798 (by decide +kernel) rfl
theorem q799 : Cond.methodLink RX7 95 yX7_one ∈ AW := aw_in 799 (by decide +kernel) rfl
theorem q801 : Cond.instanceMethod yX7_one ∈ AW := aw_in 801 (by decide +kernel) rfl
theorem q802 : Cond.code yX7_one cX7_one 4 (some Jvm.ClassFile.FieldType.boolean) ∈ AW := aw_in 802 (by decide +kernel) rfl
theorem q803 : Cond.methodLink RX7 78 yX7_look ∈ AW := aw_in 803 (by decide +kernel) rfl
theorem q805 : Cond.instanceMethod yX7_look ∈ AW := aw_in 805 (by decide +kernel) rfl
theorem q806 : Cond.code yX7_look cX7_look 1 (some Jvm.ClassFile.FieldType.int) ∈ AW := aw_in 806 (by decide +kernel) rfl
theorem q807 : Cond.methodLink RX7 101 yX7_isName ∈ AW := aw_in 807 (by decide +kernel) rfl
theorem q809 : Cond.instanceMethod yX7_isName ∈ AW := aw_in 809 (by decide +kernel) rfl
theorem q810 : Cond.code yX7_isName cX7_isName 2 (some Jvm.ClassFile.FieldType.boolean) ∈ AW := aw_in 810 (by decide +kernel) rfl
theorem q811 : Cond.methodLink RX7 82 yX7_step1 ∈ AW := aw_in 811 (by decide +kernel) rfl
theorem q813 : Cond.instanceMethod yX7_step1 ∈ AW := aw_in 813 (by decide +kernel) rfl
theorem q814 : Cond.code yX7_step1 cX7_step1 3 none ∈ AW := aw_in 814 (by decide +kernel) rfl
theorem q815 : Cond.methodLink RX7 105 yX7_opens ∈ AW := aw_in 815 (by decide +kernel) rfl
theorem q817 : Cond.instanceMethod yX7_opens ∈ AW := aw_in 817 (by decide +kernel) rfl
theorem q818 : Cond.code yX7_opens cX7_opens 1 (some Jvm.ClassFile.FieldType.boolean) ∈ AW := aw_in 818 (by decide +kernel) rfl
theorem q819 : Cond.methodLink RL 59 yX7_untell ∈ AW := aw_in 819 (by decide +kernel) rfl
theorem q820 : Cond.instanceMethod yX7_untell ∈ AW := aw_in 820 (by decide +kernel) rfl
theorem q821 : Cond.selects RX7 yX7_untell yX7_untell ∈ AW := aw_in 821 (by decide +kernel) rfl
theorem q822 : Cond.code yX7_untell cX7_untell 3 (some Jvm.ClassFile.FieldType.int) ∈ AW := aw_in 822 (by decide +kernel) rfl
theorem q823 : Cond.methodLink RX7 111 yX7_hasText ∈ AW := aw_in 823 (by decide +kernel) rfl
theorem q825 : Cond.instanceMethod yX7_hasText ∈ AW := aw_in 825 (by decide +kernel) rfl
theorem q826 : Cond.code yX7_hasText cX7_hasText 2 (some Jvm.ClassFile.FieldType.boolean) ∈ AW := aw_in 826 (by decide +kernel) rfl
theorem q827 : Cond.methodLink RL 17 yX7_dish ∈ AW := aw_in 827 (by decide +kernel) rfl
theorem q828 : Cond.instanceMethod yX7_dish ∈ AW := aw_in 828 (by decide +kernel) rfl
theorem q829 : Cond.selects RX7 yX7_dish yX7_dish ∈ AW := aw_in 829 (by decide +kernel) rfl
theorem q830 : Cond.code yX7_dish cX7_dish 4 (some Jvm.ClassFile.FieldType.int) ∈ AW := aw_in 830 (by decide +kernel) rfl
theorem q831 : Cond.methodLink RX7 169 yX7_isKind ∈ AW := aw_in 831 (by decide +kernel) rfl
theorem q832 : Cond.static yX7_isKind ∈ AW := aw_in 832 (by decide +kernel) rfl
theorem q833 : Cond.code yX7_isKind cX7_isKind 1 (some Jvm.ClassFile.FieldType.boolean) ∈ AW := aw_in 833 (by decide +kernel) rfl
theorem q834 : Cond.methodLink RX7 172 yX7_laysDish ∈ AW := aw_in 834 (by decide +kernel) rfl
theorem q836 : Cond.instanceMethod yX7_laysDish ∈ AW := aw_in 836 (by decide +kernel) rfl
theorem q837 : Cond.code yX7_laysDish cX7_laysDish 5 none ∈ AW := aw_in 837 (by decide +kernel) rfl
theorem q838 : Cond.methodLink RX7 147 yX7_lays1 ∈ AW := aw_in 838 (by decide +kernel) rfl
theorem q840 : Cond.instanceMethod yX7_lays1 ∈ AW := aw_in 840 (by decide +kernel) rfl
theorem q841 : Cond.code yX7_lays1 cX7_lays1 4 none ∈ AW := aw_in 841 (by decide +kernel) rfl
theorem q842 : Cond.methodLink RL 22 yX7_dishIs ∈ AW := aw_in 842 (by decide +kernel) rfl
theorem q843 : Cond.instanceMethod yX7_dishIs ∈ AW := aw_in 843 (by decide +kernel) rfl
theorem q844 : Cond.selects RX7 yX7_dishIs yX7_dishIs ∈ AW := aw_in 844 (by decide +kernel) rfl
theorem q845 : Cond.code yX7_dishIs cX7_dishIs 3 (some Jvm.ClassFile.FieldType.int) ∈ AW := aw_in 845 (by decide +kernel) rfl
theorem q846 : Cond.methodLink RX7 175 yX7_isDish ∈ AW := aw_in 846 (by decide +kernel) rfl
theorem q848 : Cond.instanceMethod yX7_isDish ∈ AW := aw_in 848 (by decide +kernel) rfl
theorem q849 : Cond.code yX7_isDish cX7_isDish 2 (some Jvm.ClassFile.FieldType.boolean) ∈ AW := aw_in 849 (by decide +kernel) rfl
theorem q850 : Cond.methodLink RX7 138 yX7_claimOf ∈ AW := aw_in 850 (by decide +kernel) rfl
theorem q852 : Cond.instanceMethod yX7_claimOf ∈ AW := aw_in 852 (by decide +kernel) rfl
theorem q853 : Cond.code yX7_claimOf cX7_claimOf 2 (some Jvm.ClassFile.FieldType.int) ∈ AW := aw_in 853 (by decide +kernel) rfl
theorem q854 : Cond.methodLink RX7 132 yX7_claimsOf ∈ AW := aw_in 854 (by decide +kernel) rfl
theorem q856 : Cond.instanceMethod yX7_claimsOf ∈ AW := aw_in 856 (by decide +kernel) rfl
theorem q857 : Cond.code yX7_claimsOf cX7_claimsOf 4 (some Jvm.ClassFile.FieldType.int) ∈ AW := aw_in 857 (by decide +kernel) rfl
theorem q858 : Cond.methodLink RX7 118 yX7_its ∈ AW := aw_in 858 (by decide +kernel) rfl
theorem q860 : Cond.instanceMethod yX7_its ∈ AW := aw_in 860 (by decide +kernel) rfl
theorem q861 : Cond.code yX7_its cX7_its 3 (some Jvm.ClassFile.FieldType.int) ∈ AW := aw_in 861 (by decide +kernel) rfl
theorem q862 : Cond.methodLink RX7 135 yX7_claimTold ∈ AW := aw_in 862 (by decide +kernel) rfl
theorem q864 : Cond.instanceMethod yX7_claimTold ∈ AW := aw_in 864 (by decide +kernel) rfl
theorem q865 : Cond.code yX7_claimTold cX7_claimTold 4 (some Jvm.ClassFile.FieldType.int) ∈ AW := aw_in 865 (by decide +kernel) rfl
theorem q866 : Cond.methodLink RX7 122 yX7_worked ∈ AW := aw_in 866 (by decide +kernel) rfl
theorem q868 : Cond.instanceMethod yX7_worked ∈ AW := aw_in 868 (by decide +kernel) rfl
theorem q869 : Cond.code yX7_worked cX7_worked 7 (some Jvm.ClassFile.FieldType.int) ∈ AW := aw_in 869 (by decide +kernel) rfl
theorem q870 : Cond.methodLink RX7 114 yX7_joined ∈ AW := aw_in 870 (by decide +kernel) rfl
theorem q871 : Cond.static yX7_joined ∈ AW := aw_in 871 (by decide +kernel) rfl
theorem q872 : Cond.code yX7_joined cX7_joined 3 (some Jvm.ClassFile.FieldType.int) ∈ AW := aw_in 872 (by decide +kernel) rfl
theorem q873 : Cond.methodLink RX7 125 yX7_held ∈ AW := aw_in 873 (by decide +kernel) rfl
theorem q874 : Cond.static yX7_held ∈ AW := aw_in 874 (by decide +kernel) rfl
theorem q875 : Cond.code yX7_held cX7_held 3 (some Jvm.ClassFile.FieldType.int) ∈ AW := aw_in 875 (by decide +kernel) rfl
theorem q876 : Cond.methodLink RX7 161 yX7_spoilsOf ∈ AW := aw_in 876 (by decide +kernel) rfl
theorem q878 : Cond.instanceMethod yX7_spoilsOf ∈ AW := aw_in 878 (by decide +kernel) rfl
theorem q879 : Cond.code yX7_spoilsOf cX7_spoilsOf 4 (some Jvm.ClassFile.FieldType.int) ∈ AW := aw_in 879 (by decide +kernel) rfl
theorem q880 : Cond.methodLink RX7 151 yX7_findRuler ∈ AW := aw_in 880 (by decide +kernel) rfl
theorem q882 : Cond.instanceMethod yX7_findRuler ∈ AW := aw_in 882 (by decide +kernel) rfl
theorem q883 : Cond.code yX7_findRuler cX7_findRuler 3 (some Jvm.ClassFile.FieldType.int) ∈ AW := aw_in 883 (by decide +kernel) rfl
theorem q884 : Cond.methodLink RX7 154 yX7_isInKeeping ∈ AW := aw_in 884 (by decide +kernel) rfl
theorem q886 : Cond.instanceMethod yX7_isInKeeping ∈ AW := aw_in 886 (by decide +kernel) rfl
theorem q887 : Cond.code yX7_isInKeeping cX7_isInKeeping 3 (some Jvm.ClassFile.FieldType.boolean) ∈ AW := aw_in 887 (by decide +kernel) rfl
theorem q888 : Cond.methodLink RX7 141 yX7_keepingTold ∈ AW := aw_in 888 (by decide +kernel) rfl
theorem q890 : Cond.instanceMethod yX7_keepingTold ∈ AW := aw_in 890 (by decide +kernel) rfl
theorem q891 : Cond.code yX7_keepingTold cX7_keepingTold 6 (some Jvm.ClassFile.FieldType.int) ∈ AW := aw_in 891 (by decide +kernel) rfl
theorem q892 : Cond.constantLong RX7 128 (-2) ∈ AW := aw_in 892 (by decide +kernel) rfl
theorem q893 : Cond.constantLong RX7 130 (2) ∈ AW := aw_in 893 (by decide +kernel) rfl
theorem q894 : Cond.methodLink RL 26 yX7_become ∈ AW := aw_in 894 (by decide +kernel) rfl
theorem q895 : Cond.instanceMethod yX7_become ∈ AW := aw_in 895 (by decide +kernel) rfl
theorem q896 : Cond.selects RX7 yX7_become yX7_become ∈ AW := aw_in 896 (by decide +kernel) rfl
theorem q897 : Cond.code yX7_become cX7_become 3 (some Jvm.ClassFile.FieldType.int) ∈ AW := aw_in 897 (by decide +kernel) rfl
theorem q898 : Cond.methodLink RX7 178 yX7_change1 ∈ AW := aw_in 898 (by decide +kernel) rfl
theorem q900 : Cond.instanceMethod yX7_change1 ∈ AW := aw_in 900 (by decide +kernel) rfl
theorem q901 : Cond.code yX7_change1 cX7_change1 4 (some Jvm.ClassFile.FieldType.int) ∈ AW := aw_in 901 (by decide +kernel) rfl
theorem q902 : Cond.methodLink RL 30 yX7_as ∈ AW := aw_in 902 (by decide +kernel) rfl
theorem q903 : Cond.instanceMethod yX7_as ∈ AW := aw_in 903 (by decide +kernel) rfl
theorem q904 : Cond.selects RX7 yX7_as yX7_as ∈ AW := aw_in 904 (by decide +kernel) rfl
theorem q905 : Cond.code yX7_as cX7_as 4 (some Jvm.ClassFile.FieldType.int) ∈ AW := aw_in 905 (by decide +kernel) rfl
theorem q906 : Cond.methodLink RX7 181 yX7_above ∈ AW := aw_in 906 (by decide +kernel) rfl
theorem q907 : Cond.static yX7_above ∈ AW := aw_in 907 (by decide +kernel) rfl
theorem q908 : Cond.code yX7_above cX7_above 1 (some Jvm.ClassFile.FieldType.int) ∈ AW := aw_in 908 (by decide +kernel) rfl
theorem q909 : Cond.methodLink RL 34 yX7_serve ∈ AW := aw_in 909 (by decide +kernel) rfl
theorem q910 : Cond.instanceMethod yX7_serve ∈ AW := aw_in 910 (by decide +kernel) rfl
theorem q911 : Cond.selects RX7 yX7_serve yX7_serve ∈ AW := aw_in 911 (by decide +kernel) rfl
theorem q912 : Cond.code yX7_serve cX7_serve 3 (some Jvm.ClassFile.FieldType.int) ∈ AW := aw_in 912 (by decide +kernel) rfl
theorem q913 : Cond.methodLink RL 38 yX7_season ∈ AW := aw_in 913 (by decide +kernel) rfl
theorem q914 : Cond.instanceMethod yX7_season ∈ AW := aw_in 914 (by decide +kernel) rfl
theorem q915 : Cond.selects RX7 yX7_season yX7_season ∈ AW := aw_in 915 (by decide +kernel) rfl
theorem q916 : Cond.code yX7_season cX7_season 3 (some Jvm.ClassFile.FieldType.int) ∈ AW := aw_in 916 (by decide +kernel) rfl
theorem q917 : Cond.methodLink RL 43 yX7_rules ∈ AW := aw_in 917 (by decide +kernel) rfl
theorem q918 : Cond.instanceMethod yX7_rules ∈ AW := aw_in 918 (by decide +kernel) rfl
theorem q919 : Cond.selects RX7 yX7_rules yX7_rules ∈ AW := aw_in 919 (by decide +kernel) rfl
theorem q920 : Cond.code yX7_rules cX7_rules 2 (some Jvm.ClassFile.FieldType.int) ∈ AW := aw_in 920 (by decide +kernel) rfl
theorem q921 : Cond.methodLink RL 64 yX7_law ∈ AW := aw_in 921 (by decide +kernel) rfl
theorem q922 : Cond.instanceMethod yX7_law ∈ AW := aw_in 922 (by decide +kernel) rfl
theorem q923 : Cond.selects RX7 yX7_law yX7_law ∈ AW := aw_in 923 (by decide +kernel) rfl
theorem q924 : Cond.code yX7_law cX7_law 5 (some Jvm.ClassFile.FieldType.int) ∈ AW := aw_in 924 (by decide +kernel) rfl
theorem q925 : Cond.methodLink RL 68 yX7_meal ∈ AW := aw_in 925 (by decide +kernel) rfl
theorem q926 : Cond.instanceMethod yX7_meal ∈ AW := aw_in 926 (by decide +kernel) rfl
theorem q927 : Cond.selects RX7 yX7_meal yX7_meal ∈ AW := aw_in 927 (by decide +kernel) rfl
theorem q928 : Cond.code yX7_meal cX7_meal 2 (some Jvm.ClassFile.FieldType.int) ∈ AW := aw_in 928 (by decide +kernel) rfl
theorem q929 : Cond.methodLink RX7 184 yX7_isHunger ∈ AW := aw_in 929 (by decide +kernel) rfl
theorem q930 : Cond.static yX7_isHunger ∈ AW := aw_in 930 (by decide +kernel) rfl
theorem q931 : Cond.code yX7_isHunger cX7_isHunger 1 (some Jvm.ClassFile.FieldType.boolean) ∈ AW := aw_in 931 (by decide +kernel) rfl
theorem q932 : Cond.methodLink RX7 165 yX7_aMeal ∈ AW := aw_in 932 (by decide +kernel) rfl
theorem q934 : Cond.instanceMethod yX7_aMeal ∈ AW := aw_in 934 (by decide +kernel) rfl
theorem q935 : Cond.code yX7_aMeal cX7_aMeal 5 (some Jvm.ClassFile.FieldType.int) ∈ AW := aw_in 935 (by decide +kernel) rfl
theorem q936 : Cond.methodLink RX7 158 yX7_eaten ∈ AW := aw_in 936 (by decide +kernel) rfl
theorem q938 : Cond.instanceMethod yX7_eaten ∈ AW := aw_in 938 (by decide +kernel) rfl
theorem q939 : Cond.code yX7_eaten cX7_eaten 5 (some Jvm.ClassFile.FieldType.int) ∈ AW := aw_in 939 (by decide +kernel) rfl
theorem q940 : Cond.methodLink RX7 144 yX7_leastClaim ∈ AW := aw_in 940 (by decide +kernel) rfl
theorem q942 : Cond.instanceMethod yX7_leastClaim ∈ AW := aw_in 942 (by decide +kernel) rfl
theorem q943 : Cond.code yX7_leastClaim cX7_leastClaim 3 (some Jvm.ClassFile.FieldType.int) ∈ AW := aw_in 943 (by decide +kernel) rfl
theorem q944 : Cond.constant RX7 164 (99999) ∈ AW := aw_in 944 (by decide +kernel) rfl
theorem q945 : Cond.methodLink RL 72 yX7_meals ∈ AW := aw_in 945 (by decide +kernel) rfl
theorem q946 : Cond.instanceMethod yX7_meals ∈ AW := aw_in 946 (by decide +kernel) rfl
theorem q947 : Cond.selects RX7 yX7_meals yX7_meals ∈ AW := aw_in 947 (by decide +kernel) rfl
theorem q948 : Cond.code yX7_meals cX7_meals 3 (some Jvm.ClassFile.FieldType.int) ∈ AW := aw_in 948 (by decide +kernel) rfl
theorem q949 : Cond.methodLink RX7 187 yX7_goes ∈ AW := aw_in 949 (by decide +kernel) rfl
theorem q951 : Cond.instanceMethod yX7_goes ∈ AW := aw_in 951 (by decide +kernel) rfl
theorem q952 : Cond.code yX7_goes cX7_goes 5 none ∈ AW := aw_in 952 (by decide +kernel) rfl
theorem q953 : Cond.methodLink RX7 190 yX7_allLeft ∈ AW := aw_in 953 (by decide +kernel) rfl
theorem q955 : Cond.instanceMethod yX7_allLeft ∈ AW := aw_in 955 (by decide +kernel) rfl
theorem q956 : Cond.code yX7_allLeft cX7_allLeft 3 (some Jvm.ClassFile.FieldType.int) ∈ AW := aw_in 956 (by decide +kernel) rfl
theorem q957 : Cond.methodLink RL 76 yX7_loose ∈ AW := aw_in 957 (by decide +kernel) rfl
theorem q958 : Cond.instanceMethod yX7_loose ∈ AW := aw_in 958 (by decide +kernel) rfl
theorem q959 : Cond.selects RX7 yX7_loose yX7_loose ∈ AW := aw_in 959 (by decide +kernel) rfl
theorem q960 : Cond.code yX7_loose cX7_loose 4 (some Jvm.ClassFile.FieldType.int) ∈ AW := aw_in 960 (by decide +kernel) rfl
theorem q961 : Cond.methodLink RX7 196 yX7_guests ∈ AW := aw_in 961 (by decide +kernel) rfl
theorem q963 : Cond.instanceMethod yX7_guests ∈ AW := aw_in 963 (by decide +kernel) rfl
theorem q964 : Cond.code yX7_guests cX7_guests 2 none ∈ AW := aw_in 964 (by decide +kernel) rfl
theorem q965 : Cond.methodLink RX7 193 yX7_draw ∈ AW := aw_in 965 (by decide +kernel) rfl
theorem q967 : Cond.instanceMethod yX7_draw ∈ AW := aw_in 967 (by decide +kernel) rfl
theorem q968 : Cond.code yX7_draw cX7_draw 1 (some Jvm.ClassFile.FieldType.int) ∈ AW := aw_in 968 (by decide +kernel) rfl
theorem q969 : Cond.constant RX7 168 (1103515245) ∈ AW := aw_in 969 (by decide +kernel) rfl
theorem q970 : Cond.methodLink RL 80 yX7_seed ∈ AW := aw_in 970 (by decide +kernel) rfl
theorem q971 : Cond.instanceMethod yX7_seed ∈ AW := aw_in 971 (by decide +kernel) rfl
theorem q972 : Cond.selects RX7 yX7_seed yX7_seed ∈ AW := aw_in 972 (by decide +kernel) rfl
theorem q973 : Cond.code yX7_seed cX7_seed 2 (some Jvm.ClassFile.FieldType.int) ∈ AW := aw_in 973 (by decide +kernel) rfl
theorem q974 : Cond.methodLink RL 84 yX7_then ∈ AW := aw_in 974 (by decide +kernel) rfl
theorem q975 : Cond.instanceMethod yX7_then ∈ AW := aw_in 975 (by decide +kernel) rfl
theorem q976 : Cond.selects RX7 yX7_then yX7_then ∈ AW := aw_in 976 (by decide +kernel) rfl
theorem q977 : Cond.code yX7_then cX7_then 5 (some Jvm.ClassFile.FieldType.int) ∈ AW := aw_in 977 (by decide +kernel) rfl
theorem q978 : Cond.methodLink RX7 199 yX7_layDown ∈ AW := aw_in 978 (by decide +kernel) rfl
theorem q980 : Cond.instanceMethod yX7_layDown ∈ AW := aw_in 980 (by decide +kernel) rfl
theorem q981 : Cond.code yX7_layDown cX7_layDown 2 none ∈ AW := aw_in 981 (by decide +kernel) rfl
theorem q982 : Cond.methodLink RX7 202 yX7_layBack ∈ AW := aw_in 982 (by decide +kernel) rfl
theorem q984 : Cond.instanceMethod yX7_layBack ∈ AW := aw_in 984 (by decide +kernel) rfl
theorem q985 : Cond.code yX7_layBack cX7_layBack 2 none ∈ AW := aw_in 985 (by decide +kernel) rfl
theorem q986 : Cond.methodLink RL 88 yX7_gone ∈ AW := aw_in 986 (by decide +kernel) rfl
theorem q987 : Cond.instanceMethod yX7_gone ∈ AW := aw_in 987 (by decide +kernel) rfl
theorem q988 : Cond.selects RX7 yX7_gone yX7_gone ∈ AW := aw_in 988 (by decide +kernel) rfl
theorem q989 : Cond.code yX7_gone cX7_gone 5 (some Jvm.ClassFile.FieldType.int) ∈ AW := aw_in 989 (by decide +kernel) rfl
theorem q990 : Cond.methodLink RL 92 yX7_needs ∈ AW := aw_in 990 (by decide +kernel) rfl
theorem q991 : Cond.instanceMethod yX7_needs ∈ AW := aw_in 991 (by decide +kernel) rfl
theorem q992 : Cond.selects RX7 yX7_needs yX7_needs ∈ AW := aw_in 992 (by decide +kernel) rfl
theorem q993 : Cond.code yX7_needs cX7_needs 4 (some Jvm.ClassFile.FieldType.int) ∈ AW := aw_in 993 (by decide +kernel) rfl
theorem q994 : Cond.methodLink RL 96 yX7_clears ∈ AW := aw_in 994 (by decide +kernel) rfl
theorem q995 : Cond.instanceMethod yX7_clears ∈ AW := aw_in 995 (by decide +kernel) rfl
theorem q996 : Cond.selects RX7 yX7_clears yX7_clears ∈ AW := aw_in 996 (by decide +kernel) rfl
theorem q997 : Cond.code yX7_clears cX7_clears 8 (some Jvm.ClassFile.FieldType.int) ∈ AW := aw_in 997 (by decide +kernel) rfl
theorem q998 : Cond.methodLink RX7 205 yX7_manyIn ∈ AW := aw_in 998 (by decide +kernel) rfl
theorem q999 : Cond.static yX7_manyIn ∈ AW := aw_in 999 (by decide +kernel) rfl
theorem q1000 : Cond.code yX7_manyIn cX7_manyIn 3 (some Jvm.ClassFile.FieldType.int) ∈ AW := aw_in 1000 (by decide +kernel) rfl
theorem q1001 : Cond.methodLink RX7 208 yX7_doesRule ∈ AW := aw_in 1001 (by decide +kernel) rfl
theorem q1003 : Cond.instanceMethod yX7_doesRule ∈ AW := aw_in 1003 (by decide +kernel) rfl
theorem q1004 : Cond.code yX7_doesRule cX7_doesRule 6 (some Jvm.ClassFile.FieldType.boolean) ∈ AW := aw_in 1004 (by decide +kernel) rfl
theorem q1005 : Cond.methodLink RL 100 yX7_brings ∈ AW := aw_in 1005 (by decide +kernel) rfl
theorem q1006 : Cond.instanceMethod yX7_brings ∈ AW := aw_in 1006 (by decide +kernel) rfl
theorem q1007 : Cond.selects RX7 yX7_brings yX7_brings ∈ AW := aw_in 1007 (by decide +kernel) rfl
theorem q1008 : Cond.code yX7_brings cX7_brings 7 (some Jvm.ClassFile.FieldType.int) ∈ AW := aw_in 1008 (by decide +kernel) rfl
theorem q1009 : Cond.methodLink RX7 212 yX7_keepingSizes ∈ AW := aw_in 1009 (by decide +kernel) rfl
theorem q1011 : Cond.instanceMethod yX7_keepingSizes ∈ AW := aw_in 1011 (by decide +kernel) rfl
theorem q1012 : Cond.code yX7_keepingSizes cX7_keepingSizes 4 (some Jvm.ClassFile.FieldType.int) ∈ AW := aw_in 1012 (by decide +kernel) rfl
theorem q1013 : Cond.methodLink RL 104 yX7_odds ∈ AW := aw_in 1013 (by decide +kernel) rfl
theorem q1014 : Cond.instanceMethod yX7_odds ∈ AW := aw_in 1014 (by decide +kernel) rfl
theorem q1015 : Cond.selects RX7 yX7_odds yX7_odds ∈ AW := aw_in 1015 (by decide +kernel) rfl
theorem q1016 : Cond.code yX7_odds cX7_odds 5 (some Jvm.ClassFile.FieldType.int) ∈ AW := aw_in 1016 (by decide +kernel) rfl
theorem q1017 : Cond.methodLink RX7 215 yX7_divisor ∈ AW := aw_in 1017 (by decide +kernel) rfl
theorem q1018 : Cond.static yX7_divisor ∈ AW := aw_in 1018 (by decide +kernel) rfl
theorem q1019 : Cond.code yX7_divisor cX7_divisor 5 (some Jvm.ClassFile.FieldType.int) ∈ AW := aw_in 1019 (by decide +kernel) rfl
theorem q1020 : Cond.methodLink RL 108 yX7_fits ∈ AW := aw_in 1020 (by decide +kernel) rfl
theorem q1021 : Cond.instanceMethod yX7_fits ∈ AW := aw_in 1021 (by decide +kernel) rfl
theorem q1022 : Cond.selects RX7 yX7_fits yX7_fits ∈ AW := aw_in 1022 (by decide +kernel) rfl
theorem q1023 : Cond.code yX7_fits cX7_fits 8 (some Jvm.ClassFile.FieldType.int) ∈ AW := aw_in 1023 (by decide +kernel) rfl
theorem q1024 : Cond.methodLink RX7 218 yX7_lacks ∈ AW := aw_in 1024 (by decide +kernel) rfl
theorem q1026 : Cond.instanceMethod yX7_lacks ∈ AW := aw_in 1026 (by decide +kernel) rfl
theorem q1027 : Cond.code yX7_lacks cX7_lacks 2 (some Jvm.ClassFile.FieldType.int) ∈ AW := aw_in 1027 (by decide +kernel) rfl
theorem q1028 : Cond.methodLink RX7 256 yX7_isSheet ∈ AW := aw_in 1028 (by decide +kernel) rfl
theorem q1029 : Cond.static yX7_isSheet ∈ AW := aw_in 1029 (by decide +kernel) rfl
theorem q1030 : Cond.code yX7_isSheet cX7_isSheet 1 (some Jvm.ClassFile.FieldType.boolean) ∈ AW := aw_in 1030 (by decide +kernel) rfl
theorem q1031 : Cond.methodLink RX7 221 yX7_isLeftSo ∈ AW := aw_in 1031 (by decide +kernel) rfl
theorem q1033 : Cond.instanceMethod yX7_isLeftSo ∈ AW := aw_in 1033 (by decide +kernel) rfl
theorem q1034 : Cond.code yX7_isLeftSo cX7_isLeftSo 6 (some Jvm.ClassFile.FieldType.boolean) ∈ AW := aw_in 1034 (by decide +kernel) rfl
theorem q1035 : Cond.methodLink RL 112 yX7_voice ∈ AW := aw_in 1035 (by decide +kernel) rfl
theorem q1036 : Cond.instanceMethod yX7_voice ∈ AW := aw_in 1036 (by decide +kernel) rfl
theorem q1037 : Cond.selects RX7 yX7_voice yX7_voice ∈ AW := aw_in 1037 (by decide +kernel) rfl
theorem q1038 : Cond.code yX7_voice cX7_voice 6 (some Jvm.ClassFile.FieldType.int) ∈ AW := aw_in 1038 (by decide +kernel) rfl
theorem q1039 : Cond.methodLink RX7 237 yX7_kindNow ∈ AW := aw_in 1039 (by decide +kernel) rfl
theorem q1041 : Cond.instanceMethod yX7_kindNow ∈ AW := aw_in 1041 (by decide +kernel) rfl
theorem q1042 : Cond.code yX7_kindNow cX7_kindNow 1 (some Jvm.ClassFile.FieldType.int) ∈ AW := aw_in 1042 (by decide +kernel) rfl
theorem q1043 : Cond.methodLink RX7 234 yX7_sighsAs ∈ AW := aw_in 1043 (by decide +kernel) rfl
theorem q1045 : Cond.instanceMethod yX7_sighsAs ∈ AW := aw_in 1045 (by decide +kernel) rfl
theorem q1046 : Cond.code yX7_sighsAs cX7_sighsAs 3 (some Jvm.ClassFile.FieldType.int) ∈ AW := aw_in 1046 (by decide +kernel) rfl
theorem q1047 : Cond.methodLink RX7 230 yX7_starts ∈ AW := aw_in 1047 (by decide +kernel) rfl
theorem q1049 : Cond.instanceMethod yX7_starts ∈ AW := aw_in 1049 (by decide +kernel) rfl
theorem q1050 : Cond.code yX7_starts cX7_starts 2 none ∈ AW := aw_in 1050 (by decide +kernel) rfl
theorem q1051 : Cond.methodLink RX7 240 yX7_asksAs ∈ AW := aw_in 1051 (by decide +kernel) rfl
theorem q1053 : Cond.instanceMethod yX7_asksAs ∈ AW := aw_in 1053 (by decide +kernel) rfl
theorem q1054 : Cond.code yX7_asksAs cX7_asksAs 3 (some Jvm.ClassFile.FieldType.int) ∈ AW := aw_in 1054 (by decide +kernel) rfl
theorem q1055 : Cond.methodLink RX7 243 yX7_mNow ∈ AW := aw_in 1055 (by decide +kernel) rfl
theorem q1057 : Cond.instanceMethod yX7_mNow ∈ AW := aw_in 1057 (by decide +kernel) rfl
theorem q1058 : Cond.code yX7_mNow cX7_mNow 1 (some Jvm.ClassFile.FieldType.int) ∈ AW := aw_in 1058 (by decide +kernel) rfl
theorem q1059 : Cond.methodLink RX7 246 yX7_scrapesAs ∈ AW := aw_in 1059 (by decide +kernel) rfl
theorem q1061 : Cond.instanceMethod yX7_scrapesAs ∈ AW := aw_in 1061 (by decide +kernel) rfl
theorem q1062 : Cond.code yX7_scrapesAs cX7_scrapesAs 3 (some Jvm.ClassFile.FieldType.int) ∈ AW := aw_in 1062 (by decide +kernel) rfl
theorem q1063 : Cond.methodLink RX7 253 yX7_partsAs ∈ AW := aw_in 1063 (by decide +kernel) rfl
theorem q1065 : Cond.instanceMethod yX7_partsAs ∈ AW := aw_in 1065 (by decide +kernel) rfl
theorem q1066 : Cond.code yX7_partsAs cX7_partsAs 5 (some Jvm.ClassFile.FieldType.int) ∈ AW := aw_in 1066 (by decide +kernel) rfl
theorem q1067 : Cond.methodLink RL 116 yX7_body ∈ AW := aw_in 1067 (by decide +kernel) rfl
theorem q1068 : Cond.instanceMethod yX7_body ∈ AW := aw_in 1068 (by decide +kernel) rfl
theorem q1069 : Cond.selects RX7 yX7_body yX7_body ∈ AW := aw_in 1069 (by decide +kernel) rfl
theorem q1070 : Cond.code yX7_body cX7_body 2 (some Jvm.ClassFile.FieldType.int) ∈ AW := aw_in 1070 (by decide +kernel) rfl
theorem q1071 : Cond.methodLink RL 120 yX7_sheet ∈ AW := aw_in 1071 (by decide +kernel) rfl
theorem q1072 : Cond.instanceMethod yX7_sheet ∈ AW := aw_in 1072 (by decide +kernel) rfl
theorem q1073 : Cond.selects RX7 yX7_sheet yX7_sheet ∈ AW := aw_in 1073 (by decide +kernel) rfl
theorem q1074 : Cond.code yX7_sheet cX7_sheet 5 (some Jvm.ClassFile.FieldType.int) ∈ AW := aw_in 1074 (by decide +kernel) rfl
theorem q1075 : Cond.methodLink RL 124 yX7_put ∈ AW := aw_in 1075 (by decide +kernel) rfl
theorem q1076 : Cond.instanceMethod yX7_put ∈ AW := aw_in 1076 (by decide +kernel) rfl
theorem q1077 : Cond.selects RX7 yX7_put yX7_put ∈ AW := aw_in 1077 (by decide +kernel) rfl
theorem q1078 : Cond.code yX7_put cX7_put 5 (some Jvm.ClassFile.FieldType.int) ∈ AW := aw_in 1078 (by decide +kernel) rfl
theorem q1079 : Cond.methodLink RL 129 yX7_move ∈ AW := aw_in 1079 (by decide +kernel) rfl
theorem q1080 : Cond.instanceMethod yX7_move ∈ AW := aw_in 1080 (by decide +kernel) rfl
theorem q1081 : Cond.selects RX7 yX7_move yX7_move ∈ AW := aw_in 1081 (by decide +kernel) rfl
theorem q1082 : Cond.code yX7_move cX7_move 7 (some Jvm.ClassFile.FieldType.int) ∈ AW := aw_in 1082 (by decide +kernel) rfl
theorem q1083 : Cond.methodLink RL 133 yX7_serves ∈ AW := aw_in 1083 (by decide +kernel) rfl
theorem q1084 : Cond.instanceMethod yX7_serves ∈ AW := aw_in 1084 (by decide +kernel) rfl
theorem q1085 : Cond.selects RX7 yX7_serves yX7_serves ∈ AW := aw_in 1085 (by decide +kernel) rfl
theorem q1086 : Cond.code yX7_serves cX7_serves 4 (some Jvm.ClassFile.FieldType.int) ∈ AW := aw_in 1086 (by decide +kernel) rfl
theorem q1087 : Cond.methodLink RL 137 yX7_judge ∈ AW := aw_in 1087 (by decide +kernel) rfl
theorem q1088 : Cond.instanceMethod yX7_judge ∈ AW := aw_in 1088 (by decide +kernel) rfl
theorem q1089 : Cond.selects RX7 yX7_judge yX7_judge ∈ AW := aw_in 1089 (by decide +kernel) rfl
theorem q1090 : Cond.code yX7_judge cX7_judge 4 (some Jvm.ClassFile.FieldType.int) ∈ AW := aw_in 1090 (by decide +kernel) rfl
theorem q1091 : Cond.methodLink RL 141 yX7_image ∈ AW := aw_in 1091 (by decide +kernel) rfl
theorem q1092 : Cond.instanceMethod yX7_image ∈ AW := aw_in 1092 (by decide +kernel) rfl
theorem q1093 : Cond.selects RX7 yX7_image yX7_image ∈ AW := aw_in 1093 (by decide +kernel) rfl
theorem q1094 : Cond.code yX7_image cX7_image 1 (some Jvm.ClassFile.FieldType.int) ∈ AW := aw_in 1094 (by decide +kernel) rfl
theorem q1095 : Cond.methodLink RX7 259 yX7_copyAll ∈ AW := aw_in 1095 (by decide +kernel) rfl
theorem q1096 : Cond.static yX7_copyAll ∈ AW := aw_in 1096 (by decide +kernel) rfl
theorem q1097 : Cond.code yX7_copyAll cX7_copyAll 3 none ∈ AW := aw_in 1097 (by decide +kernel) rfl
theorem q1098 : Cond.methodLink RL 145 yX7_restore ∈ AW := aw_in 1098 (by decide +kernel) rfl
theorem q1099 : Cond.instanceMethod yX7_restore ∈ AW := aw_in 1099 (by decide +kernel) rfl
theorem q1100 : Cond.selects RX7 yX7_restore yX7_restore ∈ AW := aw_in 1100 (by decide +kernel) rfl
theorem q1101 : Cond.code yX7_restore cX7_restore 1 (some Jvm.ClassFile.FieldType.int) ∈ AW := aw_in 1101 (by decide +kernel) rfl
theorem q1102 : Cond.methodLink RL 149 yX7_tell ∈ AW := aw_in 1102 (by decide +kernel) rfl
theorem q1103 : Cond.instanceMethod yX7_tell ∈ AW := aw_in 1103 (by decide +kernel) rfl
theorem q1104 : Cond.selects RX7 yX7_tell yX7_tell ∈ AW := aw_in 1104 (by decide +kernel) rfl
theorem q1105 : Cond.code yX7_tell cX7_tell 2 (some Jvm.ClassFile.FieldType.int) ∈ AW := aw_in 1105 (by decide +kernel) rfl
theorem q1106 : Cond.methodLink RL 153 yX7_check ∈ AW := aw_in 1106 (by decide +kernel) rfl
theorem q1107 : Cond.instanceMethod yX7_check ∈ AW := aw_in 1107 (by decide +kernel) rfl
theorem q1108 : Cond.selects RX7 yX7_check yX7_check ∈ AW := aw_in 1108 (by decide +kernel) rfl
theorem q1109 : Cond.code yX7_check cX7_check 3 (some Jvm.ClassFile.FieldType.int) ∈ AW := aw_in 1109 (by decide +kernel) rfl
theorem q1110 : Cond.methodLink RL 157 yX7_count ∈ AW := aw_in 1110 (by decide +kernel) rfl
theorem q1111 : Cond.instanceMethod yX7_count ∈ AW := aw_in 1111 (by decide +kernel) rfl
theorem q1112 : Cond.selects RX7 yX7_count yX7_count ∈ AW := aw_in 1112 (by decide +kernel) rfl
theorem q1113 : Cond.code yX7_count cX7_count 2 (some Jvm.ClassFile.FieldType.int) ∈ AW := aw_in 1113 (by decide +kernel) rfl
theorem q1114 : Cond.methodLink RL 161 yX7_told ∈ AW := aw_in 1114 (by decide +kernel) rfl
theorem q1115 : Cond.instanceMethod yX7_told ∈ AW := aw_in 1115 (by decide +kernel) rfl
theorem q1116 : Cond.selects RX7 yX7_told yX7_told ∈ AW := aw_in 1116 (by decide +kernel) rfl
theorem q1117 : Cond.code yX7_told cX7_told 2 (some Jvm.ClassFile.FieldType.int) ∈ AW := aw_in 1117 (by decide +kernel) rfl
theorem q1118 : Cond.constantLong RL 44 (4294967295) ∈ AW := aw_in 1118 (by decide +kernel) rfl
theorem q1119 : Cond.arrayClass FieldType.char ∈ AW := aw_in 1119 (by decide +kernel) rfl
theorem inX0 : ∀ w ∈ wsX00, w ∈ AW := fun w h => by
  have h2 : wsX00.all (fun w => decide (w ∈ AW)) = true := by decide +kernel
  exact of_decide_eq_true (List.all_eq_true.mp h2 w h)
theorem inX1 : ∀ w ∈ wsX10, w ∈ AW := fun w h => by
  have h2 : wsX10.all (fun w => decide (w ∈ AW)) = true := by decide +kernel
  exact of_decide_eq_true (List.all_eq_true.mp h2 w h)
theorem inX2 : ∀ w ∈ wsX20, w ∈ AW := fun w h => by
  have h2 : wsX20.all (fun w => decide (w ∈ AW)) = true := by decide +kernel
  exact of_decide_eq_true (List.all_eq_true.mp h2 w h)
theorem inX3 : ∀ w ∈ wsX30, w ∈ AW := fun w h => by
  have h2 : wsX30.all (fun w => decide (w ∈ AW)) = true := by decide +kernel
  exact of_decide_eq_true (List.all_eq_true.mp h2 w h)
theorem inX4 : ∀ w ∈ wsX40, w ∈ AW := fun w h => by
  have h2 : wsX40.all (fun w => decide (w ∈ AW)) = true := by decide +kernel
  exact of_decide_eq_true (List.all_eq_true.mp h2 w h)
theorem inX5 : ∀ w ∈ wsX50, w ∈ AW := fun w h => by
  have h2 : wsX50.all (fun w => decide (w ∈ AW)) = true := by decide +kernel
  exact of_decide_eq_true (List.all_eq_true.mp h2 w h)
theorem inX6 : ∀ w ∈ wsX60, w ∈ AW := fun w h => by
  have h2 : wsX60.all (fun w => decide (w ∈ AW)) = true := by decide +kernel
  exact of_decide_eq_true (List.all_eq_true.mp h2 w h)
theorem inX7 : ∀ w ∈ wsX70, w ∈ AW := fun w h => by
  have h2 : wsX70.all (fun w => decide (w ∈ AW)) = true := by decide +kernel
  exact of_decide_eq_true (List.all_eq_true.mp h2 w h)
end
section
/-! THE WORLD: objects by number (0 the class, 1 2 houses, 3 4 5 tables, 6..10 laws, 11 reader, 12 voices, 13..16 sheets; 17 the reference), arrays by their object and slot; a store says what int fields and arrays hold. -/
abbrev St : Type := (Nat → Nat → Int32) × (Nat → Nat → Nat → Int32)
def stI (S : St) (o k : Nat) (v : Int32) : St := (fun o' k' => if o' = o ∧ k' = k then v else S.1 o' k', S.2)
def stR (S : St) (o k : Nat) (f : Nat → Int32) : St := (S.1, fun o' k' => if o' = o ∧ k' = k then f else S.2 o' k')
def kd : Nat → Nat
  | 0 => 6 | 1 => 0 | 2 => 0 | 3 => 4 | 4 => 4 | 5 => 4 | 6 => 1 | 7 => 1 | 8 => 1 | 9 => 1 | 10 => 1 | 11 => 2 | 12 => 5 | 13 => 3 | 14 => 3 | 15 => 3 | 16 => 3 | 17 => 7 | _ => 99
def rf : Nat → Nat → Nat
  | 0, 0 => 1 | 0, 1 => 2 | 0, 2 => 3 | 0, 3 => 5 | 0, 4 => 11 | 0, 5 => 12
  | 1, 0 => 6 | 1, 1 => 7 | 1, 2 => 3 | 2, 0 => 8 | 2, 1 => 9 | 2, 2 => 4
  | 3, 0 => 6 | 3, 1 => 7 | 4, 0 => 8 | 4, 1 => 9 | 5, 0 => 6 | 5, 1 => 7 | 11, 0 => 10 | _, _ => 0
/-- the arrays of a kind: how long each is, by its slot; 0 where there is none -/
def elen : Nat → Nat → Nat
  | 0, 3 => 60 | 0, 5 => 24 | 1, 2 => 60 | 1, 3 => 60 | 2, 1 => 60 | 3, 2 => 24
  | 4, 5 => 9 | 4, 6 => 9 | 4, 7 => 9 | 4, 8 => 9 | 4, 9 => 9 | 4, 10 => 9 | 5, 0 => 30 | 6, 6 => 4 | 6, 7 => 7
  | 7, 0 => 387 | 7, 1 => 387 | 7, 2 => 53 | 7, 4 => 7 | 7, 9 => 124 | 7, 10 => 128 | 7, 11 => 64 | 7, 12 => 9 | 7, 13 => 9 | 7, 15 => 30 | 7, 18 => 4 | 7, 19 => 4 | 7, 20 => 96 | 7, 21 => 24
  | _, _ => 0
def entsOf (os : List Nat) : List (Nat × Nat) := os.flatMap (fun o => (o, 0) :: ((List.range 22).filter (fun k => elen (kd o) k != 0)).map (fun k => (o, k + 1)))
def enC : List (Nat × Nat) := entsOf (List.range 17)
def enM : List (Nat × Nat) := entsOf [17]
/-- D of the kit, the addresses, the array classes (int, boolean, Sheet), the static rows (ABOVE, BODIES, NAMES) -/
abbrev GX : Type := va_G × (Nat → Nat → Nat) × (ClassId × ClassId × ClassId) × (Nat × Nat × Nat)
def adr (G : GX) (o k : Nat) : Nat := G.2.1 o k
def oc0 (G : GX) (o : Nat) (I : Nat → Int32) : List Value := [.ref (adr G (rf o 0) 0), .ref (adr G (rf o 1) 0), .ref (adr G (rf o 2) 0), .ref (adr G o 4), .int (I 4), .ref (adr G o 6), .int (I 6), .int (I 7)]
def oc1 (G : GX) (o : Nat) (I : Nat → Int32) : List Value := [.int (I 0), .int (I 1), .ref (adr G o 3), .ref (adr G o 4), .int (I 4)]
def oc2 (G : GX) (o : Nat) (I : Nat → Int32) : List Value := [.ref (adr G (rf o 0) 0), .ref (adr G o 2), .int (I 2), .int (I 3), .int (I 4), .int (I 5)]
def oc3 (G : GX) (o : Nat) (I : Nat → Int32) : List Value := [.int (I 0), .int (I 1), .ref (adr G o 3)]
def oc4 (G : GX) (o : Nat) (I : Nat → Int32) : List Value := [.ref (adr G (rf o 0) 0), .ref (adr G (rf o 1) 0), .int (I 2), .int (I 3), .int (I 4), .ref (adr G o 6), .ref (adr G o 7), .ref (adr G o 8), .ref (adr G o 9), .ref (adr G o 10), .ref (adr G o 11)]
def oc5 (G : GX) (o : Nat) (I : Nat → Int32) : List Value := [.ref (adr G o 1), .int (I 1), .int (I 2), .int (I 3), .int (I 4), .int (I 5)]
def oc6 (G : GX) (o : Nat) (I : Nat → Int32) : List Value := [.ref (adr G (rf o 0) 0), .ref (adr G (rf o 1) 0), .ref (adr G (rf o 2) 0), .ref (adr G (rf o 3) 0), .ref (adr G (rf o 4) 0), .ref (adr G (rf o 5) 0), .ref (adr G o 7), .ref (adr G o 8), .int (I 8)]
def oc7 (G : GX) (o : Nat) (I : Nat → Int32) : List Value := [.ref (adr G o 1), .ref (adr G o 2), .ref (adr G o 3), .int (I 3), .ref (adr G o 5), .int (I 5), .int (I 6), .int (I 7), .int (I 8), .ref (adr G o 10), .ref (adr G o 11), .ref (adr G o 12), .ref (adr G o 13), .ref (adr G o 14), .int (I 14), .ref (adr G o 16), .int (I 16), .int (I 17), .ref (adr G o 19), .ref (adr G o 20), .ref (adr G o 21), .ref (adr G o 22)]
def ocell (G : GX) (o : Nat) (I : Nat → Int32) : va_E := if kd o = 0 then .inr (0, oc0 G o I) else if kd o = 1 then .inr (1, oc1 G o I) else if kd o = 2 then .inr (2, oc2 G o I) else if kd o = 3 then .inr (3, oc3 G o I) else if kd o = 4 then .inr (4, oc4 G o I) else if kd o = 5 then .inr (5, oc5 G o I) else if kd o = 6 then .inr (6, oc6 G o I) else if kd o = 7 then .inr (7, oc7 G o I) else .inr (99, [])
theorem ocell_0 {G : GX} {o : Nat} {I : Nat → Int32} (h : kd o = 0) : ocell G o I = .inr (0, oc0 G o I) := by simp [ocell, h]
theorem ocell_1 {G : GX} {o : Nat} {I : Nat → Int32} (h : kd o = 1) : ocell G o I = .inr (1, oc1 G o I) := by simp [ocell, h]
theorem ocell_2 {G : GX} {o : Nat} {I : Nat → Int32} (h : kd o = 2) : ocell G o I = .inr (2, oc2 G o I) := by simp [ocell, h]
theorem ocell_3 {G : GX} {o : Nat} {I : Nat → Int32} (h : kd o = 3) : ocell G o I = .inr (3, oc3 G o I) := by simp [ocell, h]
theorem ocell_4 {G : GX} {o : Nat} {I : Nat → Int32} (h : kd o = 4) : ocell G o I = .inr (4, oc4 G o I) := by simp [ocell, h]
theorem ocell_5 {G : GX} {o : Nat} {I : Nat → Int32} (h : kd o = 5) : ocell G o I = .inr (5, oc5 G o I) := by simp [ocell, h]
theorem ocell_6 {G : GX} {o : Nat} {I : Nat → Int32} (h : kd o = 6) : ocell G o I = .inr (6, oc6 G o I) := by simp [ocell, h]
theorem ocell_7 {G : GX} {o : Nat} {I : Nat → Int32} (h : kd o = 7) : ocell G o I = .inr (7, oc7 G o I) := by simp [ocell, h]
def acell (G : GX) (o k : Nat) (R : Nat → Int32) : va_E := if kd o = 7 ∧ k = 13 then .inl (G.2.2.1.2.1, 9, .inl R) else if kd o = 6 ∧ k = 6 then .inl (G.2.2.1.2.2, 4, .inr (.inr (.inr (.inr (fun i => some (adr G (13 + i) 0)))))) else .inl (G.2.2.1.1, elen (kd o) k, .inl R)
def ecell (G : GX) (S : St) (q : Nat × Nat) : va_E := if q.2 = 0 then ocell G q.1 (S.1 q.1) else acell G q.1 (q.2 - 1) (S.2 q.1 (q.2 - 1))
def wld (G : GX) (en : List (Nat × Nat)) (S : St) : va_W := en.map (fun q => (adr G q.1 q.2, ecell G S q))
def tysG (G : GX) : List (ClassId × FieldType) := [(G.2.2.1.1, .int), (G.2.2.1.2.1, .boolean), (G.2.2.1.2.2, .object "LeftoverRule$Sheet")]
def sABV (j : Nat) : Int32 := [-1, 0, 0, 0, 1, 2, 0].getD j 0
def sBOD (j : Nat) : Int32 := [10, 11, 12, 13, 20, 0, 0, 21, 0, 30, 0, 0, 0, 0, 40, 0, 50, 0, 51, 0, 0, 60, 0, 0, 70, 71, 0, 0].getD j 0
def sNAM (j : Nat) : Int32 := [99, 97, 115, 102, 114, 100].getD j 0
def sts (G : GX) (A : Nat → Prop) (U : State) (H : Heap) : Prop :=
  (va_Z "LeftoverRule" "ABOVE" "[I" (.ref G.2.2.2.1) A U H ∧ va_T .int G.2.2.2.1 7 (fun j => .int (sABV j)) A U H) ∧
  (va_Z "LeftoverRule" "BODIES" "[I" (.ref G.2.2.2.2.1) A U H ∧ va_T .int G.2.2.2.2.1 28 (fun j => .int (sBOD j)) A U H) ∧
  (va_Z "LeftoverRule" "NAMES" "[C" (.ref G.2.2.2.2.2) A U H ∧ va_T .char G.2.2.2.2.2 6 (fun j => .int (sNAM j)) A U H)
theorem sts_to {G : GX} {A B : Nat → Prop} {u U : State} {H H1 : Heap} (hvm : u.vm.Alike U.vm) (hq : ∀ a : Nat, a < H.size → ¬ A a → H1[a]? = H[a]?) (hAB : ∀ q, B q → A q) (h : sts G A u H) : sts G B U H1 :=
  ⟨⟨((h.1.1.moved hvm).kept hq).narrow hAB, ((h.1.2.moved hvm).kept hq).narrow hAB⟩, ⟨((h.2.1.1.moved hvm).kept hq).narrow hAB, ((h.2.1.2.moved hvm).kept hq).narrow hAB⟩, ⟨((h.2.2.1.moved hvm).kept hq).narrow hAB, ((h.2.2.2.moved hvm).kept hq).narrow hAB⟩⟩
/-- what the tables say of the nest mates that read the outer class's rows -/
def nst (U : State) : Prop := va_Nw (.fieldLinkNest RX2 86 "LeftoverRule" "NAMES" "[C" "LeftoverRule") U ∧ va_Nw (.fieldLinkNest RX5 47 "LeftoverRule" "BODIES" "[I" "LeftoverRule") U ∧ va_Nw (.fieldLinkNest RX5 50 "LeftoverRule" "ABOVE" "[I" "LeftoverRule") U
theorem nst_warm {s U : State} (hW : s.WarmedH U.vm) (h : nst s) : nst U := ⟨va_Nw.warmF hW h.1, va_Nw.warmF hW h.2.1, va_Nw.warmF hW h.2.2⟩
theorem nst_same {u U : State} (hv : u.vm = U.vm) (h : nst u) : nst U := ⟨va_Nw.same rfl hv h.1, va_Nw.same rfl hv h.2.1, va_Nw.same rfl hv h.2.2⟩
/-- what a method may change: its world's cells, and those that are new -/
def fA (G : GX) (en : List (Nat × Nat)) (sz : Nat) : Nat → Prop := fun q => (∃ e ∈ en, q = adr G e.1 e.2) ∨ sz ≤ q
theorem wld_at {G : GX} {en : List (Nat × Nat)} {S : St} {k : Nat} {q : Nat × Nat} (h : en[k]? = some q) : (wld G en S)[k]? = some (adr G q.1 q.2, ecell G S q) := by simp [wld, h]
theorem wld_of {G : GX} {en : List (Nat × Nat)} {S : St} {k : Nat} {x : Nat × va_E} (h : (wld G en S)[k]? = some x) : ∃ q, en[k]? = some q ∧ x = (adr G q.1 q.2, ecell G S q) := by
  simp only [wld, List.getElem?_map, Option.map_eq_some_iff] at h
  obtain ⟨q, h1, h2⟩ := h
  exact ⟨q, h1, h2.symm⟩
theorem va_D_st {G : GX} {en : List (Nat × Nat)} {S S1 : St} {A : Nat → Prop} (h : va_D A (wld G en S)) : va_D A (wld G en S1) := by
  refine ⟨fun i j x y hx hy hxy => ?_, fun k x hk => ?_⟩
  · obtain ⟨p, h1, rfl⟩ := wld_of hx
    obtain ⟨q, h2, rfl⟩ := wld_of hy
    exact h.1 i j (adr G p.1 p.2, ecell G S p) (adr G q.1 q.2, ecell G S q) (wld_at h1) (wld_at h2) hxy
  · obtain ⟨p, h1, rfl⟩ := wld_of hk
    have h9 := h.2 k (adr G p.1 p.2, ecell G S p) (wld_at h1)
    exact h9
theorem wld_set {G : GX} {en : List (Nat × Nat)} {S S1 : St} (hn : en.Nodup) {k : Nat} {q : Nat × Nat} (h : en[k]? = some q) (ho : ∀ p, p ≠ q → ecell G S1 p = ecell G S p) : (wld G en S).set k (adr G q.1 q.2, ecell G S1 q) = wld G en S1 := by
  refine List.ext_getElem? (fun i => ?_)
  rw [List.getElem?_set]
  have hl : k < en.length := (List.getElem?_eq_some_iff.mp h).1
  by_cases hi : k = i
  · subst hi
    rw [if_pos rfl, if_pos (by simpa [wld] using hl)]
    exact (wld_at h).symm
  · rw [if_neg hi]
    simp only [wld, List.getElem?_map]
    cases hp : en[i]? with
    | none => rfl
    | some p =>
      have hne : p ≠ q := by
        intro e
        subst e
        exact hi ((List.getElem?_inj hl hn).mp (h.trans hp.symm))
      simp [ho p hne]
theorem ecell_stI {G : GX} {S : St} {o k : Nat} {v : Int32} (p : Nat × Nat) (hp : p ≠ (o, 0)) : ecell G (stI S o k v) p = ecell G S p := by
  obtain ⟨a, b⟩ := p
  unfold ecell
  by_cases hb : b = 0
  · subst hb
    have ha : a ≠ o := fun e => hp (by rw [e])
    simp [stI, ha]
  · simp [hb, stI]
theorem ecell_stR {G : GX} {S : St} {o k : Nat} {f : Nat → Int32} (p : Nat × Nat) (hp : p ≠ (o, k + 1)) : ecell G (stR S o k f) p = ecell G S p := by
  obtain ⟨a, b⟩ := p
  unfold ecell
  by_cases hb : b = 0
  · subst hb
    simp [stR]
  · have hne : ¬ (a = o ∧ b - 1 = k) := fun e => hp (by rw [e.1, ← e.2]; congr 1; omega)
    simp [hb, stR, hne]
/-- an object of a kind is in the world, with its arrays -/
def okO (en : List (Nat × Nat)) (o k : Nat) : Prop := (o, 0) ∈ en ∧ kd o = k ∧ ∀ s, elen k s ≠ 0 → (o, s + 1) ∈ en
/-- an int row of n is in the world -/
def okA (en : List (Nat × Nat)) (o s n : Nat) : Prop := (o, s + 1) ∈ en ∧ ∀ (G : GX) (R : Nat → Int32), acell G o s R = .inl (G.2.2.1.1, n, .inl R)
theorem okA_of {en : List (Nat × Nat)} {o k : Nat} (s : Nat) {n : Nat} (h : okO en o k) (hn : elen k s = n) (h0 : n ≠ 0) (h1 : ¬ (k = 7 ∧ s = 13)) (h2 : ¬ (k = 6 ∧ s = 6)) : okA en o s n := by
  obtain ⟨ha, hb, hc⟩ := h
  refine ⟨hc s (by rw [hn]; exact h0), fun G R => ?_⟩
  unfold acell
  rw [hb, if_neg h1, if_neg h2, hn]
theorem enC_nd : enC.Nodup := by decide +kernel
theorem enM_nd : enM.Nodup := by decide +kernel
theorem okO_dec {en : List (Nat × Nat)} {o k : Nat} (h : (decide ((o, 0) ∈ en) && decide (kd o = k) && (List.range 22).all (fun s => decide (elen k s = 0) || decide ((o, s + 1) ∈ en))) = true) (hs : ∀ s, elen k s ≠ 0 → s < 22) : okO en o k := by
  simp only [Bool.and_eq_true, decide_eq_true_eq, List.all_eq_true, Bool.or_eq_true, List.mem_range] at h
  exact ⟨h.1.1, h.1.2, fun s hz => (h.2 s (hs s hz)).resolve_left hz⟩
theorem elen_lt {k s : Nat} (h : elen k s ≠ 0) : s < 22 := by
  revert h
  unfold elen
  split <;> intro h <;> first | exact Nat.le_of_ble_eq_true rfl | exact absurd rfl h
theorem okC_0 : okO enC 0 6 := okO_dec (by decide +kernel) (fun _ => elen_lt)
theorem okC_1 : okO enC 1 0 := okO_dec (by decide +kernel) (fun _ => elen_lt)
theorem okC_2 : okO enC 2 0 := okO_dec (by decide +kernel) (fun _ => elen_lt)
theorem okC_3 : okO enC 3 4 := okO_dec (by decide +kernel) (fun _ => elen_lt)
theorem okC_4 : okO enC 4 4 := okO_dec (by decide +kernel) (fun _ => elen_lt)
theorem okC_5 : okO enC 5 4 := okO_dec (by decide +kernel) (fun _ => elen_lt)
theorem okC_6 : okO enC 6 1 := okO_dec (by decide +kernel) (fun _ => elen_lt)
theorem okC_7 : okO enC 7 1 := okO_dec (by decide +kernel) (fun _ => elen_lt)
theorem okC_8 : okO enC 8 1 := okO_dec (by decide +kernel) (fun _ => elen_lt)
theorem okC_9 : okO enC 9 1 := okO_dec (by decide +kernel) (fun _ => elen_lt)
theorem okC_10 : okO enC 10 1 := okO_dec (by decide +kernel) (fun _ => elen_lt)
theorem okC_11 : okO enC 11 2 := okO_dec (by decide +kernel) (fun _ => elen_lt)
theorem okC_12 : okO enC 12 5 := okO_dec (by decide +kernel) (fun _ => elen_lt)
theorem okC_13 : okO enC 13 3 := okO_dec (by decide +kernel) (fun _ => elen_lt)
theorem okC_14 : okO enC 14 3 := okO_dec (by decide +kernel) (fun _ => elen_lt)
theorem okC_15 : okO enC 15 3 := okO_dec (by decide +kernel) (fun _ => elen_lt)
theorem okC_16 : okO enC 16 3 := okO_dec (by decide +kernel) (fun _ => elen_lt)
theorem okM_17 : okO enM 17 7 := okO_dec (by decide +kernel) (fun _ => elen_lt)
theorem okC_sheet {n : Nat} (h : n < 4) : okO enC (13 + n) 3 := by
  rcases (show n = 0 ∨ n = 1 ∨ n = 2 ∨ n = 3 by omega) with rfl | rfl | rfl | rfl
  · exact okC_13
  · exact okC_14
  · exact okC_15
  · exact okC_16
theorem kd_table {o : Nat} (h : kd o = 4) : o = 3 ∨ o = 4 ∨ o = 5 := by
  revert h
  unfold kd
  split <;> simp
theorem kd_house {o : Nat} (h : kd o = 0) : o = 1 ∨ o = 2 := by
  revert h
  unfold kd
  split <;> simp
theorem kd_reader {o : Nat} (h : kd o = 2) : o = 11 := by
  revert h
  unfold kd
  split <;> simp
theorem okC_4_0 {o : Nat} (h : okO enC o 4) : okO enC (rf o 0) 1 := by
  rcases kd_table h.2.1 with rfl | rfl | rfl
  · exact okC_6
  · exact okC_8
  · exact okC_6
theorem okC_4_1 {o : Nat} (h : okO enC o 4) : okO enC (rf o 1) 1 := by
  rcases kd_table h.2.1 with rfl | rfl | rfl
  · exact okC_7
  · exact okC_9
  · exact okC_7
theorem okC_0_0 {o : Nat} (h : okO enC o 0) : okO enC (rf o 0) 1 := by
  rcases kd_house h.2.1 with rfl | rfl
  · exact okC_6
  · exact okC_8
theorem okC_0_1 {o : Nat} (h : okO enC o 0) : okO enC (rf o 1) 1 := by
  rcases kd_house h.2.1 with rfl | rfl
  · exact okC_7
  · exact okC_9
theorem okC_0_2 {o : Nat} (h : okO enC o 0) : okO enC (rf o 2) 4 := by
  rcases kd_house h.2.1 with rfl | rfl
  · exact okC_3
  · exact okC_4
theorem okC_2_0 {o : Nat} (h : okO enC o 2) : okO enC (rf o 0) 1 := by
  rcases kd_reader h.2.1 with rfl
  exact okC_10
abbrev EV : Type := Program × Launch × Env × Room × State × MethodId × Array Value × List Frame × Method × Code × (Nat → Prop) × (State → Prop) × GX × List (Nat × Nat) × Nat
abbrev vP (E : EV) := E.1
abbrev vL (E : EV) := E.2.1
abbrev vE (E : EV) := E.2.2.1
abbrev vR (E : EV) := E.2.2.2.1
abbrev vS (E : EV) := E.2.2.2.2.1
abbrev vM (E : EV) := E.2.2.2.2.2.1
abbrev vAr (E : EV) := E.2.2.2.2.2.2.1
abbrev vB (E : EV) := E.2.2.2.2.2.2.2.1
abbrev vMe (E : EV) := E.2.2.2.2.2.2.2.2.1
abbrev vC (E : EV) := E.2.2.2.2.2.2.2.2.2.1
abbrev vA (E : EV) := E.2.2.2.2.2.2.2.2.2.2.1
abbrev vQ (E : EV) := E.2.2.2.2.2.2.2.2.2.2.2.1
abbrev vG (E : EV) := E.2.2.2.2.2.2.2.2.2.2.2.2.1
abbrev vN (E : EV) := E.2.2.2.2.2.2.2.2.2.2.2.2.2.1
abbrev vn (E : EV) := E.2.2.2.2.2.2.2.2.2.2.2.2.2.2
/-- the machine at pc with the locals L and the operand stack st, its heap holding S, comes to its end -/
def CF (E : EV) (S : St) (pc : Nat) (L : List (Nat × Value)) (st : List Value) : Prop := ∀ (H : Heap) (locs : List Loc) (ls : Array Slot), va_P (vG E).1 vwCl (wld (vG E) (vN E) S) H → va_D (vA E) (wld (vG E) (vN E) S) → va_S (vA E) (vS E).heap H locs → lv_has ls (vn E) L → W (vP E) (vL E) (vE E) (vR E) (vS E) (vM E) (vAr E) (vB E) (vMe E) (vC E) H locs 0 0 (vQ E) (F0 (vM E) pc ls st)
def CX (E : EV) (cc : ByteArray) (own : String) (nL : Nat) (en : List (Nat × Nat)) (fr lo : Nat) : Prop := (vP E).tables.exec = Jvm.exec ∧ (vC E).code = cc ∧ (vC E).maxLocals = vn E ∧ (vS E).vm.findClass own = some (vM E).cls ∧ (∀ w ∈ AW, w.before (vAr E) (vS E) = true) ∧ va_K (vG E).1 vwCl (tysG (vG E)) (vS E) ∧ vA E = fA (vG E) (vN E) (vS E).heap.size ∧ sts (vG E) (vA E) (vS E) (vS E).heap ∧ (vN E).Nodup ∧ vn E = nL ∧ vN E = en ∧ fr ≤ (vR E).frames ∧ lo ≤ (vR E).locals ∧ nst (vS E)
def RTi (E : EV) (cc : ByteArray) (Q : Int32 → St → Prop) : Prop := ∀ (S : St) (pc : Nat) (L : List (Nat × Value)) (v : Int32), decode cc pc = .ok (.ireturn, 1) → Q v S → CF E S pc L [.int v]
def RTz (E : EV) (cc : ByteArray) (Q : Int32 → St → Prop) : Prop := ∀ (S : St) (pc : Nat) (L : List (Nat × Value)) (v : Int32), decode cc pc = .ok (.ireturn, 1) → v = 0 ∨ v = 1 → Q v S → CF E S pc L [.int v]
def RTv (E : EV) (cc : ByteArray) (Q : St → Prop) : Prop := ∀ (S : St) (pc : Nat) (L : List (Nat × Value)), decode cc pc = .ok (.return_, 1) → Q S → CF E S pc L []
def RTr (E : EV) (cc : ByteArray) (Q : Nat → St → Prop) : Prop := ∀ (S : St) (pc : Nat) (L : List (Nat × Value)) (r : Nat), decode cc pc = .ok (.areturn, 1) → Q r S → CF E S pc L [.ref (adr (vG E) r 0)]
section CFR
variable {E : EV} {cc : ByteArray} {own : String} {nL fr lo : Nat} {en : List (Nat × Nat)} {S : St} {pc index : Nat} {L : List (Nat × Value)} {st : List Value}
theorem cx_en (C : CX E cc own nL en fr lo) {q : Nat × Nat} (h : q ∈ en) : q ∈ vN E := by rw [C.2.2.2.2.2.2.2.2.2.2.1]; exact h
theorem cx_nL (C : CX E cc own nL en fr lo) {i : Nat} (h : i < nL) : i < vn E := by rw [C.2.2.2.2.2.2.2.2.2.1]; exact h
theorem cf_get (C : CX E cc own nL en fr lo) {ci N : Nat} {Cn : String} {T : u_T} (hc : vwCl[ci]? = some (Cn, T, N)) (hin : ∀ w ∈ u_ws Cn T N, w ∈ AW) {o : Nat} (ho : (o, 0) ∈ en) {fs : List Value} (he : ocell (vG E) o (S.1 o) = .inr (ci, fs)) (k : Nat) (hk : k < N) {ref nm ds : String} (hl : Cond.fieldLink own index ref nm ds ∈ AW) (hT : ((T k).1, (T k).2.1, (T k).2.2.1) = (ref, nm, ds)) (hdg : decode cc pc = .ok (.getfield index, 3)) {v : Value} (hv : fs[k]? = some v) (kk : CF E S (pc + 3) L (v :: st)) : CF E S pc L (.ref (adr (vG E) o 0) :: st) := by
  intro H locs ls hP hD hS hlv
  obtain ⟨i, hi⟩ := List.getElem?_of_mem (cx_en C ho)
  obtain ⟨h1, h2, h3⟩ := (show (T k).1 = ref ∧ (T k).2.1 = nm ∧ (T k).2.2.1 = ds by
    injection hT with a b; injection b with b c; exact ⟨a, b, c⟩)
  refine va_get C.1 C.2.1 C.2.2.2.2.1 hin C.2.2.2.1 C.2.2.2.2.2.1 hP i ((wld_at hi).trans ?_) hc k hk (ref := ref) ?_ (fun x hx => by rw [← h1]; exact hx) hv hdg (kk H locs ls hP hD hS hlv)
  · unfold ecell
    rw [if_pos rfl, he]
  · rw [h2, h3]
    exact C.2.2.2.2.1 _ hl
theorem cf_put (C : CX E cc own nL en fr lo) {ci N : Nat} {Cn : String} {T : u_T} (hc : vwCl[ci]? = some (Cn, T, N)) (hin : ∀ w ∈ u_ws Cn T N, w ∈ AW) (ty0 : Nat → FieldType) (hty : ∀ k, k < N → parseFieldDescriptor (T k).2.2.1 = some (ty0 k)) (hnm : ∀ a, a < N → ∀ b, b < N → a ≠ b → (T a).2.1 ≠ (T b).2.1) {o : Nat} (ho : (o, 0) ∈ en) {x : Int32} {fs fs1 : List Value} (he : ocell (vG E) o (S.1 o) = .inr (ci, fs)) (k : Nat) (hk : k < N) (he1 : ocell (vG E) o ((stI S o k x).1 o) = .inr (ci, fs1)) {ref nm ds : String} (hl : Cond.fieldLink own index ref nm ds ∈ AW) (hT : ((T k).1, (T k).2.1, (T k).2.2.1) = (ref, nm, ds)) (hfin : (T k).2.2.2 = false) {ty : FieldType} (hd : parseFieldDescriptor (T k).2.2.1 = some ty) (hn : narrow ty (.int x) = .int x) (hfit : fits ty (.int x) = true) (hlen : k < fs.length) (hset : fs.set k (.int x) = fs1) (hdg : decode cc pc = .ok (.putfield index, 3)) (kk : CF E (stI S o k x) (pc + 3) L st) : CF E S pc L (.int x :: .ref (adr (vG E) o 0) :: st) := by
  intro H locs ls hP hD hS hlv
  obtain ⟨i, hi⟩ := List.getElem?_of_mem (cx_en C ho)
  obtain ⟨h1, h2, h3⟩ := (show (T k).1 = ref ∧ (T k).2.1 = nm ∧ (T k).2.2.1 = ds by
    injection hT with a b; injection b with b c; exact ⟨a, b, c⟩)
  refine va_put C.1 C.2.1 C.2.2.2.2.1 hin ty0 hty hnm C.2.2.2.1 C.2.2.2.2.2.1 hP hD hS i ((wld_at hi).trans (congrArg some (Prod.ext rfl (?_ : ecell (vG E) S (o, 0) = .inr (ci, fs))))) hc k hk (ref := ref) ?_ (fun x hx => by rw [← h1]; exact hx) hfin hd hn hfit hlen hdg (fun H1 locs1 hP1 hD1 hS1 => ?_)
  · unfold ecell
    rw [if_pos rfl, he]
  · rw [h2, h3]
    exact C.2.2.2.2.1 _ hl
  · have e : (wld (vG E) (vN E) S).set i (adr (vG E) o 0, .inr (ci, fs.set k (.int x))) = wld (vG E) (vN E) (stI S o k x) := by
      rw [← wld_set C.2.2.2.2.2.2.2.2.1 hi (fun p hp => ecell_stI p hp)]
      congr 1
      unfold ecell
      rw [if_pos rfl, he1, hset]
    rw [e] at hP1 hD1
    exact kk H1 locs1 ls hP1 hD1 hS1 hlv
theorem cf_iald (C : CX E cc own nL en fr lo) {o s n : Nat} {i : Int32} {B : Prop} (ha : okA en o s n) (hdg : decode cc pc = .ok (.iaload, 1)) (hm : vp_in i n ∧ B) (kk : B → CF E S (pc + 1) L (.int (S.2 o s i.toNatClampNeg) :: st)) : CF E S pc L (.int i :: .ref (adr (vG E) o (s + 1)) :: st) := by
  intro H locs ls hP hD hS hlv
  obtain ⟨j, hj⟩ := List.getElem?_of_mem (cx_en C ha.1)
  refine va_iald C.1 C.2.1 C.2.2.2.2.2.1 hP j 0 ((wld_at hj).trans (congrArg some (Prod.ext rfl (?_ : ecell (vG E) S (o, s + 1) = .inl ((vG E).2.2.1.1, n, .inl (S.2 o s)))))) rfl hm.1 hdg (kk hm.2 H locs ls hP hD hS hlv)
  unfold ecell
  rw [if_neg (Nat.succ_ne_zero s)]
  exact ha.2 _ _
theorem cf_iast (C : CX E cc own nL en fr lo) {o s n : Nat} {i x : Int32} {B : Prop} (ha : okA en o s n) (hdg : decode cc pc = .ok (.iastore, 1)) (hm : vp_in i n ∧ B) (kk : B → CF E (stR S o s (upd (S.2 o s) i.toNatClampNeg x)) (pc + 1) L st) : CF E S pc L (.int x :: .int i :: .ref (adr (vG E) o (s + 1)) :: st) := by
  intro H locs ls hP hD hS hlv
  obtain ⟨j, hj⟩ := List.getElem?_of_mem (cx_en C ha.1)
  refine va_iast C.1 C.2.1 C.2.2.2.2.2.1 hP hD hS j 0 ((wld_at hj).trans (congrArg some (Prod.ext rfl (?_ : ecell (vG E) S (o, s + 1) = .inl ((vG E).2.2.1.1, n, .inl (S.2 o s)))))) rfl hm.1 hdg (fun H1 locs1 hP1 hD1 hS1 => ?_)
  · unfold ecell
    rw [if_neg (Nat.succ_ne_zero s)]
    exact ha.2 _ _
  · have e : (wld (vG E) (vN E) S).set j (adr (vG E) o (s + 1), .inl ((vG E).2.2.1.1, n, .inl (upd (S.2 o s) i.toNatClampNeg x))) = wld (vG E) (vN E) (stR S o s (upd (S.2 o s) i.toNatClampNeg x)) := by
      rw [← wld_set C.2.2.2.2.2.2.2.2.1 hj (fun p hp => ecell_stR p hp)]
      congr 1
      unfold ecell
      rw [if_neg (Nat.succ_ne_zero s)]
      simp [ha.2, stR]
    rw [e] at hP1 hD1
    exact kk hm.2 H1 locs1 ls hP1 hD1 hS1 hlv
theorem cf_copy (C : CX E cc own nL en fr lo) {o0 s0 n0 o1 s1 n1 : Nat} {sp dp n : Int32} {B : Prop} (ha0 : okA en o0 s0 n0) (ha1 : okA en o1 s1 n1) (h1 : Cond.methodLink own index arraycopyName ∈ AW) (h2 : Cond.native arraycopyName ∈ AW) (h3 : Cond.static arraycopyName ∈ AW) (h4 : Cond.initialized "java/lang/System" ∈ AW) (hfr : 1 ≤ fr) (hlo : 8 + 64 ≤ lo) (hst : (st.map fun v => v.category).sum ≤ 8) (hdg : decode cc pc = .ok (.invokestatic index, 3)) (hm : (¬ sp < 0 ∧ ¬ dp < 0 ∧ ¬ n < 0 ∧ sp.toNatClampNeg + n.toNatClampNeg ≤ n0 ∧ dp.toNatClampNeg + n.toNatClampNeg ≤ n1) ∧ B) (kk : B → CF E (stR S o1 s1 (va_cpy (S.2 o0 s0) (S.2 o1 s1) sp.toNatClampNeg dp.toNatClampNeg n.toNatClampNeg)) (pc + 3) L st) : CF E S pc L (.int n :: .int dp :: .ref (adr (vG E) o1 (s1 + 1)) :: .int sp :: .ref (adr (vG E) o0 (s0 + 1)) :: st) := by
  intro H locs ls hP hD hS hlv
  obtain ⟨j0, hj0⟩ := List.getElem?_of_mem (cx_en C ha0.1)
  obtain ⟨j, hj⟩ := List.getElem?_of_mem (cx_en C ha1.1)
  obtain ⟨⟨g1, g2, g3, g4, g5⟩, hB⟩ := hm
  refine va_copyi C.1 C.2.1 (C.2.2.1.trans hlv.1.symm) C.2.2.2.1 (C.2.2.2.2.1 _ h1) (C.2.2.2.2.1 _ h2) (C.2.2.2.2.1 _ h3) (C.2.2.2.2.1 _ h4) C.2.2.2.2.2.1 hP hD hS j0 j 0 0 (ty := .int) ((wld_at hj0).trans (congrArg some (Prod.ext rfl (?_ : ecell (vG E) S (o0, s0 + 1) = .inl ((vG E).2.2.1.1, n0, .inl (S.2 o0 s0)))))) ((wld_at hj).trans (congrArg some (Prod.ext rfl (?_ : ecell (vG E) S (o1, s1 + 1) = .inl ((vG E).2.2.1.1, n1, .inl (S.2 o1 s1)))))) rfl rfl rfl g1 g2 g3 g4 g5 (fun _ _ => rfl) (Nat.le_trans hfr C.2.2.2.2.2.2.2.2.2.2.2.1) (Nat.le_trans (Nat.le_trans (Nat.add_le_add hst (by decide +kernel)) hlo) C.2.2.2.2.2.2.2.2.2.2.2.2.1) hdg (fun H1 locs1 hP1 hD1 hS1 => ?_)
  · unfold ecell
    rw [if_neg (Nat.succ_ne_zero s0)]
    exact ha0.2 _ _
  · unfold ecell
    rw [if_neg (Nat.succ_ne_zero s1)]
    exact ha1.2 _ _
  · have e : (wld (vG E) (vN E) S).set j (adr (vG E) o1 (s1 + 1), .inl ((vG E).2.2.1.1, n1, .inl (va_cpy (S.2 o0 s0) (S.2 o1 s1) sp.toNatClampNeg dp.toNatClampNeg n.toNatClampNeg))) = wld (vG E) (vN E) (stR S o1 s1 (va_cpy (S.2 o0 s0) (S.2 o1 s1) sp.toNatClampNeg dp.toNatClampNeg n.toNatClampNeg)) := by
      rw [← wld_set C.2.2.2.2.2.2.2.2.1 hj (fun p hp => ecell_stR p hp)]
      congr 1
      unfold ecell
      rw [if_neg (Nat.succ_ne_zero s1)]
      simp [ha1.2, stR]
    rw [e] at hP1 hD1
    exact kk hB H1 locs1 ls hP1 hD1 hS1 hlv
theorem cf_iconst (C : CX E cc own nL en fr lo) {n : Int} {v : Int32} (hdg : decode cc pc = .ok (.iconst n, 1)) (hv : Int32.ofInt n = v) (kk : CF E S (pc + 1) L (.int v :: st)) : CF E S pc L (st) := fun H locs ls hP hD hS hlv => lv_iconst C.1 C.2.1 hdg hv (kk H locs ls hP hD hS hlv)
theorem cf_bipush (C : CX E cc own nL en fr lo) {n : Int} {v : Int32} (hdg : decode cc pc = .ok (.bipush n, 2)) (hv : (Int8.ofInt n).toInt32 = v) (kk : CF E S (pc + 2) L (.int v :: st)) : CF E S pc L (st) := fun H locs ls hP hD hS hlv => lv_bipush C.1 C.2.1 hdg hv (kk H locs ls hP hD hS hlv)
theorem cf_sipush (C : CX E cc own nL en fr lo) {n : Int} {v : Int32} (hdg : decode cc pc = .ok (.sipush n, 3)) (hv : (Int16.ofInt n).toInt32 = v) (kk : CF E S (pc + 3) L (.int v :: st)) : CF E S pc L (st) := fun H locs ls hP hD hS hlv => lv_sipush C.1 C.2.1 hdg hv (kk H locs ls hP hD hS hlv)
theorem cf_lconst (C : CX E cc own nL en fr lo) {n : Fin 2} {v : Int64} (hdg : decode cc pc = .ok (.lconst n, 1)) (hv : Int64.ofNat (n : Nat) = v) (kk : CF E S (pc + 1) L (.long v :: st)) : CF E S pc L (st) := fun H locs ls hP hD hS hlv => lv_lconst C.1 C.2.1 hdg hv (kk H locs ls hP hD hS hlv)
theorem cf_ldc (C : CX E cc own nL en fr lo) {v : Int32} (hdg : decode cc pc = .ok (.ldc index, 2)) (hl : Cond.constant own index v ∈ AW) (kk : CF E S (pc + 2) L (.int v :: st)) : CF E S pc L (st) := fun H locs ls hP hD hS hlv => lv_ldc C.1 C.2.1 C.2.2.2.1 (C.2.2.2.2.1 _ hl) hdg (kk H locs ls hP hD hS hlv)
theorem cf_ldcw (C : CX E cc own nL en fr lo) {v : Int32} (hdg : decode cc pc = .ok (.ldc_w index, 3)) (hl : Cond.constant own index v ∈ AW) (kk : CF E S (pc + 3) L (.int v :: st)) : CF E S pc L (st) := fun H locs ls hP hD hS hlv => lv_ldcw C.1 C.2.1 C.2.2.2.1 (C.2.2.2.2.1 _ hl) hdg (kk H locs ls hP hD hS hlv)
theorem cf_ldc2 (C : CX E cc own nL en fr lo) {v : Int64} (hdg : decode cc pc = .ok (.ldc2_w index, 3)) (hl : Cond.constantLong own index v ∈ AW) (kk : CF E S (pc + 3) L (.long v :: st)) : CF E S pc L (st) := fun H locs ls hP hD hS hlv => lv_ldc2 C.1 C.2.1 C.2.2.2.1 (C.2.2.2.2.1 _ hl) hdg (kk H locs ls hP hD hS hlv)
theorem cf_iload_n (C : CX E cc own nL en fr lo) {k : Fin 4} {i : Nat} {x : Int32} (hdg : decode cc pc = .ok (.iload_n k, 1)) (hi : (k : Nat) = i) (q : Nat) (hq : L[q]? = some (i, .int x)) (kk : CF E S (pc + 1) L (.int x :: st)) : CF E S pc L (st) := fun H locs ls hP hD hS hlv => lv_iload_n C.1 C.2.1 hdg hi (lv_at hlv q hq) (kk H locs ls hP hD hS hlv)
theorem cf_iload (C : CX E cc own nL en fr lo) {i : Nat} {x : Int32} (hdg : decode cc pc = .ok (.iload i, 2)) (q : Nat) (hq : L[q]? = some (i, .int x)) (kk : CF E S (pc + 2) L (.int x :: st)) : CF E S pc L (st) := fun H locs ls hP hD hS hlv => lv_iload C.1 C.2.1 hdg (lv_at hlv q hq) (kk H locs ls hP hD hS hlv)
theorem cf_lload_n (C : CX E cc own nL en fr lo) {k : Fin 4} {i : Nat} {x : Int64} (hdg : decode cc pc = .ok (.lload_n k, 1)) (hi : (k : Nat) = i) (q : Nat) (hq : L[q]? = some (i, .long x)) (kk : CF E S (pc + 1) L (.long x :: st)) : CF E S pc L (st) := fun H locs ls hP hD hS hlv => lv_lload_n C.1 C.2.1 hdg hi (lv_at hlv q hq) (kk H locs ls hP hD hS hlv)
theorem cf_lload (C : CX E cc own nL en fr lo) {i : Nat} {x : Int64} (hdg : decode cc pc = .ok (.lload i, 2)) (q : Nat) (hq : L[q]? = some (i, .long x)) (kk : CF E S (pc + 2) L (.long x :: st)) : CF E S pc L (st) := fun H locs ls hP hD hS hlv => lv_lload C.1 C.2.1 hdg (lv_at hlv q hq) (kk H locs ls hP hD hS hlv)
theorem cf_aload_n (C : CX E cc own nL en fr lo) {k : Fin 4} {i : Nat} {x : Nat} (hdg : decode cc pc = .ok (.aload_n k, 1)) (hi : (k : Nat) = i) (q : Nat) (hq : L[q]? = some (i, .ref x)) (kk : CF E S (pc + 1) L (.ref x :: st)) : CF E S pc L (st) := fun H locs ls hP hD hS hlv => lv_aload_n C.1 C.2.1 hdg hi (lv_at hlv q hq) (kk H locs ls hP hD hS hlv)
theorem cf_aload (C : CX E cc own nL en fr lo) {i : Nat} {x : Nat} (hdg : decode cc pc = .ok (.aload i, 2)) (q : Nat) (hq : L[q]? = some (i, .ref x)) (kk : CF E S (pc + 2) L (.ref x :: st)) : CF E S pc L (st) := fun H locs ls hP hD hS hlv => lv_aload C.1 C.2.1 hdg (lv_at hlv q hq) (kk H locs ls hP hD hS hlv)
theorem cf_istore_n (C : CX E cc own nL en fr lo) {k : Fin 4} {i : Nat} {x : Int32} {L1 : List (Nat × Value)} (hdg : decode cc pc = .ok (.istore_n k, 1)) (hi : (k : Nat) = i) (hn : i < nL) (hl : (i, Value.int x) :: L.filter (fun q => !(q.1 == i) && !(q.1 + 1 == i && q.2.category == 2)) = L1) (kk : CF E S (pc + 1) L1 st) : CF E S pc L (.int x :: st) := fun H locs ls hP hD hS hlv => lv_istore_n C.1 C.2.1 hdg hi hlv (cx_nL C hn) hl (fun ls1 hl1 => kk H locs ls1 hP hD hS hl1)
theorem cf_istore (C : CX E cc own nL en fr lo) {i : Nat} {x : Int32} {L1 : List (Nat × Value)} (hdg : decode cc pc = .ok (.istore i, 2)) (hn : i < nL) (hl : (i, Value.int x) :: L.filter (fun q => !(q.1 == i) && !(q.1 + 1 == i && q.2.category == 2)) = L1) (kk : CF E S (pc + 2) L1 st) : CF E S pc L (.int x :: st) := fun H locs ls hP hD hS hlv => lv_istore C.1 C.2.1 hdg hlv (cx_nL C hn) hl (fun ls1 hl1 => kk H locs ls1 hP hD hS hl1)
theorem cf_astore_n (C : CX E cc own nL en fr lo) {k : Fin 4} {i : Nat} {x : Nat} {L1 : List (Nat × Value)} (hdg : decode cc pc = .ok (.astore_n k, 1)) (hi : (k : Nat) = i) (hn : i < nL) (hl : (i, Value.ref x) :: L.filter (fun q => !(q.1 == i) && !(q.1 + 1 == i && q.2.category == 2)) = L1) (kk : CF E S (pc + 1) L1 st) : CF E S pc L (.ref x :: st) := fun H locs ls hP hD hS hlv => lv_astore_n C.1 C.2.1 hdg hi hlv (cx_nL C hn) hl (fun ls1 hl1 => kk H locs ls1 hP hD hS hl1)
theorem cf_astore (C : CX E cc own nL en fr lo) {i : Nat} {x : Nat} {L1 : List (Nat × Value)} (hdg : decode cc pc = .ok (.astore i, 2)) (hn : i < nL) (hl : (i, Value.ref x) :: L.filter (fun q => !(q.1 == i) && !(q.1 + 1 == i && q.2.category == 2)) = L1) (kk : CF E S (pc + 2) L1 st) : CF E S pc L (.ref x :: st) := fun H locs ls hP hD hS hlv => lv_astore C.1 C.2.1 hdg hlv (cx_nL C hn) hl (fun ls1 hl1 => kk H locs ls1 hP hD hS hl1)
theorem cf_lstore_n (C : CX E cc own nL en fr lo) {k : Fin 4} {i : Nat} {x : Int64} {L1 : List (Nat × Value)} (hdg : decode cc pc = .ok (.lstore_n k, 1)) (hi : (k : Nat) = i) (hn : i + 1 < nL) (hl : (i, Value.long x) :: L.filter (fun q => !(q.1 == i) && (!(q.1 == i + 1) && !(q.1 + 1 == i && q.2.category == 2))) = L1) (kk : CF E S (pc + 1) L1 st) : CF E S pc L (.long x :: st) := fun H locs ls hP hD hS hlv => lv_lstore_n C.1 C.2.1 hdg hi hlv (cx_nL C hn) hl (fun ls1 hl1 => kk H locs ls1 hP hD hS hl1)
theorem cf_lstore (C : CX E cc own nL en fr lo) {i : Nat} {x : Int64} {L1 : List (Nat × Value)} (hdg : decode cc pc = .ok (.lstore i, 2)) (hn : i + 1 < nL) (hl : (i, Value.long x) :: L.filter (fun q => !(q.1 == i) && (!(q.1 == i + 1) && !(q.1 + 1 == i && q.2.category == 2))) = L1) (kk : CF E S (pc + 2) L1 st) : CF E S pc L (.long x :: st) := fun H locs ls hP hD hS hlv => lv_lstore C.1 C.2.1 hdg hlv (cx_nL C hn) hl (fun ls1 hl1 => kk H locs ls1 hP hD hS hl1)
theorem cf_iinc (C : CX E cc own nL en fr lo) {i : Nat} {n : Int} {x v : Int32} {L1 : List (Nat × Value)} (hdg : decode cc pc = .ok (.iinc i n, 3)) (q : Nat) (hq : L[q]? = some (i, .int x)) (hv : x + Int32.ofInt n = v) (hn : i < nL) (hl : (i, Value.int v) :: L.filter (fun q => !(q.1 == i) && !(q.1 + 1 == i && q.2.category == 2)) = L1) (kk : CF E S (pc + 3) L1 st) : CF E S pc L st := fun H locs ls hP hD hS hlv => lv_iinc C.1 C.2.1 hdg hlv hq hv (cx_nL C hn) hl (fun ls1 hl1 => kk H locs ls1 hP hD hS hl1)
theorem cf_iadd (C : CX E cc own nL en fr lo) {x y : Int32} (hdg : decode cc pc = .ok (.iadd, 1)) (kk : CF E S (pc + 1) L (.int (x + y) :: st)) : CF E S pc L (.int y :: .int x :: st) := fun H locs ls hP hD hS hlv => lv_iadd C.1 C.2.1 hdg (kk H locs ls hP hD hS hlv)
theorem cf_isub (C : CX E cc own nL en fr lo) {x y : Int32} (hdg : decode cc pc = .ok (.isub, 1)) (kk : CF E S (pc + 1) L (.int (x - y) :: st)) : CF E S pc L (.int y :: .int x :: st) := fun H locs ls hP hD hS hlv => lv_isub C.1 C.2.1 hdg (kk H locs ls hP hD hS hlv)
theorem cf_imul (C : CX E cc own nL en fr lo) {x y : Int32} (hdg : decode cc pc = .ok (.imul, 1)) (kk : CF E S (pc + 1) L (.int (x * y) :: st)) : CF E S pc L (.int y :: .int x :: st) := fun H locs ls hP hD hS hlv => lv_imul C.1 C.2.1 hdg (kk H locs ls hP hD hS hlv)
theorem cf_iand (C : CX E cc own nL en fr lo) {x y : Int32} (hdg : decode cc pc = .ok (.iand, 1)) (kk : CF E S (pc + 1) L (.int (x &&& y) :: st)) : CF E S pc L (.int y :: .int x :: st) := fun H locs ls hP hD hS hlv => lv_iand C.1 C.2.1 hdg (kk H locs ls hP hD hS hlv)
theorem cf_ior (C : CX E cc own nL en fr lo) {x y : Int32} (hdg : decode cc pc = .ok (.ior, 1)) (kk : CF E S (pc + 1) L (.int (x ||| y) :: st)) : CF E S pc L (.int y :: .int x :: st) := fun H locs ls hP hD hS hlv => lv_ior C.1 C.2.1 hdg (kk H locs ls hP hD hS hlv)
theorem cf_ixor (C : CX E cc own nL en fr lo) {x y : Int32} (hdg : decode cc pc = .ok (.ixor, 1)) (kk : CF E S (pc + 1) L (.int (x ^^^ y) :: st)) : CF E S pc L (.int y :: .int x :: st) := fun H locs ls hP hD hS hlv => lv_ixor C.1 C.2.1 hdg (kk H locs ls hP hD hS hlv)
theorem cf_ishl (C : CX E cc own nL en fr lo) {x y : Int32} (hdg : decode cc pc = .ok (.ishl, 1)) (kk : CF E S (pc + 1) L (.int (x <<< (y &&& 31)) :: st)) : CF E S pc L (.int y :: .int x :: st) := fun H locs ls hP hD hS hlv => lv_ishl C.1 C.2.1 hdg (kk H locs ls hP hD hS hlv)
theorem cf_ishr (C : CX E cc own nL en fr lo) {x y : Int32} (hdg : decode cc pc = .ok (.ishr, 1)) (kk : CF E S (pc + 1) L (.int (x >>> (y &&& 31)) :: st)) : CF E S pc L (.int y :: .int x :: st) := fun H locs ls hP hD hS hlv => lv_ishr C.1 C.2.1 hdg (kk H locs ls hP hD hS hlv)
theorem cf_ladd (C : CX E cc own nL en fr lo) {x y : Int64} (hdg : decode cc pc = .ok (.ladd, 1)) (kk : CF E S (pc + 1) L (.long (x + y) :: st)) : CF E S pc L (.long y :: .long x :: st) := fun H locs ls hP hD hS hlv => lv_ladd C.1 C.2.1 hdg (kk H locs ls hP hD hS hlv)
theorem cf_lsub (C : CX E cc own nL en fr lo) {x y : Int64} (hdg : decode cc pc = .ok (.lsub, 1)) (kk : CF E S (pc + 1) L (.long (x - y) :: st)) : CF E S pc L (.long y :: .long x :: st) := fun H locs ls hP hD hS hlv => lv_lsub C.1 C.2.1 hdg (kk H locs ls hP hD hS hlv)
theorem cf_lmul (C : CX E cc own nL en fr lo) {x y : Int64} (hdg : decode cc pc = .ok (.lmul, 1)) (kk : CF E S (pc + 1) L (.long (x * y) :: st)) : CF E S pc L (.long y :: .long x :: st) := fun H locs ls hP hD hS hlv => lv_lmul C.1 C.2.1 hdg (kk H locs ls hP hD hS hlv)
theorem cf_land (C : CX E cc own nL en fr lo) {x y : Int64} (hdg : decode cc pc = .ok (.land, 1)) (kk : CF E S (pc + 1) L (.long (x &&& y) :: st)) : CF E S pc L (.long y :: .long x :: st) := fun H locs ls hP hD hS hlv => lv_land C.1 C.2.1 hdg (kk H locs ls hP hD hS hlv)
theorem cf_lor (C : CX E cc own nL en fr lo) {x y : Int64} (hdg : decode cc pc = .ok (.lor, 1)) (kk : CF E S (pc + 1) L (.long (x ||| y) :: st)) : CF E S pc L (.long y :: .long x :: st) := fun H locs ls hP hD hS hlv => lv_lor C.1 C.2.1 hdg (kk H locs ls hP hD hS hlv)
theorem cf_lxor (C : CX E cc own nL en fr lo) {x y : Int64} (hdg : decode cc pc = .ok (.lxor, 1)) (kk : CF E S (pc + 1) L (.long (x ^^^ y) :: st)) : CF E S pc L (.long y :: .long x :: st) := fun H locs ls hP hD hS hlv => lv_lxor C.1 C.2.1 hdg (kk H locs ls hP hD hS hlv)
theorem cf_ineg (C : CX E cc own nL en fr lo) {x : Int32} (hdg : decode cc pc = .ok (.ineg, 1)) (kk : CF E S (pc + 1) L (.int (-x) :: st)) : CF E S pc L (.int x :: st) := fun H locs ls hP hD hS hlv => lv_ineg C.1 C.2.1 hdg (kk H locs ls hP hD hS hlv)
theorem cf_iushr (C : CX E cc own nL en fr lo) {x y : Int32} (hdg : decode cc pc = .ok (.iushr, 1)) (kk : CF E S (pc + 1) L (.int ((x.toUInt32 >>> (y.toUInt32 &&& Int32.toUInt32 31)).toInt32) :: st)) : CF E S pc L (.int y :: .int x :: st) := fun H locs ls hP hD hS hlv => lv_iushr C.1 C.2.1 hdg rfl (kk H locs ls hP hD hS hlv)
theorem cf_lushr (C : CX E cc own nL en fr lo) {x : Int64} {y : Int32} (hdg : decode cc pc = .ok (.lushr, 1)) (kk : CF E S (pc + 1) L (.long ((x.toUInt64 >>> (y.toInt64.toUInt64 &&& Int64.toUInt64 63)).toInt64) :: st)) : CF E S pc L (.int y :: .long x :: st) := fun H locs ls hP hD hS hlv => lv_lushr C.1 C.2.1 hdg rfl (kk H locs ls hP hD hS hlv)
theorem cf_lshl (C : CX E cc own nL en fr lo) {x : Int64} {y : Int32} (hdg : decode cc pc = .ok (.lshl, 1)) (kk : CF E S (pc + 1) L (.long (x <<< (y.toInt64 &&& 63)) :: st)) : CF E S pc L (.int y :: .long x :: st) := fun H locs ls hP hD hS hlv => lv_lshl C.1 C.2.1 hdg rfl (kk H locs ls hP hD hS hlv)
theorem cf_lshr (C : CX E cc own nL en fr lo) {x : Int64} {y : Int32} (hdg : decode cc pc = .ok (.lshr, 1)) (kk : CF E S (pc + 1) L (.long (x >>> (y.toInt64 &&& 63)) :: st)) : CF E S pc L (.int y :: .long x :: st) := fun H locs ls hP hD hS hlv => lv_lshr C.1 C.2.1 hdg rfl (kk H locs ls hP hD hS hlv)
theorem cf_i2l (C : CX E cc own nL en fr lo) {x : Int32} (hdg : decode cc pc = .ok (.i2l, 1)) (kk : CF E S (pc + 1) L (.long x.toInt64 :: st)) : CF E S pc L (.int x :: st) := fun H locs ls hP hD hS hlv => lv_i2l C.1 C.2.1 hdg rfl (kk H locs ls hP hD hS hlv)
theorem cf_l2i (C : CX E cc own nL en fr lo) {x : Int64} (hdg : decode cc pc = .ok (.l2i, 1)) (kk : CF E S (pc + 1) L (.int x.toInt32 :: st)) : CF E S pc L (.long x :: st) := fun H locs ls hP hD hS hlv => lv_l2i C.1 C.2.1 hdg rfl (kk H locs ls hP hD hS hlv)
theorem cf_i2b (C : CX E cc own nL en fr lo) {x : Int32} (hdg : decode cc pc = .ok (.i2b, 1)) (kk : CF E S (pc + 1) L (.int x.toInt8.toInt32 :: st)) : CF E S pc L (.int x :: st) := fun H locs ls hP hD hS hlv => lv_i2b C.1 C.2.1 hdg rfl (kk H locs ls hP hD hS hlv)
theorem cf_i2s (C : CX E cc own nL en fr lo) {x : Int32} (hdg : decode cc pc = .ok (.i2s, 1)) (kk : CF E S (pc + 1) L (.int x.toInt16.toInt32 :: st)) : CF E S pc L (.int x :: st) := fun H locs ls hP hD hS hlv => lv_i2s C.1 C.2.1 hdg rfl (kk H locs ls hP hD hS hlv)
theorem cf_lcmp (C : CX E cc own nL en fr lo) {x y : Int64} (hdg : decode cc pc = .ok (.lcmp, 1)) (kk : CF E S (pc + 1) L (.int (lg_cmp x y) :: st)) : CF E S pc L (.long y :: .long x :: st) := fun H locs ls hP hD hS hlv => W.lcmp C.1 C.2.1 hdg (kk H locs ls hP hD hS hlv)
theorem cf_idiv (C : CX E cc own nL en fr lo) {x y : Int32} {B : Prop} (hdg : decode cc pc = .ok (.idiv, 1)) (hm : (¬ y = 0) ∧ B) (kk : B → CF E S (pc + 1) L (.int (x / y) :: st)) : CF E S pc L (.int y :: .int x :: st) := fun H locs ls hP hD hS hlv => lv_idiv C.1 C.2.1 hdg hm.1 (kk hm.2 H locs ls hP hD hS hlv)
theorem cf_irem (C : CX E cc own nL en fr lo) {x y : Int32} {B : Prop} (hdg : decode cc pc = .ok (.irem, 1)) (hm : (¬ y = 0) ∧ B) (kk : B → CF E S (pc + 1) L (.int (x - x / y * y) :: st)) : CF E S pc L (.int y :: .int x :: st) := fun H locs ls hP hD hS hlv => lv_irem C.1 C.2.1 hdg hm.1 (kk hm.2 H locs ls hP hD hS hlv)
theorem cf_dup (C : CX E cc own nL en fr lo) {va : Value} (hdg : decode cc pc = .ok (.dup, 1)) (h1 : va.category = 1) (kk : CF E S (pc + 1) L (va :: va :: st)) : CF E S pc L (va :: st) := fun H locs ls hP hD hS hlv => lv_dup C.1 C.2.1 hdg h1 (kk H locs ls hP hD hS hlv)
theorem cf_pop (C : CX E cc own nL en fr lo) {va : Value} (hdg : decode cc pc = .ok (.pop, 1)) (h1 : va.category = 1) (kk : CF E S (pc + 1) L (st)) : CF E S pc L (va :: st) := fun H locs ls hP hD hS hlv => lv_pop C.1 C.2.1 hdg h1 (kk H locs ls hP hD hS hlv)
theorem cf_dup_x1 (C : CX E cc own nL en fr lo) {va vb : Value} (hdg : decode cc pc = .ok (.dup_x1, 1)) (h1 : va.category = 1) (h2 : vb.category = 1) (kk : CF E S (pc + 1) L (va :: vb :: va :: st)) : CF E S pc L (va :: vb :: st) := fun H locs ls hP hD hS hlv => lv_dup_x1 C.1 C.2.1 hdg h1 h2 (kk H locs ls hP hD hS hlv)
theorem cf_dup_x2 (C : CX E cc own nL en fr lo) {va vb vd : Value} (hdg : decode cc pc = .ok (.dup_x2, 1)) (h1 : va.category = 1) (h2 : vb.category = 1) (h3 : vd.category = 1) (kk : CF E S (pc + 1) L (va :: vb :: vd :: va :: st)) : CF E S pc L (va :: vb :: vd :: st) := fun H locs ls hP hD hS hlv => lv_dup_x2 C.1 C.2.1 hdg h1 h2 h3 (kk H locs ls hP hD hS hlv)
theorem cf_dup2 (C : CX E cc own nL en fr lo) {va vb : Value} (hdg : decode cc pc = .ok (.dup2, 1)) (h1 : va.category = 1) (h2 : vb.category = 1) (kk : CF E S (pc + 1) L (va :: vb :: va :: vb :: st)) : CF E S pc L (va :: vb :: st) := fun H locs ls hP hD hS hlv => lv_dup2_11 C.1 C.2.1 hdg h1 h2 (kk H locs ls hP hD hS hlv)
theorem cf_if_eq (C : CX E cc own nL en fr lo) {x : Int32} {off : Int} {tgt : Nat} {A B : Prop} (hdg : decode cc pc = .ok (.ifCond .eq off, 3)) (ht : (pc : Int) + off = (tgt : Int)) (hm : if x = 0 then A else B) (kt : A → CF E S tgt L st) (kf : B → CF E S (pc + 3) L st) : CF E S pc L (.int x :: st) := fun H locs ls hP hD hS hlv => lv_if_eq C.1 C.2.1 hdg ht (fun c => kt (by rw [if_pos c] at hm; exact hm) H locs ls hP hD hS hlv) (fun c => kf (by rw [if_neg c] at hm; exact hm) H locs ls hP hD hS hlv)
theorem cf_icmp_eq (C : CX E cc own nL en fr lo) {x y : Int32} {off : Int} {tgt : Nat} {A B : Prop} (hdg : decode cc pc = .ok (.if_icmp .eq off, 3)) (ht : (pc : Int) + off = (tgt : Int)) (hm : if x = y then A else B) (kt : A → CF E S tgt L st) (kf : B → CF E S (pc + 3) L st) : CF E S pc L (.int y :: .int x :: st) := fun H locs ls hP hD hS hlv => lv_icmp_eq C.1 C.2.1 hdg ht (fun c => kt (by rw [if_pos c] at hm; exact hm) H locs ls hP hD hS hlv) (fun c => kf (by rw [if_neg c] at hm; exact hm) H locs ls hP hD hS hlv)
theorem cf_if_ne (C : CX E cc own nL en fr lo) {x : Int32} {off : Int} {tgt : Nat} {A B : Prop} (hdg : decode cc pc = .ok (.ifCond .ne off, 3)) (ht : (pc : Int) + off = (tgt : Int)) (hm : if x = 0 then B else A) (kt : A → CF E S tgt L st) (kf : B → CF E S (pc + 3) L st) : CF E S pc L (.int x :: st) := fun H locs ls hP hD hS hlv => lv_if_ne C.1 C.2.1 hdg ht (fun c => kt (by rw [if_neg c] at hm; exact hm) H locs ls hP hD hS hlv) (fun c => kf (by rw [if_pos c] at hm; exact hm) H locs ls hP hD hS hlv)
theorem cf_icmp_ne (C : CX E cc own nL en fr lo) {x y : Int32} {off : Int} {tgt : Nat} {A B : Prop} (hdg : decode cc pc = .ok (.if_icmp .ne off, 3)) (ht : (pc : Int) + off = (tgt : Int)) (hm : if x = y then B else A) (kt : A → CF E S tgt L st) (kf : B → CF E S (pc + 3) L st) : CF E S pc L (.int y :: .int x :: st) := fun H locs ls hP hD hS hlv => lv_icmp_ne C.1 C.2.1 hdg ht (fun c => kt (by rw [if_neg c] at hm; exact hm) H locs ls hP hD hS hlv) (fun c => kf (by rw [if_pos c] at hm; exact hm) H locs ls hP hD hS hlv)
theorem cf_if_lt (C : CX E cc own nL en fr lo) {x : Int32} {off : Int} {tgt : Nat} {A B : Prop} (hdg : decode cc pc = .ok (.ifCond .lt off, 3)) (ht : (pc : Int) + off = (tgt : Int)) (hm : if x < 0 then A else B) (kt : A → CF E S tgt L st) (kf : B → CF E S (pc + 3) L st) : CF E S pc L (.int x :: st) := fun H locs ls hP hD hS hlv => lv_if_lt C.1 C.2.1 hdg ht (fun c => kt (by rw [if_pos c] at hm; exact hm) H locs ls hP hD hS hlv) (fun c => kf (by rw [if_neg c] at hm; exact hm) H locs ls hP hD hS hlv)
theorem cf_icmp_lt (C : CX E cc own nL en fr lo) {x y : Int32} {off : Int} {tgt : Nat} {A B : Prop} (hdg : decode cc pc = .ok (.if_icmp .lt off, 3)) (ht : (pc : Int) + off = (tgt : Int)) (hm : if x < y then A else B) (kt : A → CF E S tgt L st) (kf : B → CF E S (pc + 3) L st) : CF E S pc L (.int y :: .int x :: st) := fun H locs ls hP hD hS hlv => lv_icmp_lt C.1 C.2.1 hdg ht (fun c => kt (by rw [if_pos c] at hm; exact hm) H locs ls hP hD hS hlv) (fun c => kf (by rw [if_neg c] at hm; exact hm) H locs ls hP hD hS hlv)
theorem cf_if_ge (C : CX E cc own nL en fr lo) {x : Int32} {off : Int} {tgt : Nat} {A B : Prop} (hdg : decode cc pc = .ok (.ifCond .ge off, 3)) (ht : (pc : Int) + off = (tgt : Int)) (hm : if 0 ≤ x then A else B) (kt : A → CF E S tgt L st) (kf : B → CF E S (pc + 3) L st) : CF E S pc L (.int x :: st) := fun H locs ls hP hD hS hlv => lv_if_ge C.1 C.2.1 hdg ht (fun c => kt (by rw [if_pos c] at hm; exact hm) H locs ls hP hD hS hlv) (fun c => kf (by rw [if_neg c] at hm; exact hm) H locs ls hP hD hS hlv)
theorem cf_icmp_ge (C : CX E cc own nL en fr lo) {x y : Int32} {off : Int} {tgt : Nat} {A B : Prop} (hdg : decode cc pc = .ok (.if_icmp .ge off, 3)) (ht : (pc : Int) + off = (tgt : Int)) (hm : if y ≤ x then A else B) (kt : A → CF E S tgt L st) (kf : B → CF E S (pc + 3) L st) : CF E S pc L (.int y :: .int x :: st) := fun H locs ls hP hD hS hlv => lv_icmp_ge C.1 C.2.1 hdg ht (fun c => kt (by rw [if_pos c] at hm; exact hm) H locs ls hP hD hS hlv) (fun c => kf (by rw [if_neg c] at hm; exact hm) H locs ls hP hD hS hlv)
theorem cf_if_gt (C : CX E cc own nL en fr lo) {x : Int32} {off : Int} {tgt : Nat} {A B : Prop} (hdg : decode cc pc = .ok (.ifCond .gt off, 3)) (ht : (pc : Int) + off = (tgt : Int)) (hm : if 0 < x then A else B) (kt : A → CF E S tgt L st) (kf : B → CF E S (pc + 3) L st) : CF E S pc L (.int x :: st) := fun H locs ls hP hD hS hlv => lv_if_gt C.1 C.2.1 hdg ht (fun c => kt (by rw [if_pos c] at hm; exact hm) H locs ls hP hD hS hlv) (fun c => kf (by rw [if_neg c] at hm; exact hm) H locs ls hP hD hS hlv)
theorem cf_icmp_gt (C : CX E cc own nL en fr lo) {x y : Int32} {off : Int} {tgt : Nat} {A B : Prop} (hdg : decode cc pc = .ok (.if_icmp .gt off, 3)) (ht : (pc : Int) + off = (tgt : Int)) (hm : if y < x then A else B) (kt : A → CF E S tgt L st) (kf : B → CF E S (pc + 3) L st) : CF E S pc L (.int y :: .int x :: st) := fun H locs ls hP hD hS hlv => lv_icmp_gt C.1 C.2.1 hdg ht (fun c => kt (by rw [if_pos c] at hm; exact hm) H locs ls hP hD hS hlv) (fun c => kf (by rw [if_neg c] at hm; exact hm) H locs ls hP hD hS hlv)
theorem cf_if_le (C : CX E cc own nL en fr lo) {x : Int32} {off : Int} {tgt : Nat} {A B : Prop} (hdg : decode cc pc = .ok (.ifCond .le off, 3)) (ht : (pc : Int) + off = (tgt : Int)) (hm : if x ≤ 0 then A else B) (kt : A → CF E S tgt L st) (kf : B → CF E S (pc + 3) L st) : CF E S pc L (.int x :: st) := fun H locs ls hP hD hS hlv => lv_if_le C.1 C.2.1 hdg ht (fun c => kt (by rw [if_pos c] at hm; exact hm) H locs ls hP hD hS hlv) (fun c => kf (by rw [if_neg c] at hm; exact hm) H locs ls hP hD hS hlv)
theorem cf_icmp_le (C : CX E cc own nL en fr lo) {x y : Int32} {off : Int} {tgt : Nat} {A B : Prop} (hdg : decode cc pc = .ok (.if_icmp .le off, 3)) (ht : (pc : Int) + off = (tgt : Int)) (hm : if x ≤ y then A else B) (kt : A → CF E S tgt L st) (kf : B → CF E S (pc + 3) L st) : CF E S pc L (.int y :: .int x :: st) := fun H locs ls hP hD hS hlv => lv_icmp_le C.1 C.2.1 hdg ht (fun c => kt (by rw [if_pos c] at hm; exact hm) H locs ls hP hD hS hlv) (fun c => kf (by rw [if_neg c] at hm; exact hm) H locs ls hP hD hS hlv)
theorem cf_goto (C : CX E cc own nL en fr lo) {off : Int} {tgt : Nat} (hdg : decode cc pc = .ok (.goto off, 3)) (ht : (pc : Int) + off = (tgt : Int)) (kk : CF E S tgt L st) : CF E S pc L st := fun H locs ls hP hD hS hlv => lv_goto C.1 C.2.1 hdg ht (kk H locs ls hP hD hS hlv)
theorem cf_tsOut (C : CX E cc own nL en fr lo) {dflt lo hi : Int} {offs : Array Int} {len : Nat} {x : Int32} {tgt : Nat} (hdg : decode cc pc = .ok (.tableswitch dflt lo hi offs, len)) (h : x.toInt < lo ∨ hi < x.toInt) (ht : (pc : Int) + dflt = (tgt : Int)) (kk : CF E S tgt L st) : CF E S pc L (.int x :: st) := fun H locs ls hP hD hS hlv => lv_tableOut C.1 C.2.1 hdg h ht (kk H locs ls hP hD hS hlv)
theorem cf_tsIn (C : CX E cc own nL en fr lo) {dflt lo hi : Int} {offs : Array Int} {len : Nat} {x : Int32} (z : Int) {off : Int} {tgt : Nat} (hdg : decode cc pc = .ok (.tableswitch dflt lo hi offs, len)) (hx : x.toInt = z) (h1 : ¬ z < lo) (h2 : ¬ hi < z) (ho : offs[(z - lo).toNat]? = some off) (ht : (pc : Int) + off = (tgt : Int)) (kk : CF E S tgt L st) : CF E S pc L (.int x :: st) := fun H locs ls hP hD hS hlv => lv_tableIn C.1 C.2.1 hdg (by rw [hx]; exact h1) (by rw [hx]; exact h2) (by rw [hx]; exact ho) ht (kk H locs ls hP hD hS hlv)
theorem cf_tsD (C : CX E cc own nL en fr lo) {dflt lo1 hi : Int} {offs : Array Int} {len : Nat} {x : Int32} {tgt : Nat} (n : Nat) (keys : List Int) (hdg : decode cc pc = .ok (.tableswitch dflt lo1 hi offs, len)) (hhi : hi + 1 = lo1 + (n : Int)) (hk : ∀ j : Nat, j < n → (lo1 + (j : Int)) ∉ keys → offs[j]? = some dflt) (hx : ∀ k ∈ keys, ¬ x.toInt = k) (ht : (pc : Int) + dflt = (tgt : Int)) (kk : CF E S tgt L st) : CF E S pc L (.int x :: st) := by
  by_cases h1 : x.toInt < lo1
  · exact cf_tsOut C hdg (Or.inl h1) ht kk
  · by_cases h2 : hi < x.toInt
    · exact cf_tsOut C hdg (Or.inr h2) ht kk
    · refine cf_tsIn C x.toInt hdg rfl h1 h2 (hk (x.toInt - lo1).toNat (by omega) (fun hm => ?_)) ht kk
      rw [show lo1 + ((x.toInt - lo1).toNat : Int) = x.toInt by omega] at hm
      exact hx _ hm rfl
theorem cf_sub (C : CX E cc own nL en fr lo) (ks : List Nat) {L1 : List (Nat × Value)} (hl : lv_pick L ks = L1) (kk : CF E S pc L1 st) : CF E S pc L st := fun H locs ls hP hD hS hlv => kk H locs ls hP hD hS (lv_sub hlv ks hl)
def nmS (S1 : St) (P : St → Prop) : Prop := P S1
def nmI (x : Int32) (P : Int32 → Prop) : Prop := P x
def nmL (x : Int64) (P : Int64 → Prop) : Prop := P x
theorem cf_nmS {P : St → Prop} (hm : nmS S P) (kk : ∀ S1, P S1 → CF E S1 pc L st) : CF E S pc L st := kk S hm
theorem cf_nmI {x : Int32} {P : Int32 → Prop} (hm : nmI x P) (kk : ∀ v, P v → CF E S pc L (.int v :: st)) : CF E S pc L (.int x :: st) := kk x hm
theorem cf_nmL {x : Int64} {P : Int64 → Prop} (hm : nmL x P) (kk : ∀ v, P v → CF E S pc L (.long v :: st)) : CF E S pc L (.long x :: st) := kk x hm
theorem cf_lk (C : CX E cc own nL en fr lo) {dflt : Int} {ps : Array (Int × Int)} {len : Nat} {x : Int32} {off : Int} {tgt : Nat} (hdg : decode cc pc = .ok (.lookupswitch dflt ps, len)) (hp : (ps.toList.zip (ps.toList.drop 1)).all (fun (a, next) => a.1 < next.1) = true) (ho : Op.lookupswitch.offset ps.toList dflt x.toInt = off) (ht : (pc : Int) + off = (tgt : Int)) (kk : CF E S tgt L st) : CF E S pc L (.int x :: st) := fun H locs ls hP hD hS hlv => lv_lookup C.1 C.2.1 hdg hp ho ht (kk H locs ls hP hD hS hlv)
theorem ifc {c A B : Prop} [Decidable c] (h : if c then A else B) : (c ∧ A) ∨ (¬ c ∧ B) := by by_cases hc : c <;> simp_all
theorem cf_gs_ABOVE (C : CX E cc own nL en fr lo) (hl : Cond.fieldLink own index "LeftoverRule" "ABOVE" "[I" ∈ AW) (hdg : decode cc pc = .ok (.getstatic index, 3)) (kk : CF E S (pc + 3) L (.ref (vG E).2.2.2.1 :: st)) : CF E S pc L st := fun H locs ls hP hD hS hlv => va_gets C.1 C.2.1 C.2.2.2.2.2.2.2.1.1.1 hS C.2.2.2.1 (C.2.2.2.2.1 _ hl) (fun _ h => h) hdg (kk H locs ls hP hD hS hlv)
theorem cf_gsN_ABOVE (C : CX E cc RX5 nL en fr lo) (hdg : decode cc pc = .ok (.getstatic 50, 3)) (kk : CF E S (pc + 3) L (.ref (vG E).2.2.2.1 :: st)) : CF E S pc L st := fun H locs ls hP hD hS hlv => va_getsN C.1 C.2.1 C.2.2.2.2.2.2.2.1.1.1 hS C.2.2.2.1 (va_Nw.use rfl C.2.2.2.2.2.2.2.2.2.2.2.2.2.2.2) (fun _ h => h) hdg (kk H locs ls hP hD hS hlv)
theorem cf_sl_ABOVE (C : CX E cc own nL en fr lo) {i : Int32} {B : Prop} (hdg : decode cc pc = .ok (.iaload, 1)) (hm : vp_in i 7 ∧ B) (kk : B → CF E S (pc + 1) L (.int (sABV i.toNatClampNeg) :: st)) : CF E S pc L (.int i :: .ref (vG E).2.2.2.1 :: st) := fun H locs ls hP hD hS hlv => va_ti C.1 C.2.1 C.2.2.2.2.2.2.2.1.1.2 hS hm.1 rfl hdg (kk hm.2 H locs ls hP hD hS hlv)
theorem cf_gs_BODIES (C : CX E cc own nL en fr lo) (hl : Cond.fieldLink own index "LeftoverRule" "BODIES" "[I" ∈ AW) (hdg : decode cc pc = .ok (.getstatic index, 3)) (kk : CF E S (pc + 3) L (.ref (vG E).2.2.2.2.1 :: st)) : CF E S pc L st := fun H locs ls hP hD hS hlv => va_gets C.1 C.2.1 C.2.2.2.2.2.2.2.1.2.1.1 hS C.2.2.2.1 (C.2.2.2.2.1 _ hl) (fun _ h => h) hdg (kk H locs ls hP hD hS hlv)
theorem cf_gsN_BODIES (C : CX E cc RX5 nL en fr lo) (hdg : decode cc pc = .ok (.getstatic 47, 3)) (kk : CF E S (pc + 3) L (.ref (vG E).2.2.2.2.1 :: st)) : CF E S pc L st := fun H locs ls hP hD hS hlv => va_getsN C.1 C.2.1 C.2.2.2.2.2.2.2.1.2.1.1 hS C.2.2.2.1 (va_Nw.use rfl C.2.2.2.2.2.2.2.2.2.2.2.2.2.2.1) (fun _ h => h) hdg (kk H locs ls hP hD hS hlv)
theorem cf_sl_BODIES (C : CX E cc own nL en fr lo) {i : Int32} {B : Prop} (hdg : decode cc pc = .ok (.iaload, 1)) (hm : vp_in i 28 ∧ B) (kk : B → CF E S (pc + 1) L (.int (sBOD i.toNatClampNeg) :: st)) : CF E S pc L (.int i :: .ref (vG E).2.2.2.2.1 :: st) := fun H locs ls hP hD hS hlv => va_ti C.1 C.2.1 C.2.2.2.2.2.2.2.1.2.1.2 hS hm.1 rfl hdg (kk hm.2 H locs ls hP hD hS hlv)
theorem cf_gs_NAMES (C : CX E cc own nL en fr lo) (hl : Cond.fieldLink own index "LeftoverRule" "NAMES" "[C" ∈ AW) (hdg : decode cc pc = .ok (.getstatic index, 3)) (kk : CF E S (pc + 3) L (.ref (vG E).2.2.2.2.2 :: st)) : CF E S pc L st := fun H locs ls hP hD hS hlv => va_gets C.1 C.2.1 C.2.2.2.2.2.2.2.1.2.2.1 hS C.2.2.2.1 (C.2.2.2.2.1 _ hl) (fun _ h => h) hdg (kk H locs ls hP hD hS hlv)
theorem cf_gsN_NAMES (C : CX E cc RX2 nL en fr lo) (hdg : decode cc pc = .ok (.getstatic 86, 3)) (kk : CF E S (pc + 3) L (.ref (vG E).2.2.2.2.2 :: st)) : CF E S pc L st := fun H locs ls hP hD hS hlv => va_getsN C.1 C.2.1 C.2.2.2.2.2.2.2.1.2.2.1 hS C.2.2.2.1 (va_Nw.use rfl C.2.2.2.2.2.2.2.2.2.2.2.2.2.1) (fun _ h => h) hdg (kk H locs ls hP hD hS hlv)
theorem cf_sl_NAMES (C : CX E cc own nL en fr lo) {i : Int32} {B : Prop} (hdg : decode cc pc = .ok (.caload, 1)) (hm : vp_in i 6 ∧ B) (kk : B → CF E S (pc + 1) L (.int (sNAM i.toNatClampNeg) :: st)) : CF E S pc L (.int i :: .ref (vG E).2.2.2.2.2 :: st) := fun H locs ls hP hD hS hlv => va_tc C.1 C.2.1 C.2.2.2.2.2.2.2.1.2.2.2 hS hm.1 rfl hdg (kk hm.2 H locs ls hP hD hS hlv)
theorem cf_zald (C : CX E cc own nL enM fr lo) {i : Int32} {B : Prop} (hdg : decode cc pc = .ok (.baload, 1)) (hm : vp_in i 9 ∧ B) (kk : B → CF E S (pc + 1) L (.int (S.2 17 13 i.toNatClampNeg) :: st)) : CF E S pc L (.int i :: .ref (adr (vG E) 17 14) :: st) := by
  intro H locs ls hP hD hS hlv
  obtain ⟨j, hj⟩ := List.getElem?_of_mem (cx_en C (show (17, 14) ∈ enM by decide +kernel))
  exact va_zald C.1 C.2.1 C.2.2.2.2.2.1 hP j 1 ((wld_at hj).trans rfl) rfl hm.1 hdg (kk hm.2 H locs ls hP hD hS hlv)
theorem cf_zast (C : CX E cc own nL enM fr lo) {i x : Int32} {B : Prop} (hdg : decode cc pc = .ok (.bastore, 1)) (hm : vp_in i 9 ∧ B) (kk : B → CF E (stR S 17 13 (upd (S.2 17 13) i.toNatClampNeg (vp_nar .boolean x))) (pc + 1) L st) : CF E S pc L (.int x :: .int i :: .ref (adr (vG E) 17 14) :: st) := by
  intro H locs ls hP hD hS hlv
  obtain ⟨j, hj⟩ := List.getElem?_of_mem (cx_en C (show (17, 14) ∈ enM by decide +kernel))
  refine va_zast C.1 C.2.1 C.2.2.2.2.2.1 hP hD hS j 1 ((wld_at hj).trans rfl) rfl hm.1 hdg (fun H1 locs1 hP1 hD1 hS1 => ?_)
  have e : (wld (vG E) (vN E) S).set j (adr (vG E) 17 14, .inl ((vG E).2.2.1.2.1, 9, .inl (upd (S.2 17 13) i.toNatClampNeg (vp_nar .boolean x)))) = wld (vG E) (vN E) (stR S 17 13 (upd (S.2 17 13) i.toNatClampNeg (vp_nar .boolean x))) := by
    rw [← wld_set C.2.2.2.2.2.2.2.2.1 hj (fun p hp => ecell_stR p hp)]
    congr 1
  have hP1' := e ▸ hP1
  have hD1' := e ▸ hD1
  exact kk hm.2 H1 locs1 ls hP1' hD1' hS1 hlv
theorem cf_aald (C : CX E cc own nL enC fr lo) {i : Int32} {B : Prop} (hdg : decode cc pc = .ok (.aaload, 1)) (hm : vp_in i 4 ∧ B) (kk : B → CF E S (pc + 1) L (.ref (adr (vG E) (13 + i.toNatClampNeg) 0) :: st)) : CF E S pc L (.int i :: .ref (adr (vG E) 0 7) :: st) := by
  intro H locs ls hP hD hS hlv
  obtain ⟨j, hj⟩ := List.getElem?_of_mem (cx_en C (show (0, 7) ∈ enC by decide +kernel))
  exact va_aldq C.1 C.2.1 C.2.2.2.2.2.1 hP j 2 ((wld_at hj).trans rfl) rfl hm.1 hdg (kk hm.2 H locs ls hP hD hS hlv)
theorem vp_lt {i : Int32} {n : Nat} (h : vp_in i n) : i.toNatClampNeg < n := Nat.not_le.mp fun q => h (Or.inr q)
/-- CONTRACTS: a method's start over a store, its end over a store -/
def PRE (G : GX) (en : List (Nat × Nat)) (S : St) (sz : Nat) : State → Prop := fun U => U.heap.size = sz ∧ va_P G.1 vwCl (wld G en S) U.heap ∧ va_K G.1 vwCl (tysG G) U ∧ va_D (fun _ => True) (wld G en S) ∧ sts G (fA G en sz) U U.heap ∧ nst U
def CTi (l : Launch) (y : MethodName) (ws : List Cond) (rm : Room) (G : GX) (en : List (Nat × Nat)) (As : List Value) (S : St) (Q : Int32 → St → Prop) : Prop := ∀ sz : Nat, Met l y ws rm (va_Pc As (PRE G en S sz)) (va_Qi Q (fun u t => va_P G.1 vwCl (wld G en u) t.heap) (fA G en sz)) 0 0 (fA G en sz)
def CTv (l : Launch) (y : MethodName) (ws : List Cond) (rm : Room) (G : GX) (en : List (Nat × Nat)) (As : List Value) (S : St) (Q : St → Prop) : Prop := ∀ sz : Nat, Met l y ws rm (va_Pc As (PRE G en S sz)) (va_Qv Q (fun u t => va_P G.1 vwCl (wld G en u) t.heap) (fA G en sz)) 0 0 (fA G en sz)
def CTr (l : Launch) (y : MethodName) (ws : List Cond) (rm : Room) (G : GX) (en : List (Nat × Nat)) (As : List Value) (S : St) (Q : Nat → St → Prop) : Prop := ∀ sz : Nat, Met l y ws rm (va_Pc As (PRE G en S sz)) (va_Qr (S := Nat × St) (fun u => Q u.1 u.2) (fun u a t => a = adr G u.1 0 ∧ va_P G.1 vwCl (wld G en u.2) t.heap) (fA G en sz)) 0 0 (fA G en sz)
theorem pre_blind {G : GX} {en : List (Nat × Nat)} {S : St} {sz : Nat} {As : List Value} : FrameBlind (va_Pc As (PRE G en S sz)) := fun a U g mk q => ⟨q.1, q.2.1, q.2.2.1, va_K.moved (u := U) (U := U.calling g mk a) (Vm.Alike.refl U.vm) q.2.2.2.1, q.2.2.2.2.1, sts_to (u := U) (U := U.calling g mk a) (Vm.Alike.refl U.vm) (fun _ _ _ => rfl) (fun _ h => h) q.2.2.2.2.2.1, nst_same (U := U.calling g mk a) rfl q.2.2.2.2.2.2⟩
theorem fA_le {G : GX} {en : List (Nat × Nat)} {m n : Nat} (h : m ≤ n) : ∀ q, fA G en n q → fA G en m q := fun _ hq => hq.elim Or.inl (fun h2 => Or.inr (Nat.le_trans h h2))
theorem cx_A (C : CX E cc own nL en fr lo) {H : Heap} {locs : List Loc} (hS : va_S (vA E) (vS E).heap H locs) : ∀ q, fA (vG E) en H.size q → vA E q := fun q h => by
  rw [C.2.2.2.2.2.2.1, C.2.2.2.2.2.2.2.2.2.2.1]
  exact fA_le hS.1 q h
theorem cx_pre (C : CX E cc own nL en fr lo) {H : Heap} {locs : List Loc} (hP : va_P (vG E).1 vwCl (wld (vG E) (vN E) S) H) (hD : va_D (vA E) (wld (vG E) (vN E) S)) (hS : va_S (vA E) (vS E).heap H locs) (U : State) (hU : U.heap = H) (hW : (vS E).WarmedH U.vm) : PRE (vG E) en S H.size U := by
  have hN := C.2.2.2.2.2.2.2.2.2.2.1
  refine ⟨by rw [hU], by rw [hU, ← hN]; exact hP, va_K.moved hW.alike C.2.2.2.2.2.1, by rw [← hN]; exact hD.weaken (fun _ _ _ _ => trivial), ?_, nst_warm hW C.2.2.2.2.2.2.2.2.2.2.2.2.2⟩
  rw [hU]
  exact sts_to hW.alike hS.2.1 (cx_A C hS) C.2.2.2.2.2.2.2.1
theorem gd_code {y : MethodName} {bytes : ByteArray} {maxL : Nat} {ret : Option FieldType} (h : Cond.code y bytes maxL ret ∈ AW) : GoodIn AW (Cond.code y bytes maxL ret :: AW) := fun w hw => (List.mem_cons.mp hw).elim (fun e => by rw [e]; exact ⟨h, good_of_word (aw_good h)⟩) (fun h2 => ⟨h2, good_of_word (aw_good h2)⟩)
/-- what a method's name must be for a call of n arguments -/
def MD (y : MethodName) (n : Nat) : Prop := y.cls ≠ "java/lang/invoke/MethodHandle" ∧ y.cls ≠ "java/lang/invoke/VarHandle" ∧ (parseMethodDescriptor y.desc).map (fun d => d.parameters.length) = some n
theorem cx_callB (C : CX E cc own nL en fr lo) {y : MethodName} {bytes : ByteArray} {maxL n f2 l2 : Nat} {ret : Option FieldType} (hl : Cond.methodLink own index y ∈ AW) (hc : Cond.code y bytes maxL ret ∈ AW) (hi : Cond.initialized y.cls ∈ AW) (hd : MD y n) (hf : f2 + 1 ≤ fr) (ho : 8 + (maxL + 11) + l2 ≤ lo) : CallB (vR E) (vS E) (vAr E) own index y bytes maxL ret (Cond.code y bytes maxL ret :: AW) { frames := f2, cells := 0, slots := 0, locals := l2 } 0 0 n :=
  callB_of n C.2.2.2.2.1 (gd_code hc) rfl rfl rfl (C.2.2.2.2.1 _ hi) (C.2.2.2.2.1 _ hl) hd ⟨Nat.le_trans hf C.2.2.2.2.2.2.2.2.2.2.2.1, Nat.le_trans ho C.2.2.2.2.2.2.2.2.2.2.2.2.1⟩
theorem cx_recv (C : CX E cc own nL en fr lo) {H : Heap} {o k : Nat} {Cn : String} {fs : List Value} (ho : (o, 0) ∈ en) (he : ocell (vG E) o (S.1 o) = .inr (k, fs)) (hk : (vwCl[k]?).map (fun q => q.1) = some Cn) (hP : va_P (vG E).1 vwCl (wld (vG E) (vN E) S) H) : ∃ cell : Cell, H[adr (vG E) o 0]? = some cell ∧ cell.vm.isStatics = false ∧ (vS E).vm.findClass Cn = some cell.cls := by
  obtain ⟨i, hi⟩ := List.getElem?_of_mem (cx_en C ho)
  obtain ⟨q, hq, rfl⟩ := Option.map_eq_some_iff.mp hk
  refine va_recv C.2.2.2.2.2.1 hP (ci := k) (q0 := i) (fs := fs) hq ((wld_at hi).trans (congrArg some (Prod.ext rfl (?_ : ecell (vG E) S (o, 0) = .inr (k, fs)))))
  unfold ecell
  rw [if_pos rfl, he]
theorem cf_callVi (C : CX E cc own nL en fr lo) {y : MethodName} {bytes : ByteArray} {maxL n f2 l2 : Nat} {ret : Option FieldType} {Q : Int32 → St → Prop} {stk : List Value} (As : List Value) (st : List Value) {o k : Nat} {Cn : String} {fs : List Value} (ho : (o, 0) ∈ en) (he : ocell (vG E) o (S.1 o) = .inr (k, fs)) (hk : (vwCl[k]?).map (fun q => q.1) = some Cn) (hI : Cond.instanceMethod y ∈ AW) (hsel : Cond.selects Cn y y ∈ AW) (hM : CTi (vL E) y (Cond.code y bytes maxL ret :: AW) { frames := f2, cells := 0, slots := 0, locals := l2 } (vG E) en (.ref (adr (vG E) o 0) :: As) S Q) (hl : Cond.methodLink own index y ∈ AW) (hc : Cond.code y bytes maxL ret ∈ AW) (hi : Cond.initialized y.cls ∈ AW) (hd : MD y n) (hf : f2 + 1 ≤ fr) (hlo : 8 + (maxL + 11) + l2 ≤ lo) (hn : As.length = n) (hs : stk = As.reverse ++ .ref (adr (vG E) o 0) :: st) (hst : (st.map fun v => v.category).sum ≤ 8) (hdg : decode cc pc = .ok (.invokevirtual index, 3)) (kk : ∀ (r : Int32) (u : St), Q r u → CF E u (pc + 3) L (.int r :: st)) : CF E S pc L stk := by
  intro H locs ls hP hD hS hlv
  subst hs
  exact va_calli (va_runV (As := As) (rest := st) ⟨C.1, C.2.1, C.2.2.1, C.2.2.2.1, C.2.2.2.2.1⟩ (hM H.size) ⟨cx_callB C hl hc hi hd hf hlo, C.2.2.2.2.1 _ hI, C.2.2.2.2.1 _ hsel⟩ ⟨pre_blind, cx_recv C ho he hk hP, fun U hU hW => ⟨rfl, cx_pre C hP hD hS U hU hW⟩⟩ rfl hn (hlv.1.trans rfl) rfl (lv_room hst) hdg ⟨Nat.zero_le _, Nat.zero_le _⟩) hS (fun q _ h => cx_A C hS q h) (cx_A C hS) (fun r u t H1 locs1 ht _ hq hB _ _ hS1 => kk r u hq H1 locs1 ls (by rw [← ht, C.2.2.2.2.2.2.2.2.2.2.1]; exact hB) (va_D_st hD) hS1 hlv)
theorem cf_callSi (C : CX E cc own nL en fr lo) {y : MethodName} {bytes : ByteArray} {maxL n f2 l2 : Nat} {ret : Option FieldType} {Q : Int32 → St → Prop} {stk : List Value} (As : List Value) (st : List Value) (hI : Cond.static y ∈ AW) (hM : CTi (vL E) y (Cond.code y bytes maxL ret :: AW) { frames := f2, cells := 0, slots := 0, locals := l2 } (vG E) en As S Q) (hl : Cond.methodLink own index y ∈ AW) (hc : Cond.code y bytes maxL ret ∈ AW) (hi : Cond.initialized y.cls ∈ AW) (hd : MD y n) (hf : f2 + 1 ≤ fr) (hlo : 8 + (maxL + 11) + l2 ≤ lo) (hn : As.length = n) (hs : stk = As.reverse ++ st) (hst : (st.map fun v => v.category).sum ≤ 8) (hdg : decode cc pc = .ok (.invokestatic index, 3)) (kk : ∀ (r : Int32) (u : St), Q r u → CF E u (pc + 3) L (.int r :: st)) : CF E S pc L stk := by
  intro H locs ls hP hD hS hlv
  subst hs
  exact va_calli (va_runS (As := As) (rest := st) ⟨C.1, C.2.1, C.2.2.1, C.2.2.2.1, C.2.2.2.2.1⟩ (hM H.size) ⟨cx_callB C hl hc hi hd hf hlo, C.2.2.2.2.1 _ hI⟩ ⟨pre_blind, fun U hU hW => ⟨rfl, cx_pre C hP hD hS U hU hW⟩⟩ rfl hn (hlv.1.trans rfl) rfl (lv_room hst) hdg ⟨Nat.zero_le _, Nat.zero_le _⟩) hS (fun q _ h => cx_A C hS q h) (cx_A C hS) (fun r u t H1 locs1 ht _ hq hB _ _ hS1 => kk r u hq H1 locs1 ls (by rw [← ht, C.2.2.2.2.2.2.2.2.2.2.1]; exact hB) (va_D_st hD) hS1 hlv)
theorem cf_callVv (C : CX E cc own nL en fr lo) {y : MethodName} {bytes : ByteArray} {maxL n f2 l2 : Nat} {ret : Option FieldType} {Q : St → Prop} {stk : List Value} (As : List Value) (st : List Value) {o k : Nat} {Cn : String} {fs : List Value} (ho : (o, 0) ∈ en) (he : ocell (vG E) o (S.1 o) = .inr (k, fs)) (hk : (vwCl[k]?).map (fun q => q.1) = some Cn) (hI : Cond.instanceMethod y ∈ AW) (hsel : Cond.selects Cn y y ∈ AW) (hM : CTv (vL E) y (Cond.code y bytes maxL ret :: AW) { frames := f2, cells := 0, slots := 0, locals := l2 } (vG E) en (.ref (adr (vG E) o 0) :: As) S Q) (hl : Cond.methodLink own index y ∈ AW) (hc : Cond.code y bytes maxL ret ∈ AW) (hi : Cond.initialized y.cls ∈ AW) (hd : MD y n) (hf : f2 + 1 ≤ fr) (hlo : 8 + (maxL + 11) + l2 ≤ lo) (hn : As.length = n) (hs : stk = As.reverse ++ .ref (adr (vG E) o 0) :: st) (hst : (st.map fun v => v.category).sum ≤ 8) (hdg : decode cc pc = .ok (.invokevirtual index, 3)) (kk : ∀ (u : St), Q u → CF E u (pc + 3) L st) : CF E S pc L stk := by
  intro H locs ls hP hD hS hlv
  subst hs
  exact va_callv (va_runV (As := As) (rest := st) ⟨C.1, C.2.1, C.2.2.1, C.2.2.2.1, C.2.2.2.2.1⟩ (hM H.size) ⟨cx_callB C hl hc hi hd hf hlo, C.2.2.2.2.1 _ hI, C.2.2.2.2.1 _ hsel⟩ ⟨pre_blind, cx_recv C ho he hk hP, fun U hU hW => ⟨rfl, cx_pre C hP hD hS U hU hW⟩⟩ rfl hn (hlv.1.trans rfl) rfl (lv_room hst) hdg ⟨Nat.zero_le _, Nat.zero_le _⟩) hS (fun q _ h => cx_A C hS q h) (cx_A C hS) (fun u t H1 locs1 ht _ hq hB _ _ hS1 => kk u hq H1 locs1 ls (by rw [← ht, C.2.2.2.2.2.2.2.2.2.2.1]; exact hB) (va_D_st hD) hS1 hlv)
theorem cf_callSv (C : CX E cc own nL en fr lo) {y : MethodName} {bytes : ByteArray} {maxL n f2 l2 : Nat} {ret : Option FieldType} {Q : St → Prop} {stk : List Value} (As : List Value) (st : List Value) (hI : Cond.static y ∈ AW) (hM : CTv (vL E) y (Cond.code y bytes maxL ret :: AW) { frames := f2, cells := 0, slots := 0, locals := l2 } (vG E) en As S Q) (hl : Cond.methodLink own index y ∈ AW) (hc : Cond.code y bytes maxL ret ∈ AW) (hi : Cond.initialized y.cls ∈ AW) (hd : MD y n) (hf : f2 + 1 ≤ fr) (hlo : 8 + (maxL + 11) + l2 ≤ lo) (hn : As.length = n) (hs : stk = As.reverse ++ st) (hst : (st.map fun v => v.category).sum ≤ 8) (hdg : decode cc pc = .ok (.invokestatic index, 3)) (kk : ∀ (u : St), Q u → CF E u (pc + 3) L st) : CF E S pc L stk := by
  intro H locs ls hP hD hS hlv
  subst hs
  exact va_callv (va_runS (As := As) (rest := st) ⟨C.1, C.2.1, C.2.2.1, C.2.2.2.1, C.2.2.2.2.1⟩ (hM H.size) ⟨cx_callB C hl hc hi hd hf hlo, C.2.2.2.2.1 _ hI⟩ ⟨pre_blind, fun U hU hW => ⟨rfl, cx_pre C hP hD hS U hU hW⟩⟩ rfl hn (hlv.1.trans rfl) rfl (lv_room hst) hdg ⟨Nat.zero_le _, Nat.zero_le _⟩) hS (fun q _ h => cx_A C hS q h) (cx_A C hS) (fun u t H1 locs1 ht _ hq hB _ _ hS1 => kk u hq H1 locs1 ls (by rw [← ht, C.2.2.2.2.2.2.2.2.2.2.1]; exact hB) (va_D_st hD) hS1 hlv)
theorem cf_callVr (C : CX E cc own nL en fr lo) {y : MethodName} {bytes : ByteArray} {maxL n f2 l2 : Nat} {ret : Option FieldType} {Q : Nat → St → Prop} {stk : List Value} (As : List Value) (st : List Value) {o k : Nat} {Cn : String} {fs : List Value} (ho : (o, 0) ∈ en) (he : ocell (vG E) o (S.1 o) = .inr (k, fs)) (hk : (vwCl[k]?).map (fun q => q.1) = some Cn) (hI : Cond.instanceMethod y ∈ AW) (hsel : Cond.selects Cn y y ∈ AW) (hM : CTr (vL E) y (Cond.code y bytes maxL ret :: AW) { frames := f2, cells := 0, slots := 0, locals := l2 } (vG E) en (.ref (adr (vG E) o 0) :: As) S Q) (hl : Cond.methodLink own index y ∈ AW) (hc : Cond.code y bytes maxL ret ∈ AW) (hi : Cond.initialized y.cls ∈ AW) (hd : MD y n) (hf : f2 + 1 ≤ fr) (hlo : 8 + (maxL + 11) + l2 ≤ lo) (hn : As.length = n) (hs : stk = As.reverse ++ .ref (adr (vG E) o 0) :: st) (hst : (st.map fun v => v.category).sum ≤ 8) (hdg : decode cc pc = .ok (.invokevirtual index, 3)) (kk : ∀ (r : Nat) (u : St), Q r u → CF E u (pc + 3) L (.ref (adr (vG E) r 0) :: st)) : CF E S pc L stk := by
  intro H locs ls hP hD hS hlv
  subst hs
  exact va_callr (va_runV (As := As) (rest := st) ⟨C.1, C.2.1, C.2.2.1, C.2.2.2.1, C.2.2.2.2.1⟩ (hM H.size) ⟨cx_callB C hl hc hi hd hf hlo, C.2.2.2.2.1 _ hI, C.2.2.2.2.1 _ hsel⟩ ⟨pre_blind, cx_recv C ho he hk hP, fun U hU hW => ⟨rfl, cx_pre C hP hD hS U hU hW⟩⟩ rfl hn (hlv.1.trans rfl) rfl (lv_room hst) hdg ⟨Nat.zero_le _, Nat.zero_le _⟩) hS (fun q _ h => cx_A C hS q h) (cx_A C hS) (fun u a t H1 locs1 ht _ hq hB _ _ hS1 => by
    obtain ⟨rfl, hB⟩ := hB
    exact kk u.1 u.2 hq H1 locs1 ls (by rw [← ht, C.2.2.2.2.2.2.2.2.2.2.1]; exact hB) (va_D_st hD) hS1 hlv)
theorem cf_mmax (C : CX E cc own nL en fr lo) {x y : Int32} (hl : Cond.methodLink own index Lib.Math.max.name ∈ AW) (hI : Cond.static Lib.Math.max.name ∈ AW) (hi : Cond.initialized "java/lang/Math" ∈ AW) (hc : Cond.code Lib.Math.max.name Lib.Math.max.code 2 (some .int) ∈ AW) (hf : 1 ≤ fr) (hlo : 21 ≤ lo) (hst : (st.map fun v => v.category).sum ≤ 8) (hdg : decode cc pc = .ok (.invokestatic index, 3)) (kk : CF E S (pc + 3) L (.int (if x < y then y else x) :: st)) : CF E S pc L (.int y :: .int x :: st) := fun H locs ls hP hD hS hlv => va_mmax C.1 C.2.1 (C.2.2.1.trans hlv.1.symm) C.2.2.2.1 (C.2.2.2.2.1 _ hl) (C.2.2.2.2.1 _ hI) (C.2.2.2.2.1 _ hi) (C.2.2.2.2.1 _ hc) (Nat.le_trans hf C.2.2.2.2.2.2.2.2.2.2.2.1) (Nat.le_trans (Nat.le_trans (Nat.add_le_add_right hst 13) hlo) C.2.2.2.2.2.2.2.2.2.2.2.2.1) (Nat.zero_le _) (Nat.zero_le _) hdg (kk H locs ls hP hD hS hlv)
theorem cf_mmin (C : CX E cc own nL en fr lo) {x y : Int32} (hl : Cond.methodLink own index Lib.Math.min.name ∈ AW) (hI : Cond.static Lib.Math.min.name ∈ AW) (hi : Cond.initialized "java/lang/Math" ∈ AW) (hc : Cond.code Lib.Math.min.name Lib.Math.min.code 2 (some .int) ∈ AW) (hf : 1 ≤ fr) (hlo : 21 ≤ lo) (hst : (st.map fun v => v.category).sum ≤ 8) (hdg : decode cc pc = .ok (.invokestatic index, 3)) (kk : CF E S (pc + 3) L (.int (if y < x then y else x) :: st)) : CF E S pc L (.int y :: .int x :: st) := fun H locs ls hP hD hS hlv => va_mmin C.1 C.2.1 (C.2.2.1.trans hlv.1.symm) C.2.2.2.1 (C.2.2.2.2.1 _ hl) (C.2.2.2.2.1 _ hI) (C.2.2.2.2.1 _ hi) (C.2.2.2.2.1 _ hc) (Nat.le_trans hf C.2.2.2.2.2.2.2.2.2.2.2.1) (Nat.le_trans (Nat.le_trans (Nat.add_le_add_right hst 13) hlo) C.2.2.2.2.2.2.2.2.2.2.2.2.1) (Nat.zero_le _) (Nat.zero_le _) hdg (kk H locs ls hP hD hS hlv)
theorem cf_mabsl (C : CX E cc own nL en fr lo) {x : Int64} (hl : Cond.methodLink own index Lib.MathLoose.abs_long.x ∈ AW) (hI : Cond.static Lib.MathLoose.abs_long.x ∈ AW) (hi : Cond.initialized "java/lang/Math" ∈ AW) (hc : Cond.code Lib.MathLoose.abs_long.x Lib.MathLoose.abs_long.code 2 (some .long) ∈ AW) (hf : 1 ≤ fr) (hlo : 21 ≤ lo) (hst : (st.map fun v => v.category).sum ≤ 8) (hdg : decode cc pc = .ok (.invokestatic index, 3)) (kk : CF E S (pc + 3) L (.long (if 0 < x then x else -x) :: st)) : CF E S pc L (.long x :: st) := fun H locs ls hP hD hS hlv => va_mabs_long C.1 C.2.1 (C.2.2.1.trans hlv.1.symm) C.2.2.2.1 (C.2.2.2.2.1 _ hl) (C.2.2.2.2.1 _ hI) (C.2.2.2.2.1 _ hi) (C.2.2.2.2.1 _ hc) (Nat.le_trans hf C.2.2.2.2.2.2.2.2.2.2.2.1) (Nat.le_trans (Nat.le_trans (Nat.add_le_add_right hst 13) hlo) C.2.2.2.2.2.2.2.2.2.2.2.2.1) (Nat.zero_le _) (Nat.zero_le _) hdg (kk H locs ls hP hD hS hlv)
theorem ct_start_i {l : Launch} {y : MethodName} {cc : ByteArray} {maxL fr lo : Nat} {G : GX} {en : List (Nat × Nat)} {As : List Value} {S : St} {Q : Int32 → St → Prop} (hy : plainName y.cls = true) (hen : en.Nodup) (hsl : (lg_sl As).length ≤ maxL) (body : ∀ E : EV, vG E = G → vL E = l → CX E cc y.cls maxL en fr lo → RTi E cc Q → CF E S 0 (lv_args 0 As) []) : CTi l y (Cond.code y cc maxL (some .int) :: AW) { frames := fr, cells := 0, slots := 0, locals := lo } G en As S Q := by
  intro sz
  refine Met.ofW (cc := cc) (maxL := maxL) (ret := (some .int)) hy rfl ?_
  intro p e s m args below meth c s₁ B hml hv
  obtain ⟨rfl, hsz, hP, hK, hD0, hst, hnst⟩ := hv
  have hts := atoms_spec (ws := Cond.code y cc maxL (some .int) :: AW) B.pre
  have hown : s.vm.findClass y.cls = some m.cls := findClass_of_methodNamed B.named
  subst hsz
  have hD : va_D (fA G en s.heap.size) (wld G en S) := ⟨hD0.1, fun k q hk => by
    obtain ⟨x, h1, rfl⟩ := wld_of hk
    exact Or.inl ⟨x, List.mem_of_getElem? h1, rfl⟩⟩
  have hl := lv_entry As (n := maxL) hsl
  rw [lg_entry_eq]
  generalize (lg_sl As ++ List.replicate (maxL - (lg_sl As).length) Slot.unset).toArray = ls at hl ⊢
  have key := body (p, l, e, { frames := fr, cells := 0, slots := 0, locals := lo }, s, m, As.toArray, below, meth, c, fA G en s.heap.size, MQ below (va_Qi Q (fun u t => va_P G.1 vwCl (wld G en u) t.heap) (fA G en s.heap.size)) As.toArray s 0 0 (fA G en s.heap.size), G, en, maxL) rfl rfl ⟨B.exec, B.bytes, hml, hown, fun w h => hts w (List.mem_cons_of_mem _ h), hK, rfl, hst, hen, rfl, rfl, Nat.le_refl _, Nat.le_refl _, hnst⟩ (by
    intro S1 pc L1 v hd1 hq H1 locs1 ls1 hP1 hD1 hS1 hlv1
    exact W.iret (v := v) B.exec B.bytes B.returns (fun t ht hW => ⟨⟨v, S1, rfl, hq, by show va_P _ _ _ t.heap; rw [ht]; exact hP1⟩, hS1.F ht⟩) hS1.2.2 hd1 B.notSynchronized)
  exact key s.heap [] ls hP hD va_S.rf hl
theorem ct_start_z {l : Launch} {y : MethodName} {cc : ByteArray} {maxL fr lo : Nat} {G : GX} {en : List (Nat × Nat)} {As : List Value} {S : St} {Q : Int32 → St → Prop} (hy : plainName y.cls = true) (hen : en.Nodup) (hsl : (lg_sl As).length ≤ maxL) (body : ∀ E : EV, vG E = G → vL E = l → CX E cc y.cls maxL en fr lo → RTz E cc Q → CF E S 0 (lv_args 0 As) []) : CTi l y (Cond.code y cc maxL (some .boolean) :: AW) { frames := fr, cells := 0, slots := 0, locals := lo } G en As S Q := by
  intro sz
  refine Met.ofW (cc := cc) (maxL := maxL) (ret := (some .boolean)) hy rfl ?_
  intro p e s m args below meth c s₁ B hml hv
  obtain ⟨rfl, hsz, hP, hK, hD0, hst, hnst⟩ := hv
  have hts := atoms_spec (ws := Cond.code y cc maxL (some .boolean) :: AW) B.pre
  have hown : s.vm.findClass y.cls = some m.cls := findClass_of_methodNamed B.named
  subst hsz
  have hD : va_D (fA G en s.heap.size) (wld G en S) := ⟨hD0.1, fun k q hk => by
    obtain ⟨x, h1, rfl⟩ := wld_of hk
    exact Or.inl ⟨x, List.mem_of_getElem? h1, rfl⟩⟩
  have hl := lv_entry As (n := maxL) hsl
  rw [lg_entry_eq]
  generalize (lg_sl As ++ List.replicate (maxL - (lg_sl As).length) Slot.unset).toArray = ls at hl ⊢
  have key := body (p, l, e, { frames := fr, cells := 0, slots := 0, locals := lo }, s, m, As.toArray, below, meth, c, fA G en s.heap.size, MQ below (va_Qi Q (fun u t => va_P G.1 vwCl (wld G en u) t.heap) (fA G en s.heap.size)) As.toArray s 0 0 (fA G en s.heap.size), G, en, maxL) rfl rfl ⟨B.exec, B.bytes, hml, hown, fun w h => hts w (List.mem_cons_of_mem _ h), hK, rfl, hst, hen, rfl, rfl, Nat.le_refl _, Nat.le_refl _, hnst⟩ (by
    intro S1 pc L1 v hd1 hz hq H1 locs1 ls1 hP1 hD1 hS1 hlv1
    exact W.zret (v := v) (ty := .boolean) B.exec B.bytes B.returns (by rcases hz with rfl | rfl <;> rfl) (fun t ht hW => ⟨⟨v, S1, rfl, hq, by show va_P _ _ _ t.heap; rw [ht]; exact hP1⟩, hS1.F ht⟩) hS1.2.2 hd1 B.notSynchronized)
  exact key s.heap [] ls hP hD va_S.rf hl
theorem ct_start_v {l : Launch} {y : MethodName} {cc : ByteArray} {maxL fr lo : Nat} {G : GX} {en : List (Nat × Nat)} {As : List Value} {S : St} {Q : St → Prop} (hy : plainName y.cls = true) (hen : en.Nodup) (hsl : (lg_sl As).length ≤ maxL) (body : ∀ E : EV, vG E = G → vL E = l → CX E cc y.cls maxL en fr lo → RTv E cc Q → CF E S 0 (lv_args 0 As) []) : CTv l y (Cond.code y cc maxL none :: AW) { frames := fr, cells := 0, slots := 0, locals := lo } G en As S Q := by
  intro sz
  refine Met.ofW (cc := cc) (maxL := maxL) (ret := none) hy rfl ?_
  intro p e s m args below meth c s₁ B hml hv
  obtain ⟨rfl, hsz, hP, hK, hD0, hst, hnst⟩ := hv
  have hts := atoms_spec (ws := Cond.code y cc maxL none :: AW) B.pre
  have hown : s.vm.findClass y.cls = some m.cls := findClass_of_methodNamed B.named
  subst hsz
  have hD : va_D (fA G en s.heap.size) (wld G en S) := ⟨hD0.1, fun k q hk => by
    obtain ⟨x, h1, rfl⟩ := wld_of hk
    exact Or.inl ⟨x, List.mem_of_getElem? h1, rfl⟩⟩
  have hl := lv_entry As (n := maxL) hsl
  rw [lg_entry_eq]
  generalize (lg_sl As ++ List.replicate (maxL - (lg_sl As).length) Slot.unset).toArray = ls at hl ⊢
  have key := body (p, l, e, { frames := fr, cells := 0, slots := 0, locals := lo }, s, m, As.toArray, below, meth, c, fA G en s.heap.size, MQ below (va_Qv Q (fun u t => va_P G.1 vwCl (wld G en u) t.heap) (fA G en s.heap.size)) As.toArray s 0 0 (fA G en s.heap.size), G, en, maxL) rfl rfl ⟨B.exec, B.bytes, hml, hown, fun w h => hts w (List.mem_cons_of_mem _ h), hK, rfl, hst, hen, rfl, rfl, Nat.le_refl _, Nat.le_refl _, hnst⟩ (by
    intro S1 pc L1 hd1 hq H1 locs1 ls1 hP1 hD1 hS1 hlv1
    exact W.vret B.exec B.bytes B.returns (fun t ht hW => ⟨⟨S1, rfl, hq, by show va_P _ _ _ t.heap; rw [ht]; exact hP1⟩, hS1.F ht⟩) hS1.2.2 hd1 B.notSynchronized)
  exact key s.heap [] ls hP hD va_S.rf hl
theorem ct_start_r {nm : String} {l : Launch} {y : MethodName} {cc : ByteArray} {maxL fr lo : Nat} {G : GX} {en : List (Nat × Nat)} {As : List Value} {S : St} {Q : Nat → St → Prop} (hy : plainName y.cls = true) (hen : en.Nodup) (hsl : (lg_sl As).length ≤ maxL) (body : ∀ E : EV, vG E = G → vL E = l → CX E cc y.cls maxL en fr lo → RTr E cc Q → CF E S 0 (lv_args 0 As) []) : CTr l y (Cond.code y cc maxL (some (.object nm)) :: AW) { frames := fr, cells := 0, slots := 0, locals := lo } G en As S Q := by
  intro sz
  refine Met.ofW (cc := cc) (maxL := maxL) (ret := (some (.object nm))) hy rfl ?_
  intro p e s m args below meth c s₁ B hml hv
  obtain ⟨rfl, hsz, hP, hK, hD0, hst, hnst⟩ := hv
  have hts := atoms_spec (ws := Cond.code y cc maxL (some (.object nm)) :: AW) B.pre
  have hown : s.vm.findClass y.cls = some m.cls := findClass_of_methodNamed B.named
  subst hsz
  have hD : va_D (fA G en s.heap.size) (wld G en S) := ⟨hD0.1, fun k q hk => by
    obtain ⟨x, h1, rfl⟩ := wld_of hk
    exact Or.inl ⟨x, List.mem_of_getElem? h1, rfl⟩⟩
  have hl := lv_entry As (n := maxL) hsl
  rw [lg_entry_eq]
  generalize (lg_sl As ++ List.replicate (maxL - (lg_sl As).length) Slot.unset).toArray = ls at hl ⊢
  have key := body (p, l, e, { frames := fr, cells := 0, slots := 0, locals := lo }, s, m, As.toArray, below, meth, c, fA G en s.heap.size, MQ below (va_Qr (S := Nat × St) (fun u => Q u.1 u.2) (fun u a t => a = adr G u.1 0 ∧ va_P G.1 vwCl (wld G en u.2) t.heap) (fA G en s.heap.size)) As.toArray s 0 0 (fA G en s.heap.size), G, en, maxL) rfl rfl ⟨B.exec, B.bytes, hml, hown, fun w h => hts w (List.mem_cons_of_mem _ h), hK, rfl, hst, hen, rfl, rfl, Nat.le_refl _, Nat.le_refl _, hnst⟩ (by
    intro S1 pc L1 r hd1 hq H1 locs1 ls1 hP1 hD1 hS1 hlv1
    exact W.aret (v := .ref (adr G r 0)) B.exec B.bytes B.returns (Or.inl ⟨nm, rfl⟩) (Or.inr ⟨_, rfl⟩) (fun t ht hW => ⟨⟨(r, S1), adr G r 0, rfl, hq, rfl, by show va_P _ _ _ t.heap; rw [ht]; exact hP1⟩, hS1.F ht⟩) hS1.2.2 hd1 B.notSynchronized)
  exact key s.heap [] ls hP hD va_S.rf hl
theorem gf_0_0 (C : CX E cc own nL en fr lo) (hin : ∀ w ∈ wsX00, w ∈ AW) {o : Nat} (ho : okO en o 0) (hl : Cond.fieldLink own index "LeftoverRule$House" "claim" "LLeftoverRule$Law;" ∈ AW) (hdg : decode cc pc = .ok (.getfield index, 3)) (kk : CF E S (pc + 3) L (.ref (adr (vG E) (rf o 0) 0) :: st)) : CF E S pc L (.ref (adr (vG E) o 0) :: st) := cf_get C (ci := 0) (T := TX0) (N := 8) rfl hin ho.1 (ocell_0 ho.2.1) 0 (by decide) hl rfl hdg rfl kk
theorem gf_0_1 (C : CX E cc own nL en fr lo) (hin : ∀ w ∈ wsX00, w ∈ AW) {o : Nat} (ho : okO en o 0) (hl : Cond.fieldLink own index "LeftoverRule$House" "keeping" "LLeftoverRule$Law;" ∈ AW) (hdg : decode cc pc = .ok (.getfield index, 3)) (kk : CF E S (pc + 3) L (.ref (adr (vG E) (rf o 1) 0) :: st)) : CF E S pc L (.ref (adr (vG E) o 0) :: st) := cf_get C (ci := 0) (T := TX0) (N := 8) rfl hin ho.1 (ocell_0 ho.2.1) 1 (by decide) hl rfl hdg rfl kk
theorem gf_0_2 (C : CX E cc own nL en fr lo) (hin : ∀ w ∈ wsX00, w ∈ AW) {o : Nat} (ho : okO en o 0) (hl : Cond.fieldLink own index "LeftoverRule$House" "table" "LLeftoverRule$Table;" ∈ AW) (hdg : decode cc pc = .ok (.getfield index, 3)) (kk : CF E S (pc + 3) L (.ref (adr (vG E) (rf o 2) 0) :: st)) : CF E S pc L (.ref (adr (vG E) o 0) :: st) := cf_get C (ci := 0) (T := TX0) (N := 8) rfl hin ho.1 (ocell_0 ho.2.1) 2 (by decide) hl rfl hdg rfl kk
theorem gf_0_3 (C : CX E cc own nL en fr lo) (hin : ∀ w ∈ wsX00, w ∈ AW) {o : Nat} (ho : okO en o 0) (hl : Cond.fieldLink own index "LeftoverRule$House" "tape" "[I" ∈ AW) (hdg : decode cc pc = .ok (.getfield index, 3)) (kk : CF E S (pc + 3) L (.ref (adr (vG E) o 4) :: st)) : CF E S pc L (.ref (adr (vG E) o 0) :: st) := cf_get C (ci := 0) (T := TX0) (N := 8) rfl hin ho.1 (ocell_0 ho.2.1) 3 (by decide) hl rfl hdg rfl kk
theorem gf_0_4 (C : CX E cc own nL en fr lo) (hin : ∀ w ∈ wsX00, w ∈ AW) {o : Nat} (ho : okO en o 0) (hl : Cond.fieldLink own index "LeftoverRule$House" "taped" "I" ∈ AW) (hdg : decode cc pc = .ok (.getfield index, 3)) (kk : CF E S (pc + 3) L (.int (S.1 o 4) :: st)) : CF E S pc L (.ref (adr (vG E) o 0) :: st) := cf_get C (ci := 0) (T := TX0) (N := 8) rfl hin ho.1 (ocell_0 ho.2.1) 4 (by decide) hl rfl hdg rfl kk
theorem pf_0_4 (C : CX E cc own nL en fr lo) (hin : ∀ w ∈ wsX00, w ∈ AW) {o : Nat} {x : Int32} (ho : okO en o 0) (hl : Cond.fieldLink own index "LeftoverRule$House" "taped" "I" ∈ AW) (hdg : decode cc pc = .ok (.putfield index, 3)) (kk : CF E (stI S o 4 x) (pc + 3) L st) : CF E S pc L (.int x :: .ref (adr (vG E) o 0) :: st) := cf_put C (ci := 0) (T := TX0) (N := 8) rfl hin tyX0 tyX0_ok nmX0 ho.1 (ocell_0 ho.2.1) 4 (by decide) (ocell_0 ho.2.1) hl rfl rfl (ty := .int) (by decide +kernel) rfl rfl (by simp [oc0]) (by simp [oc0, stI]) hdg kk
theorem gf_0_5 (C : CX E cc own nL en fr lo) (hin : ∀ w ∈ wsX00, w ∈ AW) {o : Nat} (ho : okO en o 0) (hl : Cond.fieldLink own index "LeftoverRule$House" "waits" "[I" ∈ AW) (hdg : decode cc pc = .ok (.getfield index, 3)) (kk : CF E S (pc + 3) L (.ref (adr (vG E) o 6) :: st)) : CF E S pc L (.ref (adr (vG E) o 0) :: st) := cf_get C (ci := 0) (T := TX0) (N := 8) rfl hin ho.1 (ocell_0 ho.2.1) 5 (by decide) hl rfl hdg rfl kk
theorem gf_0_6 (C : CX E cc own nL en fr lo) (hin : ∀ w ∈ wsX00, w ∈ AW) {o : Nat} (ho : okO en o 0) (hl : Cond.fieldLink own index "LeftoverRule$House" "waiting" "I" ∈ AW) (hdg : decode cc pc = .ok (.getfield index, 3)) (kk : CF E S (pc + 3) L (.int (S.1 o 6) :: st)) : CF E S pc L (.ref (adr (vG E) o 0) :: st) := cf_get C (ci := 0) (T := TX0) (N := 8) rfl hin ho.1 (ocell_0 ho.2.1) 6 (by decide) hl rfl hdg rfl kk
theorem pf_0_6 (C : CX E cc own nL en fr lo) (hin : ∀ w ∈ wsX00, w ∈ AW) {o : Nat} {x : Int32} (ho : okO en o 0) (hl : Cond.fieldLink own index "LeftoverRule$House" "waiting" "I" ∈ AW) (hdg : decode cc pc = .ok (.putfield index, 3)) (kk : CF E (stI S o 6 x) (pc + 3) L st) : CF E S pc L (.int x :: .ref (adr (vG E) o 0) :: st) := cf_put C (ci := 0) (T := TX0) (N := 8) rfl hin tyX0 tyX0_ok nmX0 ho.1 (ocell_0 ho.2.1) 6 (by decide) (ocell_0 ho.2.1) hl rfl rfl (ty := .int) (by decide +kernel) rfl rfl (by simp [oc0]) (by simp [oc0, stI]) hdg kk
theorem gf_0_7 (C : CX E cc own nL en fr lo) (hin : ∀ w ∈ wsX00, w ∈ AW) {o : Nat} (ho : okO en o 0) (hl : Cond.fieldLink own index "LeftoverRule$House" "z" "I" ∈ AW) (hdg : decode cc pc = .ok (.getfield index, 3)) (kk : CF E S (pc + 3) L (.int (S.1 o 7) :: st)) : CF E S pc L (.ref (adr (vG E) o 0) :: st) := cf_get C (ci := 0) (T := TX0) (N := 8) rfl hin ho.1 (ocell_0 ho.2.1) 7 (by decide) hl rfl hdg rfl kk
theorem pf_0_7 (C : CX E cc own nL en fr lo) (hin : ∀ w ∈ wsX00, w ∈ AW) {o : Nat} {x : Int32} (ho : okO en o 0) (hl : Cond.fieldLink own index "LeftoverRule$House" "z" "I" ∈ AW) (hdg : decode cc pc = .ok (.putfield index, 3)) (kk : CF E (stI S o 7 x) (pc + 3) L st) : CF E S pc L (.int x :: .ref (adr (vG E) o 0) :: st) := cf_put C (ci := 0) (T := TX0) (N := 8) rfl hin tyX0 tyX0_ok nmX0 ho.1 (ocell_0 ho.2.1) 7 (by decide) (ocell_0 ho.2.1) hl rfl rfl (ty := .int) (by decide +kernel) rfl rfl (by simp [oc0]) (by simp [oc0, stI]) hdg kk
theorem gf_1_0 (C : CX E cc own nL en fr lo) (hin : ∀ w ∈ wsX10, w ∈ AW) {o : Nat} (ho : okO en o 1) (hl : Cond.fieldLink own index "LeftoverRule$Law" "most" "I" ∈ AW) (hdg : decode cc pc = .ok (.getfield index, 3)) (kk : CF E S (pc + 3) L (.int (S.1 o 0) :: st)) : CF E S pc L (.ref (adr (vG E) o 0) :: st) := cf_get C (ci := 1) (T := TX1) (N := 5) rfl hin ho.1 (ocell_1 ho.2.1) 0 (by decide) hl rfl hdg rfl kk
theorem gf_1_1 (C : CX E cc own nL en fr lo) (hin : ∀ w ∈ wsX10, w ∈ AW) {o : Nat} (ho : okO en o 1) (hl : Cond.fieldLink own index "LeftoverRule$Law" "ofFlavours" "Z" ∈ AW) (hdg : decode cc pc = .ok (.getfield index, 3)) (kk : CF E S (pc + 3) L (.int (S.1 o 1) :: st)) : CF E S pc L (.ref (adr (vG E) o 0) :: st) := cf_get C (ci := 1) (T := TX1) (N := 5) rfl hin ho.1 (ocell_1 ho.2.1) 1 (by decide) hl rfl hdg rfl kk
theorem gf_1_2 (C : CX E cc own nL en fr lo) (hin : ∀ w ∈ wsX10, w ∈ AW) {o : Nat} (ho : okO en o 1) (hl : Cond.fieldLink own index "LeftoverRule$Law" "steps" "[I" ∈ AW) (hdg : decode cc pc = .ok (.getfield index, 3)) (kk : CF E S (pc + 3) L (.ref (adr (vG E) o 3) :: st)) : CF E S pc L (.ref (adr (vG E) o 0) :: st) := cf_get C (ci := 1) (T := TX1) (N := 5) rfl hin ho.1 (ocell_1 ho.2.1) 2 (by decide) hl rfl hdg rfl kk
theorem gf_1_3 (C : CX E cc own nL en fr lo) (hin : ∀ w ∈ wsX10, w ∈ AW) {o : Nat} (ho : okO en o 1) (hl : Cond.fieldLink own index "LeftoverRule$Law" "stack" "[I" ∈ AW) (hdg : decode cc pc = .ok (.getfield index, 3)) (kk : CF E S (pc + 3) L (.ref (adr (vG E) o 4) :: st)) : CF E S pc L (.ref (adr (vG E) o 0) :: st) := cf_get C (ci := 1) (T := TX1) (N := 5) rfl hin ho.1 (ocell_1 ho.2.1) 3 (by decide) hl rfl hdg rfl kk
theorem gf_1_4 (C : CX E cc own nL en fr lo) (hin : ∀ w ∈ wsX10, w ∈ AW) {o : Nat} (ho : okO en o 1) (hl : Cond.fieldLink own index "LeftoverRule$Law" "length" "I" ∈ AW) (hdg : decode cc pc = .ok (.getfield index, 3)) (kk : CF E S (pc + 3) L (.int (S.1 o 4) :: st)) : CF E S pc L (.ref (adr (vG E) o 0) :: st) := cf_get C (ci := 1) (T := TX1) (N := 5) rfl hin ho.1 (ocell_1 ho.2.1) 4 (by decide) hl rfl hdg rfl kk
theorem pf_1_4 (C : CX E cc own nL en fr lo) (hin : ∀ w ∈ wsX10, w ∈ AW) {o : Nat} {x : Int32} (ho : okO en o 1) (hl : Cond.fieldLink own index "LeftoverRule$Law" "length" "I" ∈ AW) (hdg : decode cc pc = .ok (.putfield index, 3)) (kk : CF E (stI S o 4 x) (pc + 3) L st) : CF E S pc L (.int x :: .ref (adr (vG E) o 0) :: st) := cf_put C (ci := 1) (T := TX1) (N := 5) rfl hin tyX1 tyX1_ok nmX1 ho.1 (ocell_1 ho.2.1) 4 (by decide) (ocell_1 ho.2.1) hl rfl rfl (ty := .int) (by decide +kernel) rfl rfl (by simp [oc1]) (by simp [oc1, stI]) hdg kk
theorem gf_2_0 (C : CX E cc own nL en fr lo) (hin : ∀ w ∈ wsX20, w ∈ AW) (ho : okO en 11 2) (hl : Cond.fieldLink own index "LeftoverRule$Reader" "draft" "LLeftoverRule$Law;" ∈ AW) (hdg : decode cc pc = .ok (.getfield index, 3)) (kk : CF E S (pc + 3) L (.ref (adr (vG E) 10 0) :: st)) : CF E S pc L (.ref (adr (vG E) 11 0) :: st) := cf_get C (ci := 2) (T := TX2) (N := 6) rfl hin ho.1 (ocell_2 ho.2.1) 0 (by decide) hl rfl hdg rfl kk
theorem gf_2_1 (C : CX E cc own nL en fr lo) (hin : ∀ w ∈ wsX20, w ∈ AW) (ho : okO en 11 2) (hl : Cond.fieldLink own index "LeftoverRule$Reader" "bytes" "[I" ∈ AW) (hdg : decode cc pc = .ok (.getfield index, 3)) (kk : CF E S (pc + 3) L (.ref (adr (vG E) 11 2) :: st)) : CF E S pc L (.ref (adr (vG E) 11 0) :: st) := cf_get C (ci := 2) (T := TX2) (N := 6) rfl hin ho.1 (ocell_2 ho.2.1) 1 (by decide) hl rfl hdg rfl kk
theorem gf_2_2 (C : CX E cc own nL en fr lo) (hin : ∀ w ∈ wsX20, w ∈ AW) (ho : okO en 11 2) (hl : Cond.fieldLink own index "LeftoverRule$Reader" "length" "I" ∈ AW) (hdg : decode cc pc = .ok (.getfield index, 3)) (kk : CF E S (pc + 3) L (.int (S.1 11 2) :: st)) : CF E S pc L (.ref (adr (vG E) 11 0) :: st) := cf_get C (ci := 2) (T := TX2) (N := 6) rfl hin ho.1 (ocell_2 ho.2.1) 2 (by decide) hl rfl hdg rfl kk
theorem pf_2_2 (C : CX E cc own nL en fr lo) (hin : ∀ w ∈ wsX20, w ∈ AW) {x : Int32} (ho : okO en 11 2) (hl : Cond.fieldLink own index "LeftoverRule$Reader" "length" "I" ∈ AW) (hdg : decode cc pc = .ok (.putfield index, 3)) (kk : CF E (stI S 11 2 x) (pc + 3) L st) : CF E S pc L (.int x :: .ref (adr (vG E) 11 0) :: st) := cf_put C (ci := 2) (T := TX2) (N := 6) rfl hin tyX2 tyX2_ok nmX2 ho.1 (ocell_2 ho.2.1) 2 (by decide) (ocell_2 ho.2.1) hl rfl rfl (ty := .int) (by decide +kernel) rfl rfl (by simp [oc2]) (by simp [oc2, stI]) hdg kk
theorem gf_2_3 (C : CX E cc own nL en fr lo) (hin : ∀ w ∈ wsX20, w ∈ AW) (ho : okO en 11 2) (hl : Cond.fieldLink own index "LeftoverRule$Reader" "place" "I" ∈ AW) (hdg : decode cc pc = .ok (.getfield index, 3)) (kk : CF E S (pc + 3) L (.int (S.1 11 3) :: st)) : CF E S pc L (.ref (adr (vG E) 11 0) :: st) := cf_get C (ci := 2) (T := TX2) (N := 6) rfl hin ho.1 (ocell_2 ho.2.1) 3 (by decide) hl rfl hdg rfl kk
theorem pf_2_3 (C : CX E cc own nL en fr lo) (hin : ∀ w ∈ wsX20, w ∈ AW) {x : Int32} (ho : okO en 11 2) (hl : Cond.fieldLink own index "LeftoverRule$Reader" "place" "I" ∈ AW) (hdg : decode cc pc = .ok (.putfield index, 3)) (kk : CF E (stI S 11 3 x) (pc + 3) L st) : CF E S pc L (.int x :: .ref (adr (vG E) 11 0) :: st) := cf_put C (ci := 2) (T := TX2) (N := 6) rfl hin tyX2 tyX2_ok nmX2 ho.1 (ocell_2 ho.2.1) 3 (by decide) (ocell_2 ho.2.1) hl rfl rfl (ty := .int) (by decide +kernel) rfl rfl (by simp [oc2]) (by simp [oc2, stI]) hdg kk
theorem gf_2_4 (C : CX E cc own nL en fr lo) (hin : ∀ w ∈ wsX20, w ∈ AW) (ho : okO en 11 2) (hl : Cond.fieldLink own index "LeftoverRule$Reader" "use" "I" ∈ AW) (hdg : decode cc pc = .ok (.getfield index, 3)) (kk : CF E S (pc + 3) L (.int (S.1 11 4) :: st)) : CF E S pc L (.ref (adr (vG E) 11 0) :: st) := cf_get C (ci := 2) (T := TX2) (N := 6) rfl hin ho.1 (ocell_2 ho.2.1) 4 (by decide) hl rfl hdg rfl kk
theorem pf_2_4 (C : CX E cc own nL en fr lo) (hin : ∀ w ∈ wsX20, w ∈ AW) {x : Int32} (ho : okO en 11 2) (hl : Cond.fieldLink own index "LeftoverRule$Reader" "use" "I" ∈ AW) (hdg : decode cc pc = .ok (.putfield index, 3)) (kk : CF E (stI S 11 4 x) (pc + 3) L st) : CF E S pc L (.int x :: .ref (adr (vG E) 11 0) :: st) := cf_put C (ci := 2) (T := TX2) (N := 6) rfl hin tyX2 tyX2_ok nmX2 ho.1 (ocell_2 ho.2.1) 4 (by decide) (ocell_2 ho.2.1) hl rfl rfl (ty := .int) (by decide +kernel) rfl rfl (by simp [oc2]) (by simp [oc2, stI]) hdg kk
theorem gf_2_5 (C : CX E cc own nL en fr lo) (hin : ∀ w ∈ wsX20, w ∈ AW) (ho : okO en 11 2) (hl : Cond.fieldLink own index "LeftoverRule$Reader" "faulty" "Z" ∈ AW) (hdg : decode cc pc = .ok (.getfield index, 3)) (kk : CF E S (pc + 3) L (.int (S.1 11 5) :: st)) : CF E S pc L (.ref (adr (vG E) 11 0) :: st) := cf_get C (ci := 2) (T := TX2) (N := 6) rfl hin ho.1 (ocell_2 ho.2.1) 5 (by decide) hl rfl hdg rfl kk
theorem pf_2_5 (C : CX E cc own nL en fr lo) (hin : ∀ w ∈ wsX20, w ∈ AW) {x : Int32} (hz : x = 0 ∨ x = 1) (ho : okO en 11 2) (hl : Cond.fieldLink own index "LeftoverRule$Reader" "faulty" "Z" ∈ AW) (hdg : decode cc pc = .ok (.putfield index, 3)) (kk : CF E (stI S 11 5 x) (pc + 3) L st) : CF E S pc L (.int x :: .ref (adr (vG E) 11 0) :: st) := cf_put C (ci := 2) (T := TX2) (N := 6) rfl hin tyX2 tyX2_ok nmX2 ho.1 (ocell_2 ho.2.1) 5 (by decide) (ocell_2 ho.2.1) hl rfl rfl (ty := .boolean) (by decide +kernel) (by rcases hz with rfl | rfl <;> rfl) (by rcases hz with rfl | rfl <;> rfl) (by simp [oc2]) (by simp [oc2, stI]) hdg kk
theorem gf_3_0 (C : CX E cc own nL en fr lo) (hin : ∀ w ∈ wsX30, w ∈ AW) {o : Nat} (ho : okO en o 3) (hl : Cond.fieldLink own index "LeftoverRule$Sheet" "bits" "I" ∈ AW) (hdg : decode cc pc = .ok (.getfield index, 3)) (kk : CF E S (pc + 3) L (.int (S.1 o 0) :: st)) : CF E S pc L (.ref (adr (vG E) o 0) :: st) := cf_get C (ci := 3) (T := TX3) (N := 3) rfl hin ho.1 (ocell_3 ho.2.1) 0 (by decide) hl rfl hdg rfl kk
theorem pf_3_0 (C : CX E cc own nL en fr lo) (hin : ∀ w ∈ wsX30, w ∈ AW) {o : Nat} {x : Int32} (ho : okO en o 3) (hl : Cond.fieldLink own index "LeftoverRule$Sheet" "bits" "I" ∈ AW) (hdg : decode cc pc = .ok (.putfield index, 3)) (kk : CF E (stI S o 0 x) (pc + 3) L st) : CF E S pc L (.int x :: .ref (adr (vG E) o 0) :: st) := cf_put C (ci := 3) (T := TX3) (N := 3) rfl hin tyX3 tyX3_ok nmX3 ho.1 (ocell_3 ho.2.1) 0 (by decide) (ocell_3 ho.2.1) hl rfl rfl (ty := .int) (by decide +kernel) rfl rfl (by simp [oc3]) (by simp [oc3, stI]) hdg kk
theorem gf_3_1 (C : CX E cc own nL en fr lo) (hin : ∀ w ∈ wsX30, w ∈ AW) {o : Nat} (ho : okO en o 3) (hl : Cond.fieldLink own index "LeftoverRule$Sheet" "length" "I" ∈ AW) (hdg : decode cc pc = .ok (.getfield index, 3)) (kk : CF E S (pc + 3) L (.int (S.1 o 1) :: st)) : CF E S pc L (.ref (adr (vG E) o 0) :: st) := cf_get C (ci := 3) (T := TX3) (N := 3) rfl hin ho.1 (ocell_3 ho.2.1) 1 (by decide) hl rfl hdg rfl kk
theorem pf_3_1 (C : CX E cc own nL en fr lo) (hin : ∀ w ∈ wsX30, w ∈ AW) {o : Nat} {x : Int32} (ho : okO en o 3) (hl : Cond.fieldLink own index "LeftoverRule$Sheet" "length" "I" ∈ AW) (hdg : decode cc pc = .ok (.putfield index, 3)) (kk : CF E (stI S o 1 x) (pc + 3) L st) : CF E S pc L (.int x :: .ref (adr (vG E) o 0) :: st) := cf_put C (ci := 3) (T := TX3) (N := 3) rfl hin tyX3 tyX3_ok nmX3 ho.1 (ocell_3 ho.2.1) 1 (by decide) (ocell_3 ho.2.1) hl rfl rfl (ty := .int) (by decide +kernel) rfl rfl (by simp [oc3]) (by simp [oc3, stI]) hdg kk
theorem gf_3_2 (C : CX E cc own nL en fr lo) (hin : ∀ w ∈ wsX30, w ∈ AW) {o : Nat} (ho : okO en o 3) (hl : Cond.fieldLink own index "LeftoverRule$Sheet" "numbers" "[I" ∈ AW) (hdg : decode cc pc = .ok (.getfield index, 3)) (kk : CF E S (pc + 3) L (.ref (adr (vG E) o 3) :: st)) : CF E S pc L (.ref (adr (vG E) o 0) :: st) := cf_get C (ci := 3) (T := TX3) (N := 3) rfl hin ho.1 (ocell_3 ho.2.1) 2 (by decide) hl rfl hdg rfl kk
theorem gf_4_0 (C : CX E cc own nL en fr lo) (hin : ∀ w ∈ wsX40, w ∈ AW) {o : Nat} (ho : okO en o 4) (hl : Cond.fieldLink own index "LeftoverRule$Table" "claim" "LLeftoverRule$Law;" ∈ AW) (hdg : decode cc pc = .ok (.getfield index, 3)) (kk : CF E S (pc + 3) L (.ref (adr (vG E) (rf o 0) 0) :: st)) : CF E S pc L (.ref (adr (vG E) o 0) :: st) := cf_get C (ci := 4) (T := TX4) (N := 11) rfl hin ho.1 (ocell_4 ho.2.1) 0 (by decide) hl rfl hdg rfl kk
theorem gf_4_1 (C : CX E cc own nL en fr lo) (hin : ∀ w ∈ wsX40, w ∈ AW) {o : Nat} (ho : okO en o 4) (hl : Cond.fieldLink own index "LeftoverRule$Table" "keeping" "LLeftoverRule$Law;" ∈ AW) (hdg : decode cc pc = .ok (.getfield index, 3)) (kk : CF E S (pc + 3) L (.ref (adr (vG E) (rf o 1) 0) :: st)) : CF E S pc L (.ref (adr (vG E) o 0) :: st) := cf_get C (ci := 4) (T := TX4) (N := 11) rfl hin ho.1 (ocell_4 ho.2.1) 1 (by decide) hl rfl hdg rfl kk
theorem gf_4_2 (C : CX E cc own nL en fr lo) (hin : ∀ w ∈ wsX40, w ∈ AW) {o : Nat} (ho : okO en o 4) (hl : Cond.fieldLink own index "LeftoverRule$Table" "dishes" "I" ∈ AW) (hdg : decode cc pc = .ok (.getfield index, 3)) (kk : CF E S (pc + 3) L (.int (S.1 o 2) :: st)) : CF E S pc L (.ref (adr (vG E) o 0) :: st) := cf_get C (ci := 4) (T := TX4) (N := 11) rfl hin ho.1 (ocell_4 ho.2.1) 2 (by decide) hl rfl hdg rfl kk
theorem pf_4_2 (C : CX E cc own nL en fr lo) (hin : ∀ w ∈ wsX40, w ∈ AW) {o : Nat} {x : Int32} (ho : okO en o 4) (hl : Cond.fieldLink own index "LeftoverRule$Table" "dishes" "I" ∈ AW) (hdg : decode cc pc = .ok (.putfield index, 3)) (kk : CF E (stI S o 2 x) (pc + 3) L st) : CF E S pc L (.int x :: .ref (adr (vG E) o 0) :: st) := cf_put C (ci := 4) (T := TX4) (N := 11) rfl hin tyX4 tyX4_ok nmX4 ho.1 (ocell_4 ho.2.1) 2 (by decide) (ocell_4 ho.2.1) hl rfl rfl (ty := .int) (by decide +kernel) rfl rfl (by simp [oc4]) (by simp [oc4, stI]) hdg kk
theorem gf_4_3 (C : CX E cc own nL en fr lo) (hin : ∀ w ∈ wsX40, w ∈ AW) {o : Nat} (ho : okO en o 4) (hl : Cond.fieldLink own index "LeftoverRule$Table" "day" "I" ∈ AW) (hdg : decode cc pc = .ok (.getfield index, 3)) (kk : CF E S (pc + 3) L (.int (S.1 o 3) :: st)) : CF E S pc L (.ref (adr (vG E) o 0) :: st) := cf_get C (ci := 4) (T := TX4) (N := 11) rfl hin ho.1 (ocell_4 ho.2.1) 3 (by decide) hl rfl hdg rfl kk
theorem pf_4_3 (C : CX E cc own nL en fr lo) (hin : ∀ w ∈ wsX40, w ∈ AW) {o : Nat} {x : Int32} (ho : okO en o 4) (hl : Cond.fieldLink own index "LeftoverRule$Table" "day" "I" ∈ AW) (hdg : decode cc pc = .ok (.putfield index, 3)) (kk : CF E (stI S o 3 x) (pc + 3) L st) : CF E S pc L (.int x :: .ref (adr (vG E) o 0) :: st) := cf_put C (ci := 4) (T := TX4) (N := 11) rfl hin tyX4 tyX4_ok nmX4 ho.1 (ocell_4 ho.2.1) 3 (by decide) (ocell_4 ho.2.1) hl rfl rfl (ty := .int) (by decide +kernel) rfl rfl (by simp [oc4]) (by simp [oc4, stI]) hdg kk
theorem gf_4_4 (C : CX E cc own nL en fr lo) (hin : ∀ w ∈ wsX40, w ∈ AW) {o : Nat} (ho : okO en o 4) (hl : Cond.fieldLink own index "LeftoverRule$Table" "hungry" "I" ∈ AW) (hdg : decode cc pc = .ok (.getfield index, 3)) (kk : CF E S (pc + 3) L (.int (S.1 o 4) :: st)) : CF E S pc L (.ref (adr (vG E) o 0) :: st) := cf_get C (ci := 4) (T := TX4) (N := 11) rfl hin ho.1 (ocell_4 ho.2.1) 4 (by decide) hl rfl hdg rfl kk
theorem pf_4_4 (C : CX E cc own nL en fr lo) (hin : ∀ w ∈ wsX40, w ∈ AW) {o : Nat} {x : Int32} (ho : okO en o 4) (hl : Cond.fieldLink own index "LeftoverRule$Table" "hungry" "I" ∈ AW) (hdg : decode cc pc = .ok (.putfield index, 3)) (kk : CF E (stI S o 4 x) (pc + 3) L st) : CF E S pc L (.int x :: .ref (adr (vG E) o 0) :: st) := cf_put C (ci := 4) (T := TX4) (N := 11) rfl hin tyX4 tyX4_ok nmX4 ho.1 (ocell_4 ho.2.1) 4 (by decide) (ocell_4 ho.2.1) hl rfl rfl (ty := .int) (by decide +kernel) rfl rfl (by simp [oc4]) (by simp [oc4, stI]) hdg kk
theorem gf_4_5 (C : CX E cc own nL en fr lo) (hin : ∀ w ∈ wsX40, w ∈ AW) {o : Nat} (ho : okO en o 4) (hl : Cond.fieldLink own index "LeftoverRule$Table" "kind" "[I" ∈ AW) (hdg : decode cc pc = .ok (.getfield index, 3)) (kk : CF E S (pc + 3) L (.ref (adr (vG E) o 6) :: st)) : CF E S pc L (.ref (adr (vG E) o 0) :: st) := cf_get C (ci := 4) (T := TX4) (N := 11) rfl hin ho.1 (ocell_4 ho.2.1) 5 (by decide) hl rfl hdg rfl kk
theorem gf_4_6 (C : CX E cc own nL en fr lo) (hin : ∀ w ∈ wsX40, w ∈ AW) {o : Nat} (ho : okO en o 4) (hl : Cond.fieldLink own index "LeftoverRule$Table" "mark" "[I" ∈ AW) (hdg : decode cc pc = .ok (.getfield index, 3)) (kk : CF E S (pc + 3) L (.ref (adr (vG E) o 7) :: st)) : CF E S pc L (.ref (adr (vG E) o 0) :: st) := cf_get C (ci := 4) (T := TX4) (N := 11) rfl hin ho.1 (ocell_4 ho.2.1) 6 (by decide) hl rfl hdg rfl kk
theorem gf_4_7 (C : CX E cc own nL en fr lo) (hin : ∀ w ∈ wsX40, w ∈ AW) {o : Nat} (ho : okO en o 4) (hl : Cond.fieldLink own index "LeftoverRule$Table" "size" "[I" ∈ AW) (hdg : decode cc pc = .ok (.getfield index, 3)) (kk : CF E S (pc + 3) L (.ref (adr (vG E) o 8) :: st)) : CF E S pc L (.ref (adr (vG E) o 0) :: st) := cf_get C (ci := 4) (T := TX4) (N := 11) rfl hin ho.1 (ocell_4 ho.2.1) 7 (by decide) hl rfl hdg rfl kk
theorem gf_4_8 (C : CX E cc own nL en fr lo) (hin : ∀ w ∈ wsX40, w ∈ AW) {o : Nat} (ho : okO en o 4) (hl : Cond.fieldLink own index "LeftoverRule$Table" "age" "[I" ∈ AW) (hdg : decode cc pc = .ok (.getfield index, 3)) (kk : CF E S (pc + 3) L (.ref (adr (vG E) o 9) :: st)) : CF E S pc L (.ref (adr (vG E) o 0) :: st) := cf_get C (ci := 4) (T := TX4) (N := 11) rfl hin ho.1 (ocell_4 ho.2.1) 8 (by decide) hl rfl hdg rfl kk
theorem gf_4_9 (C : CX E cc own nL en fr lo) (hin : ∀ w ∈ wsX40, w ∈ AW) {o : Nat} (ho : okO en o 4) (hl : Cond.fieldLink own index "LeftoverRule$Table" "flavour" "[I" ∈ AW) (hdg : decode cc pc = .ok (.getfield index, 3)) (kk : CF E S (pc + 3) L (.ref (adr (vG E) o 10) :: st)) : CF E S pc L (.ref (adr (vG E) o 0) :: st) := cf_get C (ci := 4) (T := TX4) (N := 11) rfl hin ho.1 (ocell_4 ho.2.1) 9 (by decide) hl rfl hdg rfl kk
theorem gf_4_10 (C : CX E cc own nL en fr lo) (hin : ∀ w ∈ wsX40, w ∈ AW) {o : Nat} (ho : okO en o 4) (hl : Cond.fieldLink own index "LeftoverRule$Table" "claims" "[I" ∈ AW) (hdg : decode cc pc = .ok (.getfield index, 3)) (kk : CF E S (pc + 3) L (.ref (adr (vG E) o 11) :: st)) : CF E S pc L (.ref (adr (vG E) o 0) :: st) := cf_get C (ci := 4) (T := TX4) (N := 11) rfl hin ho.1 (ocell_4 ho.2.1) 10 (by decide) hl rfl hdg rfl kk
theorem gf_5_0 (C : CX E cc own nL en fr lo) (hin : ∀ w ∈ wsX50, w ∈ AW) (ho : okO en 12 5) (hl : Cond.fieldLink own index "LeftoverRule$Voices" "trace" "[I" ∈ AW) (hdg : decode cc pc = .ok (.getfield index, 3)) (kk : CF E S (pc + 3) L (.ref (adr (vG E) 12 1) :: st)) : CF E S pc L (.ref (adr (vG E) 12 0) :: st) := cf_get C (ci := 5) (T := TX5) (N := 6) rfl hin ho.1 (ocell_5 ho.2.1) 0 (by decide) hl rfl hdg rfl kk
theorem gf_5_1 (C : CX E cc own nL en fr lo) (hin : ∀ w ∈ wsX50, w ∈ AW) (ho : okO en 12 5) (hl : Cond.fieldLink own index "LeftoverRule$Voices" "traced" "I" ∈ AW) (hdg : decode cc pc = .ok (.getfield index, 3)) (kk : CF E S (pc + 3) L (.int (S.1 12 1) :: st)) : CF E S pc L (.ref (adr (vG E) 12 0) :: st) := cf_get C (ci := 5) (T := TX5) (N := 6) rfl hin ho.1 (ocell_5 ho.2.1) 1 (by decide) hl rfl hdg rfl kk
theorem pf_5_1 (C : CX E cc own nL en fr lo) (hin : ∀ w ∈ wsX50, w ∈ AW) {x : Int32} (ho : okO en 12 5) (hl : Cond.fieldLink own index "LeftoverRule$Voices" "traced" "I" ∈ AW) (hdg : decode cc pc = .ok (.putfield index, 3)) (kk : CF E (stI S 12 1 x) (pc + 3) L st) : CF E S pc L (.int x :: .ref (adr (vG E) 12 0) :: st) := cf_put C (ci := 5) (T := TX5) (N := 6) rfl hin tyX5 tyX5_ok nmX5 ho.1 (ocell_5 ho.2.1) 1 (by decide) (ocell_5 ho.2.1) hl rfl rfl (ty := .int) (by decide +kernel) rfl rfl (by simp [oc5]) (by simp [oc5, stI]) hdg kk
theorem gf_5_2 (C : CX E cc own nL en fr lo) (hin : ∀ w ∈ wsX50, w ∈ AW) (ho : okO en 12 5) (hl : Cond.fieldLink own index "LeftoverRule$Voices" "parted" "Z" ∈ AW) (hdg : decode cc pc = .ok (.getfield index, 3)) (kk : CF E S (pc + 3) L (.int (S.1 12 2) :: st)) : CF E S pc L (.ref (adr (vG E) 12 0) :: st) := cf_get C (ci := 5) (T := TX5) (N := 6) rfl hin ho.1 (ocell_5 ho.2.1) 2 (by decide) hl rfl hdg rfl kk
theorem pf_5_2 (C : CX E cc own nL en fr lo) (hin : ∀ w ∈ wsX50, w ∈ AW) {x : Int32} (hz : x = 0 ∨ x = 1) (ho : okO en 12 5) (hl : Cond.fieldLink own index "LeftoverRule$Voices" "parted" "Z" ∈ AW) (hdg : decode cc pc = .ok (.putfield index, 3)) (kk : CF E (stI S 12 2 x) (pc + 3) L st) : CF E S pc L (.int x :: .ref (adr (vG E) 12 0) :: st) := cf_put C (ci := 5) (T := TX5) (N := 6) rfl hin tyX5 tyX5_ok nmX5 ho.1 (ocell_5 ho.2.1) 2 (by decide) (ocell_5 ho.2.1) hl rfl rfl (ty := .boolean) (by decide +kernel) (by rcases hz with rfl | rfl <;> rfl) (by rcases hz with rfl | rfl <;> rfl) (by simp [oc5]) (by simp [oc5, stI]) hdg kk
theorem gf_5_3 (C : CX E cc own nL en fr lo) (hin : ∀ w ∈ wsX50, w ∈ AW) (ho : okO en 12 5) (hl : Cond.fieldLink own index "LeftoverRule$Voices" "kind" "I" ∈ AW) (hdg : decode cc pc = .ok (.getfield index, 3)) (kk : CF E S (pc + 3) L (.int (S.1 12 3) :: st)) : CF E S pc L (.ref (adr (vG E) 12 0) :: st) := cf_get C (ci := 5) (T := TX5) (N := 6) rfl hin ho.1 (ocell_5 ho.2.1) 3 (by decide) hl rfl hdg rfl kk
theorem pf_5_3 (C : CX E cc own nL en fr lo) (hin : ∀ w ∈ wsX50, w ∈ AW) {x : Int32} (ho : okO en 12 5) (hl : Cond.fieldLink own index "LeftoverRule$Voices" "kind" "I" ∈ AW) (hdg : decode cc pc = .ok (.putfield index, 3)) (kk : CF E (stI S 12 3 x) (pc + 3) L st) : CF E S pc L (.int x :: .ref (adr (vG E) 12 0) :: st) := cf_put C (ci := 5) (T := TX5) (N := 6) rfl hin tyX5 tyX5_ok nmX5 ho.1 (ocell_5 ho.2.1) 3 (by decide) (ocell_5 ho.2.1) hl rfl rfl (ty := .int) (by decide +kernel) rfl rfl (by simp [oc5]) (by simp [oc5, stI]) hdg kk
theorem gf_5_4 (C : CX E cc own nL en fr lo) (hin : ∀ w ∈ wsX50, w ∈ AW) (ho : okO en 12 5) (hl : Cond.fieldLink own index "LeftoverRule$Voices" "k" "I" ∈ AW) (hdg : decode cc pc = .ok (.getfield index, 3)) (kk : CF E S (pc + 3) L (.int (S.1 12 4) :: st)) : CF E S pc L (.ref (adr (vG E) 12 0) :: st) := cf_get C (ci := 5) (T := TX5) (N := 6) rfl hin ho.1 (ocell_5 ho.2.1) 4 (by decide) hl rfl hdg rfl kk
theorem pf_5_4 (C : CX E cc own nL en fr lo) (hin : ∀ w ∈ wsX50, w ∈ AW) {x : Int32} (ho : okO en 12 5) (hl : Cond.fieldLink own index "LeftoverRule$Voices" "k" "I" ∈ AW) (hdg : decode cc pc = .ok (.putfield index, 3)) (kk : CF E (stI S 12 4 x) (pc + 3) L st) : CF E S pc L (.int x :: .ref (adr (vG E) 12 0) :: st) := cf_put C (ci := 5) (T := TX5) (N := 6) rfl hin tyX5 tyX5_ok nmX5 ho.1 (ocell_5 ho.2.1) 4 (by decide) (ocell_5 ho.2.1) hl rfl rfl (ty := .int) (by decide +kernel) rfl rfl (by simp [oc5]) (by simp [oc5, stI]) hdg kk
theorem gf_5_5 (C : CX E cc own nL en fr lo) (hin : ∀ w ∈ wsX50, w ∈ AW) (ho : okO en 12 5) (hl : Cond.fieldLink own index "LeftoverRule$Voices" "m" "I" ∈ AW) (hdg : decode cc pc = .ok (.getfield index, 3)) (kk : CF E S (pc + 3) L (.int (S.1 12 5) :: st)) : CF E S pc L (.ref (adr (vG E) 12 0) :: st) := cf_get C (ci := 5) (T := TX5) (N := 6) rfl hin ho.1 (ocell_5 ho.2.1) 5 (by decide) hl rfl hdg rfl kk
theorem pf_5_5 (C : CX E cc own nL en fr lo) (hin : ∀ w ∈ wsX50, w ∈ AW) {x : Int32} (ho : okO en 12 5) (hl : Cond.fieldLink own index "LeftoverRule$Voices" "m" "I" ∈ AW) (hdg : decode cc pc = .ok (.putfield index, 3)) (kk : CF E (stI S 12 5 x) (pc + 3) L st) : CF E S pc L (.int x :: .ref (adr (vG E) 12 0) :: st) := cf_put C (ci := 5) (T := TX5) (N := 6) rfl hin tyX5 tyX5_ok nmX5 ho.1 (ocell_5 ho.2.1) 5 (by decide) (ocell_5 ho.2.1) hl rfl rfl (ty := .int) (by decide +kernel) rfl rfl (by simp [oc5]) (by simp [oc5, stI]) hdg kk
theorem gf_6_0 (C : CX E cc own nL en fr lo) (hin : ∀ w ∈ wsX60, w ∈ AW) (ho : okO en 0 6) (hl : Cond.fieldLink own index "LeftoverRule" "house" "LLeftoverRule$House;" ∈ AW) (hdg : decode cc pc = .ok (.getfield index, 3)) (kk : CF E S (pc + 3) L (.ref (adr (vG E) 1 0) :: st)) : CF E S pc L (.ref (adr (vG E) 0 0) :: st) := cf_get C (ci := 6) (T := TX6) (N := 9) rfl hin ho.1 (ocell_6 ho.2.1) 0 (by decide) hl rfl hdg rfl kk
theorem gf_6_1 (C : CX E cc own nL en fr lo) (hin : ∀ w ∈ wsX60, w ∈ AW) (ho : okO en 0 6) (hl : Cond.fieldLink own index "LeftoverRule" "kept" "LLeftoverRule$House;" ∈ AW) (hdg : decode cc pc = .ok (.getfield index, 3)) (kk : CF E S (pc + 3) L (.ref (adr (vG E) 2 0) :: st)) : CF E S pc L (.ref (adr (vG E) 0 0) :: st) := cf_get C (ci := 6) (T := TX6) (N := 9) rfl hin ho.1 (ocell_6 ho.2.1) 1 (by decide) hl rfl hdg rfl kk
theorem gf_6_2 (C : CX E cc own nL en fr lo) (hin : ∀ w ∈ wsX60, w ∈ AW) (ho : okO en 0 6) (hl : Cond.fieldLink own index "LeftoverRule" "table" "LLeftoverRule$Table;" ∈ AW) (hdg : decode cc pc = .ok (.getfield index, 3)) (kk : CF E S (pc + 3) L (.ref (adr (vG E) 3 0) :: st)) : CF E S pc L (.ref (adr (vG E) 0 0) :: st) := cf_get C (ci := 6) (T := TX6) (N := 9) rfl hin ho.1 (ocell_6 ho.2.1) 2 (by decide) hl rfl hdg rfl kk
theorem gf_6_3 (C : CX E cc own nL en fr lo) (hin : ∀ w ∈ wsX60, w ∈ AW) (ho : okO en 0 6) (hl : Cond.fieldLink own index "LeftoverRule" "thought" "LLeftoverRule$Table;" ∈ AW) (hdg : decode cc pc = .ok (.getfield index, 3)) (kk : CF E S (pc + 3) L (.ref (adr (vG E) 5 0) :: st)) : CF E S pc L (.ref (adr (vG E) 0 0) :: st) := cf_get C (ci := 6) (T := TX6) (N := 9) rfl hin ho.1 (ocell_6 ho.2.1) 3 (by decide) hl rfl hdg rfl kk
theorem gf_6_4 (C : CX E cc own nL en fr lo) (hin : ∀ w ∈ wsX60, w ∈ AW) (ho : okO en 0 6) (hl : Cond.fieldLink own index "LeftoverRule" "reader" "LLeftoverRule$Reader;" ∈ AW) (hdg : decode cc pc = .ok (.getfield index, 3)) (kk : CF E S (pc + 3) L (.ref (adr (vG E) 11 0) :: st)) : CF E S pc L (.ref (adr (vG E) 0 0) :: st) := cf_get C (ci := 6) (T := TX6) (N := 9) rfl hin ho.1 (ocell_6 ho.2.1) 4 (by decide) hl rfl hdg rfl kk
theorem gf_6_5 (C : CX E cc own nL en fr lo) (hin : ∀ w ∈ wsX60, w ∈ AW) (ho : okO en 0 6) (hl : Cond.fieldLink own index "LeftoverRule" "voices" "LLeftoverRule$Voices;" ∈ AW) (hdg : decode cc pc = .ok (.getfield index, 3)) (kk : CF E S (pc + 3) L (.ref (adr (vG E) 12 0) :: st)) : CF E S pc L (.ref (adr (vG E) 0 0) :: st) := cf_get C (ci := 6) (T := TX6) (N := 9) rfl hin ho.1 (ocell_6 ho.2.1) 5 (by decide) hl rfl hdg rfl kk
theorem gf_6_6 (C : CX E cc own nL en fr lo) (hin : ∀ w ∈ wsX60, w ∈ AW) (ho : okO en 0 6) (hl : Cond.fieldLink own index "LeftoverRule" "sheets" "[LLeftoverRule$Sheet;" ∈ AW) (hdg : decode cc pc = .ok (.getfield index, 3)) (kk : CF E S (pc + 3) L (.ref (adr (vG E) 0 7) :: st)) : CF E S pc L (.ref (adr (vG E) 0 0) :: st) := cf_get C (ci := 6) (T := TX6) (N := 9) rfl hin ho.1 (ocell_6 ho.2.1) 6 (by decide) hl rfl hdg rfl kk
theorem gf_6_7 (C : CX E cc own nL en fr lo) (hin : ∀ w ∈ wsX60, w ∈ AW) (ho : okO en 0 6) (hl : Cond.fieldLink own index "LeftoverRule" "errors" "[I" ∈ AW) (hdg : decode cc pc = .ok (.getfield index, 3)) (kk : CF E S (pc + 3) L (.ref (adr (vG E) 0 8) :: st)) : CF E S pc L (.ref (adr (vG E) 0 0) :: st) := cf_get C (ci := 6) (T := TX6) (N := 9) rfl hin ho.1 (ocell_6 ho.2.1) 7 (by decide) hl rfl hdg rfl kk
theorem gf_6_8 (C : CX E cc own nL en fr lo) (hin : ∀ w ∈ wsX60, w ∈ AW) (ho : okO en 0 6) (hl : Cond.fieldLink own index "LeftoverRule" "images" "I" ∈ AW) (hdg : decode cc pc = .ok (.getfield index, 3)) (kk : CF E S (pc + 3) L (.int (S.1 0 8) :: st)) : CF E S pc L (.ref (adr (vG E) 0 0) :: st) := cf_get C (ci := 6) (T := TX6) (N := 9) rfl hin ho.1 (ocell_6 ho.2.1) 8 (by decide) hl rfl hdg rfl kk
theorem pf_6_8 (C : CX E cc own nL en fr lo) (hin : ∀ w ∈ wsX60, w ∈ AW) {x : Int32} (ho : okO en 0 6) (hl : Cond.fieldLink own index "LeftoverRule" "images" "I" ∈ AW) (hdg : decode cc pc = .ok (.putfield index, 3)) (kk : CF E (stI S 0 8 x) (pc + 3) L st) : CF E S pc L (.int x :: .ref (adr (vG E) 0 0) :: st) := cf_put C (ci := 6) (T := TX6) (N := 9) rfl hin tyX6 tyX6_ok nmX6 ho.1 (ocell_6 ho.2.1) 8 (by decide) (ocell_6 ho.2.1) hl rfl rfl (ty := .int) (by decide +kernel) rfl rfl (by simp [oc6]) (by simp [oc6, stI]) hdg kk
theorem gf_7_0 (C : CX E cc own nL en fr lo) (hin : ∀ w ∈ wsX70, w ∈ AW) (ho : okO en 17 7) (hl : Cond.fieldLink own index "LeftoverRuleModel" "s" "[I" ∈ AW) (hdg : decode cc pc = .ok (.getfield index, 3)) (kk : CF E S (pc + 3) L (.ref (adr (vG E) 17 1) :: st)) : CF E S pc L (.ref (adr (vG E) 17 0) :: st) := cf_get C (ci := 7) (T := TX7) (N := 22) rfl hin ho.1 (ocell_7 ho.2.1) 0 (by decide) hl rfl hdg rfl kk
theorem gf_7_1 (C : CX E cc own nL en fr lo) (hin : ∀ w ∈ wsX70, w ∈ AW) (ho : okO en 17 7) (hl : Cond.fieldLink own index "LeftoverRuleModel" "kept" "[I" ∈ AW) (hdg : decode cc pc = .ok (.getfield index, 3)) (kk : CF E S (pc + 3) L (.ref (adr (vG E) 17 2) :: st)) : CF E S pc L (.ref (adr (vG E) 17 0) :: st) := cf_get C (ci := 7) (T := TX7) (N := 22) rfl hin ho.1 (ocell_7 ho.2.1) 1 (by decide) hl rfl hdg rfl kk
theorem gf_7_2 (C : CX E cc own nL en fr lo) (hin : ∀ w ∈ wsX70, w ∈ AW) (ho : okO en 17 7) (hl : Cond.fieldLink own index "LeftoverRuleModel" "laid" "[I" ∈ AW) (hdg : decode cc pc = .ok (.getfield index, 3)) (kk : CF E S (pc + 3) L (.ref (adr (vG E) 17 3) :: st)) : CF E S pc L (.ref (adr (vG E) 17 0) :: st) := cf_get C (ci := 7) (T := TX7) (N := 22) rfl hin ho.1 (ocell_7 ho.2.1) 2 (by decide) hl rfl hdg rfl kk
theorem gf_7_3 (C : CX E cc own nL en fr lo) (hin : ∀ w ∈ wsX70, w ∈ AW) (ho : okO en 17 7) (hl : Cond.fieldLink own index "LeftoverRuleModel" "images" "I" ∈ AW) (hdg : decode cc pc = .ok (.getfield index, 3)) (kk : CF E S (pc + 3) L (.int (S.1 17 3) :: st)) : CF E S pc L (.ref (adr (vG E) 17 0) :: st) := cf_get C (ci := 7) (T := TX7) (N := 22) rfl hin ho.1 (ocell_7 ho.2.1) 3 (by decide) hl rfl hdg rfl kk
theorem pf_7_3 (C : CX E cc own nL en fr lo) (hin : ∀ w ∈ wsX70, w ∈ AW) {x : Int32} (ho : okO en 17 7) (hl : Cond.fieldLink own index "LeftoverRuleModel" "images" "I" ∈ AW) (hdg : decode cc pc = .ok (.putfield index, 3)) (kk : CF E (stI S 17 3 x) (pc + 3) L st) : CF E S pc L (.int x :: .ref (adr (vG E) 17 0) :: st) := cf_put C (ci := 7) (T := TX7) (N := 22) rfl hin tyX7 tyX7_ok nmX7 ho.1 (ocell_7 ho.2.1) 3 (by decide) (ocell_7 ho.2.1) hl rfl rfl (ty := .int) (by decide +kernel) rfl rfl (by simp [oc7]) (by simp [oc7, stI]) hdg kk
theorem gf_7_4 (C : CX E cc own nL en fr lo) (hin : ∀ w ∈ wsX70, w ∈ AW) (ho : okO en 17 7) (hl : Cond.fieldLink own index "LeftoverRuleModel" "errors" "[I" ∈ AW) (hdg : decode cc pc = .ok (.getfield index, 3)) (kk : CF E S (pc + 3) L (.ref (adr (vG E) 17 5) :: st)) : CF E S pc L (.ref (adr (vG E) 17 0) :: st) := cf_get C (ci := 7) (T := TX7) (N := 22) rfl hin ho.1 (ocell_7 ho.2.1) 4 (by decide) hl rfl hdg rfl kk
theorem gf_7_5 (C : CX E cc own nL en fr lo) (hin : ∀ w ∈ wsX70, w ∈ AW) (ho : okO en 17 7) (hl : Cond.fieldLink own index "LeftoverRuleModel" "at" "I" ∈ AW) (hdg : decode cc pc = .ok (.getfield index, 3)) (kk : CF E S (pc + 3) L (.int (S.1 17 5) :: st)) : CF E S pc L (.ref (adr (vG E) 17 0) :: st) := cf_get C (ci := 7) (T := TX7) (N := 22) rfl hin ho.1 (ocell_7 ho.2.1) 5 (by decide) hl rfl hdg rfl kk
theorem pf_7_5 (C : CX E cc own nL en fr lo) (hin : ∀ w ∈ wsX70, w ∈ AW) {x : Int32} (ho : okO en 17 7) (hl : Cond.fieldLink own index "LeftoverRuleModel" "at" "I" ∈ AW) (hdg : decode cc pc = .ok (.putfield index, 3)) (kk : CF E (stI S 17 5 x) (pc + 3) L st) : CF E S pc L (.int x :: .ref (adr (vG E) 17 0) :: st) := cf_put C (ci := 7) (T := TX7) (N := 22) rfl hin tyX7 tyX7_ok nmX7 ho.1 (ocell_7 ho.2.1) 5 (by decide) (ocell_7 ho.2.1) hl rfl rfl (ty := .int) (by decide +kernel) rfl rfl (by simp [oc7]) (by simp [oc7, stI]) hdg kk
theorem gf_7_6 (C : CX E cc own nL en fr lo) (hin : ∀ w ∈ wsX70, w ∈ AW) (ho : okO en 17 7) (hl : Cond.fieldLink own index "LeftoverRuleModel" "open" "I" ∈ AW) (hdg : decode cc pc = .ok (.getfield index, 3)) (kk : CF E S (pc + 3) L (.int (S.1 17 6) :: st)) : CF E S pc L (.ref (adr (vG E) 17 0) :: st) := cf_get C (ci := 7) (T := TX7) (N := 22) rfl hin ho.1 (ocell_7 ho.2.1) 6 (by decide) hl rfl hdg rfl kk
theorem pf_7_6 (C : CX E cc own nL en fr lo) (hin : ∀ w ∈ wsX70, w ∈ AW) {x : Int32} (ho : okO en 17 7) (hl : Cond.fieldLink own index "LeftoverRuleModel" "open" "I" ∈ AW) (hdg : decode cc pc = .ok (.putfield index, 3)) (kk : CF E (stI S 17 6 x) (pc + 3) L st) : CF E S pc L (.int x :: .ref (adr (vG E) 17 0) :: st) := cf_put C (ci := 7) (T := TX7) (N := 22) rfl hin tyX7 tyX7_ok nmX7 ho.1 (ocell_7 ho.2.1) 6 (by decide) (ocell_7 ho.2.1) hl rfl rfl (ty := .int) (by decide +kernel) rfl rfl (by simp [oc7]) (by simp [oc7, stI]) hdg kk
theorem gf_7_7 (C : CX E cc own nL en fr lo) (hin : ∀ w ∈ wsX70, w ∈ AW) (ho : okO en 17 7) (hl : Cond.fieldLink own index "LeftoverRuleModel" "steps" "I" ∈ AW) (hdg : decode cc pc = .ok (.getfield index, 3)) (kk : CF E S (pc + 3) L (.int (S.1 17 7) :: st)) : CF E S pc L (.ref (adr (vG E) 17 0) :: st) := cf_get C (ci := 7) (T := TX7) (N := 22) rfl hin ho.1 (ocell_7 ho.2.1) 7 (by decide) hl rfl hdg rfl kk
theorem pf_7_7 (C : CX E cc own nL en fr lo) (hin : ∀ w ∈ wsX70, w ∈ AW) {x : Int32} (ho : okO en 17 7) (hl : Cond.fieldLink own index "LeftoverRuleModel" "steps" "I" ∈ AW) (hdg : decode cc pc = .ok (.putfield index, 3)) (kk : CF E (stI S 17 7 x) (pc + 3) L st) : CF E S pc L (.int x :: .ref (adr (vG E) 17 0) :: st) := cf_put C (ci := 7) (T := TX7) (N := 22) rfl hin tyX7 tyX7_ok nmX7 ho.1 (ocell_7 ho.2.1) 7 (by decide) (ocell_7 ho.2.1) hl rfl rfl (ty := .int) (by decide +kernel) rfl rfl (by simp [oc7]) (by simp [oc7, stI]) hdg kk
theorem gf_7_8 (C : CX E cc own nL en fr lo) (hin : ∀ w ∈ wsX70, w ∈ AW) (ho : okO en 17 7) (hl : Cond.fieldLink own index "LeftoverRuleModel" "use" "I" ∈ AW) (hdg : decode cc pc = .ok (.getfield index, 3)) (kk : CF E S (pc + 3) L (.int (S.1 17 8) :: st)) : CF E S pc L (.ref (adr (vG E) 17 0) :: st) := cf_get C (ci := 7) (T := TX7) (N := 22) rfl hin ho.1 (ocell_7 ho.2.1) 8 (by decide) hl rfl hdg rfl kk
theorem pf_7_8 (C : CX E cc own nL en fr lo) (hin : ∀ w ∈ wsX70, w ∈ AW) {x : Int32} (ho : okO en 17 7) (hl : Cond.fieldLink own index "LeftoverRuleModel" "use" "I" ∈ AW) (hdg : decode cc pc = .ok (.putfield index, 3)) (kk : CF E (stI S 17 8 x) (pc + 3) L st) : CF E S pc L (.int x :: .ref (adr (vG E) 17 0) :: st) := cf_put C (ci := 7) (T := TX7) (N := 22) rfl hin tyX7 tyX7_ok nmX7 ho.1 (ocell_7 ho.2.1) 8 (by decide) (ocell_7 ho.2.1) hl rfl rfl (ty := .int) (by decide +kernel) rfl rfl (by simp [oc7]) (by simp [oc7, stI]) hdg kk
theorem gf_7_9 (C : CX E cc own nL en fr lo) (hin : ∀ w ∈ wsX70, w ∈ AW) (ho : okO en 17 7) (hl : Cond.fieldLink own index "LeftoverRuleModel" "step" "[I" ∈ AW) (hdg : decode cc pc = .ok (.getfield index, 3)) (kk : CF E S (pc + 3) L (.ref (adr (vG E) 17 10) :: st)) : CF E S pc L (.ref (adr (vG E) 17 0) :: st) := cf_get C (ci := 7) (T := TX7) (N := 22) rfl hin ho.1 (ocell_7 ho.2.1) 9 (by decide) hl rfl hdg rfl kk
theorem gf_7_10 (C : CX E cc own nL en fr lo) (hin : ∀ w ∈ wsX70, w ∈ AW) (ho : okO en 17 7) (hl : Cond.fieldLink own index "LeftoverRuleModel" "named" "[I" ∈ AW) (hdg : decode cc pc = .ok (.getfield index, 3)) (kk : CF E S (pc + 3) L (.ref (adr (vG E) 17 11) :: st)) : CF E S pc L (.ref (adr (vG E) 17 0) :: st) := cf_get C (ci := 7) (T := TX7) (N := 22) rfl hin ho.1 (ocell_7 ho.2.1) 10 (by decide) hl rfl hdg rfl kk
theorem gf_7_11 (C : CX E cc own nL en fr lo) (hin : ∀ w ∈ wsX70, w ∈ AW) (ho : okO en 17 7) (hl : Cond.fieldLink own index "LeftoverRuleModel" "pile" "[I" ∈ AW) (hdg : decode cc pc = .ok (.getfield index, 3)) (kk : CF E S (pc + 3) L (.ref (adr (vG E) 17 12) :: st)) : CF E S pc L (.ref (adr (vG E) 17 0) :: st) := cf_get C (ci := 7) (T := TX7) (N := 22) rfl hin ho.1 (ocell_7 ho.2.1) 11 (by decide) hl rfl hdg rfl kk
theorem gf_7_12 (C : CX E cc own nL en fr lo) (hin : ∀ w ∈ wsX70, w ∈ AW) (ho : okO en 17 7) (hl : Cond.fieldLink own index "LeftoverRuleModel" "claims" "[I" ∈ AW) (hdg : decode cc pc = .ok (.getfield index, 3)) (kk : CF E S (pc + 3) L (.ref (adr (vG E) 17 13) :: st)) : CF E S pc L (.ref (adr (vG E) 17 0) :: st) := cf_get C (ci := 7) (T := TX7) (N := 22) rfl hin ho.1 (ocell_7 ho.2.1) 12 (by decide) hl rfl hdg rfl kk
theorem gf_7_13 (C : CX E cc own nL en fr lo) (hin : ∀ w ∈ wsX70, w ∈ AW) (ho : okO en 17 7) (hl : Cond.fieldLink own index "LeftoverRuleModel" "mayBe" "[Z" ∈ AW) (hdg : decode cc pc = .ok (.getfield index, 3)) (kk : CF E S (pc + 3) L (.ref (adr (vG E) 17 14) :: st)) : CF E S pc L (.ref (adr (vG E) 17 0) :: st) := cf_get C (ci := 7) (T := TX7) (N := 22) rfl hin ho.1 (ocell_7 ho.2.1) 13 (by decide) hl rfl hdg rfl kk
theorem gf_7_14 (C : CX E cc own nL en fr lo) (hin : ∀ w ∈ wsX70, w ∈ AW) (ho : okO en 17 7) (hl : Cond.fieldLink own index "LeftoverRuleModel" "traced" "I" ∈ AW) (hdg : decode cc pc = .ok (.getfield index, 3)) (kk : CF E S (pc + 3) L (.int (S.1 17 14) :: st)) : CF E S pc L (.ref (adr (vG E) 17 0) :: st) := cf_get C (ci := 7) (T := TX7) (N := 22) rfl hin ho.1 (ocell_7 ho.2.1) 14 (by decide) hl rfl hdg rfl kk
theorem pf_7_14 (C : CX E cc own nL en fr lo) (hin : ∀ w ∈ wsX70, w ∈ AW) {x : Int32} (ho : okO en 17 7) (hl : Cond.fieldLink own index "LeftoverRuleModel" "traced" "I" ∈ AW) (hdg : decode cc pc = .ok (.putfield index, 3)) (kk : CF E (stI S 17 14 x) (pc + 3) L st) : CF E S pc L (.int x :: .ref (adr (vG E) 17 0) :: st) := cf_put C (ci := 7) (T := TX7) (N := 22) rfl hin tyX7 tyX7_ok nmX7 ho.1 (ocell_7 ho.2.1) 14 (by decide) (ocell_7 ho.2.1) hl rfl rfl (ty := .int) (by decide +kernel) rfl rfl (by simp [oc7]) (by simp [oc7, stI]) hdg kk
theorem gf_7_15 (C : CX E cc own nL en fr lo) (hin : ∀ w ∈ wsX70, w ∈ AW) (ho : okO en 17 7) (hl : Cond.fieldLink own index "LeftoverRuleModel" "trace" "[I" ∈ AW) (hdg : decode cc pc = .ok (.getfield index, 3)) (kk : CF E S (pc + 3) L (.ref (adr (vG E) 17 16) :: st)) : CF E S pc L (.ref (adr (vG E) 17 0) :: st) := cf_get C (ci := 7) (T := TX7) (N := 22) rfl hin ho.1 (ocell_7 ho.2.1) 15 (by decide) hl rfl hdg rfl kk
theorem gf_7_16 (C : CX E cc own nL en fr lo) (hin : ∀ w ∈ wsX70, w ∈ AW) (ho : okO en 17 7) (hl : Cond.fieldLink own index "LeftoverRuleModel" "speaks" "I" ∈ AW) (hdg : decode cc pc = .ok (.getfield index, 3)) (kk : CF E S (pc + 3) L (.int (S.1 17 16) :: st)) : CF E S pc L (.ref (adr (vG E) 17 0) :: st) := cf_get C (ci := 7) (T := TX7) (N := 22) rfl hin ho.1 (ocell_7 ho.2.1) 16 (by decide) hl rfl hdg rfl kk
theorem pf_7_16 (C : CX E cc own nL en fr lo) (hin : ∀ w ∈ wsX70, w ∈ AW) {x : Int32} (ho : okO en 17 7) (hl : Cond.fieldLink own index "LeftoverRuleModel" "speaks" "I" ∈ AW) (hdg : decode cc pc = .ok (.putfield index, 3)) (kk : CF E (stI S 17 16 x) (pc + 3) L st) : CF E S pc L (.int x :: .ref (adr (vG E) 17 0) :: st) := cf_put C (ci := 7) (T := TX7) (N := 22) rfl hin tyX7 tyX7_ok nmX7 ho.1 (ocell_7 ho.2.1) 16 (by decide) (ocell_7 ho.2.1) hl rfl rfl (ty := .int) (by decide +kernel) rfl rfl (by simp [oc7]) (by simp [oc7, stI]) hdg kk
theorem gf_7_17 (C : CX E cc own nL en fr lo) (hin : ∀ w ∈ wsX70, w ∈ AW) (ho : okO en 17 7) (hl : Cond.fieldLink own index "LeftoverRuleModel" "isParted" "Z" ∈ AW) (hdg : decode cc pc = .ok (.getfield index, 3)) (kk : CF E S (pc + 3) L (.int (S.1 17 17) :: st)) : CF E S pc L (.ref (adr (vG E) 17 0) :: st) := cf_get C (ci := 7) (T := TX7) (N := 22) rfl hin ho.1 (ocell_7 ho.2.1) 17 (by decide) hl rfl hdg rfl kk
theorem pf_7_17 (C : CX E cc own nL en fr lo) (hin : ∀ w ∈ wsX70, w ∈ AW) {x : Int32} (hz : x = 0 ∨ x = 1) (ho : okO en 17 7) (hl : Cond.fieldLink own index "LeftoverRuleModel" "isParted" "Z" ∈ AW) (hdg : decode cc pc = .ok (.putfield index, 3)) (kk : CF E (stI S 17 17 x) (pc + 3) L st) : CF E S pc L (.int x :: .ref (adr (vG E) 17 0) :: st) := cf_put C (ci := 7) (T := TX7) (N := 22) rfl hin tyX7 tyX7_ok nmX7 ho.1 (ocell_7 ho.2.1) 17 (by decide) (ocell_7 ho.2.1) hl rfl rfl (ty := .boolean) (by decide +kernel) (by rcases hz with rfl | rfl <;> rfl) (by rcases hz with rfl | rfl <;> rfl) (by simp [oc7]) (by simp [oc7, stI]) hdg kk
theorem gf_7_18 (C : CX E cc own nL en fr lo) (hin : ∀ w ∈ wsX70, w ∈ AW) (ho : okO en 17 7) (hl : Cond.fieldLink own index "LeftoverRuleModel" "bits" "[I" ∈ AW) (hdg : decode cc pc = .ok (.getfield index, 3)) (kk : CF E S (pc + 3) L (.ref (adr (vG E) 17 19) :: st)) : CF E S pc L (.ref (adr (vG E) 17 0) :: st) := cf_get C (ci := 7) (T := TX7) (N := 22) rfl hin ho.1 (ocell_7 ho.2.1) 18 (by decide) hl rfl hdg rfl kk
theorem gf_7_19 (C : CX E cc own nL en fr lo) (hin : ∀ w ∈ wsX70, w ∈ AW) (ho : okO en 17 7) (hl : Cond.fieldLink own index "LeftoverRuleModel" "sizes" "[I" ∈ AW) (hdg : decode cc pc = .ok (.getfield index, 3)) (kk : CF E S (pc + 3) L (.ref (adr (vG E) 17 20) :: st)) : CF E S pc L (.ref (adr (vG E) 17 0) :: st) := cf_get C (ci := 7) (T := TX7) (N := 22) rfl hin ho.1 (ocell_7 ho.2.1) 19 (by decide) hl rfl hdg rfl kk
theorem gf_7_20 (C : CX E cc own nL en fr lo) (hin : ∀ w ∈ wsX70, w ∈ AW) (ho : okO en 17 7) (hl : Cond.fieldLink own index "LeftoverRuleModel" "number" "[I" ∈ AW) (hdg : decode cc pc = .ok (.getfield index, 3)) (kk : CF E S (pc + 3) L (.ref (adr (vG E) 17 21) :: st)) : CF E S pc L (.ref (adr (vG E) 17 0) :: st) := cf_get C (ci := 7) (T := TX7) (N := 22) rfl hin ho.1 (ocell_7 ho.2.1) 20 (by decide) hl rfl hdg rfl kk
theorem gf_7_21 (C : CX E cc own nL en fr lo) (hin : ∀ w ∈ wsX70, w ∈ AW) (ho : okO en 17 7) (hl : Cond.fieldLink own index "LeftoverRuleModel" "aside" "[I" ∈ AW) (hdg : decode cc pc = .ok (.getfield index, 3)) (kk : CF E S (pc + 3) L (.ref (adr (vG E) 17 22) :: st)) : CF E S pc L (.ref (adr (vG E) 17 0) :: st) := cf_get C (ci := 7) (T := TX7) (N := 22) rfl hin ho.1 (ocell_7 ho.2.1) 21 (by decide) hl rfl hdg rfl kk
end CFR
end
section
theorem zz_t : True := trivial
end
