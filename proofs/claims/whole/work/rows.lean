section
-- ===== PART A: goes FIRST, ahead of the names: the tables' words, and 'selects' of the private methods out of them =====
/-- a private method of a class that the tables say can be made, by its rows of tables_1 -/
def lw_okq (q : MethodName × Nat) : Prop := (q.1.cls ≠ "java/lang/invoke/MethodHandle" ∧ q.1.cls ≠ "java/lang/invoke/VarHandle") ∧ Cond.instantiable q.1.cls q.2 ∈ tables_1 ∧ Cond.privateMethod q.1 ∈ tables_1 ∧ Cond.instanceMethod q.1 ∈ tables_1
theorem lw_p0 : lw_okq (⟨"SnuffOfElsewhere$Tape", "readToken", "()V"⟩, 9) := ⟨⟨by decide +kernel, by decide +kernel⟩, List.mem_of_getElem? (i := 25) (by decide +kernel), List.mem_of_getElem? (i := 119) (by decide +kernel), List.mem_of_getElem? (i := 120) (by decide +kernel)⟩
theorem lw_p1 : lw_okq (⟨"SnuffOfElsewhere$Tape", "readWord", "()V"⟩, 9) := ⟨⟨by decide +kernel, by decide +kernel⟩, List.mem_of_getElem? (i := 25) (by decide +kernel), List.mem_of_getElem? (i := 126) (by decide +kernel), List.mem_of_getElem? (i := 127) (by decide +kernel)⟩
theorem lw_p2 : lw_okq (⟨"SnuffOfElsewhere$Tape", "spells", "(Ljava/lang/String;)Z"⟩, 9) := ⟨⟨by decide +kernel, by decide +kernel⟩, List.mem_of_getElem? (i := 25) (by decide +kernel), List.mem_of_getElem? (i := 145) (by decide +kernel), List.mem_of_getElem? (i := 146) (by decide +kernel)⟩
theorem lw_p3 : lw_okq (⟨"SnuffOfElsewhere$Tape", "readNumber", "()V"⟩, 9) := ⟨⟨by decide +kernel, by decide +kernel⟩, List.mem_of_getElem? (i := 25) (by decide +kernel), List.mem_of_getElem? (i := 154) (by decide +kernel), List.mem_of_getElem? (i := 155) (by decide +kernel)⟩
theorem lw_p4 : lw_okq (⟨"SnuffOfElsewhere$Tape", "passes", "(I)Z"⟩, 9) := ⟨⟨by decide +kernel, by decide +kernel⟩, List.mem_of_getElem? (i := 25) (by decide +kernel), List.mem_of_getElem? (i := 161) (by decide +kernel), List.mem_of_getElem? (i := 162) (by decide +kernel)⟩
theorem lw_p5 : lw_okq (⟨"SnuffOfElsewhere$Tape", "readAny", "(I)Z"⟩, 9) := ⟨⟨by decide +kernel, by decide +kernel⟩, List.mem_of_getElem? (i := 25) (by decide +kernel), List.mem_of_getElem? (i := 165) (by decide +kernel), List.mem_of_getElem? (i := 166) (by decide +kernel)⟩
theorem lw_p6 : lw_okq (⟨"SnuffOfElsewhere$Tape", "readBoth", "(I)Z"⟩, 9) := ⟨⟨by decide +kernel, by decide +kernel⟩, List.mem_of_getElem? (i := 25) (by decide +kernel), List.mem_of_getElem? (i := 169) (by decide +kernel), List.mem_of_getElem? (i := 170) (by decide +kernel)⟩
theorem lw_p7 : lw_okq (⟨"SnuffOfElsewhere$Tape", "readNot", "(I)Z"⟩, 9) := ⟨⟨by decide +kernel, by decide +kernel⟩, List.mem_of_getElem? (i := 25) (by decide +kernel), List.mem_of_getElem? (i := 173) (by decide +kernel), List.mem_of_getElem? (i := 174) (by decide +kernel)⟩
theorem lw_p8 : lw_okq (⟨"SnuffOfElsewhere$Tape", "emit", "(I)V"⟩, 9) := ⟨⟨by decide +kernel, by decide +kernel⟩, List.mem_of_getElem? (i := 25) (by decide +kernel), List.mem_of_getElem? (i := 177) (by decide +kernel), List.mem_of_getElem? (i := 178) (by decide +kernel)⟩
theorem lw_p9 : lw_okq (⟨"SnuffOfElsewhere$Tape", "readSum", "(I)Z"⟩, 9) := ⟨⟨by decide +kernel, by decide +kernel⟩, List.mem_of_getElem? (i := 25) (by decide +kernel), List.mem_of_getElem? (i := 181) (by decide +kernel), List.mem_of_getElem? (i := 182) (by decide +kernel)⟩
theorem lw_p10 : lw_okq (⟨"SnuffOfElsewhere$Tape", "readTerm", "(I)Z"⟩, 9) := ⟨⟨by decide +kernel, by decide +kernel⟩, List.mem_of_getElem? (i := 25) (by decide +kernel), List.mem_of_getElem? (i := 185) (by decide +kernel), List.mem_of_getElem? (i := 186) (by decide +kernel)⟩
theorem lw_p11 : lw_okq (⟨"SnuffOfElsewhere$Tape", "readOne", "(I)Z"⟩, 9) := ⟨⟨by decide +kernel, by decide +kernel⟩, List.mem_of_getElem? (i := 25) (by decide +kernel), List.mem_of_getElem? (i := 189) (by decide +kernel), List.mem_of_getElem? (i := 190) (by decide +kernel)⟩
theorem lw_p12 : lw_okq (⟨"SnuffOfElsewhere$Company", "named", "(III)I"⟩, 12) := ⟨⟨by decide +kernel, by decide +kernel⟩, List.mem_of_getElem? (i := 222) (by decide +kernel), List.mem_of_getElem? (i := 382) (by decide +kernel), List.mem_of_getElem? (i := 383) (by decide +kernel)⟩
theorem lw_p13 : lw_okq (⟨"SnuffOfElsewhere", "refusesEvening", "(I)I"⟩, 9) := ⟨⟨by decide +kernel, by decide +kernel⟩, List.mem_of_getElem? (i := 15) (by decide +kernel), List.mem_of_getElem? (i := 479) (by decide +kernel), List.mem_of_getElem? (i := 480) (by decide +kernel)⟩
theorem lw_p14 : lw_okq (⟨"SnuffOfElsewhere", "fillBest", "(II)V"⟩, 9) := ⟨⟨by decide +kernel, by decide +kernel⟩, List.mem_of_getElem? (i := 15) (by decide +kernel), List.mem_of_getElem? (i := 509) (by decide +kernel), List.mem_of_getElem? (i := 510) (by decide +kernel)⟩
theorem lw_p15 : lw_okq (⟨"SnuffOfElsewhere", "tourMinutes", "(I)I"⟩, 9) := ⟨⟨by decide +kernel, by decide +kernel⟩, List.mem_of_getElem? (i := 15) (by decide +kernel), List.mem_of_getElem? (i := 523) (by decide +kernel), List.mem_of_getElem? (i := 524) (by decide +kernel)⟩
def lw_privs_1 : List (MethodName × Nat) := [(⟨"SnuffOfElsewhere$Tape", "readToken", "()V"⟩, 9), (⟨"SnuffOfElsewhere$Tape", "readWord", "()V"⟩, 9), (⟨"SnuffOfElsewhere$Tape", "spells", "(Ljava/lang/String;)Z"⟩, 9), (⟨"SnuffOfElsewhere$Tape", "readNumber", "()V"⟩, 9), (⟨"SnuffOfElsewhere$Tape", "passes", "(I)Z"⟩, 9), (⟨"SnuffOfElsewhere$Tape", "readAny", "(I)Z"⟩, 9), (⟨"SnuffOfElsewhere$Tape", "readBoth", "(I)Z"⟩, 9), (⟨"SnuffOfElsewhere$Tape", "readNot", "(I)Z"⟩, 9), (⟨"SnuffOfElsewhere$Tape", "emit", "(I)V"⟩, 9), (⟨"SnuffOfElsewhere$Tape", "readSum", "(I)Z"⟩, 9), (⟨"SnuffOfElsewhere$Tape", "readTerm", "(I)Z"⟩, 9), (⟨"SnuffOfElsewhere$Tape", "readOne", "(I)Z"⟩, 9), (⟨"SnuffOfElsewhere$Company", "named", "(III)I"⟩, 12), (⟨"SnuffOfElsewhere", "refusesEvening", "(I)I"⟩, 9), (⟨"SnuffOfElsewhere", "fillBest", "(II)V"⟩, 9), (⟨"SnuffOfElsewhere", "tourMinutes", "(I)I"⟩, 9)]
theorem lw_r1 : ∀ q ∈ lw_privs_1, lw_okq q := List.forall_mem_cons.mpr ⟨lw_p0, List.forall_mem_cons.mpr ⟨lw_p1, List.forall_mem_cons.mpr ⟨lw_p2, List.forall_mem_cons.mpr ⟨lw_p3, List.forall_mem_cons.mpr ⟨lw_p4, List.forall_mem_cons.mpr ⟨lw_p5, List.forall_mem_cons.mpr ⟨lw_p6, List.forall_mem_cons.mpr ⟨lw_p7, List.forall_mem_cons.mpr ⟨lw_p8, List.forall_mem_cons.mpr ⟨lw_p9, List.forall_mem_cons.mpr ⟨lw_p10, List.forall_mem_cons.mpr ⟨lw_p11, List.forall_mem_cons.mpr ⟨lw_p12, List.forall_mem_cons.mpr ⟨lw_p13, List.forall_mem_cons.mpr ⟨lw_p14, List.forall_mem_cons.mpr ⟨lw_p15, fun _ h => absurd h List.not_mem_nil⟩⟩⟩⟩⟩⟩⟩⟩⟩⟩⟩⟩⟩⟩⟩⟩
theorem lw_p16 : lw_okq (⟨"SnuffOfElsewhere", "witSharing", "(II)I"⟩, 9) := ⟨⟨by decide +kernel, by decide +kernel⟩, List.mem_of_getElem? (i := 15) (by decide +kernel), List.mem_of_getElem? (i := 539) (by decide +kernel), List.mem_of_getElem? (i := 540) (by decide +kernel)⟩
theorem lw_p17 : lw_okq (⟨"SnuffOfElsewhere", "refusesJudging", "(III)I"⟩, 9) := ⟨⟨by decide +kernel, by decide +kernel⟩, List.mem_of_getElem? (i := 15) (by decide +kernel), List.mem_of_getElem? (i := 559) (by decide +kernel), List.mem_of_getElem? (i := 560) (by decide +kernel)⟩
theorem lw_p18 : lw_okq (⟨"SnuffOfElsewhere", "refusesTold", "(II)I"⟩, 9) := ⟨⟨by decide +kernel, by decide +kernel⟩, List.mem_of_getElem? (i := 15) (by decide +kernel), List.mem_of_getElem? (i := 563) (by decide +kernel), List.mem_of_getElem? (i := 564) (by decide +kernel)⟩
theorem lw_p19 : lw_okq (⟨"SnuffOfElsewhere", "otherwise", "(III)I"⟩, 9) := ⟨⟨by decide +kernel, by decide +kernel⟩, List.mem_of_getElem? (i := 15) (by decide +kernel), List.mem_of_getElem? (i := 567) (by decide +kernel), List.mem_of_getElem? (i := 568) (by decide +kernel)⟩
theorem lw_p20 : lw_okq (⟨"SnuffOfElsewhere", "drawEvening", "(II)I"⟩, 9) := ⟨⟨by decide +kernel, by decide +kernel⟩, List.mem_of_getElem? (i := 15) (by decide +kernel), List.mem_of_getElem? (i := 610) (by decide +kernel), List.mem_of_getElem? (i := 611) (by decide +kernel)⟩
theorem lw_p21 : lw_okq (⟨"SnuffOfElsewhereModel", "next", "()V"⟩, 33) := ⟨⟨by decide +kernel, by decide +kernel⟩, List.mem_of_getElem? (i := 660) (by decide +kernel), List.mem_of_getElem? (i := 670) (by decide +kernel), List.mem_of_getElem? (i := 671) (by decide +kernel)⟩
theorem lw_p22 : lw_okq (⟨"SnuffOfElsewhereModel", "wordFrom", "(II)I"⟩, 33) := ⟨⟨by decide +kernel, by decide +kernel⟩, List.mem_of_getElem? (i := 660) (by decide +kernel), List.mem_of_getElem? (i := 677) (by decide +kernel), List.mem_of_getElem? (i := 678) (by decide +kernel)⟩
theorem lw_p23 : lw_okq (⟨"SnuffOfElsewhereModel", "eRead", "()Z"⟩, 33) := ⟨⟨by decide +kernel, by decide +kernel⟩, List.mem_of_getElem? (i := 660) (by decide +kernel), List.mem_of_getElem? (i := 681) (by decide +kernel), List.mem_of_getElem? (i := 682) (by decide +kernel)⟩
theorem lw_p24 : lw_okq (⟨"SnuffOfElsewhereModel", "puts", "(I)V"⟩, 33) := ⟨⟨by decide +kernel, by decide +kernel⟩, List.mem_of_getElem? (i := 660) (by decide +kernel), List.mem_of_getElem? (i := 686) (by decide +kernel), List.mem_of_getElem? (i := 687) (by decide +kernel)⟩
theorem lw_p25 : lw_okq (⟨"SnuffOfElsewhereModel", "unwinds", "(I)V"⟩, 33) := ⟨⟨by decide +kernel, by decide +kernel⟩, List.mem_of_getElem? (i := 660) (by decide +kernel), List.mem_of_getElem? (i := 690) (by decide +kernel), List.mem_of_getElem? (i := 691) (by decide +kernel)⟩
theorem lw_p26 : lw_okq (⟨"SnuffOfElsewhereModel", "opensOne", "(I)Z"⟩, 33) := ⟨⟨by decide +kernel, by decide +kernel⟩, List.mem_of_getElem? (i := 660) (by decide +kernel), List.mem_of_getElem? (i := 697) (by decide +kernel), List.mem_of_getElem? (i := 698) (by decide +kernel)⟩
theorem lw_p27 : lw_okq (⟨"SnuffOfElsewhereModel", "holds", "(I)V"⟩, 33) := ⟨⟨by decide +kernel, by decide +kernel⟩, List.mem_of_getElem? (i := 660) (by decide +kernel), List.mem_of_getElem? (i := 701) (by decide +kernel), List.mem_of_getElem? (i := 702) (by decide +kernel)⟩
theorem lw_p28 : lw_okq (⟨"SnuffOfElsewhereModel", "signOf", "()I"⟩, 33) := ⟨⟨by decide +kernel, by decide +kernel⟩, List.mem_of_getElem? (i := 660) (by decide +kernel), List.mem_of_getElem? (i := 705) (by decide +kernel), List.mem_of_getElem? (i := 706) (by decide +kernel)⟩
theorem lw_p29 : lw_okq (⟨"SnuffOfElsewhereModel", "between", "(I)Z"⟩, 33) := ⟨⟨by decide +kernel, by decide +kernel⟩, List.mem_of_getElem? (i := 660) (by decide +kernel), List.mem_of_getElem? (i := 709) (by decide +kernel), List.mem_of_getElem? (i := 710) (by decide +kernel)⟩
theorem lw_p30 : lw_okq (⟨"SnuffOfElsewhereModel", "hereSet", "()I"⟩, 33) := ⟨⟨by decide +kernel, by decide +kernel⟩, List.mem_of_getElem? (i := 660) (by decide +kernel), List.mem_of_getElem? (i := 817) (by decide +kernel), List.mem_of_getElem? (i := 818) (by decide +kernel)⟩
theorem lw_p31 : lw_okq (⟨"SnuffOfElsewhereModel", "isHere", "(I)Z"⟩, 33) := ⟨⟨by decide +kernel, by decide +kernel⟩, List.mem_of_getElem? (i := 660) (by decide +kernel), List.mem_of_getElem? (i := 821) (by decide +kernel), List.mem_of_getElem? (i := 822) (by decide +kernel)⟩
def lw_privs_2 : List (MethodName × Nat) := [(⟨"SnuffOfElsewhere", "witSharing", "(II)I"⟩, 9), (⟨"SnuffOfElsewhere", "refusesJudging", "(III)I"⟩, 9), (⟨"SnuffOfElsewhere", "refusesTold", "(II)I"⟩, 9), (⟨"SnuffOfElsewhere", "otherwise", "(III)I"⟩, 9), (⟨"SnuffOfElsewhere", "drawEvening", "(II)I"⟩, 9), (⟨"SnuffOfElsewhereModel", "next", "()V"⟩, 33), (⟨"SnuffOfElsewhereModel", "wordFrom", "(II)I"⟩, 33), (⟨"SnuffOfElsewhereModel", "eRead", "()Z"⟩, 33), (⟨"SnuffOfElsewhereModel", "puts", "(I)V"⟩, 33), (⟨"SnuffOfElsewhereModel", "unwinds", "(I)V"⟩, 33), (⟨"SnuffOfElsewhereModel", "opensOne", "(I)Z"⟩, 33), (⟨"SnuffOfElsewhereModel", "holds", "(I)V"⟩, 33), (⟨"SnuffOfElsewhereModel", "signOf", "()I"⟩, 33), (⟨"SnuffOfElsewhereModel", "between", "(I)Z"⟩, 33), (⟨"SnuffOfElsewhereModel", "hereSet", "()I"⟩, 33), (⟨"SnuffOfElsewhereModel", "isHere", "(I)Z"⟩, 33)]
theorem lw_r2 : ∀ q ∈ lw_privs_2, lw_okq q := List.forall_mem_cons.mpr ⟨lw_p16, List.forall_mem_cons.mpr ⟨lw_p17, List.forall_mem_cons.mpr ⟨lw_p18, List.forall_mem_cons.mpr ⟨lw_p19, List.forall_mem_cons.mpr ⟨lw_p20, List.forall_mem_cons.mpr ⟨lw_p21, List.forall_mem_cons.mpr ⟨lw_p22, List.forall_mem_cons.mpr ⟨lw_p23, List.forall_mem_cons.mpr ⟨lw_p24, List.forall_mem_cons.mpr ⟨lw_p25, List.forall_mem_cons.mpr ⟨lw_p26, List.forall_mem_cons.mpr ⟨lw_p27, List.forall_mem_cons.mpr ⟨lw_p28, List.forall_mem_cons.mpr ⟨lw_p29, List.forall_mem_cons.mpr ⟨lw_p30, List.forall_mem_cons.mpr ⟨lw_p31, fun _ h => absurd h List.not_mem_nil⟩⟩⟩⟩⟩⟩⟩⟩⟩⟩⟩⟩⟩⟩⟩⟩
theorem lw_p32 : lw_okq (⟨"SnuffOfElsewhereModel", "isOne", "(I)Z"⟩, 33) := ⟨⟨by decide +kernel, by decide +kernel⟩, List.mem_of_getElem? (i := 660) (by decide +kernel), List.mem_of_getElem? (i := 848) (by decide +kernel), List.mem_of_getElem? (i := 849) (by decide +kernel)⟩
theorem lw_p33 : lw_okq (⟨"SnuffOfElsewhereModel", "asksOf", "(III)I"⟩, 33) := ⟨⟨by decide +kernel, by decide +kernel⟩, List.mem_of_getElem? (i := 660) (by decide +kernel), List.mem_of_getElem? (i := 855) (by decide +kernel), List.mem_of_getElem? (i := 856) (by decide +kernel)⟩
theorem lw_p34 : lw_okq (⟨"SnuffOfElsewhereModel", "says", "(I)I"⟩, 33) := ⟨⟨by decide +kernel, by decide +kernel⟩, List.mem_of_getElem? (i := 660) (by decide +kernel), List.mem_of_getElem? (i := 859) (by decide +kernel), List.mem_of_getElem? (i := 860) (by decide +kernel)⟩
theorem lw_p35 : lw_okq (⟨"SnuffOfElsewhereModel", "goneOf", "(II)I"⟩, 33) := ⟨⟨by decide +kernel, by decide +kernel⟩, List.mem_of_getElem? (i := 660) (by decide +kernel), List.mem_of_getElem? (i := 885) (by decide +kernel), List.mem_of_getElem? (i := 886) (by decide +kernel)⟩
theorem lw_p36 : lw_okq (⟨"SnuffOfElsewhereModel", "gainsOf", "(II)I"⟩, 33) := ⟨⟨by decide +kernel, by decide +kernel⟩, List.mem_of_getElem? (i := 660) (by decide +kernel), List.mem_of_getElem? (i := 889) (by decide +kernel), List.mem_of_getElem? (i := 890) (by decide +kernel)⟩
theorem lw_p37 : lw_okq (⟨"SnuffOfElsewhereModel", "hasSand", "(II)Z"⟩, 33) := ⟨⟨by decide +kernel, by decide +kernel⟩, List.mem_of_getElem? (i := 660) (by decide +kernel), List.mem_of_getElem? (i := 893) (by decide +kernel), List.mem_of_getElem? (i := 894) (by decide +kernel)⟩
theorem lw_p38 : lw_okq (⟨"SnuffOfElsewhereModel", "spillsOf", "(II)I"⟩, 33) := ⟨⟨by decide +kernel, by decide +kernel⟩, List.mem_of_getElem? (i := 660) (by decide +kernel), List.mem_of_getElem? (i := 897) (by decide +kernel), List.mem_of_getElem? (i := 898) (by decide +kernel)⟩
theorem lw_p39 : lw_okq (⟨"SnuffOfElsewhereModel", "can", "(II)Z"⟩, 33) := ⟨⟨by decide +kernel, by decide +kernel⟩, List.mem_of_getElem? (i := 660) (by decide +kernel), List.mem_of_getElem? (i := 905) (by decide +kernel), List.mem_of_getElem? (i := 906) (by decide +kernel)⟩
theorem lw_p40 : lw_okq (⟨"SnuffOfElsewhereModel", "pinchOf", "(II)V"⟩, 33) := ⟨⟨by decide +kernel, by decide +kernel⟩, List.mem_of_getElem? (i := 660) (by decide +kernel), List.mem_of_getElem? (i := 909) (by decide +kernel), List.mem_of_getElem? (i := 910) (by decide +kernel)⟩
theorem lw_p41 : lw_okq (⟨"SnuffOfElsewhereModel", "minuteOf", "()I"⟩, 33) := ⟨⟨by decide +kernel, by decide +kernel⟩, List.mem_of_getElem? (i := 660) (by decide +kernel), List.mem_of_getElem? (i := 921) (by decide +kernel), List.mem_of_getElem? (i := 922) (by decide +kernel)⟩
theorem lw_p42 : lw_okq (⟨"SnuffOfElsewhereModel", "longest", "()I"⟩, 33) := ⟨⟨by decide +kernel, by decide +kernel⟩, List.mem_of_getElem? (i := 660) (by decide +kernel), List.mem_of_getElem? (i := 929) (by decide +kernel), List.mem_of_getElem? (i := 930) (by decide +kernel)⟩
theorem lw_p43 : lw_okq (⟨"SnuffOfElsewhereModel", "whoIn", "(I)I"⟩, 33) := ⟨⟨by decide +kernel, by decide +kernel⟩, List.mem_of_getElem? (i := 660) (by decide +kernel), List.mem_of_getElem? (i := 933) (by decide +kernel), List.mem_of_getElem? (i := 934) (by decide +kernel)⟩
theorem lw_p44 : lw_okq (⟨"SnuffOfElsewhereModel", "eveningWrong", "(I)I"⟩, 33) := ⟨⟨by decide +kernel, by decide +kernel⟩, List.mem_of_getElem? (i := 660) (by decide +kernel), List.mem_of_getElem? (i := 941) (by decide +kernel), List.mem_of_getElem? (i := 942) (by decide +kernel)⟩
theorem lw_p45 : lw_okq (⟨"SnuffOfElsewhereModel", "keeps", "()V"⟩, 33) := ⟨⟨by decide +kernel, by decide +kernel⟩, List.mem_of_getElem? (i := 660) (by decide +kernel), List.mem_of_getElem? (i := 945) (by decide +kernel), List.mem_of_getElem? (i := 946) (by decide +kernel)⟩
theorem lw_p46 : lw_okq (⟨"SnuffOfElsewhereModel", "goes", "(I)V"⟩, 33) := ⟨⟨by decide +kernel, by decide +kernel⟩, List.mem_of_getElem? (i := 660) (by decide +kernel), List.mem_of_getElem? (i := 949) (by decide +kernel), List.mem_of_getElem? (i := 950) (by decide +kernel)⟩
theorem lw_p47 : lw_okq (⟨"SnuffOfElsewhereModel", "takesOne", "(I)Z"⟩, 33) := ⟨⟨by decide +kernel, by decide +kernel⟩, List.mem_of_getElem? (i := 660) (by decide +kernel), List.mem_of_getElem? (i := 953) (by decide +kernel), List.mem_of_getElem? (i := 954) (by decide +kernel)⟩
def lw_privs_3 : List (MethodName × Nat) := [(⟨"SnuffOfElsewhereModel", "isOne", "(I)Z"⟩, 33), (⟨"SnuffOfElsewhereModel", "asksOf", "(III)I"⟩, 33), (⟨"SnuffOfElsewhereModel", "says", "(I)I"⟩, 33), (⟨"SnuffOfElsewhereModel", "goneOf", "(II)I"⟩, 33), (⟨"SnuffOfElsewhereModel", "gainsOf", "(II)I"⟩, 33), (⟨"SnuffOfElsewhereModel", "hasSand", "(II)Z"⟩, 33), (⟨"SnuffOfElsewhereModel", "spillsOf", "(II)I"⟩, 33), (⟨"SnuffOfElsewhereModel", "can", "(II)Z"⟩, 33), (⟨"SnuffOfElsewhereModel", "pinchOf", "(II)V"⟩, 33), (⟨"SnuffOfElsewhereModel", "minuteOf", "()I"⟩, 33), (⟨"SnuffOfElsewhereModel", "longest", "()I"⟩, 33), (⟨"SnuffOfElsewhereModel", "whoIn", "(I)I"⟩, 33), (⟨"SnuffOfElsewhereModel", "eveningWrong", "(I)I"⟩, 33), (⟨"SnuffOfElsewhereModel", "keeps", "()V"⟩, 33), (⟨"SnuffOfElsewhereModel", "goes", "(I)V"⟩, 33), (⟨"SnuffOfElsewhereModel", "takesOne", "(I)Z"⟩, 33)]
theorem lw_r3 : ∀ q ∈ lw_privs_3, lw_okq q := List.forall_mem_cons.mpr ⟨lw_p32, List.forall_mem_cons.mpr ⟨lw_p33, List.forall_mem_cons.mpr ⟨lw_p34, List.forall_mem_cons.mpr ⟨lw_p35, List.forall_mem_cons.mpr ⟨lw_p36, List.forall_mem_cons.mpr ⟨lw_p37, List.forall_mem_cons.mpr ⟨lw_p38, List.forall_mem_cons.mpr ⟨lw_p39, List.forall_mem_cons.mpr ⟨lw_p40, List.forall_mem_cons.mpr ⟨lw_p41, List.forall_mem_cons.mpr ⟨lw_p42, List.forall_mem_cons.mpr ⟨lw_p43, List.forall_mem_cons.mpr ⟨lw_p44, List.forall_mem_cons.mpr ⟨lw_p45, List.forall_mem_cons.mpr ⟨lw_p46, List.forall_mem_cons.mpr ⟨lw_p47, fun _ h => absurd h List.not_mem_nil⟩⟩⟩⟩⟩⟩⟩⟩⟩⟩⟩⟩⟩⟩⟩⟩
theorem lw_p48 : lw_okq (⟨"SnuffOfElsewhereModel", "lays", "()V"⟩, 33) := ⟨⟨by decide +kernel, by decide +kernel⟩, List.mem_of_getElem? (i := 660) (by decide +kernel), List.mem_of_getElem? (i := 957) (by decide +kernel), List.mem_of_getElem? (i := 958) (by decide +kernel)⟩
theorem lw_p49 : lw_okq (⟨"SnuffOfElsewhereModel", "addsGrain", "(II)V"⟩, 33) := ⟨⟨by decide +kernel, by decide +kernel⟩, List.mem_of_getElem? (i := 660) (by decide +kernel), List.mem_of_getElem? (i := 969) (by decide +kernel), List.mem_of_getElem? (i := 970) (by decide +kernel)⟩
theorem lw_p50 : lw_okq (⟨"SnuffOfElsewhereModel", "unseen", "(I)I"⟩, 33) := ⟨⟨by decide +kernel, by decide +kernel⟩, List.mem_of_getElem? (i := 660) (by decide +kernel), List.mem_of_getElem? (i := 981) (by decide +kernel), List.mem_of_getElem? (i := 982) (by decide +kernel)⟩
theorem lw_p51 : lw_okq (⟨"SnuffOfElsewhereModel", "tourOf", "(I)I"⟩, 33) := ⟨⟨by decide +kernel, by decide +kernel⟩, List.mem_of_getElem? (i := 660) (by decide +kernel), List.mem_of_getElem? (i := 985) (by decide +kernel), List.mem_of_getElem? (i := 986) (by decide +kernel)⟩
theorem lw_p52 : lw_okq (⟨"SnuffOfElsewhereModel", "firstUnseen", "(I)I"⟩, 33) := ⟨⟨by decide +kernel, by decide +kernel⟩, List.mem_of_getElem? (i := 660) (by decide +kernel), List.mem_of_getElem? (i := 989) (by decide +kernel), List.mem_of_getElem? (i := 990) (by decide +kernel)⟩
theorem lw_p53 : lw_okq (⟨"SnuffOfElsewhereModel", "witAll", "()I"⟩, 33) := ⟨⟨by decide +kernel, by decide +kernel⟩, List.mem_of_getElem? (i := 660) (by decide +kernel), List.mem_of_getElem? (i := 997) (by decide +kernel), List.mem_of_getElem? (i := 998) (by decide +kernel)⟩
theorem lw_p54 : lw_okq (⟨"SnuffOfElsewhereModel", "witSharing", "(I)I"⟩, 33) := ⟨⟨by decide +kernel, by decide +kernel⟩, List.mem_of_getElem? (i := 660) (by decide +kernel), List.mem_of_getElem? (i := 1001) (by decide +kernel), List.mem_of_getElem? (i := 1002) (by decide +kernel)⟩
theorem lw_p55 : lw_okq (⟨"SnuffOfElsewhereModel", "grainsOf", "(I)I"⟩, 33) := ⟨⟨by decide +kernel, by decide +kernel⟩, List.mem_of_getElem? (i := 660) (by decide +kernel), List.mem_of_getElem? (i := 1009) (by decide +kernel), List.mem_of_getElem? (i := 1010) (by decide +kernel)⟩
theorem lw_p56 : lw_okq (⟨"SnuffOfElsewhereModel", "toldWrong", "(III)I"⟩, 33) := ⟨⟨by decide +kernel, by decide +kernel⟩, List.mem_of_getElem? (i := 660) (by decide +kernel), List.mem_of_getElem? (i := 1021) (by decide +kernel), List.mem_of_getElem? (i := 1022) (by decide +kernel)⟩
theorem lw_p57 : lw_okq (⟨"SnuffOfElsewhereModel", "twoWrong", "(II)I"⟩, 33) := ⟨⟨by decide +kernel, by decide +kernel⟩, List.mem_of_getElem? (i := 660) (by decide +kernel), List.mem_of_getElem? (i := 1025) (by decide +kernel), List.mem_of_getElem? (i := 1026) (by decide +kernel)⟩
theorem lw_p58 : lw_okq (⟨"SnuffOfElsewhereModel", "unlike", "(III)I"⟩, 33) := ⟨⟨by decide +kernel, by decide +kernel⟩, List.mem_of_getElem? (i := 660) (by decide +kernel), List.mem_of_getElem? (i := 1029) (by decide +kernel), List.mem_of_getElem? (i := 1030) (by decide +kernel)⟩
theorem lw_p59 : lw_okq (⟨"SnuffOfElsewhereModel", "lotEvening", "(II)I"⟩, 33) := ⟨⟨by decide +kernel, by decide +kernel⟩, List.mem_of_getElem? (i := 660) (by decide +kernel), List.mem_of_getElem? (i := 1058) (by decide +kernel), List.mem_of_getElem? (i := 1059) (by decide +kernel)⟩
def lw_privs_4 : List (MethodName × Nat) := [(⟨"SnuffOfElsewhereModel", "lays", "()V"⟩, 33), (⟨"SnuffOfElsewhereModel", "addsGrain", "(II)V"⟩, 33), (⟨"SnuffOfElsewhereModel", "unseen", "(I)I"⟩, 33), (⟨"SnuffOfElsewhereModel", "tourOf", "(I)I"⟩, 33), (⟨"SnuffOfElsewhereModel", "firstUnseen", "(I)I"⟩, 33), (⟨"SnuffOfElsewhereModel", "witAll", "()I"⟩, 33), (⟨"SnuffOfElsewhereModel", "witSharing", "(I)I"⟩, 33), (⟨"SnuffOfElsewhereModel", "grainsOf", "(I)I"⟩, 33), (⟨"SnuffOfElsewhereModel", "toldWrong", "(III)I"⟩, 33), (⟨"SnuffOfElsewhereModel", "twoWrong", "(II)I"⟩, 33), (⟨"SnuffOfElsewhereModel", "unlike", "(III)I"⟩, 33), (⟨"SnuffOfElsewhereModel", "lotEvening", "(II)I"⟩, 33)]
theorem lw_r4 : ∀ q ∈ lw_privs_4, lw_okq q := List.forall_mem_cons.mpr ⟨lw_p48, List.forall_mem_cons.mpr ⟨lw_p49, List.forall_mem_cons.mpr ⟨lw_p50, List.forall_mem_cons.mpr ⟨lw_p51, List.forall_mem_cons.mpr ⟨lw_p52, List.forall_mem_cons.mpr ⟨lw_p53, List.forall_mem_cons.mpr ⟨lw_p54, List.forall_mem_cons.mpr ⟨lw_p55, List.forall_mem_cons.mpr ⟨lw_p56, List.forall_mem_cons.mpr ⟨lw_p57, List.forall_mem_cons.mpr ⟨lw_p58, List.forall_mem_cons.mpr ⟨lw_p59, fun _ h => absurd h List.not_mem_nil⟩⟩⟩⟩⟩⟩⟩⟩⟩⟩⟩⟩
def lw_privs : List (MethodName × Nat) := lw_privs_1 ++ (lw_privs_2 ++ (lw_privs_3 ++ (lw_privs_4)))
def lw_tbl : List Cond := k2_sels lw_privs ++ tables_1
theorem lw_privs_ok : ∀ q ∈ lw_privs, lw_okq q := by
  show ∀ q ∈ lw_privs_1 ++ (lw_privs_2 ++ (lw_privs_3 ++ (lw_privs_4))), lw_okq q
  exact List.forall_mem_append.mpr ⟨lw_r1, List.forall_mem_append.mpr ⟨lw_r2, List.forall_mem_append.mpr ⟨lw_r3, lw_r4⟩⟩⟩
-- ===== end of PART A; then your names; then what follows =====
end
section
def RX0 : String := "SnuffOfElsewhere$Company"
def TX0 : u_T := fun k => match k with
  | 0 => ("SnuffOfElsewhere$Company", "texts", "[LSnuffOfElsewhere$Text;", true)
  | 1 => ("SnuffOfElsewhere$Company", "stack", "[I", true)
  | 2 => ("SnuffOfElsewhere$Company", "kind", "[I", true)
  | 3 => ("SnuffOfElsewhere$Company", "more", "[I", true)
  | 4 => ("SnuffOfElsewhere$Company", "wit", "[I", true)
  | 5 => ("SnuffOfElsewhere$Company", "sand", "[I", true)
  | 6 => ("SnuffOfElsewhere$Company", "where", "[I", true)
  | 7 => ("SnuffOfElsewhere$Company", "left", "[I", true)
  | 8 => ("SnuffOfElsewhere$Company", "grains", "[I", true)
  | 9 => ("SnuffOfElsewhere$Company", "size", "I", false)
  | 10 => ("SnuffOfElsewhere$Company", "minute", "I", false)
  | _ => ("SnuffOfElsewhere$Company", "law", "I", false)
def tyX0 : Nat → FieldType := fun k => match k with
  | 0 => .array (.object "SnuffOfElsewhere$Text")
  | 1 => .array .int
  | 2 => .array .int
  | 3 => .array .int
  | 4 => .array .int
  | 5 => .array .int
  | 6 => .array .int
  | 7 => .array .int
  | 8 => .array .int
  | 9 => .int
  | 10 => .int
  | _ => .int
theorem nmX0 : ∀ a, a < 12 → ∀ b, b < 12 → a ≠ b → (TX0 a).2.1 ≠ (TX0 b).2.1 := by decide +kernel
theorem tyX0_ok : ∀ k, k < 12 → parseFieldDescriptor (TX0 k).2.2.1 = some (tyX0 k) := by decide +kernel
abbrev cX0_init : ByteArray := prog_2_method_1_code
def yX0_init : MethodName := ⟨RX0, "<init>", "([LSnuffOfElsewhere$Text;[I)V"⟩
abbrev cX0_becomes : ByteArray := prog_2_method_2_code
def yX0_becomes : MethodName := ⟨RX0, "becomes", "(LSnuffOfElsewhere$Company;)V"⟩
abbrev cX0_has : ByteArray := prog_2_method_3_code
def yX0_has : MethodName := ⟨RX0, "has", "(I)Z"⟩
abbrev cX0_admit : ByteArray := prog_2_method_4_code
def yX0_admit : MethodName := ⟨RX0, "admit", "(III)I"⟩
abbrev cX0_setState : ByteArray := prog_2_method_5_code
def yX0_setState : MethodName := ⟨RX0, "setState", "(III)I"⟩
abbrev cX0_hasSand : ByteArray := prog_2_method_6_code
def yX0_hasSand : MethodName := ⟨RX0, "hasSand", "(II)Z"⟩
abbrev cX0_firstUnseen : ByteArray := prog_2_method_7_code
def yX0_firstUnseen : MethodName := ⟨RX0, "firstUnseen", "(I)I"⟩
abbrev cX0_whoIsIn : ByteArray := prog_2_method_8_code
def yX0_whoIsIn : MethodName := ⟨RX0, "whoIsIn", "(I)I"⟩
abbrev cX0_howManyHere : ByteArray := prog_2_method_9_code
def yX0_howManyHere : MethodName := ⟨RX0, "howManyHere", "()I"⟩
abbrev cX0_mostLeft : ByteArray := prog_2_method_10_code
def yX0_mostLeft : MethodName := ⟨RX0, "mostLeft", "()I"⟩
abbrev cX0_allWit : ByteArray := prog_2_method_11_code
def yX0_allWit : MethodName := ⟨RX0, "allWit", "()I"⟩
abbrev cX0_grainsOf : ByteArray := prog_2_method_12_code
def yX0_grainsOf : MethodName := ⟨RX0, "grainsOf", "(I)I"⟩
abbrev cX0_lawSays : ByteArray := prog_2_method_13_code
def yX0_lawSays : MethodName := ⟨RX0, "lawSays", "(III)I"⟩
abbrev cX0_named : ByteArray := prog_2_method_14_code
def yX0_named : MethodName := ⟨RX0, "named", "(III)I"⟩
abbrev cX0_gone : ByteArray := prog_2_method_15_code
def yX0_gone : MethodName := ⟨RX0, "gone", "(II)I"⟩
abbrev cX0_gains : ByteArray := prog_2_method_16_code
def yX0_gains : MethodName := ⟨RX0, "gains", "(II)I"⟩
abbrev cX0_spills : ByteArray := prog_2_method_17_code
def yX0_spills : MethodName := ⟨RX0, "spills", "(II)I"⟩
abbrev cX0_can : ByteArray := prog_2_method_18_code
def yX0_can : MethodName := ⟨RX0, "can", "(II)Z"⟩
abbrev cX0_take : ByteArray := prog_2_method_19_code
def yX0_take : MethodName := ⟨RX0, "take", "(II)V"⟩
abbrev cX0_tries : ByteArray := prog_2_method_20_code
def yX0_tries : MethodName := ⟨RX0, "tries", "(I)Z"⟩
abbrev cX0_pass : ByteArray := prog_2_method_21_code
def yX0_pass : MethodName := ⟨RX0, "pass", "()I"⟩
def RX1 : String := "SnuffOfElsewhere$Sheet"
def TX1 : u_T := fun k => match k with
  | 0 => ("SnuffOfElsewhere$Sheet", "cells", "[I", true)
  | 1 => ("SnuffOfElsewhere$Sheet", "sort", "I", false)
  | _ => ("SnuffOfElsewhere$Sheet", "size", "I", false)
def tyX1 : Nat → FieldType := fun k => match k with
  | 0 => .array .int
  | 1 => .int
  | _ => .int
theorem nmX1 : ∀ a, a < 3 → ∀ b, b < 3 → a ≠ b → (TX1 a).2.1 ≠ (TX1 b).2.1 := by decide +kernel
theorem tyX1_ok : ∀ k, k < 3 → parseFieldDescriptor (TX1 k).2.2.1 = some (tyX1 k) := by decide +kernel
abbrev cX1_init : ByteArray := prog_3_method_1_code
def yX1_init : MethodName := ⟨RX1, "<init>", "()V"⟩
abbrev cX1_isMissing : ByteArray := prog_3_method_2_code
def yX1_isMissing : MethodName := ⟨RX1, "isMissing", "()Z"⟩
abbrev cX1_has : ByteArray := prog_3_method_3_code
def yX1_has : MethodName := ⟨RX1, "has", "(I)Z"⟩
abbrev cX1_holds : ByteArray := prog_3_method_4_code
def yX1_holds : MethodName := ⟨RX1, "holds", "(II)Z"⟩
abbrev cX1_becomes : ByteArray := prog_3_method_5_code
def yX1_becomes : MethodName := ⟨RX1, "becomes", "(II)V"⟩
abbrev cX1_write : ByteArray := prog_3_method_6_code
def yX1_write : MethodName := ⟨RX1, "write", "(II)V"⟩
def RX2 : String := "SnuffOfElsewhere$Tape"
def TX2 : u_T := fun k => match k with
  | 0 => ("SnuffOfElsewhere$Tape", "bytes", "[I", true)
  | 1 => ("SnuffOfElsewhere$Tape", "size", "I", false)
  | 2 => ("SnuffOfElsewhere$Tape", "start", "I", false)
  | 3 => ("SnuffOfElsewhere$Tape", "place", "I", false)
  | 4 => ("SnuffOfElsewhere$Tape", "token", "I", false)
  | 5 => ("SnuffOfElsewhere$Tape", "value", "I", false)
  | 6 => ("SnuffOfElsewhere$Tape", "steps", "[I", true)
  | 7 => ("SnuffOfElsewhere$Tape", "length", "I", false)
  | _ => ("SnuffOfElsewhere$Tape", "ends", "[I", true)
def tyX2 : Nat → FieldType := fun k => match k with
  | 0 => .array .int
  | 1 => .int
  | 2 => .int
  | 3 => .int
  | 4 => .int
  | 5 => .int
  | 6 => .array .int
  | 7 => .int
  | _ => .array .int
theorem nmX2 : ∀ a, a < 9 → ∀ b, b < 9 → a ≠ b → (TX2 a).2.1 ≠ (TX2 b).2.1 := by decide +kernel
theorem tyX2_ok : ∀ k, k < 9 → parseFieldDescriptor (TX2 k).2.2.1 = some (tyX2 k) := by decide +kernel
abbrev cX2_init : ByteArray := prog_4_method_1_code
def yX2_init : MethodName := ⟨RX2, "<init>", "()V"⟩
abbrev cX2_add : ByteArray := prog_4_method_2_code
def yX2_add : MethodName := ⟨RX2, "add", "(I)V"⟩
abbrev cX2_asText : ByteArray := prog_4_method_3_code
def yX2_asText : MethodName := ⟨RX2, "asText", "()LSnuffOfElsewhere$Text;"⟩
abbrev cX2_isText : ByteArray := prog_4_method_4_code
def yX2_isText : MethodName := ⟨RX2, "isText", "()Z"⟩
abbrev cX2_passes : ByteArray := prog_4_method_5_code
def yX2_passes : MethodName := ⟨RX2, "passes", "(I)Z"⟩
abbrev cX2_emit : ByteArray := prog_4_method_6_code
def yX2_emit : MethodName := ⟨RX2, "emit", "(I)V"⟩
abbrev cX2_readAny : ByteArray := prog_4_method_7_code
def yX2_readAny : MethodName := ⟨RX2, "readAny", "(I)Z"⟩
abbrev cX2_readBoth : ByteArray := prog_4_method_8_code
def yX2_readBoth : MethodName := ⟨RX2, "readBoth", "(I)Z"⟩
abbrev cX2_readNot : ByteArray := prog_4_method_9_code
def yX2_readNot : MethodName := ⟨RX2, "readNot", "(I)Z"⟩
abbrev cX2_readSum : ByteArray := prog_4_method_10_code
def yX2_readSum : MethodName := ⟨RX2, "readSum", "(I)Z"⟩
abbrev cX2_readTerm : ByteArray := prog_4_method_11_code
def yX2_readTerm : MethodName := ⟨RX2, "readTerm", "(I)Z"⟩
abbrev cX2_readOne : ByteArray := prog_4_method_12_code
def yX2_readOne : MethodName := ⟨RX2, "readOne", "(I)Z"⟩
abbrev cX2_readToken : ByteArray := prog_4_method_13_code
def yX2_readToken : MethodName := ⟨RX2, "readToken", "()V"⟩
abbrev cX2_readWord : ByteArray := prog_4_method_14_code
def yX2_readWord : MethodName := ⟨RX2, "readWord", "()V"⟩
abbrev cX2_readNumber : ByteArray := prog_4_method_15_code
def yX2_readNumber : MethodName := ⟨RX2, "readNumber", "()V"⟩
abbrev cX2_spells : ByteArray := prog_4_method_16_code
def yX2_spells : MethodName := ⟨RX2, "spells", "(Ljava/lang/String;)Z"⟩
abbrev cX2_wordOf : ByteArray := prog_4_method_17_code
def yX2_wordOf : MethodName := ⟨RX2, "wordOf", "(I)Ljava/lang/String;"⟩
abbrev cX2_isLetter : ByteArray := prog_4_method_18_code
def yX2_isLetter : MethodName := ⟨RX2, "isLetter", "(I)Z"⟩
abbrev cX2_isDigit : ByteArray := prog_4_method_19_code
def yX2_isDigit : MethodName := ⟨RX2, "isDigit", "(I)Z"⟩
abbrev cX2_isSign : ByteArray := prog_4_method_20_code
def yX2_isSign : MethodName := ⟨RX2, "isSign", "(I)Z"⟩
def RX3 : String := "SnuffOfElsewhere$Text"
def TX3 : u_T := fun k => match k with
  | 0 => ("SnuffOfElsewhere$Text", "code", "[I", true)
  | _ => ("SnuffOfElsewhere$Text", "ends", "[I", true)
def tyX3 : Nat → FieldType := fun k => match k with
  | 0 => .array .int
  | _ => .array .int
theorem nmX3 : ∀ a, a < 2 → ∀ b, b < 2 → a ≠ b → (TX3 a).2.1 ≠ (TX3 b).2.1 := by decide +kernel
theorem tyX3_ok : ∀ k, k < 2 → parseFieldDescriptor (TX3 k).2.2.1 = some (tyX3 k) := by decide +kernel
abbrev cX3_init : ByteArray := prog_5_method_1_code
def yX3_init : MethodName := ⟨RX3, "<init>", "([II[I)V"⟩
abbrev cX3_begin : ByteArray := prog_5_method_2_code
def yX3_begin : MethodName := ⟨RX3, "begin", "(I)I"⟩
abbrev cX3_joined : ByteArray := prog_5_method_3_code
def yX3_joined : MethodName := ⟨RX3, "joined", "(III)I"⟩
def RX4 : String := "SnuffOfElsewhere"
def TX4 : u_T := fun k => match k with
  | 0 => ("SnuffOfElsewhere", "texts", "[LSnuffOfElsewhere$Text;", true)
  | 1 => ("SnuffOfElsewhere", "textCount", "I", false)
  | 2 => ("SnuffOfElsewhere", "tape", "LSnuffOfElsewhere$Tape;", true)
  | 3 => ("SnuffOfElsewhere", "now", "LSnuffOfElsewhere$Company;", true)
  | 4 => ("SnuffOfElsewhere", "thought", "LSnuffOfElsewhere$Company;", true)
  | 5 => ("SnuffOfElsewhere", "kept", "LSnuffOfElsewhere$Company;", true)
  | 6 => ("SnuffOfElsewhere", "hasImage", "Z", false)
  | 7 => ("SnuffOfElsewhere", "sheets", "[LSnuffOfElsewhere$Sheet;", true)
  | _ => ("SnuffOfElsewhere", "best", "[I", true)
def tyX4 : Nat → FieldType := fun k => match k with
  | 0 => .array (.object "SnuffOfElsewhere$Text")
  | 1 => .int
  | 2 => .object "SnuffOfElsewhere$Tape"
  | 3 => .object "SnuffOfElsewhere$Company"
  | 4 => .object "SnuffOfElsewhere$Company"
  | 5 => .object "SnuffOfElsewhere$Company"
  | 6 => .boolean
  | 7 => .array (.object "SnuffOfElsewhere$Sheet")
  | _ => .array .int
theorem nmX4 : ∀ a, a < 9 → ∀ b, b < 9 → a ≠ b → (TX4 a).2.1 ≠ (TX4 b).2.1 := by decide +kernel
theorem tyX4_ok : ∀ k, k < 9 → parseFieldDescriptor (TX4 k).2.2.1 = some (tyX4 k) := by decide +kernel
abbrev cX4_init : ByteArray := prog_1_method_1_code
def yX4_init : MethodName := ⟨RX4, "<init>", "()V"⟩
abbrev cX4_count : ByteArray := prog_1_method_2_code
def yX4_count : MethodName := ⟨RX4, "count", "(I)I"⟩
abbrev cX4_clock : ByteArray := prog_1_method_3_code
def yX4_clock : MethodName := ⟨RX4, "clock", "(I)I"⟩
abbrev cX4_feed : ByteArray := prog_1_method_4_code
def yX4_feed : MethodName := ⟨RX4, "feed", "(IIIIII)I"⟩
abbrev cX4_text : ByteArray := prog_1_method_5_code
def yX4_text : MethodName := ⟨RX4, "text", "()I"⟩
abbrev cX4_force : ByteArray := prog_1_method_6_code
def yX4_force : MethodName := ⟨RX4, "force", "(I)I"⟩
abbrev cX4_asks : ByteArray := prog_1_method_7_code
def yX4_asks : MethodName := ⟨RX4, "asks", "(III)I"⟩
abbrev cX4_gentleman : ByteArray := prog_1_method_8_code
def yX4_gentleman : MethodName := ⟨RX4, "gentleman", "(II)I"⟩
abbrev cX4_put : ByteArray := prog_1_method_9_code
def yX4_put : MethodName := ⟨RX4, "put", "(III)I"⟩
abbrev cX4_told : ByteArray := prog_1_method_10_code
def yX4_told : MethodName := ⟨RX4, "told", "(II)I"⟩
abbrev cX4_pinches : ByteArray := prog_1_method_11_code
def yX4_pinches : MethodName := ⟨RX4, "pinches", "(III)I"⟩
abbrev cX4_pinch : ByteArray := prog_1_method_12_code
def yX4_pinch : MethodName := ⟨RX4, "pinch", "(II)I"⟩
abbrev cX4_give : ByteArray := prog_1_method_13_code
def yX4_give : MethodName := ⟨RX4, "give", "(III)I"⟩
abbrev cX4_minute : ByteArray := prog_1_method_14_code
def yX4_minute : MethodName := ⟨RX4, "minute", "()I"⟩
abbrev cX4_room : ByteArray := prog_1_method_15_code
def yX4_room : MethodName := ⟨RX4, "room", "(I)I"⟩
abbrev cX4_evening : ByteArray := prog_1_method_16_code
def yX4_evening : MethodName := ⟨RX4, "evening", "(II)I"⟩
abbrev cX4_spend : ByteArray := prog_1_method_17_code
def yX4_spend : MethodName := ⟨RX4, "spend", "(I)I"⟩
abbrev cX4_plan : ByteArray := prog_1_method_18_code
def yX4_plan : MethodName := ⟨RX4, "plan", "(III)I"⟩
abbrev cX4_fillBest : ByteArray := prog_1_method_19_code
def yX4_fillBest : MethodName := ⟨RX4, "fillBest", "(II)V"⟩
abbrev cX4_which : ByteArray := prog_1_method_20_code
def yX4_which : MethodName := ⟨RX4, "which", "(II)I"⟩
abbrev cX4_tour : ByteArray := prog_1_method_21_code
def yX4_tour : MethodName := ⟨RX4, "tour", "(II)I"⟩
abbrev cX4_tourMinutes : ByteArray := prog_1_method_22_code
def yX4_tourMinutes : MethodName := ⟨RX4, "tourMinutes", "(I)I"⟩
abbrev cX4_share : ByteArray := prog_1_method_23_code
def yX4_share : MethodName := ⟨RX4, "share", "(II)I"⟩
abbrev cX4_witSharing : ByteArray := prog_1_method_24_code
def yX4_witSharing : MethodName := ⟨RX4, "witSharing", "(II)I"⟩
abbrev cX4_box : ByteArray := prog_1_method_25_code
def yX4_box : MethodName := ⟨RX4, "box", "(II)J"⟩
abbrev cX4_judge : ByteArray := prog_1_method_26_code
def yX4_judge : MethodName := ⟨RX4, "judge", "(III)I"⟩
abbrev cX4_kinds : ByteArray := prog_1_method_27_code
def yX4_kinds : MethodName := ⟨RX4, "kinds", "(IIII)I"⟩
abbrev cX4_states : ByteArray := prog_1_method_28_code
def yX4_states : MethodName := ⟨RX4, "states", "(IIIII)I"⟩
abbrev cX4_whose : ByteArray := prog_1_method_29_code
def yX4_whose : MethodName := ⟨RX4, "whose", "(II)I"⟩
abbrev cX4_laws : ByteArray := prog_1_method_30_code
def yX4_laws : MethodName := ⟨RX4, "laws", "(III)I"⟩
abbrev cX4_film : ByteArray := prog_1_method_31_code
def yX4_film : MethodName := ⟨RX4, "film", "(III)I"⟩
abbrev cX4_otherwise : ByteArray := prog_1_method_32_code
def yX4_otherwise : MethodName := ⟨RX4, "otherwise", "(III)I"⟩
abbrev cX4_drawn : ByteArray := prog_1_method_33_code
def yX4_drawn : MethodName := ⟨RX4, "drawn", "(III)I"⟩
abbrev cX4_odds : ByteArray := prog_1_method_34_code
def yX4_odds : MethodName := ⟨RX4, "odds", "(IIII)J"⟩
abbrev cX4_drawEvening : ByteArray := prog_1_method_35_code
def yX4_drawEvening : MethodName := ⟨RX4, "drawEvening", "(II)I"⟩
abbrev cX4_image : ByteArray := prog_1_method_36_code
def yX4_image : MethodName := ⟨RX4, "image", "()I"⟩
abbrev cX4_back : ByteArray := prog_1_method_37_code
def yX4_back : MethodName := ⟨RX4, "back", "()I"⟩
abbrev cX4_sheet : ByteArray := prog_1_method_38_code
def yX4_sheet : MethodName := ⟨RX4, "sheet", "(III)I"⟩
abbrev cX4_cell : ByteArray := prog_1_method_39_code
def yX4_cell : MethodName := ⟨RX4, "cell", "(III)I"⟩
abbrev cX4_copy : ByteArray := prog_1_method_40_code
def yX4_copy : MethodName := ⟨RX4, "copy", "(IIIII)I"⟩
abbrev cX4_setBy : ByteArray := prog_1_method_41_code
def yX4_setBy : MethodName := ⟨RX4, "setBy", "(IIII)I"⟩
abbrev cX4_taken : ByteArray := prog_1_method_42_code
def yX4_taken : MethodName := ⟨RX4, "taken", "(II)I"⟩
abbrev cX4_within : ByteArray := prog_1_method_43_code
def yX4_within : MethodName := ⟨RX4, "within", "(III)Z"⟩
abbrev cX4_bounded : ByteArray := prog_1_method_44_code
def yX4_bounded : MethodName := ⟨RX4, "bounded", "(III)I"⟩
abbrev cX4_isByte : ByteArray := prog_1_method_45_code
def yX4_isByte : MethodName := ⟨RX4, "isByte", "(I)Z"⟩
abbrev cX4_isSort : ByteArray := prog_1_method_46_code
def yX4_isSort : MethodName := ⟨RX4, "isSort", "(I)Z"⟩
abbrev cX4_isSheet : ByteArray := prog_1_method_47_code
def yX4_isSheet : MethodName := ⟨RX4, "isSheet", "(I)Z"⟩
abbrev cX4_isA : ByteArray := prog_1_method_48_code
def yX4_isA : MethodName := ⟨RX4, "isA", "(II)Z"⟩
abbrev cX4_refusesEvening : ByteArray := prog_1_method_49_code
def yX4_refusesEvening : MethodName := ⟨RX4, "refusesEvening", "(I)I"⟩
abbrev cX4_refusesTold : ByteArray := prog_1_method_50_code
def yX4_refusesTold : MethodName := ⟨RX4, "refusesTold", "(II)I"⟩
abbrev cX4_refusesJudging : ByteArray := prog_1_method_51_code
def yX4_refusesJudging : MethodName := ⟨RX4, "refusesJudging", "(III)I"⟩
abbrev cX4_lowest : ByteArray := prog_1_method_52_code
def yX4_lowest : MethodName := ⟨RX4, "lowest", "(III)J"⟩
def RX5 : String := "SnuffOfElsewhereModel"
def TX5 : u_T := fun k => match k with
  | 0 => ("SnuffOfElsewhereModel", "gentlemen", "I", false)
  | 1 => ("SnuffOfElsewhereModel", "kind", "[I", true)
  | 2 => ("SnuffOfElsewhereModel", "moreOf", "[I", true)
  | 3 => ("SnuffOfElsewhereModel", "rows", "[I", true)
  | 4 => ("SnuffOfElsewhereModel", "minutes", "I", false)
  | 5 => ("SnuffOfElsewhereModel", "tape", "[I", true)
  | 6 => ("SnuffOfElsewhereModel", "taped", "I", false)
  | 7 => ("SnuffOfElsewhereModel", "codes", "[I", true)
  | 8 => ("SnuffOfElsewhereModel", "starts", "[I", true)
  | 9 => ("SnuffOfElsewhereModel", "texts", "I", false)
  | 10 => ("SnuffOfElsewhereModel", "rule", "I", false)
  | 11 => ("SnuffOfElsewhereModel", "hasImage", "Z", false)
  | 12 => ("SnuffOfElsewhereModel", "imageRows", "[I", true)
  | 13 => ("SnuffOfElsewhereModel", "imageHeld", "[I", true)
  | 14 => ("SnuffOfElsewhereModel", "sheetSort", "[I", true)
  | 15 => ("SnuffOfElsewhereModel", "sheetSize", "[I", true)
  | 16 => ("SnuffOfElsewhereModel", "cells", "[I", true)
  | 17 => ("SnuffOfElsewhereModel", "law", "[I", true)
  | 18 => ("SnuffOfElsewhereModel", "at", "I", false)
  | 19 => ("SnuffOfElsewhereModel", "begun", "I", false)
  | 20 => ("SnuffOfElsewhereModel", "token", "I", false)
  | 21 => ("SnuffOfElsewhereModel", "value", "I", false)
  | 22 => ("SnuffOfElsewhereModel", "words", "[I", true)
  | 23 => ("SnuffOfElsewhereModel", "held", "[I", true)
  | 24 => ("SnuffOfElsewhereModel", "heldMany", "I", false)
  | 25 => ("SnuffOfElsewhereModel", "opens", "I", false)
  | 26 => ("SnuffOfElsewhereModel", "out", "I", false)
  | 27 => ("SnuffOfElsewhereModel", "stack", "[I", true)
  | 28 => ("SnuffOfElsewhereModel", "named", "[I", true)
  | 29 => ("SnuffOfElsewhereModel", "kept", "[I", true)
  | 30 => ("SnuffOfElsewhereModel", "evenings", "[I", true)
  | 31 => ("SnuffOfElsewhereModel", "gained", "[I", true)
  | _ => ("SnuffOfElsewhereModel", "takenThen", "I", false)
def tyX5 : Nat → FieldType := fun k => match k with
  | 0 => .int
  | 1 => .array .int
  | 2 => .array .int
  | 3 => .array .int
  | 4 => .int
  | 5 => .array .int
  | 6 => .int
  | 7 => .array .int
  | 8 => .array .int
  | 9 => .int
  | 10 => .int
  | 11 => .boolean
  | 12 => .array .int
  | 13 => .array .int
  | 14 => .array .int
  | 15 => .array .int
  | 16 => .array .int
  | 17 => .array .int
  | 18 => .int
  | 19 => .int
  | 20 => .int
  | 21 => .int
  | 22 => .array .int
  | 23 => .array .int
  | 24 => .int
  | 25 => .int
  | 26 => .int
  | 27 => .array .int
  | 28 => .array .int
  | 29 => .array .int
  | 30 => .array .int
  | 31 => .array .int
  | _ => .int
theorem nmX5 : ∀ a, a < 33 → ∀ b, b < 33 → a ≠ b → (TX5 a).2.1 ≠ (TX5 b).2.1 := by decide +kernel
theorem tyX5_ok : ∀ k, k < 33 → parseFieldDescriptor (TX5 k).2.2.1 = some (tyX5 k) := by decide +kernel
abbrev cX5_init : ByteArray := prog_7_method_1_code
def yX5_init : MethodName := ⟨RX5, "<init>", "()V"⟩
abbrev cX5_in : ByteArray := prog_7_method_3_code
def yX5_in : MethodName := ⟨RX5, "in", "(III)Z"⟩
abbrev cX5_within : ByteArray := prog_7_method_4_code
def yX5_within : MethodName := ⟨RX5, "within", "(III)I"⟩
abbrev cX5_onesOf : ByteArray := prog_7_method_5_code
def yX5_onesOf : MethodName := ⟨RX5, "onesOf", "(I)I"⟩
abbrev cX5_isOne : ByteArray := prog_7_method_6_code
def yX5_isOne : MethodName := ⟨RX5, "isOne", "(I)Z"⟩
abbrev cX5_isPlace : ByteArray := prog_7_method_7_code
def yX5_isPlace : MethodName := ⟨RX5, "isPlace", "(I)Z"⟩
abbrev cX5_isHere : ByteArray := prog_7_method_8_code
def yX5_isHere : MethodName := ⟨RX5, "isHere", "(I)Z"⟩
abbrev cX5_hasSand : ByteArray := prog_7_method_9_code
def yX5_hasSand : MethodName := ⟨RX5, "hasSand", "(II)Z"⟩
abbrev cX5_hereSet : ByteArray := prog_7_method_10_code
def yX5_hereSet : MethodName := ⟨RX5, "hereSet", "()I"⟩
abbrev cX5_witAll : ByteArray := prog_7_method_11_code
def yX5_witAll : MethodName := ⟨RX5, "witAll", "()I"⟩
abbrev cX5_count : ByteArray := prog_7_method_12_code
def yX5_count : MethodName := ⟨RX5, "count", "(I)I"⟩
abbrev cX5_clock : ByteArray := prog_7_method_13_code
def yX5_clock : MethodName := ⟨RX5, "clock", "(I)I"⟩
abbrev cX5_isByte : ByteArray := prog_7_method_14_code
def yX5_isByte : MethodName := ⟨RX5, "isByte", "(I)Z"⟩
abbrev cX5_feed : ByteArray := prog_7_method_15_code
def yX5_feed : MethodName := ⟨RX5, "feed", "(IIIIII)I"⟩
abbrev cX5_wordFrom : ByteArray := prog_7_method_16_code
def yX5_wordFrom : MethodName := ⟨RX5, "wordFrom", "(II)I"⟩
abbrev cX5_next : ByteArray := prog_7_method_17_code
def yX5_next : MethodName := ⟨RX5, "next", "()V"⟩
abbrev cX5_rank : ByteArray := prog_7_method_18_code
def yX5_rank : MethodName := ⟨RX5, "rank", "(I)I"⟩
abbrev cX5_puts : ByteArray := prog_7_method_19_code
def yX5_puts : MethodName := ⟨RX5, "puts", "(I)V"⟩
abbrev cX5_unwinds : ByteArray := prog_7_method_20_code
def yX5_unwinds : MethodName := ⟨RX5, "unwinds", "(I)V"⟩
abbrev cX5_holds : ByteArray := prog_7_method_21_code
def yX5_holds : MethodName := ⟨RX5, "holds", "(I)V"⟩
abbrev cX5_opensOne : ByteArray := prog_7_method_22_code
def yX5_opensOne : MethodName := ⟨RX5, "opensOne", "(I)Z"⟩
abbrev cX5_between : ByteArray := prog_7_method_23_code
def yX5_between : MethodName := ⟨RX5, "between", "(I)Z"⟩
abbrev cX5_signOf : ByteArray := prog_7_method_24_code
def yX5_signOf : MethodName := ⟨RX5, "signOf", "()I"⟩
abbrev cX5_eRead : ByteArray := prog_7_method_25_code
def yX5_eRead : MethodName := ⟨RX5, "eRead", "()Z"⟩
abbrev cX5_text : ByteArray := prog_7_method_26_code
def yX5_text : MethodName := ⟨RX5, "text", "()I"⟩
abbrev cX5_two : ByteArray := prog_7_method_27_code
def yX5_two : MethodName := ⟨RX5, "two", "(III)I"⟩
abbrev cX5_says : ByteArray := prog_7_method_28_code
def yX5_says : MethodName := ⟨RX5, "says", "(I)I"⟩
abbrev cX5_force : ByteArray := prog_7_method_29_code
def yX5_force : MethodName := ⟨RX5, "force", "(I)I"⟩
abbrev cX5_asksOf : ByteArray := prog_7_method_30_code
def yX5_asksOf : MethodName := ⟨RX5, "asksOf", "(III)I"⟩
abbrev cX5_asks : ByteArray := prog_7_method_31_code
def yX5_asks : MethodName := ⟨RX5, "asks", "(III)I"⟩
abbrev cX5_gentleman : ByteArray := prog_7_method_32_code
def yX5_gentleman : MethodName := ⟨RX5, "gentleman", "(II)I"⟩
abbrev cX5_put : ByteArray := prog_7_method_33_code
def yX5_put : MethodName := ⟨RX5, "put", "(III)I"⟩
abbrev cX5_told : ByteArray := prog_7_method_34_code
def yX5_told : MethodName := ⟨RX5, "told", "(II)I"⟩
abbrev cX5_goneOf : ByteArray := prog_7_method_35_code
def yX5_goneOf : MethodName := ⟨RX5, "goneOf", "(II)I"⟩
abbrev cX5_gainsOf : ByteArray := prog_7_method_36_code
def yX5_gainsOf : MethodName := ⟨RX5, "gainsOf", "(II)I"⟩
abbrev cX5_spillsOf : ByteArray := prog_7_method_37_code
def yX5_spillsOf : MethodName := ⟨RX5, "spillsOf", "(II)I"⟩
abbrev cX5_pinches : ByteArray := prog_7_method_38_code
def yX5_pinches : MethodName := ⟨RX5, "pinches", "(III)I"⟩
abbrev cX5_can : ByteArray := prog_7_method_39_code
def yX5_can : MethodName := ⟨RX5, "can", "(II)Z"⟩
abbrev cX5_pinchOf : ByteArray := prog_7_method_40_code
def yX5_pinchOf : MethodName := ⟨RX5, "pinchOf", "(II)V"⟩
abbrev cX5_pinch : ByteArray := prog_7_method_41_code
def yX5_pinch : MethodName := ⟨RX5, "pinch", "(II)I"⟩
abbrev cX5_give : ByteArray := prog_7_method_42_code
def yX5_give : MethodName := ⟨RX5, "give", "(III)I"⟩
abbrev cX5_minuteOf : ByteArray := prog_7_method_43_code
def yX5_minuteOf : MethodName := ⟨RX5, "minuteOf", "()I"⟩
abbrev cX5_minute : ByteArray := prog_7_method_44_code
def yX5_minute : MethodName := ⟨RX5, "minute", "()I"⟩
abbrev cX5_whoIn : ByteArray := prog_7_method_45_code
def yX5_whoIn : MethodName := ⟨RX5, "whoIn", "(I)I"⟩
abbrev cX5_longest : ByteArray := prog_7_method_46_code
def yX5_longest : MethodName := ⟨RX5, "longest", "()I"⟩
abbrev cX5_room : ByteArray := prog_7_method_47_code
def yX5_room : MethodName := ⟨RX5, "room", "(I)I"⟩
abbrev cX5_keeps : ByteArray := prog_7_method_48_code
def yX5_keeps : MethodName := ⟨RX5, "keeps", "()V"⟩
abbrev cX5_lays : ByteArray := prog_7_method_49_code
def yX5_lays : MethodName := ⟨RX5, "lays", "()V"⟩
abbrev cX5_eveningWrong : ByteArray := prog_7_method_50_code
def yX5_eveningWrong : MethodName := ⟨RX5, "eveningWrong", "(I)I"⟩
abbrev cX5_takesOne : ByteArray := prog_7_method_51_code
def yX5_takesOne : MethodName := ⟨RX5, "takesOne", "(I)Z"⟩
abbrev cX5_goes : ByteArray := prog_7_method_52_code
def yX5_goes : MethodName := ⟨RX5, "goes", "(I)V"⟩
abbrev cX5_evening : ByteArray := prog_7_method_53_code
def yX5_evening : MethodName := ⟨RX5, "evening", "(II)I"⟩
abbrev cX5_spend : ByteArray := prog_7_method_54_code
def yX5_spend : MethodName := ⟨RX5, "spend", "(I)I"⟩
abbrev cX5_addsGrain : ByteArray := prog_7_method_55_code
def yX5_addsGrain : MethodName := ⟨RX5, "addsGrain", "(II)V"⟩
abbrev cX5_plan : ByteArray := prog_7_method_56_code
def yX5_plan : MethodName := ⟨RX5, "plan", "(III)I"⟩
abbrev cX5_which : ByteArray := prog_7_method_57_code
def yX5_which : MethodName := ⟨RX5, "which", "(II)I"⟩
abbrev cX5_firstUnseen : ByteArray := prog_7_method_58_code
def yX5_firstUnseen : MethodName := ⟨RX5, "firstUnseen", "(I)I"⟩
abbrev cX5_unseen : ByteArray := prog_7_method_59_code
def yX5_unseen : MethodName := ⟨RX5, "unseen", "(I)I"⟩
abbrev cX5_tourOf : ByteArray := prog_7_method_60_code
def yX5_tourOf : MethodName := ⟨RX5, "tourOf", "(I)I"⟩
abbrev cX5_tour : ByteArray := prog_7_method_61_code
def yX5_tour : MethodName := ⟨RX5, "tour", "(II)I"⟩
abbrev cX5_witSharing : ByteArray := prog_7_method_62_code
def yX5_witSharing : MethodName := ⟨RX5, "witSharing", "(I)I"⟩
abbrev cX5_share : ByteArray := prog_7_method_63_code
def yX5_share : MethodName := ⟨RX5, "share", "(II)I"⟩
abbrev cX5_lowest : ByteArray := prog_7_method_64_code
def yX5_lowest : MethodName := ⟨RX5, "lowest", "(JJI)J"⟩
abbrev cX5_grainsOf : ByteArray := prog_7_method_65_code
def yX5_grainsOf : MethodName := ⟨RX5, "grainsOf", "(I)I"⟩
abbrev cX5_box : ByteArray := prog_7_method_66_code
def yX5_box : MethodName := ⟨RX5, "box", "(II)J"⟩
abbrev cX5_twoWrong : ByteArray := prog_7_method_67_code
def yX5_twoWrong : MethodName := ⟨RX5, "twoWrong", "(II)I"⟩
abbrev cX5_toldWrong : ByteArray := prog_7_method_68_code
def yX5_toldWrong : MethodName := ⟨RX5, "toldWrong", "(III)I"⟩
abbrev cX5_unlike : ByteArray := prog_7_method_69_code
def yX5_unlike : MethodName := ⟨RX5, "unlike", "(III)I"⟩
abbrev cX5_judge : ByteArray := prog_7_method_70_code
def yX5_judge : MethodName := ⟨RX5, "judge", "(III)I"⟩
abbrev cX5_kinds : ByteArray := prog_7_method_71_code
def yX5_kinds : MethodName := ⟨RX5, "kinds", "(IIII)I"⟩
abbrev cX5_states : ByteArray := prog_7_method_72_code
def yX5_states : MethodName := ⟨RX5, "states", "(IIIII)I"⟩
abbrev cX5_whose : ByteArray := prog_7_method_73_code
def yX5_whose : MethodName := ⟨RX5, "whose", "(II)I"⟩
abbrev cX5_laws : ByteArray := prog_7_method_74_code
def yX5_laws : MethodName := ⟨RX5, "laws", "(III)I"⟩
abbrev cX5_film : ByteArray := prog_7_method_75_code
def yX5_film : MethodName := ⟨RX5, "film", "(III)I"⟩
abbrev cX5_lotEvening : ByteArray := prog_7_method_76_code
def yX5_lotEvening : MethodName := ⟨RX5, "lotEvening", "(II)I"⟩
abbrev cX5_drawn : ByteArray := prog_7_method_77_code
def yX5_drawn : MethodName := ⟨RX5, "drawn", "(III)I"⟩
abbrev cX5_odds : ByteArray := prog_7_method_78_code
def yX5_odds : MethodName := ⟨RX5, "odds", "(IIII)J"⟩
abbrev cX5_image : ByteArray := prog_7_method_79_code
def yX5_image : MethodName := ⟨RX5, "image", "()I"⟩
abbrev cX5_back : ByteArray := prog_7_method_80_code
def yX5_back : MethodName := ⟨RX5, "back", "()I"⟩
abbrev cX5_sheet : ByteArray := prog_7_method_81_code
def yX5_sheet : MethodName := ⟨RX5, "sheet", "(III)I"⟩
abbrev cX5_cell : ByteArray := prog_7_method_82_code
def yX5_cell : MethodName := ⟨RX5, "cell", "(III)I"⟩
abbrev cX5_copy : ByteArray := prog_7_method_83_code
def yX5_copy : MethodName := ⟨RX5, "copy", "(IIIII)I"⟩
abbrev cX5_setBy : ByteArray := prog_7_method_84_code
def yX5_setBy : MethodName := ⟨RX5, "setBy", "(IIII)I"⟩
abbrev cX5_isUnder : ByteArray := prog_7_method_85_code
def yX5_isUnder : MethodName := ⟨RX5, "isUnder", "(II)Z"⟩
abbrev cX5_taken : ByteArray := prog_7_method_86_code
def yX5_taken : MethodName := ⟨RX5, "taken", "(II)I"⟩
def RJ6 : String := "java/lang/Integer"
def TJ6 : u_T := fun k => match k with
  | _ => ("", "", "", false)
def tyJ6 : Nat → FieldType := fun k => match k with
  | _ => .int
abbrev cJ6_bitCount_0f7a4 : ByteArray := prog_8_method_49_code
def yJ6_bitCount_0f7a4 : MethodName := ⟨RJ6, "bitCount", "(I)I"⟩
def RJ9 : String := "java/lang/Math"
def TJ9 : u_T := fun k => match k with
  | _ => ("", "", "", false)
def tyJ9 : Nat → FieldType := fun k => match k with
  | _ => .int
abbrev cJ9_max_7cf53 : ByteArray := prog_9_method_65_code
def yJ9_max_7cf53 : MethodName := ⟨RJ9, "max", "(II)I"⟩
abbrev cJ9_min_7cf53 : ByteArray := prog_9_method_69_code
def yJ9_min_7cf53 : MethodName := ⟨RJ9, "min", "(II)I"⟩
def RJ0 : String := "java/lang/String"
def TJ0 : u_T := fun k => match k with
  | _ => ("", "", "", false)
def tyJ0 : Nat → FieldType := fun k => match k with
  | _ => .int
abbrev cJ0_length_8abf5 : ByteArray := prog_10_method_54_code
def yJ0_length_8abf5 : MethodName := ⟨RJ0, "length", "()I"⟩
abbrev cJ0_charAt_5068e : ByteArray := prog_10_method_56_code
def yJ0_charAt_5068e : MethodName := ⟨RJ0, "charAt", "(I)C"⟩
abbrev cJ0_coder_7d493 : ByteArray := prog_10_method_152_code
def yJ0_coder_7d493 : MethodName := ⟨RJ0, "coder", "()B"⟩
abbrev cJ0_isLatin1_aae02 : ByteArray := prog_10_method_154_code
def yJ0_isLatin1_aae02 : MethodName := ⟨RJ0, "isLatin1", "()Z"⟩
abbrev cJ0_checkIndex_df160 : ByteArray := prog_10_method_155_code
def yJ0_checkIndex_df160 : MethodName := ⟨RJ0, "checkIndex", "(II)V"⟩
def RJ1 : String := "java/lang/StringLatin1"
def TJ1 : u_T := fun k => match k with
  | _ => ("", "", "", false)
def tyJ1 : Nat → FieldType := fun k => match k with
  | _ => .int
abbrev cJ1_charAt_3b067 : ByteArray := prog_11_method_2_code
def yJ1_charAt_3b067 : MethodName := ⟨RJ1, "charAt", "([BI)C"⟩
def RJ2 : String := "java/lang/StringUTF16"
def TJ2 : u_T := fun k => match k with
  | _ => ("", "", "", false)
def tyJ2 : Nat → FieldType := fun k => match k with
  | _ => .int
abbrev cJ2_getChar_3b067 : ByteArray := prog_12_method_5_code
def yJ2_getChar_3b067 : MethodName := ⟨RJ2, "getChar", "([BI)C"⟩
abbrev cJ2_length_9d52b : ByteArray := prog_12_method_6_code
def yJ2_length_9d52b : MethodName := ⟨RJ2, "length", "([B)I"⟩
abbrev cJ2_charAt_3b067 : ByteArray := prog_12_method_83_code
def yJ2_charAt_3b067 : MethodName := ⟨RJ2, "charAt", "([BI)C"⟩
abbrev cJ2_checkIndex_2214a : ByteArray := prog_12_method_91_code
def yJ2_checkIndex_2214a : MethodName := ⟨RJ2, "checkIndex", "(I[B)V"⟩
def RJ10 : String := "java/lang/System"
def TJ10 : u_T := fun k => match k with
  | _ => ("", "", "", false)
def tyJ10 : Nat → FieldType := fun k => match k with
  | _ => .int
def RJ3 : String := "jdk/internal/util/Preconditions"
def TJ3 : u_T := fun k => match k with
  | _ => ("", "", "", false)
def tyJ3 : Nat → FieldType := fun k => match k with
  | _ => .int
abbrev cJ3_checkIndex_8e157 : ByteArray := prog_14_method_11_code
def yJ3_checkIndex_8e157 : MethodName := ⟨RJ3, "checkIndex", "(IILjava/util/function/BiFunction;)I"⟩
def RL : String := "SnuffOfElsewhereLaw"
abbrev cL_law : ByteArray := code
def yL_law : MethodName := ⟨RL, "law", "([I)Z"⟩
abbrev vwCl : List vw_C := [(RX0, TX0, 12), (RX1, TX1, 3), (RX2, TX2, 9), (RX3, TX3, 2), (RX4, TX4, 9), (RX5, TX5, 33)]
end
section
theorem dX5_init_0 : decode cX5_init 0 = .ok (.aload_n 0, 1) := by decide +kernel
theorem dX5_init_1 : decode cX5_init 1 = .ok (.invokespecial 1, 3) := by decide +kernel
theorem dX5_init_4 : decode cX5_init 4 = .ok (.aload_n 0, 1) := by decide +kernel
theorem dX5_init_5 : decode cX5_init 5 = .ok (.bipush 6, 2) := by decide +kernel
theorem dX5_init_7 : decode cX5_init 7 = .ok (.newarray .int, 2) := by decide +kernel
theorem dX5_init_9 : decode cX5_init 9 = .ok (.putfield 7, 3) := by decide +kernel
theorem dX5_init_12 : decode cX5_init 12 = .ok (.aload_n 0, 1) := by decide +kernel
theorem dX5_init_13 : decode cX5_init 13 = .ok (.bipush 6, 2) := by decide +kernel
theorem dX5_init_15 : decode cX5_init 15 = .ok (.newarray .int, 2) := by decide +kernel
theorem dX5_init_17 : decode cX5_init 17 = .ok (.putfield 13, 3) := by decide +kernel
theorem dX5_init_20 : decode cX5_init 20 = .ok (.aload_n 0, 1) := by decide +kernel
theorem dX5_init_21 : decode cX5_init 21 = .ok (.bipush 72, 2) := by decide +kernel
theorem dX5_init_23 : decode cX5_init 23 = .ok (.newarray .int, 2) := by decide +kernel
theorem dX5_init_25 : decode cX5_init 25 = .ok (.putfield 16, 3) := by decide +kernel
theorem dX5_init_28 : decode cX5_init 28 = .ok (.aload_n 0, 1) := by decide +kernel
theorem dX5_init_29 : decode cX5_init 29 = .ok (.sipush 160, 3) := by decide +kernel
theorem dX5_init_32 : decode cX5_init 32 = .ok (.newarray .int, 2) := by decide +kernel
theorem dX5_init_34 : decode cX5_init 34 = .ok (.putfield 19, 3) := by decide +kernel
theorem dX5_init_37 : decode cX5_init 37 = .ok (.aload_n 0, 1) := by decide +kernel
theorem dX5_init_38 : decode cX5_init 38 = .ok (.sipush 1200, 3) := by decide +kernel
theorem dX5_init_41 : decode cX5_init 41 = .ok (.newarray .int, 2) := by decide +kernel
theorem dX5_init_43 : decode cX5_init 43 = .ok (.putfield 22, 3) := by decide +kernel
theorem dX5_init_46 : decode cX5_init 46 = .ok (.aload_n 0, 1) := by decide +kernel
theorem dX5_init_47 : decode cX5_init 47 = .ok (.bipush 24, 2) := by decide +kernel
theorem dX5_init_49 : decode cX5_init 49 = .ok (.newarray .int, 2) := by decide +kernel
theorem dX5_init_51 : decode cX5_init 51 = .ok (.putfield 25, 3) := by decide +kernel
theorem dX5_init_54 : decode cX5_init 54 = .ok (.aload_n 0, 1) := by decide +kernel
theorem dX5_init_55 : decode cX5_init 55 = .ok (.bipush 72, 2) := by decide +kernel
theorem dX5_init_57 : decode cX5_init 57 = .ok (.newarray .int, 2) := by decide +kernel
theorem dX5_init_59 : decode cX5_init 59 = .ok (.putfield 28, 3) := by decide +kernel
theorem dX5_init_62 : decode cX5_init 62 = .ok (.aload_n 0, 1) := by decide +kernel
theorem dX5_init_63 : decode cX5_init 63 = .ok (.iconst 3, 1) := by decide +kernel
theorem dX5_init_64 : decode cX5_init 64 = .ok (.newarray .int, 2) := by decide +kernel
theorem dX5_init_66 : decode cX5_init 66 = .ok (.putfield 31, 3) := by decide +kernel
theorem dX5_init_69 : decode cX5_init 69 = .ok (.aload_n 0, 1) := by decide +kernel
theorem dX5_init_70 : decode cX5_init 70 = .ok (.iconst 4, 1) := by decide +kernel
theorem dX5_init_71 : decode cX5_init 71 = .ok (.newarray .int, 2) := by decide +kernel
theorem dX5_init_73 : decode cX5_init 73 = .ok (.dup, 1) := by decide +kernel
theorem dX5_init_74 : decode cX5_init 74 = .ok (.iconst 0, 1) := by decide +kernel
theorem dX5_init_75 : decode cX5_init 75 = .ok (.iconst (-1), 1) := by decide +kernel
theorem dX5_init_76 : decode cX5_init 76 = .ok (.iastore, 1) := by decide +kernel
theorem dX5_init_77 : decode cX5_init 77 = .ok (.dup, 1) := by decide +kernel
theorem dX5_init_78 : decode cX5_init 78 = .ok (.iconst 1, 1) := by decide +kernel
theorem dX5_init_79 : decode cX5_init 79 = .ok (.iconst (-1), 1) := by decide +kernel
theorem dX5_init_80 : decode cX5_init 80 = .ok (.iastore, 1) := by decide +kernel
theorem dX5_init_81 : decode cX5_init 81 = .ok (.dup, 1) := by decide +kernel
theorem dX5_init_82 : decode cX5_init 82 = .ok (.iconst 2, 1) := by decide +kernel
theorem dX5_init_83 : decode cX5_init 83 = .ok (.iconst (-1), 1) := by decide +kernel
theorem dX5_init_84 : decode cX5_init 84 = .ok (.iastore, 1) := by decide +kernel
theorem dX5_init_85 : decode cX5_init 85 = .ok (.dup, 1) := by decide +kernel
theorem dX5_init_86 : decode cX5_init 86 = .ok (.iconst 3, 1) := by decide +kernel
theorem dX5_init_87 : decode cX5_init 87 = .ok (.iconst (-1), 1) := by decide +kernel
theorem dX5_init_88 : decode cX5_init 88 = .ok (.iastore, 1) := by decide +kernel
theorem dX5_init_89 : decode cX5_init 89 = .ok (.putfield 34, 3) := by decide +kernel
theorem dX5_init_92 : decode cX5_init 92 = .ok (.aload_n 0, 1) := by decide +kernel
theorem dX5_init_93 : decode cX5_init 93 = .ok (.iconst 4, 1) := by decide +kernel
theorem dX5_init_94 : decode cX5_init 94 = .ok (.newarray .int, 2) := by decide +kernel
theorem dX5_init_96 : decode cX5_init 96 = .ok (.putfield 37, 3) := by decide +kernel
theorem dX5_init_99 : decode cX5_init 99 = .ok (.aload_n 0, 1) := by decide +kernel
theorem dX5_init_100 : decode cX5_init 100 = .ok (.sipush 160, 3) := by decide +kernel
theorem dX5_init_103 : decode cX5_init 103 = .ok (.newarray .int, 2) := by decide +kernel
theorem dX5_init_105 : decode cX5_init 105 = .ok (.putfield 40, 3) := by decide +kernel
theorem dX5_init_108 : decode cX5_init 108 = .ok (.aload_n 0, 1) := by decide +kernel
theorem dX5_init_109 : decode cX5_init 109 = .ok (.bipush 43, 2) := by decide +kernel
theorem dX5_init_111 : decode cX5_init 111 = .ok (.newarray .int, 2) := by decide +kernel
theorem dX5_init_113 : decode cX5_init 113 = .ok (.dup, 1) := by decide +kernel
theorem dX5_init_114 : decode cX5_init 114 = .ok (.iconst 0, 1) := by decide +kernel
theorem dX5_init_115 : decode cX5_init 115 = .ok (.bipush 103, 2) := by decide +kernel
theorem dX5_init_117 : decode cX5_init 117 = .ok (.iastore, 1) := by decide +kernel
theorem dX5_init_118 : decode cX5_init 118 = .ok (.dup, 1) := by decide +kernel
theorem dX5_init_119 : decode cX5_init 119 = .ok (.iconst 1, 1) := by decide +kernel
theorem dX5_init_120 : decode cX5_init 120 = .ok (.bipush 111, 2) := by decide +kernel
theorem dX5_init_122 : decode cX5_init 122 = .ok (.iastore, 1) := by decide +kernel
theorem dX5_init_123 : decode cX5_init 123 = .ok (.dup, 1) := by decide +kernel
theorem dX5_init_124 : decode cX5_init 124 = .ok (.iconst 2, 1) := by decide +kernel
theorem dX5_init_125 : decode cX5_init 125 = .ok (.bipush 110, 2) := by decide +kernel
theorem dX5_init_127 : decode cX5_init 127 = .ok (.iastore, 1) := by decide +kernel
theorem dX5_init_128 : decode cX5_init 128 = .ok (.dup, 1) := by decide +kernel
theorem dX5_init_129 : decode cX5_init 129 = .ok (.iconst 3, 1) := by decide +kernel
theorem dX5_init_130 : decode cX5_init 130 = .ok (.bipush 101, 2) := by decide +kernel
theorem dX5_init_132 : decode cX5_init 132 = .ok (.iastore, 1) := by decide +kernel
theorem dX5_init_133 : decode cX5_init 133 = .ok (.dup, 1) := by decide +kernel
theorem dX5_init_134 : decode cX5_init 134 = .ok (.iconst 4, 1) := by decide +kernel
theorem dX5_init_135 : decode cX5_init 135 = .ok (.bipush 32, 2) := by decide +kernel
theorem dX5_init_137 : decode cX5_init 137 = .ok (.iastore, 1) := by decide +kernel
theorem dX5_init_138 : decode cX5_init 138 = .ok (.dup, 1) := by decide +kernel
theorem dX5_init_139 : decode cX5_init 139 = .ok (.iconst 5, 1) := by decide +kernel
theorem dX5_init_140 : decode cX5_init 140 = .ok (.bipush 51, 2) := by decide +kernel
theorem dX5_init_142 : decode cX5_init 142 = .ok (.iastore, 1) := by decide +kernel
theorem dX5_init_143 : decode cX5_init 143 = .ok (.dup, 1) := by decide +kernel
theorem dX5_init_144 : decode cX5_init 144 = .ok (.bipush 6, 2) := by decide +kernel
theorem dX5_init_146 : decode cX5_init 146 = .ok (.bipush 32, 2) := by decide +kernel
theorem dX5_init_148 : decode cX5_init 148 = .ok (.iastore, 1) := by decide +kernel
theorem dX5_init_149 : decode cX5_init 149 = .ok (.dup, 1) := by decide +kernel
theorem dX5_init_150 : decode cX5_init 150 = .ok (.bipush 7, 2) := by decide +kernel
theorem dX5_init_152 : decode cX5_init 152 = .ok (.bipush 43, 2) := by decide +kernel
theorem dX5_init_154 : decode cX5_init 154 = .ok (.iastore, 1) := by decide +kernel
theorem dX5_init_155 : decode cX5_init 155 = .ok (.dup, 1) := by decide +kernel
theorem dX5_init_156 : decode cX5_init 156 = .ok (.bipush 8, 2) := by decide +kernel
theorem dX5_init_158 : decode cX5_init 158 = .ok (.bipush 32, 2) := by decide +kernel
theorem dX5_init_160 : decode cX5_init 160 = .ok (.iastore, 1) := by decide +kernel
theorem dX5_init_161 : decode cX5_init 161 = .ok (.dup, 1) := by decide +kernel
theorem dX5_init_162 : decode cX5_init 162 = .ok (.bipush 9, 2) := by decide +kernel
theorem dX5_init_164 : decode cX5_init 164 = .ok (.bipush 115, 2) := by decide +kernel
theorem dX5_init_166 : decode cX5_init 166 = .ok (.iastore, 1) := by decide +kernel
theorem dX5_init_167 : decode cX5_init 167 = .ok (.dup, 1) := by decide +kernel
theorem dX5_init_168 : decode cX5_init 168 = .ok (.bipush 10, 2) := by decide +kernel
theorem dX5_init_170 : decode cX5_init 170 = .ok (.bipush 111, 2) := by decide +kernel
theorem dX5_init_172 : decode cX5_init 172 = .ok (.iastore, 1) := by decide +kernel
theorem dX5_init_173 : decode cX5_init 173 = .ok (.dup, 1) := by decide +kernel
theorem dX5_init_174 : decode cX5_init 174 = .ok (.bipush 11, 2) := by decide +kernel
theorem dX5_init_176 : decode cX5_init 176 = .ok (.bipush 114, 2) := by decide +kernel
theorem dX5_init_178 : decode cX5_init 178 = .ok (.iastore, 1) := by decide +kernel
theorem dX5_init_179 : decode cX5_init 179 = .ok (.dup, 1) := by decide +kernel
theorem dX5_init_180 : decode cX5_init 180 = .ok (.bipush 12, 2) := by decide +kernel
theorem dX5_init_182 : decode cX5_init 182 = .ok (.bipush 116, 2) := by decide +kernel
theorem dX5_init_184 : decode cX5_init 184 = .ok (.iastore, 1) := by decide +kernel
theorem dX5_init_185 : decode cX5_init 185 = .ok (.dup, 1) := by decide +kernel
theorem dX5_init_186 : decode cX5_init 186 = .ok (.bipush 13, 2) := by decide +kernel
theorem dX5_init_188 : decode cX5_init 188 = .ok (.bipush 32, 2) := by decide +kernel
theorem dX5_init_190 : decode cX5_init 190 = .ok (.iastore, 1) := by decide +kernel
theorem dX5_init_191 : decode cX5_init 191 = .ok (.dup, 1) := by decide +kernel
theorem dX5_init_192 : decode cX5_init 192 = .ok (.bipush 14, 2) := by decide +kernel
theorem dX5_init_194 : decode cX5_init 194 = .ok (.bipush 59, 2) := by decide +kernel
theorem dX5_init_196 : decode cX5_init 196 = .ok (.iastore, 1) := by decide +kernel
theorem dX5_init_197 : decode cX5_init 197 = .ok (.dup, 1) := by decide +kernel
theorem dX5_init_198 : decode cX5_init 198 = .ok (.bipush 15, 2) := by decide +kernel
theorem dX5_init_200 : decode cX5_init 200 = .ok (.bipush 32, 2) := by decide +kernel
theorem dX5_init_202 : decode cX5_init 202 = .ok (.iastore, 1) := by decide +kernel
theorem dX5_init_203 : decode cX5_init 203 = .ok (.dup, 1) := by decide +kernel
theorem dX5_init_204 : decode cX5_init 204 = .ok (.bipush 16, 2) := by decide +kernel
theorem dX5_init_206 : decode cX5_init 206 = .ok (.bipush 103, 2) := by decide +kernel
theorem dX5_init_208 : decode cX5_init 208 = .ok (.iastore, 1) := by decide +kernel
theorem dX5_init_209 : decode cX5_init 209 = .ok (.dup, 1) := by decide +kernel
theorem dX5_init_210 : decode cX5_init 210 = .ok (.bipush 17, 2) := by decide +kernel
theorem dX5_init_212 : decode cX5_init 212 = .ok (.bipush 97, 2) := by decide +kernel
theorem dX5_init_214 : decode cX5_init 214 = .ok (.iastore, 1) := by decide +kernel
theorem dX5_init_215 : decode cX5_init 215 = .ok (.dup, 1) := by decide +kernel
theorem dX5_init_216 : decode cX5_init 216 = .ok (.bipush 18, 2) := by decide +kernel
theorem dX5_init_218 : decode cX5_init 218 = .ok (.bipush 105, 2) := by decide +kernel
theorem dX5_init_220 : decode cX5_init 220 = .ok (.iastore, 1) := by decide +kernel
theorem dX5_init_221 : decode cX5_init 221 = .ok (.dup, 1) := by decide +kernel
theorem dX5_init_222 : decode cX5_init 222 = .ok (.bipush 19, 2) := by decide +kernel
theorem dX5_init_224 : decode cX5_init 224 = .ok (.bipush 110, 2) := by decide +kernel
theorem dX5_init_226 : decode cX5_init 226 = .ok (.iastore, 1) := by decide +kernel
theorem dX5_init_227 : decode cX5_init 227 = .ok (.dup, 1) := by decide +kernel
theorem dX5_init_228 : decode cX5_init 228 = .ok (.bipush 20, 2) := by decide +kernel
theorem dX5_init_230 : decode cX5_init 230 = .ok (.bipush 115, 2) := by decide +kernel
theorem dX5_init_232 : decode cX5_init 232 = .ok (.iastore, 1) := by decide +kernel
theorem dX5_init_233 : decode cX5_init 233 = .ok (.dup, 1) := by decide +kernel
theorem dX5_init_234 : decode cX5_init 234 = .ok (.bipush 21, 2) := by decide +kernel
theorem dX5_init_236 : decode cX5_init 236 = .ok (.bipush 32, 2) := by decide +kernel
theorem dX5_init_238 : decode cX5_init 238 = .ok (.iastore, 1) := by decide +kernel
theorem dX5_init_239 : decode cX5_init 239 = .ok (.dup, 1) := by decide +kernel
theorem dX5_init_240 : decode cX5_init 240 = .ok (.bipush 22, 2) := by decide +kernel
theorem dX5_init_242 : decode cX5_init 242 = .ok (.bipush 115, 2) := by decide +kernel
theorem dX5_init_244 : decode cX5_init 244 = .ok (.iastore, 1) := by decide +kernel
theorem dX5_init_245 : decode cX5_init 245 = .ok (.dup, 1) := by decide +kernel
theorem dX5_init_246 : decode cX5_init 246 = .ok (.bipush 23, 2) := by decide +kernel
theorem dX5_init_248 : decode cX5_init 248 = .ok (.bipush 111, 2) := by decide +kernel
theorem dX5_init_250 : decode cX5_init 250 = .ok (.iastore, 1) := by decide +kernel
theorem dX5_init_251 : decode cX5_init 251 = .ok (.dup, 1) := by decide +kernel
theorem dX5_init_252 : decode cX5_init 252 = .ok (.bipush 24, 2) := by decide +kernel
theorem dX5_init_254 : decode cX5_init 254 = .ok (.bipush 114, 2) := by decide +kernel
theorem dX5_init_256 : decode cX5_init 256 = .ok (.iastore, 1) := by decide +kernel
theorem dX5_init_257 : decode cX5_init 257 = .ok (.dup, 1) := by decide +kernel
theorem dX5_init_258 : decode cX5_init 258 = .ok (.bipush 25, 2) := by decide +kernel
theorem dX5_init_260 : decode cX5_init 260 = .ok (.bipush 116, 2) := by decide +kernel
theorem dX5_init_262 : decode cX5_init 262 = .ok (.iastore, 1) := by decide +kernel
theorem dX5_init_263 : decode cX5_init 263 = .ok (.dup, 1) := by decide +kernel
theorem dX5_init_264 : decode cX5_init 264 = .ok (.bipush 26, 2) := by decide +kernel
theorem dX5_init_266 : decode cX5_init 266 = .ok (.bipush 32, 2) := by decide +kernel
theorem dX5_init_268 : decode cX5_init 268 = .ok (.iastore, 1) := by decide +kernel
theorem dX5_init_269 : decode cX5_init 269 = .ok (.dup, 1) := by decide +kernel
theorem dX5_init_270 : decode cX5_init 270 = .ok (.bipush 27, 2) := by decide +kernel
theorem dX5_init_272 : decode cX5_init 272 = .ok (.bipush 42, 2) := by decide +kernel
theorem dX5_init_274 : decode cX5_init 274 = .ok (.iastore, 1) := by decide +kernel
theorem dX5_init_275 : decode cX5_init 275 = .ok (.dup, 1) := by decide +kernel
theorem dX5_init_276 : decode cX5_init 276 = .ok (.bipush 28, 2) := by decide +kernel
theorem dX5_init_278 : decode cX5_init 278 = .ok (.bipush 32, 2) := by decide +kernel
theorem dX5_init_280 : decode cX5_init 280 = .ok (.iastore, 1) := by decide +kernel
theorem dX5_init_281 : decode cX5_init 281 = .ok (.dup, 1) := by decide +kernel
theorem dX5_init_282 : decode cX5_init 282 = .ok (.bipush 29, 2) := by decide +kernel
theorem dX5_init_284 : decode cX5_init 284 = .ok (.bipush 50, 2) := by decide +kernel
theorem dX5_init_286 : decode cX5_init 286 = .ok (.iastore, 1) := by decide +kernel
theorem dX5_init_287 : decode cX5_init 287 = .ok (.dup, 1) := by decide +kernel
theorem dX5_init_288 : decode cX5_init 288 = .ok (.bipush 30, 2) := by decide +kernel
theorem dX5_init_290 : decode cX5_init 290 = .ok (.bipush 32, 2) := by decide +kernel
theorem dX5_init_292 : decode cX5_init 292 = .ok (.iastore, 1) := by decide +kernel
theorem dX5_init_293 : decode cX5_init 293 = .ok (.dup, 1) := by decide +kernel
theorem dX5_init_294 : decode cX5_init 294 = .ok (.bipush 31, 2) := by decide +kernel
theorem dX5_init_296 : decode cX5_init 296 = .ok (.bipush 59, 2) := by decide +kernel
theorem dX5_init_298 : decode cX5_init 298 = .ok (.iastore, 1) := by decide +kernel
theorem dX5_init_299 : decode cX5_init 299 = .ok (.dup, 1) := by decide +kernel
theorem dX5_init_300 : decode cX5_init 300 = .ok (.bipush 32, 2) := by decide +kernel
theorem dX5_init_302 : decode cX5_init 302 = .ok (.bipush 32, 2) := by decide +kernel
theorem dX5_init_304 : decode cX5_init 304 = .ok (.iastore, 1) := by decide +kernel
theorem dX5_init_305 : decode cX5_init 305 = .ok (.dup, 1) := by decide +kernel
theorem dX5_init_306 : decode cX5_init 306 = .ok (.bipush 33, 2) := by decide +kernel
theorem dX5_init_308 : decode cX5_init 308 = .ok (.bipush 115, 2) := by decide +kernel
theorem dX5_init_310 : decode cX5_init 310 = .ok (.iastore, 1) := by decide +kernel
theorem dX5_init_311 : decode cX5_init 311 = .ok (.dup, 1) := by decide +kernel
theorem dX5_init_312 : decode cX5_init 312 = .ok (.bipush 34, 2) := by decide +kernel
theorem dX5_init_314 : decode cX5_init 314 = .ok (.bipush 112, 2) := by decide +kernel
theorem dX5_init_316 : decode cX5_init 316 = .ok (.iastore, 1) := by decide +kernel
theorem dX5_init_317 : decode cX5_init 317 = .ok (.dup, 1) := by decide +kernel
theorem dX5_init_318 : decode cX5_init 318 = .ok (.bipush 35, 2) := by decide +kernel
theorem dX5_init_320 : decode cX5_init 320 = .ok (.bipush 105, 2) := by decide +kernel
theorem dX5_init_322 : decode cX5_init 322 = .ok (.iastore, 1) := by decide +kernel
theorem dX5_init_323 : decode cX5_init 323 = .ok (.dup, 1) := by decide +kernel
theorem dX5_init_324 : decode cX5_init 324 = .ok (.bipush 36, 2) := by decide +kernel
theorem dX5_init_326 : decode cX5_init 326 = .ok (.bipush 108, 2) := by decide +kernel
theorem dX5_init_328 : decode cX5_init 328 = .ok (.iastore, 1) := by decide +kernel
theorem dX5_init_329 : decode cX5_init 329 = .ok (.dup, 1) := by decide +kernel
theorem dX5_init_330 : decode cX5_init 330 = .ok (.bipush 37, 2) := by decide +kernel
theorem dX5_init_332 : decode cX5_init 332 = .ok (.bipush 108, 2) := by decide +kernel
theorem dX5_init_334 : decode cX5_init 334 = .ok (.iastore, 1) := by decide +kernel
theorem dX5_init_335 : decode cX5_init 335 = .ok (.dup, 1) := by decide +kernel
theorem dX5_init_336 : decode cX5_init 336 = .ok (.bipush 38, 2) := by decide +kernel
theorem dX5_init_338 : decode cX5_init 338 = .ok (.bipush 115, 2) := by decide +kernel
theorem dX5_init_340 : decode cX5_init 340 = .ok (.iastore, 1) := by decide +kernel
theorem dX5_init_341 : decode cX5_init 341 = .ok (.dup, 1) := by decide +kernel
theorem dX5_init_342 : decode cX5_init 342 = .ok (.bipush 39, 2) := by decide +kernel
theorem dX5_init_344 : decode cX5_init 344 = .ok (.bipush 32, 2) := by decide +kernel
theorem dX5_init_346 : decode cX5_init 346 = .ok (.iastore, 1) := by decide +kernel
theorem dX5_init_347 : decode cX5_init 347 = .ok (.dup, 1) := by decide +kernel
theorem dX5_init_348 : decode cX5_init 348 = .ok (.bipush 40, 2) := by decide +kernel
theorem dX5_init_350 : decode cX5_init 350 = .ok (.bipush 48, 2) := by decide +kernel
theorem dX5_init_352 : decode cX5_init 352 = .ok (.iastore, 1) := by decide +kernel
theorem dX5_init_353 : decode cX5_init 353 = .ok (.dup, 1) := by decide +kernel
theorem dX5_init_354 : decode cX5_init 354 = .ok (.bipush 41, 2) := by decide +kernel
theorem dX5_init_356 : decode cX5_init 356 = .ok (.bipush 32, 2) := by decide +kernel
theorem dX5_init_358 : decode cX5_init 358 = .ok (.iastore, 1) := by decide +kernel
theorem dX5_init_359 : decode cX5_init 359 = .ok (.dup, 1) := by decide +kernel
theorem dX5_init_360 : decode cX5_init 360 = .ok (.bipush 42, 2) := by decide +kernel
theorem dX5_init_362 : decode cX5_init 362 = .ok (.bipush 59, 2) := by decide +kernel
theorem dX5_init_364 : decode cX5_init 364 = .ok (.iastore, 1) := by decide +kernel
theorem dX5_init_365 : decode cX5_init 365 = .ok (.putfield 43, 3) := by decide +kernel
theorem dX5_init_368 : decode cX5_init 368 = .ok (.aload_n 0, 1) := by decide +kernel
theorem dX5_init_369 : decode cX5_init 369 = .ok (.bipush 96, 2) := by decide +kernel
theorem dX5_init_371 : decode cX5_init 371 = .ok (.newarray .int, 2) := by decide +kernel
theorem dX5_init_373 : decode cX5_init 373 = .ok (.dup, 1) := by decide +kernel
theorem dX5_init_374 : decode cX5_init 374 = .ok (.iconst 0, 1) := by decide +kernel
theorem dX5_init_375 : decode cX5_init 375 = .ok (.bipush 103, 2) := by decide +kernel
theorem dX5_init_377 : decode cX5_init 377 = .ok (.iastore, 1) := by decide +kernel
theorem dX5_init_378 : decode cX5_init 378 = .ok (.dup, 1) := by decide +kernel
theorem dX5_init_379 : decode cX5_init 379 = .ok (.iconst 1, 1) := by decide +kernel
theorem dX5_init_380 : decode cX5_init 380 = .ok (.bipush 111, 2) := by decide +kernel
theorem dX5_init_382 : decode cX5_init 382 = .ok (.iastore, 1) := by decide +kernel
theorem dX5_init_383 : decode cX5_init 383 = .ok (.dup, 1) := by decide +kernel
theorem dX5_init_384 : decode cX5_init 384 = .ok (.iconst 2, 1) := by decide +kernel
theorem dX5_init_385 : decode cX5_init 385 = .ok (.bipush 110, 2) := by decide +kernel
theorem dX5_init_387 : decode cX5_init 387 = .ok (.iastore, 1) := by decide +kernel
theorem dX5_init_388 : decode cX5_init 388 = .ok (.dup, 1) := by decide +kernel
theorem dX5_init_389 : decode cX5_init 389 = .ok (.iconst 3, 1) := by decide +kernel
theorem dX5_init_390 : decode cX5_init 390 = .ok (.bipush 101, 2) := by decide +kernel
theorem dX5_init_392 : decode cX5_init 392 = .ok (.iastore, 1) := by decide +kernel
theorem dX5_init_393 : decode cX5_init 393 = .ok (.dup, 1) := by decide +kernel
theorem dX5_init_394 : decode cX5_init 394 = .ok (.iconst 4, 1) := by decide +kernel
theorem dX5_init_395 : decode cX5_init 395 = .ok (.bipush 32, 2) := by decide +kernel
theorem dX5_init_397 : decode cX5_init 397 = .ok (.iastore, 1) := by decide +kernel
theorem dX5_init_398 : decode cX5_init 398 = .ok (.dup, 1) := by decide +kernel
theorem dX5_init_399 : decode cX5_init 399 = .ok (.iconst 5, 1) := by decide +kernel
theorem dX5_init_400 : decode cX5_init 400 = .ok (.bipush 32, 2) := by decide +kernel
theorem dX5_init_402 : decode cX5_init 402 = .ok (.iastore, 1) := by decide +kernel
theorem dX5_init_403 : decode cX5_init 403 = .ok (.dup, 1) := by decide +kernel
theorem dX5_init_404 : decode cX5_init 404 = .ok (.bipush 6, 2) := by decide +kernel
theorem dX5_init_406 : decode cX5_init 406 = .ok (.bipush 32, 2) := by decide +kernel
theorem dX5_init_408 : decode cX5_init 408 = .ok (.iastore, 1) := by decide +kernel
theorem dX5_init_409 : decode cX5_init 409 = .ok (.dup, 1) := by decide +kernel
theorem dX5_init_410 : decode cX5_init 410 = .ok (.bipush 7, 2) := by decide +kernel
theorem dX5_init_412 : decode cX5_init 412 = .ok (.bipush 32, 2) := by decide +kernel
theorem dX5_init_414 : decode cX5_init 414 = .ok (.iastore, 1) := by decide +kernel
theorem dX5_init_415 : decode cX5_init 415 = .ok (.dup, 1) := by decide +kernel
theorem dX5_init_416 : decode cX5_init 416 = .ok (.bipush 8, 2) := by decide +kernel
theorem dX5_init_418 : decode cX5_init 418 = .ok (.bipush 103, 2) := by decide +kernel
theorem dX5_init_420 : decode cX5_init 420 = .ok (.iastore, 1) := by decide +kernel
theorem dX5_init_421 : decode cX5_init 421 = .ok (.dup, 1) := by decide +kernel
theorem dX5_init_422 : decode cX5_init 422 = .ok (.bipush 9, 2) := by decide +kernel
theorem dX5_init_424 : decode cX5_init 424 = .ok (.bipush 97, 2) := by decide +kernel
theorem dX5_init_426 : decode cX5_init 426 = .ok (.iastore, 1) := by decide +kernel
theorem dX5_init_427 : decode cX5_init 427 = .ok (.dup, 1) := by decide +kernel
theorem dX5_init_428 : decode cX5_init 428 = .ok (.bipush 10, 2) := by decide +kernel
theorem dX5_init_430 : decode cX5_init 430 = .ok (.bipush 105, 2) := by decide +kernel
theorem dX5_init_432 : decode cX5_init 432 = .ok (.iastore, 1) := by decide +kernel
theorem dX5_init_433 : decode cX5_init 433 = .ok (.dup, 1) := by decide +kernel
theorem dX5_init_434 : decode cX5_init 434 = .ok (.bipush 11, 2) := by decide +kernel
theorem dX5_init_436 : decode cX5_init 436 = .ok (.bipush 110, 2) := by decide +kernel
theorem dX5_init_438 : decode cX5_init 438 = .ok (.iastore, 1) := by decide +kernel
theorem dX5_init_439 : decode cX5_init 439 = .ok (.dup, 1) := by decide +kernel
theorem dX5_init_440 : decode cX5_init 440 = .ok (.bipush 12, 2) := by decide +kernel
theorem dX5_init_442 : decode cX5_init 442 = .ok (.bipush 115, 2) := by decide +kernel
theorem dX5_init_444 : decode cX5_init 444 = .ok (.iastore, 1) := by decide +kernel
theorem dX5_init_445 : decode cX5_init 445 = .ok (.dup, 1) := by decide +kernel
theorem dX5_init_446 : decode cX5_init 446 = .ok (.bipush 13, 2) := by decide +kernel
theorem dX5_init_448 : decode cX5_init 448 = .ok (.bipush 32, 2) := by decide +kernel
theorem dX5_init_450 : decode cX5_init 450 = .ok (.iastore, 1) := by decide +kernel
theorem dX5_init_451 : decode cX5_init 451 = .ok (.dup, 1) := by decide +kernel
theorem dX5_init_452 : decode cX5_init 452 = .ok (.bipush 14, 2) := by decide +kernel
theorem dX5_init_454 : decode cX5_init 454 = .ok (.bipush 32, 2) := by decide +kernel
theorem dX5_init_456 : decode cX5_init 456 = .ok (.iastore, 1) := by decide +kernel
theorem dX5_init_457 : decode cX5_init 457 = .ok (.dup, 1) := by decide +kernel
theorem dX5_init_458 : decode cX5_init 458 = .ok (.bipush 15, 2) := by decide +kernel
theorem dX5_init_460 : decode cX5_init 460 = .ok (.bipush 32, 2) := by decide +kernel
theorem dX5_init_462 : decode cX5_init 462 = .ok (.iastore, 1) := by decide +kernel
theorem dX5_init_463 : decode cX5_init 463 = .ok (.dup, 1) := by decide +kernel
theorem dX5_init_464 : decode cX5_init 464 = .ok (.bipush 16, 2) := by decide +kernel
theorem dX5_init_466 : decode cX5_init 466 = .ok (.bipush 115, 2) := by decide +kernel
theorem dX5_init_468 : decode cX5_init 468 = .ok (.iastore, 1) := by decide +kernel
theorem dX5_init_469 : decode cX5_init 469 = .ok (.dup, 1) := by decide +kernel
theorem dX5_init_470 : decode cX5_init 470 = .ok (.bipush 17, 2) := by decide +kernel
theorem dX5_init_472 : decode cX5_init 472 = .ok (.bipush 112, 2) := by decide +kernel
theorem dX5_init_474 : decode cX5_init 474 = .ok (.iastore, 1) := by decide +kernel
theorem dX5_init_475 : decode cX5_init 475 = .ok (.dup, 1) := by decide +kernel
theorem dX5_init_476 : decode cX5_init 476 = .ok (.bipush 18, 2) := by decide +kernel
theorem dX5_init_478 : decode cX5_init 478 = .ok (.bipush 105, 2) := by decide +kernel
theorem dX5_init_480 : decode cX5_init 480 = .ok (.iastore, 1) := by decide +kernel
theorem dX5_init_481 : decode cX5_init 481 = .ok (.dup, 1) := by decide +kernel
theorem dX5_init_482 : decode cX5_init 482 = .ok (.bipush 19, 2) := by decide +kernel
theorem dX5_init_484 : decode cX5_init 484 = .ok (.bipush 108, 2) := by decide +kernel
theorem dX5_init_486 : decode cX5_init 486 = .ok (.iastore, 1) := by decide +kernel
theorem dX5_init_487 : decode cX5_init 487 = .ok (.dup, 1) := by decide +kernel
theorem dX5_init_488 : decode cX5_init 488 = .ok (.bipush 20, 2) := by decide +kernel
theorem dX5_init_490 : decode cX5_init 490 = .ok (.bipush 108, 2) := by decide +kernel
theorem dX5_init_492 : decode cX5_init 492 = .ok (.iastore, 1) := by decide +kernel
theorem dX5_init_493 : decode cX5_init 493 = .ok (.dup, 1) := by decide +kernel
theorem dX5_init_494 : decode cX5_init 494 = .ok (.bipush 21, 2) := by decide +kernel
theorem dX5_init_496 : decode cX5_init 496 = .ok (.bipush 115, 2) := by decide +kernel
theorem dX5_init_498 : decode cX5_init 498 = .ok (.iastore, 1) := by decide +kernel
theorem dX5_init_499 : decode cX5_init 499 = .ok (.dup, 1) := by decide +kernel
theorem dX5_init_500 : decode cX5_init 500 = .ok (.bipush 22, 2) := by decide +kernel
theorem dX5_init_502 : decode cX5_init 502 = .ok (.bipush 32, 2) := by decide +kernel
theorem dX5_init_504 : decode cX5_init 504 = .ok (.iastore, 1) := by decide +kernel
theorem dX5_init_505 : decode cX5_init 505 = .ok (.dup, 1) := by decide +kernel
theorem dX5_init_506 : decode cX5_init 506 = .ok (.bipush 23, 2) := by decide +kernel
theorem dX5_init_508 : decode cX5_init 508 = .ok (.bipush 32, 2) := by decide +kernel
theorem dX5_init_510 : decode cX5_init 510 = .ok (.iastore, 1) := by decide +kernel
theorem dX5_init_511 : decode cX5_init 511 = .ok (.dup, 1) := by decide +kernel
theorem dX5_init_512 : decode cX5_init 512 = .ok (.bipush 24, 2) := by decide +kernel
theorem dX5_init_514 : decode cX5_init 514 = .ok (.bipush 115, 2) := by decide +kernel
theorem dX5_init_516 : decode cX5_init 516 = .ok (.iastore, 1) := by decide +kernel
theorem dX5_init_517 : decode cX5_init 517 = .ok (.dup, 1) := by decide +kernel
theorem dX5_init_518 : decode cX5_init 518 = .ok (.bipush 25, 2) := by decide +kernel
theorem dX5_init_520 : decode cX5_init 520 = .ok (.bipush 111, 2) := by decide +kernel
theorem dX5_init_522 : decode cX5_init 522 = .ok (.iastore, 1) := by decide +kernel
theorem dX5_init_523 : decode cX5_init 523 = .ok (.dup, 1) := by decide +kernel
theorem dX5_init_524 : decode cX5_init 524 = .ok (.bipush 26, 2) := by decide +kernel
theorem dX5_init_526 : decode cX5_init 526 = .ok (.bipush 114, 2) := by decide +kernel
theorem dX5_init_528 : decode cX5_init 528 = .ok (.iastore, 1) := by decide +kernel
theorem dX5_init_529 : decode cX5_init 529 = .ok (.dup, 1) := by decide +kernel
theorem dX5_init_530 : decode cX5_init 530 = .ok (.bipush 27, 2) := by decide +kernel
theorem dX5_init_532 : decode cX5_init 532 = .ok (.bipush 116, 2) := by decide +kernel
theorem dX5_init_534 : decode cX5_init 534 = .ok (.iastore, 1) := by decide +kernel
theorem dX5_init_535 : decode cX5_init 535 = .ok (.dup, 1) := by decide +kernel
theorem dX5_init_536 : decode cX5_init 536 = .ok (.bipush 28, 2) := by decide +kernel
theorem dX5_init_538 : decode cX5_init 538 = .ok (.bipush 32, 2) := by decide +kernel
theorem dX5_init_540 : decode cX5_init 540 = .ok (.iastore, 1) := by decide +kernel
theorem dX5_init_541 : decode cX5_init 541 = .ok (.dup, 1) := by decide +kernel
theorem dX5_init_542 : decode cX5_init 542 = .ok (.bipush 29, 2) := by decide +kernel
theorem dX5_init_544 : decode cX5_init 544 = .ok (.bipush 32, 2) := by decide +kernel
theorem dX5_init_546 : decode cX5_init 546 = .ok (.iastore, 1) := by decide +kernel
theorem dX5_init_547 : decode cX5_init 547 = .ok (.dup, 1) := by decide +kernel
theorem dX5_init_548 : decode cX5_init 548 = .ok (.bipush 30, 2) := by decide +kernel
theorem dX5_init_550 : decode cX5_init 550 = .ok (.bipush 32, 2) := by decide +kernel
theorem dX5_init_552 : decode cX5_init 552 = .ok (.iastore, 1) := by decide +kernel
theorem dX5_init_553 : decode cX5_init 553 = .ok (.dup, 1) := by decide +kernel
theorem dX5_init_554 : decode cX5_init 554 = .ok (.bipush 31, 2) := by decide +kernel
theorem dX5_init_556 : decode cX5_init 556 = .ok (.bipush 32, 2) := by decide +kernel
theorem dX5_init_558 : decode cX5_init 558 = .ok (.iastore, 1) := by decide +kernel
theorem dX5_init_559 : decode cX5_init 559 = .ok (.dup, 1) := by decide +kernel
theorem dX5_init_560 : decode cX5_init 560 = .ok (.bipush 32, 2) := by decide +kernel
theorem dX5_init_562 : decode cX5_init 562 = .ok (.bipush 103, 2) := by decide +kernel
theorem dX5_init_564 : decode cX5_init 564 = .ok (.iastore, 1) := by decide +kernel
theorem dX5_init_565 : decode cX5_init 565 = .ok (.dup, 1) := by decide +kernel
theorem dX5_init_566 : decode cX5_init 566 = .ok (.bipush 33, 2) := by decide +kernel
theorem dX5_init_568 : decode cX5_init 568 = .ok (.bipush 114, 2) := by decide +kernel
theorem dX5_init_570 : decode cX5_init 570 = .ok (.iastore, 1) := by decide +kernel
theorem dX5_init_571 : decode cX5_init 571 = .ok (.dup, 1) := by decide +kernel
theorem dX5_init_572 : decode cX5_init 572 = .ok (.bipush 34, 2) := by decide +kernel
theorem dX5_init_574 : decode cX5_init 574 = .ok (.bipush 97, 2) := by decide +kernel
theorem dX5_init_576 : decode cX5_init 576 = .ok (.iastore, 1) := by decide +kernel
theorem dX5_init_577 : decode cX5_init 577 = .ok (.dup, 1) := by decide +kernel
theorem dX5_init_578 : decode cX5_init 578 = .ok (.bipush 35, 2) := by decide +kernel
theorem dX5_init_580 : decode cX5_init 580 = .ok (.bipush 105, 2) := by decide +kernel
theorem dX5_init_582 : decode cX5_init 582 = .ok (.iastore, 1) := by decide +kernel
theorem dX5_init_583 : decode cX5_init 583 = .ok (.dup, 1) := by decide +kernel
theorem dX5_init_584 : decode cX5_init 584 = .ok (.bipush 36, 2) := by decide +kernel
theorem dX5_init_586 : decode cX5_init 586 = .ok (.bipush 110, 2) := by decide +kernel
theorem dX5_init_588 : decode cX5_init 588 = .ok (.iastore, 1) := by decide +kernel
theorem dX5_init_589 : decode cX5_init 589 = .ok (.dup, 1) := by decide +kernel
theorem dX5_init_590 : decode cX5_init 590 = .ok (.bipush 37, 2) := by decide +kernel
theorem dX5_init_592 : decode cX5_init 592 = .ok (.bipush 115, 2) := by decide +kernel
theorem dX5_init_594 : decode cX5_init 594 = .ok (.iastore, 1) := by decide +kernel
theorem dX5_init_595 : decode cX5_init 595 = .ok (.dup, 1) := by decide +kernel
theorem dX5_init_596 : decode cX5_init 596 = .ok (.bipush 38, 2) := by decide +kernel
theorem dX5_init_598 : decode cX5_init 598 = .ok (.bipush 32, 2) := by decide +kernel
theorem dX5_init_600 : decode cX5_init 600 = .ok (.iastore, 1) := by decide +kernel
theorem dX5_init_601 : decode cX5_init 601 = .ok (.dup, 1) := by decide +kernel
theorem dX5_init_602 : decode cX5_init 602 = .ok (.bipush 39, 2) := by decide +kernel
theorem dX5_init_604 : decode cX5_init 604 = .ok (.bipush 32, 2) := by decide +kernel
theorem dX5_init_606 : decode cX5_init 606 = .ok (.iastore, 1) := by decide +kernel
theorem dX5_init_607 : decode cX5_init 607 = .ok (.dup, 1) := by decide +kernel
theorem dX5_init_608 : decode cX5_init 608 = .ok (.bipush 40, 2) := by decide +kernel
theorem dX5_init_610 : decode cX5_init 610 = .ok (.bipush 119, 2) := by decide +kernel
theorem dX5_init_612 : decode cX5_init 612 = .ok (.iastore, 1) := by decide +kernel
theorem dX5_init_613 : decode cX5_init 613 = .ok (.dup, 1) := by decide +kernel
theorem dX5_init_614 : decode cX5_init 614 = .ok (.bipush 41, 2) := by decide +kernel
theorem dX5_init_616 : decode cX5_init 616 = .ok (.bipush 105, 2) := by decide +kernel
theorem dX5_init_618 : decode cX5_init 618 = .ok (.iastore, 1) := by decide +kernel
theorem dX5_init_619 : decode cX5_init 619 = .ok (.dup, 1) := by decide +kernel
theorem dX5_init_620 : decode cX5_init 620 = .ok (.bipush 42, 2) := by decide +kernel
theorem dX5_init_622 : decode cX5_init 622 = .ok (.bipush 116, 2) := by decide +kernel
theorem dX5_init_624 : decode cX5_init 624 = .ok (.iastore, 1) := by decide +kernel
theorem dX5_init_625 : decode cX5_init 625 = .ok (.dup, 1) := by decide +kernel
theorem dX5_init_626 : decode cX5_init 626 = .ok (.bipush 43, 2) := by decide +kernel
theorem dX5_init_628 : decode cX5_init 628 = .ok (.bipush 32, 2) := by decide +kernel
theorem dX5_init_630 : decode cX5_init 630 = .ok (.iastore, 1) := by decide +kernel
theorem dX5_init_631 : decode cX5_init 631 = .ok (.dup, 1) := by decide +kernel
theorem dX5_init_632 : decode cX5_init 632 = .ok (.bipush 44, 2) := by decide +kernel
theorem dX5_init_634 : decode cX5_init 634 = .ok (.bipush 32, 2) := by decide +kernel
theorem dX5_init_636 : decode cX5_init 636 = .ok (.iastore, 1) := by decide +kernel
theorem dX5_init_637 : decode cX5_init 637 = .ok (.dup, 1) := by decide +kernel
theorem dX5_init_638 : decode cX5_init 638 = .ok (.bipush 45, 2) := by decide +kernel
theorem dX5_init_640 : decode cX5_init 640 = .ok (.bipush 32, 2) := by decide +kernel
theorem dX5_init_642 : decode cX5_init 642 = .ok (.iastore, 1) := by decide +kernel
theorem dX5_init_643 : decode cX5_init 643 = .ok (.dup, 1) := by decide +kernel
theorem dX5_init_644 : decode cX5_init 644 = .ok (.bipush 46, 2) := by decide +kernel
theorem dX5_init_646 : decode cX5_init 646 = .ok (.bipush 32, 2) := by decide +kernel
theorem dX5_init_648 : decode cX5_init 648 = .ok (.iastore, 1) := by decide +kernel
theorem dX5_init_649 : decode cX5_init 649 = .ok (.dup, 1) := by decide +kernel
theorem dX5_init_650 : decode cX5_init 650 = .ok (.bipush 47, 2) := by decide +kernel
theorem dX5_init_652 : decode cX5_init 652 = .ok (.bipush 32, 2) := by decide +kernel
theorem dX5_init_654 : decode cX5_init 654 = .ok (.iastore, 1) := by decide +kernel
theorem dX5_init_655 : decode cX5_init 655 = .ok (.dup, 1) := by decide +kernel
theorem dX5_init_656 : decode cX5_init 656 = .ok (.bipush 48, 2) := by decide +kernel
theorem dX5_init_658 : decode cX5_init 658 = .ok (.bipush 115, 2) := by decide +kernel
theorem dX5_init_660 : decode cX5_init 660 = .ok (.iastore, 1) := by decide +kernel
theorem dX5_init_661 : decode cX5_init 661 = .ok (.dup, 1) := by decide +kernel
theorem dX5_init_662 : decode cX5_init 662 = .ok (.bipush 49, 2) := by decide +kernel
theorem dX5_init_664 : decode cX5_init 664 = .ok (.bipush 97, 2) := by decide +kernel
theorem dX5_init_666 : decode cX5_init 666 = .ok (.iastore, 1) := by decide +kernel
theorem dX5_init_667 : decode cX5_init 667 = .ok (.dup, 1) := by decide +kernel
theorem dX5_init_668 : decode cX5_init 668 = .ok (.bipush 50, 2) := by decide +kernel
theorem dX5_init_670 : decode cX5_init 670 = .ok (.bipush 110, 2) := by decide +kernel
theorem dX5_init_672 : decode cX5_init 672 = .ok (.iastore, 1) := by decide +kernel
theorem dX5_init_673 : decode cX5_init 673 = .ok (.dup, 1) := by decide +kernel
theorem dX5_init_674 : decode cX5_init 674 = .ok (.bipush 51, 2) := by decide +kernel
theorem dX5_init_676 : decode cX5_init 676 = .ok (.bipush 100, 2) := by decide +kernel
theorem dX5_init_678 : decode cX5_init 678 = .ok (.iastore, 1) := by decide +kernel
theorem dX5_init_679 : decode cX5_init 679 = .ok (.dup, 1) := by decide +kernel
theorem dX5_init_680 : decode cX5_init 680 = .ok (.bipush 52, 2) := by decide +kernel
theorem dX5_init_682 : decode cX5_init 682 = .ok (.bipush 32, 2) := by decide +kernel
theorem dX5_init_684 : decode cX5_init 684 = .ok (.iastore, 1) := by decide +kernel
theorem dX5_init_685 : decode cX5_init 685 = .ok (.dup, 1) := by decide +kernel
theorem dX5_init_686 : decode cX5_init 686 = .ok (.bipush 53, 2) := by decide +kernel
theorem dX5_init_688 : decode cX5_init 688 = .ok (.bipush 32, 2) := by decide +kernel
theorem dX5_init_690 : decode cX5_init 690 = .ok (.iastore, 1) := by decide +kernel
theorem dX5_init_691 : decode cX5_init 691 = .ok (.dup, 1) := by decide +kernel
theorem dX5_init_692 : decode cX5_init 692 = .ok (.bipush 54, 2) := by decide +kernel
theorem dX5_init_694 : decode cX5_init 694 = .ok (.bipush 32, 2) := by decide +kernel
theorem dX5_init_696 : decode cX5_init 696 = .ok (.iastore, 1) := by decide +kernel
theorem dX5_init_697 : decode cX5_init 697 = .ok (.dup, 1) := by decide +kernel
theorem dX5_init_698 : decode cX5_init 698 = .ok (.bipush 55, 2) := by decide +kernel
theorem dX5_init_700 : decode cX5_init 700 = .ok (.bipush 32, 2) := by decide +kernel
theorem dX5_init_702 : decode cX5_init 702 = .ok (.iastore, 1) := by decide +kernel
theorem dX5_init_703 : decode cX5_init 703 = .ok (.dup, 1) := by decide +kernel
theorem dX5_init_704 : decode cX5_init 704 = .ok (.bipush 56, 2) := by decide +kernel
theorem dX5_init_706 : decode cX5_init 706 = .ok (.bipush 109, 2) := by decide +kernel
theorem dX5_init_708 : decode cX5_init 708 = .ok (.iastore, 1) := by decide +kernel
theorem dX5_init_709 : decode cX5_init 709 = .ok (.dup, 1) := by decide +kernel
theorem dX5_init_710 : decode cX5_init 710 = .ok (.bipush 57, 2) := by decide +kernel
theorem dX5_init_712 : decode cX5_init 712 = .ok (.bipush 105, 2) := by decide +kernel
theorem dX5_init_714 : decode cX5_init 714 = .ok (.iastore, 1) := by decide +kernel
theorem dX5_init_715 : decode cX5_init 715 = .ok (.dup, 1) := by decide +kernel
theorem dX5_init_716 : decode cX5_init 716 = .ok (.bipush 58, 2) := by decide +kernel
theorem dX5_init_718 : decode cX5_init 718 = .ok (.bipush 110, 2) := by decide +kernel
theorem dX5_init_720 : decode cX5_init 720 = .ok (.iastore, 1) := by decide +kernel
theorem dX5_init_721 : decode cX5_init 721 = .ok (.dup, 1) := by decide +kernel
theorem dX5_init_722 : decode cX5_init 722 = .ok (.bipush 59, 2) := by decide +kernel
theorem dX5_init_724 : decode cX5_init 724 = .ok (.bipush 117, 2) := by decide +kernel
theorem dX5_init_726 : decode cX5_init 726 = .ok (.iastore, 1) := by decide +kernel
theorem dX5_init_727 : decode cX5_init 727 = .ok (.dup, 1) := by decide +kernel
theorem dX5_init_728 : decode cX5_init 728 = .ok (.bipush 60, 2) := by decide +kernel
theorem dX5_init_730 : decode cX5_init 730 = .ok (.bipush 116, 2) := by decide +kernel
theorem dX5_init_732 : decode cX5_init 732 = .ok (.iastore, 1) := by decide +kernel
theorem dX5_init_733 : decode cX5_init 733 = .ok (.dup, 1) := by decide +kernel
theorem dX5_init_734 : decode cX5_init 734 = .ok (.bipush 61, 2) := by decide +kernel
theorem dX5_init_736 : decode cX5_init 736 = .ok (.bipush 101, 2) := by decide +kernel
theorem dX5_init_738 : decode cX5_init 738 = .ok (.iastore, 1) := by decide +kernel
theorem dX5_init_739 : decode cX5_init 739 = .ok (.dup, 1) := by decide +kernel
theorem dX5_init_740 : decode cX5_init 740 = .ok (.bipush 62, 2) := by decide +kernel
theorem dX5_init_742 : decode cX5_init 742 = .ok (.bipush 32, 2) := by decide +kernel
theorem dX5_init_744 : decode cX5_init 744 = .ok (.iastore, 1) := by decide +kernel
theorem dX5_init_745 : decode cX5_init 745 = .ok (.dup, 1) := by decide +kernel
theorem dX5_init_746 : decode cX5_init 746 = .ok (.bipush 63, 2) := by decide +kernel
theorem dX5_init_748 : decode cX5_init 748 = .ok (.bipush 32, 2) := by decide +kernel
theorem dX5_init_750 : decode cX5_init 750 = .ok (.iastore, 1) := by decide +kernel
theorem dX5_init_751 : decode cX5_init 751 = .ok (.dup, 1) := by decide +kernel
theorem dX5_init_752 : decode cX5_init 752 = .ok (.bipush 64, 2) := by decide +kernel
theorem dX5_init_754 : decode cX5_init 754 = .ok (.bipush 109, 2) := by decide +kernel
theorem dX5_init_756 : decode cX5_init 756 = .ok (.iastore, 1) := by decide +kernel
theorem dX5_init_757 : decode cX5_init 757 = .ok (.dup, 1) := by decide +kernel
theorem dX5_init_758 : decode cX5_init 758 = .ok (.bipush 65, 2) := by decide +kernel
theorem dX5_init_760 : decode cX5_init 760 = .ok (.bipush 111, 2) := by decide +kernel
theorem dX5_init_762 : decode cX5_init 762 = .ok (.iastore, 1) := by decide +kernel
theorem dX5_init_763 : decode cX5_init 763 = .ok (.dup, 1) := by decide +kernel
theorem dX5_init_764 : decode cX5_init 764 = .ok (.bipush 66, 2) := by decide +kernel
theorem dX5_init_766 : decode cX5_init 766 = .ok (.bipush 114, 2) := by decide +kernel
theorem dX5_init_768 : decode cX5_init 768 = .ok (.iastore, 1) := by decide +kernel
theorem dX5_init_769 : decode cX5_init 769 = .ok (.dup, 1) := by decide +kernel
theorem dX5_init_770 : decode cX5_init 770 = .ok (.bipush 67, 2) := by decide +kernel
theorem dX5_init_772 : decode cX5_init 772 = .ok (.bipush 101, 2) := by decide +kernel
theorem dX5_init_774 : decode cX5_init 774 = .ok (.iastore, 1) := by decide +kernel
theorem dX5_init_775 : decode cX5_init 775 = .ok (.dup, 1) := by decide +kernel
theorem dX5_init_776 : decode cX5_init 776 = .ok (.bipush 68, 2) := by decide +kernel
theorem dX5_init_778 : decode cX5_init 778 = .ok (.bipush 32, 2) := by decide +kernel
theorem dX5_init_780 : decode cX5_init 780 = .ok (.iastore, 1) := by decide +kernel
theorem dX5_init_781 : decode cX5_init 781 = .ok (.dup, 1) := by decide +kernel
theorem dX5_init_782 : decode cX5_init 782 = .ok (.bipush 69, 2) := by decide +kernel
theorem dX5_init_784 : decode cX5_init 784 = .ok (.bipush 32, 2) := by decide +kernel
theorem dX5_init_786 : decode cX5_init 786 = .ok (.iastore, 1) := by decide +kernel
theorem dX5_init_787 : decode cX5_init 787 = .ok (.dup, 1) := by decide +kernel
theorem dX5_init_788 : decode cX5_init 788 = .ok (.bipush 70, 2) := by decide +kernel
theorem dX5_init_790 : decode cX5_init 790 = .ok (.bipush 32, 2) := by decide +kernel
theorem dX5_init_792 : decode cX5_init 792 = .ok (.iastore, 1) := by decide +kernel
theorem dX5_init_793 : decode cX5_init 793 = .ok (.dup, 1) := by decide +kernel
theorem dX5_init_794 : decode cX5_init 794 = .ok (.bipush 71, 2) := by decide +kernel
theorem dX5_init_796 : decode cX5_init 796 = .ok (.bipush 32, 2) := by decide +kernel
theorem dX5_init_798 : decode cX5_init 798 = .ok (.iastore, 1) := by decide +kernel
theorem dX5_init_799 : decode cX5_init 799 = .ok (.dup, 1) := by decide +kernel
theorem dX5_init_800 : decode cX5_init 800 = .ok (.bipush 72, 2) := by decide +kernel
theorem dX5_init_802 : decode cX5_init 802 = .ok (.bipush 111, 2) := by decide +kernel
theorem dX5_init_804 : decode cX5_init 804 = .ok (.iastore, 1) := by decide +kernel
theorem dX5_init_805 : decode cX5_init 805 = .ok (.dup, 1) := by decide +kernel
theorem dX5_init_806 : decode cX5_init 806 = .ok (.bipush 73, 2) := by decide +kernel
theorem dX5_init_808 : decode cX5_init 808 = .ok (.bipush 114, 2) := by decide +kernel
theorem dX5_init_810 : decode cX5_init 810 = .ok (.iastore, 1) := by decide +kernel
theorem dX5_init_811 : decode cX5_init 811 = .ok (.dup, 1) := by decide +kernel
theorem dX5_init_812 : decode cX5_init 812 = .ok (.bipush 74, 2) := by decide +kernel
theorem dX5_init_814 : decode cX5_init 814 = .ok (.bipush 32, 2) := by decide +kernel
theorem dX5_init_816 : decode cX5_init 816 = .ok (.iastore, 1) := by decide +kernel
theorem dX5_init_817 : decode cX5_init 817 = .ok (.dup, 1) := by decide +kernel
theorem dX5_init_818 : decode cX5_init 818 = .ok (.bipush 75, 2) := by decide +kernel
theorem dX5_init_820 : decode cX5_init 820 = .ok (.bipush 32, 2) := by decide +kernel
theorem dX5_init_822 : decode cX5_init 822 = .ok (.iastore, 1) := by decide +kernel
theorem dX5_init_823 : decode cX5_init 823 = .ok (.dup, 1) := by decide +kernel
theorem dX5_init_824 : decode cX5_init 824 = .ok (.bipush 76, 2) := by decide +kernel
theorem dX5_init_826 : decode cX5_init 826 = .ok (.bipush 32, 2) := by decide +kernel
theorem dX5_init_828 : decode cX5_init 828 = .ok (.iastore, 1) := by decide +kernel
theorem dX5_init_829 : decode cX5_init 829 = .ok (.dup, 1) := by decide +kernel
theorem dX5_init_830 : decode cX5_init 830 = .ok (.bipush 77, 2) := by decide +kernel
theorem dX5_init_832 : decode cX5_init 832 = .ok (.bipush 32, 2) := by decide +kernel
theorem dX5_init_834 : decode cX5_init 834 = .ok (.iastore, 1) := by decide +kernel
theorem dX5_init_835 : decode cX5_init 835 = .ok (.dup, 1) := by decide +kernel
theorem dX5_init_836 : decode cX5_init 836 = .ok (.bipush 78, 2) := by decide +kernel
theorem dX5_init_838 : decode cX5_init 838 = .ok (.bipush 32, 2) := by decide +kernel
theorem dX5_init_840 : decode cX5_init 840 = .ok (.iastore, 1) := by decide +kernel
theorem dX5_init_841 : decode cX5_init 841 = .ok (.dup, 1) := by decide +kernel
theorem dX5_init_842 : decode cX5_init 842 = .ok (.bipush 79, 2) := by decide +kernel
theorem dX5_init_844 : decode cX5_init 844 = .ok (.bipush 32, 2) := by decide +kernel
theorem dX5_init_846 : decode cX5_init 846 = .ok (.iastore, 1) := by decide +kernel
theorem dX5_init_847 : decode cX5_init 847 = .ok (.dup, 1) := by decide +kernel
theorem dX5_init_848 : decode cX5_init 848 = .ok (.bipush 80, 2) := by decide +kernel
theorem dX5_init_850 : decode cX5_init 850 = .ok (.bipush 97, 2) := by decide +kernel
theorem dX5_init_852 : decode cX5_init 852 = .ok (.iastore, 1) := by decide +kernel
theorem dX5_init_853 : decode cX5_init 853 = .ok (.dup, 1) := by decide +kernel
theorem dX5_init_854 : decode cX5_init 854 = .ok (.bipush 81, 2) := by decide +kernel
theorem dX5_init_856 : decode cX5_init 856 = .ok (.bipush 110, 2) := by decide +kernel
theorem dX5_init_858 : decode cX5_init 858 = .ok (.iastore, 1) := by decide +kernel
theorem dX5_init_859 : decode cX5_init 859 = .ok (.dup, 1) := by decide +kernel
theorem dX5_init_860 : decode cX5_init 860 = .ok (.bipush 82, 2) := by decide +kernel
theorem dX5_init_862 : decode cX5_init 862 = .ok (.bipush 100, 2) := by decide +kernel
theorem dX5_init_864 : decode cX5_init 864 = .ok (.iastore, 1) := by decide +kernel
theorem dX5_init_865 : decode cX5_init 865 = .ok (.dup, 1) := by decide +kernel
theorem dX5_init_866 : decode cX5_init 866 = .ok (.bipush 83, 2) := by decide +kernel
theorem dX5_init_868 : decode cX5_init 868 = .ok (.bipush 32, 2) := by decide +kernel
theorem dX5_init_870 : decode cX5_init 870 = .ok (.iastore, 1) := by decide +kernel
theorem dX5_init_871 : decode cX5_init 871 = .ok (.dup, 1) := by decide +kernel
theorem dX5_init_872 : decode cX5_init 872 = .ok (.bipush 84, 2) := by decide +kernel
theorem dX5_init_874 : decode cX5_init 874 = .ok (.bipush 32, 2) := by decide +kernel
theorem dX5_init_876 : decode cX5_init 876 = .ok (.iastore, 1) := by decide +kernel
theorem dX5_init_877 : decode cX5_init 877 = .ok (.dup, 1) := by decide +kernel
theorem dX5_init_878 : decode cX5_init 878 = .ok (.bipush 85, 2) := by decide +kernel
theorem dX5_init_880 : decode cX5_init 880 = .ok (.bipush 32, 2) := by decide +kernel
theorem dX5_init_882 : decode cX5_init 882 = .ok (.iastore, 1) := by decide +kernel
theorem dX5_init_883 : decode cX5_init 883 = .ok (.dup, 1) := by decide +kernel
theorem dX5_init_884 : decode cX5_init 884 = .ok (.bipush 86, 2) := by decide +kernel
theorem dX5_init_886 : decode cX5_init 886 = .ok (.bipush 32, 2) := by decide +kernel
theorem dX5_init_888 : decode cX5_init 888 = .ok (.iastore, 1) := by decide +kernel
theorem dX5_init_889 : decode cX5_init 889 = .ok (.dup, 1) := by decide +kernel
theorem dX5_init_890 : decode cX5_init 890 = .ok (.bipush 87, 2) := by decide +kernel
theorem dX5_init_892 : decode cX5_init 892 = .ok (.bipush 32, 2) := by decide +kernel
theorem dX5_init_894 : decode cX5_init 894 = .ok (.iastore, 1) := by decide +kernel
theorem dX5_init_895 : decode cX5_init 895 = .ok (.dup, 1) := by decide +kernel
theorem dX5_init_896 : decode cX5_init 896 = .ok (.bipush 88, 2) := by decide +kernel
theorem dX5_init_898 : decode cX5_init 898 = .ok (.bipush 110, 2) := by decide +kernel
theorem dX5_init_900 : decode cX5_init 900 = .ok (.iastore, 1) := by decide +kernel
theorem dX5_init_901 : decode cX5_init 901 = .ok (.dup, 1) := by decide +kernel
theorem dX5_init_902 : decode cX5_init 902 = .ok (.bipush 89, 2) := by decide +kernel
theorem dX5_init_904 : decode cX5_init 904 = .ok (.bipush 111, 2) := by decide +kernel
theorem dX5_init_906 : decode cX5_init 906 = .ok (.iastore, 1) := by decide +kernel
theorem dX5_init_907 : decode cX5_init 907 = .ok (.dup, 1) := by decide +kernel
theorem dX5_init_908 : decode cX5_init 908 = .ok (.bipush 90, 2) := by decide +kernel
theorem dX5_init_910 : decode cX5_init 910 = .ok (.bipush 116, 2) := by decide +kernel
theorem dX5_init_912 : decode cX5_init 912 = .ok (.iastore, 1) := by decide +kernel
theorem dX5_init_913 : decode cX5_init 913 = .ok (.dup, 1) := by decide +kernel
theorem dX5_init_914 : decode cX5_init 914 = .ok (.bipush 91, 2) := by decide +kernel
theorem dX5_init_916 : decode cX5_init 916 = .ok (.bipush 32, 2) := by decide +kernel
theorem dX5_init_918 : decode cX5_init 918 = .ok (.iastore, 1) := by decide +kernel
theorem dX5_init_919 : decode cX5_init 919 = .ok (.dup, 1) := by decide +kernel
theorem dX5_init_920 : decode cX5_init 920 = .ok (.bipush 92, 2) := by decide +kernel
theorem dX5_init_922 : decode cX5_init 922 = .ok (.bipush 32, 2) := by decide +kernel
theorem dX5_init_924 : decode cX5_init 924 = .ok (.iastore, 1) := by decide +kernel
theorem dX5_init_925 : decode cX5_init 925 = .ok (.dup, 1) := by decide +kernel
theorem dX5_init_926 : decode cX5_init 926 = .ok (.bipush 93, 2) := by decide +kernel
theorem dX5_init_928 : decode cX5_init 928 = .ok (.bipush 32, 2) := by decide +kernel
theorem dX5_init_930 : decode cX5_init 930 = .ok (.iastore, 1) := by decide +kernel
theorem dX5_init_931 : decode cX5_init 931 = .ok (.dup, 1) := by decide +kernel
theorem dX5_init_932 : decode cX5_init 932 = .ok (.bipush 94, 2) := by decide +kernel
theorem dX5_init_934 : decode cX5_init 934 = .ok (.bipush 32, 2) := by decide +kernel
theorem dX5_init_936 : decode cX5_init 936 = .ok (.iastore, 1) := by decide +kernel
theorem dX5_init_937 : decode cX5_init 937 = .ok (.dup, 1) := by decide +kernel
theorem dX5_init_938 : decode cX5_init 938 = .ok (.bipush 95, 2) := by decide +kernel
theorem dX5_init_940 : decode cX5_init 940 = .ok (.bipush 32, 2) := by decide +kernel
theorem dX5_init_942 : decode cX5_init 942 = .ok (.iastore, 1) := by decide +kernel
theorem dX5_init_943 : decode cX5_init 943 = .ok (.putfield 46, 3) := by decide +kernel
theorem dX5_init_946 : decode cX5_init 946 = .ok (.aload_n 0, 1) := by decide +kernel
theorem dX5_init_947 : decode cX5_init 947 = .ok (.sipush 200, 3) := by decide +kernel
theorem dX5_init_950 : decode cX5_init 950 = .ok (.newarray .int, 2) := by decide +kernel
theorem dX5_init_952 : decode cX5_init 952 = .ok (.putfield 49, 3) := by decide +kernel
theorem dX5_init_955 : decode cX5_init 955 = .ok (.aload_n 0, 1) := by decide +kernel
theorem dX5_init_956 : decode cX5_init 956 = .ok (.sipush 200, 3) := by decide +kernel
theorem dX5_init_959 : decode cX5_init 959 = .ok (.newarray .int, 2) := by decide +kernel
theorem dX5_init_961 : decode cX5_init 961 = .ok (.putfield 52, 3) := by decide +kernel
theorem dX5_init_964 : decode cX5_init 964 = .ok (.aload_n 0, 1) := by decide +kernel
theorem dX5_init_965 : decode cX5_init 965 = .ok (.bipush 6, 2) := by decide +kernel
theorem dX5_init_967 : decode cX5_init 967 = .ok (.newarray .int, 2) := by decide +kernel
theorem dX5_init_969 : decode cX5_init 969 = .ok (.putfield 55, 3) := by decide +kernel
theorem dX5_init_972 : decode cX5_init 972 = .ok (.aload_n 0, 1) := by decide +kernel
theorem dX5_init_973 : decode cX5_init 973 = .ok (.bipush 73, 2) := by decide +kernel
theorem dX5_init_975 : decode cX5_init 975 = .ok (.newarray .int, 2) := by decide +kernel
theorem dX5_init_977 : decode cX5_init 977 = .ok (.putfield 58, 3) := by decide +kernel
theorem dX5_init_980 : decode cX5_init 980 = .ok (.aload_n 0, 1) := by decide +kernel
theorem dX5_init_981 : decode cX5_init 981 = .ok (.iconst 4, 1) := by decide +kernel
theorem dX5_init_982 : decode cX5_init 982 = .ok (.newarray .int, 2) := by decide +kernel
theorem dX5_init_984 : decode cX5_init 984 = .ok (.putfield 61, 3) := by decide +kernel
theorem dX5_init_987 : decode cX5_init 987 = .ok (.aload_n 0, 1) := by decide +kernel
theorem dX5_init_988 : decode cX5_init 988 = .ok (.bipush 61, 2) := by decide +kernel
theorem dX5_init_990 : decode cX5_init 990 = .ok (.newarray .int, 2) := by decide +kernel
theorem dX5_init_992 : decode cX5_init 992 = .ok (.putfield 64, 3) := by decide +kernel
theorem dX5_init_995 : decode cX5_init 995 = .ok (.iconst 0, 1) := by decide +kernel
theorem dX5_init_996 : decode cX5_init 996 = .ok (.istore_n 1, 1) := by decide +kernel
theorem dX5_init_997 : decode cX5_init 997 = .ok (.iload_n 1, 1) := by decide +kernel
theorem dX5_init_998 : decode cX5_init 998 = .ok (.bipush 43, 2) := by decide +kernel
theorem dX5_init_1000 : decode cX5_init 1000 = .ok (.if_icmp .ge 21, 3) := by decide +kernel
theorem dX5_init_1003 : decode cX5_init 1003 = .ok (.aload_n 0, 1) := by decide +kernel
theorem dX5_init_1004 : decode cX5_init 1004 = .ok (.getfield 19, 3) := by decide +kernel
theorem dX5_init_1007 : decode cX5_init 1007 = .ok (.iload_n 1, 1) := by decide +kernel
theorem dX5_init_1008 : decode cX5_init 1008 = .ok (.aload_n 0, 1) := by decide +kernel
theorem dX5_init_1009 : decode cX5_init 1009 = .ok (.getfield 43, 3) := by decide +kernel
theorem dX5_init_1012 : decode cX5_init 1012 = .ok (.iload_n 1, 1) := by decide +kernel
theorem dX5_init_1013 : decode cX5_init 1013 = .ok (.iaload, 1) := by decide +kernel
theorem dX5_init_1014 : decode cX5_init 1014 = .ok (.iastore, 1) := by decide +kernel
theorem dX5_init_1015 : decode cX5_init 1015 = .ok (.iinc 1 1, 3) := by decide +kernel
theorem dX5_init_1018 : decode cX5_init 1018 = .ok (.goto (-21), 3) := by decide +kernel
theorem dX5_init_1021 : decode cX5_init 1021 = .ok (.aload_n 0, 1) := by decide +kernel
theorem dX5_init_1022 : decode cX5_init 1022 = .ok (.bipush 43, 2) := by decide +kernel
theorem dX5_init_1024 : decode cX5_init 1024 = .ok (.putfield 67, 3) := by decide +kernel
theorem dX5_init_1027 : decode cX5_init 1027 = .ok (.aload_n 0, 1) := by decide +kernel
theorem dX5_init_1028 : decode cX5_init 1028 = .ok (.invokevirtual 71, 3) := by decide +kernel
theorem dX5_init_1031 : decode cX5_init 1031 = .ok (.pop, 1) := by decide +kernel
theorem dX5_init_1032 : decode cX5_init 1032 = .ok (.return_, 1) := by decide +kernel
theorem dX5_in_0 : decode cX5_in 0 = .ok (.iload_n 0, 1) := by decide +kernel
theorem dX5_in_1 : decode cX5_in 1 = .ok (.iload_n 1, 1) := by decide +kernel
theorem dX5_in_2 : decode cX5_in 2 = .ok (.if_icmp .lt 12, 3) := by decide +kernel
theorem dX5_in_5 : decode cX5_in 5 = .ok (.iload_n 0, 1) := by decide +kernel
theorem dX5_in_6 : decode cX5_in 6 = .ok (.iload_n 2, 1) := by decide +kernel
theorem dX5_in_7 : decode cX5_in 7 = .ok (.if_icmp .gt 7, 3) := by decide +kernel
theorem dX5_in_10 : decode cX5_in 10 = .ok (.iconst 1, 1) := by decide +kernel
theorem dX5_in_11 : decode cX5_in 11 = .ok (.goto 4, 3) := by decide +kernel
theorem dX5_in_14 : decode cX5_in 14 = .ok (.iconst 0, 1) := by decide +kernel
theorem dX5_in_15 : decode cX5_in 15 = .ok (.ireturn, 1) := by decide +kernel
theorem dX5_within_0 : decode cX5_within 0 = .ok (.iload_n 0, 1) := by decide +kernel
theorem dX5_within_1 : decode cX5_within 1 = .ok (.iload_n 1, 1) := by decide +kernel
theorem dX5_within_2 : decode cX5_within 2 = .ok (.if_icmp .ge 7, 3) := by decide +kernel
theorem dX5_within_5 : decode cX5_within 5 = .ok (.iload_n 1, 1) := by decide +kernel
theorem dX5_within_6 : decode cX5_within 6 = .ok (.goto 13, 3) := by decide +kernel
theorem dX5_within_9 : decode cX5_within 9 = .ok (.iload_n 0, 1) := by decide +kernel
theorem dX5_within_10 : decode cX5_within 10 = .ok (.iload_n 2, 1) := by decide +kernel
theorem dX5_within_11 : decode cX5_within 11 = .ok (.if_icmp .le 7, 3) := by decide +kernel
theorem dX5_within_14 : decode cX5_within 14 = .ok (.iload_n 2, 1) := by decide +kernel
theorem dX5_within_15 : decode cX5_within 15 = .ok (.goto 4, 3) := by decide +kernel
theorem dX5_within_18 : decode cX5_within 18 = .ok (.iload_n 0, 1) := by decide +kernel
theorem dX5_within_19 : decode cX5_within 19 = .ok (.ireturn, 1) := by decide +kernel
theorem dX5_onesOf_0 : decode cX5_onesOf 0 = .ok (.iconst 0, 1) := by decide +kernel
theorem dX5_onesOf_1 : decode cX5_onesOf 1 = .ok (.istore_n 1, 1) := by decide +kernel
theorem dX5_onesOf_2 : decode cX5_onesOf 2 = .ok (.iconst 0, 1) := by decide +kernel
theorem dX5_onesOf_3 : decode cX5_onesOf 3 = .ok (.istore_n 2, 1) := by decide +kernel
theorem dX5_onesOf_4 : decode cX5_onesOf 4 = .ok (.iload_n 2, 1) := by decide +kernel
theorem dX5_onesOf_5 : decode cX5_onesOf 5 = .ok (.bipush 8, 2) := by decide +kernel
theorem dX5_onesOf_7 : decode cX5_onesOf 7 = .ok (.if_icmp .ge 17, 3) := by decide +kernel
theorem dX5_onesOf_10 : decode cX5_onesOf 10 = .ok (.iload_n 1, 1) := by decide +kernel
theorem dX5_onesOf_11 : decode cX5_onesOf 11 = .ok (.iload_n 0, 1) := by decide +kernel
theorem dX5_onesOf_12 : decode cX5_onesOf 12 = .ok (.iload_n 2, 1) := by decide +kernel
theorem dX5_onesOf_13 : decode cX5_onesOf 13 = .ok (.ishr, 1) := by decide +kernel
theorem dX5_onesOf_14 : decode cX5_onesOf 14 = .ok (.iconst 1, 1) := by decide +kernel
theorem dX5_onesOf_15 : decode cX5_onesOf 15 = .ok (.iand, 1) := by decide +kernel
theorem dX5_onesOf_16 : decode cX5_onesOf 16 = .ok (.iadd, 1) := by decide +kernel
theorem dX5_onesOf_17 : decode cX5_onesOf 17 = .ok (.istore_n 1, 1) := by decide +kernel
theorem dX5_onesOf_18 : decode cX5_onesOf 18 = .ok (.iinc 2 1, 3) := by decide +kernel
theorem dX5_onesOf_21 : decode cX5_onesOf 21 = .ok (.goto (-17), 3) := by decide +kernel
theorem dX5_onesOf_24 : decode cX5_onesOf 24 = .ok (.iload_n 1, 1) := by decide +kernel
theorem dX5_onesOf_25 : decode cX5_onesOf 25 = .ok (.ireturn, 1) := by decide +kernel
theorem dX5_isOne_0 : decode cX5_isOne 0 = .ok (.iload_n 1, 1) := by decide +kernel
theorem dX5_isOne_1 : decode cX5_isOne 1 = .ok (.iconst 0, 1) := by decide +kernel
theorem dX5_isOne_2 : decode cX5_isOne 2 = .ok (.aload_n 0, 1) := by decide +kernel
theorem dX5_isOne_3 : decode cX5_isOne 3 = .ok (.getfield 75, 3) := by decide +kernel
theorem dX5_isOne_6 : decode cX5_isOne 6 = .ok (.iconst 1, 1) := by decide +kernel
theorem dX5_isOne_7 : decode cX5_isOne 7 = .ok (.isub, 1) := by decide +kernel
theorem dX5_isOne_8 : decode cX5_isOne 8 = .ok (.invokestatic 78, 3) := by decide +kernel
theorem dX5_isOne_11 : decode cX5_isOne 11 = .ok (.ireturn, 1) := by decide +kernel
theorem dX5_isPlace_0 : decode cX5_isPlace 0 = .ok (.iload_n 0, 1) := by decide +kernel
theorem dX5_isPlace_1 : decode cX5_isPlace 1 = .ok (.iconst 0, 1) := by decide +kernel
theorem dX5_isPlace_2 : decode cX5_isPlace 2 = .ok (.bipush 7, 2) := by decide +kernel
theorem dX5_isPlace_4 : decode cX5_isPlace 4 = .ok (.invokestatic 78, 3) := by decide +kernel
theorem dX5_isPlace_7 : decode cX5_isPlace 7 = .ok (.ireturn, 1) := by decide +kernel
theorem dX5_isHere_0 : decode cX5_isHere 0 = .ok (.aload_n 0, 1) := by decide +kernel
theorem dX5_isHere_1 : decode cX5_isHere 1 = .ok (.getfield 16, 3) := by decide +kernel
theorem dX5_isHere_4 : decode cX5_isHere 4 = .ok (.bipush 12, 2) := by decide +kernel
theorem dX5_isHere_6 : decode cX5_isHere 6 = .ok (.iload_n 1, 1) := by decide +kernel
theorem dX5_isHere_7 : decode cX5_isHere 7 = .ok (.imul, 1) := by decide +kernel
theorem dX5_isHere_8 : decode cX5_isHere 8 = .ok (.bipush 10, 2) := by decide +kernel
theorem dX5_isHere_10 : decode cX5_isHere 10 = .ok (.iadd, 1) := by decide +kernel
theorem dX5_isHere_11 : decode cX5_isHere 11 = .ok (.iaload, 1) := by decide +kernel
theorem dX5_isHere_12 : decode cX5_isHere 12 = .ok (.iconst (-1), 1) := by decide +kernel
theorem dX5_isHere_13 : decode cX5_isHere 13 = .ok (.if_icmp .ne 7, 3) := by decide +kernel
theorem dX5_isHere_16 : decode cX5_isHere 16 = .ok (.iconst 1, 1) := by decide +kernel
theorem dX5_isHere_17 : decode cX5_isHere 17 = .ok (.goto 4, 3) := by decide +kernel
theorem dX5_isHere_20 : decode cX5_isHere 20 = .ok (.iconst 0, 1) := by decide +kernel
theorem dX5_isHere_21 : decode cX5_isHere 21 = .ok (.ireturn, 1) := by decide +kernel
theorem dX5_hasSand_0 : decode cX5_hasSand 0 = .ok (.aload_n 0, 1) := by decide +kernel
theorem dX5_hasSand_1 : decode cX5_hasSand 1 = .ok (.getfield 16, 3) := by decide +kernel
theorem dX5_hasSand_4 : decode cX5_hasSand 4 = .ok (.bipush 12, 2) := by decide +kernel
theorem dX5_hasSand_6 : decode cX5_hasSand 6 = .ok (.iload_n 1, 1) := by decide +kernel
theorem dX5_hasSand_7 : decode cX5_hasSand 7 = .ok (.imul, 1) := by decide +kernel
theorem dX5_hasSand_8 : decode cX5_hasSand 8 = .ok (.bipush 9, 2) := by decide +kernel
theorem dX5_hasSand_10 : decode cX5_hasSand 10 = .ok (.iadd, 1) := by decide +kernel
theorem dX5_hasSand_11 : decode cX5_hasSand 11 = .ok (.iaload, 1) := by decide +kernel
theorem dX5_hasSand_12 : decode cX5_hasSand 12 = .ok (.iload_n 2, 1) := by decide +kernel
theorem dX5_hasSand_13 : decode cX5_hasSand 13 = .ok (.ishr, 1) := by decide +kernel
theorem dX5_hasSand_14 : decode cX5_hasSand 14 = .ok (.iconst 1, 1) := by decide +kernel
theorem dX5_hasSand_15 : decode cX5_hasSand 15 = .ok (.iand, 1) := by decide +kernel
theorem dX5_hasSand_16 : decode cX5_hasSand 16 = .ok (.iconst 1, 1) := by decide +kernel
theorem dX5_hasSand_17 : decode cX5_hasSand 17 = .ok (.if_icmp .ne 7, 3) := by decide +kernel
theorem dX5_hasSand_20 : decode cX5_hasSand 20 = .ok (.iconst 1, 1) := by decide +kernel
theorem dX5_hasSand_21 : decode cX5_hasSand 21 = .ok (.goto 4, 3) := by decide +kernel
theorem dX5_hasSand_24 : decode cX5_hasSand 24 = .ok (.iconst 0, 1) := by decide +kernel
theorem dX5_hasSand_25 : decode cX5_hasSand 25 = .ok (.ireturn, 1) := by decide +kernel
theorem dX5_hereSet_0 : decode cX5_hereSet 0 = .ok (.iconst 0, 1) := by decide +kernel
theorem dX5_hereSet_1 : decode cX5_hereSet 1 = .ok (.istore_n 1, 1) := by decide +kernel
theorem dX5_hereSet_2 : decode cX5_hereSet 2 = .ok (.iconst 0, 1) := by decide +kernel
theorem dX5_hereSet_3 : decode cX5_hereSet 3 = .ok (.istore_n 2, 1) := by decide +kernel
theorem dX5_hereSet_4 : decode cX5_hereSet 4 = .ok (.iload_n 2, 1) := by decide +kernel
theorem dX5_hereSet_5 : decode cX5_hereSet 5 = .ok (.aload_n 0, 1) := by decide +kernel
theorem dX5_hereSet_6 : decode cX5_hereSet 6 = .ok (.getfield 75, 3) := by decide +kernel
theorem dX5_hereSet_9 : decode cX5_hereSet 9 = .ok (.if_icmp .ge 27, 3) := by decide +kernel
theorem dX5_hereSet_12 : decode cX5_hereSet 12 = .ok (.iload_n 1, 1) := by decide +kernel
theorem dX5_hereSet_13 : decode cX5_hereSet 13 = .ok (.aload_n 0, 1) := by decide +kernel
theorem dX5_hereSet_14 : decode cX5_hereSet 14 = .ok (.iload_n 2, 1) := by decide +kernel
theorem dX5_hereSet_15 : decode cX5_hereSet 15 = .ok (.invokevirtual 82, 3) := by decide +kernel
theorem dX5_hereSet_18 : decode cX5_hereSet 18 = .ok (.ifCond .eq 9, 3) := by decide +kernel
theorem dX5_hereSet_21 : decode cX5_hereSet 21 = .ok (.iconst 1, 1) := by decide +kernel
theorem dX5_hereSet_22 : decode cX5_hereSet 22 = .ok (.iload_n 2, 1) := by decide +kernel
theorem dX5_hereSet_23 : decode cX5_hereSet 23 = .ok (.ishl, 1) := by decide +kernel
theorem dX5_hereSet_24 : decode cX5_hereSet 24 = .ok (.goto 4, 3) := by decide +kernel
theorem dX5_hereSet_27 : decode cX5_hereSet 27 = .ok (.iconst 0, 1) := by decide +kernel
theorem dX5_hereSet_28 : decode cX5_hereSet 28 = .ok (.ior, 1) := by decide +kernel
theorem dX5_hereSet_29 : decode cX5_hereSet 29 = .ok (.istore_n 1, 1) := by decide +kernel
theorem dX5_hereSet_30 : decode cX5_hereSet 30 = .ok (.iinc 2 1, 3) := by decide +kernel
theorem dX5_hereSet_33 : decode cX5_hereSet 33 = .ok (.goto (-29), 3) := by decide +kernel
theorem dX5_hereSet_36 : decode cX5_hereSet 36 = .ok (.iload_n 1, 1) := by decide +kernel
theorem dX5_hereSet_37 : decode cX5_hereSet 37 = .ok (.ireturn, 1) := by decide +kernel
theorem dX5_witAll_0 : decode cX5_witAll 0 = .ok (.iconst 0, 1) := by decide +kernel
theorem dX5_witAll_1 : decode cX5_witAll 1 = .ok (.istore_n 1, 1) := by decide +kernel
theorem dX5_witAll_2 : decode cX5_witAll 2 = .ok (.iconst 0, 1) := by decide +kernel
theorem dX5_witAll_3 : decode cX5_witAll 3 = .ok (.istore_n 2, 1) := by decide +kernel
theorem dX5_witAll_4 : decode cX5_witAll 4 = .ok (.iload_n 2, 1) := by decide +kernel
theorem dX5_witAll_5 : decode cX5_witAll 5 = .ok (.aload_n 0, 1) := by decide +kernel
theorem dX5_witAll_6 : decode cX5_witAll 6 = .ok (.getfield 75, 3) := by decide +kernel
theorem dX5_witAll_9 : decode cX5_witAll 9 = .ok (.if_icmp .ge 24, 3) := by decide +kernel
theorem dX5_witAll_12 : decode cX5_witAll 12 = .ok (.iload_n 1, 1) := by decide +kernel
theorem dX5_witAll_13 : decode cX5_witAll 13 = .ok (.aload_n 0, 1) := by decide +kernel
theorem dX5_witAll_14 : decode cX5_witAll 14 = .ok (.getfield 16, 3) := by decide +kernel
theorem dX5_witAll_17 : decode cX5_witAll 17 = .ok (.bipush 12, 2) := by decide +kernel
theorem dX5_witAll_19 : decode cX5_witAll 19 = .ok (.iload_n 2, 1) := by decide +kernel
theorem dX5_witAll_20 : decode cX5_witAll 20 = .ok (.imul, 1) := by decide +kernel
theorem dX5_witAll_21 : decode cX5_witAll 21 = .ok (.bipush 8, 2) := by decide +kernel
theorem dX5_witAll_23 : decode cX5_witAll 23 = .ok (.iadd, 1) := by decide +kernel
theorem dX5_witAll_24 : decode cX5_witAll 24 = .ok (.iaload, 1) := by decide +kernel
theorem dX5_witAll_25 : decode cX5_witAll 25 = .ok (.iadd, 1) := by decide +kernel
theorem dX5_witAll_26 : decode cX5_witAll 26 = .ok (.istore_n 1, 1) := by decide +kernel
theorem dX5_witAll_27 : decode cX5_witAll 27 = .ok (.iinc 2 1, 3) := by decide +kernel
theorem dX5_witAll_30 : decode cX5_witAll 30 = .ok (.goto (-26), 3) := by decide +kernel
theorem dX5_witAll_33 : decode cX5_witAll 33 = .ok (.iload_n 1, 1) := by decide +kernel
theorem dX5_witAll_34 : decode cX5_witAll 34 = .ok (.ireturn, 1) := by decide +kernel
theorem dX5_count_0 : decode cX5_count 0 = .ok (.iload_n 1, 1) := by decide +kernel
theorem dX5_count_1 : decode cX5_count 1 = .ok (.tableswitch 72 0 5 #[39, 44, 49, 57, 62, 67], 39) := by decide +kernel
theorem dX5_count_40 : decode cX5_count 40 = .ok (.aload_n 0, 1) := by decide +kernel
theorem dX5_count_41 : decode cX5_count 41 = .ok (.getfield 75, 3) := by decide +kernel
theorem dX5_count_44 : decode cX5_count 44 = .ok (.ireturn, 1) := by decide +kernel
theorem dX5_count_45 : decode cX5_count 45 = .ok (.aload_n 0, 1) := by decide +kernel
theorem dX5_count_46 : decode cX5_count 46 = .ok (.getfield 86, 3) := by decide +kernel
theorem dX5_count_49 : decode cX5_count 49 = .ok (.ireturn, 1) := by decide +kernel
theorem dX5_count_50 : decode cX5_count 50 = .ok (.aload_n 0, 1) := by decide +kernel
theorem dX5_count_51 : decode cX5_count 51 = .ok (.invokevirtual 89, 3) := by decide +kernel
theorem dX5_count_54 : decode cX5_count 54 = .ok (.invokestatic 92, 3) := by decide +kernel
theorem dX5_count_57 : decode cX5_count 57 = .ok (.ireturn, 1) := by decide +kernel
theorem dX5_count_58 : decode cX5_count 58 = .ok (.aload_n 0, 1) := by decide +kernel
theorem dX5_count_59 : decode cX5_count 59 = .ok (.getfield 96, 3) := by decide +kernel
theorem dX5_count_62 : decode cX5_count 62 = .ok (.ireturn, 1) := by decide +kernel
theorem dX5_count_63 : decode cX5_count 63 = .ok (.aload_n 0, 1) := by decide +kernel
theorem dX5_count_64 : decode cX5_count 64 = .ok (.getfield 99, 3) := by decide +kernel
theorem dX5_count_67 : decode cX5_count 67 = .ok (.ireturn, 1) := by decide +kernel
theorem dX5_count_68 : decode cX5_count 68 = .ok (.aload_n 0, 1) := by decide +kernel
theorem dX5_count_69 : decode cX5_count 69 = .ok (.getfield 67, 3) := by decide +kernel
theorem dX5_count_72 : decode cX5_count 72 = .ok (.ireturn, 1) := by decide +kernel
theorem dX5_count_73 : decode cX5_count 73 = .ok (.bipush (-2), 2) := by decide +kernel
theorem dX5_count_75 : decode cX5_count 75 = .ok (.ireturn, 1) := by decide +kernel
theorem dX5_clock_0 : decode cX5_clock 0 = .ok (.iload_n 1, 1) := by decide +kernel
theorem dX5_clock_1 : decode cX5_clock 1 = .ok (.iconst 0, 1) := by decide +kernel
theorem dX5_clock_2 : decode cX5_clock 2 = .ok (.sipush 999, 3) := by decide +kernel
theorem dX5_clock_5 : decode cX5_clock 5 = .ok (.invokestatic 78, 3) := by decide +kernel
theorem dX5_clock_8 : decode cX5_clock 8 = .ok (.ifCond .ne 6, 3) := by decide +kernel
theorem dX5_clock_11 : decode cX5_clock 11 = .ok (.bipush (-2), 2) := by decide +kernel
theorem dX5_clock_13 : decode cX5_clock 13 = .ok (.ireturn, 1) := by decide +kernel
theorem dX5_clock_14 : decode cX5_clock 14 = .ok (.aload_n 0, 1) := by decide +kernel
theorem dX5_clock_15 : decode cX5_clock 15 = .ok (.getfield 86, 3) := by decide +kernel
theorem dX5_clock_18 : decode cX5_clock 18 = .ok (.istore_n 2, 1) := by decide +kernel
theorem dX5_clock_19 : decode cX5_clock 19 = .ok (.aload_n 0, 1) := by decide +kernel
theorem dX5_clock_20 : decode cX5_clock 20 = .ok (.iload_n 1, 1) := by decide +kernel
theorem dX5_clock_21 : decode cX5_clock 21 = .ok (.putfield 86, 3) := by decide +kernel
theorem dX5_clock_24 : decode cX5_clock 24 = .ok (.iload_n 2, 1) := by decide +kernel
theorem dX5_clock_25 : decode cX5_clock 25 = .ok (.ireturn, 1) := by decide +kernel
theorem dX5_isByte_0 : decode cX5_isByte 0 = .ok (.iload_n 0, 1) := by decide +kernel
theorem dX5_isByte_1 : decode cX5_isByte 1 = .ok (.iconst 0, 1) := by decide +kernel
theorem dX5_isByte_2 : decode cX5_isByte 2 = .ok (.sipush 255, 3) := by decide +kernel
theorem dX5_isByte_5 : decode cX5_isByte 5 = .ok (.invokestatic 78, 3) := by decide +kernel
theorem dX5_isByte_8 : decode cX5_isByte 8 = .ok (.ireturn, 1) := by decide +kernel
theorem dX5_feed_0 : decode cX5_feed 0 = .ok (.iload_n 1, 1) := by decide +kernel
theorem dX5_feed_1 : decode cX5_feed 1 = .ok (.iconst 1, 1) := by decide +kernel
theorem dX5_feed_2 : decode cX5_feed 2 = .ok (.iconst 5, 1) := by decide +kernel
theorem dX5_feed_3 : decode cX5_feed 3 = .ok (.invokestatic 78, 3) := by decide +kernel
theorem dX5_feed_6 : decode cX5_feed 6 = .ok (.ifCond .eq 41, 3) := by decide +kernel
theorem dX5_feed_9 : decode cX5_feed 9 = .ok (.iload_n 2, 1) := by decide +kernel
theorem dX5_feed_10 : decode cX5_feed 10 = .ok (.invokestatic 102, 3) := by decide +kernel
theorem dX5_feed_13 : decode cX5_feed 13 = .ok (.ifCond .eq 34, 3) := by decide +kernel
theorem dX5_feed_16 : decode cX5_feed 16 = .ok (.iload_n 3, 1) := by decide +kernel
theorem dX5_feed_17 : decode cX5_feed 17 = .ok (.invokestatic 102, 3) := by decide +kernel
theorem dX5_feed_20 : decode cX5_feed 20 = .ok (.ifCond .eq 27, 3) := by decide +kernel
theorem dX5_feed_23 : decode cX5_feed 23 = .ok (.iload 4, 2) := by decide +kernel
theorem dX5_feed_25 : decode cX5_feed 25 = .ok (.invokestatic 102, 3) := by decide +kernel
theorem dX5_feed_28 : decode cX5_feed 28 = .ok (.ifCond .eq 19, 3) := by decide +kernel
theorem dX5_feed_31 : decode cX5_feed 31 = .ok (.iload 5, 2) := by decide +kernel
theorem dX5_feed_33 : decode cX5_feed 33 = .ok (.invokestatic 102, 3) := by decide +kernel
theorem dX5_feed_36 : decode cX5_feed 36 = .ok (.ifCond .eq 11, 3) := by decide +kernel
theorem dX5_feed_39 : decode cX5_feed 39 = .ok (.iload 6, 2) := by decide +kernel
theorem dX5_feed_41 : decode cX5_feed 41 = .ok (.invokestatic 102, 3) := by decide +kernel
theorem dX5_feed_44 : decode cX5_feed 44 = .ok (.ifCond .ne 6, 3) := by decide +kernel
theorem dX5_feed_47 : decode cX5_feed 47 = .ok (.bipush (-2), 2) := by decide +kernel
theorem dX5_feed_49 : decode cX5_feed 49 = .ok (.ireturn, 1) := by decide +kernel
theorem dX5_feed_50 : decode cX5_feed 50 = .ok (.aload_n 0, 1) := by decide +kernel
theorem dX5_feed_51 : decode cX5_feed 51 = .ok (.getfield 67, 3) := by decide +kernel
theorem dX5_feed_54 : decode cX5_feed 54 = .ok (.iload_n 1, 1) := by decide +kernel
theorem dX5_feed_55 : decode cX5_feed 55 = .ok (.iadd, 1) := by decide +kernel
theorem dX5_feed_56 : decode cX5_feed 56 = .ok (.sipush 160, 3) := by decide +kernel
theorem dX5_feed_59 : decode cX5_feed 59 = .ok (.if_icmp .le 6, 3) := by decide +kernel
theorem dX5_feed_62 : decode cX5_feed 62 = .ok (.bipush (-4), 2) := by decide +kernel
theorem dX5_feed_64 : decode cX5_feed 64 = .ok (.ireturn, 1) := by decide +kernel
theorem dX5_feed_65 : decode cX5_feed 65 = .ok (.iconst 0, 1) := by decide +kernel
theorem dX5_feed_66 : decode cX5_feed 66 = .ok (.istore 7, 2) := by decide +kernel
theorem dX5_feed_68 : decode cX5_feed 68 = .ok (.iload 7, 2) := by decide +kernel
theorem dX5_feed_70 : decode cX5_feed 70 = .ok (.iload_n 1, 1) := by decide +kernel
theorem dX5_feed_71 : decode cX5_feed 71 = .ok (.if_icmp .ge 71, 3) := by decide +kernel
theorem dX5_feed_74 : decode cX5_feed 74 = .ok (.aload_n 0, 1) := by decide +kernel
theorem dX5_feed_75 : decode cX5_feed 75 = .ok (.getfield 19, 3) := by decide +kernel
theorem dX5_feed_78 : decode cX5_feed 78 = .ok (.aload_n 0, 1) := by decide +kernel
theorem dX5_feed_79 : decode cX5_feed 79 = .ok (.getfield 67, 3) := by decide +kernel
theorem dX5_feed_82 : decode cX5_feed 82 = .ok (.iload 7, 2) := by decide +kernel
theorem dX5_feed_84 : decode cX5_feed 84 = .ok (.ifCond .ne 7, 3) := by decide +kernel
theorem dX5_feed_87 : decode cX5_feed 87 = .ok (.iload_n 2, 1) := by decide +kernel
theorem dX5_feed_88 : decode cX5_feed 88 = .ok (.goto 37, 3) := by decide +kernel
theorem dX5_feed_91 : decode cX5_feed 91 = .ok (.iload 7, 2) := by decide +kernel
theorem dX5_feed_93 : decode cX5_feed 93 = .ok (.iconst 1, 1) := by decide +kernel
theorem dX5_feed_94 : decode cX5_feed 94 = .ok (.if_icmp .ne 7, 3) := by decide +kernel
theorem dX5_feed_97 : decode cX5_feed 97 = .ok (.iload_n 3, 1) := by decide +kernel
theorem dX5_feed_98 : decode cX5_feed 98 = .ok (.goto 27, 3) := by decide +kernel
theorem dX5_feed_101 : decode cX5_feed 101 = .ok (.iload 7, 2) := by decide +kernel
theorem dX5_feed_103 : decode cX5_feed 103 = .ok (.iconst 2, 1) := by decide +kernel
theorem dX5_feed_104 : decode cX5_feed 104 = .ok (.if_icmp .ne 8, 3) := by decide +kernel
theorem dX5_feed_107 : decode cX5_feed 107 = .ok (.iload 4, 2) := by decide +kernel
theorem dX5_feed_109 : decode cX5_feed 109 = .ok (.goto 16, 3) := by decide +kernel
theorem dX5_feed_112 : decode cX5_feed 112 = .ok (.iload 7, 2) := by decide +kernel
theorem dX5_feed_114 : decode cX5_feed 114 = .ok (.iconst 3, 1) := by decide +kernel
theorem dX5_feed_115 : decode cX5_feed 115 = .ok (.if_icmp .ne 8, 3) := by decide +kernel
theorem dX5_feed_118 : decode cX5_feed 118 = .ok (.iload 5, 2) := by decide +kernel
theorem dX5_feed_120 : decode cX5_feed 120 = .ok (.goto 5, 3) := by decide +kernel
theorem dX5_feed_123 : decode cX5_feed 123 = .ok (.iload 6, 2) := by decide +kernel
theorem dX5_feed_125 : decode cX5_feed 125 = .ok (.iastore, 1) := by decide +kernel
theorem dX5_feed_126 : decode cX5_feed 126 = .ok (.aload_n 0, 1) := by decide +kernel
theorem dX5_feed_127 : decode cX5_feed 127 = .ok (.dup, 1) := by decide +kernel
theorem dX5_feed_128 : decode cX5_feed 128 = .ok (.getfield 67, 3) := by decide +kernel
theorem dX5_feed_131 : decode cX5_feed 131 = .ok (.iconst 1, 1) := by decide +kernel
theorem dX5_feed_132 : decode cX5_feed 132 = .ok (.iadd, 1) := by decide +kernel
theorem dX5_feed_133 : decode cX5_feed 133 = .ok (.putfield 67, 3) := by decide +kernel
theorem dX5_feed_136 : decode cX5_feed 136 = .ok (.iinc 7 1, 3) := by decide +kernel
theorem dX5_feed_139 : decode cX5_feed 139 = .ok (.goto (-71), 3) := by decide +kernel
theorem dX5_feed_142 : decode cX5_feed 142 = .ok (.aload_n 0, 1) := by decide +kernel
theorem dX5_feed_143 : decode cX5_feed 143 = .ok (.getfield 67, 3) := by decide +kernel
theorem dX5_feed_146 : decode cX5_feed 146 = .ok (.ireturn, 1) := by decide +kernel
theorem dX5_wordFrom_0 : decode cX5_wordFrom 0 = .ok (.iconst 0, 1) := by decide +kernel
theorem dX5_wordFrom_1 : decode cX5_wordFrom 1 = .ok (.istore_n 3, 1) := by decide +kernel
theorem dX5_wordFrom_2 : decode cX5_wordFrom 2 = .ok (.iload_n 3, 1) := by decide +kernel
theorem dX5_wordFrom_3 : decode cX5_wordFrom 3 = .ok (.bipush 12, 2) := by decide +kernel
theorem dX5_wordFrom_5 : decode cX5_wordFrom 5 = .ok (.if_icmp .ge 96, 3) := by decide +kernel
theorem dX5_wordFrom_8 : decode cX5_wordFrom 8 = .ok (.iload_n 2, 1) := by decide +kernel
theorem dX5_wordFrom_9 : decode cX5_wordFrom 9 = .ok (.iload_n 1, 1) := by decide +kernel
theorem dX5_wordFrom_10 : decode cX5_wordFrom 10 = .ok (.isub, 1) := by decide +kernel
theorem dX5_wordFrom_11 : decode cX5_wordFrom 11 = .ok (.bipush 8, 2) := by decide +kernel
theorem dX5_wordFrom_13 : decode cX5_wordFrom 13 = .ok (.if_icmp .gt 7, 3) := by decide +kernel
theorem dX5_wordFrom_16 : decode cX5_wordFrom 16 = .ok (.iconst 1, 1) := by decide +kernel
theorem dX5_wordFrom_17 : decode cX5_wordFrom 17 = .ok (.goto 4, 3) := by decide +kernel
theorem dX5_wordFrom_20 : decode cX5_wordFrom 20 = .ok (.iconst 0, 1) := by decide +kernel
theorem dX5_wordFrom_21 : decode cX5_wordFrom 21 = .ok (.istore 4, 2) := by decide +kernel
theorem dX5_wordFrom_23 : decode cX5_wordFrom 23 = .ok (.iconst 0, 1) := by decide +kernel
theorem dX5_wordFrom_24 : decode cX5_wordFrom 24 = .ok (.istore 5, 2) := by decide +kernel
theorem dX5_wordFrom_26 : decode cX5_wordFrom 26 = .ok (.iload 5, 2) := by decide +kernel
theorem dX5_wordFrom_28 : decode cX5_wordFrom 28 = .ok (.bipush 8, 2) := by decide +kernel
theorem dX5_wordFrom_30 : decode cX5_wordFrom 30 = .ok (.if_icmp .ge 58, 3) := by decide +kernel
theorem dX5_wordFrom_33 : decode cX5_wordFrom 33 = .ok (.iload 4, 2) := by decide +kernel
theorem dX5_wordFrom_35 : decode cX5_wordFrom 35 = .ok (.ifCond .eq 53, 3) := by decide +kernel
theorem dX5_wordFrom_38 : decode cX5_wordFrom 38 = .ok (.aload_n 0, 1) := by decide +kernel
theorem dX5_wordFrom_39 : decode cX5_wordFrom 39 = .ok (.getfield 46, 3) := by decide +kernel
theorem dX5_wordFrom_42 : decode cX5_wordFrom 42 = .ok (.bipush 8, 2) := by decide +kernel
theorem dX5_wordFrom_44 : decode cX5_wordFrom 44 = .ok (.iload_n 3, 1) := by decide +kernel
theorem dX5_wordFrom_45 : decode cX5_wordFrom 45 = .ok (.imul, 1) := by decide +kernel
theorem dX5_wordFrom_46 : decode cX5_wordFrom 46 = .ok (.iload 5, 2) := by decide +kernel
theorem dX5_wordFrom_48 : decode cX5_wordFrom 48 = .ok (.iadd, 1) := by decide +kernel
theorem dX5_wordFrom_49 : decode cX5_wordFrom 49 = .ok (.iaload, 1) := by decide +kernel
theorem dX5_wordFrom_50 : decode cX5_wordFrom 50 = .ok (.iload_n 1, 1) := by decide +kernel
theorem dX5_wordFrom_51 : decode cX5_wordFrom 51 = .ok (.iload 5, 2) := by decide +kernel
theorem dX5_wordFrom_53 : decode cX5_wordFrom 53 = .ok (.iadd, 1) := by decide +kernel
theorem dX5_wordFrom_54 : decode cX5_wordFrom 54 = .ok (.iload_n 2, 1) := by decide +kernel
theorem dX5_wordFrom_55 : decode cX5_wordFrom 55 = .ok (.if_icmp .ge 15, 3) := by decide +kernel
theorem dX5_wordFrom_58 : decode cX5_wordFrom 58 = .ok (.aload_n 0, 1) := by decide +kernel
theorem dX5_wordFrom_59 : decode cX5_wordFrom 59 = .ok (.getfield 19, 3) := by decide +kernel
theorem dX5_wordFrom_62 : decode cX5_wordFrom 62 = .ok (.iload_n 1, 1) := by decide +kernel
theorem dX5_wordFrom_63 : decode cX5_wordFrom 63 = .ok (.iload 5, 2) := by decide +kernel
theorem dX5_wordFrom_65 : decode cX5_wordFrom 65 = .ok (.iadd, 1) := by decide +kernel
theorem dX5_wordFrom_66 : decode cX5_wordFrom 66 = .ok (.iaload, 1) := by decide +kernel
theorem dX5_wordFrom_67 : decode cX5_wordFrom 67 = .ok (.goto 5, 3) := by decide +kernel
theorem dX5_wordFrom_70 : decode cX5_wordFrom 70 = .ok (.bipush 32, 2) := by decide +kernel
theorem dX5_wordFrom_72 : decode cX5_wordFrom 72 = .ok (.if_icmp .ne 7, 3) := by decide +kernel
theorem dX5_wordFrom_75 : decode cX5_wordFrom 75 = .ok (.iconst 1, 1) := by decide +kernel
theorem dX5_wordFrom_76 : decode cX5_wordFrom 76 = .ok (.goto 4, 3) := by decide +kernel
theorem dX5_wordFrom_79 : decode cX5_wordFrom 79 = .ok (.iconst 0, 1) := by decide +kernel
theorem dX5_wordFrom_80 : decode cX5_wordFrom 80 = .ok (.istore 4, 2) := by decide +kernel
theorem dX5_wordFrom_82 : decode cX5_wordFrom 82 = .ok (.iinc 5 1, 3) := by decide +kernel
theorem dX5_wordFrom_85 : decode cX5_wordFrom 85 = .ok (.goto (-59), 3) := by decide +kernel
theorem dX5_wordFrom_88 : decode cX5_wordFrom 88 = .ok (.iload 4, 2) := by decide +kernel
theorem dX5_wordFrom_90 : decode cX5_wordFrom 90 = .ok (.ifCond .eq 5, 3) := by decide +kernel
theorem dX5_wordFrom_93 : decode cX5_wordFrom 93 = .ok (.iload_n 3, 1) := by decide +kernel
theorem dX5_wordFrom_94 : decode cX5_wordFrom 94 = .ok (.ireturn, 1) := by decide +kernel
theorem dX5_wordFrom_95 : decode cX5_wordFrom 95 = .ok (.iinc 3 1, 3) := by decide +kernel
theorem dX5_wordFrom_98 : decode cX5_wordFrom 98 = .ok (.goto (-96), 3) := by decide +kernel
theorem dX5_wordFrom_101 : decode cX5_wordFrom 101 = .ok (.bipush 12, 2) := by decide +kernel
theorem dX5_wordFrom_103 : decode cX5_wordFrom 103 = .ok (.ireturn, 1) := by decide +kernel
theorem dX5_next_0 : decode cX5_next 0 = .ok (.aload_n 0, 1) := by decide +kernel
theorem dX5_next_1 : decode cX5_next 1 = .ok (.getfield 105, 3) := by decide +kernel
theorem dX5_next_4 : decode cX5_next 4 = .ok (.aload_n 0, 1) := by decide +kernel
theorem dX5_next_5 : decode cX5_next 5 = .ok (.getfield 67, 3) := by decide +kernel
theorem dX5_next_8 : decode cX5_next 8 = .ok (.if_icmp .ge 44, 3) := by decide +kernel
theorem dX5_next_11 : decode cX5_next 11 = .ok (.aload_n 0, 1) := by decide +kernel
theorem dX5_next_12 : decode cX5_next 12 = .ok (.getfield 19, 3) := by decide +kernel
theorem dX5_next_15 : decode cX5_next 15 = .ok (.aload_n 0, 1) := by decide +kernel
theorem dX5_next_16 : decode cX5_next 16 = .ok (.getfield 105, 3) := by decide +kernel
theorem dX5_next_19 : decode cX5_next 19 = .ok (.iaload, 1) := by decide +kernel
theorem dX5_next_20 : decode cX5_next 20 = .ok (.bipush 32, 2) := by decide +kernel
theorem dX5_next_22 : decode cX5_next 22 = .ok (.if_icmp .eq 17, 3) := by decide +kernel
theorem dX5_next_25 : decode cX5_next 25 = .ok (.aload_n 0, 1) := by decide +kernel
theorem dX5_next_26 : decode cX5_next 26 = .ok (.getfield 19, 3) := by decide +kernel
theorem dX5_next_29 : decode cX5_next 29 = .ok (.aload_n 0, 1) := by decide +kernel
theorem dX5_next_30 : decode cX5_next 30 = .ok (.getfield 105, 3) := by decide +kernel
theorem dX5_next_33 : decode cX5_next 33 = .ok (.iaload, 1) := by decide +kernel
theorem dX5_next_34 : decode cX5_next 34 = .ok (.bipush 10, 2) := by decide +kernel
theorem dX5_next_36 : decode cX5_next 36 = .ok (.if_icmp .ne 16, 3) := by decide +kernel
theorem dX5_next_39 : decode cX5_next 39 = .ok (.aload_n 0, 1) := by decide +kernel
theorem dX5_next_40 : decode cX5_next 40 = .ok (.dup, 1) := by decide +kernel
theorem dX5_next_41 : decode cX5_next 41 = .ok (.getfield 105, 3) := by decide +kernel
theorem dX5_next_44 : decode cX5_next 44 = .ok (.iconst 1, 1) := by decide +kernel
theorem dX5_next_45 : decode cX5_next 45 = .ok (.iadd, 1) := by decide +kernel
theorem dX5_next_46 : decode cX5_next 46 = .ok (.putfield 105, 3) := by decide +kernel
theorem dX5_next_49 : decode cX5_next 49 = .ok (.goto (-49), 3) := by decide +kernel
theorem dX5_next_52 : decode cX5_next 52 = .ok (.aload_n 0, 1) := by decide +kernel
theorem dX5_next_53 : decode cX5_next 53 = .ok (.aload_n 0, 1) := by decide +kernel
theorem dX5_next_54 : decode cX5_next 54 = .ok (.getfield 105, 3) := by decide +kernel
theorem dX5_next_57 : decode cX5_next 57 = .ok (.putfield 108, 3) := by decide +kernel
theorem dX5_next_60 : decode cX5_next 60 = .ok (.aload_n 0, 1) := by decide +kernel
theorem dX5_next_61 : decode cX5_next 61 = .ok (.iconst 0, 1) := by decide +kernel
theorem dX5_next_62 : decode cX5_next 62 = .ok (.putfield 111, 3) := by decide +kernel
theorem dX5_next_65 : decode cX5_next 65 = .ok (.aload_n 0, 1) := by decide +kernel
theorem dX5_next_66 : decode cX5_next 66 = .ok (.iconst 0, 1) := by decide +kernel
theorem dX5_next_67 : decode cX5_next 67 = .ok (.putfield 114, 3) := by decide +kernel
theorem dX5_next_70 : decode cX5_next 70 = .ok (.aload_n 0, 1) := by decide +kernel
theorem dX5_next_71 : decode cX5_next 71 = .ok (.getfield 105, 3) := by decide +kernel
theorem dX5_next_74 : decode cX5_next 74 = .ok (.aload_n 0, 1) := by decide +kernel
theorem dX5_next_75 : decode cX5_next 75 = .ok (.getfield 67, 3) := by decide +kernel
theorem dX5_next_78 : decode cX5_next 78 = .ok (.if_icmp .ne 4, 3) := by decide +kernel
theorem dX5_next_81 : decode cX5_next 81 = .ok (.return_, 1) := by decide +kernel
theorem dX5_next_82 : decode cX5_next 82 = .ok (.aload_n 0, 1) := by decide +kernel
theorem dX5_next_83 : decode cX5_next 83 = .ok (.getfield 19, 3) := by decide +kernel
theorem dX5_next_86 : decode cX5_next 86 = .ok (.aload_n 0, 1) := by decide +kernel
theorem dX5_next_87 : decode cX5_next 87 = .ok (.getfield 105, 3) := by decide +kernel
theorem dX5_next_90 : decode cX5_next 90 = .ok (.iaload, 1) := by decide +kernel
theorem dX5_next_91 : decode cX5_next 91 = .ok (.istore_n 1, 1) := by decide +kernel
theorem dX5_next_92 : decode cX5_next 92 = .ok (.iload_n 1, 1) := by decide +kernel
theorem dX5_next_93 : decode cX5_next 93 = .ok (.bipush 97, 2) := by decide +kernel
theorem dX5_next_95 : decode cX5_next 95 = .ok (.bipush 122, 2) := by decide +kernel
theorem dX5_next_97 : decode cX5_next 97 = .ok (.invokestatic 78, 3) := by decide +kernel
theorem dX5_next_100 : decode cX5_next 100 = .ok (.ifCond .eq 117, 3) := by decide +kernel
theorem dX5_next_103 : decode cX5_next 103 = .ok (.aload_n 0, 1) := by decide +kernel
theorem dX5_next_104 : decode cX5_next 104 = .ok (.getfield 105, 3) := by decide +kernel
theorem dX5_next_107 : decode cX5_next 107 = .ok (.aload_n 0, 1) := by decide +kernel
theorem dX5_next_108 : decode cX5_next 108 = .ok (.getfield 67, 3) := by decide +kernel
theorem dX5_next_111 : decode cX5_next 111 = .ok (.if_icmp .ge 35, 3) := by decide +kernel
theorem dX5_next_114 : decode cX5_next 114 = .ok (.aload_n 0, 1) := by decide +kernel
theorem dX5_next_115 : decode cX5_next 115 = .ok (.getfield 19, 3) := by decide +kernel
theorem dX5_next_118 : decode cX5_next 118 = .ok (.aload_n 0, 1) := by decide +kernel
theorem dX5_next_119 : decode cX5_next 119 = .ok (.getfield 105, 3) := by decide +kernel
theorem dX5_next_122 : decode cX5_next 122 = .ok (.iaload, 1) := by decide +kernel
theorem dX5_next_123 : decode cX5_next 123 = .ok (.bipush 97, 2) := by decide +kernel
theorem dX5_next_125 : decode cX5_next 125 = .ok (.bipush 122, 2) := by decide +kernel
theorem dX5_next_127 : decode cX5_next 127 = .ok (.invokestatic 78, 3) := by decide +kernel
theorem dX5_next_130 : decode cX5_next 130 = .ok (.ifCond .eq 16, 3) := by decide +kernel
theorem dX5_next_133 : decode cX5_next 133 = .ok (.aload_n 0, 1) := by decide +kernel
theorem dX5_next_134 : decode cX5_next 134 = .ok (.dup, 1) := by decide +kernel
theorem dX5_next_135 : decode cX5_next 135 = .ok (.getfield 105, 3) := by decide +kernel
theorem dX5_next_138 : decode cX5_next 138 = .ok (.iconst 1, 1) := by decide +kernel
theorem dX5_next_139 : decode cX5_next 139 = .ok (.iadd, 1) := by decide +kernel
theorem dX5_next_140 : decode cX5_next 140 = .ok (.putfield 105, 3) := by decide +kernel
theorem dX5_next_143 : decode cX5_next 143 = .ok (.goto (-40), 3) := by decide +kernel
theorem dX5_next_146 : decode cX5_next 146 = .ok (.aload_n 0, 1) := by decide +kernel
theorem dX5_next_147 : decode cX5_next 147 = .ok (.aload_n 0, 1) := by decide +kernel
theorem dX5_next_148 : decode cX5_next 148 = .ok (.getfield 108, 3) := by decide +kernel
theorem dX5_next_151 : decode cX5_next 151 = .ok (.aload_n 0, 1) := by decide +kernel
theorem dX5_next_152 : decode cX5_next 152 = .ok (.getfield 105, 3) := by decide +kernel
theorem dX5_next_155 : decode cX5_next 155 = .ok (.invokevirtual 117, 3) := by decide +kernel
theorem dX5_next_158 : decode cX5_next 158 = .ok (.istore_n 2, 1) := by decide +kernel
theorem dX5_next_159 : decode cX5_next 159 = .ok (.aload_n 0, 1) := by decide +kernel
theorem dX5_next_160 : decode cX5_next 160 = .ok (.iload_n 2, 1) := by decide +kernel
theorem dX5_next_161 : decode cX5_next 161 = .ok (.iconst 3, 1) := by decide +kernel
theorem dX5_next_162 : decode cX5_next 162 = .ok (.if_icmp .ge 7, 3) := by decide +kernel
theorem dX5_next_165 : decode cX5_next 165 = .ok (.iconst 3, 1) := by decide +kernel
theorem dX5_next_166 : decode cX5_next 166 = .ok (.goto 29, 3) := by decide +kernel
theorem dX5_next_169 : decode cX5_next 169 = .ok (.iload_n 2, 1) := by decide +kernel
theorem dX5_next_170 : decode cX5_next 170 = .ok (.bipush 9, 2) := by decide +kernel
theorem dX5_next_172 : decode cX5_next 172 = .ok (.if_icmp .ge 7, 3) := by decide +kernel
theorem dX5_next_175 : decode cX5_next 175 = .ok (.iconst 2, 1) := by decide +kernel
theorem dX5_next_176 : decode cX5_next 176 = .ok (.goto 19, 3) := by decide +kernel
theorem dX5_next_179 : decode cX5_next 179 = .ok (.iload_n 2, 1) := by decide +kernel
theorem dX5_next_180 : decode cX5_next 180 = .ok (.bipush 12, 2) := by decide +kernel
theorem dX5_next_182 : decode cX5_next 182 = .ok (.if_icmp .ne 7, 3) := by decide +kernel
theorem dX5_next_185 : decode cX5_next 185 = .ok (.iconst (-1), 1) := by decide +kernel
theorem dX5_next_186 : decode cX5_next 186 = .ok (.goto 9, 3) := by decide +kernel
theorem dX5_next_189 : decode cX5_next 189 = .ok (.iconst 4, 1) := by decide +kernel
theorem dX5_next_190 : decode cX5_next 190 = .ok (.iload_n 2, 1) := by decide +kernel
theorem dX5_next_191 : decode cX5_next 191 = .ok (.iadd, 1) := by decide +kernel
theorem dX5_next_192 : decode cX5_next 192 = .ok (.bipush 9, 2) := by decide +kernel
theorem dX5_next_194 : decode cX5_next 194 = .ok (.isub, 1) := by decide +kernel
theorem dX5_next_195 : decode cX5_next 195 = .ok (.putfield 111, 3) := by decide +kernel
theorem dX5_next_198 : decode cX5_next 198 = .ok (.aload_n 0, 1) := by decide +kernel
theorem dX5_next_199 : decode cX5_next 199 = .ok (.iload_n 2, 1) := by decide +kernel
theorem dX5_next_200 : decode cX5_next 200 = .ok (.iconst 3, 1) := by decide +kernel
theorem dX5_next_201 : decode cX5_next 201 = .ok (.if_icmp .ge 7, 3) := by decide +kernel
theorem dX5_next_204 : decode cX5_next 204 = .ok (.iload_n 2, 1) := by decide +kernel
theorem dX5_next_205 : decode cX5_next 205 = .ok (.goto 6, 3) := by decide +kernel
theorem dX5_next_208 : decode cX5_next 208 = .ok (.iload_n 2, 1) := by decide +kernel
theorem dX5_next_209 : decode cX5_next 209 = .ok (.iconst 3, 1) := by decide +kernel
theorem dX5_next_210 : decode cX5_next 210 = .ok (.isub, 1) := by decide +kernel
theorem dX5_next_211 : decode cX5_next 211 = .ok (.putfield 114, 3) := by decide +kernel
theorem dX5_next_214 : decode cX5_next 214 = .ok (.goto 189, 3) := by decide +kernel
theorem dX5_next_217 : decode cX5_next 217 = .ok (.iload_n 1, 1) := by decide +kernel
theorem dX5_next_218 : decode cX5_next 218 = .ok (.bipush 48, 2) := by decide +kernel
theorem dX5_next_220 : decode cX5_next 220 = .ok (.bipush 57, 2) := by decide +kernel
theorem dX5_next_222 : decode cX5_next 222 = .ok (.invokestatic 78, 3) := by decide +kernel
theorem dX5_next_225 : decode cX5_next 225 = .ok (.ifCond .eq 101, 3) := by decide +kernel
theorem dX5_next_228 : decode cX5_next 228 = .ok (.iconst 0, 1) := by decide +kernel
theorem dX5_next_229 : decode cX5_next 229 = .ok (.istore_n 2, 1) := by decide +kernel
theorem dX5_next_230 : decode cX5_next 230 = .ok (.aload_n 0, 1) := by decide +kernel
theorem dX5_next_231 : decode cX5_next 231 = .ok (.getfield 105, 3) := by decide +kernel
theorem dX5_next_234 : decode cX5_next 234 = .ok (.aload_n 0, 1) := by decide +kernel
theorem dX5_next_235 : decode cX5_next 235 = .ok (.getfield 67, 3) := by decide +kernel
theorem dX5_next_238 : decode cX5_next 238 = .ok (.if_icmp .ge 71, 3) := by decide +kernel
theorem dX5_next_241 : decode cX5_next 241 = .ok (.aload_n 0, 1) := by decide +kernel
theorem dX5_next_242 : decode cX5_next 242 = .ok (.getfield 19, 3) := by decide +kernel
theorem dX5_next_245 : decode cX5_next 245 = .ok (.aload_n 0, 1) := by decide +kernel
theorem dX5_next_246 : decode cX5_next 246 = .ok (.getfield 105, 3) := by decide +kernel
theorem dX5_next_249 : decode cX5_next 249 = .ok (.iaload, 1) := by decide +kernel
theorem dX5_next_250 : decode cX5_next 250 = .ok (.bipush 48, 2) := by decide +kernel
theorem dX5_next_252 : decode cX5_next 252 = .ok (.bipush 57, 2) := by decide +kernel
theorem dX5_next_254 : decode cX5_next 254 = .ok (.invokestatic 78, 3) := by decide +kernel
theorem dX5_next_257 : decode cX5_next 257 = .ok (.ifCond .eq 52, 3) := by decide +kernel
theorem dX5_next_260 : decode cX5_next 260 = .ok (.aload_n 0, 1) := by decide +kernel
theorem dX5_next_261 : decode cX5_next 261 = .ok (.iload_n 2, 1) := by decide +kernel
theorem dX5_next_262 : decode cX5_next 262 = .ok (.iconst 4, 1) := by decide +kernel
theorem dX5_next_263 : decode cX5_next 263 = .ok (.if_icmp .ge 26, 3) := by decide +kernel
theorem dX5_next_266 : decode cX5_next 266 = .ok (.bipush 10, 2) := by decide +kernel
theorem dX5_next_268 : decode cX5_next 268 = .ok (.aload_n 0, 1) := by decide +kernel
theorem dX5_next_269 : decode cX5_next 269 = .ok (.getfield 114, 3) := by decide +kernel
theorem dX5_next_272 : decode cX5_next 272 = .ok (.imul, 1) := by decide +kernel
theorem dX5_next_273 : decode cX5_next 273 = .ok (.aload_n 0, 1) := by decide +kernel
theorem dX5_next_274 : decode cX5_next 274 = .ok (.getfield 19, 3) := by decide +kernel
theorem dX5_next_277 : decode cX5_next 277 = .ok (.aload_n 0, 1) := by decide +kernel
theorem dX5_next_278 : decode cX5_next 278 = .ok (.getfield 105, 3) := by decide +kernel
theorem dX5_next_281 : decode cX5_next 281 = .ok (.iaload, 1) := by decide +kernel
theorem dX5_next_282 : decode cX5_next 282 = .ok (.iadd, 1) := by decide +kernel
theorem dX5_next_283 : decode cX5_next 283 = .ok (.bipush 48, 2) := by decide +kernel
theorem dX5_next_285 : decode cX5_next 285 = .ok (.isub, 1) := by decide +kernel
theorem dX5_next_286 : decode cX5_next 286 = .ok (.goto 4, 3) := by decide +kernel
theorem dX5_next_289 : decode cX5_next 289 = .ok (.iconst 0, 1) := by decide +kernel
theorem dX5_next_290 : decode cX5_next 290 = .ok (.putfield 114, 3) := by decide +kernel
theorem dX5_next_293 : decode cX5_next 293 = .ok (.iinc 2 1, 3) := by decide +kernel
theorem dX5_next_296 : decode cX5_next 296 = .ok (.aload_n 0, 1) := by decide +kernel
theorem dX5_next_297 : decode cX5_next 297 = .ok (.dup, 1) := by decide +kernel
theorem dX5_next_298 : decode cX5_next 298 = .ok (.getfield 105, 3) := by decide +kernel
theorem dX5_next_301 : decode cX5_next 301 = .ok (.iconst 1, 1) := by decide +kernel
theorem dX5_next_302 : decode cX5_next 302 = .ok (.iadd, 1) := by decide +kernel
theorem dX5_next_303 : decode cX5_next 303 = .ok (.putfield 105, 3) := by decide +kernel
theorem dX5_next_306 : decode cX5_next 306 = .ok (.goto (-76), 3) := by decide +kernel
theorem dX5_next_309 : decode cX5_next 309 = .ok (.aload_n 0, 1) := by decide +kernel
theorem dX5_next_310 : decode cX5_next 310 = .ok (.iload_n 2, 1) := by decide +kernel
theorem dX5_next_311 : decode cX5_next 311 = .ok (.iconst 4, 1) := by decide +kernel
theorem dX5_next_312 : decode cX5_next 312 = .ok (.if_icmp .le 7, 3) := by decide +kernel
theorem dX5_next_315 : decode cX5_next 315 = .ok (.iconst (-1), 1) := by decide +kernel
theorem dX5_next_316 : decode cX5_next 316 = .ok (.goto 4, 3) := by decide +kernel
theorem dX5_next_319 : decode cX5_next 319 = .ok (.iconst 1, 1) := by decide +kernel
theorem dX5_next_320 : decode cX5_next 320 = .ok (.putfield 111, 3) := by decide +kernel
theorem dX5_next_323 : decode cX5_next 323 = .ok (.goto 80, 3) := by decide +kernel
theorem dX5_next_326 : decode cX5_next 326 = .ok (.iload_n 1, 1) := by decide +kernel
theorem dX5_next_327 : decode cX5_next 327 = .ok (.bipush 40, 2) := by decide +kernel
theorem dX5_next_329 : decode cX5_next 329 = .ok (.if_icmp .eq 45, 3) := by decide +kernel
theorem dX5_next_332 : decode cX5_next 332 = .ok (.iload_n 1, 1) := by decide +kernel
theorem dX5_next_333 : decode cX5_next 333 = .ok (.bipush 41, 2) := by decide +kernel
theorem dX5_next_335 : decode cX5_next 335 = .ok (.if_icmp .eq 39, 3) := by decide +kernel
theorem dX5_next_338 : decode cX5_next 338 = .ok (.iload_n 1, 1) := by decide +kernel
theorem dX5_next_339 : decode cX5_next 339 = .ok (.bipush 59, 2) := by decide +kernel
theorem dX5_next_341 : decode cX5_next 341 = .ok (.if_icmp .eq 33, 3) := by decide +kernel
theorem dX5_next_344 : decode cX5_next 344 = .ok (.iload_n 1, 1) := by decide +kernel
theorem dX5_next_345 : decode cX5_next 345 = .ok (.bipush 43, 2) := by decide +kernel
theorem dX5_next_347 : decode cX5_next 347 = .ok (.if_icmp .eq 27, 3) := by decide +kernel
theorem dX5_next_350 : decode cX5_next 350 = .ok (.iload_n 1, 1) := by decide +kernel
theorem dX5_next_351 : decode cX5_next 351 = .ok (.bipush 45, 2) := by decide +kernel
theorem dX5_next_353 : decode cX5_next 353 = .ok (.if_icmp .eq 21, 3) := by decide +kernel
theorem dX5_next_356 : decode cX5_next 356 = .ok (.iload_n 1, 1) := by decide +kernel
theorem dX5_next_357 : decode cX5_next 357 = .ok (.bipush 42, 2) := by decide +kernel
theorem dX5_next_359 : decode cX5_next 359 = .ok (.if_icmp .eq 15, 3) := by decide +kernel
theorem dX5_next_362 : decode cX5_next 362 = .ok (.iload_n 1, 1) := by decide +kernel
theorem dX5_next_363 : decode cX5_next 363 = .ok (.bipush 60, 2) := by decide +kernel
theorem dX5_next_365 : decode cX5_next 365 = .ok (.if_icmp .eq 9, 3) := by decide +kernel
theorem dX5_next_368 : decode cX5_next 368 = .ok (.iload_n 1, 1) := by decide +kernel
theorem dX5_next_369 : decode cX5_next 369 = .ok (.bipush 61, 2) := by decide +kernel
theorem dX5_next_371 : decode cX5_next 371 = .ok (.if_icmp .ne 7, 3) := by decide +kernel
theorem dX5_next_374 : decode cX5_next 374 = .ok (.iconst 1, 1) := by decide +kernel
theorem dX5_next_375 : decode cX5_next 375 = .ok (.goto 4, 3) := by decide +kernel
theorem dX5_next_378 : decode cX5_next 378 = .ok (.iconst 0, 1) := by decide +kernel
theorem dX5_next_379 : decode cX5_next 379 = .ok (.istore_n 2, 1) := by decide +kernel
theorem dX5_next_380 : decode cX5_next 380 = .ok (.aload_n 0, 1) := by decide +kernel
theorem dX5_next_381 : decode cX5_next 381 = .ok (.iload_n 2, 1) := by decide +kernel
theorem dX5_next_382 : decode cX5_next 382 = .ok (.ifCond .eq 7, 3) := by decide +kernel
theorem dX5_next_385 : decode cX5_next 385 = .ok (.iload_n 1, 1) := by decide +kernel
theorem dX5_next_386 : decode cX5_next 386 = .ok (.goto 4, 3) := by decide +kernel
theorem dX5_next_389 : decode cX5_next 389 = .ok (.iconst (-1), 1) := by decide +kernel
theorem dX5_next_390 : decode cX5_next 390 = .ok (.putfield 111, 3) := by decide +kernel
theorem dX5_next_393 : decode cX5_next 393 = .ok (.aload_n 0, 1) := by decide +kernel
theorem dX5_next_394 : decode cX5_next 394 = .ok (.dup, 1) := by decide +kernel
theorem dX5_next_395 : decode cX5_next 395 = .ok (.getfield 105, 3) := by decide +kernel
theorem dX5_next_398 : decode cX5_next 398 = .ok (.iconst 1, 1) := by decide +kernel
theorem dX5_next_399 : decode cX5_next 399 = .ok (.iadd, 1) := by decide +kernel
theorem dX5_next_400 : decode cX5_next 400 = .ok (.putfield 105, 3) := by decide +kernel
theorem dX5_next_403 : decode cX5_next 403 = .ok (.return_, 1) := by decide +kernel
theorem dX5_rank_0 : decode cX5_rank 0 = .ok (.iload_n 0, 1) := by decide +kernel
theorem dX5_rank_1 : decode cX5_rank 1 = .ok (.ifCond .ne 7, 3) := by decide +kernel
theorem dX5_rank_4 : decode cX5_rank 4 = .ok (.iconst 0, 1) := by decide +kernel
theorem dX5_rank_5 : decode cX5_rank 5 = .ok (.goto 66, 3) := by decide +kernel
theorem dX5_rank_8 : decode cX5_rank 8 = .ok (.iload_n 0, 1) := by decide +kernel
theorem dX5_rank_9 : decode cX5_rank 9 = .ok (.bipush 11, 2) := by decide +kernel
theorem dX5_rank_11 : decode cX5_rank 11 = .ok (.if_icmp .ne 7, 3) := by decide +kernel
theorem dX5_rank_14 : decode cX5_rank 14 = .ok (.iconst 1, 1) := by decide +kernel
theorem dX5_rank_15 : decode cX5_rank 15 = .ok (.goto 56, 3) := by decide +kernel
theorem dX5_rank_18 : decode cX5_rank 18 = .ok (.iload_n 0, 1) := by decide +kernel
theorem dX5_rank_19 : decode cX5_rank 19 = .ok (.bipush 12, 2) := by decide +kernel
theorem dX5_rank_21 : decode cX5_rank 21 = .ok (.if_icmp .ne 7, 3) := by decide +kernel
theorem dX5_rank_24 : decode cX5_rank 24 = .ok (.iconst 2, 1) := by decide +kernel
theorem dX5_rank_25 : decode cX5_rank 25 = .ok (.goto 46, 3) := by decide +kernel
theorem dX5_rank_28 : decode cX5_rank 28 = .ok (.iload_n 0, 1) := by decide +kernel
theorem dX5_rank_29 : decode cX5_rank 29 = .ok (.bipush 13, 2) := by decide +kernel
theorem dX5_rank_31 : decode cX5_rank 31 = .ok (.if_icmp .ne 7, 3) := by decide +kernel
theorem dX5_rank_34 : decode cX5_rank 34 = .ok (.iconst 3, 1) := by decide +kernel
theorem dX5_rank_35 : decode cX5_rank 35 = .ok (.goto 36, 3) := by decide +kernel
theorem dX5_rank_38 : decode cX5_rank 38 = .ok (.iload_n 0, 1) := by decide +kernel
theorem dX5_rank_39 : decode cX5_rank 39 = .ok (.bipush 15, 2) := by decide +kernel
theorem dX5_rank_41 : decode cX5_rank 41 = .ok (.if_icmp .gt 7, 3) := by decide +kernel
theorem dX5_rank_44 : decode cX5_rank 44 = .ok (.iconst 4, 1) := by decide +kernel
theorem dX5_rank_45 : decode cX5_rank 45 = .ok (.goto 26, 3) := by decide +kernel
theorem dX5_rank_48 : decode cX5_rank 48 = .ok (.iload_n 0, 1) := by decide +kernel
theorem dX5_rank_49 : decode cX5_rank 49 = .ok (.bipush 17, 2) := by decide +kernel
theorem dX5_rank_51 : decode cX5_rank 51 = .ok (.if_icmp .gt 7, 3) := by decide +kernel
theorem dX5_rank_54 : decode cX5_rank 54 = .ok (.iconst 5, 1) := by decide +kernel
theorem dX5_rank_55 : decode cX5_rank 55 = .ok (.goto 16, 3) := by decide +kernel
theorem dX5_rank_58 : decode cX5_rank 58 = .ok (.iload_n 0, 1) := by decide +kernel
theorem dX5_rank_59 : decode cX5_rank 59 = .ok (.bipush 18, 2) := by decide +kernel
theorem dX5_rank_61 : decode cX5_rank 61 = .ok (.if_icmp .ne 8, 3) := by decide +kernel
theorem dX5_rank_64 : decode cX5_rank 64 = .ok (.bipush 6, 2) := by decide +kernel
theorem dX5_rank_66 : decode cX5_rank 66 = .ok (.goto 5, 3) := by decide +kernel
theorem dX5_rank_69 : decode cX5_rank 69 = .ok (.bipush 7, 2) := by decide +kernel
theorem dX5_rank_71 : decode cX5_rank 71 = .ok (.ireturn, 1) := by decide +kernel
theorem dX5_puts_0 : decode cX5_puts 0 = .ok (.aload_n 0, 1) := by decide +kernel
theorem dX5_puts_1 : decode cX5_puts 1 = .ok (.getfield 22, 3) := by decide +kernel
theorem dX5_puts_4 : decode cX5_puts 4 = .ok (.sipush 200, 3) := by decide +kernel
theorem dX5_puts_7 : decode cX5_puts 7 = .ok (.aload_n 0, 1) := by decide +kernel
theorem dX5_puts_8 : decode cX5_puts 8 = .ok (.getfield 96, 3) := by decide +kernel
theorem dX5_puts_11 : decode cX5_puts 11 = .ok (.imul, 1) := by decide +kernel
theorem dX5_puts_12 : decode cX5_puts 12 = .ok (.aload_n 0, 1) := by decide +kernel
theorem dX5_puts_13 : decode cX5_puts 13 = .ok (.getfield 121, 3) := by decide +kernel
theorem dX5_puts_16 : decode cX5_puts 16 = .ok (.iadd, 1) := by decide +kernel
theorem dX5_puts_17 : decode cX5_puts 17 = .ok (.iload_n 1, 1) := by decide +kernel
theorem dX5_puts_18 : decode cX5_puts 18 = .ok (.iastore, 1) := by decide +kernel
theorem dX5_puts_19 : decode cX5_puts 19 = .ok (.aload_n 0, 1) := by decide +kernel
theorem dX5_puts_20 : decode cX5_puts 20 = .ok (.dup, 1) := by decide +kernel
theorem dX5_puts_21 : decode cX5_puts 21 = .ok (.getfield 121, 3) := by decide +kernel
theorem dX5_puts_24 : decode cX5_puts 24 = .ok (.iconst 1, 1) := by decide +kernel
theorem dX5_puts_25 : decode cX5_puts 25 = .ok (.iadd, 1) := by decide +kernel
theorem dX5_puts_26 : decode cX5_puts 26 = .ok (.putfield 121, 3) := by decide +kernel
theorem dX5_puts_29 : decode cX5_puts 29 = .ok (.return_, 1) := by decide +kernel
theorem dX5_unwinds_0 : decode cX5_unwinds 0 = .ok (.aload_n 0, 1) := by decide +kernel
theorem dX5_unwinds_1 : decode cX5_unwinds 1 = .ok (.getfield 124, 3) := by decide +kernel
theorem dX5_unwinds_4 : decode cX5_unwinds 4 = .ok (.ifCond .le 75, 3) := by decide +kernel
theorem dX5_unwinds_7 : decode cX5_unwinds 7 = .ok (.aload_n 0, 1) := by decide +kernel
theorem dX5_unwinds_8 : decode cX5_unwinds 8 = .ok (.getfield 49, 3) := by decide +kernel
theorem dX5_unwinds_11 : decode cX5_unwinds 11 = .ok (.aload_n 0, 1) := by decide +kernel
theorem dX5_unwinds_12 : decode cX5_unwinds 12 = .ok (.getfield 124, 3) := by decide +kernel
theorem dX5_unwinds_15 : decode cX5_unwinds 15 = .ok (.iconst 1, 1) := by decide +kernel
theorem dX5_unwinds_16 : decode cX5_unwinds 16 = .ok (.isub, 1) := by decide +kernel
theorem dX5_unwinds_17 : decode cX5_unwinds 17 = .ok (.iaload, 1) := by decide +kernel
theorem dX5_unwinds_18 : decode cX5_unwinds 18 = .ok (.invokestatic 127, 3) := by decide +kernel
theorem dX5_unwinds_21 : decode cX5_unwinds 21 = .ok (.iload_n 1, 1) := by decide +kernel
theorem dX5_unwinds_22 : decode cX5_unwinds 22 = .ok (.if_icmp .lt 57, 3) := by decide +kernel
theorem dX5_unwinds_25 : decode cX5_unwinds 25 = .ok (.aload_n 0, 1) := by decide +kernel
theorem dX5_unwinds_26 : decode cX5_unwinds 26 = .ok (.dup, 1) := by decide +kernel
theorem dX5_unwinds_27 : decode cX5_unwinds 27 = .ok (.getfield 124, 3) := by decide +kernel
theorem dX5_unwinds_30 : decode cX5_unwinds 30 = .ok (.iconst 1, 1) := by decide +kernel
theorem dX5_unwinds_31 : decode cX5_unwinds 31 = .ok (.isub, 1) := by decide +kernel
theorem dX5_unwinds_32 : decode cX5_unwinds 32 = .ok (.putfield 124, 3) := by decide +kernel
theorem dX5_unwinds_35 : decode cX5_unwinds 35 = .ok (.aload_n 0, 1) := by decide +kernel
theorem dX5_unwinds_36 : decode cX5_unwinds 36 = .ok (.getfield 49, 3) := by decide +kernel
theorem dX5_unwinds_39 : decode cX5_unwinds 39 = .ok (.aload_n 0, 1) := by decide +kernel
theorem dX5_unwinds_40 : decode cX5_unwinds 40 = .ok (.getfield 124, 3) := by decide +kernel
theorem dX5_unwinds_43 : decode cX5_unwinds 43 = .ok (.iaload, 1) := by decide +kernel
theorem dX5_unwinds_44 : decode cX5_unwinds 44 = .ok (.istore_n 2, 1) := by decide +kernel
theorem dX5_unwinds_45 : decode cX5_unwinds 45 = .ok (.aload_n 0, 1) := by decide +kernel
theorem dX5_unwinds_46 : decode cX5_unwinds 46 = .ok (.dup, 1) := by decide +kernel
theorem dX5_unwinds_47 : decode cX5_unwinds 47 = .ok (.getfield 130, 3) := by decide +kernel
theorem dX5_unwinds_50 : decode cX5_unwinds 50 = .ok (.iload_n 2, 1) := by decide +kernel
theorem dX5_unwinds_51 : decode cX5_unwinds 51 = .ok (.bipush 13, 2) := by decide +kernel
theorem dX5_unwinds_53 : decode cX5_unwinds 53 = .ok (.if_icmp .eq 9, 3) := by decide +kernel
theorem dX5_unwinds_56 : decode cX5_unwinds 56 = .ok (.iload_n 2, 1) := by decide +kernel
theorem dX5_unwinds_57 : decode cX5_unwinds 57 = .ok (.bipush 19, 2) := by decide +kernel
theorem dX5_unwinds_59 : decode cX5_unwinds 59 = .ok (.if_icmp .ne 7, 3) := by decide +kernel
theorem dX5_unwinds_62 : decode cX5_unwinds 62 = .ok (.iconst 1, 1) := by decide +kernel
theorem dX5_unwinds_63 : decode cX5_unwinds 63 = .ok (.goto 4, 3) := by decide +kernel
theorem dX5_unwinds_66 : decode cX5_unwinds 66 = .ok (.iconst 0, 1) := by decide +kernel
theorem dX5_unwinds_67 : decode cX5_unwinds 67 = .ok (.isub, 1) := by decide +kernel
theorem dX5_unwinds_68 : decode cX5_unwinds 68 = .ok (.putfield 130, 3) := by decide +kernel
theorem dX5_unwinds_71 : decode cX5_unwinds 71 = .ok (.aload_n 0, 1) := by decide +kernel
theorem dX5_unwinds_72 : decode cX5_unwinds 72 = .ok (.iload_n 2, 1) := by decide +kernel
theorem dX5_unwinds_73 : decode cX5_unwinds 73 = .ok (.invokevirtual 133, 3) := by decide +kernel
theorem dX5_unwinds_76 : decode cX5_unwinds 76 = .ok (.goto (-76), 3) := by decide +kernel
theorem dX5_unwinds_79 : decode cX5_unwinds 79 = .ok (.return_, 1) := by decide +kernel
theorem dX5_holds_0 : decode cX5_holds 0 = .ok (.aload_n 0, 1) := by decide +kernel
theorem dX5_holds_1 : decode cX5_holds 1 = .ok (.getfield 49, 3) := by decide +kernel
theorem dX5_holds_4 : decode cX5_holds 4 = .ok (.aload_n 0, 1) := by decide +kernel
theorem dX5_holds_5 : decode cX5_holds 5 = .ok (.getfield 124, 3) := by decide +kernel
theorem dX5_holds_8 : decode cX5_holds 8 = .ok (.iload_n 1, 1) := by decide +kernel
theorem dX5_holds_9 : decode cX5_holds 9 = .ok (.iastore, 1) := by decide +kernel
theorem dX5_holds_10 : decode cX5_holds 10 = .ok (.aload_n 0, 1) := by decide +kernel
theorem dX5_holds_11 : decode cX5_holds 11 = .ok (.dup, 1) := by decide +kernel
theorem dX5_holds_12 : decode cX5_holds 12 = .ok (.getfield 124, 3) := by decide +kernel
theorem dX5_holds_15 : decode cX5_holds 15 = .ok (.iconst 1, 1) := by decide +kernel
theorem dX5_holds_16 : decode cX5_holds 16 = .ok (.iadd, 1) := by decide +kernel
theorem dX5_holds_17 : decode cX5_holds 17 = .ok (.putfield 124, 3) := by decide +kernel
theorem dX5_holds_20 : decode cX5_holds 20 = .ok (.return_, 1) := by decide +kernel
theorem dX5_opensOne_0 : decode cX5_opensOne 0 = .ok (.aload_n 0, 1) := by decide +kernel
theorem dX5_opensOne_1 : decode cX5_opensOne 1 = .ok (.getfield 130, 3) := by decide +kernel
theorem dX5_opensOne_4 : decode cX5_opensOne 4 = .ok (.iconst 5, 1) := by decide +kernel
theorem dX5_opensOne_5 : decode cX5_opensOne 5 = .ok (.if_icmp .ne 5, 3) := by decide +kernel
theorem dX5_opensOne_8 : decode cX5_opensOne 8 = .ok (.iconst 0, 1) := by decide +kernel
theorem dX5_opensOne_9 : decode cX5_opensOne 9 = .ok (.ireturn, 1) := by decide +kernel
theorem dX5_opensOne_10 : decode cX5_opensOne 10 = .ok (.aload_n 0, 1) := by decide +kernel
theorem dX5_opensOne_11 : decode cX5_opensOne 11 = .ok (.dup, 1) := by decide +kernel
theorem dX5_opensOne_12 : decode cX5_opensOne 12 = .ok (.getfield 130, 3) := by decide +kernel
theorem dX5_opensOne_15 : decode cX5_opensOne 15 = .ok (.iconst 1, 1) := by decide +kernel
theorem dX5_opensOne_16 : decode cX5_opensOne 16 = .ok (.iadd, 1) := by decide +kernel
theorem dX5_opensOne_17 : decode cX5_opensOne 17 = .ok (.putfield 130, 3) := by decide +kernel
theorem dX5_opensOne_20 : decode cX5_opensOne 20 = .ok (.aload_n 0, 1) := by decide +kernel
theorem dX5_opensOne_21 : decode cX5_opensOne 21 = .ok (.iload_n 1, 1) := by decide +kernel
theorem dX5_opensOne_22 : decode cX5_opensOne 22 = .ok (.invokevirtual 137, 3) := by decide +kernel
theorem dX5_opensOne_25 : decode cX5_opensOne 25 = .ok (.iconst 1, 1) := by decide +kernel
theorem dX5_opensOne_26 : decode cX5_opensOne 26 = .ok (.ireturn, 1) := by decide +kernel
theorem dX5_between_0 : decode cX5_between 0 = .ok (.aload_n 0, 1) := by decide +kernel
theorem dX5_between_1 : decode cX5_between 1 = .ok (.iload_n 1, 1) := by decide +kernel
theorem dX5_between_2 : decode cX5_between 2 = .ok (.invokestatic 127, 3) := by decide +kernel
theorem dX5_between_5 : decode cX5_between 5 = .ok (.iconst 4, 1) := by decide +kernel
theorem dX5_between_6 : decode cX5_between 6 = .ok (.if_icmp .ne 7, 3) := by decide +kernel
theorem dX5_between_9 : decode cX5_between 9 = .ok (.iconst 5, 1) := by decide +kernel
theorem dX5_between_10 : decode cX5_between 10 = .ok (.goto 7, 3) := by decide +kernel
theorem dX5_between_13 : decode cX5_between 13 = .ok (.iload_n 1, 1) := by decide +kernel
theorem dX5_between_14 : decode cX5_between 14 = .ok (.invokestatic 127, 3) := by decide +kernel
theorem dX5_between_17 : decode cX5_between 17 = .ok (.invokevirtual 140, 3) := by decide +kernel
theorem dX5_between_20 : decode cX5_between 20 = .ok (.iload_n 1, 1) := by decide +kernel
theorem dX5_between_21 : decode cX5_between 21 = .ok (.invokestatic 127, 3) := by decide +kernel
theorem dX5_between_24 : decode cX5_between 24 = .ok (.iconst 4, 1) := by decide +kernel
theorem dX5_between_25 : decode cX5_between 25 = .ok (.if_icmp .ne 30, 3) := by decide +kernel
theorem dX5_between_28 : decode cX5_between 28 = .ok (.aload_n 0, 1) := by decide +kernel
theorem dX5_between_29 : decode cX5_between 29 = .ok (.getfield 124, 3) := by decide +kernel
theorem dX5_between_32 : decode cX5_between 32 = .ok (.ifCond .le 23, 3) := by decide +kernel
theorem dX5_between_35 : decode cX5_between 35 = .ok (.aload_n 0, 1) := by decide +kernel
theorem dX5_between_36 : decode cX5_between 36 = .ok (.getfield 49, 3) := by decide +kernel
theorem dX5_between_39 : decode cX5_between 39 = .ok (.aload_n 0, 1) := by decide +kernel
theorem dX5_between_40 : decode cX5_between 40 = .ok (.getfield 124, 3) := by decide +kernel
theorem dX5_between_43 : decode cX5_between 43 = .ok (.iconst 1, 1) := by decide +kernel
theorem dX5_between_44 : decode cX5_between 44 = .ok (.isub, 1) := by decide +kernel
theorem dX5_between_45 : decode cX5_between 45 = .ok (.iaload, 1) := by decide +kernel
theorem dX5_between_46 : decode cX5_between 46 = .ok (.invokestatic 127, 3) := by decide +kernel
theorem dX5_between_49 : decode cX5_between 49 = .ok (.iconst 4, 1) := by decide +kernel
theorem dX5_between_50 : decode cX5_between 50 = .ok (.if_icmp .ne 5, 3) := by decide +kernel
theorem dX5_between_53 : decode cX5_between 53 = .ok (.iconst 0, 1) := by decide +kernel
theorem dX5_between_54 : decode cX5_between 54 = .ok (.ireturn, 1) := by decide +kernel
theorem dX5_between_55 : decode cX5_between 55 = .ok (.aload_n 0, 1) := by decide +kernel
theorem dX5_between_56 : decode cX5_between 56 = .ok (.iload_n 1, 1) := by decide +kernel
theorem dX5_between_57 : decode cX5_between 57 = .ok (.invokevirtual 137, 3) := by decide +kernel
theorem dX5_between_60 : decode cX5_between 60 = .ok (.iconst 1, 1) := by decide +kernel
theorem dX5_between_61 : decode cX5_between 61 = .ok (.ireturn, 1) := by decide +kernel
theorem dX5_signOf_0 : decode cX5_signOf 0 = .ok (.aload_n 0, 1) := by decide +kernel
theorem dX5_signOf_1 : decode cX5_signOf 1 = .ok (.getfield 111, 3) := by decide +kernel
theorem dX5_signOf_4 : decode cX5_signOf 4 = .ok (.iconst 4, 1) := by decide +kernel
theorem dX5_signOf_5 : decode cX5_signOf 5 = .ok (.if_icmp .ne 8, 3) := by decide +kernel
theorem dX5_signOf_8 : decode cX5_signOf 8 = .ok (.bipush 11, 2) := by decide +kernel
theorem dX5_signOf_10 : decode cX5_signOf 10 = .ok (.goto 87, 3) := by decide +kernel
theorem dX5_signOf_13 : decode cX5_signOf 13 = .ok (.aload_n 0, 1) := by decide +kernel
theorem dX5_signOf_14 : decode cX5_signOf 14 = .ok (.getfield 111, 3) := by decide +kernel
theorem dX5_signOf_17 : decode cX5_signOf 17 = .ok (.iconst 5, 1) := by decide +kernel
theorem dX5_signOf_18 : decode cX5_signOf 18 = .ok (.if_icmp .ne 8, 3) := by decide +kernel
theorem dX5_signOf_21 : decode cX5_signOf 21 = .ok (.bipush 12, 2) := by decide +kernel
theorem dX5_signOf_23 : decode cX5_signOf 23 = .ok (.goto 74, 3) := by decide +kernel
theorem dX5_signOf_26 : decode cX5_signOf 26 = .ok (.aload_n 0, 1) := by decide +kernel
theorem dX5_signOf_27 : decode cX5_signOf 27 = .ok (.getfield 111, 3) := by decide +kernel
theorem dX5_signOf_30 : decode cX5_signOf 30 = .ok (.bipush 60, 2) := by decide +kernel
theorem dX5_signOf_32 : decode cX5_signOf 32 = .ok (.if_icmp .ne 8, 3) := by decide +kernel
theorem dX5_signOf_35 : decode cX5_signOf 35 = .ok (.bipush 14, 2) := by decide +kernel
theorem dX5_signOf_37 : decode cX5_signOf 37 = .ok (.goto 60, 3) := by decide +kernel
theorem dX5_signOf_40 : decode cX5_signOf 40 = .ok (.aload_n 0, 1) := by decide +kernel
theorem dX5_signOf_41 : decode cX5_signOf 41 = .ok (.getfield 111, 3) := by decide +kernel
theorem dX5_signOf_44 : decode cX5_signOf 44 = .ok (.bipush 61, 2) := by decide +kernel
theorem dX5_signOf_46 : decode cX5_signOf 46 = .ok (.if_icmp .ne 8, 3) := by decide +kernel
theorem dX5_signOf_49 : decode cX5_signOf 49 = .ok (.bipush 15, 2) := by decide +kernel
theorem dX5_signOf_51 : decode cX5_signOf 51 = .ok (.goto 46, 3) := by decide +kernel
theorem dX5_signOf_54 : decode cX5_signOf 54 = .ok (.aload_n 0, 1) := by decide +kernel
theorem dX5_signOf_55 : decode cX5_signOf 55 = .ok (.getfield 111, 3) := by decide +kernel
theorem dX5_signOf_58 : decode cX5_signOf 58 = .ok (.bipush 43, 2) := by decide +kernel
theorem dX5_signOf_60 : decode cX5_signOf 60 = .ok (.if_icmp .ne 8, 3) := by decide +kernel
theorem dX5_signOf_63 : decode cX5_signOf 63 = .ok (.bipush 16, 2) := by decide +kernel
theorem dX5_signOf_65 : decode cX5_signOf 65 = .ok (.goto 32, 3) := by decide +kernel
theorem dX5_signOf_68 : decode cX5_signOf 68 = .ok (.aload_n 0, 1) := by decide +kernel
theorem dX5_signOf_69 : decode cX5_signOf 69 = .ok (.getfield 111, 3) := by decide +kernel
theorem dX5_signOf_72 : decode cX5_signOf 72 = .ok (.bipush 45, 2) := by decide +kernel
theorem dX5_signOf_74 : decode cX5_signOf 74 = .ok (.if_icmp .ne 8, 3) := by decide +kernel
theorem dX5_signOf_77 : decode cX5_signOf 77 = .ok (.bipush 17, 2) := by decide +kernel
theorem dX5_signOf_79 : decode cX5_signOf 79 = .ok (.goto 18, 3) := by decide +kernel
theorem dX5_signOf_82 : decode cX5_signOf 82 = .ok (.aload_n 0, 1) := by decide +kernel
theorem dX5_signOf_83 : decode cX5_signOf 83 = .ok (.getfield 111, 3) := by decide +kernel
theorem dX5_signOf_86 : decode cX5_signOf 86 = .ok (.bipush 42, 2) := by decide +kernel
theorem dX5_signOf_88 : decode cX5_signOf 88 = .ok (.if_icmp .ne 8, 3) := by decide +kernel
theorem dX5_signOf_91 : decode cX5_signOf 91 = .ok (.bipush 18, 2) := by decide +kernel
theorem dX5_signOf_93 : decode cX5_signOf 93 = .ok (.goto 4, 3) := by decide +kernel
theorem dX5_signOf_96 : decode cX5_signOf 96 = .ok (.iconst (-1), 1) := by decide +kernel
theorem dX5_signOf_97 : decode cX5_signOf 97 = .ok (.ireturn, 1) := by decide +kernel
theorem dX5_eRead_0 : decode cX5_eRead 0 = .ok (.aload_n 0, 1) := by decide +kernel
theorem dX5_eRead_1 : decode cX5_eRead 1 = .ok (.iconst 0, 1) := by decide +kernel
theorem dX5_eRead_2 : decode cX5_eRead 2 = .ok (.putfield 124, 3) := by decide +kernel
theorem dX5_eRead_5 : decode cX5_eRead 5 = .ok (.aload_n 0, 1) := by decide +kernel
theorem dX5_eRead_6 : decode cX5_eRead 6 = .ok (.iconst 0, 1) := by decide +kernel
theorem dX5_eRead_7 : decode cX5_eRead 7 = .ok (.putfield 130, 3) := by decide +kernel
theorem dX5_eRead_10 : decode cX5_eRead 10 = .ok (.iconst 1, 1) := by decide +kernel
theorem dX5_eRead_11 : decode cX5_eRead 11 = .ok (.istore_n 1, 1) := by decide +kernel
theorem dX5_eRead_12 : decode cX5_eRead 12 = .ok (.iconst 1, 1) := by decide +kernel
theorem dX5_eRead_13 : decode cX5_eRead 13 = .ok (.istore_n 2, 1) := by decide +kernel
theorem dX5_eRead_14 : decode cX5_eRead 14 = .ok (.aload_n 0, 1) := by decide +kernel
theorem dX5_eRead_15 : decode cX5_eRead 15 = .ok (.invokevirtual 143, 3) := by decide +kernel
theorem dX5_eRead_18 : decode cX5_eRead 18 = .ok (.iload_n 1, 1) := by decide +kernel
theorem dX5_eRead_19 : decode cX5_eRead 19 = .ok (.ifCond .eq 131, 3) := by decide +kernel
theorem dX5_eRead_22 : decode cX5_eRead 22 = .ok (.aload_n 0, 1) := by decide +kernel
theorem dX5_eRead_23 : decode cX5_eRead 23 = .ok (.getfield 111, 3) := by decide +kernel
theorem dX5_eRead_26 : decode cX5_eRead 26 = .ok (.iconst 1, 1) := by decide +kernel
theorem dX5_eRead_27 : decode cX5_eRead 27 = .ok (.if_icmp .eq 11, 3) := by decide +kernel
theorem dX5_eRead_30 : decode cX5_eRead 30 = .ok (.aload_n 0, 1) := by decide +kernel
theorem dX5_eRead_31 : decode cX5_eRead 31 = .ok (.getfield 111, 3) := by decide +kernel
theorem dX5_eRead_34 : decode cX5_eRead 34 = .ok (.iconst 2, 1) := by decide +kernel
theorem dX5_eRead_35 : decode cX5_eRead 35 = .ok (.if_icmp .ne 40, 3) := by decide +kernel
theorem dX5_eRead_38 : decode cX5_eRead 38 = .ok (.aload_n 0, 1) := by decide +kernel
theorem dX5_eRead_39 : decode cX5_eRead 39 = .ok (.aload_n 0, 1) := by decide +kernel
theorem dX5_eRead_40 : decode cX5_eRead 40 = .ok (.getfield 111, 3) := by decide +kernel
theorem dX5_eRead_43 : decode cX5_eRead 43 = .ok (.iconst 1, 1) := by decide +kernel
theorem dX5_eRead_44 : decode cX5_eRead 44 = .ok (.if_icmp .ne 13, 3) := by decide +kernel
theorem dX5_eRead_47 : decode cX5_eRead 47 = .ok (.ldc 146, 2) := by decide +kernel
theorem dX5_eRead_49 : decode cX5_eRead 49 = .ok (.aload_n 0, 1) := by decide +kernel
theorem dX5_eRead_50 : decode cX5_eRead 50 = .ok (.getfield 114, 3) := by decide +kernel
theorem dX5_eRead_53 : decode cX5_eRead 53 = .ok (.iadd, 1) := by decide +kernel
theorem dX5_eRead_54 : decode cX5_eRead 54 = .ok (.goto 7, 3) := by decide +kernel
theorem dX5_eRead_57 : decode cX5_eRead 57 = .ok (.aload_n 0, 1) := by decide +kernel
theorem dX5_eRead_58 : decode cX5_eRead 58 = .ok (.getfield 114, 3) := by decide +kernel
theorem dX5_eRead_61 : decode cX5_eRead 61 = .ok (.invokevirtual 133, 3) := by decide +kernel
theorem dX5_eRead_64 : decode cX5_eRead 64 = .ok (.aload_n 0, 1) := by decide +kernel
theorem dX5_eRead_65 : decode cX5_eRead 65 = .ok (.bipush 7, 2) := by decide +kernel
theorem dX5_eRead_67 : decode cX5_eRead 67 = .ok (.invokevirtual 140, 3) := by decide +kernel
theorem dX5_eRead_70 : decode cX5_eRead 70 = .ok (.iconst 0, 1) := by decide +kernel
theorem dX5_eRead_71 : decode cX5_eRead 71 = .ok (.istore_n 1, 1) := by decide +kernel
theorem dX5_eRead_72 : decode cX5_eRead 72 = .ok (.goto (-58), 3) := by decide +kernel
theorem dX5_eRead_75 : decode cX5_eRead 75 = .ok (.aload_n 0, 1) := by decide +kernel
theorem dX5_eRead_76 : decode cX5_eRead 76 = .ok (.getfield 111, 3) := by decide +kernel
theorem dX5_eRead_79 : decode cX5_eRead 79 = .ok (.bipush 6, 2) := by decide +kernel
theorem dX5_eRead_81 : decode cX5_eRead 81 = .ok (.if_icmp .ne 18, 3) := by decide +kernel
theorem dX5_eRead_84 : decode cX5_eRead 84 = .ok (.iload_n 2, 1) := by decide +kernel
theorem dX5_eRead_85 : decode cX5_eRead 85 = .ok (.ifCond .eq 14, 3) := by decide +kernel
theorem dX5_eRead_88 : decode cX5_eRead 88 = .ok (.aload_n 0, 1) := by decide +kernel
theorem dX5_eRead_89 : decode cX5_eRead 89 = .ok (.bipush 13, 2) := by decide +kernel
theorem dX5_eRead_91 : decode cX5_eRead 91 = .ok (.invokevirtual 147, 3) := by decide +kernel
theorem dX5_eRead_94 : decode cX5_eRead 94 = .ok (.ifCond .ne (-80), 3) := by decide +kernel
theorem dX5_eRead_97 : decode cX5_eRead 97 = .ok (.iconst 0, 1) := by decide +kernel
theorem dX5_eRead_98 : decode cX5_eRead 98 = .ok (.ireturn, 1) := by decide +kernel
theorem dX5_eRead_99 : decode cX5_eRead 99 = .ok (.aload_n 0, 1) := by decide +kernel
theorem dX5_eRead_100 : decode cX5_eRead 100 = .ok (.getfield 111, 3) := by decide +kernel
theorem dX5_eRead_103 : decode cX5_eRead 103 = .ok (.bipush 45, 2) := by decide +kernel
theorem dX5_eRead_105 : decode cX5_eRead 105 = .ok (.if_icmp .ne 19, 3) := by decide +kernel
theorem dX5_eRead_108 : decode cX5_eRead 108 = .ok (.aload_n 0, 1) := by decide +kernel
theorem dX5_eRead_109 : decode cX5_eRead 109 = .ok (.bipush 19, 2) := by decide +kernel
theorem dX5_eRead_111 : decode cX5_eRead 111 = .ok (.invokevirtual 147, 3) := by decide +kernel
theorem dX5_eRead_114 : decode cX5_eRead 114 = .ok (.ifCond .ne 5, 3) := by decide +kernel
theorem dX5_eRead_117 : decode cX5_eRead 117 = .ok (.iconst 0, 1) := by decide +kernel
theorem dX5_eRead_118 : decode cX5_eRead 118 = .ok (.ireturn, 1) := by decide +kernel
theorem dX5_eRead_119 : decode cX5_eRead 119 = .ok (.iconst 0, 1) := by decide +kernel
theorem dX5_eRead_120 : decode cX5_eRead 120 = .ok (.istore_n 2, 1) := by decide +kernel
theorem dX5_eRead_121 : decode cX5_eRead 121 = .ok (.goto (-107), 3) := by decide +kernel
theorem dX5_eRead_124 : decode cX5_eRead 124 = .ok (.aload_n 0, 1) := by decide +kernel
theorem dX5_eRead_125 : decode cX5_eRead 125 = .ok (.getfield 111, 3) := by decide +kernel
theorem dX5_eRead_128 : decode cX5_eRead 128 = .ok (.bipush 40, 2) := by decide +kernel
theorem dX5_eRead_130 : decode cX5_eRead 130 = .ok (.if_icmp .ne 18, 3) := by decide +kernel
theorem dX5_eRead_133 : decode cX5_eRead 133 = .ok (.aload_n 0, 1) := by decide +kernel
theorem dX5_eRead_134 : decode cX5_eRead 134 = .ok (.iconst 0, 1) := by decide +kernel
theorem dX5_eRead_135 : decode cX5_eRead 135 = .ok (.invokevirtual 147, 3) := by decide +kernel
theorem dX5_eRead_138 : decode cX5_eRead 138 = .ok (.ifCond .ne 5, 3) := by decide +kernel
theorem dX5_eRead_141 : decode cX5_eRead 141 = .ok (.iconst 0, 1) := by decide +kernel
theorem dX5_eRead_142 : decode cX5_eRead 142 = .ok (.ireturn, 1) := by decide +kernel
theorem dX5_eRead_143 : decode cX5_eRead 143 = .ok (.iconst 1, 1) := by decide +kernel
theorem dX5_eRead_144 : decode cX5_eRead 144 = .ok (.istore_n 2, 1) := by decide +kernel
theorem dX5_eRead_145 : decode cX5_eRead 145 = .ok (.goto (-131), 3) := by decide +kernel
theorem dX5_eRead_148 : decode cX5_eRead 148 = .ok (.iconst 0, 1) := by decide +kernel
theorem dX5_eRead_149 : decode cX5_eRead 149 = .ok (.ireturn, 1) := by decide +kernel
theorem dX5_eRead_150 : decode cX5_eRead 150 = .ok (.aload_n 0, 1) := by decide +kernel
theorem dX5_eRead_151 : decode cX5_eRead 151 = .ok (.getfield 111, 3) := by decide +kernel
theorem dX5_eRead_154 : decode cX5_eRead 154 = .ok (.bipush 59, 2) := by decide +kernel
theorem dX5_eRead_156 : decode cX5_eRead 156 = .ok (.if_icmp .ne 21, 3) := by decide +kernel
theorem dX5_eRead_159 : decode cX5_eRead 159 = .ok (.aload_n 0, 1) := by decide +kernel
theorem dX5_eRead_160 : decode cX5_eRead 160 = .ok (.iconst 1, 1) := by decide +kernel
theorem dX5_eRead_161 : decode cX5_eRead 161 = .ok (.invokevirtual 140, 3) := by decide +kernel
theorem dX5_eRead_164 : decode cX5_eRead 164 = .ok (.aload_n 0, 1) := by decide +kernel
theorem dX5_eRead_165 : decode cX5_eRead 165 = .ok (.getfield 124, 3) := by decide +kernel
theorem dX5_eRead_168 : decode cX5_eRead 168 = .ok (.ifCond .ne 7, 3) := by decide +kernel
theorem dX5_eRead_171 : decode cX5_eRead 171 = .ok (.iconst 1, 1) := by decide +kernel
theorem dX5_eRead_172 : decode cX5_eRead 172 = .ok (.goto 4, 3) := by decide +kernel
theorem dX5_eRead_175 : decode cX5_eRead 175 = .ok (.iconst 0, 1) := by decide +kernel
theorem dX5_eRead_176 : decode cX5_eRead 176 = .ok (.ireturn, 1) := by decide +kernel
theorem dX5_eRead_177 : decode cX5_eRead 177 = .ok (.aload_n 0, 1) := by decide +kernel
theorem dX5_eRead_178 : decode cX5_eRead 178 = .ok (.getfield 111, 3) := by decide +kernel
theorem dX5_eRead_181 : decode cX5_eRead 181 = .ok (.bipush 41, 2) := by decide +kernel
theorem dX5_eRead_183 : decode cX5_eRead 183 = .ok (.if_icmp .ne 46, 3) := by decide +kernel
theorem dX5_eRead_186 : decode cX5_eRead 186 = .ok (.aload_n 0, 1) := by decide +kernel
theorem dX5_eRead_187 : decode cX5_eRead 187 = .ok (.iconst 1, 1) := by decide +kernel
theorem dX5_eRead_188 : decode cX5_eRead 188 = .ok (.invokevirtual 140, 3) := by decide +kernel
theorem dX5_eRead_191 : decode cX5_eRead 191 = .ok (.aload_n 0, 1) := by decide +kernel
theorem dX5_eRead_192 : decode cX5_eRead 192 = .ok (.getfield 124, 3) := by decide +kernel
theorem dX5_eRead_195 : decode cX5_eRead 195 = .ok (.ifCond .ne 5, 3) := by decide +kernel
theorem dX5_eRead_198 : decode cX5_eRead 198 = .ok (.iconst 0, 1) := by decide +kernel
theorem dX5_eRead_199 : decode cX5_eRead 199 = .ok (.ireturn, 1) := by decide +kernel
theorem dX5_eRead_200 : decode cX5_eRead 200 = .ok (.aload_n 0, 1) := by decide +kernel
theorem dX5_eRead_201 : decode cX5_eRead 201 = .ok (.dup, 1) := by decide +kernel
theorem dX5_eRead_202 : decode cX5_eRead 202 = .ok (.getfield 124, 3) := by decide +kernel
theorem dX5_eRead_205 : decode cX5_eRead 205 = .ok (.iconst 1, 1) := by decide +kernel
theorem dX5_eRead_206 : decode cX5_eRead 206 = .ok (.isub, 1) := by decide +kernel
theorem dX5_eRead_207 : decode cX5_eRead 207 = .ok (.putfield 124, 3) := by decide +kernel
theorem dX5_eRead_210 : decode cX5_eRead 210 = .ok (.aload_n 0, 1) := by decide +kernel
theorem dX5_eRead_211 : decode cX5_eRead 211 = .ok (.dup, 1) := by decide +kernel
theorem dX5_eRead_212 : decode cX5_eRead 212 = .ok (.getfield 130, 3) := by decide +kernel
theorem dX5_eRead_215 : decode cX5_eRead 215 = .ok (.iconst 1, 1) := by decide +kernel
theorem dX5_eRead_216 : decode cX5_eRead 216 = .ok (.isub, 1) := by decide +kernel
theorem dX5_eRead_217 : decode cX5_eRead 217 = .ok (.putfield 130, 3) := by decide +kernel
theorem dX5_eRead_220 : decode cX5_eRead 220 = .ok (.aload_n 0, 1) := by decide +kernel
theorem dX5_eRead_221 : decode cX5_eRead 221 = .ok (.bipush 7, 2) := by decide +kernel
theorem dX5_eRead_223 : decode cX5_eRead 223 = .ok (.invokevirtual 140, 3) := by decide +kernel
theorem dX5_eRead_226 : decode cX5_eRead 226 = .ok (.goto (-212), 3) := by decide +kernel
theorem dX5_eRead_229 : decode cX5_eRead 229 = .ok (.aload_n 0, 1) := by decide +kernel
theorem dX5_eRead_230 : decode cX5_eRead 230 = .ok (.invokevirtual 150, 3) := by decide +kernel
theorem dX5_eRead_233 : decode cX5_eRead 233 = .ok (.istore_n 3, 1) := by decide +kernel
theorem dX5_eRead_234 : decode cX5_eRead 234 = .ok (.iload_n 3, 1) := by decide +kernel
theorem dX5_eRead_235 : decode cX5_eRead 235 = .ok (.iconst (-1), 1) := by decide +kernel
theorem dX5_eRead_236 : decode cX5_eRead 236 = .ok (.if_icmp .eq 11, 3) := by decide +kernel
theorem dX5_eRead_239 : decode cX5_eRead 239 = .ok (.aload_n 0, 1) := by decide +kernel
theorem dX5_eRead_240 : decode cX5_eRead 240 = .ok (.iload_n 3, 1) := by decide +kernel
theorem dX5_eRead_241 : decode cX5_eRead 241 = .ok (.invokevirtual 153, 3) := by decide +kernel
theorem dX5_eRead_244 : decode cX5_eRead 244 = .ok (.ifCond .ne 5, 3) := by decide +kernel
theorem dX5_eRead_247 : decode cX5_eRead 247 = .ok (.iconst 0, 1) := by decide +kernel
theorem dX5_eRead_248 : decode cX5_eRead 248 = .ok (.ireturn, 1) := by decide +kernel
theorem dX5_eRead_249 : decode cX5_eRead 249 = .ok (.iconst 1, 1) := by decide +kernel
theorem dX5_eRead_250 : decode cX5_eRead 250 = .ok (.istore_n 1, 1) := by decide +kernel
theorem dX5_eRead_251 : decode cX5_eRead 251 = .ok (.iload_n 3, 1) := by decide +kernel
theorem dX5_eRead_252 : decode cX5_eRead 252 = .ok (.bipush 12, 2) := by decide +kernel
theorem dX5_eRead_254 : decode cX5_eRead 254 = .ok (.if_icmp .gt 7, 3) := by decide +kernel
theorem dX5_eRead_257 : decode cX5_eRead 257 = .ok (.iconst 1, 1) := by decide +kernel
theorem dX5_eRead_258 : decode cX5_eRead 258 = .ok (.goto 4, 3) := by decide +kernel
theorem dX5_eRead_261 : decode cX5_eRead 261 = .ok (.iconst 0, 1) := by decide +kernel
theorem dX5_eRead_262 : decode cX5_eRead 262 = .ok (.istore_n 2, 1) := by decide +kernel
theorem dX5_eRead_263 : decode cX5_eRead 263 = .ok (.goto (-249), 3) := by decide +kernel
theorem dX5_text_0 : decode cX5_text 0 = .ok (.aload_n 0, 1) := by decide +kernel
theorem dX5_text_1 : decode cX5_text 1 = .ok (.getfield 96, 3) := by decide +kernel
theorem dX5_text_4 : decode cX5_text 4 = .ok (.bipush 6, 2) := by decide +kernel
theorem dX5_text_6 : decode cX5_text 6 = .ok (.if_icmp .ne 6, 3) := by decide +kernel
theorem dX5_text_9 : decode cX5_text 9 = .ok (.bipush (-4), 2) := by decide +kernel
theorem dX5_text_11 : decode cX5_text 11 = .ok (.ireturn, 1) := by decide +kernel
theorem dX5_text_12 : decode cX5_text 12 = .ok (.aload_n 0, 1) := by decide +kernel
theorem dX5_text_13 : decode cX5_text 13 = .ok (.iconst 0, 1) := by decide +kernel
theorem dX5_text_14 : decode cX5_text 14 = .ok (.putfield 105, 3) := by decide +kernel
theorem dX5_text_17 : decode cX5_text 17 = .ok (.aload_n 0, 1) := by decide +kernel
theorem dX5_text_18 : decode cX5_text 18 = .ok (.iconst 0, 1) := by decide +kernel
theorem dX5_text_19 : decode cX5_text 19 = .ok (.putfield 121, 3) := by decide +kernel
theorem dX5_text_22 : decode cX5_text 22 = .ok (.iconst 1, 1) := by decide +kernel
theorem dX5_text_23 : decode cX5_text 23 = .ok (.istore_n 1, 1) := by decide +kernel
theorem dX5_text_24 : decode cX5_text 24 = .ok (.iconst 0, 1) := by decide +kernel
theorem dX5_text_25 : decode cX5_text 25 = .ok (.istore_n 2, 1) := by decide +kernel
theorem dX5_text_26 : decode cX5_text 26 = .ok (.iload_n 2, 1) := by decide +kernel
theorem dX5_text_27 : decode cX5_text 27 = .ok (.iconst 3, 1) := by decide +kernel
theorem dX5_text_28 : decode cX5_text 28 = .ok (.if_icmp .ge 73, 3) := by decide +kernel
theorem dX5_text_31 : decode cX5_text 31 = .ok (.iload_n 1, 1) := by decide +kernel
theorem dX5_text_32 : decode cX5_text 32 = .ok (.ifCond .eq 69, 3) := by decide +kernel
theorem dX5_text_35 : decode cX5_text 35 = .ok (.aload_n 0, 1) := by decide +kernel
theorem dX5_text_36 : decode cX5_text 36 = .ok (.invokevirtual 143, 3) := by decide +kernel
theorem dX5_text_39 : decode cX5_text 39 = .ok (.aload_n 0, 1) := by decide +kernel
theorem dX5_text_40 : decode cX5_text 40 = .ok (.getfield 111, 3) := by decide +kernel
theorem dX5_text_43 : decode cX5_text 43 = .ok (.iconst 3, 1) := by decide +kernel
theorem dX5_text_44 : decode cX5_text 44 = .ok (.if_icmp .ne 15, 3) := by decide +kernel
theorem dX5_text_47 : decode cX5_text 47 = .ok (.aload_n 0, 1) := by decide +kernel
theorem dX5_text_48 : decode cX5_text 48 = .ok (.getfield 114, 3) := by decide +kernel
theorem dX5_text_51 : decode cX5_text 51 = .ok (.iload_n 2, 1) := by decide +kernel
theorem dX5_text_52 : decode cX5_text 52 = .ok (.if_icmp .ne 7, 3) := by decide +kernel
theorem dX5_text_55 : decode cX5_text 55 = .ok (.iconst 1, 1) := by decide +kernel
theorem dX5_text_56 : decode cX5_text 56 = .ok (.goto 4, 3) := by decide +kernel
theorem dX5_text_59 : decode cX5_text 59 = .ok (.iconst 0, 1) := by decide +kernel
theorem dX5_text_60 : decode cX5_text 60 = .ok (.istore_n 1, 1) := by decide +kernel
theorem dX5_text_61 : decode cX5_text 61 = .ok (.aload_n 0, 1) := by decide +kernel
theorem dX5_text_62 : decode cX5_text 62 = .ok (.getfield 25, 3) := by decide +kernel
theorem dX5_text_65 : decode cX5_text 65 = .ok (.iconst 4, 1) := by decide +kernel
theorem dX5_text_66 : decode cX5_text 66 = .ok (.aload_n 0, 1) := by decide +kernel
theorem dX5_text_67 : decode cX5_text 67 = .ok (.getfield 96, 3) := by decide +kernel
theorem dX5_text_70 : decode cX5_text 70 = .ok (.imul, 1) := by decide +kernel
theorem dX5_text_71 : decode cX5_text 71 = .ok (.iload_n 2, 1) := by decide +kernel
theorem dX5_text_72 : decode cX5_text 72 = .ok (.iadd, 1) := by decide +kernel
theorem dX5_text_73 : decode cX5_text 73 = .ok (.aload_n 0, 1) := by decide +kernel
theorem dX5_text_74 : decode cX5_text 74 = .ok (.getfield 121, 3) := by decide +kernel
theorem dX5_text_77 : decode cX5_text 77 = .ok (.iastore, 1) := by decide +kernel
theorem dX5_text_78 : decode cX5_text 78 = .ok (.iload_n 1, 1) := by decide +kernel
theorem dX5_text_79 : decode cX5_text 79 = .ok (.ifCond .eq 14, 3) := by decide +kernel
theorem dX5_text_82 : decode cX5_text 82 = .ok (.aload_n 0, 1) := by decide +kernel
theorem dX5_text_83 : decode cX5_text 83 = .ok (.invokevirtual 156, 3) := by decide +kernel
theorem dX5_text_86 : decode cX5_text 86 = .ok (.ifCond .eq 7, 3) := by decide +kernel
theorem dX5_text_89 : decode cX5_text 89 = .ok (.iconst 1, 1) := by decide +kernel
theorem dX5_text_90 : decode cX5_text 90 = .ok (.goto 4, 3) := by decide +kernel
theorem dX5_text_93 : decode cX5_text 93 = .ok (.iconst 0, 1) := by decide +kernel
theorem dX5_text_94 : decode cX5_text 94 = .ok (.istore_n 1, 1) := by decide +kernel
theorem dX5_text_95 : decode cX5_text 95 = .ok (.iinc 2 1, 3) := by decide +kernel
theorem dX5_text_98 : decode cX5_text 98 = .ok (.goto (-72), 3) := by decide +kernel
theorem dX5_text_101 : decode cX5_text 101 = .ok (.iload_n 1, 1) := by decide +kernel
theorem dX5_text_102 : decode cX5_text 102 = .ok (.ifCond .eq 20, 3) := by decide +kernel
theorem dX5_text_105 : decode cX5_text 105 = .ok (.aload_n 0, 1) := by decide +kernel
theorem dX5_text_106 : decode cX5_text 106 = .ok (.invokevirtual 143, 3) := by decide +kernel
theorem dX5_text_109 : decode cX5_text 109 = .ok (.aload_n 0, 1) := by decide +kernel
theorem dX5_text_110 : decode cX5_text 110 = .ok (.getfield 111, 3) := by decide +kernel
theorem dX5_text_113 : decode cX5_text 113 = .ok (.ifCond .ne 7, 3) := by decide +kernel
theorem dX5_text_116 : decode cX5_text 116 = .ok (.iconst 1, 1) := by decide +kernel
theorem dX5_text_117 : decode cX5_text 117 = .ok (.goto 4, 3) := by decide +kernel
theorem dX5_text_120 : decode cX5_text 120 = .ok (.iconst 0, 1) := by decide +kernel
theorem dX5_text_121 : decode cX5_text 121 = .ok (.istore_n 1, 1) := by decide +kernel
theorem dX5_text_122 : decode cX5_text 122 = .ok (.aload_n 0, 1) := by decide +kernel
theorem dX5_text_123 : decode cX5_text 123 = .ok (.getfield 25, 3) := by decide +kernel
theorem dX5_text_126 : decode cX5_text 126 = .ok (.iconst 4, 1) := by decide +kernel
theorem dX5_text_127 : decode cX5_text 127 = .ok (.aload_n 0, 1) := by decide +kernel
theorem dX5_text_128 : decode cX5_text 128 = .ok (.getfield 96, 3) := by decide +kernel
theorem dX5_text_131 : decode cX5_text 131 = .ok (.imul, 1) := by decide +kernel
theorem dX5_text_132 : decode cX5_text 132 = .ok (.iconst 3, 1) := by decide +kernel
theorem dX5_text_133 : decode cX5_text 133 = .ok (.iadd, 1) := by decide +kernel
theorem dX5_text_134 : decode cX5_text 134 = .ok (.aload_n 0, 1) := by decide +kernel
theorem dX5_text_135 : decode cX5_text 135 = .ok (.getfield 121, 3) := by decide +kernel
theorem dX5_text_138 : decode cX5_text 138 = .ok (.iastore, 1) := by decide +kernel
theorem dX5_text_139 : decode cX5_text 139 = .ok (.aload_n 0, 1) := by decide +kernel
theorem dX5_text_140 : decode cX5_text 140 = .ok (.iconst 0, 1) := by decide +kernel
theorem dX5_text_141 : decode cX5_text 141 = .ok (.putfield 67, 3) := by decide +kernel
theorem dX5_text_144 : decode cX5_text 144 = .ok (.iload_n 1, 1) := by decide +kernel
theorem dX5_text_145 : decode cX5_text 145 = .ok (.ifCond .ne 11, 3) := by decide +kernel
theorem dX5_text_148 : decode cX5_text 148 = .ok (.bipush (-100), 2) := by decide +kernel
theorem dX5_text_150 : decode cX5_text 150 = .ok (.aload_n 0, 1) := by decide +kernel
theorem dX5_text_151 : decode cX5_text 151 = .ok (.getfield 108, 3) := by decide +kernel
theorem dX5_text_154 : decode cX5_text 154 = .ok (.isub, 1) := by decide +kernel
theorem dX5_text_155 : decode cX5_text 155 = .ok (.ireturn, 1) := by decide +kernel
theorem dX5_text_156 : decode cX5_text 156 = .ok (.aload_n 0, 1) := by decide +kernel
theorem dX5_text_157 : decode cX5_text 157 = .ok (.dup, 1) := by decide +kernel
theorem dX5_text_158 : decode cX5_text 158 = .ok (.getfield 96, 3) := by decide +kernel
theorem dX5_text_161 : decode cX5_text 161 = .ok (.iconst 1, 1) := by decide +kernel
theorem dX5_text_162 : decode cX5_text 162 = .ok (.iadd, 1) := by decide +kernel
theorem dX5_text_163 : decode cX5_text 163 = .ok (.putfield 96, 3) := by decide +kernel
theorem dX5_text_166 : decode cX5_text 166 = .ok (.aload_n 0, 1) := by decide +kernel
theorem dX5_text_167 : decode cX5_text 167 = .ok (.getfield 96, 3) := by decide +kernel
theorem dX5_text_170 : decode cX5_text 170 = .ok (.iconst 1, 1) := by decide +kernel
theorem dX5_text_171 : decode cX5_text 171 = .ok (.isub, 1) := by decide +kernel
theorem dX5_text_172 : decode cX5_text 172 = .ok (.ireturn, 1) := by decide +kernel
theorem dX5_two_0 : decode cX5_two 0 = .ok (.iload_n 0, 1) := by decide +kernel
theorem dX5_two_1 : decode cX5_two 1 = .ok (.tableswitch 101 11 17 #[43, 57, 101, 71, 82, 93, 97], 43) := by decide +kernel
theorem dX5_two_44 : decode cX5_two 44 = .ok (.iload_n 1, 1) := by decide +kernel
theorem dX5_two_45 : decode cX5_two 45 = .ok (.ifCond .ne 7, 3) := by decide +kernel
theorem dX5_two_48 : decode cX5_two 48 = .ok (.iload_n 2, 1) := by decide +kernel
theorem dX5_two_49 : decode cX5_two 49 = .ok (.ifCond .eq 7, 3) := by decide +kernel
theorem dX5_two_52 : decode cX5_two 52 = .ok (.iconst 1, 1) := by decide +kernel
theorem dX5_two_53 : decode cX5_two 53 = .ok (.goto 4, 3) := by decide +kernel
theorem dX5_two_56 : decode cX5_two 56 = .ok (.iconst 0, 1) := by decide +kernel
theorem dX5_two_57 : decode cX5_two 57 = .ok (.ireturn, 1) := by decide +kernel
theorem dX5_two_58 : decode cX5_two 58 = .ok (.iload_n 1, 1) := by decide +kernel
theorem dX5_two_59 : decode cX5_two 59 = .ok (.ifCond .eq 11, 3) := by decide +kernel
theorem dX5_two_62 : decode cX5_two 62 = .ok (.iload_n 2, 1) := by decide +kernel
theorem dX5_two_63 : decode cX5_two 63 = .ok (.ifCond .eq 7, 3) := by decide +kernel
theorem dX5_two_66 : decode cX5_two 66 = .ok (.iconst 1, 1) := by decide +kernel
theorem dX5_two_67 : decode cX5_two 67 = .ok (.goto 4, 3) := by decide +kernel
theorem dX5_two_70 : decode cX5_two 70 = .ok (.iconst 0, 1) := by decide +kernel
theorem dX5_two_71 : decode cX5_two 71 = .ok (.ireturn, 1) := by decide +kernel
theorem dX5_two_72 : decode cX5_two 72 = .ok (.iload_n 1, 1) := by decide +kernel
theorem dX5_two_73 : decode cX5_two 73 = .ok (.iload_n 2, 1) := by decide +kernel
theorem dX5_two_74 : decode cX5_two 74 = .ok (.if_icmp .ge 7, 3) := by decide +kernel
theorem dX5_two_77 : decode cX5_two 77 = .ok (.iconst 1, 1) := by decide +kernel
theorem dX5_two_78 : decode cX5_two 78 = .ok (.goto 4, 3) := by decide +kernel
theorem dX5_two_81 : decode cX5_two 81 = .ok (.iconst 0, 1) := by decide +kernel
theorem dX5_two_82 : decode cX5_two 82 = .ok (.ireturn, 1) := by decide +kernel
theorem dX5_two_83 : decode cX5_two 83 = .ok (.iload_n 1, 1) := by decide +kernel
theorem dX5_two_84 : decode cX5_two 84 = .ok (.iload_n 2, 1) := by decide +kernel
theorem dX5_two_85 : decode cX5_two 85 = .ok (.if_icmp .ne 7, 3) := by decide +kernel
theorem dX5_two_88 : decode cX5_two 88 = .ok (.iconst 1, 1) := by decide +kernel
theorem dX5_two_89 : decode cX5_two 89 = .ok (.goto 4, 3) := by decide +kernel
theorem dX5_two_92 : decode cX5_two 92 = .ok (.iconst 0, 1) := by decide +kernel
theorem dX5_two_93 : decode cX5_two 93 = .ok (.ireturn, 1) := by decide +kernel
theorem dX5_two_94 : decode cX5_two 94 = .ok (.iload_n 1, 1) := by decide +kernel
theorem dX5_two_95 : decode cX5_two 95 = .ok (.iload_n 2, 1) := by decide +kernel
theorem dX5_two_96 : decode cX5_two 96 = .ok (.iadd, 1) := by decide +kernel
theorem dX5_two_97 : decode cX5_two 97 = .ok (.ireturn, 1) := by decide +kernel
theorem dX5_two_98 : decode cX5_two 98 = .ok (.iload_n 1, 1) := by decide +kernel
theorem dX5_two_99 : decode cX5_two 99 = .ok (.iload_n 2, 1) := by decide +kernel
theorem dX5_two_100 : decode cX5_two 100 = .ok (.isub, 1) := by decide +kernel
theorem dX5_two_101 : decode cX5_two 101 = .ok (.ireturn, 1) := by decide +kernel
theorem dX5_two_102 : decode cX5_two 102 = .ok (.iload_n 1, 1) := by decide +kernel
theorem dX5_two_103 : decode cX5_two 103 = .ok (.iload_n 2, 1) := by decide +kernel
theorem dX5_two_104 : decode cX5_two 104 = .ok (.imul, 1) := by decide +kernel
theorem dX5_two_105 : decode cX5_two 105 = .ok (.ireturn, 1) := by decide +kernel
theorem dX5_says_0 : decode cX5_says 0 = .ok (.iconst 0, 1) := by decide +kernel
theorem dX5_says_1 : decode cX5_says 1 = .ok (.istore_n 2, 1) := by decide +kernel
theorem dX5_says_2 : decode cX5_says 2 = .ok (.aload_n 0, 1) := by decide +kernel
theorem dX5_says_3 : decode cX5_says 3 = .ok (.getfield 25, 3) := by decide +kernel
theorem dX5_says_6 : decode cX5_says 6 = .ok (.iconst 4, 1) := by decide +kernel
theorem dX5_says_7 : decode cX5_says 7 = .ok (.aload_n 0, 1) := by decide +kernel
theorem dX5_says_8 : decode cX5_says 8 = .ok (.getfield 99, 3) := by decide +kernel
theorem dX5_says_11 : decode cX5_says 11 = .ok (.imul, 1) := by decide +kernel
theorem dX5_says_12 : decode cX5_says 12 = .ok (.iload_n 1, 1) := by decide +kernel
theorem dX5_says_13 : decode cX5_says 13 = .ok (.iadd, 1) := by decide +kernel
theorem dX5_says_14 : decode cX5_says 14 = .ok (.iaload, 1) := by decide +kernel
theorem dX5_says_15 : decode cX5_says 15 = .ok (.istore_n 3, 1) := by decide +kernel
theorem dX5_says_16 : decode cX5_says 16 = .ok (.iload_n 3, 1) := by decide +kernel
theorem dX5_says_17 : decode cX5_says 17 = .ok (.aload_n 0, 1) := by decide +kernel
theorem dX5_says_18 : decode cX5_says 18 = .ok (.getfield 25, 3) := by decide +kernel
theorem dX5_says_21 : decode cX5_says 21 = .ok (.iconst 4, 1) := by decide +kernel
theorem dX5_says_22 : decode cX5_says 22 = .ok (.aload_n 0, 1) := by decide +kernel
theorem dX5_says_23 : decode cX5_says 23 = .ok (.getfield 99, 3) := by decide +kernel
theorem dX5_says_26 : decode cX5_says 26 = .ok (.imul, 1) := by decide +kernel
theorem dX5_says_27 : decode cX5_says 27 = .ok (.iload_n 1, 1) := by decide +kernel
theorem dX5_says_28 : decode cX5_says 28 = .ok (.iadd, 1) := by decide +kernel
theorem dX5_says_29 : decode cX5_says 29 = .ok (.iconst 1, 1) := by decide +kernel
theorem dX5_says_30 : decode cX5_says 30 = .ok (.iadd, 1) := by decide +kernel
theorem dX5_says_31 : decode cX5_says 31 = .ok (.iaload, 1) := by decide +kernel
theorem dX5_says_32 : decode cX5_says 32 = .ok (.if_icmp .ge 165, 3) := by decide +kernel
theorem dX5_says_35 : decode cX5_says 35 = .ok (.aload_n 0, 1) := by decide +kernel
theorem dX5_says_36 : decode cX5_says 36 = .ok (.getfield 22, 3) := by decide +kernel
theorem dX5_says_39 : decode cX5_says 39 = .ok (.sipush 200, 3) := by decide +kernel
theorem dX5_says_42 : decode cX5_says 42 = .ok (.aload_n 0, 1) := by decide +kernel
theorem dX5_says_43 : decode cX5_says 43 = .ok (.getfield 99, 3) := by decide +kernel
theorem dX5_says_46 : decode cX5_says 46 = .ok (.imul, 1) := by decide +kernel
theorem dX5_says_47 : decode cX5_says 47 = .ok (.iload_n 3, 1) := by decide +kernel
theorem dX5_says_48 : decode cX5_says 48 = .ok (.iadd, 1) := by decide +kernel
theorem dX5_says_49 : decode cX5_says 49 = .ok (.iaload, 1) := by decide +kernel
theorem dX5_says_50 : decode cX5_says 50 = .ok (.istore 4, 2) := by decide +kernel
theorem dX5_says_52 : decode cX5_says 52 = .ok (.iload 4, 2) := by decide +kernel
theorem dX5_says_54 : decode cX5_says 54 = .ok (.ldc 146, 2) := by decide +kernel
theorem dX5_says_56 : decode cX5_says 56 = .ok (.if_icmp .ge 10, 3) := by decide +kernel
theorem dX5_says_59 : decode cX5_says 59 = .ok (.iload 4, 2) := by decide +kernel
theorem dX5_says_61 : decode cX5_says 61 = .ok (.bipush 11, 2) := by decide +kernel
theorem dX5_says_63 : decode cX5_says 63 = .ok (.if_icmp .ge 37, 3) := by decide +kernel
theorem dX5_says_66 : decode cX5_says 66 = .ok (.aload_n 0, 1) := by decide +kernel
theorem dX5_says_67 : decode cX5_says 67 = .ok (.getfield 52, 3) := by decide +kernel
theorem dX5_says_70 : decode cX5_says 70 = .ok (.iload_n 2, 1) := by decide +kernel
theorem dX5_says_71 : decode cX5_says 71 = .ok (.iload 4, 2) := by decide +kernel
theorem dX5_says_73 : decode cX5_says 73 = .ok (.bipush 11, 2) := by decide +kernel
theorem dX5_says_75 : decode cX5_says 75 = .ok (.if_icmp .ge 13, 3) := by decide +kernel
theorem dX5_says_78 : decode cX5_says 78 = .ok (.aload_n 0, 1) := by decide +kernel
theorem dX5_says_79 : decode cX5_says 79 = .ok (.getfield 55, 3) := by decide +kernel
theorem dX5_says_82 : decode cX5_says 82 = .ok (.iload 4, 2) := by decide +kernel
theorem dX5_says_84 : decode cX5_says 84 = .ok (.iaload, 1) := by decide +kernel
theorem dX5_says_85 : decode cX5_says 85 = .ok (.goto 8, 3) := by decide +kernel
theorem dX5_says_88 : decode cX5_says 88 = .ok (.iload 4, 2) := by decide +kernel
theorem dX5_says_90 : decode cX5_says 90 = .ok (.ldc 146, 2) := by decide +kernel
theorem dX5_says_92 : decode cX5_says 92 = .ok (.isub, 1) := by decide +kernel
theorem dX5_says_93 : decode cX5_says 93 = .ok (.iastore, 1) := by decide +kernel
theorem dX5_says_94 : decode cX5_says 94 = .ok (.iinc 2 1, 3) := by decide +kernel
theorem dX5_says_97 : decode cX5_says 97 = .ok (.goto 94, 3) := by decide +kernel
theorem dX5_says_100 : decode cX5_says 100 = .ok (.iload 4, 2) := by decide +kernel
theorem dX5_says_102 : decode cX5_says 102 = .ok (.bipush 13, 2) := by decide +kernel
theorem dX5_says_104 : decode cX5_says 104 = .ok (.if_icmp .ne 30, 3) := by decide +kernel
theorem dX5_says_107 : decode cX5_says 107 = .ok (.aload_n 0, 1) := by decide +kernel
theorem dX5_says_108 : decode cX5_says 108 = .ok (.getfield 52, 3) := by decide +kernel
theorem dX5_says_111 : decode cX5_says 111 = .ok (.iload_n 2, 1) := by decide +kernel
theorem dX5_says_112 : decode cX5_says 112 = .ok (.iconst 1, 1) := by decide +kernel
theorem dX5_says_113 : decode cX5_says 113 = .ok (.isub, 1) := by decide +kernel
theorem dX5_says_114 : decode cX5_says 114 = .ok (.aload_n 0, 1) := by decide +kernel
theorem dX5_says_115 : decode cX5_says 115 = .ok (.getfield 52, 3) := by decide +kernel
theorem dX5_says_118 : decode cX5_says 118 = .ok (.iload_n 2, 1) := by decide +kernel
theorem dX5_says_119 : decode cX5_says 119 = .ok (.iconst 1, 1) := by decide +kernel
theorem dX5_says_120 : decode cX5_says 120 = .ok (.isub, 1) := by decide +kernel
theorem dX5_says_121 : decode cX5_says 121 = .ok (.iaload, 1) := by decide +kernel
theorem dX5_says_122 : decode cX5_says 122 = .ok (.ifCond .ne 7, 3) := by decide +kernel
theorem dX5_says_125 : decode cX5_says 125 = .ok (.iconst 1, 1) := by decide +kernel
theorem dX5_says_126 : decode cX5_says 126 = .ok (.goto 4, 3) := by decide +kernel
theorem dX5_says_129 : decode cX5_says 129 = .ok (.iconst 0, 1) := by decide +kernel
theorem dX5_says_130 : decode cX5_says 130 = .ok (.iastore, 1) := by decide +kernel
theorem dX5_says_131 : decode cX5_says 131 = .ok (.goto 60, 3) := by decide +kernel
theorem dX5_says_134 : decode cX5_says 134 = .ok (.iload 4, 2) := by decide +kernel
theorem dX5_says_136 : decode cX5_says 136 = .ok (.bipush 19, 2) := by decide +kernel
theorem dX5_says_138 : decode cX5_says 138 = .ok (.if_icmp .ne 23, 3) := by decide +kernel
theorem dX5_says_141 : decode cX5_says 141 = .ok (.aload_n 0, 1) := by decide +kernel
theorem dX5_says_142 : decode cX5_says 142 = .ok (.getfield 52, 3) := by decide +kernel
theorem dX5_says_145 : decode cX5_says 145 = .ok (.iload_n 2, 1) := by decide +kernel
theorem dX5_says_146 : decode cX5_says 146 = .ok (.iconst 1, 1) := by decide +kernel
theorem dX5_says_147 : decode cX5_says 147 = .ok (.isub, 1) := by decide +kernel
theorem dX5_says_148 : decode cX5_says 148 = .ok (.aload_n 0, 1) := by decide +kernel
theorem dX5_says_149 : decode cX5_says 149 = .ok (.getfield 52, 3) := by decide +kernel
theorem dX5_says_152 : decode cX5_says 152 = .ok (.iload_n 2, 1) := by decide +kernel
theorem dX5_says_153 : decode cX5_says 153 = .ok (.iconst 1, 1) := by decide +kernel
theorem dX5_says_154 : decode cX5_says 154 = .ok (.isub, 1) := by decide +kernel
theorem dX5_says_155 : decode cX5_says 155 = .ok (.iaload, 1) := by decide +kernel
theorem dX5_says_156 : decode cX5_says 156 = .ok (.ineg, 1) := by decide +kernel
theorem dX5_says_157 : decode cX5_says 157 = .ok (.iastore, 1) := by decide +kernel
theorem dX5_says_158 : decode cX5_says 158 = .ok (.goto 33, 3) := by decide +kernel
theorem dX5_says_161 : decode cX5_says 161 = .ok (.iinc 2 (-1), 3) := by decide +kernel
theorem dX5_says_164 : decode cX5_says 164 = .ok (.aload_n 0, 1) := by decide +kernel
theorem dX5_says_165 : decode cX5_says 165 = .ok (.getfield 52, 3) := by decide +kernel
theorem dX5_says_168 : decode cX5_says 168 = .ok (.iload_n 2, 1) := by decide +kernel
theorem dX5_says_169 : decode cX5_says 169 = .ok (.iconst 1, 1) := by decide +kernel
theorem dX5_says_170 : decode cX5_says 170 = .ok (.isub, 1) := by decide +kernel
theorem dX5_says_171 : decode cX5_says 171 = .ok (.iload 4, 2) := by decide +kernel
theorem dX5_says_173 : decode cX5_says 173 = .ok (.aload_n 0, 1) := by decide +kernel
theorem dX5_says_174 : decode cX5_says 174 = .ok (.getfield 52, 3) := by decide +kernel
theorem dX5_says_177 : decode cX5_says 177 = .ok (.iload_n 2, 1) := by decide +kernel
theorem dX5_says_178 : decode cX5_says 178 = .ok (.iconst 1, 1) := by decide +kernel
theorem dX5_says_179 : decode cX5_says 179 = .ok (.isub, 1) := by decide +kernel
theorem dX5_says_180 : decode cX5_says 180 = .ok (.iaload, 1) := by decide +kernel
theorem dX5_says_181 : decode cX5_says 181 = .ok (.aload_n 0, 1) := by decide +kernel
theorem dX5_says_182 : decode cX5_says 182 = .ok (.getfield 52, 3) := by decide +kernel
theorem dX5_says_185 : decode cX5_says 185 = .ok (.iload_n 2, 1) := by decide +kernel
theorem dX5_says_186 : decode cX5_says 186 = .ok (.iaload, 1) := by decide +kernel
theorem dX5_says_187 : decode cX5_says 187 = .ok (.invokestatic 160, 3) := by decide +kernel
theorem dX5_says_190 : decode cX5_says 190 = .ok (.iastore, 1) := by decide +kernel
theorem dX5_says_191 : decode cX5_says 191 = .ok (.iinc 3 1, 3) := by decide +kernel
theorem dX5_says_194 : decode cX5_says 194 = .ok (.goto (-178), 3) := by decide +kernel
theorem dX5_says_197 : decode cX5_says 197 = .ok (.aload_n 0, 1) := by decide +kernel
theorem dX5_says_198 : decode cX5_says 198 = .ok (.getfield 52, 3) := by decide +kernel
theorem dX5_says_201 : decode cX5_says 201 = .ok (.iconst 0, 1) := by decide +kernel
theorem dX5_says_202 : decode cX5_says 202 = .ok (.iaload, 1) := by decide +kernel
theorem dX5_says_203 : decode cX5_says 203 = .ok (.ireturn, 1) := by decide +kernel
theorem dX5_force_0 : decode cX5_force 0 = .ok (.iload_n 1, 1) := by decide +kernel
theorem dX5_force_1 : decode cX5_force 1 = .ok (.iconst 0, 1) := by decide +kernel
theorem dX5_force_2 : decode cX5_force 2 = .ok (.aload_n 0, 1) := by decide +kernel
theorem dX5_force_3 : decode cX5_force 3 = .ok (.getfield 96, 3) := by decide +kernel
theorem dX5_force_6 : decode cX5_force 6 = .ok (.iconst 1, 1) := by decide +kernel
theorem dX5_force_7 : decode cX5_force 7 = .ok (.isub, 1) := by decide +kernel
theorem dX5_force_8 : decode cX5_force 8 = .ok (.invokestatic 78, 3) := by decide +kernel
theorem dX5_force_11 : decode cX5_force 11 = .ok (.ifCond .ne 6, 3) := by decide +kernel
theorem dX5_force_14 : decode cX5_force 14 = .ok (.bipush (-2), 2) := by decide +kernel
theorem dX5_force_16 : decode cX5_force 16 = .ok (.ireturn, 1) := by decide +kernel
theorem dX5_force_17 : decode cX5_force 17 = .ok (.aload_n 0, 1) := by decide +kernel
theorem dX5_force_18 : decode cX5_force 18 = .ok (.getfield 99, 3) := by decide +kernel
theorem dX5_force_21 : decode cX5_force 21 = .ok (.istore_n 2, 1) := by decide +kernel
theorem dX5_force_22 : decode cX5_force 22 = .ok (.aload_n 0, 1) := by decide +kernel
theorem dX5_force_23 : decode cX5_force 23 = .ok (.iload_n 1, 1) := by decide +kernel
theorem dX5_force_24 : decode cX5_force 24 = .ok (.putfield 99, 3) := by decide +kernel
theorem dX5_force_27 : decode cX5_force 27 = .ok (.iload_n 2, 1) := by decide +kernel
theorem dX5_force_28 : decode cX5_force 28 = .ok (.ireturn, 1) := by decide +kernel
theorem dX5_asksOf_0 : decode cX5_asksOf 0 = .ok (.aload_n 0, 1) := by decide +kernel
theorem dX5_asksOf_1 : decode cX5_asksOf 1 = .ok (.getfield 55, 3) := by decide +kernel
theorem dX5_asksOf_4 : decode cX5_asksOf 4 = .ok (.iconst 0, 1) := by decide +kernel
theorem dX5_asksOf_5 : decode cX5_asksOf 5 = .ok (.iload_n 3, 1) := by decide +kernel
theorem dX5_asksOf_6 : decode cX5_asksOf 6 = .ok (.iastore, 1) := by decide +kernel
theorem dX5_asksOf_7 : decode cX5_asksOf 7 = .ok (.aload_n 0, 1) := by decide +kernel
theorem dX5_asksOf_8 : decode cX5_asksOf 8 = .ok (.getfield 55, 3) := by decide +kernel
theorem dX5_asksOf_11 : decode cX5_asksOf 11 = .ok (.iconst 1, 1) := by decide +kernel
theorem dX5_asksOf_12 : decode cX5_asksOf 12 = .ok (.aload_n 0, 1) := by decide +kernel
theorem dX5_asksOf_13 : decode cX5_asksOf 13 = .ok (.getfield 16, 3) := by decide +kernel
theorem dX5_asksOf_16 : decode cX5_asksOf 16 = .ok (.bipush 12, 2) := by decide +kernel
theorem dX5_asksOf_18 : decode cX5_asksOf 18 = .ok (.iload_n 2, 1) := by decide +kernel
theorem dX5_asksOf_19 : decode cX5_asksOf 19 = .ok (.imul, 1) := by decide +kernel
theorem dX5_asksOf_20 : decode cX5_asksOf 20 = .ok (.iload_n 3, 1) := by decide +kernel
theorem dX5_asksOf_21 : decode cX5_asksOf 21 = .ok (.iadd, 1) := by decide +kernel
theorem dX5_asksOf_22 : decode cX5_asksOf 22 = .ok (.iaload, 1) := by decide +kernel
theorem dX5_asksOf_23 : decode cX5_asksOf 23 = .ok (.iastore, 1) := by decide +kernel
theorem dX5_asksOf_24 : decode cX5_asksOf 24 = .ok (.aload_n 0, 1) := by decide +kernel
theorem dX5_asksOf_25 : decode cX5_asksOf 25 = .ok (.getfield 55, 3) := by decide +kernel
theorem dX5_asksOf_28 : decode cX5_asksOf 28 = .ok (.iconst 2, 1) := by decide +kernel
theorem dX5_asksOf_29 : decode cX5_asksOf 29 = .ok (.aload_n 0, 1) := by decide +kernel
theorem dX5_asksOf_30 : decode cX5_asksOf 30 = .ok (.getfield 16, 3) := by decide +kernel
theorem dX5_asksOf_33 : decode cX5_asksOf 33 = .ok (.bipush 12, 2) := by decide +kernel
theorem dX5_asksOf_35 : decode cX5_asksOf 35 = .ok (.iload_n 2, 1) := by decide +kernel
theorem dX5_asksOf_36 : decode cX5_asksOf 36 = .ok (.imul, 1) := by decide +kernel
theorem dX5_asksOf_37 : decode cX5_asksOf 37 = .ok (.bipush 8, 2) := by decide +kernel
theorem dX5_asksOf_39 : decode cX5_asksOf 39 = .ok (.iadd, 1) := by decide +kernel
theorem dX5_asksOf_40 : decode cX5_asksOf 40 = .ok (.iaload, 1) := by decide +kernel
theorem dX5_asksOf_41 : decode cX5_asksOf 41 = .ok (.iastore, 1) := by decide +kernel
theorem dX5_asksOf_42 : decode cX5_asksOf 42 = .ok (.aload_n 0, 1) := by decide +kernel
theorem dX5_asksOf_43 : decode cX5_asksOf 43 = .ok (.getfield 55, 3) := by decide +kernel
theorem dX5_asksOf_46 : decode cX5_asksOf 46 = .ok (.iconst 3, 1) := by decide +kernel
theorem dX5_asksOf_47 : decode cX5_asksOf 47 = .ok (.aload_n 0, 1) := by decide +kernel
theorem dX5_asksOf_48 : decode cX5_asksOf 48 = .ok (.getfield 16, 3) := by decide +kernel
theorem dX5_asksOf_51 : decode cX5_asksOf 51 = .ok (.bipush 12, 2) := by decide +kernel
theorem dX5_asksOf_53 : decode cX5_asksOf 53 = .ok (.iload_n 2, 1) := by decide +kernel
theorem dX5_asksOf_54 : decode cX5_asksOf 54 = .ok (.imul, 1) := by decide +kernel
theorem dX5_asksOf_55 : decode cX5_asksOf 55 = .ok (.bipush 9, 2) := by decide +kernel
theorem dX5_asksOf_57 : decode cX5_asksOf 57 = .ok (.iadd, 1) := by decide +kernel
theorem dX5_asksOf_58 : decode cX5_asksOf 58 = .ok (.iaload, 1) := by decide +kernel
theorem dX5_asksOf_59 : decode cX5_asksOf 59 = .ok (.invokestatic 92, 3) := by decide +kernel
theorem dX5_asksOf_62 : decode cX5_asksOf 62 = .ok (.iastore, 1) := by decide +kernel
theorem dX5_asksOf_63 : decode cX5_asksOf 63 = .ok (.aload_n 0, 1) := by decide +kernel
theorem dX5_asksOf_64 : decode cX5_asksOf 64 = .ok (.getfield 55, 3) := by decide +kernel
theorem dX5_asksOf_67 : decode cX5_asksOf 67 = .ok (.iconst 4, 1) := by decide +kernel
theorem dX5_asksOf_68 : decode cX5_asksOf 68 = .ok (.aload_n 0, 1) := by decide +kernel
theorem dX5_asksOf_69 : decode cX5_asksOf 69 = .ok (.getfield 86, 3) := by decide +kernel
theorem dX5_asksOf_72 : decode cX5_asksOf 72 = .ok (.iastore, 1) := by decide +kernel
theorem dX5_asksOf_73 : decode cX5_asksOf 73 = .ok (.aload_n 0, 1) := by decide +kernel
theorem dX5_asksOf_74 : decode cX5_asksOf 74 = .ok (.getfield 55, 3) := by decide +kernel
theorem dX5_asksOf_77 : decode cX5_asksOf 77 = .ok (.iconst 5, 1) := by decide +kernel
theorem dX5_asksOf_78 : decode cX5_asksOf 78 = .ok (.aload_n 0, 1) := by decide +kernel
theorem dX5_asksOf_79 : decode cX5_asksOf 79 = .ok (.getfield 13, 3) := by decide +kernel
theorem dX5_asksOf_82 : decode cX5_asksOf 82 = .ok (.iload_n 2, 1) := by decide +kernel
theorem dX5_asksOf_83 : decode cX5_asksOf 83 = .ok (.iaload, 1) := by decide +kernel
theorem dX5_asksOf_84 : decode cX5_asksOf 84 = .ok (.iastore, 1) := by decide +kernel
theorem dX5_asksOf_85 : decode cX5_asksOf 85 = .ok (.aload_n 0, 1) := by decide +kernel
theorem dX5_asksOf_86 : decode cX5_asksOf 86 = .ok (.iload_n 1, 1) := by decide +kernel
theorem dX5_asksOf_87 : decode cX5_asksOf 87 = .ok (.invokevirtual 164, 3) := by decide +kernel
theorem dX5_asksOf_90 : decode cX5_asksOf 90 = .ok (.iload_n 1, 1) := by decide +kernel
theorem dX5_asksOf_91 : decode cX5_asksOf 91 = .ok (.iconst 1, 1) := by decide +kernel
theorem dX5_asksOf_92 : decode cX5_asksOf 92 = .ok (.if_icmp .ne 8, 3) := by decide +kernel
theorem dX5_asksOf_95 : decode cX5_asksOf 95 = .ok (.bipush (-99), 2) := by decide +kernel
theorem dX5_asksOf_97 : decode cX5_asksOf 97 = .ok (.goto 4, 3) := by decide +kernel
theorem dX5_asksOf_100 : decode cX5_asksOf 100 = .ok (.iconst 0, 1) := by decide +kernel
theorem dX5_asksOf_101 : decode cX5_asksOf 101 = .ok (.iload_n 1, 1) := by decide +kernel
theorem dX5_asksOf_102 : decode cX5_asksOf 102 = .ok (.iconst 2, 1) := by decide +kernel
theorem dX5_asksOf_103 : decode cX5_asksOf 103 = .ok (.if_icmp .ne 8, 3) := by decide +kernel
theorem dX5_asksOf_106 : decode cX5_asksOf 106 = .ok (.bipush 9, 2) := by decide +kernel
theorem dX5_asksOf_108 : decode cX5_asksOf 108 = .ok (.goto 5, 3) := by decide +kernel
theorem dX5_asksOf_111 : decode cX5_asksOf 111 = .ok (.bipush 99, 2) := by decide +kernel
theorem dX5_asksOf_113 : decode cX5_asksOf 113 = .ok (.invokestatic 167, 3) := by decide +kernel
theorem dX5_asksOf_116 : decode cX5_asksOf 116 = .ok (.ireturn, 1) := by decide +kernel
theorem dX5_asks_0 : decode cX5_asks 0 = .ok (.iload_n 1, 1) := by decide +kernel
theorem dX5_asks_1 : decode cX5_asks 1 = .ok (.iconst 0, 1) := by decide +kernel
theorem dX5_asks_2 : decode cX5_asks 2 = .ok (.iconst 2, 1) := by decide +kernel
theorem dX5_asks_3 : decode cX5_asks 3 = .ok (.invokestatic 78, 3) := by decide +kernel
theorem dX5_asks_6 : decode cX5_asks 6 = .ok (.ifCond .eq 28, 3) := by decide +kernel
theorem dX5_asks_9 : decode cX5_asks 9 = .ok (.aload_n 0, 1) := by decide +kernel
theorem dX5_asks_10 : decode cX5_asks 10 = .ok (.iload_n 2, 1) := by decide +kernel
theorem dX5_asks_11 : decode cX5_asks 11 = .ok (.invokevirtual 170, 3) := by decide +kernel
theorem dX5_asks_14 : decode cX5_asks 14 = .ok (.ifCond .eq 20, 3) := by decide +kernel
theorem dX5_asks_17 : decode cX5_asks 17 = .ok (.iload_n 3, 1) := by decide +kernel
theorem dX5_asks_18 : decode cX5_asks 18 = .ok (.invokestatic 173, 3) := by decide +kernel
theorem dX5_asks_21 : decode cX5_asks 21 = .ok (.ifCond .eq 13, 3) := by decide +kernel
theorem dX5_asks_24 : decode cX5_asks 24 = .ok (.aload_n 0, 1) := by decide +kernel
theorem dX5_asks_25 : decode cX5_asks 25 = .ok (.iload_n 1, 1) := by decide +kernel
theorem dX5_asks_26 : decode cX5_asks 26 = .ok (.iload_n 2, 1) := by decide +kernel
theorem dX5_asks_27 : decode cX5_asks 27 = .ok (.iload_n 3, 1) := by decide +kernel
theorem dX5_asks_28 : decode cX5_asks 28 = .ok (.invokevirtual 176, 3) := by decide +kernel
theorem dX5_asks_31 : decode cX5_asks 31 = .ok (.goto 6, 3) := by decide +kernel
theorem dX5_asks_34 : decode cX5_asks 34 = .ok (.sipush (-1000), 3) := by decide +kernel
theorem dX5_asks_37 : decode cX5_asks 37 = .ok (.ireturn, 1) := by decide +kernel
theorem dX5_gentleman_0 : decode cX5_gentleman 0 = .ok (.iload_n 1, 1) := by decide +kernel
theorem dX5_gentleman_1 : decode cX5_gentleman 1 = .ok (.iconst 0, 1) := by decide +kernel
theorem dX5_gentleman_2 : decode cX5_gentleman 2 = .ok (.bipush 59, 2) := by decide +kernel
theorem dX5_gentleman_4 : decode cX5_gentleman 4 = .ok (.invokestatic 78, 3) := by decide +kernel
theorem dX5_gentleman_7 : decode cX5_gentleman 7 = .ok (.ifCond .eq 13, 3) := by decide +kernel
theorem dX5_gentleman_10 : decode cX5_gentleman 10 = .ok (.iload_n 2, 1) := by decide +kernel
theorem dX5_gentleman_11 : decode cX5_gentleman 11 = .ok (.iconst 0, 1) := by decide +kernel
theorem dX5_gentleman_12 : decode cX5_gentleman 12 = .ok (.bipush 9, 2) := by decide +kernel
theorem dX5_gentleman_14 : decode cX5_gentleman 14 = .ok (.invokestatic 78, 3) := by decide +kernel
theorem dX5_gentleman_17 : decode cX5_gentleman 17 = .ok (.ifCond .ne 6, 3) := by decide +kernel
theorem dX5_gentleman_20 : decode cX5_gentleman 20 = .ok (.bipush (-2), 2) := by decide +kernel
theorem dX5_gentleman_22 : decode cX5_gentleman 22 = .ok (.ireturn, 1) := by decide +kernel
theorem dX5_gentleman_23 : decode cX5_gentleman 23 = .ok (.aload_n 0, 1) := by decide +kernel
theorem dX5_gentleman_24 : decode cX5_gentleman 24 = .ok (.getfield 75, 3) := by decide +kernel
theorem dX5_gentleman_27 : decode cX5_gentleman 27 = .ok (.bipush 6, 2) := by decide +kernel
theorem dX5_gentleman_29 : decode cX5_gentleman 29 = .ok (.if_icmp .ne 6, 3) := by decide +kernel
theorem dX5_gentleman_32 : decode cX5_gentleman 32 = .ok (.bipush (-4), 2) := by decide +kernel
theorem dX5_gentleman_34 : decode cX5_gentleman 34 = .ok (.ireturn, 1) := by decide +kernel
theorem dX5_gentleman_35 : decode cX5_gentleman 35 = .ok (.aload_n 0, 1) := by decide +kernel
theorem dX5_gentleman_36 : decode cX5_gentleman 36 = .ok (.getfield 7, 3) := by decide +kernel
theorem dX5_gentleman_39 : decode cX5_gentleman 39 = .ok (.aload_n 0, 1) := by decide +kernel
theorem dX5_gentleman_40 : decode cX5_gentleman 40 = .ok (.getfield 75, 3) := by decide +kernel
theorem dX5_gentleman_43 : decode cX5_gentleman 43 = .ok (.iload_n 1, 1) := by decide +kernel
theorem dX5_gentleman_44 : decode cX5_gentleman 44 = .ok (.bipush 10, 2) := by decide +kernel
theorem dX5_gentleman_46 : decode cX5_gentleman 46 = .ok (.idiv, 1) := by decide +kernel
theorem dX5_gentleman_47 : decode cX5_gentleman 47 = .ok (.iastore, 1) := by decide +kernel
theorem dX5_gentleman_48 : decode cX5_gentleman 48 = .ok (.aload_n 0, 1) := by decide +kernel
theorem dX5_gentleman_49 : decode cX5_gentleman 49 = .ok (.getfield 13, 3) := by decide +kernel
theorem dX5_gentleman_52 : decode cX5_gentleman 52 = .ok (.aload_n 0, 1) := by decide +kernel
theorem dX5_gentleman_53 : decode cX5_gentleman 53 = .ok (.getfield 75, 3) := by decide +kernel
theorem dX5_gentleman_56 : decode cX5_gentleman 56 = .ok (.iload_n 1, 1) := by decide +kernel
theorem dX5_gentleman_57 : decode cX5_gentleman 57 = .ok (.bipush 10, 2) := by decide +kernel
theorem dX5_gentleman_59 : decode cX5_gentleman 59 = .ok (.irem, 1) := by decide +kernel
theorem dX5_gentleman_60 : decode cX5_gentleman 60 = .ok (.iastore, 1) := by decide +kernel
theorem dX5_gentleman_61 : decode cX5_gentleman 61 = .ok (.iconst 0, 1) := by decide +kernel
theorem dX5_gentleman_62 : decode cX5_gentleman 62 = .ok (.istore_n 3, 1) := by decide +kernel
theorem dX5_gentleman_63 : decode cX5_gentleman 63 = .ok (.iload_n 3, 1) := by decide +kernel
theorem dX5_gentleman_64 : decode cX5_gentleman 64 = .ok (.bipush 8, 2) := by decide +kernel
theorem dX5_gentleman_66 : decode cX5_gentleman 66 = .ok (.if_icmp .ge 24, 3) := by decide +kernel
theorem dX5_gentleman_69 : decode cX5_gentleman 69 = .ok (.aload_n 0, 1) := by decide +kernel
theorem dX5_gentleman_70 : decode cX5_gentleman 70 = .ok (.getfield 16, 3) := by decide +kernel
theorem dX5_gentleman_73 : decode cX5_gentleman 73 = .ok (.bipush 12, 2) := by decide +kernel
theorem dX5_gentleman_75 : decode cX5_gentleman 75 = .ok (.aload_n 0, 1) := by decide +kernel
theorem dX5_gentleman_76 : decode cX5_gentleman 76 = .ok (.getfield 75, 3) := by decide +kernel
theorem dX5_gentleman_79 : decode cX5_gentleman 79 = .ok (.imul, 1) := by decide +kernel
theorem dX5_gentleman_80 : decode cX5_gentleman 80 = .ok (.iload_n 3, 1) := by decide +kernel
theorem dX5_gentleman_81 : decode cX5_gentleman 81 = .ok (.iadd, 1) := by decide +kernel
theorem dX5_gentleman_82 : decode cX5_gentleman 82 = .ok (.iload_n 2, 1) := by decide +kernel
theorem dX5_gentleman_83 : decode cX5_gentleman 83 = .ok (.iastore, 1) := by decide +kernel
theorem dX5_gentleman_84 : decode cX5_gentleman 84 = .ok (.iinc 3 1, 3) := by decide +kernel
theorem dX5_gentleman_87 : decode cX5_gentleman 87 = .ok (.goto (-24), 3) := by decide +kernel
theorem dX5_gentleman_90 : decode cX5_gentleman 90 = .ok (.aload_n 0, 1) := by decide +kernel
theorem dX5_gentleman_91 : decode cX5_gentleman 91 = .ok (.getfield 16, 3) := by decide +kernel
theorem dX5_gentleman_94 : decode cX5_gentleman 94 = .ok (.bipush 12, 2) := by decide +kernel
theorem dX5_gentleman_96 : decode cX5_gentleman 96 = .ok (.aload_n 0, 1) := by decide +kernel
theorem dX5_gentleman_97 : decode cX5_gentleman 97 = .ok (.getfield 75, 3) := by decide +kernel
theorem dX5_gentleman_100 : decode cX5_gentleman 100 = .ok (.imul, 1) := by decide +kernel
theorem dX5_gentleman_101 : decode cX5_gentleman 101 = .ok (.bipush 8, 2) := by decide +kernel
theorem dX5_gentleman_103 : decode cX5_gentleman 103 = .ok (.iadd, 1) := by decide +kernel
theorem dX5_gentleman_104 : decode cX5_gentleman 104 = .ok (.iconst 0, 1) := by decide +kernel
theorem dX5_gentleman_105 : decode cX5_gentleman 105 = .ok (.iastore, 1) := by decide +kernel
theorem dX5_gentleman_106 : decode cX5_gentleman 106 = .ok (.aload_n 0, 1) := by decide +kernel
theorem dX5_gentleman_107 : decode cX5_gentleman 107 = .ok (.getfield 16, 3) := by decide +kernel
theorem dX5_gentleman_110 : decode cX5_gentleman 110 = .ok (.bipush 12, 2) := by decide +kernel
theorem dX5_gentleman_112 : decode cX5_gentleman 112 = .ok (.aload_n 0, 1) := by decide +kernel
theorem dX5_gentleman_113 : decode cX5_gentleman 113 = .ok (.getfield 75, 3) := by decide +kernel
theorem dX5_gentleman_116 : decode cX5_gentleman 116 = .ok (.imul, 1) := by decide +kernel
theorem dX5_gentleman_117 : decode cX5_gentleman 117 = .ok (.bipush 9, 2) := by decide +kernel
theorem dX5_gentleman_119 : decode cX5_gentleman 119 = .ok (.iadd, 1) := by decide +kernel
theorem dX5_gentleman_120 : decode cX5_gentleman 120 = .ok (.iconst 0, 1) := by decide +kernel
theorem dX5_gentleman_121 : decode cX5_gentleman 121 = .ok (.iastore, 1) := by decide +kernel
theorem dX5_gentleman_122 : decode cX5_gentleman 122 = .ok (.aload_n 0, 1) := by decide +kernel
theorem dX5_gentleman_123 : decode cX5_gentleman 123 = .ok (.getfield 16, 3) := by decide +kernel
theorem dX5_gentleman_126 : decode cX5_gentleman 126 = .ok (.bipush 12, 2) := by decide +kernel
theorem dX5_gentleman_128 : decode cX5_gentleman 128 = .ok (.aload_n 0, 1) := by decide +kernel
theorem dX5_gentleman_129 : decode cX5_gentleman 129 = .ok (.getfield 75, 3) := by decide +kernel
theorem dX5_gentleman_132 : decode cX5_gentleman 132 = .ok (.imul, 1) := by decide +kernel
theorem dX5_gentleman_133 : decode cX5_gentleman 133 = .ok (.bipush 10, 2) := by decide +kernel
theorem dX5_gentleman_135 : decode cX5_gentleman 135 = .ok (.iadd, 1) := by decide +kernel
theorem dX5_gentleman_136 : decode cX5_gentleman 136 = .ok (.iconst (-1), 1) := by decide +kernel
theorem dX5_gentleman_137 : decode cX5_gentleman 137 = .ok (.iastore, 1) := by decide +kernel
theorem dX5_gentleman_138 : decode cX5_gentleman 138 = .ok (.aload_n 0, 1) := by decide +kernel
theorem dX5_gentleman_139 : decode cX5_gentleman 139 = .ok (.getfield 16, 3) := by decide +kernel
theorem dX5_gentleman_142 : decode cX5_gentleman 142 = .ok (.bipush 12, 2) := by decide +kernel
theorem dX5_gentleman_144 : decode cX5_gentleman 144 = .ok (.aload_n 0, 1) := by decide +kernel
theorem dX5_gentleman_145 : decode cX5_gentleman 145 = .ok (.getfield 75, 3) := by decide +kernel
theorem dX5_gentleman_148 : decode cX5_gentleman 148 = .ok (.imul, 1) := by decide +kernel
theorem dX5_gentleman_149 : decode cX5_gentleman 149 = .ok (.bipush 11, 2) := by decide +kernel
theorem dX5_gentleman_151 : decode cX5_gentleman 151 = .ok (.iadd, 1) := by decide +kernel
theorem dX5_gentleman_152 : decode cX5_gentleman 152 = .ok (.iconst 0, 1) := by decide +kernel
theorem dX5_gentleman_153 : decode cX5_gentleman 153 = .ok (.iastore, 1) := by decide +kernel
theorem dX5_gentleman_154 : decode cX5_gentleman 154 = .ok (.aload_n 0, 1) := by decide +kernel
theorem dX5_gentleman_155 : decode cX5_gentleman 155 = .ok (.dup, 1) := by decide +kernel
theorem dX5_gentleman_156 : decode cX5_gentleman 156 = .ok (.getfield 75, 3) := by decide +kernel
theorem dX5_gentleman_159 : decode cX5_gentleman 159 = .ok (.iconst 1, 1) := by decide +kernel
theorem dX5_gentleman_160 : decode cX5_gentleman 160 = .ok (.iadd, 1) := by decide +kernel
theorem dX5_gentleman_161 : decode cX5_gentleman 161 = .ok (.putfield 75, 3) := by decide +kernel
theorem dX5_gentleman_164 : decode cX5_gentleman 164 = .ok (.aload_n 0, 1) := by decide +kernel
theorem dX5_gentleman_165 : decode cX5_gentleman 165 = .ok (.getfield 75, 3) := by decide +kernel
theorem dX5_gentleman_168 : decode cX5_gentleman 168 = .ok (.iconst 1, 1) := by decide +kernel
theorem dX5_gentleman_169 : decode cX5_gentleman 169 = .ok (.isub, 1) := by decide +kernel
theorem dX5_gentleman_170 : decode cX5_gentleman 170 = .ok (.ireturn, 1) := by decide +kernel
theorem dX5_put_0 : decode cX5_put 0 = .ok (.aload_n 0, 1) := by decide +kernel
theorem dX5_put_1 : decode cX5_put 1 = .ok (.iload_n 1, 1) := by decide +kernel
theorem dX5_put_2 : decode cX5_put 2 = .ok (.invokevirtual 170, 3) := by decide +kernel
theorem dX5_put_5 : decode cX5_put 5 = .ok (.ifCond .ne 6, 3) := by decide +kernel
theorem dX5_put_8 : decode cX5_put 8 = .ok (.bipush (-5), 2) := by decide +kernel
theorem dX5_put_10 : decode cX5_put 10 = .ok (.ireturn, 1) := by decide +kernel
theorem dX5_put_11 : decode cX5_put 11 = .ok (.iload_n 2, 1) := by decide +kernel
theorem dX5_put_12 : decode cX5_put 12 = .ok (.iconst 0, 1) := by decide +kernel
theorem dX5_put_13 : decode cX5_put 13 = .ok (.bipush 8, 2) := by decide +kernel
theorem dX5_put_15 : decode cX5_put 15 = .ok (.invokestatic 78, 3) := by decide +kernel
theorem dX5_put_18 : decode cX5_put 18 = .ok (.ifCond .eq 24, 3) := by decide +kernel
theorem dX5_put_21 : decode cX5_put 21 = .ok (.iload_n 3, 1) := by decide +kernel
theorem dX5_put_22 : decode cX5_put 22 = .ok (.iconst 0, 1) := by decide +kernel
theorem dX5_put_23 : decode cX5_put 23 = .ok (.iload_n 2, 1) := by decide +kernel
theorem dX5_put_24 : decode cX5_put 24 = .ok (.bipush 8, 2) := by decide +kernel
theorem dX5_put_26 : decode cX5_put 26 = .ok (.if_icmp .ne 8, 3) := by decide +kernel
theorem dX5_put_29 : decode cX5_put 29 = .ok (.bipush 99, 2) := by decide +kernel
theorem dX5_put_31 : decode cX5_put 31 = .ok (.goto 5, 3) := by decide +kernel
theorem dX5_put_34 : decode cX5_put 34 = .ok (.bipush 9, 2) := by decide +kernel
theorem dX5_put_36 : decode cX5_put 36 = .ok (.invokestatic 78, 3) := by decide +kernel
theorem dX5_put_39 : decode cX5_put 39 = .ok (.ifCond .ne 6, 3) := by decide +kernel
theorem dX5_put_42 : decode cX5_put 42 = .ok (.bipush (-7), 2) := by decide +kernel
theorem dX5_put_44 : decode cX5_put 44 = .ok (.ireturn, 1) := by decide +kernel
theorem dX5_put_45 : decode cX5_put 45 = .ok (.aload_n 0, 1) := by decide +kernel
theorem dX5_put_46 : decode cX5_put 46 = .ok (.getfield 16, 3) := by decide +kernel
theorem dX5_put_49 : decode cX5_put 49 = .ok (.bipush 12, 2) := by decide +kernel
theorem dX5_put_51 : decode cX5_put 51 = .ok (.iload_n 1, 1) := by decide +kernel
theorem dX5_put_52 : decode cX5_put 52 = .ok (.imul, 1) := by decide +kernel
theorem dX5_put_53 : decode cX5_put 53 = .ok (.iload_n 2, 1) := by decide +kernel
theorem dX5_put_54 : decode cX5_put 54 = .ok (.iadd, 1) := by decide +kernel
theorem dX5_put_55 : decode cX5_put 55 = .ok (.iaload, 1) := by decide +kernel
theorem dX5_put_56 : decode cX5_put 56 = .ok (.istore 4, 2) := by decide +kernel
theorem dX5_put_58 : decode cX5_put 58 = .ok (.aload_n 0, 1) := by decide +kernel
theorem dX5_put_59 : decode cX5_put 59 = .ok (.getfield 16, 3) := by decide +kernel
theorem dX5_put_62 : decode cX5_put 62 = .ok (.bipush 12, 2) := by decide +kernel
theorem dX5_put_64 : decode cX5_put 64 = .ok (.iload_n 1, 1) := by decide +kernel
theorem dX5_put_65 : decode cX5_put 65 = .ok (.imul, 1) := by decide +kernel
theorem dX5_put_66 : decode cX5_put 66 = .ok (.iload_n 2, 1) := by decide +kernel
theorem dX5_put_67 : decode cX5_put 67 = .ok (.iadd, 1) := by decide +kernel
theorem dX5_put_68 : decode cX5_put 68 = .ok (.iload_n 3, 1) := by decide +kernel
theorem dX5_put_69 : decode cX5_put 69 = .ok (.iastore, 1) := by decide +kernel
theorem dX5_put_70 : decode cX5_put 70 = .ok (.iload 4, 2) := by decide +kernel
theorem dX5_put_72 : decode cX5_put 72 = .ok (.ireturn, 1) := by decide +kernel
theorem dX5_told_0 : decode cX5_told 0 = .ok (.aload_n 0, 1) := by decide +kernel
theorem dX5_told_1 : decode cX5_told 1 = .ok (.iload_n 1, 1) := by decide +kernel
theorem dX5_told_2 : decode cX5_told 2 = .ok (.invokevirtual 170, 3) := by decide +kernel
theorem dX5_told_5 : decode cX5_told 5 = .ok (.ifCond .ne 6, 3) := by decide +kernel
theorem dX5_told_8 : decode cX5_told 8 = .ok (.bipush (-5), 2) := by decide +kernel
theorem dX5_told_10 : decode cX5_told 10 = .ok (.ireturn, 1) := by decide +kernel
theorem dX5_told_11 : decode cX5_told 11 = .ok (.iload_n 2, 1) := by decide +kernel
theorem dX5_told_12 : decode cX5_told 12 = .ok (.iconst 0, 1) := by decide +kernel
theorem dX5_told_13 : decode cX5_told 13 = .ok (.bipush 8, 2) := by decide +kernel
theorem dX5_told_15 : decode cX5_told 15 = .ok (.invokestatic 78, 3) := by decide +kernel
theorem dX5_told_18 : decode cX5_told 18 = .ok (.ifCond .eq 15, 3) := by decide +kernel
theorem dX5_told_21 : decode cX5_told 21 = .ok (.aload_n 0, 1) := by decide +kernel
theorem dX5_told_22 : decode cX5_told 22 = .ok (.getfield 16, 3) := by decide +kernel
theorem dX5_told_25 : decode cX5_told 25 = .ok (.bipush 12, 2) := by decide +kernel
theorem dX5_told_27 : decode cX5_told 27 = .ok (.iload_n 1, 1) := by decide +kernel
theorem dX5_told_28 : decode cX5_told 28 = .ok (.imul, 1) := by decide +kernel
theorem dX5_told_29 : decode cX5_told 29 = .ok (.iload_n 2, 1) := by decide +kernel
theorem dX5_told_30 : decode cX5_told 30 = .ok (.iadd, 1) := by decide +kernel
theorem dX5_told_31 : decode cX5_told 31 = .ok (.iaload, 1) := by decide +kernel
theorem dX5_told_32 : decode cX5_told 32 = .ok (.ireturn, 1) := by decide +kernel
theorem dX5_told_33 : decode cX5_told 33 = .ok (.iload_n 2, 1) := by decide +kernel
theorem dX5_told_34 : decode cX5_told 34 = .ok (.tableswitch 62 9 13 #[34, 41, 48, 48, 48], 34) := by decide +kernel
theorem dX5_told_68 : decode cX5_told 68 = .ok (.aload_n 0, 1) := by decide +kernel
theorem dX5_told_69 : decode cX5_told 69 = .ok (.getfield 7, 3) := by decide +kernel
theorem dX5_told_72 : decode cX5_told 72 = .ok (.iload_n 1, 1) := by decide +kernel
theorem dX5_told_73 : decode cX5_told 73 = .ok (.iaload, 1) := by decide +kernel
theorem dX5_told_74 : decode cX5_told 74 = .ok (.ireturn, 1) := by decide +kernel
theorem dX5_told_75 : decode cX5_told 75 = .ok (.aload_n 0, 1) := by decide +kernel
theorem dX5_told_76 : decode cX5_told 76 = .ok (.getfield 13, 3) := by decide +kernel
theorem dX5_told_79 : decode cX5_told 79 = .ok (.iload_n 1, 1) := by decide +kernel
theorem dX5_told_80 : decode cX5_told 80 = .ok (.iaload, 1) := by decide +kernel
theorem dX5_told_81 : decode cX5_told 81 = .ok (.ireturn, 1) := by decide +kernel
theorem dX5_told_82 : decode cX5_told 82 = .ok (.aload_n 0, 1) := by decide +kernel
theorem dX5_told_83 : decode cX5_told 83 = .ok (.getfield 16, 3) := by decide +kernel
theorem dX5_told_86 : decode cX5_told 86 = .ok (.bipush 12, 2) := by decide +kernel
theorem dX5_told_88 : decode cX5_told 88 = .ok (.iload_n 1, 1) := by decide +kernel
theorem dX5_told_89 : decode cX5_told 89 = .ok (.imul, 1) := by decide +kernel
theorem dX5_told_90 : decode cX5_told 90 = .ok (.iload_n 2, 1) := by decide +kernel
theorem dX5_told_91 : decode cX5_told 91 = .ok (.iadd, 1) := by decide +kernel
theorem dX5_told_92 : decode cX5_told 92 = .ok (.iconst 2, 1) := by decide +kernel
theorem dX5_told_93 : decode cX5_told 93 = .ok (.isub, 1) := by decide +kernel
theorem dX5_told_94 : decode cX5_told 94 = .ok (.iaload, 1) := by decide +kernel
theorem dX5_told_95 : decode cX5_told 95 = .ok (.ireturn, 1) := by decide +kernel
theorem dX5_told_96 : decode cX5_told 96 = .ok (.bipush (-7), 2) := by decide +kernel
theorem dX5_told_98 : decode cX5_told 98 = .ok (.ireturn, 1) := by decide +kernel
theorem dX5_goneOf_0 : decode cX5_goneOf 0 = .ok (.aload_n 0, 1) := by decide +kernel
theorem dX5_goneOf_1 : decode cX5_goneOf 1 = .ok (.getfield 7, 3) := by decide +kernel
theorem dX5_goneOf_4 : decode cX5_goneOf 4 = .ok (.iload_n 1, 1) := by decide +kernel
theorem dX5_goneOf_5 : decode cX5_goneOf 5 = .ok (.iaload, 1) := by decide +kernel
theorem dX5_goneOf_6 : decode cX5_goneOf 6 = .ok (.iconst 5, 1) := by decide +kernel
theorem dX5_goneOf_7 : decode cX5_goneOf 7 = .ok (.if_icmp .ne 24, 3) := by decide +kernel
theorem dX5_goneOf_10 : decode cX5_goneOf 10 = .ok (.aload_n 0, 1) := by decide +kernel
theorem dX5_goneOf_11 : decode cX5_goneOf 11 = .ok (.getfield 13, 3) := by decide +kernel
theorem dX5_goneOf_14 : decode cX5_goneOf 14 = .ok (.iload_n 1, 1) := by decide +kernel
theorem dX5_goneOf_15 : decode cX5_goneOf 15 = .ok (.iaload, 1) := by decide +kernel
theorem dX5_goneOf_16 : decode cX5_goneOf 16 = .ok (.iconst 1, 1) := by decide +kernel
theorem dX5_goneOf_17 : decode cX5_goneOf 17 = .ok (.if_icmp .ge 7, 3) := by decide +kernel
theorem dX5_goneOf_20 : decode cX5_goneOf 20 = .ok (.iconst 1, 1) := by decide +kernel
theorem dX5_goneOf_21 : decode cX5_goneOf 21 = .ok (.goto 9, 3) := by decide +kernel
theorem dX5_goneOf_24 : decode cX5_goneOf 24 = .ok (.aload_n 0, 1) := by decide +kernel
theorem dX5_goneOf_25 : decode cX5_goneOf 25 = .ok (.getfield 13, 3) := by decide +kernel
theorem dX5_goneOf_28 : decode cX5_goneOf 28 = .ok (.iload_n 1, 1) := by decide +kernel
theorem dX5_goneOf_29 : decode cX5_goneOf 29 = .ok (.iaload, 1) := by decide +kernel
theorem dX5_goneOf_30 : decode cX5_goneOf 30 = .ok (.ireturn, 1) := by decide +kernel
theorem dX5_goneOf_31 : decode cX5_goneOf 31 = .ok (.aload_n 0, 1) := by decide +kernel
theorem dX5_goneOf_32 : decode cX5_goneOf 32 = .ok (.iconst 0, 1) := by decide +kernel
theorem dX5_goneOf_33 : decode cX5_goneOf 33 = .ok (.iload_n 1, 1) := by decide +kernel
theorem dX5_goneOf_34 : decode cX5_goneOf 34 = .ok (.iload_n 2, 1) := by decide +kernel
theorem dX5_goneOf_35 : decode cX5_goneOf 35 = .ok (.invokevirtual 176, 3) := by decide +kernel
theorem dX5_goneOf_38 : decode cX5_goneOf 38 = .ok (.istore_n 3, 1) := by decide +kernel
theorem dX5_goneOf_39 : decode cX5_goneOf 39 = .ok (.iload_n 3, 1) := by decide +kernel
theorem dX5_goneOf_40 : decode cX5_goneOf 40 = .ok (.istore 4, 2) := by decide +kernel
theorem dX5_goneOf_42 : decode cX5_goneOf 42 = .ok (.aload_n 0, 1) := by decide +kernel
theorem dX5_goneOf_43 : decode cX5_goneOf 43 = .ok (.getfield 7, 3) := by decide +kernel
theorem dX5_goneOf_46 : decode cX5_goneOf 46 = .ok (.iload_n 1, 1) := by decide +kernel
theorem dX5_goneOf_47 : decode cX5_goneOf 47 = .ok (.iaload, 1) := by decide +kernel
theorem dX5_goneOf_48 : decode cX5_goneOf 48 = .ok (.tableswitch 96 1 4 #[32, 40, 49, 74], 32) := by decide +kernel
theorem dX5_goneOf_80 : decode cX5_goneOf 80 = .ok (.iload_n 3, 1) := by decide +kernel
theorem dX5_goneOf_81 : decode cX5_goneOf 81 = .ok (.iconst 2, 1) := by decide +kernel
theorem dX5_goneOf_82 : decode cX5_goneOf 82 = .ok (.idiv, 1) := by decide +kernel
theorem dX5_goneOf_83 : decode cX5_goneOf 83 = .ok (.istore 4, 2) := by decide +kernel
theorem dX5_goneOf_85 : decode cX5_goneOf 85 = .ok (.goto 62, 3) := by decide +kernel
theorem dX5_goneOf_88 : decode cX5_goneOf 88 = .ok (.iload_n 3, 1) := by decide +kernel
theorem dX5_goneOf_89 : decode cX5_goneOf 89 = .ok (.bipush 10, 2) := by decide +kernel
theorem dX5_goneOf_91 : decode cX5_goneOf 91 = .ok (.iadd, 1) := by decide +kernel
theorem dX5_goneOf_92 : decode cX5_goneOf 92 = .ok (.istore 4, 2) := by decide +kernel
theorem dX5_goneOf_94 : decode cX5_goneOf 94 = .ok (.goto 53, 3) := by decide +kernel
theorem dX5_goneOf_97 : decode cX5_goneOf 97 = .ok (.iload_n 2, 1) := by decide +kernel
theorem dX5_goneOf_98 : decode cX5_goneOf 98 = .ok (.aload_n 0, 1) := by decide +kernel
theorem dX5_goneOf_99 : decode cX5_goneOf 99 = .ok (.getfield 13, 3) := by decide +kernel
theorem dX5_goneOf_102 : decode cX5_goneOf 102 = .ok (.iload_n 1, 1) := by decide +kernel
theorem dX5_goneOf_103 : decode cX5_goneOf 103 = .ok (.iaload, 1) := by decide +kernel
theorem dX5_goneOf_104 : decode cX5_goneOf 104 = .ok (.bipush 8, 2) := by decide +kernel
theorem dX5_goneOf_106 : decode cX5_goneOf 106 = .ok (.irem, 1) := by decide +kernel
theorem dX5_goneOf_107 : decode cX5_goneOf 107 = .ok (.if_icmp .ne 7, 3) := by decide +kernel
theorem dX5_goneOf_110 : decode cX5_goneOf 110 = .ok (.iconst 1, 1) := by decide +kernel
theorem dX5_goneOf_111 : decode cX5_goneOf 111 = .ok (.goto 6, 3) := by decide +kernel
theorem dX5_goneOf_114 : decode cX5_goneOf 114 = .ok (.iload_n 3, 1) := by decide +kernel
theorem dX5_goneOf_115 : decode cX5_goneOf 115 = .ok (.iconst 2, 1) := by decide +kernel
theorem dX5_goneOf_116 : decode cX5_goneOf 116 = .ok (.idiv, 1) := by decide +kernel
theorem dX5_goneOf_117 : decode cX5_goneOf 117 = .ok (.istore 4, 2) := by decide +kernel
theorem dX5_goneOf_119 : decode cX5_goneOf 119 = .ok (.goto 28, 3) := by decide +kernel
theorem dX5_goneOf_122 : decode cX5_goneOf 122 = .ok (.iload_n 2, 1) := by decide +kernel
theorem dX5_goneOf_123 : decode cX5_goneOf 123 = .ok (.bipush 7, 2) := by decide +kernel
theorem dX5_goneOf_125 : decode cX5_goneOf 125 = .ok (.if_icmp .ne 8, 3) := by decide +kernel
theorem dX5_goneOf_128 : decode cX5_goneOf 128 = .ok (.bipush 99, 2) := by decide +kernel
theorem dX5_goneOf_130 : decode cX5_goneOf 130 = .ok (.goto 9, 3) := by decide +kernel
theorem dX5_goneOf_133 : decode cX5_goneOf 133 = .ok (.iload_n 3, 1) := by decide +kernel
theorem dX5_goneOf_134 : decode cX5_goneOf 134 = .ok (.bipush 10, 2) := by decide +kernel
theorem dX5_goneOf_136 : decode cX5_goneOf 136 = .ok (.iadd, 1) := by decide +kernel
theorem dX5_goneOf_137 : decode cX5_goneOf 137 = .ok (.iconst 3, 1) := by decide +kernel
theorem dX5_goneOf_138 : decode cX5_goneOf 138 = .ok (.idiv, 1) := by decide +kernel
theorem dX5_goneOf_139 : decode cX5_goneOf 139 = .ok (.istore 4, 2) := by decide +kernel
theorem dX5_goneOf_141 : decode cX5_goneOf 141 = .ok (.goto 6, 3) := by decide +kernel
theorem dX5_goneOf_144 : decode cX5_goneOf 144 = .ok (.iload_n 3, 1) := by decide +kernel
theorem dX5_goneOf_145 : decode cX5_goneOf 145 = .ok (.istore 4, 2) := by decide +kernel
theorem dX5_goneOf_147 : decode cX5_goneOf 147 = .ok (.iload 4, 2) := by decide +kernel
theorem dX5_goneOf_149 : decode cX5_goneOf 149 = .ok (.iconst 1, 1) := by decide +kernel
theorem dX5_goneOf_150 : decode cX5_goneOf 150 = .ok (.if_icmp .ge 7, 3) := by decide +kernel
theorem dX5_goneOf_153 : decode cX5_goneOf 153 = .ok (.iconst 1, 1) := by decide +kernel
theorem dX5_goneOf_154 : decode cX5_goneOf 154 = .ok (.goto 5, 3) := by decide +kernel
theorem dX5_goneOf_157 : decode cX5_goneOf 157 = .ok (.iload 4, 2) := by decide +kernel
theorem dX5_goneOf_159 : decode cX5_goneOf 159 = .ok (.ireturn, 1) := by decide +kernel
theorem dX5_gainsOf_0 : decode cX5_gainsOf 0 = .ok (.aload_n 0, 1) := by decide +kernel
theorem dX5_gainsOf_1 : decode cX5_gainsOf 1 = .ok (.iconst 1, 1) := by decide +kernel
theorem dX5_gainsOf_2 : decode cX5_gainsOf 2 = .ok (.iload_n 1, 1) := by decide +kernel
theorem dX5_gainsOf_3 : decode cX5_gainsOf 3 = .ok (.iload_n 2, 1) := by decide +kernel
theorem dX5_gainsOf_4 : decode cX5_gainsOf 4 = .ok (.invokevirtual 176, 3) := by decide +kernel
theorem dX5_gainsOf_7 : decode cX5_gainsOf 7 = .ok (.istore_n 3, 1) := by decide +kernel
theorem dX5_gainsOf_8 : decode cX5_gainsOf 8 = .ok (.aload_n 0, 1) := by decide +kernel
theorem dX5_gainsOf_9 : decode cX5_gainsOf 9 = .ok (.iload_n 1, 1) := by decide +kernel
theorem dX5_gainsOf_10 : decode cX5_gainsOf 10 = .ok (.iload_n 2, 1) := by decide +kernel
theorem dX5_gainsOf_11 : decode cX5_gainsOf 11 = .ok (.invokevirtual 179, 3) := by decide +kernel
theorem dX5_gainsOf_14 : decode cX5_gainsOf 14 = .ok (.istore 4, 2) := by decide +kernel
theorem dX5_gainsOf_16 : decode cX5_gainsOf 16 = .ok (.aload_n 0, 1) := by decide +kernel
theorem dX5_gainsOf_17 : decode cX5_gainsOf 17 = .ok (.getfield 7, 3) := by decide +kernel
theorem dX5_gainsOf_20 : decode cX5_gainsOf 20 = .ok (.iload_n 1, 1) := by decide +kernel
theorem dX5_gainsOf_21 : decode cX5_gainsOf 21 = .ok (.iaload, 1) := by decide +kernel
theorem dX5_gainsOf_22 : decode cX5_gainsOf 22 = .ok (.tableswitch 71 1 4 #[30, 71, 48, 68], 30) := by decide +kernel
theorem dX5_gainsOf_52 : decode cX5_gainsOf 52 = .ok (.iload 4, 2) := by decide +kernel
theorem dX5_gainsOf_54 : decode cX5_gainsOf 54 = .ok (.ifCond .eq 7, 3) := by decide +kernel
theorem dX5_gainsOf_57 : decode cX5_gainsOf 57 = .ok (.iload_n 3, 1) := by decide +kernel
theorem dX5_gainsOf_58 : decode cX5_gainsOf 58 = .ok (.goto 11, 3) := by decide +kernel
theorem dX5_gainsOf_61 : decode cX5_gainsOf 61 = .ok (.iload_n 3, 1) := by decide +kernel
theorem dX5_gainsOf_62 : decode cX5_gainsOf 62 = .ok (.aload_n 0, 1) := by decide +kernel
theorem dX5_gainsOf_63 : decode cX5_gainsOf 63 = .ok (.getfield 13, 3) := by decide +kernel
theorem dX5_gainsOf_66 : decode cX5_gainsOf 66 = .ok (.iload_n 1, 1) := by decide +kernel
theorem dX5_gainsOf_67 : decode cX5_gainsOf 67 = .ok (.iaload, 1) := by decide +kernel
theorem dX5_gainsOf_68 : decode cX5_gainsOf 68 = .ok (.iadd, 1) := by decide +kernel
theorem dX5_gainsOf_69 : decode cX5_gainsOf 69 = .ok (.ireturn, 1) := by decide +kernel
theorem dX5_gainsOf_70 : decode cX5_gainsOf 70 = .ok (.iload 4, 2) := by decide +kernel
theorem dX5_gainsOf_72 : decode cX5_gainsOf 72 = .ok (.ifCond .eq 7, 3) := by decide +kernel
theorem dX5_gainsOf_75 : decode cX5_gainsOf 75 = .ok (.iconst 0, 1) := by decide +kernel
theorem dX5_gainsOf_76 : decode cX5_gainsOf 76 = .ok (.goto 13, 3) := by decide +kernel
theorem dX5_gainsOf_79 : decode cX5_gainsOf 79 = .ok (.iconst 2, 1) := by decide +kernel
theorem dX5_gainsOf_80 : decode cX5_gainsOf 80 = .ok (.iload_n 3, 1) := by decide +kernel
theorem dX5_gainsOf_81 : decode cX5_gainsOf 81 = .ok (.aload_n 0, 1) := by decide +kernel
theorem dX5_gainsOf_82 : decode cX5_gainsOf 82 = .ok (.getfield 13, 3) := by decide +kernel
theorem dX5_gainsOf_85 : decode cX5_gainsOf 85 = .ok (.iload_n 1, 1) := by decide +kernel
theorem dX5_gainsOf_86 : decode cX5_gainsOf 86 = .ok (.iaload, 1) := by decide +kernel
theorem dX5_gainsOf_87 : decode cX5_gainsOf 87 = .ok (.iadd, 1) := by decide +kernel
theorem dX5_gainsOf_88 : decode cX5_gainsOf 88 = .ok (.imul, 1) := by decide +kernel
theorem dX5_gainsOf_89 : decode cX5_gainsOf 89 = .ok (.ireturn, 1) := by decide +kernel
theorem dX5_gainsOf_90 : decode cX5_gainsOf 90 = .ok (.iload_n 3, 1) := by decide +kernel
theorem dX5_gainsOf_91 : decode cX5_gainsOf 91 = .ok (.ineg, 1) := by decide +kernel
theorem dX5_gainsOf_92 : decode cX5_gainsOf 92 = .ok (.ireturn, 1) := by decide +kernel
theorem dX5_gainsOf_93 : decode cX5_gainsOf 93 = .ok (.iload_n 3, 1) := by decide +kernel
theorem dX5_gainsOf_94 : decode cX5_gainsOf 94 = .ok (.ireturn, 1) := by decide +kernel
theorem dX5_spillsOf_0 : decode cX5_spillsOf 0 = .ok (.aload_n 0, 1) := by decide +kernel
theorem dX5_spillsOf_1 : decode cX5_spillsOf 1 = .ok (.getfield 7, 3) := by decide +kernel
theorem dX5_spillsOf_4 : decode cX5_spillsOf 4 = .ok (.iload_n 1, 1) := by decide +kernel
theorem dX5_spillsOf_5 : decode cX5_spillsOf 5 = .ok (.iaload, 1) := by decide +kernel
theorem dX5_spillsOf_6 : decode cX5_spillsOf 6 = .ok (.iconst 5, 1) := by decide +kernel
theorem dX5_spillsOf_7 : decode cX5_spillsOf 7 = .ok (.if_icmp .ne 5, 3) := by decide +kernel
theorem dX5_spillsOf_10 : decode cX5_spillsOf 10 = .ok (.iconst 0, 1) := by decide +kernel
theorem dX5_spillsOf_11 : decode cX5_spillsOf 11 = .ok (.ireturn, 1) := by decide +kernel
theorem dX5_spillsOf_12 : decode cX5_spillsOf 12 = .ok (.aload_n 0, 1) := by decide +kernel
theorem dX5_spillsOf_13 : decode cX5_spillsOf 13 = .ok (.iconst 2, 1) := by decide +kernel
theorem dX5_spillsOf_14 : decode cX5_spillsOf 14 = .ok (.iload_n 1, 1) := by decide +kernel
theorem dX5_spillsOf_15 : decode cX5_spillsOf 15 = .ok (.iload_n 2, 1) := by decide +kernel
theorem dX5_spillsOf_16 : decode cX5_spillsOf 16 = .ok (.invokevirtual 176, 3) := by decide +kernel
theorem dX5_spillsOf_19 : decode cX5_spillsOf 19 = .ok (.istore_n 3, 1) := by decide +kernel
theorem dX5_spillsOf_20 : decode cX5_spillsOf 20 = .ok (.aload_n 0, 1) := by decide +kernel
theorem dX5_spillsOf_21 : decode cX5_spillsOf 21 = .ok (.getfield 7, 3) := by decide +kernel
theorem dX5_spillsOf_24 : decode cX5_spillsOf 24 = .ok (.iload_n 1, 1) := by decide +kernel
theorem dX5_spillsOf_25 : decode cX5_spillsOf 25 = .ok (.iaload, 1) := by decide +kernel
theorem dX5_spillsOf_26 : decode cX5_spillsOf 26 = .ok (.iconst 2, 1) := by decide +kernel
theorem dX5_spillsOf_27 : decode cX5_spillsOf 27 = .ok (.if_icmp .eq 13, 3) := by decide +kernel
theorem dX5_spillsOf_30 : decode cX5_spillsOf 30 = .ok (.aload_n 0, 1) := by decide +kernel
theorem dX5_spillsOf_31 : decode cX5_spillsOf 31 = .ok (.getfield 7, 3) := by decide +kernel
theorem dX5_spillsOf_34 : decode cX5_spillsOf 34 = .ok (.iload_n 1, 1) := by decide +kernel
theorem dX5_spillsOf_35 : decode cX5_spillsOf 35 = .ok (.iaload, 1) := by decide +kernel
theorem dX5_spillsOf_36 : decode cX5_spillsOf 36 = .ok (.iconst 4, 1) := by decide +kernel
theorem dX5_spillsOf_37 : decode cX5_spillsOf 37 = .ok (.if_icmp .ne 20, 3) := by decide +kernel
theorem dX5_spillsOf_40 : decode cX5_spillsOf 40 = .ok (.aload_n 0, 1) := by decide +kernel
theorem dX5_spillsOf_41 : decode cX5_spillsOf 41 = .ok (.getfield 86, 3) := by decide +kernel
theorem dX5_spillsOf_44 : decode cX5_spillsOf 44 = .ok (.iconst 2, 1) := by decide +kernel
theorem dX5_spillsOf_45 : decode cX5_spillsOf 45 = .ok (.irem, 1) := by decide +kernel
theorem dX5_spillsOf_46 : decode cX5_spillsOf 46 = .ok (.ifCond .ne 9, 3) := by decide +kernel
theorem dX5_spillsOf_49 : decode cX5_spillsOf 49 = .ok (.iload_n 3, 1) := by decide +kernel
theorem dX5_spillsOf_50 : decode cX5_spillsOf 50 = .ok (.iconst 1, 1) := by decide +kernel
theorem dX5_spillsOf_51 : decode cX5_spillsOf 51 = .ok (.iadd, 1) := by decide +kernel
theorem dX5_spillsOf_52 : decode cX5_spillsOf 52 = .ok (.goto 4, 3) := by decide +kernel
theorem dX5_spillsOf_55 : decode cX5_spillsOf 55 = .ok (.iconst 0, 1) := by decide +kernel
theorem dX5_spillsOf_56 : decode cX5_spillsOf 56 = .ok (.ireturn, 1) := by decide +kernel
theorem dX5_spillsOf_57 : decode cX5_spillsOf 57 = .ok (.iload_n 3, 1) := by decide +kernel
theorem dX5_spillsOf_58 : decode cX5_spillsOf 58 = .ok (.ireturn, 1) := by decide +kernel
theorem dX5_pinches_0 : decode cX5_pinches 0 = .ok (.aload_n 0, 1) := by decide +kernel
theorem dX5_pinches_1 : decode cX5_pinches 1 = .ok (.iload_n 1, 1) := by decide +kernel
theorem dX5_pinches_2 : decode cX5_pinches 2 = .ok (.invokevirtual 170, 3) := by decide +kernel
theorem dX5_pinches_5 : decode cX5_pinches 5 = .ok (.ifCond .eq 10, 3) := by decide +kernel
theorem dX5_pinches_8 : decode cX5_pinches 8 = .ok (.iload_n 2, 1) := by decide +kernel
theorem dX5_pinches_9 : decode cX5_pinches 9 = .ok (.invokestatic 173, 3) := by decide +kernel
theorem dX5_pinches_12 : decode cX5_pinches 12 = .ok (.ifCond .ne 7, 3) := by decide +kernel
theorem dX5_pinches_15 : decode cX5_pinches 15 = .ok (.sipush (-5000), 3) := by decide +kernel
theorem dX5_pinches_18 : decode cX5_pinches 18 = .ok (.ireturn, 1) := by decide +kernel
theorem dX5_pinches_19 : decode cX5_pinches 19 = .ok (.iload_n 3, 1) := by decide +kernel
theorem dX5_pinches_20 : decode cX5_pinches 20 = .ok (.tableswitch 49 0 2 #[28, 35, 42], 28) := by decide +kernel
theorem dX5_pinches_48 : decode cX5_pinches 48 = .ok (.aload_n 0, 1) := by decide +kernel
theorem dX5_pinches_49 : decode cX5_pinches 49 = .ok (.iload_n 1, 1) := by decide +kernel
theorem dX5_pinches_50 : decode cX5_pinches 50 = .ok (.iload_n 2, 1) := by decide +kernel
theorem dX5_pinches_51 : decode cX5_pinches 51 = .ok (.invokevirtual 183, 3) := by decide +kernel
theorem dX5_pinches_54 : decode cX5_pinches 54 = .ok (.ireturn, 1) := by decide +kernel
theorem dX5_pinches_55 : decode cX5_pinches 55 = .ok (.aload_n 0, 1) := by decide +kernel
theorem dX5_pinches_56 : decode cX5_pinches 56 = .ok (.iload_n 1, 1) := by decide +kernel
theorem dX5_pinches_57 : decode cX5_pinches 57 = .ok (.iload_n 2, 1) := by decide +kernel
theorem dX5_pinches_58 : decode cX5_pinches 58 = .ok (.invokevirtual 186, 3) := by decide +kernel
theorem dX5_pinches_61 : decode cX5_pinches 61 = .ok (.ireturn, 1) := by decide +kernel
theorem dX5_pinches_62 : decode cX5_pinches 62 = .ok (.aload_n 0, 1) := by decide +kernel
theorem dX5_pinches_63 : decode cX5_pinches 63 = .ok (.iload_n 1, 1) := by decide +kernel
theorem dX5_pinches_64 : decode cX5_pinches 64 = .ok (.iload_n 2, 1) := by decide +kernel
theorem dX5_pinches_65 : decode cX5_pinches 65 = .ok (.invokevirtual 189, 3) := by decide +kernel
theorem dX5_pinches_68 : decode cX5_pinches 68 = .ok (.ireturn, 1) := by decide +kernel
theorem dX5_pinches_69 : decode cX5_pinches 69 = .ok (.sipush (-7000), 3) := by decide +kernel
theorem dX5_pinches_72 : decode cX5_pinches 72 = .ok (.ireturn, 1) := by decide +kernel
theorem dX5_can_0 : decode cX5_can 0 = .ok (.aload_n 0, 1) := by decide +kernel
theorem dX5_can_1 : decode cX5_can 1 = .ok (.iload_n 1, 1) := by decide +kernel
theorem dX5_can_2 : decode cX5_can 2 = .ok (.invokevirtual 82, 3) := by decide +kernel
theorem dX5_can_5 : decode cX5_can 5 = .ok (.ifCond .eq 21, 3) := by decide +kernel
theorem dX5_can_8 : decode cX5_can 8 = .ok (.aload_n 0, 1) := by decide +kernel
theorem dX5_can_9 : decode cX5_can 9 = .ok (.getfield 16, 3) := by decide +kernel
theorem dX5_can_12 : decode cX5_can 12 = .ok (.bipush 12, 2) := by decide +kernel
theorem dX5_can_14 : decode cX5_can 14 = .ok (.iload_n 1, 1) := by decide +kernel
theorem dX5_can_15 : decode cX5_can 15 = .ok (.imul, 1) := by decide +kernel
theorem dX5_can_16 : decode cX5_can 16 = .ok (.iload_n 2, 1) := by decide +kernel
theorem dX5_can_17 : decode cX5_can 17 = .ok (.iadd, 1) := by decide +kernel
theorem dX5_can_18 : decode cX5_can 18 = .ok (.iaload, 1) := by decide +kernel
theorem dX5_can_19 : decode cX5_can 19 = .ok (.ifCond .le 7, 3) := by decide +kernel
theorem dX5_can_22 : decode cX5_can 22 = .ok (.iconst 1, 1) := by decide +kernel
theorem dX5_can_23 : decode cX5_can 23 = .ok (.goto 4, 3) := by decide +kernel
theorem dX5_can_26 : decode cX5_can 26 = .ok (.iconst 0, 1) := by decide +kernel
theorem dX5_can_27 : decode cX5_can 27 = .ok (.ireturn, 1) := by decide +kernel
theorem dX5_pinchOf_0 : decode cX5_pinchOf 0 = .ok (.aload_n 0, 1) := by decide +kernel
theorem dX5_pinchOf_1 : decode cX5_pinchOf 1 = .ok (.iload_n 1, 1) := by decide +kernel
theorem dX5_pinchOf_2 : decode cX5_pinchOf 2 = .ok (.iload_n 2, 1) := by decide +kernel
theorem dX5_pinchOf_3 : decode cX5_pinchOf 3 = .ok (.invokevirtual 183, 3) := by decide +kernel
theorem dX5_pinchOf_6 : decode cX5_pinchOf 6 = .ok (.istore_n 3, 1) := by decide +kernel
theorem dX5_pinchOf_7 : decode cX5_pinchOf 7 = .ok (.aload_n 0, 1) := by decide +kernel
theorem dX5_pinchOf_8 : decode cX5_pinchOf 8 = .ok (.iload_n 1, 1) := by decide +kernel
theorem dX5_pinchOf_9 : decode cX5_pinchOf 9 = .ok (.iload_n 2, 1) := by decide +kernel
theorem dX5_pinchOf_10 : decode cX5_pinchOf 10 = .ok (.invokevirtual 186, 3) := by decide +kernel
theorem dX5_pinchOf_13 : decode cX5_pinchOf 13 = .ok (.istore 4, 2) := by decide +kernel
theorem dX5_pinchOf_15 : decode cX5_pinchOf 15 = .ok (.aload_n 0, 1) := by decide +kernel
theorem dX5_pinchOf_16 : decode cX5_pinchOf 16 = .ok (.iload_n 1, 1) := by decide +kernel
theorem dX5_pinchOf_17 : decode cX5_pinchOf 17 = .ok (.iload_n 2, 1) := by decide +kernel
theorem dX5_pinchOf_18 : decode cX5_pinchOf 18 = .ok (.invokevirtual 189, 3) := by decide +kernel
theorem dX5_pinchOf_21 : decode cX5_pinchOf 21 = .ok (.istore 5, 2) := by decide +kernel
theorem dX5_pinchOf_23 : decode cX5_pinchOf 23 = .ok (.aload_n 0, 1) := by decide +kernel
theorem dX5_pinchOf_24 : decode cX5_pinchOf 24 = .ok (.getfield 16, 3) := by decide +kernel
theorem dX5_pinchOf_27 : decode cX5_pinchOf 27 = .ok (.bipush 12, 2) := by decide +kernel
theorem dX5_pinchOf_29 : decode cX5_pinchOf 29 = .ok (.iload_n 1, 1) := by decide +kernel
theorem dX5_pinchOf_30 : decode cX5_pinchOf 30 = .ok (.imul, 1) := by decide +kernel
theorem dX5_pinchOf_31 : decode cX5_pinchOf 31 = .ok (.iload_n 2, 1) := by decide +kernel
theorem dX5_pinchOf_32 : decode cX5_pinchOf 32 = .ok (.iadd, 1) := by decide +kernel
theorem dX5_pinchOf_33 : decode cX5_pinchOf 33 = .ok (.dup2, 1) := by decide +kernel
theorem dX5_pinchOf_34 : decode cX5_pinchOf 34 = .ok (.iaload, 1) := by decide +kernel
theorem dX5_pinchOf_35 : decode cX5_pinchOf 35 = .ok (.iconst 1, 1) := by decide +kernel
theorem dX5_pinchOf_36 : decode cX5_pinchOf 36 = .ok (.isub, 1) := by decide +kernel
theorem dX5_pinchOf_37 : decode cX5_pinchOf 37 = .ok (.iastore, 1) := by decide +kernel
theorem dX5_pinchOf_38 : decode cX5_pinchOf 38 = .ok (.iload_n 1, 1) := by decide +kernel
theorem dX5_pinchOf_39 : decode cX5_pinchOf 39 = .ok (.iconst 1, 1) := by decide +kernel
theorem dX5_pinchOf_40 : decode cX5_pinchOf 40 = .ok (.iadd, 1) := by decide +kernel
theorem dX5_pinchOf_41 : decode cX5_pinchOf 41 = .ok (.aload_n 0, 1) := by decide +kernel
theorem dX5_pinchOf_42 : decode cX5_pinchOf 42 = .ok (.getfield 75, 3) := by decide +kernel
theorem dX5_pinchOf_45 : decode cX5_pinchOf 45 = .ok (.if_icmp .ne 7, 3) := by decide +kernel
theorem dX5_pinchOf_48 : decode cX5_pinchOf 48 = .ok (.iconst 0, 1) := by decide +kernel
theorem dX5_pinchOf_49 : decode cX5_pinchOf 49 = .ok (.goto 6, 3) := by decide +kernel
theorem dX5_pinchOf_52 : decode cX5_pinchOf 52 = .ok (.iload_n 1, 1) := by decide +kernel
theorem dX5_pinchOf_53 : decode cX5_pinchOf 53 = .ok (.iconst 1, 1) := by decide +kernel
theorem dX5_pinchOf_54 : decode cX5_pinchOf 54 = .ok (.iadd, 1) := by decide +kernel
theorem dX5_pinchOf_55 : decode cX5_pinchOf 55 = .ok (.istore 6, 2) := by decide +kernel
theorem dX5_pinchOf_57 : decode cX5_pinchOf 57 = .ok (.iload 6, 2) := by decide +kernel
theorem dX5_pinchOf_59 : decode cX5_pinchOf 59 = .ok (.iload_n 1, 1) := by decide +kernel
theorem dX5_pinchOf_60 : decode cX5_pinchOf 60 = .ok (.if_icmp .eq 103, 3) := by decide +kernel
theorem dX5_pinchOf_63 : decode cX5_pinchOf 63 = .ok (.iload 5, 2) := by decide +kernel
theorem dX5_pinchOf_65 : decode cX5_pinchOf 65 = .ok (.aload_n 0, 1) := by decide +kernel
theorem dX5_pinchOf_66 : decode cX5_pinchOf 66 = .ok (.getfield 16, 3) := by decide +kernel
theorem dX5_pinchOf_69 : decode cX5_pinchOf 69 = .ok (.bipush 12, 2) := by decide +kernel
theorem dX5_pinchOf_71 : decode cX5_pinchOf 71 = .ok (.iload_n 1, 1) := by decide +kernel
theorem dX5_pinchOf_72 : decode cX5_pinchOf 72 = .ok (.imul, 1) := by decide +kernel
theorem dX5_pinchOf_73 : decode cX5_pinchOf 73 = .ok (.iload_n 2, 1) := by decide +kernel
theorem dX5_pinchOf_74 : decode cX5_pinchOf 74 = .ok (.iadd, 1) := by decide +kernel
theorem dX5_pinchOf_75 : decode cX5_pinchOf 75 = .ok (.iaload, 1) := by decide +kernel
theorem dX5_pinchOf_76 : decode cX5_pinchOf 76 = .ok (.if_icmp .ge 8, 3) := by decide +kernel
theorem dX5_pinchOf_79 : decode cX5_pinchOf 79 = .ok (.iload 5, 2) := by decide +kernel
theorem dX5_pinchOf_81 : decode cX5_pinchOf 81 = .ok (.goto 14, 3) := by decide +kernel
theorem dX5_pinchOf_84 : decode cX5_pinchOf 84 = .ok (.aload_n 0, 1) := by decide +kernel
theorem dX5_pinchOf_85 : decode cX5_pinchOf 85 = .ok (.getfield 16, 3) := by decide +kernel
theorem dX5_pinchOf_88 : decode cX5_pinchOf 88 = .ok (.bipush 12, 2) := by decide +kernel
theorem dX5_pinchOf_90 : decode cX5_pinchOf 90 = .ok (.iload_n 1, 1) := by decide +kernel
theorem dX5_pinchOf_91 : decode cX5_pinchOf 91 = .ok (.imul, 1) := by decide +kernel
theorem dX5_pinchOf_92 : decode cX5_pinchOf 92 = .ok (.iload_n 2, 1) := by decide +kernel
theorem dX5_pinchOf_93 : decode cX5_pinchOf 93 = .ok (.iadd, 1) := by decide +kernel
theorem dX5_pinchOf_94 : decode cX5_pinchOf 94 = .ok (.iaload, 1) := by decide +kernel
theorem dX5_pinchOf_95 : decode cX5_pinchOf 95 = .ok (.istore 7, 2) := by decide +kernel
theorem dX5_pinchOf_97 : decode cX5_pinchOf 97 = .ok (.bipush 9, 2) := by decide +kernel
theorem dX5_pinchOf_99 : decode cX5_pinchOf 99 = .ok (.aload_n 0, 1) := by decide +kernel
theorem dX5_pinchOf_100 : decode cX5_pinchOf 100 = .ok (.getfield 16, 3) := by decide +kernel
theorem dX5_pinchOf_103 : decode cX5_pinchOf 103 = .ok (.bipush 12, 2) := by decide +kernel
theorem dX5_pinchOf_105 : decode cX5_pinchOf 105 = .ok (.iload 6, 2) := by decide +kernel
theorem dX5_pinchOf_107 : decode cX5_pinchOf 107 = .ok (.imul, 1) := by decide +kernel
theorem dX5_pinchOf_108 : decode cX5_pinchOf 108 = .ok (.iload_n 2, 1) := by decide +kernel
theorem dX5_pinchOf_109 : decode cX5_pinchOf 109 = .ok (.iadd, 1) := by decide +kernel
theorem dX5_pinchOf_110 : decode cX5_pinchOf 110 = .ok (.iaload, 1) := by decide +kernel
theorem dX5_pinchOf_111 : decode cX5_pinchOf 111 = .ok (.isub, 1) := by decide +kernel
theorem dX5_pinchOf_112 : decode cX5_pinchOf 112 = .ok (.istore 8, 2) := by decide +kernel
theorem dX5_pinchOf_114 : decode cX5_pinchOf 114 = .ok (.iload 8, 2) := by decide +kernel
theorem dX5_pinchOf_116 : decode cX5_pinchOf 116 = .ok (.iload 7, 2) := by decide +kernel
theorem dX5_pinchOf_118 : decode cX5_pinchOf 118 = .ok (.if_icmp .ge 8, 3) := by decide +kernel
theorem dX5_pinchOf_121 : decode cX5_pinchOf 121 = .ok (.iload 8, 2) := by decide +kernel
theorem dX5_pinchOf_123 : decode cX5_pinchOf 123 = .ok (.goto 5, 3) := by decide +kernel
theorem dX5_pinchOf_126 : decode cX5_pinchOf 126 = .ok (.iload 7, 2) := by decide +kernel
theorem dX5_pinchOf_128 : decode cX5_pinchOf 128 = .ok (.istore 7, 2) := by decide +kernel
theorem dX5_pinchOf_130 : decode cX5_pinchOf 130 = .ok (.aload_n 0, 1) := by decide +kernel
theorem dX5_pinchOf_131 : decode cX5_pinchOf 131 = .ok (.getfield 16, 3) := by decide +kernel
theorem dX5_pinchOf_134 : decode cX5_pinchOf 134 = .ok (.bipush 12, 2) := by decide +kernel
theorem dX5_pinchOf_136 : decode cX5_pinchOf 136 = .ok (.iload_n 1, 1) := by decide +kernel
theorem dX5_pinchOf_137 : decode cX5_pinchOf 137 = .ok (.imul, 1) := by decide +kernel
theorem dX5_pinchOf_138 : decode cX5_pinchOf 138 = .ok (.iload_n 2, 1) := by decide +kernel
theorem dX5_pinchOf_139 : decode cX5_pinchOf 139 = .ok (.iadd, 1) := by decide +kernel
theorem dX5_pinchOf_140 : decode cX5_pinchOf 140 = .ok (.dup2, 1) := by decide +kernel
theorem dX5_pinchOf_141 : decode cX5_pinchOf 141 = .ok (.iaload, 1) := by decide +kernel
theorem dX5_pinchOf_142 : decode cX5_pinchOf 142 = .ok (.iload 7, 2) := by decide +kernel
theorem dX5_pinchOf_144 : decode cX5_pinchOf 144 = .ok (.isub, 1) := by decide +kernel
theorem dX5_pinchOf_145 : decode cX5_pinchOf 145 = .ok (.iastore, 1) := by decide +kernel
theorem dX5_pinchOf_146 : decode cX5_pinchOf 146 = .ok (.aload_n 0, 1) := by decide +kernel
theorem dX5_pinchOf_147 : decode cX5_pinchOf 147 = .ok (.getfield 16, 3) := by decide +kernel
theorem dX5_pinchOf_150 : decode cX5_pinchOf 150 = .ok (.bipush 12, 2) := by decide +kernel
theorem dX5_pinchOf_152 : decode cX5_pinchOf 152 = .ok (.iload 6, 2) := by decide +kernel
theorem dX5_pinchOf_154 : decode cX5_pinchOf 154 = .ok (.imul, 1) := by decide +kernel
theorem dX5_pinchOf_155 : decode cX5_pinchOf 155 = .ok (.iload_n 2, 1) := by decide +kernel
theorem dX5_pinchOf_156 : decode cX5_pinchOf 156 = .ok (.iadd, 1) := by decide +kernel
theorem dX5_pinchOf_157 : decode cX5_pinchOf 157 = .ok (.dup2, 1) := by decide +kernel
theorem dX5_pinchOf_158 : decode cX5_pinchOf 158 = .ok (.iaload, 1) := by decide +kernel
theorem dX5_pinchOf_159 : decode cX5_pinchOf 159 = .ok (.iload 7, 2) := by decide +kernel
theorem dX5_pinchOf_161 : decode cX5_pinchOf 161 = .ok (.iadd, 1) := by decide +kernel
theorem dX5_pinchOf_162 : decode cX5_pinchOf 162 = .ok (.iastore, 1) := by decide +kernel
theorem dX5_pinchOf_163 : decode cX5_pinchOf 163 = .ok (.aload_n 0, 1) := by decide +kernel
theorem dX5_pinchOf_164 : decode cX5_pinchOf 164 = .ok (.getfield 16, 3) := by decide +kernel
theorem dX5_pinchOf_167 : decode cX5_pinchOf 167 = .ok (.bipush 12, 2) := by decide +kernel
theorem dX5_pinchOf_169 : decode cX5_pinchOf 169 = .ok (.iload_n 1, 1) := by decide +kernel
theorem dX5_pinchOf_170 : decode cX5_pinchOf 170 = .ok (.imul, 1) := by decide +kernel
theorem dX5_pinchOf_171 : decode cX5_pinchOf 171 = .ok (.bipush 8, 2) := by decide +kernel
theorem dX5_pinchOf_173 : decode cX5_pinchOf 173 = .ok (.iadd, 1) := by decide +kernel
theorem dX5_pinchOf_174 : decode cX5_pinchOf 174 = .ok (.aload_n 0, 1) := by decide +kernel
theorem dX5_pinchOf_175 : decode cX5_pinchOf 175 = .ok (.getfield 16, 3) := by decide +kernel
theorem dX5_pinchOf_178 : decode cX5_pinchOf 178 = .ok (.bipush 12, 2) := by decide +kernel
theorem dX5_pinchOf_180 : decode cX5_pinchOf 180 = .ok (.iload_n 1, 1) := by decide +kernel
theorem dX5_pinchOf_181 : decode cX5_pinchOf 181 = .ok (.imul, 1) := by decide +kernel
theorem dX5_pinchOf_182 : decode cX5_pinchOf 182 = .ok (.bipush 8, 2) := by decide +kernel
theorem dX5_pinchOf_184 : decode cX5_pinchOf 184 = .ok (.iadd, 1) := by decide +kernel
theorem dX5_pinchOf_185 : decode cX5_pinchOf 185 = .ok (.iaload, 1) := by decide +kernel
theorem dX5_pinchOf_186 : decode cX5_pinchOf 186 = .ok (.iload 4, 2) := by decide +kernel
theorem dX5_pinchOf_188 : decode cX5_pinchOf 188 = .ok (.iadd, 1) := by decide +kernel
theorem dX5_pinchOf_189 : decode cX5_pinchOf 189 = .ok (.iconst 0, 1) := by decide +kernel
theorem dX5_pinchOf_190 : decode cX5_pinchOf 190 = .ok (.bipush 99, 2) := by decide +kernel
theorem dX5_pinchOf_192 : decode cX5_pinchOf 192 = .ok (.invokestatic 167, 3) := by decide +kernel
theorem dX5_pinchOf_195 : decode cX5_pinchOf 195 = .ok (.iastore, 1) := by decide +kernel
theorem dX5_pinchOf_196 : decode cX5_pinchOf 196 = .ok (.aload_n 0, 1) := by decide +kernel
theorem dX5_pinchOf_197 : decode cX5_pinchOf 197 = .ok (.getfield 16, 3) := by decide +kernel
theorem dX5_pinchOf_200 : decode cX5_pinchOf 200 = .ok (.bipush 12, 2) := by decide +kernel
theorem dX5_pinchOf_202 : decode cX5_pinchOf 202 = .ok (.iload_n 1, 1) := by decide +kernel
theorem dX5_pinchOf_203 : decode cX5_pinchOf 203 = .ok (.imul, 1) := by decide +kernel
theorem dX5_pinchOf_204 : decode cX5_pinchOf 204 = .ok (.bipush 9, 2) := by decide +kernel
theorem dX5_pinchOf_206 : decode cX5_pinchOf 206 = .ok (.iadd, 1) := by decide +kernel
theorem dX5_pinchOf_207 : decode cX5_pinchOf 207 = .ok (.dup2, 1) := by decide +kernel
theorem dX5_pinchOf_208 : decode cX5_pinchOf 208 = .ok (.iaload, 1) := by decide +kernel
theorem dX5_pinchOf_209 : decode cX5_pinchOf 209 = .ok (.iconst 1, 1) := by decide +kernel
theorem dX5_pinchOf_210 : decode cX5_pinchOf 210 = .ok (.iload_n 2, 1) := by decide +kernel
theorem dX5_pinchOf_211 : decode cX5_pinchOf 211 = .ok (.ishl, 1) := by decide +kernel
theorem dX5_pinchOf_212 : decode cX5_pinchOf 212 = .ok (.ior, 1) := by decide +kernel
theorem dX5_pinchOf_213 : decode cX5_pinchOf 213 = .ok (.iastore, 1) := by decide +kernel
theorem dX5_pinchOf_214 : decode cX5_pinchOf 214 = .ok (.aload_n 0, 1) := by decide +kernel
theorem dX5_pinchOf_215 : decode cX5_pinchOf 215 = .ok (.getfield 16, 3) := by decide +kernel
theorem dX5_pinchOf_218 : decode cX5_pinchOf 218 = .ok (.bipush 12, 2) := by decide +kernel
theorem dX5_pinchOf_220 : decode cX5_pinchOf 220 = .ok (.iload_n 1, 1) := by decide +kernel
theorem dX5_pinchOf_221 : decode cX5_pinchOf 221 = .ok (.imul, 1) := by decide +kernel
theorem dX5_pinchOf_222 : decode cX5_pinchOf 222 = .ok (.bipush 10, 2) := by decide +kernel
theorem dX5_pinchOf_224 : decode cX5_pinchOf 224 = .ok (.iadd, 1) := by decide +kernel
theorem dX5_pinchOf_225 : decode cX5_pinchOf 225 = .ok (.iload_n 2, 1) := by decide +kernel
theorem dX5_pinchOf_226 : decode cX5_pinchOf 226 = .ok (.iastore, 1) := by decide +kernel
theorem dX5_pinchOf_227 : decode cX5_pinchOf 227 = .ok (.aload_n 0, 1) := by decide +kernel
theorem dX5_pinchOf_228 : decode cX5_pinchOf 228 = .ok (.getfield 16, 3) := by decide +kernel
theorem dX5_pinchOf_231 : decode cX5_pinchOf 231 = .ok (.bipush 12, 2) := by decide +kernel
theorem dX5_pinchOf_233 : decode cX5_pinchOf 233 = .ok (.iload_n 1, 1) := by decide +kernel
theorem dX5_pinchOf_234 : decode cX5_pinchOf 234 = .ok (.imul, 1) := by decide +kernel
theorem dX5_pinchOf_235 : decode cX5_pinchOf 235 = .ok (.bipush 11, 2) := by decide +kernel
theorem dX5_pinchOf_237 : decode cX5_pinchOf 237 = .ok (.iadd, 1) := by decide +kernel
theorem dX5_pinchOf_238 : decode cX5_pinchOf 238 = .ok (.iload_n 3, 1) := by decide +kernel
theorem dX5_pinchOf_239 : decode cX5_pinchOf 239 = .ok (.iastore, 1) := by decide +kernel
theorem dX5_pinchOf_240 : decode cX5_pinchOf 240 = .ok (.return_, 1) := by decide +kernel
theorem dX5_pinch_0 : decode cX5_pinch 0 = .ok (.aload_n 0, 1) := by decide +kernel
theorem dX5_pinch_1 : decode cX5_pinch 1 = .ok (.iload_n 1, 1) := by decide +kernel
theorem dX5_pinch_2 : decode cX5_pinch 2 = .ok (.invokevirtual 170, 3) := by decide +kernel
theorem dX5_pinch_5 : decode cX5_pinch 5 = .ok (.ifCond .ne 6, 3) := by decide +kernel
theorem dX5_pinch_8 : decode cX5_pinch 8 = .ok (.bipush (-5), 2) := by decide +kernel
theorem dX5_pinch_10 : decode cX5_pinch 10 = .ok (.ireturn, 1) := by decide +kernel
theorem dX5_pinch_11 : decode cX5_pinch 11 = .ok (.iload_n 2, 1) := by decide +kernel
theorem dX5_pinch_12 : decode cX5_pinch 12 = .ok (.invokestatic 173, 3) := by decide +kernel
theorem dX5_pinch_15 : decode cX5_pinch 15 = .ok (.ifCond .ne 6, 3) := by decide +kernel
theorem dX5_pinch_18 : decode cX5_pinch 18 = .ok (.bipush (-6), 2) := by decide +kernel
theorem dX5_pinch_20 : decode cX5_pinch 20 = .ok (.ireturn, 1) := by decide +kernel
theorem dX5_pinch_21 : decode cX5_pinch 21 = .ok (.aload_n 0, 1) := by decide +kernel
theorem dX5_pinch_22 : decode cX5_pinch 22 = .ok (.iload_n 1, 1) := by decide +kernel
theorem dX5_pinch_23 : decode cX5_pinch 23 = .ok (.iload_n 2, 1) := by decide +kernel
theorem dX5_pinch_24 : decode cX5_pinch 24 = .ok (.invokevirtual 192, 3) := by decide +kernel
theorem dX5_pinch_27 : decode cX5_pinch 27 = .ok (.ifCond .ne 6, 3) := by decide +kernel
theorem dX5_pinch_30 : decode cX5_pinch 30 = .ok (.bipush (-3), 2) := by decide +kernel
theorem dX5_pinch_32 : decode cX5_pinch 32 = .ok (.ireturn, 1) := by decide +kernel
theorem dX5_pinch_33 : decode cX5_pinch 33 = .ok (.aload_n 0, 1) := by decide +kernel
theorem dX5_pinch_34 : decode cX5_pinch 34 = .ok (.iload_n 1, 1) := by decide +kernel
theorem dX5_pinch_35 : decode cX5_pinch 35 = .ok (.iload_n 2, 1) := by decide +kernel
theorem dX5_pinch_36 : decode cX5_pinch 36 = .ok (.invokevirtual 195, 3) := by decide +kernel
theorem dX5_pinch_39 : decode cX5_pinch 39 = .ok (.aload_n 0, 1) := by decide +kernel
theorem dX5_pinch_40 : decode cX5_pinch 40 = .ok (.getfield 16, 3) := by decide +kernel
theorem dX5_pinch_43 : decode cX5_pinch 43 = .ok (.bipush 12, 2) := by decide +kernel
theorem dX5_pinch_45 : decode cX5_pinch 45 = .ok (.iload_n 1, 1) := by decide +kernel
theorem dX5_pinch_46 : decode cX5_pinch 46 = .ok (.imul, 1) := by decide +kernel
theorem dX5_pinch_47 : decode cX5_pinch 47 = .ok (.bipush 11, 2) := by decide +kernel
theorem dX5_pinch_49 : decode cX5_pinch 49 = .ok (.iadd, 1) := by decide +kernel
theorem dX5_pinch_50 : decode cX5_pinch 50 = .ok (.iaload, 1) := by decide +kernel
theorem dX5_pinch_51 : decode cX5_pinch 51 = .ok (.ireturn, 1) := by decide +kernel
theorem dX5_give_0 : decode cX5_give 0 = .ok (.aload_n 0, 1) := by decide +kernel
theorem dX5_give_1 : decode cX5_give 1 = .ok (.iload_n 1, 1) := by decide +kernel
theorem dX5_give_2 : decode cX5_give 2 = .ok (.invokevirtual 170, 3) := by decide +kernel
theorem dX5_give_5 : decode cX5_give 5 = .ok (.ifCond .eq 16, 3) := by decide +kernel
theorem dX5_give_8 : decode cX5_give 8 = .ok (.aload_n 0, 1) := by decide +kernel
theorem dX5_give_9 : decode cX5_give 9 = .ok (.iload_n 2, 1) := by decide +kernel
theorem dX5_give_10 : decode cX5_give 10 = .ok (.invokevirtual 170, 3) := by decide +kernel
theorem dX5_give_13 : decode cX5_give 13 = .ok (.ifCond .eq 8, 3) := by decide +kernel
theorem dX5_give_16 : decode cX5_give 16 = .ok (.iload_n 1, 1) := by decide +kernel
theorem dX5_give_17 : decode cX5_give 17 = .ok (.iload_n 2, 1) := by decide +kernel
theorem dX5_give_18 : decode cX5_give 18 = .ok (.if_icmp .ne 6, 3) := by decide +kernel
theorem dX5_give_21 : decode cX5_give 21 = .ok (.bipush (-5), 2) := by decide +kernel
theorem dX5_give_23 : decode cX5_give 23 = .ok (.ireturn, 1) := by decide +kernel
theorem dX5_give_24 : decode cX5_give 24 = .ok (.iload_n 3, 1) := by decide +kernel
theorem dX5_give_25 : decode cX5_give 25 = .ok (.invokestatic 173, 3) := by decide +kernel
theorem dX5_give_28 : decode cX5_give 28 = .ok (.ifCond .ne 6, 3) := by decide +kernel
theorem dX5_give_31 : decode cX5_give 31 = .ok (.bipush (-6), 2) := by decide +kernel
theorem dX5_give_33 : decode cX5_give 33 = .ok (.ireturn, 1) := by decide +kernel
theorem dX5_give_34 : decode cX5_give 34 = .ok (.aload_n 0, 1) := by decide +kernel
theorem dX5_give_35 : decode cX5_give 35 = .ok (.getfield 16, 3) := by decide +kernel
theorem dX5_give_38 : decode cX5_give 38 = .ok (.bipush 12, 2) := by decide +kernel
theorem dX5_give_40 : decode cX5_give 40 = .ok (.iload_n 1, 1) := by decide +kernel
theorem dX5_give_41 : decode cX5_give 41 = .ok (.imul, 1) := by decide +kernel
theorem dX5_give_42 : decode cX5_give 42 = .ok (.iload_n 3, 1) := by decide +kernel
theorem dX5_give_43 : decode cX5_give 43 = .ok (.iadd, 1) := by decide +kernel
theorem dX5_give_44 : decode cX5_give 44 = .ok (.iaload, 1) := by decide +kernel
theorem dX5_give_45 : decode cX5_give 45 = .ok (.ifCond .eq 19, 3) := by decide +kernel
theorem dX5_give_48 : decode cX5_give 48 = .ok (.aload_n 0, 1) := by decide +kernel
theorem dX5_give_49 : decode cX5_give 49 = .ok (.getfield 16, 3) := by decide +kernel
theorem dX5_give_52 : decode cX5_give 52 = .ok (.bipush 12, 2) := by decide +kernel
theorem dX5_give_54 : decode cX5_give 54 = .ok (.iload_n 2, 1) := by decide +kernel
theorem dX5_give_55 : decode cX5_give 55 = .ok (.imul, 1) := by decide +kernel
theorem dX5_give_56 : decode cX5_give 56 = .ok (.iload_n 3, 1) := by decide +kernel
theorem dX5_give_57 : decode cX5_give 57 = .ok (.iadd, 1) := by decide +kernel
theorem dX5_give_58 : decode cX5_give 58 = .ok (.iaload, 1) := by decide +kernel
theorem dX5_give_59 : decode cX5_give 59 = .ok (.bipush 9, 2) := by decide +kernel
theorem dX5_give_61 : decode cX5_give 61 = .ok (.if_icmp .ne 6, 3) := by decide +kernel
theorem dX5_give_64 : decode cX5_give 64 = .ok (.bipush (-3), 2) := by decide +kernel
theorem dX5_give_66 : decode cX5_give 66 = .ok (.ireturn, 1) := by decide +kernel
theorem dX5_give_67 : decode cX5_give 67 = .ok (.aload_n 0, 1) := by decide +kernel
theorem dX5_give_68 : decode cX5_give 68 = .ok (.getfield 16, 3) := by decide +kernel
theorem dX5_give_71 : decode cX5_give 71 = .ok (.bipush 12, 2) := by decide +kernel
theorem dX5_give_73 : decode cX5_give 73 = .ok (.iload_n 1, 1) := by decide +kernel
theorem dX5_give_74 : decode cX5_give 74 = .ok (.imul, 1) := by decide +kernel
theorem dX5_give_75 : decode cX5_give 75 = .ok (.iload_n 3, 1) := by decide +kernel
theorem dX5_give_76 : decode cX5_give 76 = .ok (.iadd, 1) := by decide +kernel
theorem dX5_give_77 : decode cX5_give 77 = .ok (.dup2, 1) := by decide +kernel
theorem dX5_give_78 : decode cX5_give 78 = .ok (.iaload, 1) := by decide +kernel
theorem dX5_give_79 : decode cX5_give 79 = .ok (.iconst 1, 1) := by decide +kernel
theorem dX5_give_80 : decode cX5_give 80 = .ok (.isub, 1) := by decide +kernel
theorem dX5_give_81 : decode cX5_give 81 = .ok (.iastore, 1) := by decide +kernel
theorem dX5_give_82 : decode cX5_give 82 = .ok (.aload_n 0, 1) := by decide +kernel
theorem dX5_give_83 : decode cX5_give 83 = .ok (.getfield 16, 3) := by decide +kernel
theorem dX5_give_86 : decode cX5_give 86 = .ok (.bipush 12, 2) := by decide +kernel
theorem dX5_give_88 : decode cX5_give 88 = .ok (.iload_n 2, 1) := by decide +kernel
theorem dX5_give_89 : decode cX5_give 89 = .ok (.imul, 1) := by decide +kernel
theorem dX5_give_90 : decode cX5_give 90 = .ok (.iload_n 3, 1) := by decide +kernel
theorem dX5_give_91 : decode cX5_give 91 = .ok (.iadd, 1) := by decide +kernel
theorem dX5_give_92 : decode cX5_give 92 = .ok (.dup2, 1) := by decide +kernel
theorem dX5_give_93 : decode cX5_give 93 = .ok (.iaload, 1) := by decide +kernel
theorem dX5_give_94 : decode cX5_give 94 = .ok (.iconst 1, 1) := by decide +kernel
theorem dX5_give_95 : decode cX5_give 95 = .ok (.iadd, 1) := by decide +kernel
theorem dX5_give_96 : decode cX5_give 96 = .ok (.iastore, 1) := by decide +kernel
theorem dX5_give_97 : decode cX5_give 97 = .ok (.aload_n 0, 1) := by decide +kernel
theorem dX5_give_98 : decode cX5_give 98 = .ok (.getfield 16, 3) := by decide +kernel
theorem dX5_give_101 : decode cX5_give 101 = .ok (.bipush 12, 2) := by decide +kernel
theorem dX5_give_103 : decode cX5_give 103 = .ok (.iload_n 2, 1) := by decide +kernel
theorem dX5_give_104 : decode cX5_give 104 = .ok (.imul, 1) := by decide +kernel
theorem dX5_give_105 : decode cX5_give 105 = .ok (.iload_n 3, 1) := by decide +kernel
theorem dX5_give_106 : decode cX5_give 106 = .ok (.iadd, 1) := by decide +kernel
theorem dX5_give_107 : decode cX5_give 107 = .ok (.iaload, 1) := by decide +kernel
theorem dX5_give_108 : decode cX5_give 108 = .ok (.ireturn, 1) := by decide +kernel
theorem dX5_minuteOf_0 : decode cX5_minuteOf 0 = .ok (.iconst 0, 1) := by decide +kernel
theorem dX5_minuteOf_1 : decode cX5_minuteOf 1 = .ok (.istore_n 1, 1) := by decide +kernel
theorem dX5_minuteOf_2 : decode cX5_minuteOf 2 = .ok (.iconst 0, 1) := by decide +kernel
theorem dX5_minuteOf_3 : decode cX5_minuteOf 3 = .ok (.istore_n 2, 1) := by decide +kernel
theorem dX5_minuteOf_4 : decode cX5_minuteOf 4 = .ok (.iload_n 2, 1) := by decide +kernel
theorem dX5_minuteOf_5 : decode cX5_minuteOf 5 = .ok (.aload_n 0, 1) := by decide +kernel
theorem dX5_minuteOf_6 : decode cX5_minuteOf 6 = .ok (.getfield 75, 3) := by decide +kernel
theorem dX5_minuteOf_9 : decode cX5_minuteOf 9 = .ok (.if_icmp .ge 67, 3) := by decide +kernel
theorem dX5_minuteOf_12 : decode cX5_minuteOf 12 = .ok (.aload_n 0, 1) := by decide +kernel
theorem dX5_minuteOf_13 : decode cX5_minuteOf 13 = .ok (.iload_n 2, 1) := by decide +kernel
theorem dX5_minuteOf_14 : decode cX5_minuteOf 14 = .ok (.invokevirtual 82, 3) := by decide +kernel
theorem dX5_minuteOf_17 : decode cX5_minuteOf 17 = .ok (.ifCond .ne 53, 3) := by decide +kernel
theorem dX5_minuteOf_20 : decode cX5_minuteOf 20 = .ok (.aload_n 0, 1) := by decide +kernel
theorem dX5_minuteOf_21 : decode cX5_minuteOf 21 = .ok (.getfield 16, 3) := by decide +kernel
theorem dX5_minuteOf_24 : decode cX5_minuteOf 24 = .ok (.bipush 12, 2) := by decide +kernel
theorem dX5_minuteOf_26 : decode cX5_minuteOf 26 = .ok (.iload_n 2, 1) := by decide +kernel
theorem dX5_minuteOf_27 : decode cX5_minuteOf 27 = .ok (.imul, 1) := by decide +kernel
theorem dX5_minuteOf_28 : decode cX5_minuteOf 28 = .ok (.bipush 11, 2) := by decide +kernel
theorem dX5_minuteOf_30 : decode cX5_minuteOf 30 = .ok (.iadd, 1) := by decide +kernel
theorem dX5_minuteOf_31 : decode cX5_minuteOf 31 = .ok (.dup2, 1) := by decide +kernel
theorem dX5_minuteOf_32 : decode cX5_minuteOf 32 = .ok (.iaload, 1) := by decide +kernel
theorem dX5_minuteOf_33 : decode cX5_minuteOf 33 = .ok (.iconst 1, 1) := by decide +kernel
theorem dX5_minuteOf_34 : decode cX5_minuteOf 34 = .ok (.isub, 1) := by decide +kernel
theorem dX5_minuteOf_35 : decode cX5_minuteOf 35 = .ok (.iastore, 1) := by decide +kernel
theorem dX5_minuteOf_36 : decode cX5_minuteOf 36 = .ok (.aload_n 0, 1) := by decide +kernel
theorem dX5_minuteOf_37 : decode cX5_minuteOf 37 = .ok (.getfield 16, 3) := by decide +kernel
theorem dX5_minuteOf_40 : decode cX5_minuteOf 40 = .ok (.bipush 12, 2) := by decide +kernel
theorem dX5_minuteOf_42 : decode cX5_minuteOf 42 = .ok (.iload_n 2, 1) := by decide +kernel
theorem dX5_minuteOf_43 : decode cX5_minuteOf 43 = .ok (.imul, 1) := by decide +kernel
theorem dX5_minuteOf_44 : decode cX5_minuteOf 44 = .ok (.bipush 11, 2) := by decide +kernel
theorem dX5_minuteOf_46 : decode cX5_minuteOf 46 = .ok (.iadd, 1) := by decide +kernel
theorem dX5_minuteOf_47 : decode cX5_minuteOf 47 = .ok (.iaload, 1) := by decide +kernel
theorem dX5_minuteOf_48 : decode cX5_minuteOf 48 = .ok (.ifCond .ne 22, 3) := by decide +kernel
theorem dX5_minuteOf_51 : decode cX5_minuteOf 51 = .ok (.aload_n 0, 1) := by decide +kernel
theorem dX5_minuteOf_52 : decode cX5_minuteOf 52 = .ok (.getfield 16, 3) := by decide +kernel
theorem dX5_minuteOf_55 : decode cX5_minuteOf 55 = .ok (.bipush 12, 2) := by decide +kernel
theorem dX5_minuteOf_57 : decode cX5_minuteOf 57 = .ok (.iload_n 2, 1) := by decide +kernel
theorem dX5_minuteOf_58 : decode cX5_minuteOf 58 = .ok (.imul, 1) := by decide +kernel
theorem dX5_minuteOf_59 : decode cX5_minuteOf 59 = .ok (.bipush 10, 2) := by decide +kernel
theorem dX5_minuteOf_61 : decode cX5_minuteOf 61 = .ok (.iadd, 1) := by decide +kernel
theorem dX5_minuteOf_62 : decode cX5_minuteOf 62 = .ok (.iconst (-1), 1) := by decide +kernel
theorem dX5_minuteOf_63 : decode cX5_minuteOf 63 = .ok (.iastore, 1) := by decide +kernel
theorem dX5_minuteOf_64 : decode cX5_minuteOf 64 = .ok (.iload_n 1, 1) := by decide +kernel
theorem dX5_minuteOf_65 : decode cX5_minuteOf 65 = .ok (.iconst 1, 1) := by decide +kernel
theorem dX5_minuteOf_66 : decode cX5_minuteOf 66 = .ok (.iload_n 2, 1) := by decide +kernel
theorem dX5_minuteOf_67 : decode cX5_minuteOf 67 = .ok (.ishl, 1) := by decide +kernel
theorem dX5_minuteOf_68 : decode cX5_minuteOf 68 = .ok (.ior, 1) := by decide +kernel
theorem dX5_minuteOf_69 : decode cX5_minuteOf 69 = .ok (.istore_n 1, 1) := by decide +kernel
theorem dX5_minuteOf_70 : decode cX5_minuteOf 70 = .ok (.iinc 2 1, 3) := by decide +kernel
theorem dX5_minuteOf_73 : decode cX5_minuteOf 73 = .ok (.goto (-69), 3) := by decide +kernel
theorem dX5_minuteOf_76 : decode cX5_minuteOf 76 = .ok (.aload_n 0, 1) := by decide +kernel
theorem dX5_minuteOf_77 : decode cX5_minuteOf 77 = .ok (.dup, 1) := by decide +kernel
theorem dX5_minuteOf_78 : decode cX5_minuteOf 78 = .ok (.getfield 86, 3) := by decide +kernel
theorem dX5_minuteOf_81 : decode cX5_minuteOf 81 = .ok (.iconst 1, 1) := by decide +kernel
theorem dX5_minuteOf_82 : decode cX5_minuteOf 82 = .ok (.iadd, 1) := by decide +kernel
theorem dX5_minuteOf_83 : decode cX5_minuteOf 83 = .ok (.putfield 86, 3) := by decide +kernel
theorem dX5_minuteOf_86 : decode cX5_minuteOf 86 = .ok (.iload_n 1, 1) := by decide +kernel
theorem dX5_minuteOf_87 : decode cX5_minuteOf 87 = .ok (.ireturn, 1) := by decide +kernel
theorem dX5_minute_0 : decode cX5_minute 0 = .ok (.aload_n 0, 1) := by decide +kernel
theorem dX5_minute_1 : decode cX5_minute 1 = .ok (.getfield 86, 3) := by decide +kernel
theorem dX5_minute_4 : decode cX5_minute 4 = .ok (.sipush 999, 3) := by decide +kernel
theorem dX5_minute_7 : decode cX5_minute 7 = .ok (.if_icmp .ne 8, 3) := by decide +kernel
theorem dX5_minute_10 : decode cX5_minute 10 = .ok (.bipush (-3), 2) := by decide +kernel
theorem dX5_minute_12 : decode cX5_minute 12 = .ok (.goto 7, 3) := by decide +kernel
theorem dX5_minute_15 : decode cX5_minute 15 = .ok (.aload_n 0, 1) := by decide +kernel
theorem dX5_minute_16 : decode cX5_minute 16 = .ok (.invokevirtual 199, 3) := by decide +kernel
theorem dX5_minute_19 : decode cX5_minute 19 = .ok (.ireturn, 1) := by decide +kernel
theorem dX5_whoIn_0 : decode cX5_whoIn 0 = .ok (.iconst 0, 1) := by decide +kernel
theorem dX5_whoIn_1 : decode cX5_whoIn 1 = .ok (.istore_n 2, 1) := by decide +kernel
theorem dX5_whoIn_2 : decode cX5_whoIn 2 = .ok (.iconst 0, 1) := by decide +kernel
theorem dX5_whoIn_3 : decode cX5_whoIn 3 = .ok (.istore_n 3, 1) := by decide +kernel
theorem dX5_whoIn_4 : decode cX5_whoIn 4 = .ok (.iload_n 3, 1) := by decide +kernel
theorem dX5_whoIn_5 : decode cX5_whoIn 5 = .ok (.aload_n 0, 1) := by decide +kernel
theorem dX5_whoIn_6 : decode cX5_whoIn 6 = .ok (.getfield 75, 3) := by decide +kernel
theorem dX5_whoIn_9 : decode cX5_whoIn 9 = .ok (.if_icmp .ge 35, 3) := by decide +kernel
theorem dX5_whoIn_12 : decode cX5_whoIn 12 = .ok (.iload_n 2, 1) := by decide +kernel
theorem dX5_whoIn_13 : decode cX5_whoIn 13 = .ok (.aload_n 0, 1) := by decide +kernel
theorem dX5_whoIn_14 : decode cX5_whoIn 14 = .ok (.getfield 16, 3) := by decide +kernel
theorem dX5_whoIn_17 : decode cX5_whoIn 17 = .ok (.bipush 12, 2) := by decide +kernel
theorem dX5_whoIn_19 : decode cX5_whoIn 19 = .ok (.iload_n 3, 1) := by decide +kernel
theorem dX5_whoIn_20 : decode cX5_whoIn 20 = .ok (.imul, 1) := by decide +kernel
theorem dX5_whoIn_21 : decode cX5_whoIn 21 = .ok (.bipush 10, 2) := by decide +kernel
theorem dX5_whoIn_23 : decode cX5_whoIn 23 = .ok (.iadd, 1) := by decide +kernel
theorem dX5_whoIn_24 : decode cX5_whoIn 24 = .ok (.iaload, 1) := by decide +kernel
theorem dX5_whoIn_25 : decode cX5_whoIn 25 = .ok (.iload_n 1, 1) := by decide +kernel
theorem dX5_whoIn_26 : decode cX5_whoIn 26 = .ok (.if_icmp .ne 9, 3) := by decide +kernel
theorem dX5_whoIn_29 : decode cX5_whoIn 29 = .ok (.iconst 1, 1) := by decide +kernel
theorem dX5_whoIn_30 : decode cX5_whoIn 30 = .ok (.iload_n 3, 1) := by decide +kernel
theorem dX5_whoIn_31 : decode cX5_whoIn 31 = .ok (.ishl, 1) := by decide +kernel
theorem dX5_whoIn_32 : decode cX5_whoIn 32 = .ok (.goto 4, 3) := by decide +kernel
theorem dX5_whoIn_35 : decode cX5_whoIn 35 = .ok (.iconst 0, 1) := by decide +kernel
theorem dX5_whoIn_36 : decode cX5_whoIn 36 = .ok (.ior, 1) := by decide +kernel
theorem dX5_whoIn_37 : decode cX5_whoIn 37 = .ok (.istore_n 2, 1) := by decide +kernel
theorem dX5_whoIn_38 : decode cX5_whoIn 38 = .ok (.iinc 3 1, 3) := by decide +kernel
theorem dX5_whoIn_41 : decode cX5_whoIn 41 = .ok (.goto (-37), 3) := by decide +kernel
theorem dX5_whoIn_44 : decode cX5_whoIn 44 = .ok (.iload_n 2, 1) := by decide +kernel
theorem dX5_whoIn_45 : decode cX5_whoIn 45 = .ok (.ireturn, 1) := by decide +kernel
theorem dX5_longest_0 : decode cX5_longest 0 = .ok (.iconst 0, 1) := by decide +kernel
theorem dX5_longest_1 : decode cX5_longest 1 = .ok (.istore_n 1, 1) := by decide +kernel
theorem dX5_longest_2 : decode cX5_longest 2 = .ok (.iconst 0, 1) := by decide +kernel
theorem dX5_longest_3 : decode cX5_longest 3 = .ok (.istore_n 2, 1) := by decide +kernel
theorem dX5_longest_4 : decode cX5_longest 4 = .ok (.iload_n 2, 1) := by decide +kernel
theorem dX5_longest_5 : decode cX5_longest 5 = .ok (.aload_n 0, 1) := by decide +kernel
theorem dX5_longest_6 : decode cX5_longest 6 = .ok (.getfield 75, 3) := by decide +kernel
theorem dX5_longest_9 : decode cX5_longest 9 = .ok (.if_icmp .ge 42, 3) := by decide +kernel
theorem dX5_longest_12 : decode cX5_longest 12 = .ok (.aload_n 0, 1) := by decide +kernel
theorem dX5_longest_13 : decode cX5_longest 13 = .ok (.getfield 16, 3) := by decide +kernel
theorem dX5_longest_16 : decode cX5_longest 16 = .ok (.bipush 12, 2) := by decide +kernel
theorem dX5_longest_18 : decode cX5_longest 18 = .ok (.iload_n 2, 1) := by decide +kernel
theorem dX5_longest_19 : decode cX5_longest 19 = .ok (.imul, 1) := by decide +kernel
theorem dX5_longest_20 : decode cX5_longest 20 = .ok (.bipush 11, 2) := by decide +kernel
theorem dX5_longest_22 : decode cX5_longest 22 = .ok (.iadd, 1) := by decide +kernel
theorem dX5_longest_23 : decode cX5_longest 23 = .ok (.iaload, 1) := by decide +kernel
theorem dX5_longest_24 : decode cX5_longest 24 = .ok (.iload_n 1, 1) := by decide +kernel
theorem dX5_longest_25 : decode cX5_longest 25 = .ok (.if_icmp .le 18, 3) := by decide +kernel
theorem dX5_longest_28 : decode cX5_longest 28 = .ok (.aload_n 0, 1) := by decide +kernel
theorem dX5_longest_29 : decode cX5_longest 29 = .ok (.getfield 16, 3) := by decide +kernel
theorem dX5_longest_32 : decode cX5_longest 32 = .ok (.bipush 12, 2) := by decide +kernel
theorem dX5_longest_34 : decode cX5_longest 34 = .ok (.iload_n 2, 1) := by decide +kernel
theorem dX5_longest_35 : decode cX5_longest 35 = .ok (.imul, 1) := by decide +kernel
theorem dX5_longest_36 : decode cX5_longest 36 = .ok (.bipush 11, 2) := by decide +kernel
theorem dX5_longest_38 : decode cX5_longest 38 = .ok (.iadd, 1) := by decide +kernel
theorem dX5_longest_39 : decode cX5_longest 39 = .ok (.iaload, 1) := by decide +kernel
theorem dX5_longest_40 : decode cX5_longest 40 = .ok (.goto 4, 3) := by decide +kernel
theorem dX5_longest_43 : decode cX5_longest 43 = .ok (.iload_n 1, 1) := by decide +kernel
theorem dX5_longest_44 : decode cX5_longest 44 = .ok (.istore_n 1, 1) := by decide +kernel
theorem dX5_longest_45 : decode cX5_longest 45 = .ok (.iinc 2 1, 3) := by decide +kernel
theorem dX5_longest_48 : decode cX5_longest 48 = .ok (.goto (-44), 3) := by decide +kernel
theorem dX5_longest_51 : decode cX5_longest 51 = .ok (.iload_n 1, 1) := by decide +kernel
theorem dX5_longest_52 : decode cX5_longest 52 = .ok (.ireturn, 1) := by decide +kernel
theorem dX5_room_0 : decode cX5_room 0 = .ok (.iload_n 1, 1) := by decide +kernel
theorem dX5_room_1 : decode cX5_room 1 = .ok (.iconst 0, 1) := by decide +kernel
theorem dX5_room_2 : decode cX5_room 2 = .ok (.bipush 9, 2) := by decide +kernel
theorem dX5_room_4 : decode cX5_room 4 = .ok (.invokestatic 78, 3) := by decide +kernel
theorem dX5_room_7 : decode cX5_room 7 = .ok (.ifCond .ne 6, 3) := by decide +kernel
theorem dX5_room_10 : decode cX5_room 10 = .ok (.bipush (-2), 2) := by decide +kernel
theorem dX5_room_12 : decode cX5_room 12 = .ok (.ireturn, 1) := by decide +kernel
theorem dX5_room_13 : decode cX5_room 13 = .ok (.iload_n 1, 1) := by decide +kernel
theorem dX5_room_14 : decode cX5_room 14 = .ok (.ifCond .ne 10, 3) := by decide +kernel
theorem dX5_room_17 : decode cX5_room 17 = .ok (.aload_n 0, 1) := by decide +kernel
theorem dX5_room_18 : decode cX5_room 18 = .ok (.invokevirtual 89, 3) := by decide +kernel
theorem dX5_room_21 : decode cX5_room 21 = .ok (.goto 23, 3) := by decide +kernel
theorem dX5_room_24 : decode cX5_room 24 = .ok (.iload_n 1, 1) := by decide +kernel
theorem dX5_room_25 : decode cX5_room 25 = .ok (.bipush 9, 2) := by decide +kernel
theorem dX5_room_27 : decode cX5_room 27 = .ok (.if_icmp .ne 10, 3) := by decide +kernel
theorem dX5_room_30 : decode cX5_room 30 = .ok (.aload_n 0, 1) := by decide +kernel
theorem dX5_room_31 : decode cX5_room 31 = .ok (.invokevirtual 202, 3) := by decide +kernel
theorem dX5_room_34 : decode cX5_room 34 = .ok (.goto 10, 3) := by decide +kernel
theorem dX5_room_37 : decode cX5_room 37 = .ok (.aload_n 0, 1) := by decide +kernel
theorem dX5_room_38 : decode cX5_room 38 = .ok (.iload_n 1, 1) := by decide +kernel
theorem dX5_room_39 : decode cX5_room 39 = .ok (.iconst 1, 1) := by decide +kernel
theorem dX5_room_40 : decode cX5_room 40 = .ok (.isub, 1) := by decide +kernel
theorem dX5_room_41 : decode cX5_room 41 = .ok (.invokevirtual 205, 3) := by decide +kernel
theorem dX5_room_44 : decode cX5_room 44 = .ok (.ireturn, 1) := by decide +kernel
theorem dX5_keeps_0 : decode cX5_keeps 0 = .ok (.iconst 0, 1) := by decide +kernel
theorem dX5_keeps_1 : decode cX5_keeps 1 = .ok (.istore_n 1, 1) := by decide +kernel
theorem dX5_keeps_2 : decode cX5_keeps 2 = .ok (.iload_n 1, 1) := by decide +kernel
theorem dX5_keeps_3 : decode cX5_keeps 3 = .ok (.bipush 72, 2) := by decide +kernel
theorem dX5_keeps_5 : decode cX5_keeps 5 = .ok (.if_icmp .ge 21, 3) := by decide +kernel
theorem dX5_keeps_8 : decode cX5_keeps 8 = .ok (.aload_n 0, 1) := by decide +kernel
theorem dX5_keeps_9 : decode cX5_keeps 9 = .ok (.getfield 58, 3) := by decide +kernel
theorem dX5_keeps_12 : decode cX5_keeps 12 = .ok (.iload_n 1, 1) := by decide +kernel
theorem dX5_keeps_13 : decode cX5_keeps 13 = .ok (.aload_n 0, 1) := by decide +kernel
theorem dX5_keeps_14 : decode cX5_keeps 14 = .ok (.getfield 16, 3) := by decide +kernel
theorem dX5_keeps_17 : decode cX5_keeps 17 = .ok (.iload_n 1, 1) := by decide +kernel
theorem dX5_keeps_18 : decode cX5_keeps 18 = .ok (.iaload, 1) := by decide +kernel
theorem dX5_keeps_19 : decode cX5_keeps 19 = .ok (.iastore, 1) := by decide +kernel
theorem dX5_keeps_20 : decode cX5_keeps 20 = .ok (.iinc 1 1, 3) := by decide +kernel
theorem dX5_keeps_23 : decode cX5_keeps 23 = .ok (.goto (-21), 3) := by decide +kernel
theorem dX5_keeps_26 : decode cX5_keeps 26 = .ok (.aload_n 0, 1) := by decide +kernel
theorem dX5_keeps_27 : decode cX5_keeps 27 = .ok (.getfield 58, 3) := by decide +kernel
theorem dX5_keeps_30 : decode cX5_keeps 30 = .ok (.bipush 72, 2) := by decide +kernel
theorem dX5_keeps_32 : decode cX5_keeps 32 = .ok (.aload_n 0, 1) := by decide +kernel
theorem dX5_keeps_33 : decode cX5_keeps 33 = .ok (.getfield 86, 3) := by decide +kernel
theorem dX5_keeps_36 : decode cX5_keeps 36 = .ok (.iastore, 1) := by decide +kernel
theorem dX5_keeps_37 : decode cX5_keeps 37 = .ok (.return_, 1) := by decide +kernel
theorem dX5_lays_0 : decode cX5_lays 0 = .ok (.iconst 0, 1) := by decide +kernel
theorem dX5_lays_1 : decode cX5_lays 1 = .ok (.istore_n 1, 1) := by decide +kernel
theorem dX5_lays_2 : decode cX5_lays 2 = .ok (.iload_n 1, 1) := by decide +kernel
theorem dX5_lays_3 : decode cX5_lays 3 = .ok (.bipush 72, 2) := by decide +kernel
theorem dX5_lays_5 : decode cX5_lays 5 = .ok (.if_icmp .ge 21, 3) := by decide +kernel
theorem dX5_lays_8 : decode cX5_lays 8 = .ok (.aload_n 0, 1) := by decide +kernel
theorem dX5_lays_9 : decode cX5_lays 9 = .ok (.getfield 16, 3) := by decide +kernel
theorem dX5_lays_12 : decode cX5_lays 12 = .ok (.iload_n 1, 1) := by decide +kernel
theorem dX5_lays_13 : decode cX5_lays 13 = .ok (.aload_n 0, 1) := by decide +kernel
theorem dX5_lays_14 : decode cX5_lays 14 = .ok (.getfield 58, 3) := by decide +kernel
theorem dX5_lays_17 : decode cX5_lays 17 = .ok (.iload_n 1, 1) := by decide +kernel
theorem dX5_lays_18 : decode cX5_lays 18 = .ok (.iaload, 1) := by decide +kernel
theorem dX5_lays_19 : decode cX5_lays 19 = .ok (.iastore, 1) := by decide +kernel
theorem dX5_lays_20 : decode cX5_lays 20 = .ok (.iinc 1 1, 3) := by decide +kernel
theorem dX5_lays_23 : decode cX5_lays 23 = .ok (.goto (-21), 3) := by decide +kernel
theorem dX5_lays_26 : decode cX5_lays 26 = .ok (.aload_n 0, 1) := by decide +kernel
theorem dX5_lays_27 : decode cX5_lays 27 = .ok (.aload_n 0, 1) := by decide +kernel
theorem dX5_lays_28 : decode cX5_lays 28 = .ok (.getfield 58, 3) := by decide +kernel
theorem dX5_lays_31 : decode cX5_lays 31 = .ok (.bipush 72, 2) := by decide +kernel
theorem dX5_lays_33 : decode cX5_lays 33 = .ok (.iaload, 1) := by decide +kernel
theorem dX5_lays_34 : decode cX5_lays 34 = .ok (.putfield 86, 3) := by decide +kernel
theorem dX5_lays_37 : decode cX5_lays 37 = .ok (.return_, 1) := by decide +kernel
theorem dX5_eveningWrong_0 : decode cX5_eveningWrong 0 = .ok (.iload_n 1, 1) := by decide +kernel
theorem dX5_eveningWrong_1 : decode cX5_eveningWrong 1 = .ok (.iconst 0, 1) := by decide +kernel
theorem dX5_eveningWrong_2 : decode cX5_eveningWrong 2 = .ok (.iconst 3, 1) := by decide +kernel
theorem dX5_eveningWrong_3 : decode cX5_eveningWrong 3 = .ok (.invokestatic 78, 3) := by decide +kernel
theorem dX5_eveningWrong_6 : decode cX5_eveningWrong 6 = .ok (.ifCond .ne 6, 3) := by decide +kernel
theorem dX5_eveningWrong_9 : decode cX5_eveningWrong 9 = .ok (.bipush (-2), 2) := by decide +kernel
theorem dX5_eveningWrong_11 : decode cX5_eveningWrong 11 = .ok (.ireturn, 1) := by decide +kernel
theorem dX5_eveningWrong_12 : decode cX5_eveningWrong 12 = .ok (.aload_n 0, 1) := by decide +kernel
theorem dX5_eveningWrong_13 : decode cX5_eveningWrong 13 = .ok (.getfield 34, 3) := by decide +kernel
theorem dX5_eveningWrong_16 : decode cX5_eveningWrong 16 = .ok (.iload_n 1, 1) := by decide +kernel
theorem dX5_eveningWrong_17 : decode cX5_eveningWrong 17 = .ok (.iaload, 1) := by decide +kernel
theorem dX5_eveningWrong_18 : decode cX5_eveningWrong 18 = .ok (.iconst (-1), 1) := by decide +kernel
theorem dX5_eveningWrong_19 : decode cX5_eveningWrong 19 = .ok (.if_icmp .ne 6, 3) := by decide +kernel
theorem dX5_eveningWrong_22 : decode cX5_eveningWrong 22 = .ok (.bipush (-11), 2) := by decide +kernel
theorem dX5_eveningWrong_24 : decode cX5_eveningWrong 24 = .ok (.ireturn, 1) := by decide +kernel
theorem dX5_eveningWrong_25 : decode cX5_eveningWrong 25 = .ok (.iconst 0, 1) := by decide +kernel
theorem dX5_eveningWrong_26 : decode cX5_eveningWrong 26 = .ok (.istore_n 2, 1) := by decide +kernel
theorem dX5_eveningWrong_27 : decode cX5_eveningWrong 27 = .ok (.iload_n 2, 1) := by decide +kernel
theorem dX5_eveningWrong_28 : decode cX5_eveningWrong 28 = .ok (.aload_n 0, 1) := by decide +kernel
theorem dX5_eveningWrong_29 : decode cX5_eveningWrong 29 = .ok (.getfield 37, 3) := by decide +kernel
theorem dX5_eveningWrong_32 : decode cX5_eveningWrong 32 = .ok (.iload_n 1, 1) := by decide +kernel
theorem dX5_eveningWrong_33 : decode cX5_eveningWrong 33 = .ok (.iaload, 1) := by decide +kernel
theorem dX5_eveningWrong_34 : decode cX5_eveningWrong 34 = .ok (.if_icmp .ge 54, 3) := by decide +kernel
theorem dX5_eveningWrong_37 : decode cX5_eveningWrong 37 = .ok (.aload_n 0, 1) := by decide +kernel
theorem dX5_eveningWrong_38 : decode cX5_eveningWrong 38 = .ok (.getfield 40, 3) := by decide +kernel
theorem dX5_eveningWrong_41 : decode cX5_eveningWrong 41 = .ok (.bipush 40, 2) := by decide +kernel
theorem dX5_eveningWrong_43 : decode cX5_eveningWrong 43 = .ok (.iload_n 1, 1) := by decide +kernel
theorem dX5_eveningWrong_44 : decode cX5_eveningWrong 44 = .ok (.imul, 1) := by decide +kernel
theorem dX5_eveningWrong_45 : decode cX5_eveningWrong 45 = .ok (.iload_n 2, 1) := by decide +kernel
theorem dX5_eveningWrong_46 : decode cX5_eveningWrong 46 = .ok (.iadd, 1) := by decide +kernel
theorem dX5_eveningWrong_47 : decode cX5_eveningWrong 47 = .ok (.iaload, 1) := by decide +kernel
theorem dX5_eveningWrong_48 : decode cX5_eveningWrong 48 = .ok (.istore_n 3, 1) := by decide +kernel
theorem dX5_eveningWrong_49 : decode cX5_eveningWrong 49 = .ok (.iload_n 3, 1) := by decide +kernel
theorem dX5_eveningWrong_50 : decode cX5_eveningWrong 50 = .ok (.iconst (-1), 1) := by decide +kernel
theorem dX5_eveningWrong_51 : decode cX5_eveningWrong 51 = .ok (.if_icmp .eq 31, 3) := by decide +kernel
theorem dX5_eveningWrong_54 : decode cX5_eveningWrong 54 = .ok (.iload_n 3, 1) := by decide +kernel
theorem dX5_eveningWrong_55 : decode cX5_eveningWrong 55 = .ok (.ifCond .lt 24, 3) := by decide +kernel
theorem dX5_eveningWrong_58 : decode cX5_eveningWrong 58 = .ok (.aload_n 0, 1) := by decide +kernel
theorem dX5_eveningWrong_59 : decode cX5_eveningWrong 59 = .ok (.iload_n 3, 1) := by decide +kernel
theorem dX5_eveningWrong_60 : decode cX5_eveningWrong 60 = .ok (.bipush 10, 2) := by decide +kernel
theorem dX5_eveningWrong_62 : decode cX5_eveningWrong 62 = .ok (.idiv, 1) := by decide +kernel
theorem dX5_eveningWrong_63 : decode cX5_eveningWrong 63 = .ok (.invokevirtual 170, 3) := by decide +kernel
theorem dX5_eveningWrong_66 : decode cX5_eveningWrong 66 = .ok (.ifCond .eq 13, 3) := by decide +kernel
theorem dX5_eveningWrong_69 : decode cX5_eveningWrong 69 = .ok (.iload_n 3, 1) := by decide +kernel
theorem dX5_eveningWrong_70 : decode cX5_eveningWrong 70 = .ok (.bipush 10, 2) := by decide +kernel
theorem dX5_eveningWrong_72 : decode cX5_eveningWrong 72 = .ok (.irem, 1) := by decide +kernel
theorem dX5_eveningWrong_73 : decode cX5_eveningWrong 73 = .ok (.invokestatic 173, 3) := by decide +kernel
theorem dX5_eveningWrong_76 : decode cX5_eveningWrong 76 = .ok (.ifCond .ne 6, 3) := by decide +kernel
theorem dX5_eveningWrong_79 : decode cX5_eveningWrong 79 = .ok (.bipush (-2), 2) := by decide +kernel
theorem dX5_eveningWrong_81 : decode cX5_eveningWrong 81 = .ok (.ireturn, 1) := by decide +kernel
theorem dX5_eveningWrong_82 : decode cX5_eveningWrong 82 = .ok (.iinc 2 1, 3) := by decide +kernel
theorem dX5_eveningWrong_85 : decode cX5_eveningWrong 85 = .ok (.goto (-58), 3) := by decide +kernel
theorem dX5_eveningWrong_88 : decode cX5_eveningWrong 88 = .ok (.iconst 0, 1) := by decide +kernel
theorem dX5_eveningWrong_89 : decode cX5_eveningWrong 89 = .ok (.ireturn, 1) := by decide +kernel
theorem dX5_takesOne_0 : decode cX5_takesOne 0 = .ok (.iload_n 1, 1) := by decide +kernel
theorem dX5_takesOne_1 : decode cX5_takesOne 1 = .ok (.iconst (-1), 1) := by decide +kernel
theorem dX5_takesOne_2 : decode cX5_takesOne 2 = .ok (.if_icmp .ne 5, 3) := by decide +kernel
theorem dX5_takesOne_5 : decode cX5_takesOne 5 = .ok (.iconst 0, 1) := by decide +kernel
theorem dX5_takesOne_6 : decode cX5_takesOne 6 = .ok (.ireturn, 1) := by decide +kernel
theorem dX5_takesOne_7 : decode cX5_takesOne 7 = .ok (.iload_n 1, 1) := by decide +kernel
theorem dX5_takesOne_8 : decode cX5_takesOne 8 = .ok (.bipush 10, 2) := by decide +kernel
theorem dX5_takesOne_10 : decode cX5_takesOne 10 = .ok (.idiv, 1) := by decide +kernel
theorem dX5_takesOne_11 : decode cX5_takesOne 11 = .ok (.iconst 0, 1) := by decide +kernel
theorem dX5_takesOne_12 : decode cX5_takesOne 12 = .ok (.iconst 5, 1) := by decide +kernel
theorem dX5_takesOne_13 : decode cX5_takesOne 13 = .ok (.invokestatic 167, 3) := by decide +kernel
theorem dX5_takesOne_16 : decode cX5_takesOne 16 = .ok (.istore_n 2, 1) := by decide +kernel
theorem dX5_takesOne_17 : decode cX5_takesOne 17 = .ok (.iload_n 1, 1) := by decide +kernel
theorem dX5_takesOne_18 : decode cX5_takesOne 18 = .ok (.bipush 10, 2) := by decide +kernel
theorem dX5_takesOne_20 : decode cX5_takesOne 20 = .ok (.irem, 1) := by decide +kernel
theorem dX5_takesOne_21 : decode cX5_takesOne 21 = .ok (.iconst 0, 1) := by decide +kernel
theorem dX5_takesOne_22 : decode cX5_takesOne 22 = .ok (.bipush 7, 2) := by decide +kernel
theorem dX5_takesOne_24 : decode cX5_takesOne 24 = .ok (.invokestatic 167, 3) := by decide +kernel
theorem dX5_takesOne_27 : decode cX5_takesOne 27 = .ok (.istore_n 3, 1) := by decide +kernel
theorem dX5_takesOne_28 : decode cX5_takesOne 28 = .ok (.aload_n 0, 1) := by decide +kernel
theorem dX5_takesOne_29 : decode cX5_takesOne 29 = .ok (.iload_n 2, 1) := by decide +kernel
theorem dX5_takesOne_30 : decode cX5_takesOne 30 = .ok (.iload_n 3, 1) := by decide +kernel
theorem dX5_takesOne_31 : decode cX5_takesOne 31 = .ok (.invokevirtual 192, 3) := by decide +kernel
theorem dX5_takesOne_34 : decode cX5_takesOne 34 = .ok (.istore 4, 2) := by decide +kernel
theorem dX5_takesOne_36 : decode cX5_takesOne 36 = .ok (.iload 4, 2) := by decide +kernel
theorem dX5_takesOne_38 : decode cX5_takesOne 38 = .ok (.ifCond .eq 9, 3) := by decide +kernel
theorem dX5_takesOne_41 : decode cX5_takesOne 41 = .ok (.aload_n 0, 1) := by decide +kernel
theorem dX5_takesOne_42 : decode cX5_takesOne 42 = .ok (.iload_n 2, 1) := by decide +kernel
theorem dX5_takesOne_43 : decode cX5_takesOne 43 = .ok (.iload_n 3, 1) := by decide +kernel
theorem dX5_takesOne_44 : decode cX5_takesOne 44 = .ok (.invokevirtual 195, 3) := by decide +kernel
theorem dX5_takesOne_47 : decode cX5_takesOne 47 = .ok (.iload 4, 2) := by decide +kernel
theorem dX5_takesOne_49 : decode cX5_takesOne 49 = .ok (.ireturn, 1) := by decide +kernel
theorem dX5_goes_0 : decode cX5_goes 0 = .ok (.aload_n 0, 1) := by decide +kernel
theorem dX5_goes_1 : decode cX5_goes 1 = .ok (.getfield 61, 3) := by decide +kernel
theorem dX5_goes_4 : decode cX5_goes 4 = .ok (.iconst 0, 1) := by decide +kernel
theorem dX5_goes_5 : decode cX5_goes 5 = .ok (.iconst 0, 1) := by decide +kernel
theorem dX5_goes_6 : decode cX5_goes 6 = .ok (.iastore, 1) := by decide +kernel
theorem dX5_goes_7 : decode cX5_goes 7 = .ok (.aload_n 0, 1) := by decide +kernel
theorem dX5_goes_8 : decode cX5_goes 8 = .ok (.getfield 61, 3) := by decide +kernel
theorem dX5_goes_11 : decode cX5_goes 11 = .ok (.iconst 1, 1) := by decide +kernel
theorem dX5_goes_12 : decode cX5_goes 12 = .ok (.iconst 0, 1) := by decide +kernel
theorem dX5_goes_13 : decode cX5_goes 13 = .ok (.iastore, 1) := by decide +kernel
theorem dX5_goes_14 : decode cX5_goes 14 = .ok (.aload_n 0, 1) := by decide +kernel
theorem dX5_goes_15 : decode cX5_goes 15 = .ok (.getfield 61, 3) := by decide +kernel
theorem dX5_goes_18 : decode cX5_goes 18 = .ok (.iconst 2, 1) := by decide +kernel
theorem dX5_goes_19 : decode cX5_goes 19 = .ok (.iconst 0, 1) := by decide +kernel
theorem dX5_goes_20 : decode cX5_goes 20 = .ok (.iastore, 1) := by decide +kernel
theorem dX5_goes_21 : decode cX5_goes 21 = .ok (.aload_n 0, 1) := by decide +kernel
theorem dX5_goes_22 : decode cX5_goes 22 = .ok (.getfield 61, 3) := by decide +kernel
theorem dX5_goes_25 : decode cX5_goes 25 = .ok (.iconst 3, 1) := by decide +kernel
theorem dX5_goes_26 : decode cX5_goes 26 = .ok (.iconst (-1), 1) := by decide +kernel
theorem dX5_goes_27 : decode cX5_goes 27 = .ok (.iastore, 1) := by decide +kernel
theorem dX5_goes_28 : decode cX5_goes 28 = .ok (.iconst 0, 1) := by decide +kernel
theorem dX5_goes_29 : decode cX5_goes 29 = .ok (.istore_n 2, 1) := by decide +kernel
theorem dX5_goes_30 : decode cX5_goes 30 = .ok (.iload_n 2, 1) := by decide +kernel
theorem dX5_goes_31 : decode cX5_goes 31 = .ok (.aload_n 0, 1) := by decide +kernel
theorem dX5_goes_32 : decode cX5_goes 32 = .ok (.getfield 37, 3) := by decide +kernel
theorem dX5_goes_35 : decode cX5_goes 35 = .ok (.iload_n 1, 1) := by decide +kernel
theorem dX5_goes_36 : decode cX5_goes 36 = .ok (.iaload, 1) := by decide +kernel
theorem dX5_goes_37 : decode cX5_goes 37 = .ok (.if_icmp .ge 137, 3) := by decide +kernel
theorem dX5_goes_40 : decode cX5_goes 40 = .ok (.aload_n 0, 1) := by decide +kernel
theorem dX5_goes_41 : decode cX5_goes 41 = .ok (.aload_n 0, 1) := by decide +kernel
theorem dX5_goes_42 : decode cX5_goes 42 = .ok (.getfield 40, 3) := by decide +kernel
theorem dX5_goes_45 : decode cX5_goes 45 = .ok (.bipush 40, 2) := by decide +kernel
theorem dX5_goes_47 : decode cX5_goes 47 = .ok (.iload_n 1, 1) := by decide +kernel
theorem dX5_goes_48 : decode cX5_goes 48 = .ok (.imul, 1) := by decide +kernel
theorem dX5_goes_49 : decode cX5_goes 49 = .ok (.iload_n 2, 1) := by decide +kernel
theorem dX5_goes_50 : decode cX5_goes 50 = .ok (.iadd, 1) := by decide +kernel
theorem dX5_goes_51 : decode cX5_goes 51 = .ok (.iaload, 1) := by decide +kernel
theorem dX5_goes_52 : decode cX5_goes 52 = .ok (.invokevirtual 208, 3) := by decide +kernel
theorem dX5_goes_55 : decode cX5_goes 55 = .ok (.istore_n 3, 1) := by decide +kernel
theorem dX5_goes_56 : decode cX5_goes 56 = .ok (.aload_n 0, 1) := by decide +kernel
theorem dX5_goes_57 : decode cX5_goes 57 = .ok (.getfield 61, 3) := by decide +kernel
theorem dX5_goes_60 : decode cX5_goes 60 = .ok (.iconst 0, 1) := by decide +kernel
theorem dX5_goes_61 : decode cX5_goes 61 = .ok (.dup2, 1) := by decide +kernel
theorem dX5_goes_62 : decode cX5_goes 62 = .ok (.iaload, 1) := by decide +kernel
theorem dX5_goes_63 : decode cX5_goes 63 = .ok (.iload_n 3, 1) := by decide +kernel
theorem dX5_goes_64 : decode cX5_goes 64 = .ok (.ifCond .eq 7, 3) := by decide +kernel
theorem dX5_goes_67 : decode cX5_goes 67 = .ok (.iconst 1, 1) := by decide +kernel
theorem dX5_goes_68 : decode cX5_goes 68 = .ok (.goto 4, 3) := by decide +kernel
theorem dX5_goes_71 : decode cX5_goes 71 = .ok (.iconst 0, 1) := by decide +kernel
theorem dX5_goes_72 : decode cX5_goes 72 = .ok (.iadd, 1) := by decide +kernel
theorem dX5_goes_73 : decode cX5_goes 73 = .ok (.iastore, 1) := by decide +kernel
theorem dX5_goes_74 : decode cX5_goes 74 = .ok (.iload_n 3, 1) := by decide +kernel
theorem dX5_goes_75 : decode cX5_goes 75 = .ok (.ifCond .ne 35, 3) := by decide +kernel
theorem dX5_goes_78 : decode cX5_goes 78 = .ok (.aload_n 0, 1) := by decide +kernel
theorem dX5_goes_79 : decode cX5_goes 79 = .ok (.getfield 40, 3) := by decide +kernel
theorem dX5_goes_82 : decode cX5_goes 82 = .ok (.bipush 40, 2) := by decide +kernel
theorem dX5_goes_84 : decode cX5_goes 84 = .ok (.iload_n 1, 1) := by decide +kernel
theorem dX5_goes_85 : decode cX5_goes 85 = .ok (.imul, 1) := by decide +kernel
theorem dX5_goes_86 : decode cX5_goes 86 = .ok (.iload_n 2, 1) := by decide +kernel
theorem dX5_goes_87 : decode cX5_goes 87 = .ok (.iadd, 1) := by decide +kernel
theorem dX5_goes_88 : decode cX5_goes 88 = .ok (.iaload, 1) := by decide +kernel
theorem dX5_goes_89 : decode cX5_goes 89 = .ok (.iconst (-1), 1) := by decide +kernel
theorem dX5_goes_90 : decode cX5_goes 90 = .ok (.if_icmp .eq 20, 3) := by decide +kernel
theorem dX5_goes_93 : decode cX5_goes 93 = .ok (.aload_n 0, 1) := by decide +kernel
theorem dX5_goes_94 : decode cX5_goes 94 = .ok (.getfield 61, 3) := by decide +kernel
theorem dX5_goes_97 : decode cX5_goes 97 = .ok (.iconst 3, 1) := by decide +kernel
theorem dX5_goes_98 : decode cX5_goes 98 = .ok (.iaload, 1) := by decide +kernel
theorem dX5_goes_99 : decode cX5_goes 99 = .ok (.iconst (-1), 1) := by decide +kernel
theorem dX5_goes_100 : decode cX5_goes 100 = .ok (.if_icmp .ne 10, 3) := by decide +kernel
theorem dX5_goes_103 : decode cX5_goes 103 = .ok (.aload_n 0, 1) := by decide +kernel
theorem dX5_goes_104 : decode cX5_goes 104 = .ok (.getfield 61, 3) := by decide +kernel
theorem dX5_goes_107 : decode cX5_goes 107 = .ok (.iconst 3, 1) := by decide +kernel
theorem dX5_goes_108 : decode cX5_goes 108 = .ok (.iload_n 2, 1) := by decide +kernel
theorem dX5_goes_109 : decode cX5_goes 109 = .ok (.iastore, 1) := by decide +kernel
theorem dX5_goes_110 : decode cX5_goes 110 = .ok (.aload_n 0, 1) := by decide +kernel
theorem dX5_goes_111 : decode cX5_goes 111 = .ok (.getfield 75, 3) := by decide +kernel
theorem dX5_goes_114 : decode cX5_goes 114 = .ok (.aload_n 0, 1) := by decide +kernel
theorem dX5_goes_115 : decode cX5_goes 115 = .ok (.invokevirtual 89, 3) := by decide +kernel
theorem dX5_goes_118 : decode cX5_goes 118 = .ok (.invokestatic 92, 3) := by decide +kernel
theorem dX5_goes_121 : decode cX5_goes 121 = .ok (.isub, 1) := by decide +kernel
theorem dX5_goes_122 : decode cX5_goes 122 = .ok (.istore 4, 2) := by decide +kernel
theorem dX5_goes_124 : decode cX5_goes 124 = .ok (.aload_n 0, 1) := by decide +kernel
theorem dX5_goes_125 : decode cX5_goes 125 = .ok (.getfield 61, 3) := by decide +kernel
theorem dX5_goes_128 : decode cX5_goes 128 = .ok (.iconst 1, 1) := by decide +kernel
theorem dX5_goes_129 : decode cX5_goes 129 = .ok (.iload 4, 2) := by decide +kernel
theorem dX5_goes_131 : decode cX5_goes 131 = .ok (.aload_n 0, 1) := by decide +kernel
theorem dX5_goes_132 : decode cX5_goes 132 = .ok (.getfield 61, 3) := by decide +kernel
theorem dX5_goes_135 : decode cX5_goes 135 = .ok (.iconst 1, 1) := by decide +kernel
theorem dX5_goes_136 : decode cX5_goes 136 = .ok (.iaload, 1) := by decide +kernel
theorem dX5_goes_137 : decode cX5_goes 137 = .ok (.if_icmp .le 8, 3) := by decide +kernel
theorem dX5_goes_140 : decode cX5_goes 140 = .ok (.iload 4, 2) := by decide +kernel
theorem dX5_goes_142 : decode cX5_goes 142 = .ok (.goto 9, 3) := by decide +kernel
theorem dX5_goes_145 : decode cX5_goes 145 = .ok (.aload_n 0, 1) := by decide +kernel
theorem dX5_goes_146 : decode cX5_goes 146 = .ok (.getfield 61, 3) := by decide +kernel
theorem dX5_goes_149 : decode cX5_goes 149 = .ok (.iconst 1, 1) := by decide +kernel
theorem dX5_goes_150 : decode cX5_goes 150 = .ok (.iaload, 1) := by decide +kernel
theorem dX5_goes_151 : decode cX5_goes 151 = .ok (.iastore, 1) := by decide +kernel
theorem dX5_goes_152 : decode cX5_goes 152 = .ok (.aload_n 0, 1) := by decide +kernel
theorem dX5_goes_153 : decode cX5_goes 153 = .ok (.getfield 61, 3) := by decide +kernel
theorem dX5_goes_156 : decode cX5_goes 156 = .ok (.iconst 2, 1) := by decide +kernel
theorem dX5_goes_157 : decode cX5_goes 157 = .ok (.dup2, 1) := by decide +kernel
theorem dX5_goes_158 : decode cX5_goes 158 = .ok (.iaload, 1) := by decide +kernel
theorem dX5_goes_159 : decode cX5_goes 159 = .ok (.iload 4, 2) := by decide +kernel
theorem dX5_goes_161 : decode cX5_goes 161 = .ok (.iadd, 1) := by decide +kernel
theorem dX5_goes_162 : decode cX5_goes 162 = .ok (.iastore, 1) := by decide +kernel
theorem dX5_goes_163 : decode cX5_goes 163 = .ok (.aload_n 0, 1) := by decide +kernel
theorem dX5_goes_164 : decode cX5_goes 164 = .ok (.invokevirtual 199, 3) := by decide +kernel
theorem dX5_goes_167 : decode cX5_goes 167 = .ok (.pop, 1) := by decide +kernel
theorem dX5_goes_168 : decode cX5_goes 168 = .ok (.iinc 2 1, 3) := by decide +kernel
theorem dX5_goes_171 : decode cX5_goes 171 = .ok (.goto (-141), 3) := by decide +kernel
theorem dX5_goes_174 : decode cX5_goes 174 = .ok (.return_, 1) := by decide +kernel
theorem dX5_evening_0 : decode cX5_evening 0 = .ok (.aload_n 0, 1) := by decide +kernel
theorem dX5_evening_1 : decode cX5_evening 1 = .ok (.iload_n 1, 1) := by decide +kernel
theorem dX5_evening_2 : decode cX5_evening 2 = .ok (.invokevirtual 211, 3) := by decide +kernel
theorem dX5_evening_5 : decode cX5_evening 5 = .ok (.istore_n 3, 1) := by decide +kernel
theorem dX5_evening_6 : decode cX5_evening 6 = .ok (.iload_n 3, 1) := by decide +kernel
theorem dX5_evening_7 : decode cX5_evening 7 = .ok (.ifCond .eq 5, 3) := by decide +kernel
theorem dX5_evening_10 : decode cX5_evening 10 = .ok (.iload_n 3, 1) := by decide +kernel
theorem dX5_evening_11 : decode cX5_evening 11 = .ok (.ireturn, 1) := by decide +kernel
theorem dX5_evening_12 : decode cX5_evening 12 = .ok (.iload_n 2, 1) := by decide +kernel
theorem dX5_evening_13 : decode cX5_evening 13 = .ok (.iconst 0, 1) := by decide +kernel
theorem dX5_evening_14 : decode cX5_evening 14 = .ok (.iconst 3, 1) := by decide +kernel
theorem dX5_evening_15 : decode cX5_evening 15 = .ok (.invokestatic 78, 3) := by decide +kernel
theorem dX5_evening_18 : decode cX5_evening 18 = .ok (.ifCond .ne 38, 3) := by decide +kernel
theorem dX5_evening_21 : decode cX5_evening 21 = .ok (.iload_n 2, 1) := by decide +kernel
theorem dX5_evening_22 : decode cX5_evening 22 = .ok (.bipush 10, 2) := by decide +kernel
theorem dX5_evening_24 : decode cX5_evening 24 = .ok (.bipush 9, 2) := by decide +kernel
theorem dX5_evening_26 : decode cX5_evening 26 = .ok (.aload_n 0, 1) := by decide +kernel
theorem dX5_evening_27 : decode cX5_evening 27 = .ok (.getfield 75, 3) := by decide +kernel
theorem dX5_evening_30 : decode cX5_evening 30 = .ok (.iadd, 1) := by decide +kernel
theorem dX5_evening_31 : decode cX5_evening 31 = .ok (.invokestatic 78, 3) := by decide +kernel
theorem dX5_evening_34 : decode cX5_evening 34 = .ok (.ifCond .ne 22, 3) := by decide +kernel
theorem dX5_evening_37 : decode cX5_evening 37 = .ok (.iload_n 2, 1) := by decide +kernel
theorem dX5_evening_38 : decode cX5_evening 38 = .ok (.bipush 20, 2) := by decide +kernel
theorem dX5_evening_40 : decode cX5_evening 40 = .ok (.bipush 19, 2) := by decide +kernel
theorem dX5_evening_42 : decode cX5_evening 42 = .ok (.aload_n 0, 1) := by decide +kernel
theorem dX5_evening_43 : decode cX5_evening 43 = .ok (.getfield 75, 3) := by decide +kernel
theorem dX5_evening_46 : decode cX5_evening 46 = .ok (.iadd, 1) := by decide +kernel
theorem dX5_evening_47 : decode cX5_evening 47 = .ok (.invokestatic 78, 3) := by decide +kernel
theorem dX5_evening_50 : decode cX5_evening 50 = .ok (.ifCond .ne 6, 3) := by decide +kernel
theorem dX5_evening_53 : decode cX5_evening 53 = .ok (.bipush (-7), 2) := by decide +kernel
theorem dX5_evening_55 : decode cX5_evening 55 = .ok (.ireturn, 1) := by decide +kernel
theorem dX5_evening_56 : decode cX5_evening 56 = .ok (.aload_n 0, 1) := by decide +kernel
theorem dX5_evening_57 : decode cX5_evening 57 = .ok (.invokevirtual 214, 3) := by decide +kernel
theorem dX5_evening_60 : decode cX5_evening 60 = .ok (.aload_n 0, 1) := by decide +kernel
theorem dX5_evening_61 : decode cX5_evening 61 = .ok (.iload_n 1, 1) := by decide +kernel
theorem dX5_evening_62 : decode cX5_evening 62 = .ok (.invokevirtual 217, 3) := by decide +kernel
theorem dX5_evening_65 : decode cX5_evening 65 = .ok (.iconst 0, 1) := by decide +kernel
theorem dX5_evening_66 : decode cX5_evening 66 = .ok (.istore 4, 2) := by decide +kernel
theorem dX5_evening_68 : decode cX5_evening 68 = .ok (.iload_n 2, 1) := by decide +kernel
theorem dX5_evening_69 : decode cX5_evening 69 = .ok (.iconst 4, 1) := by decide +kernel
theorem dX5_evening_70 : decode cX5_evening 70 = .ok (.if_icmp .ge 14, 3) := by decide +kernel
theorem dX5_evening_73 : decode cX5_evening 73 = .ok (.aload_n 0, 1) := by decide +kernel
theorem dX5_evening_74 : decode cX5_evening 74 = .ok (.getfield 61, 3) := by decide +kernel
theorem dX5_evening_77 : decode cX5_evening 77 = .ok (.iload_n 2, 1) := by decide +kernel
theorem dX5_evening_78 : decode cX5_evening 78 = .ok (.iaload, 1) := by decide +kernel
theorem dX5_evening_79 : decode cX5_evening 79 = .ok (.istore 4, 2) := by decide +kernel
theorem dX5_evening_81 : decode cX5_evening 81 = .ok (.goto 44, 3) := by decide +kernel
theorem dX5_evening_84 : decode cX5_evening 84 = .ok (.iload_n 2, 1) := by decide +kernel
theorem dX5_evening_85 : decode cX5_evening 85 = .ok (.bipush 20, 2) := by decide +kernel
theorem dX5_evening_87 : decode cX5_evening 87 = .ok (.if_icmp .ge 21, 3) := by decide +kernel
theorem dX5_evening_90 : decode cX5_evening 90 = .ok (.aload_n 0, 1) := by decide +kernel
theorem dX5_evening_91 : decode cX5_evening 91 = .ok (.getfield 16, 3) := by decide +kernel
theorem dX5_evening_94 : decode cX5_evening 94 = .ok (.bipush 12, 2) := by decide +kernel
theorem dX5_evening_96 : decode cX5_evening 96 = .ok (.iload_n 2, 1) := by decide +kernel
theorem dX5_evening_97 : decode cX5_evening 97 = .ok (.bipush 10, 2) := by decide +kernel
theorem dX5_evening_99 : decode cX5_evening 99 = .ok (.isub, 1) := by decide +kernel
theorem dX5_evening_100 : decode cX5_evening 100 = .ok (.imul, 1) := by decide +kernel
theorem dX5_evening_101 : decode cX5_evening 101 = .ok (.bipush 8, 2) := by decide +kernel
theorem dX5_evening_103 : decode cX5_evening 103 = .ok (.iadd, 1) := by decide +kernel
theorem dX5_evening_104 : decode cX5_evening 104 = .ok (.iaload, 1) := by decide +kernel
theorem dX5_evening_105 : decode cX5_evening 105 = .ok (.goto 18, 3) := by decide +kernel
theorem dX5_evening_108 : decode cX5_evening 108 = .ok (.aload_n 0, 1) := by decide +kernel
theorem dX5_evening_109 : decode cX5_evening 109 = .ok (.getfield 16, 3) := by decide +kernel
theorem dX5_evening_112 : decode cX5_evening 112 = .ok (.bipush 12, 2) := by decide +kernel
theorem dX5_evening_114 : decode cX5_evening 114 = .ok (.iload_n 2, 1) := by decide +kernel
theorem dX5_evening_115 : decode cX5_evening 115 = .ok (.bipush 20, 2) := by decide +kernel
theorem dX5_evening_117 : decode cX5_evening 117 = .ok (.isub, 1) := by decide +kernel
theorem dX5_evening_118 : decode cX5_evening 118 = .ok (.imul, 1) := by decide +kernel
theorem dX5_evening_119 : decode cX5_evening 119 = .ok (.bipush 9, 2) := by decide +kernel
theorem dX5_evening_121 : decode cX5_evening 121 = .ok (.iadd, 1) := by decide +kernel
theorem dX5_evening_122 : decode cX5_evening 122 = .ok (.iaload, 1) := by decide +kernel
theorem dX5_evening_123 : decode cX5_evening 123 = .ok (.istore 4, 2) := by decide +kernel
theorem dX5_evening_125 : decode cX5_evening 125 = .ok (.aload_n 0, 1) := by decide +kernel
theorem dX5_evening_126 : decode cX5_evening 126 = .ok (.invokevirtual 220, 3) := by decide +kernel
theorem dX5_evening_129 : decode cX5_evening 129 = .ok (.iload 4, 2) := by decide +kernel
theorem dX5_evening_131 : decode cX5_evening 131 = .ok (.ireturn, 1) := by decide +kernel
theorem dX5_spend_0 : decode cX5_spend 0 = .ok (.aload_n 0, 1) := by decide +kernel
theorem dX5_spend_1 : decode cX5_spend 1 = .ok (.iload_n 1, 1) := by decide +kernel
theorem dX5_spend_2 : decode cX5_spend 2 = .ok (.invokevirtual 211, 3) := by decide +kernel
theorem dX5_spend_5 : decode cX5_spend 5 = .ok (.istore_n 2, 1) := by decide +kernel
theorem dX5_spend_6 : decode cX5_spend 6 = .ok (.iload_n 2, 1) := by decide +kernel
theorem dX5_spend_7 : decode cX5_spend 7 = .ok (.ifCond .eq 5, 3) := by decide +kernel
theorem dX5_spend_10 : decode cX5_spend 10 = .ok (.iload_n 2, 1) := by decide +kernel
theorem dX5_spend_11 : decode cX5_spend 11 = .ok (.ireturn, 1) := by decide +kernel
theorem dX5_spend_12 : decode cX5_spend 12 = .ok (.aload_n 0, 1) := by decide +kernel
theorem dX5_spend_13 : decode cX5_spend 13 = .ok (.getfield 86, 3) := by decide +kernel
theorem dX5_spend_16 : decode cX5_spend 16 = .ok (.aload_n 0, 1) := by decide +kernel
theorem dX5_spend_17 : decode cX5_spend 17 = .ok (.getfield 37, 3) := by decide +kernel
theorem dX5_spend_20 : decode cX5_spend 20 = .ok (.iload_n 1, 1) := by decide +kernel
theorem dX5_spend_21 : decode cX5_spend 21 = .ok (.iaload, 1) := by decide +kernel
theorem dX5_spend_22 : decode cX5_spend 22 = .ok (.iadd, 1) := by decide +kernel
theorem dX5_spend_23 : decode cX5_spend 23 = .ok (.sipush 999, 3) := by decide +kernel
theorem dX5_spend_26 : decode cX5_spend 26 = .ok (.if_icmp .le 6, 3) := by decide +kernel
theorem dX5_spend_29 : decode cX5_spend 29 = .ok (.bipush (-3), 2) := by decide +kernel
theorem dX5_spend_31 : decode cX5_spend 31 = .ok (.ireturn, 1) := by decide +kernel
theorem dX5_spend_32 : decode cX5_spend 32 = .ok (.aload_n 0, 1) := by decide +kernel
theorem dX5_spend_33 : decode cX5_spend 33 = .ok (.iload_n 1, 1) := by decide +kernel
theorem dX5_spend_34 : decode cX5_spend 34 = .ok (.invokevirtual 217, 3) := by decide +kernel
theorem dX5_spend_37 : decode cX5_spend 37 = .ok (.aload_n 0, 1) := by decide +kernel
theorem dX5_spend_38 : decode cX5_spend 38 = .ok (.getfield 61, 3) := by decide +kernel
theorem dX5_spend_41 : decode cX5_spend 41 = .ok (.iconst 0, 1) := by decide +kernel
theorem dX5_spend_42 : decode cX5_spend 42 = .ok (.iaload, 1) := by decide +kernel
theorem dX5_spend_43 : decode cX5_spend 43 = .ok (.ireturn, 1) := by decide +kernel
theorem dX5_addsGrain_0 : decode cX5_addsGrain 0 = .ok (.bipush 60, 2) := by decide +kernel
theorem dX5_addsGrain_2 : decode cX5_addsGrain 2 = .ok (.istore_n 3, 1) := by decide +kernel
theorem dX5_addsGrain_3 : decode cX5_addsGrain 3 = .ok (.iload_n 3, 1) := by decide +kernel
theorem dX5_addsGrain_4 : decode cX5_addsGrain 4 = .ok (.iload_n 1, 1) := by decide +kernel
theorem dX5_addsGrain_5 : decode cX5_addsGrain 5 = .ok (.if_icmp .lt 63, 3) := by decide +kernel
theorem dX5_addsGrain_8 : decode cX5_addsGrain 8 = .ok (.aload_n 0, 1) := by decide +kernel
theorem dX5_addsGrain_9 : decode cX5_addsGrain 9 = .ok (.getfield 64, 3) := by decide +kernel
theorem dX5_addsGrain_12 : decode cX5_addsGrain 12 = .ok (.iload_n 3, 1) := by decide +kernel
theorem dX5_addsGrain_13 : decode cX5_addsGrain 13 = .ok (.iload_n 1, 1) := by decide +kernel
theorem dX5_addsGrain_14 : decode cX5_addsGrain 14 = .ok (.isub, 1) := by decide +kernel
theorem dX5_addsGrain_15 : decode cX5_addsGrain 15 = .ok (.iaload, 1) := by decide +kernel
theorem dX5_addsGrain_16 : decode cX5_addsGrain 16 = .ok (.sipush (-9999), 3) := by decide +kernel
theorem dX5_addsGrain_19 : decode cX5_addsGrain 19 = .ok (.if_icmp .le 43, 3) := by decide +kernel
theorem dX5_addsGrain_22 : decode cX5_addsGrain 22 = .ok (.aload_n 0, 1) := by decide +kernel
theorem dX5_addsGrain_23 : decode cX5_addsGrain 23 = .ok (.getfield 64, 3) := by decide +kernel
theorem dX5_addsGrain_26 : decode cX5_addsGrain 26 = .ok (.iload_n 3, 1) := by decide +kernel
theorem dX5_addsGrain_27 : decode cX5_addsGrain 27 = .ok (.iload_n 1, 1) := by decide +kernel
theorem dX5_addsGrain_28 : decode cX5_addsGrain 28 = .ok (.isub, 1) := by decide +kernel
theorem dX5_addsGrain_29 : decode cX5_addsGrain 29 = .ok (.iaload, 1) := by decide +kernel
theorem dX5_addsGrain_30 : decode cX5_addsGrain 30 = .ok (.iload_n 2, 1) := by decide +kernel
theorem dX5_addsGrain_31 : decode cX5_addsGrain 31 = .ok (.iadd, 1) := by decide +kernel
theorem dX5_addsGrain_32 : decode cX5_addsGrain 32 = .ok (.istore 4, 2) := by decide +kernel
theorem dX5_addsGrain_34 : decode cX5_addsGrain 34 = .ok (.aload_n 0, 1) := by decide +kernel
theorem dX5_addsGrain_35 : decode cX5_addsGrain 35 = .ok (.getfield 64, 3) := by decide +kernel
theorem dX5_addsGrain_38 : decode cX5_addsGrain 38 = .ok (.iload_n 3, 1) := by decide +kernel
theorem dX5_addsGrain_39 : decode cX5_addsGrain 39 = .ok (.iload 4, 2) := by decide +kernel
theorem dX5_addsGrain_41 : decode cX5_addsGrain 41 = .ok (.aload_n 0, 1) := by decide +kernel
theorem dX5_addsGrain_42 : decode cX5_addsGrain 42 = .ok (.getfield 64, 3) := by decide +kernel
theorem dX5_addsGrain_45 : decode cX5_addsGrain 45 = .ok (.iload_n 3, 1) := by decide +kernel
theorem dX5_addsGrain_46 : decode cX5_addsGrain 46 = .ok (.iaload, 1) := by decide +kernel
theorem dX5_addsGrain_47 : decode cX5_addsGrain 47 = .ok (.if_icmp .le 8, 3) := by decide +kernel
theorem dX5_addsGrain_50 : decode cX5_addsGrain 50 = .ok (.iload 4, 2) := by decide +kernel
theorem dX5_addsGrain_52 : decode cX5_addsGrain 52 = .ok (.goto 9, 3) := by decide +kernel
theorem dX5_addsGrain_55 : decode cX5_addsGrain 55 = .ok (.aload_n 0, 1) := by decide +kernel
theorem dX5_addsGrain_56 : decode cX5_addsGrain 56 = .ok (.getfield 64, 3) := by decide +kernel
theorem dX5_addsGrain_59 : decode cX5_addsGrain 59 = .ok (.iload_n 3, 1) := by decide +kernel
theorem dX5_addsGrain_60 : decode cX5_addsGrain 60 = .ok (.iaload, 1) := by decide +kernel
theorem dX5_addsGrain_61 : decode cX5_addsGrain 61 = .ok (.iastore, 1) := by decide +kernel
theorem dX5_addsGrain_62 : decode cX5_addsGrain 62 = .ok (.iinc 3 (-1), 3) := by decide +kernel
theorem dX5_addsGrain_65 : decode cX5_addsGrain 65 = .ok (.goto (-62), 3) := by decide +kernel
theorem dX5_addsGrain_68 : decode cX5_addsGrain 68 = .ok (.return_, 1) := by decide +kernel
theorem dX5_plan_0 : decode cX5_plan 0 = .ok (.aload_n 0, 1) := by decide +kernel
theorem dX5_plan_1 : decode cX5_plan 1 = .ok (.iload_n 1, 1) := by decide +kernel
theorem dX5_plan_2 : decode cX5_plan 2 = .ok (.invokevirtual 170, 3) := by decide +kernel
theorem dX5_plan_5 : decode cX5_plan 5 = .ok (.ifCond .ne 6, 3) := by decide +kernel
theorem dX5_plan_8 : decode cX5_plan 8 = .ok (.bipush (-5), 2) := by decide +kernel
theorem dX5_plan_10 : decode cX5_plan 10 = .ok (.ireturn, 1) := by decide +kernel
theorem dX5_plan_11 : decode cX5_plan 11 = .ok (.iload_n 2, 1) := by decide +kernel
theorem dX5_plan_12 : decode cX5_plan 12 = .ok (.iconst 0, 1) := by decide +kernel
theorem dX5_plan_13 : decode cX5_plan 13 = .ok (.bipush 60, 2) := by decide +kernel
theorem dX5_plan_15 : decode cX5_plan 15 = .ok (.invokestatic 78, 3) := by decide +kernel
theorem dX5_plan_18 : decode cX5_plan 18 = .ok (.ifCond .eq 12, 3) := by decide +kernel
theorem dX5_plan_21 : decode cX5_plan 21 = .ok (.iload_n 3, 1) := by decide +kernel
theorem dX5_plan_22 : decode cX5_plan 22 = .ok (.iconst 0, 1) := by decide +kernel
theorem dX5_plan_23 : decode cX5_plan 23 = .ok (.iconst 1, 1) := by decide +kernel
theorem dX5_plan_24 : decode cX5_plan 24 = .ok (.invokestatic 78, 3) := by decide +kernel
theorem dX5_plan_27 : decode cX5_plan 27 = .ok (.ifCond .ne 6, 3) := by decide +kernel
theorem dX5_plan_30 : decode cX5_plan 30 = .ok (.bipush (-7), 2) := by decide +kernel
theorem dX5_plan_32 : decode cX5_plan 32 = .ok (.ireturn, 1) := by decide +kernel
theorem dX5_plan_33 : decode cX5_plan 33 = .ok (.iconst 0, 1) := by decide +kernel
theorem dX5_plan_34 : decode cX5_plan 34 = .ok (.istore 4, 2) := by decide +kernel
theorem dX5_plan_36 : decode cX5_plan 36 = .ok (.iload 4, 2) := by decide +kernel
theorem dX5_plan_38 : decode cX5_plan 38 = .ok (.bipush 60, 2) := by decide +kernel
theorem dX5_plan_40 : decode cX5_plan 40 = .ok (.if_icmp .gt 28, 3) := by decide +kernel
theorem dX5_plan_43 : decode cX5_plan 43 = .ok (.aload_n 0, 1) := by decide +kernel
theorem dX5_plan_44 : decode cX5_plan 44 = .ok (.getfield 64, 3) := by decide +kernel
theorem dX5_plan_47 : decode cX5_plan 47 = .ok (.iload 4, 2) := by decide +kernel
theorem dX5_plan_49 : decode cX5_plan 49 = .ok (.iload 4, 2) := by decide +kernel
theorem dX5_plan_51 : decode cX5_plan 51 = .ok (.ifCond .ne 7, 3) := by decide +kernel
theorem dX5_plan_54 : decode cX5_plan 54 = .ok (.iconst 0, 1) := by decide +kernel
theorem dX5_plan_55 : decode cX5_plan 55 = .ok (.goto 6, 3) := by decide +kernel
theorem dX5_plan_58 : decode cX5_plan 58 = .ok (.sipush (-9999), 3) := by decide +kernel
theorem dX5_plan_61 : decode cX5_plan 61 = .ok (.iastore, 1) := by decide +kernel
theorem dX5_plan_62 : decode cX5_plan 62 = .ok (.iinc 4 1, 3) := by decide +kernel
theorem dX5_plan_65 : decode cX5_plan 65 = .ok (.goto (-29), 3) := by decide +kernel
theorem dX5_plan_68 : decode cX5_plan 68 = .ok (.iconst 0, 1) := by decide +kernel
theorem dX5_plan_69 : decode cX5_plan 69 = .ok (.istore 4, 2) := by decide +kernel
theorem dX5_plan_71 : decode cX5_plan 71 = .ok (.iload 4, 2) := by decide +kernel
theorem dX5_plan_73 : decode cX5_plan 73 = .ok (.bipush 8, 2) := by decide +kernel
theorem dX5_plan_75 : decode cX5_plan 75 = .ok (.if_icmp .ge 61, 3) := by decide +kernel
theorem dX5_plan_78 : decode cX5_plan 78 = .ok (.aload_n 0, 1) := by decide +kernel
theorem dX5_plan_79 : decode cX5_plan 79 = .ok (.iload_n 1, 1) := by decide +kernel
theorem dX5_plan_80 : decode cX5_plan 80 = .ok (.iload 4, 2) := by decide +kernel
theorem dX5_plan_82 : decode cX5_plan 82 = .ok (.invokevirtual 183, 3) := by decide +kernel
theorem dX5_plan_85 : decode cX5_plan 85 = .ok (.istore 5, 2) := by decide +kernel
theorem dX5_plan_87 : decode cX5_plan 87 = .ok (.aload_n 0, 1) := by decide +kernel
theorem dX5_plan_88 : decode cX5_plan 88 = .ok (.iload_n 1, 1) := by decide +kernel
theorem dX5_plan_89 : decode cX5_plan 89 = .ok (.iload 4, 2) := by decide +kernel
theorem dX5_plan_91 : decode cX5_plan 91 = .ok (.invokevirtual 186, 3) := by decide +kernel
theorem dX5_plan_94 : decode cX5_plan 94 = .ok (.istore 6, 2) := by decide +kernel
theorem dX5_plan_96 : decode cX5_plan 96 = .ok (.iconst 0, 1) := by decide +kernel
theorem dX5_plan_97 : decode cX5_plan 97 = .ok (.istore 7, 2) := by decide +kernel
theorem dX5_plan_99 : decode cX5_plan 99 = .ok (.iload 7, 2) := by decide +kernel
theorem dX5_plan_101 : decode cX5_plan 101 = .ok (.aload_n 0, 1) := by decide +kernel
theorem dX5_plan_102 : decode cX5_plan 102 = .ok (.getfield 16, 3) := by decide +kernel
theorem dX5_plan_105 : decode cX5_plan 105 = .ok (.bipush 12, 2) := by decide +kernel
theorem dX5_plan_107 : decode cX5_plan 107 = .ok (.iload_n 1, 1) := by decide +kernel
theorem dX5_plan_108 : decode cX5_plan 108 = .ok (.imul, 1) := by decide +kernel
theorem dX5_plan_109 : decode cX5_plan 109 = .ok (.iload 4, 2) := by decide +kernel
theorem dX5_plan_111 : decode cX5_plan 111 = .ok (.iadd, 1) := by decide +kernel
theorem dX5_plan_112 : decode cX5_plan 112 = .ok (.iaload, 1) := by decide +kernel
theorem dX5_plan_113 : decode cX5_plan 113 = .ok (.if_icmp .ge 17, 3) := by decide +kernel
theorem dX5_plan_116 : decode cX5_plan 116 = .ok (.aload_n 0, 1) := by decide +kernel
theorem dX5_plan_117 : decode cX5_plan 117 = .ok (.iload 5, 2) := by decide +kernel
theorem dX5_plan_119 : decode cX5_plan 119 = .ok (.iload 6, 2) := by decide +kernel
theorem dX5_plan_121 : decode cX5_plan 121 = .ok (.invokevirtual 223, 3) := by decide +kernel
theorem dX5_plan_124 : decode cX5_plan 124 = .ok (.iinc 7 1, 3) := by decide +kernel
theorem dX5_plan_127 : decode cX5_plan 127 = .ok (.goto (-28), 3) := by decide +kernel
theorem dX5_plan_130 : decode cX5_plan 130 = .ok (.iinc 4 1, 3) := by decide +kernel
theorem dX5_plan_133 : decode cX5_plan 133 = .ok (.goto (-62), 3) := by decide +kernel
theorem dX5_plan_136 : decode cX5_plan 136 = .ok (.iconst 0, 1) := by decide +kernel
theorem dX5_plan_137 : decode cX5_plan 137 = .ok (.istore 4, 2) := by decide +kernel
theorem dX5_plan_139 : decode cX5_plan 139 = .ok (.iconst 1, 1) := by decide +kernel
theorem dX5_plan_140 : decode cX5_plan 140 = .ok (.istore 5, 2) := by decide +kernel
theorem dX5_plan_142 : decode cX5_plan 142 = .ok (.iload 5, 2) := by decide +kernel
theorem dX5_plan_144 : decode cX5_plan 144 = .ok (.iload_n 2, 1) := by decide +kernel
theorem dX5_plan_145 : decode cX5_plan 145 = .ok (.if_icmp .gt 35, 3) := by decide +kernel
theorem dX5_plan_148 : decode cX5_plan 148 = .ok (.aload_n 0, 1) := by decide +kernel
theorem dX5_plan_149 : decode cX5_plan 149 = .ok (.getfield 64, 3) := by decide +kernel
theorem dX5_plan_152 : decode cX5_plan 152 = .ok (.iload 5, 2) := by decide +kernel
theorem dX5_plan_154 : decode cX5_plan 154 = .ok (.iaload, 1) := by decide +kernel
theorem dX5_plan_155 : decode cX5_plan 155 = .ok (.aload_n 0, 1) := by decide +kernel
theorem dX5_plan_156 : decode cX5_plan 156 = .ok (.getfield 64, 3) := by decide +kernel
theorem dX5_plan_159 : decode cX5_plan 159 = .ok (.iload 4, 2) := by decide +kernel
theorem dX5_plan_161 : decode cX5_plan 161 = .ok (.iaload, 1) := by decide +kernel
theorem dX5_plan_162 : decode cX5_plan 162 = .ok (.if_icmp .le 8, 3) := by decide +kernel
theorem dX5_plan_165 : decode cX5_plan 165 = .ok (.iload 5, 2) := by decide +kernel
theorem dX5_plan_167 : decode cX5_plan 167 = .ok (.goto 5, 3) := by decide +kernel
theorem dX5_plan_170 : decode cX5_plan 170 = .ok (.iload 4, 2) := by decide +kernel
theorem dX5_plan_172 : decode cX5_plan 172 = .ok (.istore 4, 2) := by decide +kernel
theorem dX5_plan_174 : decode cX5_plan 174 = .ok (.iinc 5 1, 3) := by decide +kernel
theorem dX5_plan_177 : decode cX5_plan 177 = .ok (.goto (-35), 3) := by decide +kernel
theorem dX5_plan_180 : decode cX5_plan 180 = .ok (.iload_n 3, 1) := by decide +kernel
theorem dX5_plan_181 : decode cX5_plan 181 = .ok (.ifCond .ne 13, 3) := by decide +kernel
theorem dX5_plan_184 : decode cX5_plan 184 = .ok (.aload_n 0, 1) := by decide +kernel
theorem dX5_plan_185 : decode cX5_plan 185 = .ok (.getfield 64, 3) := by decide +kernel
theorem dX5_plan_188 : decode cX5_plan 188 = .ok (.iload 4, 2) := by decide +kernel
theorem dX5_plan_190 : decode cX5_plan 190 = .ok (.iaload, 1) := by decide +kernel
theorem dX5_plan_191 : decode cX5_plan 191 = .ok (.goto 5, 3) := by decide +kernel
theorem dX5_plan_194 : decode cX5_plan 194 = .ok (.iload 4, 2) := by decide +kernel
theorem dX5_plan_196 : decode cX5_plan 196 = .ok (.ireturn, 1) := by decide +kernel
theorem dX5_which_0 : decode cX5_which 0 = .ok (.aload_n 0, 1) := by decide +kernel
theorem dX5_which_1 : decode cX5_which 1 = .ok (.iload_n 1, 1) := by decide +kernel
theorem dX5_which_2 : decode cX5_which 2 = .ok (.invokevirtual 170, 3) := by decide +kernel
theorem dX5_which_5 : decode cX5_which 5 = .ok (.ifCond .ne 6, 3) := by decide +kernel
theorem dX5_which_8 : decode cX5_which 8 = .ok (.bipush (-5), 2) := by decide +kernel
theorem dX5_which_10 : decode cX5_which 10 = .ok (.ireturn, 1) := by decide +kernel
theorem dX5_which_11 : decode cX5_which 11 = .ok (.iload_n 2, 1) := by decide +kernel
theorem dX5_which_12 : decode cX5_which 12 = .ok (.iconst 0, 1) := by decide +kernel
theorem dX5_which_13 : decode cX5_which 13 = .ok (.iconst 1, 1) := by decide +kernel
theorem dX5_which_14 : decode cX5_which 14 = .ok (.invokestatic 78, 3) := by decide +kernel
theorem dX5_which_17 : decode cX5_which 17 = .ok (.ifCond .ne 6, 3) := by decide +kernel
theorem dX5_which_20 : decode cX5_which 20 = .ok (.bipush (-7), 2) := by decide +kernel
theorem dX5_which_22 : decode cX5_which 22 = .ok (.ireturn, 1) := by decide +kernel
theorem dX5_which_23 : decode cX5_which 23 = .ok (.iconst (-1), 1) := by decide +kernel
theorem dX5_which_24 : decode cX5_which 24 = .ok (.istore_n 3, 1) := by decide +kernel
theorem dX5_which_25 : decode cX5_which 25 = .ok (.aload_n 0, 1) := by decide +kernel
theorem dX5_which_26 : decode cX5_which 26 = .ok (.getfield 16, 3) := by decide +kernel
theorem dX5_which_29 : decode cX5_which 29 = .ok (.bipush 12, 2) := by decide +kernel
theorem dX5_which_31 : decode cX5_which 31 = .ok (.iload_n 1, 1) := by decide +kernel
theorem dX5_which_32 : decode cX5_which 32 = .ok (.imul, 1) := by decide +kernel
theorem dX5_which_33 : decode cX5_which 33 = .ok (.bipush 8, 2) := by decide +kernel
theorem dX5_which_35 : decode cX5_which 35 = .ok (.iadd, 1) := by decide +kernel
theorem dX5_which_36 : decode cX5_which 36 = .ok (.iaload, 1) := by decide +kernel
theorem dX5_which_37 : decode cX5_which 37 = .ok (.istore 4, 2) := by decide +kernel
theorem dX5_which_39 : decode cX5_which 39 = .ok (.iconst 0, 1) := by decide +kernel
theorem dX5_which_40 : decode cX5_which 40 = .ok (.istore 5, 2) := by decide +kernel
theorem dX5_which_42 : decode cX5_which 42 = .ok (.iload 5, 2) := by decide +kernel
theorem dX5_which_44 : decode cX5_which 44 = .ok (.bipush 8, 2) := by decide +kernel
theorem dX5_which_46 : decode cX5_which 46 = .ok (.if_icmp .ge 92, 3) := by decide +kernel
theorem dX5_which_49 : decode cX5_which 49 = .ok (.aload_n 0, 1) := by decide +kernel
theorem dX5_which_50 : decode cX5_which 50 = .ok (.iload_n 1, 1) := by decide +kernel
theorem dX5_which_51 : decode cX5_which 51 = .ok (.iload 5, 2) := by decide +kernel
theorem dX5_which_53 : decode cX5_which 53 = .ok (.invokevirtual 192, 3) := by decide +kernel
theorem dX5_which_56 : decode cX5_which 56 = .ok (.ifCond .eq 76, 3) := by decide +kernel
theorem dX5_which_59 : decode cX5_which 59 = .ok (.aload_n 0, 1) := by decide +kernel
theorem dX5_which_60 : decode cX5_which 60 = .ok (.getfield 16, 3) := by decide +kernel
theorem dX5_which_63 : decode cX5_which 63 = .ok (.bipush 12, 2) := by decide +kernel
theorem dX5_which_65 : decode cX5_which 65 = .ok (.iload_n 1, 1) := by decide +kernel
theorem dX5_which_66 : decode cX5_which 66 = .ok (.imul, 1) := by decide +kernel
theorem dX5_which_67 : decode cX5_which 67 = .ok (.bipush 8, 2) := by decide +kernel
theorem dX5_which_69 : decode cX5_which 69 = .ok (.iadd, 1) := by decide +kernel
theorem dX5_which_70 : decode cX5_which 70 = .ok (.iaload, 1) := by decide +kernel
theorem dX5_which_71 : decode cX5_which 71 = .ok (.aload_n 0, 1) := by decide +kernel
theorem dX5_which_72 : decode cX5_which 72 = .ok (.iload_n 1, 1) := by decide +kernel
theorem dX5_which_73 : decode cX5_which 73 = .ok (.iload 5, 2) := by decide +kernel
theorem dX5_which_75 : decode cX5_which 75 = .ok (.invokevirtual 186, 3) := by decide +kernel
theorem dX5_which_78 : decode cX5_which 78 = .ok (.iadd, 1) := by decide +kernel
theorem dX5_which_79 : decode cX5_which 79 = .ok (.iconst 0, 1) := by decide +kernel
theorem dX5_which_80 : decode cX5_which 80 = .ok (.bipush 99, 2) := by decide +kernel
theorem dX5_which_82 : decode cX5_which 82 = .ok (.invokestatic 167, 3) := by decide +kernel
theorem dX5_which_85 : decode cX5_which 85 = .ok (.istore 6, 2) := by decide +kernel
theorem dX5_which_87 : decode cX5_which 87 = .ok (.iload_n 3, 1) := by decide +kernel
theorem dX5_which_88 : decode cX5_which 88 = .ok (.iconst (-1), 1) := by decide +kernel
theorem dX5_which_89 : decode cX5_which 89 = .ok (.if_icmp .eq 10, 3) := by decide +kernel
theorem dX5_which_92 : decode cX5_which 92 = .ok (.iload 6, 2) := by decide +kernel
theorem dX5_which_94 : decode cX5_which 94 = .ok (.iload 4, 2) := by decide +kernel
theorem dX5_which_96 : decode cX5_which 96 = .ok (.if_icmp .le 7, 3) := by decide +kernel
theorem dX5_which_99 : decode cX5_which 99 = .ok (.iconst 1, 1) := by decide +kernel
theorem dX5_which_100 : decode cX5_which 100 = .ok (.goto 4, 3) := by decide +kernel
theorem dX5_which_103 : decode cX5_which 103 = .ok (.iconst 0, 1) := by decide +kernel
theorem dX5_which_104 : decode cX5_which 104 = .ok (.istore 7, 2) := by decide +kernel
theorem dX5_which_106 : decode cX5_which 106 = .ok (.iload 7, 2) := by decide +kernel
theorem dX5_which_108 : decode cX5_which 108 = .ok (.ifCond .eq 8, 3) := by decide +kernel
theorem dX5_which_111 : decode cX5_which 111 = .ok (.iload 5, 2) := by decide +kernel
theorem dX5_which_113 : decode cX5_which 113 = .ok (.goto 4, 3) := by decide +kernel
theorem dX5_which_116 : decode cX5_which 116 = .ok (.iload_n 3, 1) := by decide +kernel
theorem dX5_which_117 : decode cX5_which 117 = .ok (.istore_n 3, 1) := by decide +kernel
theorem dX5_which_118 : decode cX5_which 118 = .ok (.iload 7, 2) := by decide +kernel
theorem dX5_which_120 : decode cX5_which 120 = .ok (.ifCond .eq 8, 3) := by decide +kernel
theorem dX5_which_123 : decode cX5_which 123 = .ok (.iload 6, 2) := by decide +kernel
theorem dX5_which_125 : decode cX5_which 125 = .ok (.goto 5, 3) := by decide +kernel
theorem dX5_which_128 : decode cX5_which 128 = .ok (.iload 4, 2) := by decide +kernel
theorem dX5_which_130 : decode cX5_which 130 = .ok (.istore 4, 2) := by decide +kernel
theorem dX5_which_132 : decode cX5_which 132 = .ok (.iinc 5 1, 3) := by decide +kernel
theorem dX5_which_135 : decode cX5_which 135 = .ok (.goto (-93), 3) := by decide +kernel
theorem dX5_which_138 : decode cX5_which 138 = .ok (.iload_n 2, 1) := by decide +kernel
theorem dX5_which_139 : decode cX5_which 139 = .ok (.ifCond .ne 7, 3) := by decide +kernel
theorem dX5_which_142 : decode cX5_which 142 = .ok (.iload_n 3, 1) := by decide +kernel
theorem dX5_which_143 : decode cX5_which 143 = .ok (.goto 5, 3) := by decide +kernel
theorem dX5_which_146 : decode cX5_which 146 = .ok (.iload 4, 2) := by decide +kernel
theorem dX5_which_148 : decode cX5_which 148 = .ok (.ireturn, 1) := by decide +kernel
theorem dX5_firstUnseen_0 : decode cX5_firstUnseen 0 = .ok (.iconst 0, 1) := by decide +kernel
theorem dX5_firstUnseen_1 : decode cX5_firstUnseen 1 = .ok (.istore_n 2, 1) := by decide +kernel
theorem dX5_firstUnseen_2 : decode cX5_firstUnseen 2 = .ok (.iload_n 2, 1) := by decide +kernel
theorem dX5_firstUnseen_3 : decode cX5_firstUnseen 3 = .ok (.bipush 8, 2) := by decide +kernel
theorem dX5_firstUnseen_5 : decode cX5_firstUnseen 5 = .ok (.if_icmp .ge 20, 3) := by decide +kernel
theorem dX5_firstUnseen_8 : decode cX5_firstUnseen 8 = .ok (.aload_n 0, 1) := by decide +kernel
theorem dX5_firstUnseen_9 : decode cX5_firstUnseen 9 = .ok (.iload_n 1, 1) := by decide +kernel
theorem dX5_firstUnseen_10 : decode cX5_firstUnseen 10 = .ok (.iload_n 2, 1) := by decide +kernel
theorem dX5_firstUnseen_11 : decode cX5_firstUnseen 11 = .ok (.invokevirtual 179, 3) := by decide +kernel
theorem dX5_firstUnseen_14 : decode cX5_firstUnseen 14 = .ok (.ifCond .ne 5, 3) := by decide +kernel
theorem dX5_firstUnseen_17 : decode cX5_firstUnseen 17 = .ok (.iload_n 2, 1) := by decide +kernel
theorem dX5_firstUnseen_18 : decode cX5_firstUnseen 18 = .ok (.ireturn, 1) := by decide +kernel
theorem dX5_firstUnseen_19 : decode cX5_firstUnseen 19 = .ok (.iinc 2 1, 3) := by decide +kernel
theorem dX5_firstUnseen_22 : decode cX5_firstUnseen 22 = .ok (.goto (-20), 3) := by decide +kernel
theorem dX5_firstUnseen_25 : decode cX5_firstUnseen 25 = .ok (.iconst (-1), 1) := by decide +kernel
theorem dX5_firstUnseen_26 : decode cX5_firstUnseen 26 = .ok (.ireturn, 1) := by decide +kernel
theorem dX5_unseen_0 : decode cX5_unseen 0 = .ok (.iconst 0, 1) := by decide +kernel
theorem dX5_unseen_1 : decode cX5_unseen 1 = .ok (.istore_n 2, 1) := by decide +kernel
theorem dX5_unseen_2 : decode cX5_unseen 2 = .ok (.iload_n 2, 1) := by decide +kernel
theorem dX5_unseen_3 : decode cX5_unseen 3 = .ok (.bipush 8, 2) := by decide +kernel
theorem dX5_unseen_5 : decode cX5_unseen 5 = .ok (.if_icmp .ge 34, 3) := by decide +kernel
theorem dX5_unseen_8 : decode cX5_unseen 8 = .ok (.aload_n 0, 1) := by decide +kernel
theorem dX5_unseen_9 : decode cX5_unseen 9 = .ok (.iload_n 1, 1) := by decide +kernel
theorem dX5_unseen_10 : decode cX5_unseen 10 = .ok (.iload_n 2, 1) := by decide +kernel
theorem dX5_unseen_11 : decode cX5_unseen 11 = .ok (.invokevirtual 179, 3) := by decide +kernel
theorem dX5_unseen_14 : decode cX5_unseen 14 = .ok (.ifCond .ne 19, 3) := by decide +kernel
theorem dX5_unseen_17 : decode cX5_unseen 17 = .ok (.aload_n 0, 1) := by decide +kernel
theorem dX5_unseen_18 : decode cX5_unseen 18 = .ok (.getfield 16, 3) := by decide +kernel
theorem dX5_unseen_21 : decode cX5_unseen 21 = .ok (.bipush 12, 2) := by decide +kernel
theorem dX5_unseen_23 : decode cX5_unseen 23 = .ok (.iload_n 1, 1) := by decide +kernel
theorem dX5_unseen_24 : decode cX5_unseen 24 = .ok (.imul, 1) := by decide +kernel
theorem dX5_unseen_25 : decode cX5_unseen 25 = .ok (.iload_n 2, 1) := by decide +kernel
theorem dX5_unseen_26 : decode cX5_unseen 26 = .ok (.iadd, 1) := by decide +kernel
theorem dX5_unseen_27 : decode cX5_unseen 27 = .ok (.iaload, 1) := by decide +kernel
theorem dX5_unseen_28 : decode cX5_unseen 28 = .ok (.ifCond .ne 5, 3) := by decide +kernel
theorem dX5_unseen_31 : decode cX5_unseen 31 = .ok (.iconst (-1), 1) := by decide +kernel
theorem dX5_unseen_32 : decode cX5_unseen 32 = .ok (.ireturn, 1) := by decide +kernel
theorem dX5_unseen_33 : decode cX5_unseen 33 = .ok (.iinc 2 1, 3) := by decide +kernel
theorem dX5_unseen_36 : decode cX5_unseen 36 = .ok (.goto (-34), 3) := by decide +kernel
theorem dX5_unseen_39 : decode cX5_unseen 39 = .ok (.bipush 8, 2) := by decide +kernel
theorem dX5_unseen_41 : decode cX5_unseen 41 = .ok (.aload_n 0, 1) := by decide +kernel
theorem dX5_unseen_42 : decode cX5_unseen 42 = .ok (.getfield 16, 3) := by decide +kernel
theorem dX5_unseen_45 : decode cX5_unseen 45 = .ok (.bipush 12, 2) := by decide +kernel
theorem dX5_unseen_47 : decode cX5_unseen 47 = .ok (.iload_n 1, 1) := by decide +kernel
theorem dX5_unseen_48 : decode cX5_unseen 48 = .ok (.imul, 1) := by decide +kernel
theorem dX5_unseen_49 : decode cX5_unseen 49 = .ok (.bipush 9, 2) := by decide +kernel
theorem dX5_unseen_51 : decode cX5_unseen 51 = .ok (.iadd, 1) := by decide +kernel
theorem dX5_unseen_52 : decode cX5_unseen 52 = .ok (.iaload, 1) := by decide +kernel
theorem dX5_unseen_53 : decode cX5_unseen 53 = .ok (.invokestatic 92, 3) := by decide +kernel
theorem dX5_unseen_56 : decode cX5_unseen 56 = .ok (.isub, 1) := by decide +kernel
theorem dX5_unseen_57 : decode cX5_unseen 57 = .ok (.ireturn, 1) := by decide +kernel
theorem dX5_tourOf_0 : decode cX5_tourOf 0 = .ok (.iconst 0, 1) := by decide +kernel
theorem dX5_tourOf_1 : decode cX5_tourOf 1 = .ok (.istore_n 2, 1) := by decide +kernel
theorem dX5_tourOf_2 : decode cX5_tourOf 2 = .ok (.iload_n 2, 1) := by decide +kernel
theorem dX5_tourOf_3 : decode cX5_tourOf 3 = .ok (.sipush 200, 3) := by decide +kernel
theorem dX5_tourOf_6 : decode cX5_tourOf 6 = .ok (.if_icmp .gt 52, 3) := by decide +kernel
theorem dX5_tourOf_9 : decode cX5_tourOf 9 = .ok (.aload_n 0, 1) := by decide +kernel
theorem dX5_tourOf_10 : decode cX5_tourOf 10 = .ok (.iload_n 1, 1) := by decide +kernel
theorem dX5_tourOf_11 : decode cX5_tourOf 11 = .ok (.invokevirtual 82, 3) := by decide +kernel
theorem dX5_tourOf_14 : decode cX5_tourOf 14 = .ok (.ifCond .eq 33, 3) := by decide +kernel
theorem dX5_tourOf_17 : decode cX5_tourOf 17 = .ok (.aload_n 0, 1) := by decide +kernel
theorem dX5_tourOf_18 : decode cX5_tourOf 18 = .ok (.iload_n 1, 1) := by decide +kernel
theorem dX5_tourOf_19 : decode cX5_tourOf 19 = .ok (.invokevirtual 226, 3) := by decide +kernel
theorem dX5_tourOf_22 : decode cX5_tourOf 22 = .ok (.istore_n 3, 1) := by decide +kernel
theorem dX5_tourOf_23 : decode cX5_tourOf 23 = .ok (.iload_n 3, 1) := by decide +kernel
theorem dX5_tourOf_24 : decode cX5_tourOf 24 = .ok (.iconst (-1), 1) := by decide +kernel
theorem dX5_tourOf_25 : decode cX5_tourOf 25 = .ok (.if_icmp .ne 5, 3) := by decide +kernel
theorem dX5_tourOf_28 : decode cX5_tourOf 28 = .ok (.iload_n 2, 1) := by decide +kernel
theorem dX5_tourOf_29 : decode cX5_tourOf 29 = .ok (.ireturn, 1) := by decide +kernel
theorem dX5_tourOf_30 : decode cX5_tourOf 30 = .ok (.aload_n 0, 1) := by decide +kernel
theorem dX5_tourOf_31 : decode cX5_tourOf 31 = .ok (.iload_n 1, 1) := by decide +kernel
theorem dX5_tourOf_32 : decode cX5_tourOf 32 = .ok (.iload_n 3, 1) := by decide +kernel
theorem dX5_tourOf_33 : decode cX5_tourOf 33 = .ok (.invokevirtual 192, 3) := by decide +kernel
theorem dX5_tourOf_36 : decode cX5_tourOf 36 = .ok (.ifCond .ne 5, 3) := by decide +kernel
theorem dX5_tourOf_39 : decode cX5_tourOf 39 = .ok (.iconst (-1), 1) := by decide +kernel
theorem dX5_tourOf_40 : decode cX5_tourOf 40 = .ok (.ireturn, 1) := by decide +kernel
theorem dX5_tourOf_41 : decode cX5_tourOf 41 = .ok (.aload_n 0, 1) := by decide +kernel
theorem dX5_tourOf_42 : decode cX5_tourOf 42 = .ok (.iload_n 1, 1) := by decide +kernel
theorem dX5_tourOf_43 : decode cX5_tourOf 43 = .ok (.iload_n 3, 1) := by decide +kernel
theorem dX5_tourOf_44 : decode cX5_tourOf 44 = .ok (.invokevirtual 195, 3) := by decide +kernel
theorem dX5_tourOf_47 : decode cX5_tourOf 47 = .ok (.aload_n 0, 1) := by decide +kernel
theorem dX5_tourOf_48 : decode cX5_tourOf 48 = .ok (.invokevirtual 199, 3) := by decide +kernel
theorem dX5_tourOf_51 : decode cX5_tourOf 51 = .ok (.pop, 1) := by decide +kernel
theorem dX5_tourOf_52 : decode cX5_tourOf 52 = .ok (.iinc 2 1, 3) := by decide +kernel
theorem dX5_tourOf_55 : decode cX5_tourOf 55 = .ok (.goto (-53), 3) := by decide +kernel
theorem dX5_tourOf_58 : decode cX5_tourOf 58 = .ok (.iconst (-1), 1) := by decide +kernel
theorem dX5_tourOf_59 : decode cX5_tourOf 59 = .ok (.ireturn, 1) := by decide +kernel
theorem dX5_tour_0 : decode cX5_tour 0 = .ok (.aload_n 0, 1) := by decide +kernel
theorem dX5_tour_1 : decode cX5_tour 1 = .ok (.iload_n 1, 1) := by decide +kernel
theorem dX5_tour_2 : decode cX5_tour 2 = .ok (.invokevirtual 170, 3) := by decide +kernel
theorem dX5_tour_5 : decode cX5_tour 5 = .ok (.ifCond .ne 6, 3) := by decide +kernel
theorem dX5_tour_8 : decode cX5_tour 8 = .ok (.bipush (-5), 2) := by decide +kernel
theorem dX5_tour_10 : decode cX5_tour 10 = .ok (.ireturn, 1) := by decide +kernel
theorem dX5_tour_11 : decode cX5_tour 11 = .ok (.iload_n 2, 1) := by decide +kernel
theorem dX5_tour_12 : decode cX5_tour 12 = .ok (.iconst 0, 1) := by decide +kernel
theorem dX5_tour_13 : decode cX5_tour 13 = .ok (.iconst 1, 1) := by decide +kernel
theorem dX5_tour_14 : decode cX5_tour 14 = .ok (.invokestatic 78, 3) := by decide +kernel
theorem dX5_tour_17 : decode cX5_tour 17 = .ok (.ifCond .ne 6, 3) := by decide +kernel
theorem dX5_tour_20 : decode cX5_tour 20 = .ok (.bipush (-7), 2) := by decide +kernel
theorem dX5_tour_22 : decode cX5_tour 22 = .ok (.ireturn, 1) := by decide +kernel
theorem dX5_tour_23 : decode cX5_tour 23 = .ok (.aload_n 0, 1) := by decide +kernel
theorem dX5_tour_24 : decode cX5_tour 24 = .ok (.iload_n 1, 1) := by decide +kernel
theorem dX5_tour_25 : decode cX5_tour 25 = .ok (.invokevirtual 229, 3) := by decide +kernel
theorem dX5_tour_28 : decode cX5_tour 28 = .ok (.istore_n 3, 1) := by decide +kernel
theorem dX5_tour_29 : decode cX5_tour 29 = .ok (.iload_n 2, 1) := by decide +kernel
theorem dX5_tour_30 : decode cX5_tour 30 = .ok (.ifCond .eq 8, 3) := by decide +kernel
theorem dX5_tour_33 : decode cX5_tour 33 = .ok (.iload_n 3, 1) := by decide +kernel
theorem dX5_tour_34 : decode cX5_tour 34 = .ok (.iconst (-1), 1) := by decide +kernel
theorem dX5_tour_35 : decode cX5_tour 35 = .ok (.if_icmp .ne 5, 3) := by decide +kernel
theorem dX5_tour_38 : decode cX5_tour 38 = .ok (.iload_n 3, 1) := by decide +kernel
theorem dX5_tour_39 : decode cX5_tour 39 = .ok (.ireturn, 1) := by decide +kernel
theorem dX5_tour_40 : decode cX5_tour 40 = .ok (.aload_n 0, 1) := by decide +kernel
theorem dX5_tour_41 : decode cX5_tour 41 = .ok (.invokevirtual 214, 3) := by decide +kernel
theorem dX5_tour_44 : decode cX5_tour 44 = .ok (.aload_n 0, 1) := by decide +kernel
theorem dX5_tour_45 : decode cX5_tour 45 = .ok (.iload_n 1, 1) := by decide +kernel
theorem dX5_tour_46 : decode cX5_tour 46 = .ok (.invokevirtual 232, 3) := by decide +kernel
theorem dX5_tour_49 : decode cX5_tour 49 = .ok (.istore 4, 2) := by decide +kernel
theorem dX5_tour_51 : decode cX5_tour 51 = .ok (.aload_n 0, 1) := by decide +kernel
theorem dX5_tour_52 : decode cX5_tour 52 = .ok (.invokevirtual 220, 3) := by decide +kernel
theorem dX5_tour_55 : decode cX5_tour 55 = .ok (.iload 4, 2) := by decide +kernel
theorem dX5_tour_57 : decode cX5_tour 57 = .ok (.ireturn, 1) := by decide +kernel
theorem dX5_witSharing_0 : decode cX5_witSharing 0 = .ok (.iconst 0, 1) := by decide +kernel
theorem dX5_witSharing_1 : decode cX5_witSharing 1 = .ok (.istore_n 2, 1) := by decide +kernel
theorem dX5_witSharing_2 : decode cX5_witSharing 2 = .ok (.iload_n 2, 1) := by decide +kernel
theorem dX5_witSharing_3 : decode cX5_witSharing 3 = .ok (.aload_n 0, 1) := by decide +kernel
theorem dX5_witSharing_4 : decode cX5_witSharing 4 = .ok (.getfield 75, 3) := by decide +kernel
theorem dX5_witSharing_7 : decode cX5_witSharing 7 = .ok (.if_icmp .ge 24, 3) := by decide +kernel
theorem dX5_witSharing_10 : decode cX5_witSharing 10 = .ok (.aload_n 0, 1) := by decide +kernel
theorem dX5_witSharing_11 : decode cX5_witSharing 11 = .ok (.iload_n 2, 1) := by decide +kernel
theorem dX5_witSharing_12 : decode cX5_witSharing 12 = .ok (.iload_n 1, 1) := by decide +kernel
theorem dX5_witSharing_13 : decode cX5_witSharing 13 = .ok (.invokevirtual 192, 3) := by decide +kernel
theorem dX5_witSharing_16 : decode cX5_witSharing 16 = .ok (.ifCond .eq 9, 3) := by decide +kernel
theorem dX5_witSharing_19 : decode cX5_witSharing 19 = .ok (.aload_n 0, 1) := by decide +kernel
theorem dX5_witSharing_20 : decode cX5_witSharing 20 = .ok (.iload_n 2, 1) := by decide +kernel
theorem dX5_witSharing_21 : decode cX5_witSharing 21 = .ok (.iload_n 1, 1) := by decide +kernel
theorem dX5_witSharing_22 : decode cX5_witSharing 22 = .ok (.invokevirtual 195, 3) := by decide +kernel
theorem dX5_witSharing_25 : decode cX5_witSharing 25 = .ok (.iinc 2 1, 3) := by decide +kernel
theorem dX5_witSharing_28 : decode cX5_witSharing 28 = .ok (.goto (-26), 3) := by decide +kernel
theorem dX5_witSharing_31 : decode cX5_witSharing 31 = .ok (.aload_n 0, 1) := by decide +kernel
theorem dX5_witSharing_32 : decode cX5_witSharing 32 = .ok (.invokevirtual 235, 3) := by decide +kernel
theorem dX5_witSharing_35 : decode cX5_witSharing 35 = .ok (.ireturn, 1) := by decide +kernel
theorem dX5_share_0 : decode cX5_share 0 = .ok (.iload_n 1, 1) := by decide +kernel
theorem dX5_share_1 : decode cX5_share 1 = .ok (.invokestatic 173, 3) := by decide +kernel
theorem dX5_share_4 : decode cX5_share 4 = .ok (.ifCond .eq 12, 3) := by decide +kernel
theorem dX5_share_7 : decode cX5_share 7 = .ok (.iload_n 2, 1) := by decide +kernel
theorem dX5_share_8 : decode cX5_share 8 = .ok (.iconst 0, 1) := by decide +kernel
theorem dX5_share_9 : decode cX5_share 9 = .ok (.iconst 1, 1) := by decide +kernel
theorem dX5_share_10 : decode cX5_share 10 = .ok (.invokestatic 78, 3) := by decide +kernel
theorem dX5_share_13 : decode cX5_share 13 = .ok (.ifCond .ne 6, 3) := by decide +kernel
theorem dX5_share_16 : decode cX5_share 16 = .ok (.bipush (-2), 2) := by decide +kernel
theorem dX5_share_18 : decode cX5_share 18 = .ok (.ireturn, 1) := by decide +kernel
theorem dX5_share_19 : decode cX5_share 19 = .ok (.iconst (-1), 1) := by decide +kernel
theorem dX5_share_20 : decode cX5_share 20 = .ok (.istore_n 3, 1) := by decide +kernel
theorem dX5_share_21 : decode cX5_share 21 = .ok (.aload_n 0, 1) := by decide +kernel
theorem dX5_share_22 : decode cX5_share 22 = .ok (.invokevirtual 235, 3) := by decide +kernel
theorem dX5_share_25 : decode cX5_share 25 = .ok (.istore 4, 2) := by decide +kernel
theorem dX5_share_27 : decode cX5_share 27 = .ok (.aload_n 0, 1) := by decide +kernel
theorem dX5_share_28 : decode cX5_share 28 = .ok (.invokevirtual 214, 3) := by decide +kernel
theorem dX5_share_31 : decode cX5_share 31 = .ok (.iconst 0, 1) := by decide +kernel
theorem dX5_share_32 : decode cX5_share 32 = .ok (.istore 5, 2) := by decide +kernel
theorem dX5_share_34 : decode cX5_share 34 = .ok (.iload 5, 2) := by decide +kernel
theorem dX5_share_36 : decode cX5_share 36 = .ok (.aload_n 0, 1) := by decide +kernel
theorem dX5_share_37 : decode cX5_share 37 = .ok (.getfield 75, 3) := by decide +kernel
theorem dX5_share_40 : decode cX5_share 40 = .ok (.if_icmp .ge 98, 3) := by decide +kernel
theorem dX5_share_43 : decode cX5_share 43 = .ok (.aload_n 0, 1) := by decide +kernel
theorem dX5_share_44 : decode cX5_share 44 = .ok (.getfield 16, 3) := by decide +kernel
theorem dX5_share_47 : decode cX5_share 47 = .ok (.bipush 12, 2) := by decide +kernel
theorem dX5_share_49 : decode cX5_share 49 = .ok (.iload 5, 2) := by decide +kernel
theorem dX5_share_51 : decode cX5_share 51 = .ok (.imul, 1) := by decide +kernel
theorem dX5_share_52 : decode cX5_share 52 = .ok (.iload_n 1, 1) := by decide +kernel
theorem dX5_share_53 : decode cX5_share 53 = .ok (.iadd, 1) := by decide +kernel
theorem dX5_share_54 : decode cX5_share 54 = .ok (.iaload, 1) := by decide +kernel
theorem dX5_share_55 : decode cX5_share 55 = .ok (.bipush 9, 2) := by decide +kernel
theorem dX5_share_57 : decode cX5_share 57 = .ok (.if_icmp .ge 75, 3) := by decide +kernel
theorem dX5_share_60 : decode cX5_share 60 = .ok (.aload_n 0, 1) := by decide +kernel
theorem dX5_share_61 : decode cX5_share 61 = .ok (.getfield 16, 3) := by decide +kernel
theorem dX5_share_64 : decode cX5_share 64 = .ok (.bipush 12, 2) := by decide +kernel
theorem dX5_share_66 : decode cX5_share 66 = .ok (.iload 5, 2) := by decide +kernel
theorem dX5_share_68 : decode cX5_share 68 = .ok (.imul, 1) := by decide +kernel
theorem dX5_share_69 : decode cX5_share 69 = .ok (.iload_n 1, 1) := by decide +kernel
theorem dX5_share_70 : decode cX5_share 70 = .ok (.iadd, 1) := by decide +kernel
theorem dX5_share_71 : decode cX5_share 71 = .ok (.dup2, 1) := by decide +kernel
theorem dX5_share_72 : decode cX5_share 72 = .ok (.iaload, 1) := by decide +kernel
theorem dX5_share_73 : decode cX5_share 73 = .ok (.iconst 1, 1) := by decide +kernel
theorem dX5_share_74 : decode cX5_share 74 = .ok (.iadd, 1) := by decide +kernel
theorem dX5_share_75 : decode cX5_share 75 = .ok (.iastore, 1) := by decide +kernel
theorem dX5_share_76 : decode cX5_share 76 = .ok (.aload_n 0, 1) := by decide +kernel
theorem dX5_share_77 : decode cX5_share 77 = .ok (.iload_n 1, 1) := by decide +kernel
theorem dX5_share_78 : decode cX5_share 78 = .ok (.invokevirtual 238, 3) := by decide +kernel
theorem dX5_share_81 : decode cX5_share 81 = .ok (.istore 6, 2) := by decide +kernel
theorem dX5_share_83 : decode cX5_share 83 = .ok (.aload_n 0, 1) := by decide +kernel
theorem dX5_share_84 : decode cX5_share 84 = .ok (.invokevirtual 220, 3) := by decide +kernel
theorem dX5_share_87 : decode cX5_share 87 = .ok (.iload_n 3, 1) := by decide +kernel
theorem dX5_share_88 : decode cX5_share 88 = .ok (.iconst (-1), 1) := by decide +kernel
theorem dX5_share_89 : decode cX5_share 89 = .ok (.if_icmp .eq 10, 3) := by decide +kernel
theorem dX5_share_92 : decode cX5_share 92 = .ok (.iload 6, 2) := by decide +kernel
theorem dX5_share_94 : decode cX5_share 94 = .ok (.iload 4, 2) := by decide +kernel
theorem dX5_share_96 : decode cX5_share 96 = .ok (.if_icmp .le 7, 3) := by decide +kernel
theorem dX5_share_99 : decode cX5_share 99 = .ok (.iconst 1, 1) := by decide +kernel
theorem dX5_share_100 : decode cX5_share 100 = .ok (.goto 4, 3) := by decide +kernel
theorem dX5_share_103 : decode cX5_share 103 = .ok (.iconst 0, 1) := by decide +kernel
theorem dX5_share_104 : decode cX5_share 104 = .ok (.istore 7, 2) := by decide +kernel
theorem dX5_share_106 : decode cX5_share 106 = .ok (.iload 7, 2) := by decide +kernel
theorem dX5_share_108 : decode cX5_share 108 = .ok (.ifCond .eq 8, 3) := by decide +kernel
theorem dX5_share_111 : decode cX5_share 111 = .ok (.iload 5, 2) := by decide +kernel
theorem dX5_share_113 : decode cX5_share 113 = .ok (.goto 4, 3) := by decide +kernel
theorem dX5_share_116 : decode cX5_share 116 = .ok (.iload_n 3, 1) := by decide +kernel
theorem dX5_share_117 : decode cX5_share 117 = .ok (.istore_n 3, 1) := by decide +kernel
theorem dX5_share_118 : decode cX5_share 118 = .ok (.iload 7, 2) := by decide +kernel
theorem dX5_share_120 : decode cX5_share 120 = .ok (.ifCond .eq 8, 3) := by decide +kernel
theorem dX5_share_123 : decode cX5_share 123 = .ok (.iload 6, 2) := by decide +kernel
theorem dX5_share_125 : decode cX5_share 125 = .ok (.goto 5, 3) := by decide +kernel
theorem dX5_share_128 : decode cX5_share 128 = .ok (.iload 4, 2) := by decide +kernel
theorem dX5_share_130 : decode cX5_share 130 = .ok (.istore 4, 2) := by decide +kernel
theorem dX5_share_132 : decode cX5_share 132 = .ok (.iinc 5 1, 3) := by decide +kernel
theorem dX5_share_135 : decode cX5_share 135 = .ok (.goto (-101), 3) := by decide +kernel
theorem dX5_share_138 : decode cX5_share 138 = .ok (.iload_n 2, 1) := by decide +kernel
theorem dX5_share_139 : decode cX5_share 139 = .ok (.ifCond .ne 7, 3) := by decide +kernel
theorem dX5_share_142 : decode cX5_share 142 = .ok (.iload_n 3, 1) := by decide +kernel
theorem dX5_share_143 : decode cX5_share 143 = .ok (.goto 5, 3) := by decide +kernel
theorem dX5_share_146 : decode cX5_share 146 = .ok (.iload 4, 2) := by decide +kernel
theorem dX5_share_148 : decode cX5_share 148 = .ok (.ireturn, 1) := by decide +kernel
theorem dX5_lowest_0 : decode cX5_lowest 0 = .ok (.lload_n 0, 1) := by decide +kernel
theorem dX5_lowest_1 : decode cX5_lowest 1 = .ok (.lconst 0, 1) := by decide +kernel
theorem dX5_lowest_2 : decode cX5_lowest 2 = .ok (.lcmp, 1) := by decide +kernel
theorem dX5_lowest_3 : decode cX5_lowest 3 = .ok (.ifCond .ne 7, 3) := by decide +kernel
theorem dX5_lowest_6 : decode cX5_lowest 6 = .ok (.iload 4, 2) := by decide +kernel
theorem dX5_lowest_8 : decode cX5_lowest 8 = .ok (.i2l, 1) := by decide +kernel
theorem dX5_lowest_9 : decode cX5_lowest 9 = .ok (.lreturn, 1) := by decide +kernel
theorem dX5_lowest_10 : decode cX5_lowest 10 = .ok (.lload_n 0, 1) := by decide +kernel
theorem dX5_lowest_11 : decode cX5_lowest 11 = .ok (.lstore 5, 2) := by decide +kernel
theorem dX5_lowest_13 : decode cX5_lowest 13 = .ok (.lload_n 2, 1) := by decide +kernel
theorem dX5_lowest_14 : decode cX5_lowest 14 = .ok (.lstore 7, 2) := by decide +kernel
theorem dX5_lowest_16 : decode cX5_lowest 16 = .ok (.lload 7, 2) := by decide +kernel
theorem dX5_lowest_18 : decode cX5_lowest 18 = .ok (.lconst 0, 1) := by decide +kernel
theorem dX5_lowest_19 : decode cX5_lowest 19 = .ok (.lcmp, 1) := by decide +kernel
theorem dX5_lowest_20 : decode cX5_lowest 20 = .ok (.ifCond .eq 21, 3) := by decide +kernel
theorem dX5_lowest_23 : decode cX5_lowest 23 = .ok (.lload 5, 2) := by decide +kernel
theorem dX5_lowest_25 : decode cX5_lowest 25 = .ok (.lload 7, 2) := by decide +kernel
theorem dX5_lowest_27 : decode cX5_lowest 27 = .ok (.lrem, 1) := by decide +kernel
theorem dX5_lowest_28 : decode cX5_lowest 28 = .ok (.lstore 9, 2) := by decide +kernel
theorem dX5_lowest_30 : decode cX5_lowest 30 = .ok (.lload 7, 2) := by decide +kernel
theorem dX5_lowest_32 : decode cX5_lowest 32 = .ok (.lstore 5, 2) := by decide +kernel
theorem dX5_lowest_34 : decode cX5_lowest 34 = .ok (.lload 9, 2) := by decide +kernel
theorem dX5_lowest_36 : decode cX5_lowest 36 = .ok (.lstore 7, 2) := by decide +kernel
theorem dX5_lowest_38 : decode cX5_lowest 38 = .ok (.goto (-22), 3) := by decide +kernel
theorem dX5_lowest_41 : decode cX5_lowest 41 = .ok (.iload 4, 2) := by decide +kernel
theorem dX5_lowest_43 : decode cX5_lowest 43 = .ok (.ifCond .ne 7, 3) := by decide +kernel
theorem dX5_lowest_46 : decode cX5_lowest 46 = .ok (.lload_n 0, 1) := by decide +kernel
theorem dX5_lowest_47 : decode cX5_lowest 47 = .ok (.goto 4, 3) := by decide +kernel
theorem dX5_lowest_50 : decode cX5_lowest 50 = .ok (.lload_n 2, 1) := by decide +kernel
theorem dX5_lowest_51 : decode cX5_lowest 51 = .ok (.lload 5, 2) := by decide +kernel
theorem dX5_lowest_53 : decode cX5_lowest 53 = .ok (.ldiv, 1) := by decide +kernel
theorem dX5_lowest_54 : decode cX5_lowest 54 = .ok (.lreturn, 1) := by decide +kernel
theorem dX5_grainsOf_0 : decode cX5_grainsOf 0 = .ok (.iconst 0, 1) := by decide +kernel
theorem dX5_grainsOf_1 : decode cX5_grainsOf 1 = .ok (.istore_n 2, 1) := by decide +kernel
theorem dX5_grainsOf_2 : decode cX5_grainsOf 2 = .ok (.iconst 0, 1) := by decide +kernel
theorem dX5_grainsOf_3 : decode cX5_grainsOf 3 = .ok (.istore_n 3, 1) := by decide +kernel
theorem dX5_grainsOf_4 : decode cX5_grainsOf 4 = .ok (.iload_n 3, 1) := by decide +kernel
theorem dX5_grainsOf_5 : decode cX5_grainsOf 5 = .ok (.bipush 8, 2) := by decide +kernel
theorem dX5_grainsOf_7 : decode cX5_grainsOf 7 = .ok (.if_icmp .ge 23, 3) := by decide +kernel
theorem dX5_grainsOf_10 : decode cX5_grainsOf 10 = .ok (.iload_n 2, 1) := by decide +kernel
theorem dX5_grainsOf_11 : decode cX5_grainsOf 11 = .ok (.aload_n 0, 1) := by decide +kernel
theorem dX5_grainsOf_12 : decode cX5_grainsOf 12 = .ok (.getfield 16, 3) := by decide +kernel
theorem dX5_grainsOf_15 : decode cX5_grainsOf 15 = .ok (.bipush 12, 2) := by decide +kernel
theorem dX5_grainsOf_17 : decode cX5_grainsOf 17 = .ok (.iload_n 1, 1) := by decide +kernel
theorem dX5_grainsOf_18 : decode cX5_grainsOf 18 = .ok (.imul, 1) := by decide +kernel
theorem dX5_grainsOf_19 : decode cX5_grainsOf 19 = .ok (.iload_n 3, 1) := by decide +kernel
theorem dX5_grainsOf_20 : decode cX5_grainsOf 20 = .ok (.iadd, 1) := by decide +kernel
theorem dX5_grainsOf_21 : decode cX5_grainsOf 21 = .ok (.iaload, 1) := by decide +kernel
theorem dX5_grainsOf_22 : decode cX5_grainsOf 22 = .ok (.iadd, 1) := by decide +kernel
theorem dX5_grainsOf_23 : decode cX5_grainsOf 23 = .ok (.istore_n 2, 1) := by decide +kernel
theorem dX5_grainsOf_24 : decode cX5_grainsOf 24 = .ok (.iinc 3 1, 3) := by decide +kernel
theorem dX5_grainsOf_27 : decode cX5_grainsOf 27 = .ok (.goto (-23), 3) := by decide +kernel
theorem dX5_grainsOf_30 : decode cX5_grainsOf 30 = .ok (.iload_n 2, 1) := by decide +kernel
theorem dX5_grainsOf_31 : decode cX5_grainsOf 31 = .ok (.ireturn, 1) := by decide +kernel
theorem dX5_box_0 : decode cX5_box 0 = .ok (.iconst 0, 1) := by decide +kernel
theorem dX5_box_1 : decode cX5_box 1 = .ok (.istore_n 3, 1) := by decide +kernel
theorem dX5_box_2 : decode cX5_box 2 = .ok (.iconst 0, 1) := by decide +kernel
theorem dX5_box_3 : decode cX5_box 3 = .ok (.istore 4, 2) := by decide +kernel
theorem dX5_box_5 : decode cX5_box 5 = .ok (.iload 4, 2) := by decide +kernel
theorem dX5_box_7 : decode cX5_box 7 = .ok (.aload_n 0, 1) := by decide +kernel
theorem dX5_box_8 : decode cX5_box 8 = .ok (.getfield 75, 3) := by decide +kernel
theorem dX5_box_11 : decode cX5_box 11 = .ok (.if_icmp .ge 18, 3) := by decide +kernel
theorem dX5_box_14 : decode cX5_box 14 = .ok (.iload_n 3, 1) := by decide +kernel
theorem dX5_box_15 : decode cX5_box 15 = .ok (.aload_n 0, 1) := by decide +kernel
theorem dX5_box_16 : decode cX5_box 16 = .ok (.iload 4, 2) := by decide +kernel
theorem dX5_box_18 : decode cX5_box 18 = .ok (.invokevirtual 241, 3) := by decide +kernel
theorem dX5_box_21 : decode cX5_box 21 = .ok (.iadd, 1) := by decide +kernel
theorem dX5_box_22 : decode cX5_box 22 = .ok (.istore_n 3, 1) := by decide +kernel
theorem dX5_box_23 : decode cX5_box 23 = .ok (.iinc 4 1, 3) := by decide +kernel
theorem dX5_box_26 : decode cX5_box 26 = .ok (.goto (-21), 3) := by decide +kernel
theorem dX5_box_29 : decode cX5_box 29 = .ok (.aload_n 0, 1) := by decide +kernel
theorem dX5_box_30 : decode cX5_box 30 = .ok (.iload_n 1, 1) := by decide +kernel
theorem dX5_box_31 : decode cX5_box 31 = .ok (.invokevirtual 170, 3) := by decide +kernel
theorem dX5_box_34 : decode cX5_box 34 = .ok (.ifCond .eq 31, 3) := by decide +kernel
theorem dX5_box_37 : decode cX5_box 37 = .ok (.iload_n 2, 1) := by decide +kernel
theorem dX5_box_38 : decode cX5_box 38 = .ok (.iconst 0, 1) := by decide +kernel
theorem dX5_box_39 : decode cX5_box 39 = .ok (.iconst 1, 1) := by decide +kernel
theorem dX5_box_40 : decode cX5_box 40 = .ok (.invokestatic 78, 3) := by decide +kernel
theorem dX5_box_43 : decode cX5_box 43 = .ok (.ifCond .eq 22, 3) := by decide +kernel
theorem dX5_box_46 : decode cX5_box 46 = .ok (.iload_n 3, 1) := by decide +kernel
theorem dX5_box_47 : decode cX5_box 47 = .ok (.ifCond .le 18, 3) := by decide +kernel
theorem dX5_box_50 : decode cX5_box 50 = .ok (.aload_n 0, 1) := by decide +kernel
theorem dX5_box_51 : decode cX5_box 51 = .ok (.iload_n 1, 1) := by decide +kernel
theorem dX5_box_52 : decode cX5_box 52 = .ok (.invokevirtual 241, 3) := by decide +kernel
theorem dX5_box_55 : decode cX5_box 55 = .ok (.i2l, 1) := by decide +kernel
theorem dX5_box_56 : decode cX5_box 56 = .ok (.iload_n 3, 1) := by decide +kernel
theorem dX5_box_57 : decode cX5_box 57 = .ok (.i2l, 1) := by decide +kernel
theorem dX5_box_58 : decode cX5_box 58 = .ok (.iload_n 2, 1) := by decide +kernel
theorem dX5_box_59 : decode cX5_box 59 = .ok (.invokestatic 244, 3) := by decide +kernel
theorem dX5_box_62 : decode cX5_box 62 = .ok (.goto 6, 3) := by decide +kernel
theorem dX5_box_65 : decode cX5_box 65 = .ok (.ldc2_w 248, 3) := by decide +kernel
theorem dX5_box_68 : decode cX5_box 68 = .ok (.lreturn, 1) := by decide +kernel
theorem dX5_twoWrong_0 : decode cX5_twoWrong 0 = .ok (.iload_n 2, 1) := by decide +kernel
theorem dX5_twoWrong_1 : decode cX5_twoWrong 1 = .ok (.iconst 0, 1) := by decide +kernel
theorem dX5_twoWrong_2 : decode cX5_twoWrong 2 = .ok (.iconst 3, 1) := by decide +kernel
theorem dX5_twoWrong_3 : decode cX5_twoWrong 3 = .ok (.invokestatic 78, 3) := by decide +kernel
theorem dX5_twoWrong_6 : decode cX5_twoWrong 6 = .ok (.ifCond .ne 6, 3) := by decide +kernel
theorem dX5_twoWrong_9 : decode cX5_twoWrong 9 = .ok (.bipush (-2), 2) := by decide +kernel
theorem dX5_twoWrong_11 : decode cX5_twoWrong 11 = .ok (.ireturn, 1) := by decide +kernel
theorem dX5_twoWrong_12 : decode cX5_twoWrong 12 = .ok (.aload_n 0, 1) := by decide +kernel
theorem dX5_twoWrong_13 : decode cX5_twoWrong 13 = .ok (.iload_n 1, 1) := by decide +kernel
theorem dX5_twoWrong_14 : decode cX5_twoWrong 14 = .ok (.invokevirtual 211, 3) := by decide +kernel
theorem dX5_twoWrong_17 : decode cX5_twoWrong 17 = .ok (.istore_n 3, 1) := by decide +kernel
theorem dX5_twoWrong_18 : decode cX5_twoWrong 18 = .ok (.iload_n 3, 1) := by decide +kernel
theorem dX5_twoWrong_19 : decode cX5_twoWrong 19 = .ok (.ifCond .eq 5, 3) := by decide +kernel
theorem dX5_twoWrong_22 : decode cX5_twoWrong 22 = .ok (.iload_n 3, 1) := by decide +kernel
theorem dX5_twoWrong_23 : decode cX5_twoWrong 23 = .ok (.ireturn, 1) := by decide +kernel
theorem dX5_twoWrong_24 : decode cX5_twoWrong 24 = .ok (.aload_n 0, 1) := by decide +kernel
theorem dX5_twoWrong_25 : decode cX5_twoWrong 25 = .ok (.getfield 34, 3) := by decide +kernel
theorem dX5_twoWrong_28 : decode cX5_twoWrong 28 = .ok (.iload_n 2, 1) := by decide +kernel
theorem dX5_twoWrong_29 : decode cX5_twoWrong 29 = .ok (.iaload, 1) := by decide +kernel
theorem dX5_twoWrong_30 : decode cX5_twoWrong 30 = .ok (.iconst (-1), 1) := by decide +kernel
theorem dX5_twoWrong_31 : decode cX5_twoWrong 31 = .ok (.if_icmp .ne 6, 3) := by decide +kernel
theorem dX5_twoWrong_34 : decode cX5_twoWrong 34 = .ok (.bipush (-11), 2) := by decide +kernel
theorem dX5_twoWrong_36 : decode cX5_twoWrong 36 = .ok (.ireturn, 1) := by decide +kernel
theorem dX5_twoWrong_37 : decode cX5_twoWrong 37 = .ok (.aload_n 0, 1) := by decide +kernel
theorem dX5_twoWrong_38 : decode cX5_twoWrong 38 = .ok (.getfield 37, 3) := by decide +kernel
theorem dX5_twoWrong_41 : decode cX5_twoWrong 41 = .ok (.iload_n 2, 1) := by decide +kernel
theorem dX5_twoWrong_42 : decode cX5_twoWrong 42 = .ok (.iaload, 1) := by decide +kernel
theorem dX5_twoWrong_43 : decode cX5_twoWrong 43 = .ok (.aload_n 0, 1) := by decide +kernel
theorem dX5_twoWrong_44 : decode cX5_twoWrong 44 = .ok (.getfield 37, 3) := by decide +kernel
theorem dX5_twoWrong_47 : decode cX5_twoWrong 47 = .ok (.iload_n 1, 1) := by decide +kernel
theorem dX5_twoWrong_48 : decode cX5_twoWrong 48 = .ok (.iaload, 1) := by decide +kernel
theorem dX5_twoWrong_49 : decode cX5_twoWrong 49 = .ok (.if_icmp .le 8, 3) := by decide +kernel
theorem dX5_twoWrong_52 : decode cX5_twoWrong 52 = .ok (.bipush (-2), 2) := by decide +kernel
theorem dX5_twoWrong_54 : decode cX5_twoWrong 54 = .ok (.goto 4, 3) := by decide +kernel
theorem dX5_twoWrong_57 : decode cX5_twoWrong 57 = .ok (.iconst 0, 1) := by decide +kernel
theorem dX5_twoWrong_58 : decode cX5_twoWrong 58 = .ok (.ireturn, 1) := by decide +kernel
theorem dX5_toldWrong_0 : decode cX5_toldWrong 0 = .ok (.aload_n 0, 1) := by decide +kernel
theorem dX5_toldWrong_1 : decode cX5_toldWrong 1 = .ok (.iload_n 1, 1) := by decide +kernel
theorem dX5_toldWrong_2 : decode cX5_toldWrong 2 = .ok (.iload_n 2, 1) := by decide +kernel
theorem dX5_toldWrong_3 : decode cX5_toldWrong 3 = .ok (.invokevirtual 250, 3) := by decide +kernel
theorem dX5_toldWrong_6 : decode cX5_toldWrong 6 = .ok (.istore 4, 2) := by decide +kernel
theorem dX5_toldWrong_8 : decode cX5_toldWrong 8 = .ok (.iload 4, 2) := by decide +kernel
theorem dX5_toldWrong_10 : decode cX5_toldWrong 10 = .ok (.ifCond .eq 8, 3) := by decide +kernel
theorem dX5_toldWrong_13 : decode cX5_toldWrong 13 = .ok (.iload 4, 2) := by decide +kernel
theorem dX5_toldWrong_15 : decode cX5_toldWrong 15 = .ok (.goto 17, 3) := by decide +kernel
theorem dX5_toldWrong_18 : decode cX5_toldWrong 18 = .ok (.aload_n 0, 1) := by decide +kernel
theorem dX5_toldWrong_19 : decode cX5_toldWrong 19 = .ok (.iload_n 3, 1) := by decide +kernel
theorem dX5_toldWrong_20 : decode cX5_toldWrong 20 = .ok (.invokevirtual 170, 3) := by decide +kernel
theorem dX5_toldWrong_23 : decode cX5_toldWrong 23 = .ok (.ifCond .eq 7, 3) := by decide +kernel
theorem dX5_toldWrong_26 : decode cX5_toldWrong 26 = .ok (.iconst 0, 1) := by decide +kernel
theorem dX5_toldWrong_27 : decode cX5_toldWrong 27 = .ok (.goto 5, 3) := by decide +kernel
theorem dX5_toldWrong_30 : decode cX5_toldWrong 30 = .ok (.bipush (-5), 2) := by decide +kernel
theorem dX5_toldWrong_32 : decode cX5_toldWrong 32 = .ok (.ireturn, 1) := by decide +kernel
theorem dX5_unlike_0 : decode cX5_unlike 0 = .ok (.iconst (-1), 1) := by decide +kernel
theorem dX5_unlike_1 : decode cX5_unlike 1 = .ok (.istore 4, 2) := by decide +kernel
theorem dX5_unlike_3 : decode cX5_unlike 3 = .ok (.aload_n 0, 1) := by decide +kernel
theorem dX5_unlike_4 : decode cX5_unlike 4 = .ok (.invokevirtual 214, 3) := by decide +kernel
theorem dX5_unlike_7 : decode cX5_unlike 7 = .ok (.iconst 0, 1) := by decide +kernel
theorem dX5_unlike_8 : decode cX5_unlike 8 = .ok (.istore 5, 2) := by decide +kernel
theorem dX5_unlike_10 : decode cX5_unlike 10 = .ok (.iload 5, 2) := by decide +kernel
theorem dX5_unlike_12 : decode cX5_unlike 12 = .ok (.aload_n 0, 1) := by decide +kernel
theorem dX5_unlike_13 : decode cX5_unlike 13 = .ok (.getfield 37, 3) := by decide +kernel
theorem dX5_unlike_16 : decode cX5_unlike 16 = .ok (.iload_n 2, 1) := by decide +kernel
theorem dX5_unlike_17 : decode cX5_unlike 17 = .ok (.iaload, 1) := by decide +kernel
theorem dX5_unlike_18 : decode cX5_unlike 18 = .ok (.if_icmp .ge 72, 3) := by decide +kernel
theorem dX5_unlike_21 : decode cX5_unlike 21 = .ok (.iload 4, 2) := by decide +kernel
theorem dX5_unlike_23 : decode cX5_unlike 23 = .ok (.iconst (-1), 1) := by decide +kernel
theorem dX5_unlike_24 : decode cX5_unlike 24 = .ok (.if_icmp .ne 66, 3) := by decide +kernel
theorem dX5_unlike_27 : decode cX5_unlike 27 = .ok (.aload_n 0, 1) := by decide +kernel
theorem dX5_unlike_28 : decode cX5_unlike 28 = .ok (.aload_n 0, 1) := by decide +kernel
theorem dX5_unlike_29 : decode cX5_unlike 29 = .ok (.getfield 40, 3) := by decide +kernel
theorem dX5_unlike_32 : decode cX5_unlike 32 = .ok (.bipush 40, 2) := by decide +kernel
theorem dX5_unlike_34 : decode cX5_unlike 34 = .ok (.iload_n 1, 1) := by decide +kernel
theorem dX5_unlike_35 : decode cX5_unlike 35 = .ok (.imul, 1) := by decide +kernel
theorem dX5_unlike_36 : decode cX5_unlike 36 = .ok (.iload 5, 2) := by decide +kernel
theorem dX5_unlike_38 : decode cX5_unlike 38 = .ok (.iadd, 1) := by decide +kernel
theorem dX5_unlike_39 : decode cX5_unlike 39 = .ok (.iaload, 1) := by decide +kernel
theorem dX5_unlike_40 : decode cX5_unlike 40 = .ok (.invokevirtual 208, 3) := by decide +kernel
theorem dX5_unlike_43 : decode cX5_unlike 43 = .ok (.pop, 1) := by decide +kernel
theorem dX5_unlike_44 : decode cX5_unlike 44 = .ok (.aload_n 0, 1) := by decide +kernel
theorem dX5_unlike_45 : decode cX5_unlike 45 = .ok (.invokevirtual 199, 3) := by decide +kernel
theorem dX5_unlike_48 : decode cX5_unlike 48 = .ok (.pop, 1) := by decide +kernel
theorem dX5_unlike_49 : decode cX5_unlike 49 = .ok (.aload_n 0, 1) := by decide +kernel
theorem dX5_unlike_50 : decode cX5_unlike 50 = .ok (.getfield 40, 3) := by decide +kernel
theorem dX5_unlike_53 : decode cX5_unlike 53 = .ok (.bipush 40, 2) := by decide +kernel
theorem dX5_unlike_55 : decode cX5_unlike 55 = .ok (.iload_n 2, 1) := by decide +kernel
theorem dX5_unlike_56 : decode cX5_unlike 56 = .ok (.imul, 1) := by decide +kernel
theorem dX5_unlike_57 : decode cX5_unlike 57 = .ok (.iload 5, 2) := by decide +kernel
theorem dX5_unlike_59 : decode cX5_unlike 59 = .ok (.iadd, 1) := by decide +kernel
theorem dX5_unlike_60 : decode cX5_unlike 60 = .ok (.iaload, 1) := by decide +kernel
theorem dX5_unlike_61 : decode cX5_unlike 61 = .ok (.aload_n 0, 1) := by decide +kernel
theorem dX5_unlike_62 : decode cX5_unlike 62 = .ok (.getfield 16, 3) := by decide +kernel
theorem dX5_unlike_65 : decode cX5_unlike 65 = .ok (.bipush 12, 2) := by decide +kernel
theorem dX5_unlike_67 : decode cX5_unlike 67 = .ok (.iload_n 3, 1) := by decide +kernel
theorem dX5_unlike_68 : decode cX5_unlike 68 = .ok (.imul, 1) := by decide +kernel
theorem dX5_unlike_69 : decode cX5_unlike 69 = .ok (.bipush 8, 2) := by decide +kernel
theorem dX5_unlike_71 : decode cX5_unlike 71 = .ok (.iadd, 1) := by decide +kernel
theorem dX5_unlike_72 : decode cX5_unlike 72 = .ok (.iaload, 1) := by decide +kernel
theorem dX5_unlike_73 : decode cX5_unlike 73 = .ok (.if_icmp .ne 7, 3) := by decide +kernel
theorem dX5_unlike_76 : decode cX5_unlike 76 = .ok (.iconst (-1), 1) := by decide +kernel
theorem dX5_unlike_77 : decode cX5_unlike 77 = .ok (.goto 5, 3) := by decide +kernel
theorem dX5_unlike_80 : decode cX5_unlike 80 = .ok (.iload 5, 2) := by decide +kernel
theorem dX5_unlike_82 : decode cX5_unlike 82 = .ok (.istore 4, 2) := by decide +kernel
theorem dX5_unlike_84 : decode cX5_unlike 84 = .ok (.iinc 5 1, 3) := by decide +kernel
theorem dX5_unlike_87 : decode cX5_unlike 87 = .ok (.goto (-77), 3) := by decide +kernel
theorem dX5_unlike_90 : decode cX5_unlike 90 = .ok (.aload_n 0, 1) := by decide +kernel
theorem dX5_unlike_91 : decode cX5_unlike 91 = .ok (.invokevirtual 220, 3) := by decide +kernel
theorem dX5_unlike_94 : decode cX5_unlike 94 = .ok (.iload 4, 2) := by decide +kernel
theorem dX5_unlike_96 : decode cX5_unlike 96 = .ok (.ireturn, 1) := by decide +kernel
theorem dX5_judge_0 : decode cX5_judge 0 = .ok (.aload_n 0, 1) := by decide +kernel
theorem dX5_judge_1 : decode cX5_judge 1 = .ok (.iload_n 1, 1) := by decide +kernel
theorem dX5_judge_2 : decode cX5_judge 2 = .ok (.iload_n 2, 1) := by decide +kernel
theorem dX5_judge_3 : decode cX5_judge 3 = .ok (.iload_n 3, 1) := by decide +kernel
theorem dX5_judge_4 : decode cX5_judge 4 = .ok (.invokevirtual 253, 3) := by decide +kernel
theorem dX5_judge_7 : decode cX5_judge 7 = .ok (.istore 4, 2) := by decide +kernel
theorem dX5_judge_9 : decode cX5_judge 9 = .ok (.iload 4, 2) := by decide +kernel
theorem dX5_judge_11 : decode cX5_judge 11 = .ok (.ifCond .ne 13, 3) := by decide +kernel
theorem dX5_judge_14 : decode cX5_judge 14 = .ok (.aload_n 0, 1) := by decide +kernel
theorem dX5_judge_15 : decode cX5_judge 15 = .ok (.iload_n 1, 1) := by decide +kernel
theorem dX5_judge_16 : decode cX5_judge 16 = .ok (.iload_n 2, 1) := by decide +kernel
theorem dX5_judge_17 : decode cX5_judge 17 = .ok (.iload_n 3, 1) := by decide +kernel
theorem dX5_judge_18 : decode cX5_judge 18 = .ok (.invokevirtual 256, 3) := by decide +kernel
theorem dX5_judge_21 : decode cX5_judge 21 = .ok (.goto 5, 3) := by decide +kernel
theorem dX5_judge_24 : decode cX5_judge 24 = .ok (.iload 4, 2) := by decide +kernel
theorem dX5_judge_26 : decode cX5_judge 26 = .ok (.ireturn, 1) := by decide +kernel
theorem dX5_kinds_0 : decode cX5_kinds 0 = .ok (.aload_n 0, 1) := by decide +kernel
theorem dX5_kinds_1 : decode cX5_kinds 1 = .ok (.iload_n 1, 1) := by decide +kernel
theorem dX5_kinds_2 : decode cX5_kinds 2 = .ok (.iload_n 2, 1) := by decide +kernel
theorem dX5_kinds_3 : decode cX5_kinds 3 = .ok (.iload_n 3, 1) := by decide +kernel
theorem dX5_kinds_4 : decode cX5_kinds 4 = .ok (.invokevirtual 253, 3) := by decide +kernel
theorem dX5_kinds_7 : decode cX5_kinds 7 = .ok (.istore 5, 2) := by decide +kernel
theorem dX5_kinds_9 : decode cX5_kinds 9 = .ok (.iload 5, 2) := by decide +kernel
theorem dX5_kinds_11 : decode cX5_kinds 11 = .ok (.ifCond .eq 6, 3) := by decide +kernel
theorem dX5_kinds_14 : decode cX5_kinds 14 = .ok (.iload 5, 2) := by decide +kernel
theorem dX5_kinds_16 : decode cX5_kinds 16 = .ok (.ireturn, 1) := by decide +kernel
theorem dX5_kinds_17 : decode cX5_kinds 17 = .ok (.iload 4, 2) := by decide +kernel
theorem dX5_kinds_19 : decode cX5_kinds 19 = .ok (.iconst 0, 1) := by decide +kernel
theorem dX5_kinds_20 : decode cX5_kinds 20 = .ok (.iconst 1, 1) := by decide +kernel
theorem dX5_kinds_21 : decode cX5_kinds 21 = .ok (.invokestatic 78, 3) := by decide +kernel
theorem dX5_kinds_24 : decode cX5_kinds 24 = .ok (.ifCond .ne 6, 3) := by decide +kernel
theorem dX5_kinds_27 : decode cX5_kinds 27 = .ok (.bipush (-7), 2) := by decide +kernel
theorem dX5_kinds_29 : decode cX5_kinds 29 = .ok (.ireturn, 1) := by decide +kernel
theorem dX5_kinds_30 : decode cX5_kinds 30 = .ok (.aload_n 0, 1) := by decide +kernel
theorem dX5_kinds_31 : decode cX5_kinds 31 = .ok (.getfield 7, 3) := by decide +kernel
theorem dX5_kinds_34 : decode cX5_kinds 34 = .ok (.iload_n 3, 1) := by decide +kernel
theorem dX5_kinds_35 : decode cX5_kinds 35 = .ok (.iaload, 1) := by decide +kernel
theorem dX5_kinds_36 : decode cX5_kinds 36 = .ok (.istore 6, 2) := by decide +kernel
theorem dX5_kinds_38 : decode cX5_kinds 38 = .ok (.aload_n 0, 1) := by decide +kernel
theorem dX5_kinds_39 : decode cX5_kinds 39 = .ok (.getfield 13, 3) := by decide +kernel
theorem dX5_kinds_42 : decode cX5_kinds 42 = .ok (.iload_n 3, 1) := by decide +kernel
theorem dX5_kinds_43 : decode cX5_kinds 43 = .ok (.iaload, 1) := by decide +kernel
theorem dX5_kinds_44 : decode cX5_kinds 44 = .ok (.istore 7, 2) := by decide +kernel
theorem dX5_kinds_46 : decode cX5_kinds 46 = .ok (.iconst 0, 1) := by decide +kernel
theorem dX5_kinds_47 : decode cX5_kinds 47 = .ok (.istore 8, 2) := by decide +kernel
theorem dX5_kinds_49 : decode cX5_kinds 49 = .ok (.iconst 0, 1) := by decide +kernel
theorem dX5_kinds_50 : decode cX5_kinds 50 = .ok (.istore 9, 2) := by decide +kernel
theorem dX5_kinds_52 : decode cX5_kinds 52 = .ok (.iload 9, 2) := by decide +kernel
theorem dX5_kinds_54 : decode cX5_kinds 54 = .ok (.iload 4, 2) := by decide +kernel
theorem dX5_kinds_56 : decode cX5_kinds 56 = .ok (.ifCond .ne 8, 3) := by decide +kernel
theorem dX5_kinds_59 : decode cX5_kinds 59 = .ok (.bipush 6, 2) := by decide +kernel
theorem dX5_kinds_61 : decode cX5_kinds 61 = .ok (.goto 5, 3) := by decide +kernel
theorem dX5_kinds_64 : decode cX5_kinds 64 = .ok (.bipush 10, 2) := by decide +kernel
theorem dX5_kinds_66 : decode cX5_kinds 66 = .ok (.if_icmp .ge 70, 3) := by decide +kernel
theorem dX5_kinds_69 : decode cX5_kinds 69 = .ok (.aload_n 0, 1) := by decide +kernel
theorem dX5_kinds_70 : decode cX5_kinds 70 = .ok (.getfield 7, 3) := by decide +kernel
theorem dX5_kinds_73 : decode cX5_kinds 73 = .ok (.iload_n 3, 1) := by decide +kernel
theorem dX5_kinds_74 : decode cX5_kinds 74 = .ok (.iload 4, 2) := by decide +kernel
theorem dX5_kinds_76 : decode cX5_kinds 76 = .ok (.ifCond .ne 8, 3) := by decide +kernel
theorem dX5_kinds_79 : decode cX5_kinds 79 = .ok (.iload 9, 2) := by decide +kernel
theorem dX5_kinds_81 : decode cX5_kinds 81 = .ok (.goto 5, 3) := by decide +kernel
theorem dX5_kinds_84 : decode cX5_kinds 84 = .ok (.iload 6, 2) := by decide +kernel
theorem dX5_kinds_86 : decode cX5_kinds 86 = .ok (.iastore, 1) := by decide +kernel
theorem dX5_kinds_87 : decode cX5_kinds 87 = .ok (.aload_n 0, 1) := by decide +kernel
theorem dX5_kinds_88 : decode cX5_kinds 88 = .ok (.getfield 13, 3) := by decide +kernel
theorem dX5_kinds_91 : decode cX5_kinds 91 = .ok (.iload_n 3, 1) := by decide +kernel
theorem dX5_kinds_92 : decode cX5_kinds 92 = .ok (.iload 4, 2) := by decide +kernel
theorem dX5_kinds_94 : decode cX5_kinds 94 = .ok (.iconst 1, 1) := by decide +kernel
theorem dX5_kinds_95 : decode cX5_kinds 95 = .ok (.if_icmp .ne 8, 3) := by decide +kernel
theorem dX5_kinds_98 : decode cX5_kinds 98 = .ok (.iload 9, 2) := by decide +kernel
theorem dX5_kinds_100 : decode cX5_kinds 100 = .ok (.goto 5, 3) := by decide +kernel
theorem dX5_kinds_103 : decode cX5_kinds 103 = .ok (.iload 7, 2) := by decide +kernel
theorem dX5_kinds_105 : decode cX5_kinds 105 = .ok (.iastore, 1) := by decide +kernel
theorem dX5_kinds_106 : decode cX5_kinds 106 = .ok (.iload 8, 2) := by decide +kernel
theorem dX5_kinds_108 : decode cX5_kinds 108 = .ok (.aload_n 0, 1) := by decide +kernel
theorem dX5_kinds_109 : decode cX5_kinds 109 = .ok (.iload_n 1, 1) := by decide +kernel
theorem dX5_kinds_110 : decode cX5_kinds 110 = .ok (.iload_n 2, 1) := by decide +kernel
theorem dX5_kinds_111 : decode cX5_kinds 111 = .ok (.iload_n 3, 1) := by decide +kernel
theorem dX5_kinds_112 : decode cX5_kinds 112 = .ok (.invokevirtual 256, 3) := by decide +kernel
theorem dX5_kinds_115 : decode cX5_kinds 115 = .ok (.iconst (-1), 1) := by decide +kernel
theorem dX5_kinds_116 : decode cX5_kinds 116 = .ok (.if_icmp .ne 10, 3) := by decide +kernel
theorem dX5_kinds_119 : decode cX5_kinds 119 = .ok (.iconst 1, 1) := by decide +kernel
theorem dX5_kinds_120 : decode cX5_kinds 120 = .ok (.iload 9, 2) := by decide +kernel
theorem dX5_kinds_122 : decode cX5_kinds 122 = .ok (.ishl, 1) := by decide +kernel
theorem dX5_kinds_123 : decode cX5_kinds 123 = .ok (.goto 4, 3) := by decide +kernel
theorem dX5_kinds_126 : decode cX5_kinds 126 = .ok (.iconst 0, 1) := by decide +kernel
theorem dX5_kinds_127 : decode cX5_kinds 127 = .ok (.ior, 1) := by decide +kernel
theorem dX5_kinds_128 : decode cX5_kinds 128 = .ok (.istore 8, 2) := by decide +kernel
theorem dX5_kinds_130 : decode cX5_kinds 130 = .ok (.iinc 9 1, 3) := by decide +kernel
theorem dX5_kinds_133 : decode cX5_kinds 133 = .ok (.goto (-81), 3) := by decide +kernel
theorem dX5_kinds_136 : decode cX5_kinds 136 = .ok (.aload_n 0, 1) := by decide +kernel
theorem dX5_kinds_137 : decode cX5_kinds 137 = .ok (.getfield 7, 3) := by decide +kernel
theorem dX5_kinds_140 : decode cX5_kinds 140 = .ok (.iload_n 3, 1) := by decide +kernel
theorem dX5_kinds_141 : decode cX5_kinds 141 = .ok (.iload 6, 2) := by decide +kernel
theorem dX5_kinds_143 : decode cX5_kinds 143 = .ok (.iastore, 1) := by decide +kernel
theorem dX5_kinds_144 : decode cX5_kinds 144 = .ok (.aload_n 0, 1) := by decide +kernel
theorem dX5_kinds_145 : decode cX5_kinds 145 = .ok (.getfield 13, 3) := by decide +kernel
theorem dX5_kinds_148 : decode cX5_kinds 148 = .ok (.iload_n 3, 1) := by decide +kernel
theorem dX5_kinds_149 : decode cX5_kinds 149 = .ok (.iload 7, 2) := by decide +kernel
theorem dX5_kinds_151 : decode cX5_kinds 151 = .ok (.iastore, 1) := by decide +kernel
theorem dX5_kinds_152 : decode cX5_kinds 152 = .ok (.iload 8, 2) := by decide +kernel
theorem dX5_kinds_154 : decode cX5_kinds 154 = .ok (.ireturn, 1) := by decide +kernel
theorem dX5_states_0 : decode cX5_states 0 = .ok (.aload_n 0, 1) := by decide +kernel
theorem dX5_states_1 : decode cX5_states 1 = .ok (.iload_n 1, 1) := by decide +kernel
theorem dX5_states_2 : decode cX5_states 2 = .ok (.iload_n 2, 1) := by decide +kernel
theorem dX5_states_3 : decode cX5_states 3 = .ok (.iload_n 3, 1) := by decide +kernel
theorem dX5_states_4 : decode cX5_states 4 = .ok (.invokevirtual 253, 3) := by decide +kernel
theorem dX5_states_7 : decode cX5_states 7 = .ok (.istore 6, 2) := by decide +kernel
theorem dX5_states_9 : decode cX5_states 9 = .ok (.iload 6, 2) := by decide +kernel
theorem dX5_states_11 : decode cX5_states 11 = .ok (.ifCond .eq 6, 3) := by decide +kernel
theorem dX5_states_14 : decode cX5_states 14 = .ok (.iload 6, 2) := by decide +kernel
theorem dX5_states_16 : decode cX5_states 16 = .ok (.ireturn, 1) := by decide +kernel
theorem dX5_states_17 : decode cX5_states 17 = .ok (.iload 4, 2) := by decide +kernel
theorem dX5_states_19 : decode cX5_states 19 = .ok (.iconst 0, 1) := by decide +kernel
theorem dX5_states_20 : decode cX5_states 20 = .ok (.bipush 8, 2) := by decide +kernel
theorem dX5_states_22 : decode cX5_states 22 = .ok (.invokestatic 78, 3) := by decide +kernel
theorem dX5_states_25 : decode cX5_states 25 = .ok (.ifCond .eq 13, 3) := by decide +kernel
theorem dX5_states_28 : decode cX5_states 28 = .ok (.iload 5, 2) := by decide +kernel
theorem dX5_states_30 : decode cX5_states 30 = .ok (.iconst 0, 1) := by decide +kernel
theorem dX5_states_31 : decode cX5_states 31 = .ok (.iconst 1, 1) := by decide +kernel
theorem dX5_states_32 : decode cX5_states 32 = .ok (.invokestatic 78, 3) := by decide +kernel
theorem dX5_states_35 : decode cX5_states 35 = .ok (.ifCond .ne 6, 3) := by decide +kernel
theorem dX5_states_38 : decode cX5_states 38 = .ok (.bipush (-7), 2) := by decide +kernel
theorem dX5_states_40 : decode cX5_states 40 = .ok (.ireturn, 1) := by decide +kernel
theorem dX5_states_41 : decode cX5_states 41 = .ok (.aload_n 0, 1) := by decide +kernel
theorem dX5_states_42 : decode cX5_states 42 = .ok (.getfield 16, 3) := by decide +kernel
theorem dX5_states_45 : decode cX5_states 45 = .ok (.bipush 12, 2) := by decide +kernel
theorem dX5_states_47 : decode cX5_states 47 = .ok (.iload_n 3, 1) := by decide +kernel
theorem dX5_states_48 : decode cX5_states 48 = .ok (.imul, 1) := by decide +kernel
theorem dX5_states_49 : decode cX5_states 49 = .ok (.iload 4, 2) := by decide +kernel
theorem dX5_states_51 : decode cX5_states 51 = .ok (.iadd, 1) := by decide +kernel
theorem dX5_states_52 : decode cX5_states 52 = .ok (.iaload, 1) := by decide +kernel
theorem dX5_states_53 : decode cX5_states 53 = .ok (.istore 7, 2) := by decide +kernel
theorem dX5_states_55 : decode cX5_states 55 = .ok (.iconst 0, 1) := by decide +kernel
theorem dX5_states_56 : decode cX5_states 56 = .ok (.istore 8, 2) := by decide +kernel
theorem dX5_states_58 : decode cX5_states 58 = .ok (.iconst (-1), 1) := by decide +kernel
theorem dX5_states_59 : decode cX5_states 59 = .ok (.istore 9, 2) := by decide +kernel
theorem dX5_states_61 : decode cX5_states 61 = .ok (.iconst 0, 1) := by decide +kernel
theorem dX5_states_62 : decode cX5_states 62 = .ok (.istore 10, 2) := by decide +kernel
theorem dX5_states_64 : decode cX5_states 64 = .ok (.iload 10, 2) := by decide +kernel
theorem dX5_states_66 : decode cX5_states 66 = .ok (.iload 4, 2) := by decide +kernel
theorem dX5_states_68 : decode cX5_states 68 = .ok (.bipush 8, 2) := by decide +kernel
theorem dX5_states_70 : decode cX5_states 70 = .ok (.if_icmp .ne 8, 3) := by decide +kernel
theorem dX5_states_73 : decode cX5_states 73 = .ok (.bipush 99, 2) := by decide +kernel
theorem dX5_states_75 : decode cX5_states 75 = .ok (.goto 5, 3) := by decide +kernel
theorem dX5_states_78 : decode cX5_states 78 = .ok (.bipush 9, 2) := by decide +kernel
theorem dX5_states_80 : decode cX5_states 80 = .ok (.if_icmp .gt 76, 3) := by decide +kernel
theorem dX5_states_83 : decode cX5_states 83 = .ok (.aload_n 0, 1) := by decide +kernel
theorem dX5_states_84 : decode cX5_states 84 = .ok (.getfield 16, 3) := by decide +kernel
theorem dX5_states_87 : decode cX5_states 87 = .ok (.bipush 12, 2) := by decide +kernel
theorem dX5_states_89 : decode cX5_states 89 = .ok (.iload_n 3, 1) := by decide +kernel
theorem dX5_states_90 : decode cX5_states 90 = .ok (.imul, 1) := by decide +kernel
theorem dX5_states_91 : decode cX5_states 91 = .ok (.iload 4, 2) := by decide +kernel
theorem dX5_states_93 : decode cX5_states 93 = .ok (.iadd, 1) := by decide +kernel
theorem dX5_states_94 : decode cX5_states 94 = .ok (.iload 10, 2) := by decide +kernel
theorem dX5_states_96 : decode cX5_states 96 = .ok (.iastore, 1) := by decide +kernel
theorem dX5_states_97 : decode cX5_states 97 = .ok (.aload_n 0, 1) := by decide +kernel
theorem dX5_states_98 : decode cX5_states 98 = .ok (.iload_n 1, 1) := by decide +kernel
theorem dX5_states_99 : decode cX5_states 99 = .ok (.iload_n 2, 1) := by decide +kernel
theorem dX5_states_100 : decode cX5_states 100 = .ok (.iload_n 3, 1) := by decide +kernel
theorem dX5_states_101 : decode cX5_states 101 = .ok (.invokevirtual 256, 3) := by decide +kernel
theorem dX5_states_104 : decode cX5_states 104 = .ok (.iconst (-1), 1) := by decide +kernel
theorem dX5_states_105 : decode cX5_states 105 = .ok (.if_icmp .ne 7, 3) := by decide +kernel
theorem dX5_states_108 : decode cX5_states 108 = .ok (.iconst 1, 1) := by decide +kernel
theorem dX5_states_109 : decode cX5_states 109 = .ok (.goto 4, 3) := by decide +kernel
theorem dX5_states_112 : decode cX5_states 112 = .ok (.iconst 0, 1) := by decide +kernel
theorem dX5_states_113 : decode cX5_states 113 = .ok (.istore 11, 2) := by decide +kernel
theorem dX5_states_115 : decode cX5_states 115 = .ok (.iload 8, 2) := by decide +kernel
theorem dX5_states_117 : decode cX5_states 117 = .ok (.iload 11, 2) := by decide +kernel
theorem dX5_states_119 : decode cX5_states 119 = .ok (.ifCond .eq 7, 3) := by decide +kernel
theorem dX5_states_122 : decode cX5_states 122 = .ok (.iconst 1, 1) := by decide +kernel
theorem dX5_states_123 : decode cX5_states 123 = .ok (.goto 4, 3) := by decide +kernel
theorem dX5_states_126 : decode cX5_states 126 = .ok (.iconst 0, 1) := by decide +kernel
theorem dX5_states_127 : decode cX5_states 127 = .ok (.iadd, 1) := by decide +kernel
theorem dX5_states_128 : decode cX5_states 128 = .ok (.istore 8, 2) := by decide +kernel
theorem dX5_states_130 : decode cX5_states 130 = .ok (.iload 11, 2) := by decide +kernel
theorem dX5_states_132 : decode cX5_states 132 = .ok (.ifCond .eq 14, 3) := by decide +kernel
theorem dX5_states_135 : decode cX5_states 135 = .ok (.iload 9, 2) := by decide +kernel
theorem dX5_states_137 : decode cX5_states 137 = .ok (.iconst (-1), 1) := by decide +kernel
theorem dX5_states_138 : decode cX5_states 138 = .ok (.if_icmp .ne 8, 3) := by decide +kernel
theorem dX5_states_141 : decode cX5_states 141 = .ok (.iload 10, 2) := by decide +kernel
theorem dX5_states_143 : decode cX5_states 143 = .ok (.goto 5, 3) := by decide +kernel
theorem dX5_states_146 : decode cX5_states 146 = .ok (.iload 9, 2) := by decide +kernel
theorem dX5_states_148 : decode cX5_states 148 = .ok (.istore 9, 2) := by decide +kernel
theorem dX5_states_150 : decode cX5_states 150 = .ok (.iinc 10 1, 3) := by decide +kernel
theorem dX5_states_153 : decode cX5_states 153 = .ok (.goto (-89), 3) := by decide +kernel
theorem dX5_states_156 : decode cX5_states 156 = .ok (.aload_n 0, 1) := by decide +kernel
theorem dX5_states_157 : decode cX5_states 157 = .ok (.getfield 16, 3) := by decide +kernel
theorem dX5_states_160 : decode cX5_states 160 = .ok (.bipush 12, 2) := by decide +kernel
theorem dX5_states_162 : decode cX5_states 162 = .ok (.iload_n 3, 1) := by decide +kernel
theorem dX5_states_163 : decode cX5_states 163 = .ok (.imul, 1) := by decide +kernel
theorem dX5_states_164 : decode cX5_states 164 = .ok (.iload 4, 2) := by decide +kernel
theorem dX5_states_166 : decode cX5_states 166 = .ok (.iadd, 1) := by decide +kernel
theorem dX5_states_167 : decode cX5_states 167 = .ok (.iload 7, 2) := by decide +kernel
theorem dX5_states_169 : decode cX5_states 169 = .ok (.iastore, 1) := by decide +kernel
theorem dX5_states_170 : decode cX5_states 170 = .ok (.iload 5, 2) := by decide +kernel
theorem dX5_states_172 : decode cX5_states 172 = .ok (.ifCond .ne 8, 3) := by decide +kernel
theorem dX5_states_175 : decode cX5_states 175 = .ok (.iload 8, 2) := by decide +kernel
theorem dX5_states_177 : decode cX5_states 177 = .ok (.goto 5, 3) := by decide +kernel
theorem dX5_states_180 : decode cX5_states 180 = .ok (.iload 9, 2) := by decide +kernel
theorem dX5_states_182 : decode cX5_states 182 = .ok (.ireturn, 1) := by decide +kernel
theorem dX5_whose_0 : decode cX5_whose 0 = .ok (.aload_n 0, 1) := by decide +kernel
theorem dX5_whose_1 : decode cX5_whose 1 = .ok (.iload_n 1, 1) := by decide +kernel
theorem dX5_whose_2 : decode cX5_whose 2 = .ok (.iload_n 2, 1) := by decide +kernel
theorem dX5_whose_3 : decode cX5_whose 3 = .ok (.invokevirtual 250, 3) := by decide +kernel
theorem dX5_whose_6 : decode cX5_whose 6 = .ok (.istore_n 3, 1) := by decide +kernel
theorem dX5_whose_7 : decode cX5_whose 7 = .ok (.iload_n 3, 1) := by decide +kernel
theorem dX5_whose_8 : decode cX5_whose 8 = .ok (.ifCond .eq 5, 3) := by decide +kernel
theorem dX5_whose_11 : decode cX5_whose 11 = .ok (.iload_n 3, 1) := by decide +kernel
theorem dX5_whose_12 : decode cX5_whose 12 = .ok (.ireturn, 1) := by decide +kernel
theorem dX5_whose_13 : decode cX5_whose 13 = .ok (.iconst 0, 1) := by decide +kernel
theorem dX5_whose_14 : decode cX5_whose 14 = .ok (.istore 4, 2) := by decide +kernel
theorem dX5_whose_16 : decode cX5_whose 16 = .ok (.iconst 0, 1) := by decide +kernel
theorem dX5_whose_17 : decode cX5_whose 17 = .ok (.istore 5, 2) := by decide +kernel
theorem dX5_whose_19 : decode cX5_whose 19 = .ok (.iload 5, 2) := by decide +kernel
theorem dX5_whose_21 : decode cX5_whose 21 = .ok (.aload_n 0, 1) := by decide +kernel
theorem dX5_whose_22 : decode cX5_whose 22 = .ok (.getfield 75, 3) := by decide +kernel
theorem dX5_whose_25 : decode cX5_whose 25 = .ok (.if_icmp .ge 34, 3) := by decide +kernel
theorem dX5_whose_28 : decode cX5_whose 28 = .ok (.iload 4, 2) := by decide +kernel
theorem dX5_whose_30 : decode cX5_whose 30 = .ok (.aload_n 0, 1) := by decide +kernel
theorem dX5_whose_31 : decode cX5_whose 31 = .ok (.iload_n 1, 1) := by decide +kernel
theorem dX5_whose_32 : decode cX5_whose 32 = .ok (.iload_n 2, 1) := by decide +kernel
theorem dX5_whose_33 : decode cX5_whose 33 = .ok (.iload 5, 2) := by decide +kernel
theorem dX5_whose_35 : decode cX5_whose 35 = .ok (.invokevirtual 256, 3) := by decide +kernel
theorem dX5_whose_38 : decode cX5_whose 38 = .ok (.iconst (-1), 1) := by decide +kernel
theorem dX5_whose_39 : decode cX5_whose 39 = .ok (.if_icmp .ne 10, 3) := by decide +kernel
theorem dX5_whose_42 : decode cX5_whose 42 = .ok (.iconst 1, 1) := by decide +kernel
theorem dX5_whose_43 : decode cX5_whose 43 = .ok (.iload 5, 2) := by decide +kernel
theorem dX5_whose_45 : decode cX5_whose 45 = .ok (.ishl, 1) := by decide +kernel
theorem dX5_whose_46 : decode cX5_whose 46 = .ok (.goto 4, 3) := by decide +kernel
theorem dX5_whose_49 : decode cX5_whose 49 = .ok (.iconst 0, 1) := by decide +kernel
theorem dX5_whose_50 : decode cX5_whose 50 = .ok (.ior, 1) := by decide +kernel
theorem dX5_whose_51 : decode cX5_whose 51 = .ok (.istore 4, 2) := by decide +kernel
theorem dX5_whose_53 : decode cX5_whose 53 = .ok (.iinc 5 1, 3) := by decide +kernel
theorem dX5_whose_56 : decode cX5_whose 56 = .ok (.goto (-37), 3) := by decide +kernel
theorem dX5_whose_59 : decode cX5_whose 59 = .ok (.iload 4, 2) := by decide +kernel
theorem dX5_whose_61 : decode cX5_whose 61 = .ok (.ireturn, 1) := by decide +kernel
theorem dX5_laws_0 : decode cX5_laws 0 = .ok (.aload_n 0, 1) := by decide +kernel
theorem dX5_laws_1 : decode cX5_laws 1 = .ok (.iload_n 1, 1) := by decide +kernel
theorem dX5_laws_2 : decode cX5_laws 2 = .ok (.iload_n 2, 1) := by decide +kernel
theorem dX5_laws_3 : decode cX5_laws 3 = .ok (.iload_n 3, 1) := by decide +kernel
theorem dX5_laws_4 : decode cX5_laws 4 = .ok (.invokevirtual 253, 3) := by decide +kernel
theorem dX5_laws_7 : decode cX5_laws 7 = .ok (.istore 4, 2) := by decide +kernel
theorem dX5_laws_9 : decode cX5_laws 9 = .ok (.iload 4, 2) := by decide +kernel
theorem dX5_laws_11 : decode cX5_laws 11 = .ok (.ifCond .eq 6, 3) := by decide +kernel
theorem dX5_laws_14 : decode cX5_laws 14 = .ok (.iload 4, 2) := by decide +kernel
theorem dX5_laws_16 : decode cX5_laws 16 = .ok (.ireturn, 1) := by decide +kernel
theorem dX5_laws_17 : decode cX5_laws 17 = .ok (.aload_n 0, 1) := by decide +kernel
theorem dX5_laws_18 : decode cX5_laws 18 = .ok (.getfield 99, 3) := by decide +kernel
theorem dX5_laws_21 : decode cX5_laws 21 = .ok (.istore 5, 2) := by decide +kernel
theorem dX5_laws_23 : decode cX5_laws 23 = .ok (.iconst 0, 1) := by decide +kernel
theorem dX5_laws_24 : decode cX5_laws 24 = .ok (.istore 6, 2) := by decide +kernel
theorem dX5_laws_26 : decode cX5_laws 26 = .ok (.iconst 0, 1) := by decide +kernel
theorem dX5_laws_27 : decode cX5_laws 27 = .ok (.istore 7, 2) := by decide +kernel
theorem dX5_laws_29 : decode cX5_laws 29 = .ok (.iload 7, 2) := by decide +kernel
theorem dX5_laws_31 : decode cX5_laws 31 = .ok (.aload_n 0, 1) := by decide +kernel
theorem dX5_laws_32 : decode cX5_laws 32 = .ok (.getfield 96, 3) := by decide +kernel
theorem dX5_laws_35 : decode cX5_laws 35 = .ok (.if_icmp .ge 39, 3) := by decide +kernel
theorem dX5_laws_38 : decode cX5_laws 38 = .ok (.aload_n 0, 1) := by decide +kernel
theorem dX5_laws_39 : decode cX5_laws 39 = .ok (.iload 7, 2) := by decide +kernel
theorem dX5_laws_41 : decode cX5_laws 41 = .ok (.putfield 99, 3) := by decide +kernel
theorem dX5_laws_44 : decode cX5_laws 44 = .ok (.iload 6, 2) := by decide +kernel
theorem dX5_laws_46 : decode cX5_laws 46 = .ok (.aload_n 0, 1) := by decide +kernel
theorem dX5_laws_47 : decode cX5_laws 47 = .ok (.iload_n 1, 1) := by decide +kernel
theorem dX5_laws_48 : decode cX5_laws 48 = .ok (.iload_n 2, 1) := by decide +kernel
theorem dX5_laws_49 : decode cX5_laws 49 = .ok (.iload_n 3, 1) := by decide +kernel
theorem dX5_laws_50 : decode cX5_laws 50 = .ok (.invokevirtual 256, 3) := by decide +kernel
theorem dX5_laws_53 : decode cX5_laws 53 = .ok (.iconst (-1), 1) := by decide +kernel
theorem dX5_laws_54 : decode cX5_laws 54 = .ok (.if_icmp .ne 10, 3) := by decide +kernel
theorem dX5_laws_57 : decode cX5_laws 57 = .ok (.iconst 1, 1) := by decide +kernel
theorem dX5_laws_58 : decode cX5_laws 58 = .ok (.iload 7, 2) := by decide +kernel
theorem dX5_laws_60 : decode cX5_laws 60 = .ok (.ishl, 1) := by decide +kernel
theorem dX5_laws_61 : decode cX5_laws 61 = .ok (.goto 4, 3) := by decide +kernel
theorem dX5_laws_64 : decode cX5_laws 64 = .ok (.iconst 0, 1) := by decide +kernel
theorem dX5_laws_65 : decode cX5_laws 65 = .ok (.ior, 1) := by decide +kernel
theorem dX5_laws_66 : decode cX5_laws 66 = .ok (.istore 6, 2) := by decide +kernel
theorem dX5_laws_68 : decode cX5_laws 68 = .ok (.iinc 7 1, 3) := by decide +kernel
theorem dX5_laws_71 : decode cX5_laws 71 = .ok (.goto (-42), 3) := by decide +kernel
theorem dX5_laws_74 : decode cX5_laws 74 = .ok (.aload_n 0, 1) := by decide +kernel
theorem dX5_laws_75 : decode cX5_laws 75 = .ok (.iload 5, 2) := by decide +kernel
theorem dX5_laws_77 : decode cX5_laws 77 = .ok (.putfield 99, 3) := by decide +kernel
theorem dX5_laws_80 : decode cX5_laws 80 = .ok (.iload 6, 2) := by decide +kernel
theorem dX5_laws_82 : decode cX5_laws 82 = .ok (.ireturn, 1) := by decide +kernel
theorem dX5_film_0 : decode cX5_film 0 = .ok (.iload_n 2, 1) := by decide +kernel
theorem dX5_film_1 : decode cX5_film 1 = .ok (.iconst 0, 1) := by decide +kernel
theorem dX5_film_2 : decode cX5_film 2 = .ok (.iconst 3, 1) := by decide +kernel
theorem dX5_film_3 : decode cX5_film 3 = .ok (.invokestatic 78, 3) := by decide +kernel
theorem dX5_film_6 : decode cX5_film 6 = .ok (.ifCond .eq 8, 3) := by decide +kernel
theorem dX5_film_9 : decode cX5_film 9 = .ok (.iload_n 1, 1) := by decide +kernel
theorem dX5_film_10 : decode cX5_film 10 = .ok (.iload_n 2, 1) := by decide +kernel
theorem dX5_film_11 : decode cX5_film 11 = .ok (.if_icmp .ne 6, 3) := by decide +kernel
theorem dX5_film_14 : decode cX5_film 14 = .ok (.bipush (-2), 2) := by decide +kernel
theorem dX5_film_16 : decode cX5_film 16 = .ok (.ireturn, 1) := by decide +kernel
theorem dX5_film_17 : decode cX5_film 17 = .ok (.aload_n 0, 1) := by decide +kernel
theorem dX5_film_18 : decode cX5_film 18 = .ok (.iload_n 1, 1) := by decide +kernel
theorem dX5_film_19 : decode cX5_film 19 = .ok (.invokevirtual 211, 3) := by decide +kernel
theorem dX5_film_22 : decode cX5_film 22 = .ok (.istore 4, 2) := by decide +kernel
theorem dX5_film_24 : decode cX5_film 24 = .ok (.iload 4, 2) := by decide +kernel
theorem dX5_film_26 : decode cX5_film 26 = .ok (.ifCond .eq 6, 3) := by decide +kernel
theorem dX5_film_29 : decode cX5_film 29 = .ok (.iload 4, 2) := by decide +kernel
theorem dX5_film_31 : decode cX5_film 31 = .ok (.ireturn, 1) := by decide +kernel
theorem dX5_film_32 : decode cX5_film 32 = .ok (.aload_n 0, 1) := by decide +kernel
theorem dX5_film_33 : decode cX5_film 33 = .ok (.iload_n 3, 1) := by decide +kernel
theorem dX5_film_34 : decode cX5_film 34 = .ok (.invokevirtual 170, 3) := by decide +kernel
theorem dX5_film_37 : decode cX5_film 37 = .ok (.ifCond .ne 6, 3) := by decide +kernel
theorem dX5_film_40 : decode cX5_film 40 = .ok (.bipush (-5), 2) := by decide +kernel
theorem dX5_film_42 : decode cX5_film 42 = .ok (.ireturn, 1) := by decide +kernel
theorem dX5_film_43 : decode cX5_film 43 = .ok (.aload_n 0, 1) := by decide +kernel
theorem dX5_film_44 : decode cX5_film 44 = .ok (.getfield 34, 3) := by decide +kernel
theorem dX5_film_47 : decode cX5_film 47 = .ok (.iload_n 2, 1) := by decide +kernel
theorem dX5_film_48 : decode cX5_film 48 = .ok (.iconst 0, 1) := by decide +kernel
theorem dX5_film_49 : decode cX5_film 49 = .ok (.iastore, 1) := by decide +kernel
theorem dX5_film_50 : decode cX5_film 50 = .ok (.aload_n 0, 1) := by decide +kernel
theorem dX5_film_51 : decode cX5_film 51 = .ok (.getfield 37, 3) := by decide +kernel
theorem dX5_film_54 : decode cX5_film 54 = .ok (.iload_n 2, 1) := by decide +kernel
theorem dX5_film_55 : decode cX5_film 55 = .ok (.aload_n 0, 1) := by decide +kernel
theorem dX5_film_56 : decode cX5_film 56 = .ok (.getfield 37, 3) := by decide +kernel
theorem dX5_film_59 : decode cX5_film 59 = .ok (.iload_n 1, 1) := by decide +kernel
theorem dX5_film_60 : decode cX5_film 60 = .ok (.iaload, 1) := by decide +kernel
theorem dX5_film_61 : decode cX5_film 61 = .ok (.iastore, 1) := by decide +kernel
theorem dX5_film_62 : decode cX5_film 62 = .ok (.aload_n 0, 1) := by decide +kernel
theorem dX5_film_63 : decode cX5_film 63 = .ok (.invokevirtual 214, 3) := by decide +kernel
theorem dX5_film_66 : decode cX5_film 66 = .ok (.iconst 0, 1) := by decide +kernel
theorem dX5_film_67 : decode cX5_film 67 = .ok (.istore 5, 2) := by decide +kernel
theorem dX5_film_69 : decode cX5_film 69 = .ok (.iload 5, 2) := by decide +kernel
theorem dX5_film_71 : decode cX5_film 71 = .ok (.bipush 40, 2) := by decide +kernel
theorem dX5_film_73 : decode cX5_film 73 = .ok (.if_icmp .ge 79, 3) := by decide +kernel
theorem dX5_film_76 : decode cX5_film 76 = .ok (.aload_n 0, 1) := by decide +kernel
theorem dX5_film_77 : decode cX5_film 77 = .ok (.getfield 40, 3) := by decide +kernel
theorem dX5_film_80 : decode cX5_film 80 = .ok (.bipush 40, 2) := by decide +kernel
theorem dX5_film_82 : decode cX5_film 82 = .ok (.iload_n 2, 1) := by decide +kernel
theorem dX5_film_83 : decode cX5_film 83 = .ok (.imul, 1) := by decide +kernel
theorem dX5_film_84 : decode cX5_film 84 = .ok (.iload 5, 2) := by decide +kernel
theorem dX5_film_86 : decode cX5_film 86 = .ok (.iadd, 1) := by decide +kernel
theorem dX5_film_87 : decode cX5_film 87 = .ok (.iconst 0, 1) := by decide +kernel
theorem dX5_film_88 : decode cX5_film 88 = .ok (.iastore, 1) := by decide +kernel
theorem dX5_film_89 : decode cX5_film 89 = .ok (.iload 5, 2) := by decide +kernel
theorem dX5_film_91 : decode cX5_film 91 = .ok (.aload_n 0, 1) := by decide +kernel
theorem dX5_film_92 : decode cX5_film 92 = .ok (.getfield 37, 3) := by decide +kernel
theorem dX5_film_95 : decode cX5_film 95 = .ok (.iload_n 1, 1) := by decide +kernel
theorem dX5_film_96 : decode cX5_film 96 = .ok (.iaload, 1) := by decide +kernel
theorem dX5_film_97 : decode cX5_film 97 = .ok (.if_icmp .ge 49, 3) := by decide +kernel
theorem dX5_film_100 : decode cX5_film 100 = .ok (.aload_n 0, 1) := by decide +kernel
theorem dX5_film_101 : decode cX5_film 101 = .ok (.aload_n 0, 1) := by decide +kernel
theorem dX5_film_102 : decode cX5_film 102 = .ok (.getfield 40, 3) := by decide +kernel
theorem dX5_film_105 : decode cX5_film 105 = .ok (.bipush 40, 2) := by decide +kernel
theorem dX5_film_107 : decode cX5_film 107 = .ok (.iload_n 1, 1) := by decide +kernel
theorem dX5_film_108 : decode cX5_film 108 = .ok (.imul, 1) := by decide +kernel
theorem dX5_film_109 : decode cX5_film 109 = .ok (.iload 5, 2) := by decide +kernel
theorem dX5_film_111 : decode cX5_film 111 = .ok (.iadd, 1) := by decide +kernel
theorem dX5_film_112 : decode cX5_film 112 = .ok (.iaload, 1) := by decide +kernel
theorem dX5_film_113 : decode cX5_film 113 = .ok (.invokevirtual 208, 3) := by decide +kernel
theorem dX5_film_116 : decode cX5_film 116 = .ok (.pop, 1) := by decide +kernel
theorem dX5_film_117 : decode cX5_film 117 = .ok (.aload_n 0, 1) := by decide +kernel
theorem dX5_film_118 : decode cX5_film 118 = .ok (.invokevirtual 199, 3) := by decide +kernel
theorem dX5_film_121 : decode cX5_film 121 = .ok (.pop, 1) := by decide +kernel
theorem dX5_film_122 : decode cX5_film 122 = .ok (.aload_n 0, 1) := by decide +kernel
theorem dX5_film_123 : decode cX5_film 123 = .ok (.getfield 40, 3) := by decide +kernel
theorem dX5_film_126 : decode cX5_film 126 = .ok (.bipush 40, 2) := by decide +kernel
theorem dX5_film_128 : decode cX5_film 128 = .ok (.iload_n 2, 1) := by decide +kernel
theorem dX5_film_129 : decode cX5_film 129 = .ok (.imul, 1) := by decide +kernel
theorem dX5_film_130 : decode cX5_film 130 = .ok (.iload 5, 2) := by decide +kernel
theorem dX5_film_132 : decode cX5_film 132 = .ok (.iadd, 1) := by decide +kernel
theorem dX5_film_133 : decode cX5_film 133 = .ok (.aload_n 0, 1) := by decide +kernel
theorem dX5_film_134 : decode cX5_film 134 = .ok (.getfield 16, 3) := by decide +kernel
theorem dX5_film_137 : decode cX5_film 137 = .ok (.bipush 12, 2) := by decide +kernel
theorem dX5_film_139 : decode cX5_film 139 = .ok (.iload_n 3, 1) := by decide +kernel
theorem dX5_film_140 : decode cX5_film 140 = .ok (.imul, 1) := by decide +kernel
theorem dX5_film_141 : decode cX5_film 141 = .ok (.bipush 8, 2) := by decide +kernel
theorem dX5_film_143 : decode cX5_film 143 = .ok (.iadd, 1) := by decide +kernel
theorem dX5_film_144 : decode cX5_film 144 = .ok (.iaload, 1) := by decide +kernel
theorem dX5_film_145 : decode cX5_film 145 = .ok (.iastore, 1) := by decide +kernel
theorem dX5_film_146 : decode cX5_film 146 = .ok (.iinc 5 1, 3) := by decide +kernel
theorem dX5_film_149 : decode cX5_film 149 = .ok (.goto (-80), 3) := by decide +kernel
theorem dX5_film_152 : decode cX5_film 152 = .ok (.aload_n 0, 1) := by decide +kernel
theorem dX5_film_153 : decode cX5_film 153 = .ok (.invokevirtual 220, 3) := by decide +kernel
theorem dX5_film_156 : decode cX5_film 156 = .ok (.aload_n 0, 1) := by decide +kernel
theorem dX5_film_157 : decode cX5_film 157 = .ok (.getfield 37, 3) := by decide +kernel
theorem dX5_film_160 : decode cX5_film 160 = .ok (.iload_n 1, 1) := by decide +kernel
theorem dX5_film_161 : decode cX5_film 161 = .ok (.iaload, 1) := by decide +kernel
theorem dX5_film_162 : decode cX5_film 162 = .ok (.ireturn, 1) := by decide +kernel
theorem dX5_lotEvening_0 : decode cX5_lotEvening 0 = .ok (.iload_n 1, 1) := by decide +kernel
theorem dX5_lotEvening_1 : decode cX5_lotEvening 1 = .ok (.i2l, 1) := by decide +kernel
theorem dX5_lotEvening_2 : decode cX5_lotEvening 2 = .ok (.lconst 1, 1) := by decide +kernel
theorem dX5_lotEvening_3 : decode cX5_lotEvening 3 = .ok (.ladd, 1) := by decide +kernel
theorem dX5_lotEvening_4 : decode cX5_lotEvening 4 = .ok (.lstore_n 3, 1) := by decide +kernel
theorem dX5_lotEvening_5 : decode cX5_lotEvening 5 = .ok (.aload_n 0, 1) := by decide +kernel
theorem dX5_lotEvening_6 : decode cX5_lotEvening 6 = .ok (.iconst 0, 1) := by decide +kernel
theorem dX5_lotEvening_7 : decode cX5_lotEvening 7 = .ok (.putfield 259, 3) := by decide +kernel
theorem dX5_lotEvening_10 : decode cX5_lotEvening 10 = .ok (.aload_n 0, 1) := by decide +kernel
theorem dX5_lotEvening_11 : decode cX5_lotEvening 11 = .ok (.invokevirtual 214, 3) := by decide +kernel
theorem dX5_lotEvening_14 : decode cX5_lotEvening 14 = .ok (.iconst 0, 1) := by decide +kernel
theorem dX5_lotEvening_15 : decode cX5_lotEvening 15 = .ok (.istore 5, 2) := by decide +kernel
theorem dX5_lotEvening_17 : decode cX5_lotEvening 17 = .ok (.iload 5, 2) := by decide +kernel
theorem dX5_lotEvening_19 : decode cX5_lotEvening 19 = .ok (.iload_n 2, 1) := by decide +kernel
theorem dX5_lotEvening_20 : decode cX5_lotEvening 20 = .ok (.if_icmp .ge 88, 3) := by decide +kernel
theorem dX5_lotEvening_23 : decode cX5_lotEvening 23 = .ok (.lload_n 3, 1) := by decide +kernel
theorem dX5_lotEvening_24 : decode cX5_lotEvening 24 = .ok (.ldc2_w 262, 3) := by decide +kernel
theorem dX5_lotEvening_27 : decode cX5_lotEvening 27 = .ok (.lmul, 1) := by decide +kernel
theorem dX5_lotEvening_28 : decode cX5_lotEvening 28 = .ok (.ldc2_w 264, 3) := by decide +kernel
theorem dX5_lotEvening_31 : decode cX5_lotEvening 31 = .ok (.lrem, 1) := by decide +kernel
theorem dX5_lotEvening_32 : decode cX5_lotEvening 32 = .ok (.lstore_n 3, 1) := by decide +kernel
theorem dX5_lotEvening_33 : decode cX5_lotEvening 33 = .ok (.lload_n 3, 1) := by decide +kernel
theorem dX5_lotEvening_34 : decode cX5_lotEvening 34 = .ok (.ldc2_w 266, 3) := by decide +kernel
theorem dX5_lotEvening_37 : decode cX5_lotEvening 37 = .ok (.lrem, 1) := by decide +kernel
theorem dX5_lotEvening_38 : decode cX5_lotEvening 38 = .ok (.l2i, 1) := by decide +kernel
theorem dX5_lotEvening_39 : decode cX5_lotEvening 39 = .ok (.istore 6, 2) := by decide +kernel
theorem dX5_lotEvening_41 : decode cX5_lotEvening 41 = .ok (.lload_n 3, 1) := by decide +kernel
theorem dX5_lotEvening_42 : decode cX5_lotEvening 42 = .ok (.ldc2_w 262, 3) := by decide +kernel
theorem dX5_lotEvening_45 : decode cX5_lotEvening 45 = .ok (.lmul, 1) := by decide +kernel
theorem dX5_lotEvening_46 : decode cX5_lotEvening 46 = .ok (.ldc2_w 264, 3) := by decide +kernel
theorem dX5_lotEvening_49 : decode cX5_lotEvening 49 = .ok (.lrem, 1) := by decide +kernel
theorem dX5_lotEvening_50 : decode cX5_lotEvening 50 = .ok (.lstore_n 3, 1) := by decide +kernel
theorem dX5_lotEvening_51 : decode cX5_lotEvening 51 = .ok (.lload_n 3, 1) := by decide +kernel
theorem dX5_lotEvening_52 : decode cX5_lotEvening 52 = .ok (.ldc2_w 268, 3) := by decide +kernel
theorem dX5_lotEvening_55 : decode cX5_lotEvening 55 = .ok (.lrem, 1) := by decide +kernel
theorem dX5_lotEvening_56 : decode cX5_lotEvening 56 = .ok (.l2i, 1) := by decide +kernel
theorem dX5_lotEvening_57 : decode cX5_lotEvening 57 = .ok (.istore 7, 2) := by decide +kernel
theorem dX5_lotEvening_59 : decode cX5_lotEvening 59 = .ok (.iload 6, 2) := by decide +kernel
theorem dX5_lotEvening_61 : decode cX5_lotEvening 61 = .ok (.aload_n 0, 1) := by decide +kernel
theorem dX5_lotEvening_62 : decode cX5_lotEvening 62 = .ok (.getfield 75, 3) := by decide +kernel
theorem dX5_lotEvening_65 : decode cX5_lotEvening 65 = .ok (.if_icmp .ge 32, 3) := by decide +kernel
theorem dX5_lotEvening_68 : decode cX5_lotEvening 68 = .ok (.aload_n 0, 1) := by decide +kernel
theorem dX5_lotEvening_69 : decode cX5_lotEvening 69 = .ok (.dup, 1) := by decide +kernel
theorem dX5_lotEvening_70 : decode cX5_lotEvening 70 = .ok (.getfield 259, 3) := by decide +kernel
theorem dX5_lotEvening_73 : decode cX5_lotEvening 73 = .ok (.aload_n 0, 1) := by decide +kernel
theorem dX5_lotEvening_74 : decode cX5_lotEvening 74 = .ok (.bipush 10, 2) := by decide +kernel
theorem dX5_lotEvening_76 : decode cX5_lotEvening 76 = .ok (.iload 6, 2) := by decide +kernel
theorem dX5_lotEvening_78 : decode cX5_lotEvening 78 = .ok (.imul, 1) := by decide +kernel
theorem dX5_lotEvening_79 : decode cX5_lotEvening 79 = .ok (.iload 7, 2) := by decide +kernel
theorem dX5_lotEvening_81 : decode cX5_lotEvening 81 = .ok (.iadd, 1) := by decide +kernel
theorem dX5_lotEvening_82 : decode cX5_lotEvening 82 = .ok (.invokevirtual 208, 3) := by decide +kernel
theorem dX5_lotEvening_85 : decode cX5_lotEvening 85 = .ok (.ifCond .eq 7, 3) := by decide +kernel
theorem dX5_lotEvening_88 : decode cX5_lotEvening 88 = .ok (.iconst 1, 1) := by decide +kernel
theorem dX5_lotEvening_89 : decode cX5_lotEvening 89 = .ok (.goto 4, 3) := by decide +kernel
theorem dX5_lotEvening_92 : decode cX5_lotEvening 92 = .ok (.iconst 0, 1) := by decide +kernel
theorem dX5_lotEvening_93 : decode cX5_lotEvening 93 = .ok (.iadd, 1) := by decide +kernel
theorem dX5_lotEvening_94 : decode cX5_lotEvening 94 = .ok (.putfield 259, 3) := by decide +kernel
theorem dX5_lotEvening_97 : decode cX5_lotEvening 97 = .ok (.aload_n 0, 1) := by decide +kernel
theorem dX5_lotEvening_98 : decode cX5_lotEvening 98 = .ok (.invokevirtual 199, 3) := by decide +kernel
theorem dX5_lotEvening_101 : decode cX5_lotEvening 101 = .ok (.pop, 1) := by decide +kernel
theorem dX5_lotEvening_102 : decode cX5_lotEvening 102 = .ok (.iinc 5 1, 3) := by decide +kernel
theorem dX5_lotEvening_105 : decode cX5_lotEvening 105 = .ok (.goto (-88), 3) := by decide +kernel
theorem dX5_lotEvening_108 : decode cX5_lotEvening 108 = .ok (.aload_n 0, 1) := by decide +kernel
theorem dX5_lotEvening_109 : decode cX5_lotEvening 109 = .ok (.invokevirtual 235, 3) := by decide +kernel
theorem dX5_lotEvening_112 : decode cX5_lotEvening 112 = .ok (.istore 5, 2) := by decide +kernel
theorem dX5_lotEvening_114 : decode cX5_lotEvening 114 = .ok (.aload_n 0, 1) := by decide +kernel
theorem dX5_lotEvening_115 : decode cX5_lotEvening 115 = .ok (.invokevirtual 220, 3) := by decide +kernel
theorem dX5_lotEvening_118 : decode cX5_lotEvening 118 = .ok (.iload 5, 2) := by decide +kernel
theorem dX5_lotEvening_120 : decode cX5_lotEvening 120 = .ok (.ireturn, 1) := by decide +kernel
theorem dX5_drawn_0 : decode cX5_drawn 0 = .ok (.iload_n 1, 1) := by decide +kernel
theorem dX5_drawn_1 : decode cX5_drawn 1 = .ok (.iconst 0, 1) := by decide +kernel
theorem dX5_drawn_2 : decode cX5_drawn 2 = .ok (.ldc_w 270, 3) := by decide +kernel
theorem dX5_drawn_5 : decode cX5_drawn 5 = .ok (.invokestatic 78, 3) := by decide +kernel
theorem dX5_drawn_8 : decode cX5_drawn 8 = .ok (.ifCond .eq 22, 3) := by decide +kernel
theorem dX5_drawn_11 : decode cX5_drawn 11 = .ok (.iload_n 2, 1) := by decide +kernel
theorem dX5_drawn_12 : decode cX5_drawn 12 = .ok (.iconst 0, 1) := by decide +kernel
theorem dX5_drawn_13 : decode cX5_drawn 13 = .ok (.bipush 60, 2) := by decide +kernel
theorem dX5_drawn_15 : decode cX5_drawn 15 = .ok (.invokestatic 78, 3) := by decide +kernel
theorem dX5_drawn_18 : decode cX5_drawn 18 = .ok (.ifCond .eq 12, 3) := by decide +kernel
theorem dX5_drawn_21 : decode cX5_drawn 21 = .ok (.iload_n 3, 1) := by decide +kernel
theorem dX5_drawn_22 : decode cX5_drawn 22 = .ok (.iconst 0, 1) := by decide +kernel
theorem dX5_drawn_23 : decode cX5_drawn 23 = .ok (.iconst 1, 1) := by decide +kernel
theorem dX5_drawn_24 : decode cX5_drawn 24 = .ok (.invokestatic 78, 3) := by decide +kernel
theorem dX5_drawn_27 : decode cX5_drawn 27 = .ok (.ifCond .ne 6, 3) := by decide +kernel
theorem dX5_drawn_30 : decode cX5_drawn 30 = .ok (.bipush (-2), 2) := by decide +kernel
theorem dX5_drawn_32 : decode cX5_drawn 32 = .ok (.ireturn, 1) := by decide +kernel
theorem dX5_drawn_33 : decode cX5_drawn 33 = .ok (.aload_n 0, 1) := by decide +kernel
theorem dX5_drawn_34 : decode cX5_drawn 34 = .ok (.iload_n 1, 1) := by decide +kernel
theorem dX5_drawn_35 : decode cX5_drawn 35 = .ok (.iload_n 2, 1) := by decide +kernel
theorem dX5_drawn_36 : decode cX5_drawn 36 = .ok (.invokevirtual 271, 3) := by decide +kernel
theorem dX5_drawn_39 : decode cX5_drawn 39 = .ok (.istore 4, 2) := by decide +kernel
theorem dX5_drawn_41 : decode cX5_drawn 41 = .ok (.iload_n 3, 1) := by decide +kernel
theorem dX5_drawn_42 : decode cX5_drawn 42 = .ok (.ifCond .ne 8, 3) := by decide +kernel
theorem dX5_drawn_45 : decode cX5_drawn 45 = .ok (.iload 4, 2) := by decide +kernel
theorem dX5_drawn_47 : decode cX5_drawn 47 = .ok (.goto 7, 3) := by decide +kernel
theorem dX5_drawn_50 : decode cX5_drawn 50 = .ok (.aload_n 0, 1) := by decide +kernel
theorem dX5_drawn_51 : decode cX5_drawn 51 = .ok (.getfield 259, 3) := by decide +kernel
theorem dX5_drawn_54 : decode cX5_drawn 54 = .ok (.ireturn, 1) := by decide +kernel
theorem dX5_odds_0 : decode cX5_odds 0 = .ok (.iload_n 1, 1) := by decide +kernel
theorem dX5_odds_1 : decode cX5_odds 1 = .ok (.iconst 0, 1) := by decide +kernel
theorem dX5_odds_2 : decode cX5_odds 2 = .ok (.ldc_w 270, 3) := by decide +kernel
theorem dX5_odds_5 : decode cX5_odds 5 = .ok (.invokestatic 78, 3) := by decide +kernel
theorem dX5_odds_8 : decode cX5_odds 8 = .ok (.ifCond .eq 34, 3) := by decide +kernel
theorem dX5_odds_11 : decode cX5_odds 11 = .ok (.iload_n 2, 1) := by decide +kernel
theorem dX5_odds_12 : decode cX5_odds 12 = .ok (.iconst 1, 1) := by decide +kernel
theorem dX5_odds_13 : decode cX5_odds 13 = .ok (.bipush 40, 2) := by decide +kernel
theorem dX5_odds_15 : decode cX5_odds 15 = .ok (.invokestatic 78, 3) := by decide +kernel
theorem dX5_odds_18 : decode cX5_odds 18 = .ok (.ifCond .eq 24, 3) := by decide +kernel
theorem dX5_odds_21 : decode cX5_odds 21 = .ok (.iload_n 3, 1) := by decide +kernel
theorem dX5_odds_22 : decode cX5_odds 22 = .ok (.iconst 0, 1) := by decide +kernel
theorem dX5_odds_23 : decode cX5_odds 23 = .ok (.sipush 999, 3) := by decide +kernel
theorem dX5_odds_26 : decode cX5_odds 26 = .ok (.invokestatic 78, 3) := by decide +kernel
theorem dX5_odds_29 : decode cX5_odds 29 = .ok (.ifCond .eq 13, 3) := by decide +kernel
theorem dX5_odds_32 : decode cX5_odds 32 = .ok (.iload 4, 2) := by decide +kernel
theorem dX5_odds_34 : decode cX5_odds 34 = .ok (.iconst 0, 1) := by decide +kernel
theorem dX5_odds_35 : decode cX5_odds 35 = .ok (.iconst 1, 1) := by decide +kernel
theorem dX5_odds_36 : decode cX5_odds 36 = .ok (.invokestatic 78, 3) := by decide +kernel
theorem dX5_odds_39 : decode cX5_odds 39 = .ok (.ifCond .ne 7, 3) := by decide +kernel
theorem dX5_odds_42 : decode cX5_odds 42 = .ok (.ldc2_w 248, 3) := by decide +kernel
theorem dX5_odds_45 : decode cX5_odds 45 = .ok (.lreturn, 1) := by decide +kernel
theorem dX5_odds_46 : decode cX5_odds 46 = .ok (.lconst 0, 1) := by decide +kernel
theorem dX5_odds_47 : decode cX5_odds 47 = .ok (.lstore 5, 2) := by decide +kernel
theorem dX5_odds_49 : decode cX5_odds 49 = .ok (.iconst 0, 1) := by decide +kernel
theorem dX5_odds_50 : decode cX5_odds 50 = .ok (.istore 7, 2) := by decide +kernel
theorem dX5_odds_52 : decode cX5_odds 52 = .ok (.iload 7, 2) := by decide +kernel
theorem dX5_odds_54 : decode cX5_odds 54 = .ok (.iload_n 2, 1) := by decide +kernel
theorem dX5_odds_55 : decode cX5_odds 55 = .ok (.if_icmp .ge 33, 3) := by decide +kernel
theorem dX5_odds_58 : decode cX5_odds 58 = .ok (.lload 5, 2) := by decide +kernel
theorem dX5_odds_60 : decode cX5_odds 60 = .ok (.aload_n 0, 1) := by decide +kernel
theorem dX5_odds_61 : decode cX5_odds 61 = .ok (.iload_n 1, 1) := by decide +kernel
theorem dX5_odds_62 : decode cX5_odds 62 = .ok (.iload 7, 2) := by decide +kernel
theorem dX5_odds_64 : decode cX5_odds 64 = .ok (.iadd, 1) := by decide +kernel
theorem dX5_odds_65 : decode cX5_odds 65 = .ok (.bipush 20, 2) := by decide +kernel
theorem dX5_odds_67 : decode cX5_odds 67 = .ok (.invokevirtual 271, 3) := by decide +kernel
theorem dX5_odds_70 : decode cX5_odds 70 = .ok (.iload_n 3, 1) := by decide +kernel
theorem dX5_odds_71 : decode cX5_odds 71 = .ok (.if_icmp .lt 7, 3) := by decide +kernel
theorem dX5_odds_74 : decode cX5_odds 74 = .ok (.lconst 1, 1) := by decide +kernel
theorem dX5_odds_75 : decode cX5_odds 75 = .ok (.goto 4, 3) := by decide +kernel
theorem dX5_odds_78 : decode cX5_odds 78 = .ok (.lconst 0, 1) := by decide +kernel
theorem dX5_odds_79 : decode cX5_odds 79 = .ok (.ladd, 1) := by decide +kernel
theorem dX5_odds_80 : decode cX5_odds 80 = .ok (.lstore 5, 2) := by decide +kernel
theorem dX5_odds_82 : decode cX5_odds 82 = .ok (.iinc 7 1, 3) := by decide +kernel
theorem dX5_odds_85 : decode cX5_odds 85 = .ok (.goto (-33), 3) := by decide +kernel
theorem dX5_odds_88 : decode cX5_odds 88 = .ok (.lload 5, 2) := by decide +kernel
theorem dX5_odds_90 : decode cX5_odds 90 = .ok (.iload_n 2, 1) := by decide +kernel
theorem dX5_odds_91 : decode cX5_odds 91 = .ok (.i2l, 1) := by decide +kernel
theorem dX5_odds_92 : decode cX5_odds 92 = .ok (.iload 4, 2) := by decide +kernel
theorem dX5_odds_94 : decode cX5_odds 94 = .ok (.invokestatic 244, 3) := by decide +kernel
theorem dX5_odds_97 : decode cX5_odds 97 = .ok (.lreturn, 1) := by decide +kernel
theorem dX5_image_0 : decode cX5_image 0 = .ok (.aload_n 0, 1) := by decide +kernel
theorem dX5_image_1 : decode cX5_image 1 = .ok (.iconst 1, 1) := by decide +kernel
theorem dX5_image_2 : decode cX5_image 2 = .ok (.putfield 274, 3) := by decide +kernel
theorem dX5_image_5 : decode cX5_image 5 = .ok (.iconst 0, 1) := by decide +kernel
theorem dX5_image_6 : decode cX5_image 6 = .ok (.istore_n 1, 1) := by decide +kernel
theorem dX5_image_7 : decode cX5_image 7 = .ok (.iload_n 1, 1) := by decide +kernel
theorem dX5_image_8 : decode cX5_image 8 = .ok (.bipush 72, 2) := by decide +kernel
theorem dX5_image_10 : decode cX5_image 10 = .ok (.if_icmp .ge 21, 3) := by decide +kernel
theorem dX5_image_13 : decode cX5_image 13 = .ok (.aload_n 0, 1) := by decide +kernel
theorem dX5_image_14 : decode cX5_image 14 = .ok (.getfield 28, 3) := by decide +kernel
theorem dX5_image_17 : decode cX5_image 17 = .ok (.iload_n 1, 1) := by decide +kernel
theorem dX5_image_18 : decode cX5_image 18 = .ok (.aload_n 0, 1) := by decide +kernel
theorem dX5_image_19 : decode cX5_image 19 = .ok (.getfield 16, 3) := by decide +kernel
theorem dX5_image_22 : decode cX5_image 22 = .ok (.iload_n 1, 1) := by decide +kernel
theorem dX5_image_23 : decode cX5_image 23 = .ok (.iaload, 1) := by decide +kernel
theorem dX5_image_24 : decode cX5_image 24 = .ok (.iastore, 1) := by decide +kernel
theorem dX5_image_25 : decode cX5_image 25 = .ok (.iinc 1 1, 3) := by decide +kernel
theorem dX5_image_28 : decode cX5_image 28 = .ok (.goto (-21), 3) := by decide +kernel
theorem dX5_image_31 : decode cX5_image 31 = .ok (.aload_n 0, 1) := by decide +kernel
theorem dX5_image_32 : decode cX5_image 32 = .ok (.getfield 31, 3) := by decide +kernel
theorem dX5_image_35 : decode cX5_image 35 = .ok (.iconst 0, 1) := by decide +kernel
theorem dX5_image_36 : decode cX5_image 36 = .ok (.aload_n 0, 1) := by decide +kernel
theorem dX5_image_37 : decode cX5_image 37 = .ok (.getfield 75, 3) := by decide +kernel
theorem dX5_image_40 : decode cX5_image 40 = .ok (.iastore, 1) := by decide +kernel
theorem dX5_image_41 : decode cX5_image 41 = .ok (.aload_n 0, 1) := by decide +kernel
theorem dX5_image_42 : decode cX5_image 42 = .ok (.getfield 31, 3) := by decide +kernel
theorem dX5_image_45 : decode cX5_image 45 = .ok (.iconst 1, 1) := by decide +kernel
theorem dX5_image_46 : decode cX5_image 46 = .ok (.aload_n 0, 1) := by decide +kernel
theorem dX5_image_47 : decode cX5_image 47 = .ok (.getfield 86, 3) := by decide +kernel
theorem dX5_image_50 : decode cX5_image 50 = .ok (.iastore, 1) := by decide +kernel
theorem dX5_image_51 : decode cX5_image 51 = .ok (.aload_n 0, 1) := by decide +kernel
theorem dX5_image_52 : decode cX5_image 52 = .ok (.getfield 31, 3) := by decide +kernel
theorem dX5_image_55 : decode cX5_image 55 = .ok (.iconst 2, 1) := by decide +kernel
theorem dX5_image_56 : decode cX5_image 56 = .ok (.aload_n 0, 1) := by decide +kernel
theorem dX5_image_57 : decode cX5_image 57 = .ok (.getfield 99, 3) := by decide +kernel
theorem dX5_image_60 : decode cX5_image 60 = .ok (.iastore, 1) := by decide +kernel
theorem dX5_image_61 : decode cX5_image 61 = .ok (.aload_n 0, 1) := by decide +kernel
theorem dX5_image_62 : decode cX5_image 62 = .ok (.getfield 75, 3) := by decide +kernel
theorem dX5_image_65 : decode cX5_image 65 = .ok (.ireturn, 1) := by decide +kernel
theorem dX5_back_0 : decode cX5_back 0 = .ok (.aload_n 0, 1) := by decide +kernel
theorem dX5_back_1 : decode cX5_back 1 = .ok (.getfield 274, 3) := by decide +kernel
theorem dX5_back_4 : decode cX5_back 4 = .ok (.ifCond .ne 6, 3) := by decide +kernel
theorem dX5_back_7 : decode cX5_back 7 = .ok (.bipush (-3), 2) := by decide +kernel
theorem dX5_back_9 : decode cX5_back 9 = .ok (.ireturn, 1) := by decide +kernel
theorem dX5_back_10 : decode cX5_back 10 = .ok (.iconst 0, 1) := by decide +kernel
theorem dX5_back_11 : decode cX5_back 11 = .ok (.istore_n 1, 1) := by decide +kernel
theorem dX5_back_12 : decode cX5_back 12 = .ok (.iload_n 1, 1) := by decide +kernel
theorem dX5_back_13 : decode cX5_back 13 = .ok (.bipush 72, 2) := by decide +kernel
theorem dX5_back_15 : decode cX5_back 15 = .ok (.if_icmp .ge 21, 3) := by decide +kernel
theorem dX5_back_18 : decode cX5_back 18 = .ok (.aload_n 0, 1) := by decide +kernel
theorem dX5_back_19 : decode cX5_back 19 = .ok (.getfield 16, 3) := by decide +kernel
theorem dX5_back_22 : decode cX5_back 22 = .ok (.iload_n 1, 1) := by decide +kernel
theorem dX5_back_23 : decode cX5_back 23 = .ok (.aload_n 0, 1) := by decide +kernel
theorem dX5_back_24 : decode cX5_back 24 = .ok (.getfield 28, 3) := by decide +kernel
theorem dX5_back_27 : decode cX5_back 27 = .ok (.iload_n 1, 1) := by decide +kernel
theorem dX5_back_28 : decode cX5_back 28 = .ok (.iaload, 1) := by decide +kernel
theorem dX5_back_29 : decode cX5_back 29 = .ok (.iastore, 1) := by decide +kernel
theorem dX5_back_30 : decode cX5_back 30 = .ok (.iinc 1 1, 3) := by decide +kernel
theorem dX5_back_33 : decode cX5_back 33 = .ok (.goto (-21), 3) := by decide +kernel
theorem dX5_back_36 : decode cX5_back 36 = .ok (.aload_n 0, 1) := by decide +kernel
theorem dX5_back_37 : decode cX5_back 37 = .ok (.aload_n 0, 1) := by decide +kernel
theorem dX5_back_38 : decode cX5_back 38 = .ok (.getfield 31, 3) := by decide +kernel
theorem dX5_back_41 : decode cX5_back 41 = .ok (.iconst 0, 1) := by decide +kernel
theorem dX5_back_42 : decode cX5_back 42 = .ok (.iaload, 1) := by decide +kernel
theorem dX5_back_43 : decode cX5_back 43 = .ok (.putfield 75, 3) := by decide +kernel
theorem dX5_back_46 : decode cX5_back 46 = .ok (.aload_n 0, 1) := by decide +kernel
theorem dX5_back_47 : decode cX5_back 47 = .ok (.aload_n 0, 1) := by decide +kernel
theorem dX5_back_48 : decode cX5_back 48 = .ok (.getfield 31, 3) := by decide +kernel
theorem dX5_back_51 : decode cX5_back 51 = .ok (.iconst 1, 1) := by decide +kernel
theorem dX5_back_52 : decode cX5_back 52 = .ok (.iaload, 1) := by decide +kernel
theorem dX5_back_53 : decode cX5_back 53 = .ok (.putfield 86, 3) := by decide +kernel
theorem dX5_back_56 : decode cX5_back 56 = .ok (.aload_n 0, 1) := by decide +kernel
theorem dX5_back_57 : decode cX5_back 57 = .ok (.aload_n 0, 1) := by decide +kernel
theorem dX5_back_58 : decode cX5_back 58 = .ok (.getfield 31, 3) := by decide +kernel
theorem dX5_back_61 : decode cX5_back 61 = .ok (.iconst 2, 1) := by decide +kernel
theorem dX5_back_62 : decode cX5_back 62 = .ok (.iaload, 1) := by decide +kernel
theorem dX5_back_63 : decode cX5_back 63 = .ok (.putfield 99, 3) := by decide +kernel
theorem dX5_back_66 : decode cX5_back 66 = .ok (.aload_n 0, 1) := by decide +kernel
theorem dX5_back_67 : decode cX5_back 67 = .ok (.getfield 75, 3) := by decide +kernel
theorem dX5_back_70 : decode cX5_back 70 = .ok (.ireturn, 1) := by decide +kernel
theorem dX5_sheet_0 : decode cX5_sheet 0 = .ok (.iload_n 1, 1) := by decide +kernel
theorem dX5_sheet_1 : decode cX5_sheet 1 = .ok (.iconst 0, 1) := by decide +kernel
theorem dX5_sheet_2 : decode cX5_sheet 2 = .ok (.iconst 3, 1) := by decide +kernel
theorem dX5_sheet_3 : decode cX5_sheet 3 = .ok (.invokestatic 78, 3) := by decide +kernel
theorem dX5_sheet_6 : decode cX5_sheet 6 = .ok (.ifCond .eq 23, 3) := by decide +kernel
theorem dX5_sheet_9 : decode cX5_sheet 9 = .ok (.iload_n 2, 1) := by decide +kernel
theorem dX5_sheet_10 : decode cX5_sheet 10 = .ok (.iconst (-1), 1) := by decide +kernel
theorem dX5_sheet_11 : decode cX5_sheet 11 = .ok (.iconst 2, 1) := by decide +kernel
theorem dX5_sheet_12 : decode cX5_sheet 12 = .ok (.invokestatic 78, 3) := by decide +kernel
theorem dX5_sheet_15 : decode cX5_sheet 15 = .ok (.ifCond .eq 14, 3) := by decide +kernel
theorem dX5_sheet_18 : decode cX5_sheet 18 = .ok (.iload_n 2, 1) := by decide +kernel
theorem dX5_sheet_19 : decode cX5_sheet 19 = .ok (.iconst (-1), 1) := by decide +kernel
theorem dX5_sheet_20 : decode cX5_sheet 20 = .ok (.if_icmp .eq 12, 3) := by decide +kernel
theorem dX5_sheet_23 : decode cX5_sheet 23 = .ok (.iload_n 3, 1) := by decide +kernel
theorem dX5_sheet_24 : decode cX5_sheet 24 = .ok (.bipush 40, 2) := by decide +kernel
theorem dX5_sheet_26 : decode cX5_sheet 26 = .ok (.if_icmp .le 6, 3) := by decide +kernel
theorem dX5_sheet_29 : decode cX5_sheet 29 = .ok (.bipush (-2), 2) := by decide +kernel
theorem dX5_sheet_31 : decode cX5_sheet 31 = .ok (.ireturn, 1) := by decide +kernel
theorem dX5_sheet_32 : decode cX5_sheet 32 = .ok (.iload_n 2, 1) := by decide +kernel
theorem dX5_sheet_33 : decode cX5_sheet 33 = .ok (.iconst (-1), 1) := by decide +kernel
theorem dX5_sheet_34 : decode cX5_sheet 34 = .ok (.if_icmp .eq 10, 3) := by decide +kernel
theorem dX5_sheet_37 : decode cX5_sheet 37 = .ok (.iload_n 3, 1) := by decide +kernel
theorem dX5_sheet_38 : decode cX5_sheet 38 = .ok (.ifCond .ge 6, 3) := by decide +kernel
theorem dX5_sheet_41 : decode cX5_sheet 41 = .ok (.bipush (-14), 2) := by decide +kernel
theorem dX5_sheet_43 : decode cX5_sheet 43 = .ok (.ireturn, 1) := by decide +kernel
theorem dX5_sheet_44 : decode cX5_sheet 44 = .ok (.aload_n 0, 1) := by decide +kernel
theorem dX5_sheet_45 : decode cX5_sheet 45 = .ok (.getfield 34, 3) := by decide +kernel
theorem dX5_sheet_48 : decode cX5_sheet 48 = .ok (.iload_n 1, 1) := by decide +kernel
theorem dX5_sheet_49 : decode cX5_sheet 49 = .ok (.iload_n 2, 1) := by decide +kernel
theorem dX5_sheet_50 : decode cX5_sheet 50 = .ok (.iastore, 1) := by decide +kernel
theorem dX5_sheet_51 : decode cX5_sheet 51 = .ok (.aload_n 0, 1) := by decide +kernel
theorem dX5_sheet_52 : decode cX5_sheet 52 = .ok (.getfield 37, 3) := by decide +kernel
theorem dX5_sheet_55 : decode cX5_sheet 55 = .ok (.iload_n 1, 1) := by decide +kernel
theorem dX5_sheet_56 : decode cX5_sheet 56 = .ok (.iload_n 2, 1) := by decide +kernel
theorem dX5_sheet_57 : decode cX5_sheet 57 = .ok (.iconst (-1), 1) := by decide +kernel
theorem dX5_sheet_58 : decode cX5_sheet 58 = .ok (.if_icmp .ne 7, 3) := by decide +kernel
theorem dX5_sheet_61 : decode cX5_sheet 61 = .ok (.iconst 0, 1) := by decide +kernel
theorem dX5_sheet_62 : decode cX5_sheet 62 = .ok (.goto 4, 3) := by decide +kernel
theorem dX5_sheet_65 : decode cX5_sheet 65 = .ok (.iload_n 3, 1) := by decide +kernel
theorem dX5_sheet_66 : decode cX5_sheet 66 = .ok (.iastore, 1) := by decide +kernel
theorem dX5_sheet_67 : decode cX5_sheet 67 = .ok (.iconst 0, 1) := by decide +kernel
theorem dX5_sheet_68 : decode cX5_sheet 68 = .ok (.istore 4, 2) := by decide +kernel
theorem dX5_sheet_70 : decode cX5_sheet 70 = .ok (.iload 4, 2) := by decide +kernel
theorem dX5_sheet_72 : decode cX5_sheet 72 = .ok (.bipush 40, 2) := by decide +kernel
theorem dX5_sheet_74 : decode cX5_sheet 74 = .ok (.if_icmp .ge 22, 3) := by decide +kernel
theorem dX5_sheet_77 : decode cX5_sheet 77 = .ok (.aload_n 0, 1) := by decide +kernel
theorem dX5_sheet_78 : decode cX5_sheet 78 = .ok (.getfield 40, 3) := by decide +kernel
theorem dX5_sheet_81 : decode cX5_sheet 81 = .ok (.bipush 40, 2) := by decide +kernel
theorem dX5_sheet_83 : decode cX5_sheet 83 = .ok (.iload_n 1, 1) := by decide +kernel
theorem dX5_sheet_84 : decode cX5_sheet 84 = .ok (.imul, 1) := by decide +kernel
theorem dX5_sheet_85 : decode cX5_sheet 85 = .ok (.iload 4, 2) := by decide +kernel
theorem dX5_sheet_87 : decode cX5_sheet 87 = .ok (.iadd, 1) := by decide +kernel
theorem dX5_sheet_88 : decode cX5_sheet 88 = .ok (.iconst 0, 1) := by decide +kernel
theorem dX5_sheet_89 : decode cX5_sheet 89 = .ok (.iastore, 1) := by decide +kernel
theorem dX5_sheet_90 : decode cX5_sheet 90 = .ok (.iinc 4 1, 3) := by decide +kernel
theorem dX5_sheet_93 : decode cX5_sheet 93 = .ok (.goto (-23), 3) := by decide +kernel
theorem dX5_sheet_96 : decode cX5_sheet 96 = .ok (.iconst 1, 1) := by decide +kernel
theorem dX5_sheet_97 : decode cX5_sheet 97 = .ok (.ireturn, 1) := by decide +kernel
theorem dX5_cell_0 : decode cX5_cell 0 = .ok (.iload_n 1, 1) := by decide +kernel
theorem dX5_cell_1 : decode cX5_cell 1 = .ok (.iconst 0, 1) := by decide +kernel
theorem dX5_cell_2 : decode cX5_cell 2 = .ok (.iconst 3, 1) := by decide +kernel
theorem dX5_cell_3 : decode cX5_cell 3 = .ok (.invokestatic 78, 3) := by decide +kernel
theorem dX5_cell_6 : decode cX5_cell 6 = .ok (.ifCond .ne 6, 3) := by decide +kernel
theorem dX5_cell_9 : decode cX5_cell 9 = .ok (.bipush (-2), 2) := by decide +kernel
theorem dX5_cell_11 : decode cX5_cell 11 = .ok (.ireturn, 1) := by decide +kernel
theorem dX5_cell_12 : decode cX5_cell 12 = .ok (.aload_n 0, 1) := by decide +kernel
theorem dX5_cell_13 : decode cX5_cell 13 = .ok (.getfield 34, 3) := by decide +kernel
theorem dX5_cell_16 : decode cX5_cell 16 = .ok (.iload_n 1, 1) := by decide +kernel
theorem dX5_cell_17 : decode cX5_cell 17 = .ok (.iaload, 1) := by decide +kernel
theorem dX5_cell_18 : decode cX5_cell 18 = .ok (.iconst (-1), 1) := by decide +kernel
theorem dX5_cell_19 : decode cX5_cell 19 = .ok (.if_icmp .ne 6, 3) := by decide +kernel
theorem dX5_cell_22 : decode cX5_cell 22 = .ok (.bipush (-11), 2) := by decide +kernel
theorem dX5_cell_24 : decode cX5_cell 24 = .ok (.ireturn, 1) := by decide +kernel
theorem dX5_cell_25 : decode cX5_cell 25 = .ok (.iload_n 2, 1) := by decide +kernel
theorem dX5_cell_26 : decode cX5_cell 26 = .ok (.iconst 0, 1) := by decide +kernel
theorem dX5_cell_27 : decode cX5_cell 27 = .ok (.aload_n 0, 1) := by decide +kernel
theorem dX5_cell_28 : decode cX5_cell 28 = .ok (.getfield 37, 3) := by decide +kernel
theorem dX5_cell_31 : decode cX5_cell 31 = .ok (.iload_n 1, 1) := by decide +kernel
theorem dX5_cell_32 : decode cX5_cell 32 = .ok (.iaload, 1) := by decide +kernel
theorem dX5_cell_33 : decode cX5_cell 33 = .ok (.iconst 1, 1) := by decide +kernel
theorem dX5_cell_34 : decode cX5_cell 34 = .ok (.isub, 1) := by decide +kernel
theorem dX5_cell_35 : decode cX5_cell 35 = .ok (.invokestatic 78, 3) := by decide +kernel
theorem dX5_cell_38 : decode cX5_cell 38 = .ok (.ifCond .ne 6, 3) := by decide +kernel
theorem dX5_cell_41 : decode cX5_cell 41 = .ok (.bipush (-12), 2) := by decide +kernel
theorem dX5_cell_43 : decode cX5_cell 43 = .ok (.ireturn, 1) := by decide +kernel
theorem dX5_cell_44 : decode cX5_cell 44 = .ok (.aload_n 0, 1) := by decide +kernel
theorem dX5_cell_45 : decode cX5_cell 45 = .ok (.getfield 40, 3) := by decide +kernel
theorem dX5_cell_48 : decode cX5_cell 48 = .ok (.bipush 40, 2) := by decide +kernel
theorem dX5_cell_50 : decode cX5_cell 50 = .ok (.iload_n 1, 1) := by decide +kernel
theorem dX5_cell_51 : decode cX5_cell 51 = .ok (.imul, 1) := by decide +kernel
theorem dX5_cell_52 : decode cX5_cell 52 = .ok (.iload_n 2, 1) := by decide +kernel
theorem dX5_cell_53 : decode cX5_cell 53 = .ok (.iadd, 1) := by decide +kernel
theorem dX5_cell_54 : decode cX5_cell 54 = .ok (.aload_n 0, 1) := by decide +kernel
theorem dX5_cell_55 : decode cX5_cell 55 = .ok (.getfield 34, 3) := by decide +kernel
theorem dX5_cell_58 : decode cX5_cell 58 = .ok (.iload_n 1, 1) := by decide +kernel
theorem dX5_cell_59 : decode cX5_cell 59 = .ok (.iaload, 1) := by decide +kernel
theorem dX5_cell_60 : decode cX5_cell 60 = .ok (.ifCond .ne 8, 3) := by decide +kernel
theorem dX5_cell_63 : decode cX5_cell 63 = .ok (.iload_n 3, 1) := by decide +kernel
theorem dX5_cell_64 : decode cX5_cell 64 = .ok (.i2b, 1) := by decide +kernel
theorem dX5_cell_65 : decode cX5_cell 65 = .ok (.goto 19, 3) := by decide +kernel
theorem dX5_cell_68 : decode cX5_cell 68 = .ok (.aload_n 0, 1) := by decide +kernel
theorem dX5_cell_69 : decode cX5_cell 69 = .ok (.getfield 34, 3) := by decide +kernel
theorem dX5_cell_72 : decode cX5_cell 72 = .ok (.iload_n 1, 1) := by decide +kernel
theorem dX5_cell_73 : decode cX5_cell 73 = .ok (.iaload, 1) := by decide +kernel
theorem dX5_cell_74 : decode cX5_cell 74 = .ok (.iconst 1, 1) := by decide +kernel
theorem dX5_cell_75 : decode cX5_cell 75 = .ok (.if_icmp .ne 8, 3) := by decide +kernel
theorem dX5_cell_78 : decode cX5_cell 78 = .ok (.iload_n 3, 1) := by decide +kernel
theorem dX5_cell_79 : decode cX5_cell 79 = .ok (.i2s, 1) := by decide +kernel
theorem dX5_cell_80 : decode cX5_cell 80 = .ok (.goto 4, 3) := by decide +kernel
theorem dX5_cell_83 : decode cX5_cell 83 = .ok (.iload_n 3, 1) := by decide +kernel
theorem dX5_cell_84 : decode cX5_cell 84 = .ok (.iastore, 1) := by decide +kernel
theorem dX5_cell_85 : decode cX5_cell 85 = .ok (.iconst 1, 1) := by decide +kernel
theorem dX5_cell_86 : decode cX5_cell 86 = .ok (.ireturn, 1) := by decide +kernel
theorem dX5_copy_0 : decode cX5_copy 0 = .ok (.iload_n 1, 1) := by decide +kernel
theorem dX5_copy_1 : decode cX5_copy 1 = .ok (.iconst 0, 1) := by decide +kernel
theorem dX5_copy_2 : decode cX5_copy 2 = .ok (.iconst 3, 1) := by decide +kernel
theorem dX5_copy_3 : decode cX5_copy 3 = .ok (.invokestatic 78, 3) := by decide +kernel
theorem dX5_copy_6 : decode cX5_copy 6 = .ok (.ifCond .eq 12, 3) := by decide +kernel
theorem dX5_copy_9 : decode cX5_copy 9 = .ok (.iload_n 3, 1) := by decide +kernel
theorem dX5_copy_10 : decode cX5_copy 10 = .ok (.iconst 0, 1) := by decide +kernel
theorem dX5_copy_11 : decode cX5_copy 11 = .ok (.iconst 3, 1) := by decide +kernel
theorem dX5_copy_12 : decode cX5_copy 12 = .ok (.invokestatic 78, 3) := by decide +kernel
theorem dX5_copy_15 : decode cX5_copy 15 = .ok (.ifCond .ne 6, 3) := by decide +kernel
theorem dX5_copy_18 : decode cX5_copy 18 = .ok (.bipush (-2), 2) := by decide +kernel
theorem dX5_copy_20 : decode cX5_copy 20 = .ok (.ireturn, 1) := by decide +kernel
theorem dX5_copy_21 : decode cX5_copy 21 = .ok (.aload_n 0, 1) := by decide +kernel
theorem dX5_copy_22 : decode cX5_copy 22 = .ok (.getfield 34, 3) := by decide +kernel
theorem dX5_copy_25 : decode cX5_copy 25 = .ok (.iload_n 1, 1) := by decide +kernel
theorem dX5_copy_26 : decode cX5_copy 26 = .ok (.iaload, 1) := by decide +kernel
theorem dX5_copy_27 : decode cX5_copy 27 = .ok (.iconst (-1), 1) := by decide +kernel
theorem dX5_copy_28 : decode cX5_copy 28 = .ok (.if_icmp .eq 13, 3) := by decide +kernel
theorem dX5_copy_31 : decode cX5_copy 31 = .ok (.aload_n 0, 1) := by decide +kernel
theorem dX5_copy_32 : decode cX5_copy 32 = .ok (.getfield 34, 3) := by decide +kernel
theorem dX5_copy_35 : decode cX5_copy 35 = .ok (.iload_n 3, 1) := by decide +kernel
theorem dX5_copy_36 : decode cX5_copy 36 = .ok (.iaload, 1) := by decide +kernel
theorem dX5_copy_37 : decode cX5_copy 37 = .ok (.iconst (-1), 1) := by decide +kernel
theorem dX5_copy_38 : decode cX5_copy 38 = .ok (.if_icmp .ne 6, 3) := by decide +kernel
theorem dX5_copy_41 : decode cX5_copy 41 = .ok (.bipush (-11), 2) := by decide +kernel
theorem dX5_copy_43 : decode cX5_copy 43 = .ok (.ireturn, 1) := by decide +kernel
theorem dX5_copy_44 : decode cX5_copy 44 = .ok (.aload_n 0, 1) := by decide +kernel
theorem dX5_copy_45 : decode cX5_copy 45 = .ok (.getfield 34, 3) := by decide +kernel
theorem dX5_copy_48 : decode cX5_copy 48 = .ok (.iload_n 1, 1) := by decide +kernel
theorem dX5_copy_49 : decode cX5_copy 49 = .ok (.iaload, 1) := by decide +kernel
theorem dX5_copy_50 : decode cX5_copy 50 = .ok (.aload_n 0, 1) := by decide +kernel
theorem dX5_copy_51 : decode cX5_copy 51 = .ok (.getfield 34, 3) := by decide +kernel
theorem dX5_copy_54 : decode cX5_copy 54 = .ok (.iload_n 3, 1) := by decide +kernel
theorem dX5_copy_55 : decode cX5_copy 55 = .ok (.iaload, 1) := by decide +kernel
theorem dX5_copy_56 : decode cX5_copy 56 = .ok (.if_icmp .eq 6, 3) := by decide +kernel
theorem dX5_copy_59 : decode cX5_copy 59 = .ok (.bipush (-13), 2) := by decide +kernel
theorem dX5_copy_61 : decode cX5_copy 61 = .ok (.ireturn, 1) := by decide +kernel
theorem dX5_copy_62 : decode cX5_copy 62 = .ok (.iload 5, 2) := by decide +kernel
theorem dX5_copy_64 : decode cX5_copy 64 = .ok (.ifCond .lt 60, 3) := by decide +kernel
theorem dX5_copy_67 : decode cX5_copy 67 = .ok (.iload_n 2, 1) := by decide +kernel
theorem dX5_copy_68 : decode cX5_copy 68 = .ok (.ifCond .lt 56, 3) := by decide +kernel
theorem dX5_copy_71 : decode cX5_copy 71 = .ok (.iload 4, 2) := by decide +kernel
theorem dX5_copy_73 : decode cX5_copy 73 = .ok (.ifCond .lt 51, 3) := by decide +kernel
theorem dX5_copy_76 : decode cX5_copy 76 = .ok (.iload_n 2, 1) := by decide +kernel
theorem dX5_copy_77 : decode cX5_copy 77 = .ok (.aload_n 0, 1) := by decide +kernel
theorem dX5_copy_78 : decode cX5_copy 78 = .ok (.getfield 37, 3) := by decide +kernel
theorem dX5_copy_81 : decode cX5_copy 81 = .ok (.iload_n 1, 1) := by decide +kernel
theorem dX5_copy_82 : decode cX5_copy 82 = .ok (.iaload, 1) := by decide +kernel
theorem dX5_copy_83 : decode cX5_copy 83 = .ok (.if_icmp .gt 41, 3) := by decide +kernel
theorem dX5_copy_86 : decode cX5_copy 86 = .ok (.iload 4, 2) := by decide +kernel
theorem dX5_copy_88 : decode cX5_copy 88 = .ok (.aload_n 0, 1) := by decide +kernel
theorem dX5_copy_89 : decode cX5_copy 89 = .ok (.getfield 37, 3) := by decide +kernel
theorem dX5_copy_92 : decode cX5_copy 92 = .ok (.iload_n 3, 1) := by decide +kernel
theorem dX5_copy_93 : decode cX5_copy 93 = .ok (.iaload, 1) := by decide +kernel
theorem dX5_copy_94 : decode cX5_copy 94 = .ok (.if_icmp .gt 30, 3) := by decide +kernel
theorem dX5_copy_97 : decode cX5_copy 97 = .ok (.iload 5, 2) := by decide +kernel
theorem dX5_copy_99 : decode cX5_copy 99 = .ok (.aload_n 0, 1) := by decide +kernel
theorem dX5_copy_100 : decode cX5_copy 100 = .ok (.getfield 37, 3) := by decide +kernel
theorem dX5_copy_103 : decode cX5_copy 103 = .ok (.iload_n 1, 1) := by decide +kernel
theorem dX5_copy_104 : decode cX5_copy 104 = .ok (.iaload, 1) := by decide +kernel
theorem dX5_copy_105 : decode cX5_copy 105 = .ok (.iload_n 2, 1) := by decide +kernel
theorem dX5_copy_106 : decode cX5_copy 106 = .ok (.isub, 1) := by decide +kernel
theorem dX5_copy_107 : decode cX5_copy 107 = .ok (.if_icmp .gt 17, 3) := by decide +kernel
theorem dX5_copy_110 : decode cX5_copy 110 = .ok (.iload 5, 2) := by decide +kernel
theorem dX5_copy_112 : decode cX5_copy 112 = .ok (.aload_n 0, 1) := by decide +kernel
theorem dX5_copy_113 : decode cX5_copy 113 = .ok (.getfield 37, 3) := by decide +kernel
theorem dX5_copy_116 : decode cX5_copy 116 = .ok (.iload_n 3, 1) := by decide +kernel
theorem dX5_copy_117 : decode cX5_copy 117 = .ok (.iaload, 1) := by decide +kernel
theorem dX5_copy_118 : decode cX5_copy 118 = .ok (.iload 4, 2) := by decide +kernel
theorem dX5_copy_120 : decode cX5_copy 120 = .ok (.isub, 1) := by decide +kernel
theorem dX5_copy_121 : decode cX5_copy 121 = .ok (.if_icmp .le 6, 3) := by decide +kernel
theorem dX5_copy_124 : decode cX5_copy 124 = .ok (.bipush (-12), 2) := by decide +kernel
theorem dX5_copy_126 : decode cX5_copy 126 = .ok (.ireturn, 1) := by decide +kernel
theorem dX5_copy_127 : decode cX5_copy 127 = .ok (.bipush 40, 2) := by decide +kernel
theorem dX5_copy_129 : decode cX5_copy 129 = .ok (.iload_n 1, 1) := by decide +kernel
theorem dX5_copy_130 : decode cX5_copy 130 = .ok (.imul, 1) := by decide +kernel
theorem dX5_copy_131 : decode cX5_copy 131 = .ok (.iload_n 2, 1) := by decide +kernel
theorem dX5_copy_132 : decode cX5_copy 132 = .ok (.iadd, 1) := by decide +kernel
theorem dX5_copy_133 : decode cX5_copy 133 = .ok (.istore 6, 2) := by decide +kernel
theorem dX5_copy_135 : decode cX5_copy 135 = .ok (.bipush 40, 2) := by decide +kernel
theorem dX5_copy_137 : decode cX5_copy 137 = .ok (.iload_n 3, 1) := by decide +kernel
theorem dX5_copy_138 : decode cX5_copy 138 = .ok (.imul, 1) := by decide +kernel
theorem dX5_copy_139 : decode cX5_copy 139 = .ok (.iload 4, 2) := by decide +kernel
theorem dX5_copy_141 : decode cX5_copy 141 = .ok (.iadd, 1) := by decide +kernel
theorem dX5_copy_142 : decode cX5_copy 142 = .ok (.istore 7, 2) := by decide +kernel
theorem dX5_copy_144 : decode cX5_copy 144 = .ok (.iconst 0, 1) := by decide +kernel
theorem dX5_copy_145 : decode cX5_copy 145 = .ok (.istore 8, 2) := by decide +kernel
theorem dX5_copy_147 : decode cX5_copy 147 = .ok (.iload 8, 2) := by decide +kernel
theorem dX5_copy_149 : decode cX5_copy 149 = .ok (.iload 5, 2) := by decide +kernel
theorem dX5_copy_151 : decode cX5_copy 151 = .ok (.if_icmp .ge 50, 3) := by decide +kernel
theorem dX5_copy_154 : decode cX5_copy 154 = .ok (.iload 6, 2) := by decide +kernel
theorem dX5_copy_156 : decode cX5_copy 156 = .ok (.iload 7, 2) := by decide +kernel
theorem dX5_copy_158 : decode cX5_copy 158 = .ok (.if_icmp .ge 13, 3) := by decide +kernel
theorem dX5_copy_161 : decode cX5_copy 161 = .ok (.iload 5, 2) := by decide +kernel
theorem dX5_copy_163 : decode cX5_copy 163 = .ok (.iconst 1, 1) := by decide +kernel
theorem dX5_copy_164 : decode cX5_copy 164 = .ok (.isub, 1) := by decide +kernel
theorem dX5_copy_165 : decode cX5_copy 165 = .ok (.iload 8, 2) := by decide +kernel
theorem dX5_copy_167 : decode cX5_copy 167 = .ok (.isub, 1) := by decide +kernel
theorem dX5_copy_168 : decode cX5_copy 168 = .ok (.goto 5, 3) := by decide +kernel
theorem dX5_copy_171 : decode cX5_copy 171 = .ok (.iload 8, 2) := by decide +kernel
theorem dX5_copy_173 : decode cX5_copy 173 = .ok (.istore 9, 2) := by decide +kernel
theorem dX5_copy_175 : decode cX5_copy 175 = .ok (.aload_n 0, 1) := by decide +kernel
theorem dX5_copy_176 : decode cX5_copy 176 = .ok (.getfield 40, 3) := by decide +kernel
theorem dX5_copy_179 : decode cX5_copy 179 = .ok (.iload 7, 2) := by decide +kernel
theorem dX5_copy_181 : decode cX5_copy 181 = .ok (.iload 9, 2) := by decide +kernel
theorem dX5_copy_183 : decode cX5_copy 183 = .ok (.iadd, 1) := by decide +kernel
theorem dX5_copy_184 : decode cX5_copy 184 = .ok (.aload_n 0, 1) := by decide +kernel
theorem dX5_copy_185 : decode cX5_copy 185 = .ok (.getfield 40, 3) := by decide +kernel
theorem dX5_copy_188 : decode cX5_copy 188 = .ok (.iload 6, 2) := by decide +kernel
theorem dX5_copy_190 : decode cX5_copy 190 = .ok (.iload 9, 2) := by decide +kernel
theorem dX5_copy_192 : decode cX5_copy 192 = .ok (.iadd, 1) := by decide +kernel
theorem dX5_copy_193 : decode cX5_copy 193 = .ok (.iaload, 1) := by decide +kernel
theorem dX5_copy_194 : decode cX5_copy 194 = .ok (.iastore, 1) := by decide +kernel
theorem dX5_copy_195 : decode cX5_copy 195 = .ok (.iinc 8 1, 3) := by decide +kernel
theorem dX5_copy_198 : decode cX5_copy 198 = .ok (.goto (-51), 3) := by decide +kernel
theorem dX5_copy_201 : decode cX5_copy 201 = .ok (.iload 5, 2) := by decide +kernel
theorem dX5_copy_203 : decode cX5_copy 203 = .ok (.ireturn, 1) := by decide +kernel
theorem dX5_setBy_0 : decode cX5_setBy 0 = .ok (.iload_n 1, 1) := by decide +kernel
theorem dX5_setBy_1 : decode cX5_setBy 1 = .ok (.iconst 0, 1) := by decide +kernel
theorem dX5_setBy_2 : decode cX5_setBy 2 = .ok (.iconst 3, 1) := by decide +kernel
theorem dX5_setBy_3 : decode cX5_setBy 3 = .ok (.invokestatic 78, 3) := by decide +kernel
theorem dX5_setBy_6 : decode cX5_setBy 6 = .ok (.ifCond .eq 23, 3) := by decide +kernel
theorem dX5_setBy_9 : decode cX5_setBy 9 = .ok (.iload_n 2, 1) := by decide +kernel
theorem dX5_setBy_10 : decode cX5_setBy 10 = .ok (.iconst 0, 1) := by decide +kernel
theorem dX5_setBy_11 : decode cX5_setBy 11 = .ok (.iconst 2, 1) := by decide +kernel
theorem dX5_setBy_12 : decode cX5_setBy 12 = .ok (.invokestatic 78, 3) := by decide +kernel
theorem dX5_setBy_15 : decode cX5_setBy 15 = .ok (.ifCond .eq 14, 3) := by decide +kernel
theorem dX5_setBy_18 : decode cX5_setBy 18 = .ok (.iload 4, 2) := by decide +kernel
theorem dX5_setBy_20 : decode cX5_setBy 20 = .ok (.iconst 0, 1) := by decide +kernel
theorem dX5_setBy_21 : decode cX5_setBy 21 = .ok (.bipush 6, 2) := by decide +kernel
theorem dX5_setBy_23 : decode cX5_setBy 23 = .ok (.invokestatic 78, 3) := by decide +kernel
theorem dX5_setBy_26 : decode cX5_setBy 26 = .ok (.ifCond .ne 6, 3) := by decide +kernel
theorem dX5_setBy_29 : decode cX5_setBy 29 = .ok (.bipush (-2), 2) := by decide +kernel
theorem dX5_setBy_31 : decode cX5_setBy 31 = .ok (.ireturn, 1) := by decide +kernel
theorem dX5_setBy_32 : decode cX5_setBy 32 = .ok (.aload_n 0, 1) := by decide +kernel
theorem dX5_setBy_33 : decode cX5_setBy 33 = .ok (.getfield 34, 3) := by decide +kernel
theorem dX5_setBy_36 : decode cX5_setBy 36 = .ok (.iload_n 1, 1) := by decide +kernel
theorem dX5_setBy_37 : decode cX5_setBy 37 = .ok (.iaload, 1) := by decide +kernel
theorem dX5_setBy_38 : decode cX5_setBy 38 = .ok (.iconst (-1), 1) := by decide +kernel
theorem dX5_setBy_39 : decode cX5_setBy 39 = .ok (.if_icmp .ne 6, 3) := by decide +kernel
theorem dX5_setBy_42 : decode cX5_setBy 42 = .ok (.bipush (-11), 2) := by decide +kernel
theorem dX5_setBy_44 : decode cX5_setBy 44 = .ok (.ireturn, 1) := by decide +kernel
theorem dX5_setBy_45 : decode cX5_setBy 45 = .ok (.aload_n 0, 1) := by decide +kernel
theorem dX5_setBy_46 : decode cX5_setBy 46 = .ok (.getfield 34, 3) := by decide +kernel
theorem dX5_setBy_49 : decode cX5_setBy 49 = .ok (.iload_n 1, 1) := by decide +kernel
theorem dX5_setBy_50 : decode cX5_setBy 50 = .ok (.iaload, 1) := by decide +kernel
theorem dX5_setBy_51 : decode cX5_setBy 51 = .ok (.iload_n 2, 1) := by decide +kernel
theorem dX5_setBy_52 : decode cX5_setBy 52 = .ok (.if_icmp .eq 6, 3) := by decide +kernel
theorem dX5_setBy_55 : decode cX5_setBy 55 = .ok (.bipush (-13), 2) := by decide +kernel
theorem dX5_setBy_57 : decode cX5_setBy 57 = .ok (.ireturn, 1) := by decide +kernel
theorem dX5_setBy_58 : decode cX5_setBy 58 = .ok (.iconst 0, 1) := by decide +kernel
theorem dX5_setBy_59 : decode cX5_setBy 59 = .ok (.istore 5, 2) := by decide +kernel
theorem dX5_setBy_61 : decode cX5_setBy 61 = .ok (.iconst 0, 1) := by decide +kernel
theorem dX5_setBy_62 : decode cX5_setBy 62 = .ok (.istore 6, 2) := by decide +kernel
theorem dX5_setBy_64 : decode cX5_setBy 64 = .ok (.iload 6, 2) := by decide +kernel
theorem dX5_setBy_66 : decode cX5_setBy 66 = .ok (.iload 4, 2) := by decide +kernel
theorem dX5_setBy_68 : decode cX5_setBy 68 = .ok (.if_icmp .ge 85, 3) := by decide +kernel
theorem dX5_setBy_71 : decode cX5_setBy 71 = .ok (.iload_n 3, 1) := by decide +kernel
theorem dX5_setBy_72 : decode cX5_setBy 72 = .ok (.iconst 2, 1) := by decide +kernel
theorem dX5_setBy_73 : decode cX5_setBy 73 = .ok (.iload 6, 2) := by decide +kernel
theorem dX5_setBy_75 : decode cX5_setBy 75 = .ok (.imul, 1) := by decide +kernel
theorem dX5_setBy_76 : decode cX5_setBy 76 = .ok (.iadd, 1) := by decide +kernel
theorem dX5_setBy_77 : decode cX5_setBy 77 = .ok (.istore 7, 2) := by decide +kernel
theorem dX5_setBy_79 : decode cX5_setBy 79 = .ok (.iload_n 3, 1) := by decide +kernel
theorem dX5_setBy_80 : decode cX5_setBy 80 = .ok (.ifCond .lt 22, 3) := by decide +kernel
theorem dX5_setBy_83 : decode cX5_setBy 83 = .ok (.iload 7, 2) := by decide +kernel
theorem dX5_setBy_85 : decode cX5_setBy 85 = .ok (.iload_n 3, 1) := by decide +kernel
theorem dX5_setBy_86 : decode cX5_setBy 86 = .ok (.if_icmp .lt 16, 3) := by decide +kernel
theorem dX5_setBy_89 : decode cX5_setBy 89 = .ok (.iload 7, 2) := by decide +kernel
theorem dX5_setBy_91 : decode cX5_setBy 91 = .ok (.aload_n 0, 1) := by decide +kernel
theorem dX5_setBy_92 : decode cX5_setBy 92 = .ok (.getfield 37, 3) := by decide +kernel
theorem dX5_setBy_95 : decode cX5_setBy 95 = .ok (.iload_n 1, 1) := by decide +kernel
theorem dX5_setBy_96 : decode cX5_setBy 96 = .ok (.iaload, 1) := by decide +kernel
theorem dX5_setBy_97 : decode cX5_setBy 97 = .ok (.iconst 2, 1) := by decide +kernel
theorem dX5_setBy_98 : decode cX5_setBy 98 = .ok (.isub, 1) := by decide +kernel
theorem dX5_setBy_99 : decode cX5_setBy 99 = .ok (.if_icmp .le 6, 3) := by decide +kernel
theorem dX5_setBy_102 : decode cX5_setBy 102 = .ok (.bipush (-12), 2) := by decide +kernel
theorem dX5_setBy_104 : decode cX5_setBy 104 = .ok (.ireturn, 1) := by decide +kernel
theorem dX5_setBy_105 : decode cX5_setBy 105 = .ok (.bipush 40, 2) := by decide +kernel
theorem dX5_setBy_107 : decode cX5_setBy 107 = .ok (.iload_n 1, 1) := by decide +kernel
theorem dX5_setBy_108 : decode cX5_setBy 108 = .ok (.imul, 1) := by decide +kernel
theorem dX5_setBy_109 : decode cX5_setBy 109 = .ok (.iload 7, 2) := by decide +kernel
theorem dX5_setBy_111 : decode cX5_setBy 111 = .ok (.iadd, 1) := by decide +kernel
theorem dX5_setBy_112 : decode cX5_setBy 112 = .ok (.istore 8, 2) := by decide +kernel
theorem dX5_setBy_114 : decode cX5_setBy 114 = .ok (.iload 5, 2) := by decide +kernel
theorem dX5_setBy_116 : decode cX5_setBy 116 = .ok (.aload_n 0, 1) := by decide +kernel
theorem dX5_setBy_117 : decode cX5_setBy 117 = .ok (.aload_n 0, 1) := by decide +kernel
theorem dX5_setBy_118 : decode cX5_setBy 118 = .ok (.getfield 40, 3) := by decide +kernel
theorem dX5_setBy_121 : decode cX5_setBy 121 = .ok (.iload 8, 2) := by decide +kernel
theorem dX5_setBy_123 : decode cX5_setBy 123 = .ok (.iaload, 1) := by decide +kernel
theorem dX5_setBy_124 : decode cX5_setBy 124 = .ok (.aload_n 0, 1) := by decide +kernel
theorem dX5_setBy_125 : decode cX5_setBy 125 = .ok (.getfield 40, 3) := by decide +kernel
theorem dX5_setBy_128 : decode cX5_setBy 128 = .ok (.iload 8, 2) := by decide +kernel
theorem dX5_setBy_130 : decode cX5_setBy 130 = .ok (.iconst 1, 1) := by decide +kernel
theorem dX5_setBy_131 : decode cX5_setBy 131 = .ok (.iadd, 1) := by decide +kernel
theorem dX5_setBy_132 : decode cX5_setBy 132 = .ok (.iaload, 1) := by decide +kernel
theorem dX5_setBy_133 : decode cX5_setBy 133 = .ok (.invokevirtual 278, 3) := by decide +kernel
theorem dX5_setBy_136 : decode cX5_setBy 136 = .ok (.ifCond .lt 7, 3) := by decide +kernel
theorem dX5_setBy_139 : decode cX5_setBy 139 = .ok (.iconst 1, 1) := by decide +kernel
theorem dX5_setBy_140 : decode cX5_setBy 140 = .ok (.goto 4, 3) := by decide +kernel
theorem dX5_setBy_143 : decode cX5_setBy 143 = .ok (.iconst 0, 1) := by decide +kernel
theorem dX5_setBy_144 : decode cX5_setBy 144 = .ok (.iadd, 1) := by decide +kernel
theorem dX5_setBy_145 : decode cX5_setBy 145 = .ok (.istore 5, 2) := by decide +kernel
theorem dX5_setBy_147 : decode cX5_setBy 147 = .ok (.iinc 6 1, 3) := by decide +kernel
theorem dX5_setBy_150 : decode cX5_setBy 150 = .ok (.goto (-86), 3) := by decide +kernel
theorem dX5_setBy_153 : decode cX5_setBy 153 = .ok (.iload 5, 2) := by decide +kernel
theorem dX5_setBy_155 : decode cX5_setBy 155 = .ok (.ireturn, 1) := by decide +kernel
theorem dX5_isUnder_0 : decode cX5_isUnder 0 = .ok (.iload_n 1, 1) := by decide +kernel
theorem dX5_isUnder_1 : decode cX5_isUnder 1 = .ok (.ifCond .eq 28, 3) := by decide +kernel
theorem dX5_isUnder_4 : decode cX5_isUnder 4 = .ok (.iload_n 0, 1) := by decide +kernel
theorem dX5_isUnder_5 : decode cX5_isUnder 5 = .ok (.iload_n 1, 1) := by decide +kernel
theorem dX5_isUnder_6 : decode cX5_isUnder 6 = .ok (.if_icmp .eq 23, 3) := by decide +kernel
theorem dX5_isUnder_9 : decode cX5_isUnder 9 = .ok (.iload_n 1, 1) := by decide +kernel
theorem dX5_isUnder_10 : decode cX5_isUnder 10 = .ok (.iconst 1, 1) := by decide +kernel
theorem dX5_isUnder_11 : decode cX5_isUnder 11 = .ok (.if_icmp .ne 8, 3) := by decide +kernel
theorem dX5_isUnder_14 : decode cX5_isUnder 14 = .ok (.iload_n 0, 1) := by decide +kernel
theorem dX5_isUnder_15 : decode cX5_isUnder 15 = .ok (.iconst 3, 1) := by decide +kernel
theorem dX5_isUnder_16 : decode cX5_isUnder 16 = .ok (.if_icmp .eq 13, 3) := by decide +kernel
theorem dX5_isUnder_19 : decode cX5_isUnder 19 = .ok (.iload_n 1, 1) := by decide +kernel
theorem dX5_isUnder_20 : decode cX5_isUnder 20 = .ok (.iconst 2, 1) := by decide +kernel
theorem dX5_isUnder_21 : decode cX5_isUnder 21 = .ok (.if_icmp .ne 12, 3) := by decide +kernel
theorem dX5_isUnder_24 : decode cX5_isUnder 24 = .ok (.iload_n 0, 1) := by decide +kernel
theorem dX5_isUnder_25 : decode cX5_isUnder 25 = .ok (.iconst 4, 1) := by decide +kernel
theorem dX5_isUnder_26 : decode cX5_isUnder 26 = .ok (.if_icmp .ne 7, 3) := by decide +kernel
theorem dX5_isUnder_29 : decode cX5_isUnder 29 = .ok (.iconst 1, 1) := by decide +kernel
theorem dX5_isUnder_30 : decode cX5_isUnder 30 = .ok (.goto 4, 3) := by decide +kernel
theorem dX5_isUnder_33 : decode cX5_isUnder 33 = .ok (.iconst 0, 1) := by decide +kernel
theorem dX5_isUnder_34 : decode cX5_isUnder 34 = .ok (.ireturn, 1) := by decide +kernel
theorem dX5_taken_0 : decode cX5_taken 0 = .ok (.iload_n 2, 1) := by decide +kernel
theorem dX5_taken_1 : decode cX5_taken 1 = .ok (.iconst 0, 1) := by decide +kernel
theorem dX5_taken_2 : decode cX5_taken 2 = .ok (.bipush 6, 2) := by decide +kernel
theorem dX5_taken_4 : decode cX5_taken 4 = .ok (.invokestatic 78, 3) := by decide +kernel
theorem dX5_taken_7 : decode cX5_taken 7 = .ok (.ifCond .ne 6, 3) := by decide +kernel
theorem dX5_taken_10 : decode cX5_taken 10 = .ok (.bipush (-2), 2) := by decide +kernel
theorem dX5_taken_12 : decode cX5_taken 12 = .ok (.ireturn, 1) := by decide +kernel
theorem dX5_taken_13 : decode cX5_taken 13 = .ok (.iload_n 1, 1) := by decide +kernel
theorem dX5_taken_14 : decode cX5_taken 14 = .ok (.iconst 0, 1) := by decide +kernel
theorem dX5_taken_15 : decode cX5_taken 15 = .ok (.bipush 11, 2) := by decide +kernel
theorem dX5_taken_17 : decode cX5_taken 17 = .ok (.invokestatic 78, 3) := by decide +kernel
theorem dX5_taken_20 : decode cX5_taken 20 = .ok (.ifCond .ne 6, 3) := by decide +kernel
theorem dX5_taken_23 : decode cX5_taken 23 = .ok (.bipush (-12), 2) := by decide +kernel
theorem dX5_taken_25 : decode cX5_taken 25 = .ok (.ireturn, 1) := by decide +kernel
theorem dX5_taken_26 : decode cX5_taken 26 = .ok (.iload_n 1, 1) := by decide +kernel
theorem dX5_taken_27 : decode cX5_taken 27 = .ok (.bipush 6, 2) := by decide +kernel
theorem dX5_taken_29 : decode cX5_taken 29 = .ok (.irem, 1) := by decide +kernel
theorem dX5_taken_30 : decode cX5_taken 30 = .ok (.aload_n 0, 1) := by decide +kernel
theorem dX5_taken_31 : decode cX5_taken 31 = .ok (.getfield 75, 3) := by decide +kernel
theorem dX5_taken_34 : decode cX5_taken 34 = .ok (.if_icmp .lt 6, 3) := by decide +kernel
theorem dX5_taken_37 : decode cX5_taken 37 = .ok (.bipush (-11), 2) := by decide +kernel
theorem dX5_taken_39 : decode cX5_taken 39 = .ok (.ireturn, 1) := by decide +kernel
theorem dX5_taken_40 : decode cX5_taken 40 = .ok (.iload_n 1, 1) := by decide +kernel
theorem dX5_taken_41 : decode cX5_taken 41 = .ok (.bipush 6, 2) := by decide +kernel
theorem dX5_taken_43 : decode cX5_taken 43 = .ok (.if_icmp .lt 30, 3) := by decide +kernel
theorem dX5_taken_46 : decode cX5_taken 46 = .ok (.iload_n 2, 1) := by decide +kernel
theorem dX5_taken_47 : decode cX5_taken 47 = .ok (.bipush 6, 2) := by decide +kernel
theorem dX5_taken_49 : decode cX5_taken 49 = .ok (.if_icmp .ne 21, 3) := by decide +kernel
theorem dX5_taken_52 : decode cX5_taken 52 = .ok (.aload_n 0, 1) := by decide +kernel
theorem dX5_taken_53 : decode cX5_taken 53 = .ok (.getfield 16, 3) := by decide +kernel
theorem dX5_taken_56 : decode cX5_taken 56 = .ok (.bipush 12, 2) := by decide +kernel
theorem dX5_taken_58 : decode cX5_taken 58 = .ok (.iload_n 1, 1) := by decide +kernel
theorem dX5_taken_59 : decode cX5_taken 59 = .ok (.bipush 6, 2) := by decide +kernel
theorem dX5_taken_61 : decode cX5_taken 61 = .ok (.isub, 1) := by decide +kernel
theorem dX5_taken_62 : decode cX5_taken 62 = .ok (.imul, 1) := by decide +kernel
theorem dX5_taken_63 : decode cX5_taken 63 = .ok (.bipush 8, 2) := by decide +kernel
theorem dX5_taken_65 : decode cX5_taken 65 = .ok (.iadd, 1) := by decide +kernel
theorem dX5_taken_66 : decode cX5_taken 66 = .ok (.iaload, 1) := by decide +kernel
theorem dX5_taken_67 : decode cX5_taken 67 = .ok (.goto 5, 3) := by decide +kernel
theorem dX5_taken_70 : decode cX5_taken 70 = .ok (.bipush (-13), 2) := by decide +kernel
theorem dX5_taken_72 : decode cX5_taken 72 = .ok (.ireturn, 1) := by decide +kernel
theorem dX5_taken_73 : decode cX5_taken 73 = .ok (.iload_n 2, 1) := by decide +kernel
theorem dX5_taken_74 : decode cX5_taken 74 = .ok (.bipush 6, 2) := by decide +kernel
theorem dX5_taken_76 : decode cX5_taken 76 = .ok (.if_icmp .ge 20, 3) := by decide +kernel
theorem dX5_taken_79 : decode cX5_taken 79 = .ok (.aload_n 0, 1) := by decide +kernel
theorem dX5_taken_80 : decode cX5_taken 80 = .ok (.getfield 7, 3) := by decide +kernel
theorem dX5_taken_83 : decode cX5_taken 83 = .ok (.iload_n 1, 1) := by decide +kernel
theorem dX5_taken_84 : decode cX5_taken 84 = .ok (.iaload, 1) := by decide +kernel
theorem dX5_taken_85 : decode cX5_taken 85 = .ok (.iload_n 2, 1) := by decide +kernel
theorem dX5_taken_86 : decode cX5_taken 86 = .ok (.invokestatic 281, 3) := by decide +kernel
theorem dX5_taken_89 : decode cX5_taken 89 = .ok (.ifCond .eq 7, 3) := by decide +kernel
theorem dX5_taken_92 : decode cX5_taken 92 = .ok (.iload_n 1, 1) := by decide +kernel
theorem dX5_taken_93 : decode cX5_taken 93 = .ok (.goto 5, 3) := by decide +kernel
theorem dX5_taken_96 : decode cX5_taken 96 = .ok (.bipush (-13), 2) := by decide +kernel
theorem dX5_taken_98 : decode cX5_taken 98 = .ok (.ireturn, 1) := by decide +kernel
end
section
theorem dX0_init_0 : decode cX0_init 0 = .ok (.aload_n 0, 1) := by decide +kernel
theorem dX0_init_1 : decode cX0_init 1 = .ok (.invokespecial 3, 3) := by decide +kernel
theorem dX0_init_4 : decode cX0_init 4 = .ok (.aload_n 0, 1) := by decide +kernel
theorem dX0_init_5 : decode cX0_init 5 = .ok (.bipush 6, 2) := by decide +kernel
theorem dX0_init_7 : decode cX0_init 7 = .ok (.newarray .int, 2) := by decide +kernel
theorem dX0_init_9 : decode cX0_init 9 = .ok (.putfield 9, 3) := by decide +kernel
theorem dX0_init_12 : decode cX0_init 12 = .ok (.aload_n 0, 1) := by decide +kernel
theorem dX0_init_13 : decode cX0_init 13 = .ok (.bipush 6, 2) := by decide +kernel
theorem dX0_init_15 : decode cX0_init 15 = .ok (.newarray .int, 2) := by decide +kernel
theorem dX0_init_17 : decode cX0_init 17 = .ok (.putfield 15, 3) := by decide +kernel
theorem dX0_init_20 : decode cX0_init 20 = .ok (.aload_n 0, 1) := by decide +kernel
theorem dX0_init_21 : decode cX0_init 21 = .ok (.bipush 6, 2) := by decide +kernel
theorem dX0_init_23 : decode cX0_init 23 = .ok (.newarray .int, 2) := by decide +kernel
theorem dX0_init_25 : decode cX0_init 25 = .ok (.putfield 18, 3) := by decide +kernel
theorem dX0_init_28 : decode cX0_init 28 = .ok (.aload_n 0, 1) := by decide +kernel
theorem dX0_init_29 : decode cX0_init 29 = .ok (.bipush 6, 2) := by decide +kernel
theorem dX0_init_31 : decode cX0_init 31 = .ok (.newarray .int, 2) := by decide +kernel
theorem dX0_init_33 : decode cX0_init 33 = .ok (.putfield 21, 3) := by decide +kernel
theorem dX0_init_36 : decode cX0_init 36 = .ok (.aload_n 0, 1) := by decide +kernel
theorem dX0_init_37 : decode cX0_init 37 = .ok (.bipush 6, 2) := by decide +kernel
theorem dX0_init_39 : decode cX0_init 39 = .ok (.newarray .int, 2) := by decide +kernel
theorem dX0_init_41 : decode cX0_init 41 = .ok (.putfield 24, 3) := by decide +kernel
theorem dX0_init_44 : decode cX0_init 44 = .ok (.aload_n 0, 1) := by decide +kernel
theorem dX0_init_45 : decode cX0_init 45 = .ok (.bipush 6, 2) := by decide +kernel
theorem dX0_init_47 : decode cX0_init 47 = .ok (.newarray .int, 2) := by decide +kernel
theorem dX0_init_49 : decode cX0_init 49 = .ok (.putfield 27, 3) := by decide +kernel
theorem dX0_init_52 : decode cX0_init 52 = .ok (.aload_n 0, 1) := by decide +kernel
theorem dX0_init_53 : decode cX0_init 53 = .ok (.bipush 48, 2) := by decide +kernel
theorem dX0_init_55 : decode cX0_init 55 = .ok (.newarray .int, 2) := by decide +kernel
theorem dX0_init_57 : decode cX0_init 57 = .ok (.putfield 30, 3) := by decide +kernel
theorem dX0_init_60 : decode cX0_init 60 = .ok (.aload_n 0, 1) := by decide +kernel
theorem dX0_init_61 : decode cX0_init 61 = .ok (.aload_n 1, 1) := by decide +kernel
theorem dX0_init_62 : decode cX0_init 62 = .ok (.putfield 33, 3) := by decide +kernel
theorem dX0_init_65 : decode cX0_init 65 = .ok (.aload_n 0, 1) := by decide +kernel
theorem dX0_init_66 : decode cX0_init 66 = .ok (.aload_n 2, 1) := by decide +kernel
theorem dX0_init_67 : decode cX0_init 67 = .ok (.putfield 37, 3) := by decide +kernel
theorem dX0_init_70 : decode cX0_init 70 = .ok (.return_, 1) := by decide +kernel
theorem dX0_becomes_0 : decode cX0_becomes 0 = .ok (.aload_n 1, 1) := by decide +kernel
theorem dX0_becomes_1 : decode cX0_becomes 1 = .ok (.getfield 9, 3) := by decide +kernel
theorem dX0_becomes_4 : decode cX0_becomes 4 = .ok (.iconst 0, 1) := by decide +kernel
theorem dX0_becomes_5 : decode cX0_becomes 5 = .ok (.aload_n 0, 1) := by decide +kernel
theorem dX0_becomes_6 : decode cX0_becomes 6 = .ok (.getfield 9, 3) := by decide +kernel
theorem dX0_becomes_9 : decode cX0_becomes 9 = .ok (.iconst 0, 1) := by decide +kernel
theorem dX0_becomes_10 : decode cX0_becomes 10 = .ok (.bipush 6, 2) := by decide +kernel
theorem dX0_becomes_12 : decode cX0_becomes 12 = .ok (.invokestatic 40, 3) := by decide +kernel
theorem dX0_becomes_15 : decode cX0_becomes 15 = .ok (.aload_n 1, 1) := by decide +kernel
theorem dX0_becomes_16 : decode cX0_becomes 16 = .ok (.getfield 15, 3) := by decide +kernel
theorem dX0_becomes_19 : decode cX0_becomes 19 = .ok (.iconst 0, 1) := by decide +kernel
theorem dX0_becomes_20 : decode cX0_becomes 20 = .ok (.aload_n 0, 1) := by decide +kernel
theorem dX0_becomes_21 : decode cX0_becomes 21 = .ok (.getfield 15, 3) := by decide +kernel
theorem dX0_becomes_24 : decode cX0_becomes 24 = .ok (.iconst 0, 1) := by decide +kernel
theorem dX0_becomes_25 : decode cX0_becomes 25 = .ok (.bipush 6, 2) := by decide +kernel
theorem dX0_becomes_27 : decode cX0_becomes 27 = .ok (.invokestatic 40, 3) := by decide +kernel
theorem dX0_becomes_30 : decode cX0_becomes 30 = .ok (.aload_n 1, 1) := by decide +kernel
theorem dX0_becomes_31 : decode cX0_becomes 31 = .ok (.getfield 18, 3) := by decide +kernel
theorem dX0_becomes_34 : decode cX0_becomes 34 = .ok (.iconst 0, 1) := by decide +kernel
theorem dX0_becomes_35 : decode cX0_becomes 35 = .ok (.aload_n 0, 1) := by decide +kernel
theorem dX0_becomes_36 : decode cX0_becomes 36 = .ok (.getfield 18, 3) := by decide +kernel
theorem dX0_becomes_39 : decode cX0_becomes 39 = .ok (.iconst 0, 1) := by decide +kernel
theorem dX0_becomes_40 : decode cX0_becomes 40 = .ok (.bipush 6, 2) := by decide +kernel
theorem dX0_becomes_42 : decode cX0_becomes 42 = .ok (.invokestatic 40, 3) := by decide +kernel
theorem dX0_becomes_45 : decode cX0_becomes 45 = .ok (.aload_n 1, 1) := by decide +kernel
theorem dX0_becomes_46 : decode cX0_becomes 46 = .ok (.getfield 21, 3) := by decide +kernel
theorem dX0_becomes_49 : decode cX0_becomes 49 = .ok (.iconst 0, 1) := by decide +kernel
theorem dX0_becomes_50 : decode cX0_becomes 50 = .ok (.aload_n 0, 1) := by decide +kernel
theorem dX0_becomes_51 : decode cX0_becomes 51 = .ok (.getfield 21, 3) := by decide +kernel
theorem dX0_becomes_54 : decode cX0_becomes 54 = .ok (.iconst 0, 1) := by decide +kernel
theorem dX0_becomes_55 : decode cX0_becomes 55 = .ok (.bipush 6, 2) := by decide +kernel
theorem dX0_becomes_57 : decode cX0_becomes 57 = .ok (.invokestatic 40, 3) := by decide +kernel
theorem dX0_becomes_60 : decode cX0_becomes 60 = .ok (.aload_n 1, 1) := by decide +kernel
theorem dX0_becomes_61 : decode cX0_becomes 61 = .ok (.getfield 24, 3) := by decide +kernel
theorem dX0_becomes_64 : decode cX0_becomes 64 = .ok (.iconst 0, 1) := by decide +kernel
theorem dX0_becomes_65 : decode cX0_becomes 65 = .ok (.aload_n 0, 1) := by decide +kernel
theorem dX0_becomes_66 : decode cX0_becomes 66 = .ok (.getfield 24, 3) := by decide +kernel
theorem dX0_becomes_69 : decode cX0_becomes 69 = .ok (.iconst 0, 1) := by decide +kernel
theorem dX0_becomes_70 : decode cX0_becomes 70 = .ok (.bipush 6, 2) := by decide +kernel
theorem dX0_becomes_72 : decode cX0_becomes 72 = .ok (.invokestatic 40, 3) := by decide +kernel
theorem dX0_becomes_75 : decode cX0_becomes 75 = .ok (.aload_n 1, 1) := by decide +kernel
theorem dX0_becomes_76 : decode cX0_becomes 76 = .ok (.getfield 27, 3) := by decide +kernel
theorem dX0_becomes_79 : decode cX0_becomes 79 = .ok (.iconst 0, 1) := by decide +kernel
theorem dX0_becomes_80 : decode cX0_becomes 80 = .ok (.aload_n 0, 1) := by decide +kernel
theorem dX0_becomes_81 : decode cX0_becomes 81 = .ok (.getfield 27, 3) := by decide +kernel
theorem dX0_becomes_84 : decode cX0_becomes 84 = .ok (.iconst 0, 1) := by decide +kernel
theorem dX0_becomes_85 : decode cX0_becomes 85 = .ok (.bipush 6, 2) := by decide +kernel
theorem dX0_becomes_87 : decode cX0_becomes 87 = .ok (.invokestatic 40, 3) := by decide +kernel
theorem dX0_becomes_90 : decode cX0_becomes 90 = .ok (.aload_n 1, 1) := by decide +kernel
theorem dX0_becomes_91 : decode cX0_becomes 91 = .ok (.getfield 30, 3) := by decide +kernel
theorem dX0_becomes_94 : decode cX0_becomes 94 = .ok (.iconst 0, 1) := by decide +kernel
theorem dX0_becomes_95 : decode cX0_becomes 95 = .ok (.aload_n 0, 1) := by decide +kernel
theorem dX0_becomes_96 : decode cX0_becomes 96 = .ok (.getfield 30, 3) := by decide +kernel
theorem dX0_becomes_99 : decode cX0_becomes 99 = .ok (.iconst 0, 1) := by decide +kernel
theorem dX0_becomes_100 : decode cX0_becomes 100 = .ok (.bipush 48, 2) := by decide +kernel
theorem dX0_becomes_102 : decode cX0_becomes 102 = .ok (.invokestatic 40, 3) := by decide +kernel
theorem dX0_becomes_105 : decode cX0_becomes 105 = .ok (.aload_n 0, 1) := by decide +kernel
theorem dX0_becomes_106 : decode cX0_becomes 106 = .ok (.aload_n 1, 1) := by decide +kernel
theorem dX0_becomes_107 : decode cX0_becomes 107 = .ok (.getfield 46, 3) := by decide +kernel
theorem dX0_becomes_110 : decode cX0_becomes 110 = .ok (.putfield 46, 3) := by decide +kernel
theorem dX0_becomes_113 : decode cX0_becomes 113 = .ok (.aload_n 0, 1) := by decide +kernel
theorem dX0_becomes_114 : decode cX0_becomes 114 = .ok (.aload_n 1, 1) := by decide +kernel
theorem dX0_becomes_115 : decode cX0_becomes 115 = .ok (.getfield 50, 3) := by decide +kernel
theorem dX0_becomes_118 : decode cX0_becomes 118 = .ok (.putfield 50, 3) := by decide +kernel
theorem dX0_becomes_121 : decode cX0_becomes 121 = .ok (.aload_n 0, 1) := by decide +kernel
theorem dX0_becomes_122 : decode cX0_becomes 122 = .ok (.aload_n 1, 1) := by decide +kernel
theorem dX0_becomes_123 : decode cX0_becomes 123 = .ok (.getfield 53, 3) := by decide +kernel
theorem dX0_becomes_126 : decode cX0_becomes 126 = .ok (.putfield 53, 3) := by decide +kernel
theorem dX0_becomes_129 : decode cX0_becomes 129 = .ok (.return_, 1) := by decide +kernel
theorem dX0_has_0 : decode cX0_has 0 = .ok (.iload_n 1, 1) := by decide +kernel
theorem dX0_has_1 : decode cX0_has 1 = .ok (.ifCond .lt 15, 3) := by decide +kernel
theorem dX0_has_4 : decode cX0_has 4 = .ok (.iload_n 1, 1) := by decide +kernel
theorem dX0_has_5 : decode cX0_has 5 = .ok (.aload_n 0, 1) := by decide +kernel
theorem dX0_has_6 : decode cX0_has 6 = .ok (.getfield 46, 3) := by decide +kernel
theorem dX0_has_9 : decode cX0_has 9 = .ok (.if_icmp .ge 7, 3) := by decide +kernel
theorem dX0_has_12 : decode cX0_has 12 = .ok (.iconst 1, 1) := by decide +kernel
theorem dX0_has_13 : decode cX0_has 13 = .ok (.goto 4, 3) := by decide +kernel
theorem dX0_has_16 : decode cX0_has 16 = .ok (.iconst 0, 1) := by decide +kernel
theorem dX0_has_17 : decode cX0_has 17 = .ok (.ireturn, 1) := by decide +kernel
theorem dX0_admit_0 : decode cX0_admit 0 = .ok (.aload_n 0, 1) := by decide +kernel
theorem dX0_admit_1 : decode cX0_admit 1 = .ok (.getfield 46, 3) := by decide +kernel
theorem dX0_admit_4 : decode cX0_admit 4 = .ok (.bipush 6, 2) := by decide +kernel
theorem dX0_admit_6 : decode cX0_admit 6 = .ok (.if_icmp .lt 6, 3) := by decide +kernel
theorem dX0_admit_9 : decode cX0_admit 9 = .ok (.bipush (-4), 2) := by decide +kernel
theorem dX0_admit_11 : decode cX0_admit 11 = .ok (.ireturn, 1) := by decide +kernel
theorem dX0_admit_12 : decode cX0_admit 12 = .ok (.aload_n 0, 1) := by decide +kernel
theorem dX0_admit_13 : decode cX0_admit 13 = .ok (.getfield 46, 3) := by decide +kernel
theorem dX0_admit_16 : decode cX0_admit 16 = .ok (.istore 4, 2) := by decide +kernel
theorem dX0_admit_18 : decode cX0_admit 18 = .ok (.aload_n 0, 1) := by decide +kernel
theorem dX0_admit_19 : decode cX0_admit 19 = .ok (.dup, 1) := by decide +kernel
theorem dX0_admit_20 : decode cX0_admit 20 = .ok (.getfield 46, 3) := by decide +kernel
theorem dX0_admit_23 : decode cX0_admit 23 = .ok (.iconst 1, 1) := by decide +kernel
theorem dX0_admit_24 : decode cX0_admit 24 = .ok (.iadd, 1) := by decide +kernel
theorem dX0_admit_25 : decode cX0_admit 25 = .ok (.putfield 46, 3) := by decide +kernel
theorem dX0_admit_28 : decode cX0_admit 28 = .ok (.aload_n 0, 1) := by decide +kernel
theorem dX0_admit_29 : decode cX0_admit 29 = .ok (.getfield 9, 3) := by decide +kernel
theorem dX0_admit_32 : decode cX0_admit 32 = .ok (.iload 4, 2) := by decide +kernel
theorem dX0_admit_34 : decode cX0_admit 34 = .ok (.iload_n 1, 1) := by decide +kernel
theorem dX0_admit_35 : decode cX0_admit 35 = .ok (.iastore, 1) := by decide +kernel
theorem dX0_admit_36 : decode cX0_admit 36 = .ok (.aload_n 0, 1) := by decide +kernel
theorem dX0_admit_37 : decode cX0_admit 37 = .ok (.getfield 15, 3) := by decide +kernel
theorem dX0_admit_40 : decode cX0_admit 40 = .ok (.iload 4, 2) := by decide +kernel
theorem dX0_admit_42 : decode cX0_admit 42 = .ok (.iload_n 2, 1) := by decide +kernel
theorem dX0_admit_43 : decode cX0_admit 43 = .ok (.iastore, 1) := by decide +kernel
theorem dX0_admit_44 : decode cX0_admit 44 = .ok (.aload_n 0, 1) := by decide +kernel
theorem dX0_admit_45 : decode cX0_admit 45 = .ok (.getfield 18, 3) := by decide +kernel
theorem dX0_admit_48 : decode cX0_admit 48 = .ok (.iload 4, 2) := by decide +kernel
theorem dX0_admit_50 : decode cX0_admit 50 = .ok (.iconst 0, 1) := by decide +kernel
theorem dX0_admit_51 : decode cX0_admit 51 = .ok (.iastore, 1) := by decide +kernel
theorem dX0_admit_52 : decode cX0_admit 52 = .ok (.aload_n 0, 1) := by decide +kernel
theorem dX0_admit_53 : decode cX0_admit 53 = .ok (.getfield 21, 3) := by decide +kernel
theorem dX0_admit_56 : decode cX0_admit 56 = .ok (.iload 4, 2) := by decide +kernel
theorem dX0_admit_58 : decode cX0_admit 58 = .ok (.iconst 0, 1) := by decide +kernel
theorem dX0_admit_59 : decode cX0_admit 59 = .ok (.iastore, 1) := by decide +kernel
theorem dX0_admit_60 : decode cX0_admit 60 = .ok (.aload_n 0, 1) := by decide +kernel
theorem dX0_admit_61 : decode cX0_admit 61 = .ok (.getfield 24, 3) := by decide +kernel
theorem dX0_admit_64 : decode cX0_admit 64 = .ok (.iload 4, 2) := by decide +kernel
theorem dX0_admit_66 : decode cX0_admit 66 = .ok (.iconst (-1), 1) := by decide +kernel
theorem dX0_admit_67 : decode cX0_admit 67 = .ok (.iastore, 1) := by decide +kernel
theorem dX0_admit_68 : decode cX0_admit 68 = .ok (.aload_n 0, 1) := by decide +kernel
theorem dX0_admit_69 : decode cX0_admit 69 = .ok (.getfield 27, 3) := by decide +kernel
theorem dX0_admit_72 : decode cX0_admit 72 = .ok (.iload 4, 2) := by decide +kernel
theorem dX0_admit_74 : decode cX0_admit 74 = .ok (.iconst 0, 1) := by decide +kernel
theorem dX0_admit_75 : decode cX0_admit 75 = .ok (.iastore, 1) := by decide +kernel
theorem dX0_admit_76 : decode cX0_admit 76 = .ok (.iconst 0, 1) := by decide +kernel
theorem dX0_admit_77 : decode cX0_admit 77 = .ok (.istore 5, 2) := by decide +kernel
theorem dX0_admit_79 : decode cX0_admit 79 = .ok (.iload 5, 2) := by decide +kernel
theorem dX0_admit_81 : decode cX0_admit 81 = .ok (.bipush 8, 2) := by decide +kernel
theorem dX0_admit_83 : decode cX0_admit 83 = .ok (.if_icmp .ge 23, 3) := by decide +kernel
theorem dX0_admit_86 : decode cX0_admit 86 = .ok (.aload_n 0, 1) := by decide +kernel
theorem dX0_admit_87 : decode cX0_admit 87 = .ok (.getfield 30, 3) := by decide +kernel
theorem dX0_admit_90 : decode cX0_admit 90 = .ok (.iload 4, 2) := by decide +kernel
theorem dX0_admit_92 : decode cX0_admit 92 = .ok (.bipush 8, 2) := by decide +kernel
theorem dX0_admit_94 : decode cX0_admit 94 = .ok (.imul, 1) := by decide +kernel
theorem dX0_admit_95 : decode cX0_admit 95 = .ok (.iload 5, 2) := by decide +kernel
theorem dX0_admit_97 : decode cX0_admit 97 = .ok (.iadd, 1) := by decide +kernel
theorem dX0_admit_98 : decode cX0_admit 98 = .ok (.iload_n 3, 1) := by decide +kernel
theorem dX0_admit_99 : decode cX0_admit 99 = .ok (.iastore, 1) := by decide +kernel
theorem dX0_admit_100 : decode cX0_admit 100 = .ok (.iinc 5 1, 3) := by decide +kernel
theorem dX0_admit_103 : decode cX0_admit 103 = .ok (.goto (-24), 3) := by decide +kernel
theorem dX0_admit_106 : decode cX0_admit 106 = .ok (.iload 4, 2) := by decide +kernel
theorem dX0_admit_108 : decode cX0_admit 108 = .ok (.ireturn, 1) := by decide +kernel
theorem dX0_setState_0 : decode cX0_setState 0 = .ok (.iload_n 2, 1) := by decide +kernel
theorem dX0_setState_1 : decode cX0_setState 1 = .ok (.bipush 8, 2) := by decide +kernel
theorem dX0_setState_3 : decode cX0_setState 3 = .ok (.if_icmp .ne 21, 3) := by decide +kernel
theorem dX0_setState_6 : decode cX0_setState 6 = .ok (.aload_n 0, 1) := by decide +kernel
theorem dX0_setState_7 : decode cX0_setState 7 = .ok (.getfield 18, 3) := by decide +kernel
theorem dX0_setState_10 : decode cX0_setState 10 = .ok (.iload_n 1, 1) := by decide +kernel
theorem dX0_setState_11 : decode cX0_setState 11 = .ok (.iaload, 1) := by decide +kernel
theorem dX0_setState_12 : decode cX0_setState 12 = .ok (.istore 4, 2) := by decide +kernel
theorem dX0_setState_14 : decode cX0_setState 14 = .ok (.aload_n 0, 1) := by decide +kernel
theorem dX0_setState_15 : decode cX0_setState 15 = .ok (.getfield 18, 3) := by decide +kernel
theorem dX0_setState_18 : decode cX0_setState 18 = .ok (.iload_n 1, 1) := by decide +kernel
theorem dX0_setState_19 : decode cX0_setState 19 = .ok (.iload_n 3, 1) := by decide +kernel
theorem dX0_setState_20 : decode cX0_setState 20 = .ok (.iastore, 1) := by decide +kernel
theorem dX0_setState_21 : decode cX0_setState 21 = .ok (.goto 28, 3) := by decide +kernel
theorem dX0_setState_24 : decode cX0_setState 24 = .ok (.aload_n 0, 1) := by decide +kernel
theorem dX0_setState_25 : decode cX0_setState 25 = .ok (.getfield 30, 3) := by decide +kernel
theorem dX0_setState_28 : decode cX0_setState 28 = .ok (.iload_n 1, 1) := by decide +kernel
theorem dX0_setState_29 : decode cX0_setState 29 = .ok (.bipush 8, 2) := by decide +kernel
theorem dX0_setState_31 : decode cX0_setState 31 = .ok (.imul, 1) := by decide +kernel
theorem dX0_setState_32 : decode cX0_setState 32 = .ok (.iload_n 2, 1) := by decide +kernel
theorem dX0_setState_33 : decode cX0_setState 33 = .ok (.iadd, 1) := by decide +kernel
theorem dX0_setState_34 : decode cX0_setState 34 = .ok (.iaload, 1) := by decide +kernel
theorem dX0_setState_35 : decode cX0_setState 35 = .ok (.istore 4, 2) := by decide +kernel
theorem dX0_setState_37 : decode cX0_setState 37 = .ok (.aload_n 0, 1) := by decide +kernel
theorem dX0_setState_38 : decode cX0_setState 38 = .ok (.getfield 30, 3) := by decide +kernel
theorem dX0_setState_41 : decode cX0_setState 41 = .ok (.iload_n 1, 1) := by decide +kernel
theorem dX0_setState_42 : decode cX0_setState 42 = .ok (.bipush 8, 2) := by decide +kernel
theorem dX0_setState_44 : decode cX0_setState 44 = .ok (.imul, 1) := by decide +kernel
theorem dX0_setState_45 : decode cX0_setState 45 = .ok (.iload_n 2, 1) := by decide +kernel
theorem dX0_setState_46 : decode cX0_setState 46 = .ok (.iadd, 1) := by decide +kernel
theorem dX0_setState_47 : decode cX0_setState 47 = .ok (.iload_n 3, 1) := by decide +kernel
theorem dX0_setState_48 : decode cX0_setState 48 = .ok (.iastore, 1) := by decide +kernel
theorem dX0_setState_49 : decode cX0_setState 49 = .ok (.iload 4, 2) := by decide +kernel
theorem dX0_setState_51 : decode cX0_setState 51 = .ok (.ireturn, 1) := by decide +kernel
theorem dX0_hasSand_0 : decode cX0_hasSand 0 = .ok (.aload_n 0, 1) := by decide +kernel
theorem dX0_hasSand_1 : decode cX0_hasSand 1 = .ok (.getfield 21, 3) := by decide +kernel
theorem dX0_hasSand_4 : decode cX0_hasSand 4 = .ok (.iload_n 1, 1) := by decide +kernel
theorem dX0_hasSand_5 : decode cX0_hasSand 5 = .ok (.iaload, 1) := by decide +kernel
theorem dX0_hasSand_6 : decode cX0_hasSand 6 = .ok (.iload_n 2, 1) := by decide +kernel
theorem dX0_hasSand_7 : decode cX0_hasSand 7 = .ok (.ishr, 1) := by decide +kernel
theorem dX0_hasSand_8 : decode cX0_hasSand 8 = .ok (.iconst 1, 1) := by decide +kernel
theorem dX0_hasSand_9 : decode cX0_hasSand 9 = .ok (.iand, 1) := by decide +kernel
theorem dX0_hasSand_10 : decode cX0_hasSand 10 = .ok (.ifCond .eq 7, 3) := by decide +kernel
theorem dX0_hasSand_13 : decode cX0_hasSand 13 = .ok (.iconst 1, 1) := by decide +kernel
theorem dX0_hasSand_14 : decode cX0_hasSand 14 = .ok (.goto 4, 3) := by decide +kernel
theorem dX0_hasSand_17 : decode cX0_hasSand 17 = .ok (.iconst 0, 1) := by decide +kernel
theorem dX0_hasSand_18 : decode cX0_hasSand 18 = .ok (.ireturn, 1) := by decide +kernel
theorem dX0_firstUnseen_0 : decode cX0_firstUnseen 0 = .ok (.iconst 0, 1) := by decide +kernel
theorem dX0_firstUnseen_1 : decode cX0_firstUnseen 1 = .ok (.istore_n 2, 1) := by decide +kernel
theorem dX0_firstUnseen_2 : decode cX0_firstUnseen 2 = .ok (.iload_n 2, 1) := by decide +kernel
theorem dX0_firstUnseen_3 : decode cX0_firstUnseen 3 = .ok (.bipush 8, 2) := by decide +kernel
theorem dX0_firstUnseen_5 : decode cX0_firstUnseen 5 = .ok (.if_icmp .ge 18, 3) := by decide +kernel
theorem dX0_firstUnseen_8 : decode cX0_firstUnseen 8 = .ok (.aload_n 0, 1) := by decide +kernel
theorem dX0_firstUnseen_9 : decode cX0_firstUnseen 9 = .ok (.iload_n 1, 1) := by decide +kernel
theorem dX0_firstUnseen_10 : decode cX0_firstUnseen 10 = .ok (.iload_n 2, 1) := by decide +kernel
theorem dX0_firstUnseen_11 : decode cX0_firstUnseen 11 = .ok (.invokevirtual 56, 3) := by decide +kernel
theorem dX0_firstUnseen_14 : decode cX0_firstUnseen 14 = .ok (.ifCond .eq 9, 3) := by decide +kernel
theorem dX0_firstUnseen_17 : decode cX0_firstUnseen 17 = .ok (.iinc 2 1, 3) := by decide +kernel
theorem dX0_firstUnseen_20 : decode cX0_firstUnseen 20 = .ok (.goto (-18), 3) := by decide +kernel
theorem dX0_firstUnseen_23 : decode cX0_firstUnseen 23 = .ok (.iload_n 2, 1) := by decide +kernel
theorem dX0_firstUnseen_24 : decode cX0_firstUnseen 24 = .ok (.ireturn, 1) := by decide +kernel
theorem dX0_whoIsIn_0 : decode cX0_whoIsIn 0 = .ok (.iconst 0, 1) := by decide +kernel
theorem dX0_whoIsIn_1 : decode cX0_whoIsIn 1 = .ok (.istore_n 2, 1) := by decide +kernel
theorem dX0_whoIsIn_2 : decode cX0_whoIsIn 2 = .ok (.iconst 0, 1) := by decide +kernel
theorem dX0_whoIsIn_3 : decode cX0_whoIsIn 3 = .ok (.istore_n 3, 1) := by decide +kernel
theorem dX0_whoIsIn_4 : decode cX0_whoIsIn 4 = .ok (.iload_n 3, 1) := by decide +kernel
theorem dX0_whoIsIn_5 : decode cX0_whoIsIn 5 = .ok (.aload_n 0, 1) := by decide +kernel
theorem dX0_whoIsIn_6 : decode cX0_whoIsIn 6 = .ok (.getfield 46, 3) := by decide +kernel
theorem dX0_whoIsIn_9 : decode cX0_whoIsIn 9 = .ok (.if_icmp .ge 25, 3) := by decide +kernel
theorem dX0_whoIsIn_12 : decode cX0_whoIsIn 12 = .ok (.aload_n 0, 1) := by decide +kernel
theorem dX0_whoIsIn_13 : decode cX0_whoIsIn 13 = .ok (.getfield 24, 3) := by decide +kernel
theorem dX0_whoIsIn_16 : decode cX0_whoIsIn 16 = .ok (.iload_n 3, 1) := by decide +kernel
theorem dX0_whoIsIn_17 : decode cX0_whoIsIn 17 = .ok (.iaload, 1) := by decide +kernel
theorem dX0_whoIsIn_18 : decode cX0_whoIsIn 18 = .ok (.iload_n 1, 1) := by decide +kernel
theorem dX0_whoIsIn_19 : decode cX0_whoIsIn 19 = .ok (.if_icmp .ne 9, 3) := by decide +kernel
theorem dX0_whoIsIn_22 : decode cX0_whoIsIn 22 = .ok (.iload_n 2, 1) := by decide +kernel
theorem dX0_whoIsIn_23 : decode cX0_whoIsIn 23 = .ok (.iconst 1, 1) := by decide +kernel
theorem dX0_whoIsIn_24 : decode cX0_whoIsIn 24 = .ok (.iload_n 3, 1) := by decide +kernel
theorem dX0_whoIsIn_25 : decode cX0_whoIsIn 25 = .ok (.ishl, 1) := by decide +kernel
theorem dX0_whoIsIn_26 : decode cX0_whoIsIn 26 = .ok (.ior, 1) := by decide +kernel
theorem dX0_whoIsIn_27 : decode cX0_whoIsIn 27 = .ok (.istore_n 2, 1) := by decide +kernel
theorem dX0_whoIsIn_28 : decode cX0_whoIsIn 28 = .ok (.iinc 3 1, 3) := by decide +kernel
theorem dX0_whoIsIn_31 : decode cX0_whoIsIn 31 = .ok (.goto (-27), 3) := by decide +kernel
theorem dX0_whoIsIn_34 : decode cX0_whoIsIn 34 = .ok (.iload_n 2, 1) := by decide +kernel
theorem dX0_whoIsIn_35 : decode cX0_whoIsIn 35 = .ok (.ireturn, 1) := by decide +kernel
theorem dX0_howManyHere_0 : decode cX0_howManyHere 0 = .ok (.aload_n 0, 1) := by decide +kernel
theorem dX0_howManyHere_1 : decode cX0_howManyHere 1 = .ok (.iconst (-1), 1) := by decide +kernel
theorem dX0_howManyHere_2 : decode cX0_howManyHere 2 = .ok (.invokevirtual 60, 3) := by decide +kernel
theorem dX0_howManyHere_5 : decode cX0_howManyHere 5 = .ok (.invokestatic 64, 3) := by decide +kernel
theorem dX0_howManyHere_8 : decode cX0_howManyHere 8 = .ok (.ireturn, 1) := by decide +kernel
theorem dX0_mostLeft_0 : decode cX0_mostLeft 0 = .ok (.iconst 0, 1) := by decide +kernel
theorem dX0_mostLeft_1 : decode cX0_mostLeft 1 = .ok (.istore_n 1, 1) := by decide +kernel
theorem dX0_mostLeft_2 : decode cX0_mostLeft 2 = .ok (.iconst 0, 1) := by decide +kernel
theorem dX0_mostLeft_3 : decode cX0_mostLeft 3 = .ok (.istore_n 2, 1) := by decide +kernel
theorem dX0_mostLeft_4 : decode cX0_mostLeft 4 = .ok (.iload_n 2, 1) := by decide +kernel
theorem dX0_mostLeft_5 : decode cX0_mostLeft 5 = .ok (.aload_n 0, 1) := by decide +kernel
theorem dX0_mostLeft_6 : decode cX0_mostLeft 6 = .ok (.getfield 46, 3) := by decide +kernel
theorem dX0_mostLeft_9 : decode cX0_mostLeft 9 = .ok (.if_icmp .ge 20, 3) := by decide +kernel
theorem dX0_mostLeft_12 : decode cX0_mostLeft 12 = .ok (.iload_n 1, 1) := by decide +kernel
theorem dX0_mostLeft_13 : decode cX0_mostLeft 13 = .ok (.aload_n 0, 1) := by decide +kernel
theorem dX0_mostLeft_14 : decode cX0_mostLeft 14 = .ok (.getfield 27, 3) := by decide +kernel
theorem dX0_mostLeft_17 : decode cX0_mostLeft 17 = .ok (.iload_n 2, 1) := by decide +kernel
theorem dX0_mostLeft_18 : decode cX0_mostLeft 18 = .ok (.iaload, 1) := by decide +kernel
theorem dX0_mostLeft_19 : decode cX0_mostLeft 19 = .ok (.invokestatic 69, 3) := by decide +kernel
theorem dX0_mostLeft_22 : decode cX0_mostLeft 22 = .ok (.istore_n 1, 1) := by decide +kernel
theorem dX0_mostLeft_23 : decode cX0_mostLeft 23 = .ok (.iinc 2 1, 3) := by decide +kernel
theorem dX0_mostLeft_26 : decode cX0_mostLeft 26 = .ok (.goto (-22), 3) := by decide +kernel
theorem dX0_mostLeft_29 : decode cX0_mostLeft 29 = .ok (.iload_n 1, 1) := by decide +kernel
theorem dX0_mostLeft_30 : decode cX0_mostLeft 30 = .ok (.ireturn, 1) := by decide +kernel
theorem dX0_allWit_0 : decode cX0_allWit 0 = .ok (.iconst 0, 1) := by decide +kernel
theorem dX0_allWit_1 : decode cX0_allWit 1 = .ok (.istore_n 1, 1) := by decide +kernel
theorem dX0_allWit_2 : decode cX0_allWit 2 = .ok (.iconst 0, 1) := by decide +kernel
theorem dX0_allWit_3 : decode cX0_allWit 3 = .ok (.istore_n 2, 1) := by decide +kernel
theorem dX0_allWit_4 : decode cX0_allWit 4 = .ok (.iload_n 2, 1) := by decide +kernel
theorem dX0_allWit_5 : decode cX0_allWit 5 = .ok (.aload_n 0, 1) := by decide +kernel
theorem dX0_allWit_6 : decode cX0_allWit 6 = .ok (.getfield 46, 3) := by decide +kernel
theorem dX0_allWit_9 : decode cX0_allWit 9 = .ok (.if_icmp .ge 18, 3) := by decide +kernel
theorem dX0_allWit_12 : decode cX0_allWit 12 = .ok (.iload_n 1, 1) := by decide +kernel
theorem dX0_allWit_13 : decode cX0_allWit 13 = .ok (.aload_n 0, 1) := by decide +kernel
theorem dX0_allWit_14 : decode cX0_allWit 14 = .ok (.getfield 18, 3) := by decide +kernel
theorem dX0_allWit_17 : decode cX0_allWit 17 = .ok (.iload_n 2, 1) := by decide +kernel
theorem dX0_allWit_18 : decode cX0_allWit 18 = .ok (.iaload, 1) := by decide +kernel
theorem dX0_allWit_19 : decode cX0_allWit 19 = .ok (.iadd, 1) := by decide +kernel
theorem dX0_allWit_20 : decode cX0_allWit 20 = .ok (.istore_n 1, 1) := by decide +kernel
theorem dX0_allWit_21 : decode cX0_allWit 21 = .ok (.iinc 2 1, 3) := by decide +kernel
theorem dX0_allWit_24 : decode cX0_allWit 24 = .ok (.goto (-20), 3) := by decide +kernel
theorem dX0_allWit_27 : decode cX0_allWit 27 = .ok (.iload_n 1, 1) := by decide +kernel
theorem dX0_allWit_28 : decode cX0_allWit 28 = .ok (.ireturn, 1) := by decide +kernel
theorem dX0_grainsOf_0 : decode cX0_grainsOf 0 = .ok (.iconst 0, 1) := by decide +kernel
theorem dX0_grainsOf_1 : decode cX0_grainsOf 1 = .ok (.istore_n 2, 1) := by decide +kernel
theorem dX0_grainsOf_2 : decode cX0_grainsOf 2 = .ok (.iconst 0, 1) := by decide +kernel
theorem dX0_grainsOf_3 : decode cX0_grainsOf 3 = .ok (.istore_n 3, 1) := by decide +kernel
theorem dX0_grainsOf_4 : decode cX0_grainsOf 4 = .ok (.iload_n 3, 1) := by decide +kernel
theorem dX0_grainsOf_5 : decode cX0_grainsOf 5 = .ok (.bipush 8, 2) := by decide +kernel
theorem dX0_grainsOf_7 : decode cX0_grainsOf 7 = .ok (.if_icmp .ge 23, 3) := by decide +kernel
theorem dX0_grainsOf_10 : decode cX0_grainsOf 10 = .ok (.iload_n 2, 1) := by decide +kernel
theorem dX0_grainsOf_11 : decode cX0_grainsOf 11 = .ok (.aload_n 0, 1) := by decide +kernel
theorem dX0_grainsOf_12 : decode cX0_grainsOf 12 = .ok (.getfield 30, 3) := by decide +kernel
theorem dX0_grainsOf_15 : decode cX0_grainsOf 15 = .ok (.iload_n 1, 1) := by decide +kernel
theorem dX0_grainsOf_16 : decode cX0_grainsOf 16 = .ok (.bipush 8, 2) := by decide +kernel
theorem dX0_grainsOf_18 : decode cX0_grainsOf 18 = .ok (.imul, 1) := by decide +kernel
theorem dX0_grainsOf_19 : decode cX0_grainsOf 19 = .ok (.iload_n 3, 1) := by decide +kernel
theorem dX0_grainsOf_20 : decode cX0_grainsOf 20 = .ok (.iadd, 1) := by decide +kernel
theorem dX0_grainsOf_21 : decode cX0_grainsOf 21 = .ok (.iaload, 1) := by decide +kernel
theorem dX0_grainsOf_22 : decode cX0_grainsOf 22 = .ok (.iadd, 1) := by decide +kernel
theorem dX0_grainsOf_23 : decode cX0_grainsOf 23 = .ok (.istore_n 2, 1) := by decide +kernel
theorem dX0_grainsOf_24 : decode cX0_grainsOf 24 = .ok (.iinc 3 1, 3) := by decide +kernel
theorem dX0_grainsOf_27 : decode cX0_grainsOf 27 = .ok (.goto (-23), 3) := by decide +kernel
theorem dX0_grainsOf_30 : decode cX0_grainsOf 30 = .ok (.iload_n 2, 1) := by decide +kernel
theorem dX0_grainsOf_31 : decode cX0_grainsOf 31 = .ok (.ireturn, 1) := by decide +kernel
theorem dX0_lawSays_0 : decode cX0_lawSays 0 = .ok (.aload_n 0, 1) := by decide +kernel
theorem dX0_lawSays_1 : decode cX0_lawSays 1 = .ok (.getfield 33, 3) := by decide +kernel
theorem dX0_lawSays_4 : decode cX0_lawSays 4 = .ok (.aload_n 0, 1) := by decide +kernel
theorem dX0_lawSays_5 : decode cX0_lawSays 5 = .ok (.getfield 53, 3) := by decide +kernel
theorem dX0_lawSays_8 : decode cX0_lawSays 8 = .ok (.aaload, 1) := by decide +kernel
theorem dX0_lawSays_9 : decode cX0_lawSays 9 = .ok (.astore 4, 2) := by decide +kernel
theorem dX0_lawSays_11 : decode cX0_lawSays 11 = .ok (.aload 4, 2) := by decide +kernel
theorem dX0_lawSays_13 : decode cX0_lawSays 13 = .ok (.ifnonnull 5, 3) := by decide +kernel
theorem dX0_lawSays_16 : decode cX0_lawSays 16 = .ok (.iconst 0, 1) := by decide +kernel
theorem dX0_lawSays_17 : decode cX0_lawSays 17 = .ok (.ireturn, 1) := by decide +kernel
theorem dX0_lawSays_18 : decode cX0_lawSays 18 = .ok (.iconst 0, 1) := by decide +kernel
theorem dX0_lawSays_19 : decode cX0_lawSays 19 = .ok (.istore 5, 2) := by decide +kernel
theorem dX0_lawSays_21 : decode cX0_lawSays 21 = .ok (.aload 4, 2) := by decide +kernel
theorem dX0_lawSays_23 : decode cX0_lawSays 23 = .ok (.iload_n 1, 1) := by decide +kernel
theorem dX0_lawSays_24 : decode cX0_lawSays 24 = .ok (.invokevirtual 75, 3) := by decide +kernel
theorem dX0_lawSays_27 : decode cX0_lawSays 27 = .ok (.istore 6, 2) := by decide +kernel
theorem dX0_lawSays_29 : decode cX0_lawSays 29 = .ok (.iload 6, 2) := by decide +kernel
theorem dX0_lawSays_31 : decode cX0_lawSays 31 = .ok (.aload 4, 2) := by decide +kernel
theorem dX0_lawSays_33 : decode cX0_lawSays 33 = .ok (.getfield 80, 3) := by decide +kernel
theorem dX0_lawSays_36 : decode cX0_lawSays 36 = .ok (.iload_n 1, 1) := by decide +kernel
theorem dX0_lawSays_37 : decode cX0_lawSays 37 = .ok (.iaload, 1) := by decide +kernel
theorem dX0_lawSays_38 : decode cX0_lawSays 38 = .ok (.if_icmp .ge 167, 3) := by decide +kernel
theorem dX0_lawSays_41 : decode cX0_lawSays 41 = .ok (.aload 4, 2) := by decide +kernel
theorem dX0_lawSays_43 : decode cX0_lawSays 43 = .ok (.getfield 83, 3) := by decide +kernel
theorem dX0_lawSays_46 : decode cX0_lawSays 46 = .ok (.iload 6, 2) := by decide +kernel
theorem dX0_lawSays_48 : decode cX0_lawSays 48 = .ok (.iaload, 1) := by decide +kernel
theorem dX0_lawSays_49 : decode cX0_lawSays 49 = .ok (.istore 7, 2) := by decide +kernel
theorem dX0_lawSays_51 : decode cX0_lawSays 51 = .ok (.iload 7, 2) := by decide +kernel
theorem dX0_lawSays_53 : decode cX0_lawSays 53 = .ok (.bipush (-6), 2) := by decide +kernel
theorem dX0_lawSays_55 : decode cX0_lawSays 55 = .ok (.if_icmp .lt 44, 3) := by decide +kernel
theorem dX0_lawSays_58 : decode cX0_lawSays 58 = .ok (.iload 5, 2) := by decide +kernel
theorem dX0_lawSays_60 : decode cX0_lawSays 60 = .ok (.aload_n 0, 1) := by decide +kernel
theorem dX0_lawSays_61 : decode cX0_lawSays 61 = .ok (.getfield 37, 3) := by decide +kernel
theorem dX0_lawSays_64 : decode cX0_lawSays 64 = .ok (.arraylength, 1) := by decide +kernel
theorem dX0_lawSays_65 : decode cX0_lawSays 65 = .ok (.if_icmp .ge 134, 3) := by decide +kernel
theorem dX0_lawSays_68 : decode cX0_lawSays 68 = .ok (.aload_n 0, 1) := by decide +kernel
theorem dX0_lawSays_69 : decode cX0_lawSays 69 = .ok (.getfield 37, 3) := by decide +kernel
theorem dX0_lawSays_72 : decode cX0_lawSays 72 = .ok (.iload 5, 2) := by decide +kernel
theorem dX0_lawSays_74 : decode cX0_lawSays 74 = .ok (.iload 7, 2) := by decide +kernel
theorem dX0_lawSays_76 : decode cX0_lawSays 76 = .ok (.ifCond .lt 8, 3) := by decide +kernel
theorem dX0_lawSays_79 : decode cX0_lawSays 79 = .ok (.iload 7, 2) := by decide +kernel
theorem dX0_lawSays_81 : decode cX0_lawSays 81 = .ok (.goto 11, 3) := by decide +kernel
theorem dX0_lawSays_84 : decode cX0_lawSays 84 = .ok (.aload_n 0, 1) := by decide +kernel
theorem dX0_lawSays_85 : decode cX0_lawSays 85 = .ok (.iload 7, 2) := by decide +kernel
theorem dX0_lawSays_87 : decode cX0_lawSays 87 = .ok (.iload_n 2, 1) := by decide +kernel
theorem dX0_lawSays_88 : decode cX0_lawSays 88 = .ok (.iload_n 3, 1) := by decide +kernel
theorem dX0_lawSays_89 : decode cX0_lawSays 89 = .ok (.invokevirtual 86, 3) := by decide +kernel
theorem dX0_lawSays_92 : decode cX0_lawSays 92 = .ok (.iastore, 1) := by decide +kernel
theorem dX0_lawSays_93 : decode cX0_lawSays 93 = .ok (.iinc 5 1, 3) := by decide +kernel
theorem dX0_lawSays_96 : decode cX0_lawSays 96 = .ok (.goto 103, 3) := by decide +kernel
theorem dX0_lawSays_99 : decode cX0_lawSays 99 = .ok (.iload 7, 2) := by decide +kernel
theorem dX0_lawSays_101 : decode cX0_lawSays 101 = .ok (.bipush (-8), 2) := by decide +kernel
theorem dX0_lawSays_103 : decode cX0_lawSays 103 = .ok (.if_icmp .lt 57, 3) := by decide +kernel
theorem dX0_lawSays_106 : decode cX0_lawSays 106 = .ok (.iload 5, 2) := by decide +kernel
theorem dX0_lawSays_108 : decode cX0_lawSays 108 = .ok (.ifCond .le 91, 3) := by decide +kernel
theorem dX0_lawSays_111 : decode cX0_lawSays 111 = .ok (.aload_n 0, 1) := by decide +kernel
theorem dX0_lawSays_112 : decode cX0_lawSays 112 = .ok (.getfield 37, 3) := by decide +kernel
theorem dX0_lawSays_115 : decode cX0_lawSays 115 = .ok (.iload 5, 2) := by decide +kernel
theorem dX0_lawSays_117 : decode cX0_lawSays 117 = .ok (.iconst 1, 1) := by decide +kernel
theorem dX0_lawSays_118 : decode cX0_lawSays 118 = .ok (.isub, 1) := by decide +kernel
theorem dX0_lawSays_119 : decode cX0_lawSays 119 = .ok (.iload 7, 2) := by decide +kernel
theorem dX0_lawSays_121 : decode cX0_lawSays 121 = .ok (.bipush (-7), 2) := by decide +kernel
theorem dX0_lawSays_123 : decode cX0_lawSays 123 = .ok (.if_icmp .ne 16, 3) := by decide +kernel
theorem dX0_lawSays_126 : decode cX0_lawSays 126 = .ok (.aload_n 0, 1) := by decide +kernel
theorem dX0_lawSays_127 : decode cX0_lawSays 127 = .ok (.getfield 37, 3) := by decide +kernel
theorem dX0_lawSays_130 : decode cX0_lawSays 130 = .ok (.iload 5, 2) := by decide +kernel
theorem dX0_lawSays_132 : decode cX0_lawSays 132 = .ok (.iconst 1, 1) := by decide +kernel
theorem dX0_lawSays_133 : decode cX0_lawSays 133 = .ok (.isub, 1) := by decide +kernel
theorem dX0_lawSays_134 : decode cX0_lawSays 134 = .ok (.iaload, 1) := by decide +kernel
theorem dX0_lawSays_135 : decode cX0_lawSays 135 = .ok (.ineg, 1) := by decide +kernel
theorem dX0_lawSays_136 : decode cX0_lawSays 136 = .ok (.goto 20, 3) := by decide +kernel
theorem dX0_lawSays_139 : decode cX0_lawSays 139 = .ok (.aload_n 0, 1) := by decide +kernel
theorem dX0_lawSays_140 : decode cX0_lawSays 140 = .ok (.getfield 37, 3) := by decide +kernel
theorem dX0_lawSays_143 : decode cX0_lawSays 143 = .ok (.iload 5, 2) := by decide +kernel
theorem dX0_lawSays_145 : decode cX0_lawSays 145 = .ok (.iconst 1, 1) := by decide +kernel
theorem dX0_lawSays_146 : decode cX0_lawSays 146 = .ok (.isub, 1) := by decide +kernel
theorem dX0_lawSays_147 : decode cX0_lawSays 147 = .ok (.iaload, 1) := by decide +kernel
theorem dX0_lawSays_148 : decode cX0_lawSays 148 = .ok (.ifCond .ne 7, 3) := by decide +kernel
theorem dX0_lawSays_151 : decode cX0_lawSays 151 = .ok (.iconst 1, 1) := by decide +kernel
theorem dX0_lawSays_152 : decode cX0_lawSays 152 = .ok (.goto 4, 3) := by decide +kernel
theorem dX0_lawSays_155 : decode cX0_lawSays 155 = .ok (.iconst 0, 1) := by decide +kernel
theorem dX0_lawSays_156 : decode cX0_lawSays 156 = .ok (.iastore, 1) := by decide +kernel
theorem dX0_lawSays_157 : decode cX0_lawSays 157 = .ok (.goto 42, 3) := by decide +kernel
theorem dX0_lawSays_160 : decode cX0_lawSays 160 = .ok (.iload 5, 2) := by decide +kernel
theorem dX0_lawSays_162 : decode cX0_lawSays 162 = .ok (.iconst 1, 1) := by decide +kernel
theorem dX0_lawSays_163 : decode cX0_lawSays 163 = .ok (.if_icmp .le 36, 3) := by decide +kernel
theorem dX0_lawSays_166 : decode cX0_lawSays 166 = .ok (.iinc 5 (-1), 3) := by decide +kernel
theorem dX0_lawSays_169 : decode cX0_lawSays 169 = .ok (.aload_n 0, 1) := by decide +kernel
theorem dX0_lawSays_170 : decode cX0_lawSays 170 = .ok (.getfield 37, 3) := by decide +kernel
theorem dX0_lawSays_173 : decode cX0_lawSays 173 = .ok (.iload 5, 2) := by decide +kernel
theorem dX0_lawSays_175 : decode cX0_lawSays 175 = .ok (.iconst 1, 1) := by decide +kernel
theorem dX0_lawSays_176 : decode cX0_lawSays 176 = .ok (.isub, 1) := by decide +kernel
theorem dX0_lawSays_177 : decode cX0_lawSays 177 = .ok (.iload 7, 2) := by decide +kernel
theorem dX0_lawSays_179 : decode cX0_lawSays 179 = .ok (.aload_n 0, 1) := by decide +kernel
theorem dX0_lawSays_180 : decode cX0_lawSays 180 = .ok (.getfield 37, 3) := by decide +kernel
theorem dX0_lawSays_183 : decode cX0_lawSays 183 = .ok (.iload 5, 2) := by decide +kernel
theorem dX0_lawSays_185 : decode cX0_lawSays 185 = .ok (.iconst 1, 1) := by decide +kernel
theorem dX0_lawSays_186 : decode cX0_lawSays 186 = .ok (.isub, 1) := by decide +kernel
theorem dX0_lawSays_187 : decode cX0_lawSays 187 = .ok (.iaload, 1) := by decide +kernel
theorem dX0_lawSays_188 : decode cX0_lawSays 188 = .ok (.aload_n 0, 1) := by decide +kernel
theorem dX0_lawSays_189 : decode cX0_lawSays 189 = .ok (.getfield 37, 3) := by decide +kernel
theorem dX0_lawSays_192 : decode cX0_lawSays 192 = .ok (.iload 5, 2) := by decide +kernel
theorem dX0_lawSays_194 : decode cX0_lawSays 194 = .ok (.iaload, 1) := by decide +kernel
theorem dX0_lawSays_195 : decode cX0_lawSays 195 = .ok (.invokestatic 90, 3) := by decide +kernel
theorem dX0_lawSays_198 : decode cX0_lawSays 198 = .ok (.iastore, 1) := by decide +kernel
theorem dX0_lawSays_199 : decode cX0_lawSays 199 = .ok (.iinc 6 1, 3) := by decide +kernel
theorem dX0_lawSays_202 : decode cX0_lawSays 202 = .ok (.goto (-173), 3) := by decide +kernel
theorem dX0_lawSays_205 : decode cX0_lawSays 205 = .ok (.iload_n 1, 1) := by decide +kernel
theorem dX0_lawSays_206 : decode cX0_lawSays 206 = .ok (.lookupswitch 53 #[(0, 26), (1, 39)], 26) := by decide +kernel
theorem dX0_lawSays_232 : decode cX0_lawSays 232 = .ok (.aload_n 0, 1) := by decide +kernel
theorem dX0_lawSays_233 : decode cX0_lawSays 233 = .ok (.getfield 37, 3) := by decide +kernel
theorem dX0_lawSays_236 : decode cX0_lawSays 236 = .ok (.iconst 0, 1) := by decide +kernel
theorem dX0_lawSays_237 : decode cX0_lawSays 237 = .ok (.iaload, 1) := by decide +kernel
theorem dX0_lawSays_238 : decode cX0_lawSays 238 = .ok (.iconst 0, 1) := by decide +kernel
theorem dX0_lawSays_239 : decode cX0_lawSays 239 = .ok (.bipush 99, 2) := by decide +kernel
theorem dX0_lawSays_241 : decode cX0_lawSays 241 = .ok (.invokestatic 93, 3) := by decide +kernel
theorem dX0_lawSays_244 : decode cX0_lawSays 244 = .ok (.ireturn, 1) := by decide +kernel
theorem dX0_lawSays_245 : decode cX0_lawSays 245 = .ok (.aload_n 0, 1) := by decide +kernel
theorem dX0_lawSays_246 : decode cX0_lawSays 246 = .ok (.getfield 37, 3) := by decide +kernel
theorem dX0_lawSays_249 : decode cX0_lawSays 249 = .ok (.iconst 0, 1) := by decide +kernel
theorem dX0_lawSays_250 : decode cX0_lawSays 250 = .ok (.iaload, 1) := by decide +kernel
theorem dX0_lawSays_251 : decode cX0_lawSays 251 = .ok (.bipush (-99), 2) := by decide +kernel
theorem dX0_lawSays_253 : decode cX0_lawSays 253 = .ok (.bipush 99, 2) := by decide +kernel
theorem dX0_lawSays_255 : decode cX0_lawSays 255 = .ok (.invokestatic 93, 3) := by decide +kernel
theorem dX0_lawSays_258 : decode cX0_lawSays 258 = .ok (.ireturn, 1) := by decide +kernel
theorem dX0_lawSays_259 : decode cX0_lawSays 259 = .ok (.aload_n 0, 1) := by decide +kernel
theorem dX0_lawSays_260 : decode cX0_lawSays 260 = .ok (.getfield 37, 3) := by decide +kernel
theorem dX0_lawSays_263 : decode cX0_lawSays 263 = .ok (.iconst 0, 1) := by decide +kernel
theorem dX0_lawSays_264 : decode cX0_lawSays 264 = .ok (.iaload, 1) := by decide +kernel
theorem dX0_lawSays_265 : decode cX0_lawSays 265 = .ok (.iconst 0, 1) := by decide +kernel
theorem dX0_lawSays_266 : decode cX0_lawSays 266 = .ok (.bipush 9, 2) := by decide +kernel
theorem dX0_lawSays_268 : decode cX0_lawSays 268 = .ok (.invokestatic 93, 3) := by decide +kernel
theorem dX0_lawSays_271 : decode cX0_lawSays 271 = .ok (.ireturn, 1) := by decide +kernel
theorem dX0_named_0 : decode cX0_named 0 = .ok (.iconst (-1), 1) := by decide +kernel
theorem dX0_named_1 : decode cX0_named 1 = .ok (.iload_n 1, 1) := by decide +kernel
theorem dX0_named_2 : decode cX0_named 2 = .ok (.isub, 1) := by decide +kernel
theorem dX0_named_3 : decode cX0_named 3 = .ok (.tableswitch 69 0 4 #[33, 35, 47, 54, 64], 33) := by decide +kernel
theorem dX0_named_36 : decode cX0_named 36 = .ok (.iload_n 3, 1) := by decide +kernel
theorem dX0_named_37 : decode cX0_named 37 = .ok (.ireturn, 1) := by decide +kernel
theorem dX0_named_38 : decode cX0_named 38 = .ok (.aload_n 0, 1) := by decide +kernel
theorem dX0_named_39 : decode cX0_named 39 = .ok (.getfield 30, 3) := by decide +kernel
theorem dX0_named_42 : decode cX0_named 42 = .ok (.iload_n 2, 1) := by decide +kernel
theorem dX0_named_43 : decode cX0_named 43 = .ok (.bipush 8, 2) := by decide +kernel
theorem dX0_named_45 : decode cX0_named 45 = .ok (.imul, 1) := by decide +kernel
theorem dX0_named_46 : decode cX0_named 46 = .ok (.iload_n 3, 1) := by decide +kernel
theorem dX0_named_47 : decode cX0_named 47 = .ok (.iadd, 1) := by decide +kernel
theorem dX0_named_48 : decode cX0_named 48 = .ok (.iaload, 1) := by decide +kernel
theorem dX0_named_49 : decode cX0_named 49 = .ok (.ireturn, 1) := by decide +kernel
theorem dX0_named_50 : decode cX0_named 50 = .ok (.aload_n 0, 1) := by decide +kernel
theorem dX0_named_51 : decode cX0_named 51 = .ok (.getfield 18, 3) := by decide +kernel
theorem dX0_named_54 : decode cX0_named 54 = .ok (.iload_n 2, 1) := by decide +kernel
theorem dX0_named_55 : decode cX0_named 55 = .ok (.iaload, 1) := by decide +kernel
theorem dX0_named_56 : decode cX0_named 56 = .ok (.ireturn, 1) := by decide +kernel
theorem dX0_named_57 : decode cX0_named 57 = .ok (.aload_n 0, 1) := by decide +kernel
theorem dX0_named_58 : decode cX0_named 58 = .ok (.getfield 21, 3) := by decide +kernel
theorem dX0_named_61 : decode cX0_named 61 = .ok (.iload_n 2, 1) := by decide +kernel
theorem dX0_named_62 : decode cX0_named 62 = .ok (.iaload, 1) := by decide +kernel
theorem dX0_named_63 : decode cX0_named 63 = .ok (.invokestatic 64, 3) := by decide +kernel
theorem dX0_named_66 : decode cX0_named 66 = .ok (.ireturn, 1) := by decide +kernel
theorem dX0_named_67 : decode cX0_named 67 = .ok (.aload_n 0, 1) := by decide +kernel
theorem dX0_named_68 : decode cX0_named 68 = .ok (.getfield 50, 3) := by decide +kernel
theorem dX0_named_71 : decode cX0_named 71 = .ok (.ireturn, 1) := by decide +kernel
theorem dX0_named_72 : decode cX0_named 72 = .ok (.aload_n 0, 1) := by decide +kernel
theorem dX0_named_73 : decode cX0_named 73 = .ok (.getfield 15, 3) := by decide +kernel
theorem dX0_named_76 : decode cX0_named 76 = .ok (.iload_n 2, 1) := by decide +kernel
theorem dX0_named_77 : decode cX0_named 77 = .ok (.iaload, 1) := by decide +kernel
theorem dX0_named_78 : decode cX0_named 78 = .ok (.ireturn, 1) := by decide +kernel
theorem dX0_gone_0 : decode cX0_gone 0 = .ok (.aload_n 0, 1) := by decide +kernel
theorem dX0_gone_1 : decode cX0_gone 1 = .ok (.iconst 0, 1) := by decide +kernel
theorem dX0_gone_2 : decode cX0_gone 2 = .ok (.iload_n 1, 1) := by decide +kernel
theorem dX0_gone_3 : decode cX0_gone 3 = .ok (.iload_n 2, 1) := by decide +kernel
theorem dX0_gone_4 : decode cX0_gone 4 = .ok (.invokevirtual 96, 3) := by decide +kernel
theorem dX0_gone_7 : decode cX0_gone 7 = .ok (.istore_n 3, 1) := by decide +kernel
theorem dX0_gone_8 : decode cX0_gone 8 = .ok (.aload_n 0, 1) := by decide +kernel
theorem dX0_gone_9 : decode cX0_gone 9 = .ok (.getfield 9, 3) := by decide +kernel
theorem dX0_gone_12 : decode cX0_gone 12 = .ok (.iload_n 1, 1) := by decide +kernel
theorem dX0_gone_13 : decode cX0_gone 13 = .ok (.iaload, 1) := by decide +kernel
theorem dX0_gone_14 : decode cX0_gone 14 = .ok (.tableswitch 101 1 5 #[34, 42, 47, 72, 90], 34) := by decide +kernel
theorem dX0_gone_48 : decode cX0_gone 48 = .ok (.iconst 1, 1) := by decide +kernel
theorem dX0_gone_49 : decode cX0_gone 49 = .ok (.iload_n 3, 1) := by decide +kernel
theorem dX0_gone_50 : decode cX0_gone 50 = .ok (.iconst 2, 1) := by decide +kernel
theorem dX0_gone_51 : decode cX0_gone 51 = .ok (.idiv, 1) := by decide +kernel
theorem dX0_gone_52 : decode cX0_gone 52 = .ok (.invokestatic 69, 3) := by decide +kernel
theorem dX0_gone_55 : decode cX0_gone 55 = .ok (.ireturn, 1) := by decide +kernel
theorem dX0_gone_56 : decode cX0_gone 56 = .ok (.iload_n 3, 1) := by decide +kernel
theorem dX0_gone_57 : decode cX0_gone 57 = .ok (.bipush 10, 2) := by decide +kernel
theorem dX0_gone_59 : decode cX0_gone 59 = .ok (.iadd, 1) := by decide +kernel
theorem dX0_gone_60 : decode cX0_gone 60 = .ok (.ireturn, 1) := by decide +kernel
theorem dX0_gone_61 : decode cX0_gone 61 = .ok (.iload_n 2, 1) := by decide +kernel
theorem dX0_gone_62 : decode cX0_gone 62 = .ok (.aload_n 0, 1) := by decide +kernel
theorem dX0_gone_63 : decode cX0_gone 63 = .ok (.getfield 15, 3) := by decide +kernel
theorem dX0_gone_66 : decode cX0_gone 66 = .ok (.iload_n 1, 1) := by decide +kernel
theorem dX0_gone_67 : decode cX0_gone 67 = .ok (.iaload, 1) := by decide +kernel
theorem dX0_gone_68 : decode cX0_gone 68 = .ok (.bipush 8, 2) := by decide +kernel
theorem dX0_gone_70 : decode cX0_gone 70 = .ok (.irem, 1) := by decide +kernel
theorem dX0_gone_71 : decode cX0_gone 71 = .ok (.if_icmp .ne 7, 3) := by decide +kernel
theorem dX0_gone_74 : decode cX0_gone 74 = .ok (.iconst 1, 1) := by decide +kernel
theorem dX0_gone_75 : decode cX0_gone 75 = .ok (.goto 10, 3) := by decide +kernel
theorem dX0_gone_78 : decode cX0_gone 78 = .ok (.iconst 1, 1) := by decide +kernel
theorem dX0_gone_79 : decode cX0_gone 79 = .ok (.iload_n 3, 1) := by decide +kernel
theorem dX0_gone_80 : decode cX0_gone 80 = .ok (.iconst 2, 1) := by decide +kernel
theorem dX0_gone_81 : decode cX0_gone 81 = .ok (.idiv, 1) := by decide +kernel
theorem dX0_gone_82 : decode cX0_gone 82 = .ok (.invokestatic 69, 3) := by decide +kernel
theorem dX0_gone_85 : decode cX0_gone 85 = .ok (.ireturn, 1) := by decide +kernel
theorem dX0_gone_86 : decode cX0_gone 86 = .ok (.iload_n 2, 1) := by decide +kernel
theorem dX0_gone_87 : decode cX0_gone 87 = .ok (.bipush 7, 2) := by decide +kernel
theorem dX0_gone_89 : decode cX0_gone 89 = .ok (.if_icmp .ne 8, 3) := by decide +kernel
theorem dX0_gone_92 : decode cX0_gone 92 = .ok (.bipush 99, 2) := by decide +kernel
theorem dX0_gone_94 : decode cX0_gone 94 = .ok (.goto 9, 3) := by decide +kernel
theorem dX0_gone_97 : decode cX0_gone 97 = .ok (.iload_n 3, 1) := by decide +kernel
theorem dX0_gone_98 : decode cX0_gone 98 = .ok (.bipush 10, 2) := by decide +kernel
theorem dX0_gone_100 : decode cX0_gone 100 = .ok (.iadd, 1) := by decide +kernel
theorem dX0_gone_101 : decode cX0_gone 101 = .ok (.iconst 3, 1) := by decide +kernel
theorem dX0_gone_102 : decode cX0_gone 102 = .ok (.idiv, 1) := by decide +kernel
theorem dX0_gone_103 : decode cX0_gone 103 = .ok (.ireturn, 1) := by decide +kernel
theorem dX0_gone_104 : decode cX0_gone 104 = .ok (.iconst 1, 1) := by decide +kernel
theorem dX0_gone_105 : decode cX0_gone 105 = .ok (.aload_n 0, 1) := by decide +kernel
theorem dX0_gone_106 : decode cX0_gone 106 = .ok (.getfield 15, 3) := by decide +kernel
theorem dX0_gone_109 : decode cX0_gone 109 = .ok (.iload_n 1, 1) := by decide +kernel
theorem dX0_gone_110 : decode cX0_gone 110 = .ok (.iaload, 1) := by decide +kernel
theorem dX0_gone_111 : decode cX0_gone 111 = .ok (.invokestatic 69, 3) := by decide +kernel
theorem dX0_gone_114 : decode cX0_gone 114 = .ok (.ireturn, 1) := by decide +kernel
theorem dX0_gone_115 : decode cX0_gone 115 = .ok (.iconst 1, 1) := by decide +kernel
theorem dX0_gone_116 : decode cX0_gone 116 = .ok (.iload_n 3, 1) := by decide +kernel
theorem dX0_gone_117 : decode cX0_gone 117 = .ok (.invokestatic 69, 3) := by decide +kernel
theorem dX0_gone_120 : decode cX0_gone 120 = .ok (.ireturn, 1) := by decide +kernel
theorem dX0_gains_0 : decode cX0_gains 0 = .ok (.aload_n 0, 1) := by decide +kernel
theorem dX0_gains_1 : decode cX0_gains 1 = .ok (.iconst 1, 1) := by decide +kernel
theorem dX0_gains_2 : decode cX0_gains 2 = .ok (.iload_n 1, 1) := by decide +kernel
theorem dX0_gains_3 : decode cX0_gains 3 = .ok (.iload_n 2, 1) := by decide +kernel
theorem dX0_gains_4 : decode cX0_gains 4 = .ok (.invokevirtual 96, 3) := by decide +kernel
theorem dX0_gains_7 : decode cX0_gains 7 = .ok (.istore_n 3, 1) := by decide +kernel
theorem dX0_gains_8 : decode cX0_gains 8 = .ok (.aload_n 0, 1) := by decide +kernel
theorem dX0_gains_9 : decode cX0_gains 9 = .ok (.iload_n 1, 1) := by decide +kernel
theorem dX0_gains_10 : decode cX0_gains 10 = .ok (.iload_n 2, 1) := by decide +kernel
theorem dX0_gains_11 : decode cX0_gains 11 = .ok (.invokevirtual 56, 3) := by decide +kernel
theorem dX0_gains_14 : decode cX0_gains 14 = .ok (.istore 4, 2) := by decide +kernel
theorem dX0_gains_16 : decode cX0_gains 16 = .ok (.aload_n 0, 1) := by decide +kernel
theorem dX0_gains_17 : decode cX0_gains 17 = .ok (.getfield 9, 3) := by decide +kernel
theorem dX0_gains_20 : decode cX0_gains 20 = .ok (.iload_n 1, 1) := by decide +kernel
theorem dX0_gains_21 : decode cX0_gains 21 = .ok (.iaload, 1) := by decide +kernel
theorem dX0_gains_22 : decode cX0_gains 22 = .ok (.tableswitch 71 1 4 #[30, 71, 48, 68], 30) := by decide +kernel
theorem dX0_gains_52 : decode cX0_gains 52 = .ok (.iload 4, 2) := by decide +kernel
theorem dX0_gains_54 : decode cX0_gains 54 = .ok (.ifCond .eq 7, 3) := by decide +kernel
theorem dX0_gains_57 : decode cX0_gains 57 = .ok (.iload_n 3, 1) := by decide +kernel
theorem dX0_gains_58 : decode cX0_gains 58 = .ok (.goto 11, 3) := by decide +kernel
theorem dX0_gains_61 : decode cX0_gains 61 = .ok (.iload_n 3, 1) := by decide +kernel
theorem dX0_gains_62 : decode cX0_gains 62 = .ok (.aload_n 0, 1) := by decide +kernel
theorem dX0_gains_63 : decode cX0_gains 63 = .ok (.getfield 15, 3) := by decide +kernel
theorem dX0_gains_66 : decode cX0_gains 66 = .ok (.iload_n 1, 1) := by decide +kernel
theorem dX0_gains_67 : decode cX0_gains 67 = .ok (.iaload, 1) := by decide +kernel
theorem dX0_gains_68 : decode cX0_gains 68 = .ok (.iadd, 1) := by decide +kernel
theorem dX0_gains_69 : decode cX0_gains 69 = .ok (.ireturn, 1) := by decide +kernel
theorem dX0_gains_70 : decode cX0_gains 70 = .ok (.iload 4, 2) := by decide +kernel
theorem dX0_gains_72 : decode cX0_gains 72 = .ok (.ifCond .eq 7, 3) := by decide +kernel
theorem dX0_gains_75 : decode cX0_gains 75 = .ok (.iconst 0, 1) := by decide +kernel
theorem dX0_gains_76 : decode cX0_gains 76 = .ok (.goto 13, 3) := by decide +kernel
theorem dX0_gains_79 : decode cX0_gains 79 = .ok (.iconst 2, 1) := by decide +kernel
theorem dX0_gains_80 : decode cX0_gains 80 = .ok (.iload_n 3, 1) := by decide +kernel
theorem dX0_gains_81 : decode cX0_gains 81 = .ok (.aload_n 0, 1) := by decide +kernel
theorem dX0_gains_82 : decode cX0_gains 82 = .ok (.getfield 15, 3) := by decide +kernel
theorem dX0_gains_85 : decode cX0_gains 85 = .ok (.iload_n 1, 1) := by decide +kernel
theorem dX0_gains_86 : decode cX0_gains 86 = .ok (.iaload, 1) := by decide +kernel
theorem dX0_gains_87 : decode cX0_gains 87 = .ok (.iadd, 1) := by decide +kernel
theorem dX0_gains_88 : decode cX0_gains 88 = .ok (.imul, 1) := by decide +kernel
theorem dX0_gains_89 : decode cX0_gains 89 = .ok (.ireturn, 1) := by decide +kernel
theorem dX0_gains_90 : decode cX0_gains 90 = .ok (.iload_n 3, 1) := by decide +kernel
theorem dX0_gains_91 : decode cX0_gains 91 = .ok (.ineg, 1) := by decide +kernel
theorem dX0_gains_92 : decode cX0_gains 92 = .ok (.ireturn, 1) := by decide +kernel
theorem dX0_gains_93 : decode cX0_gains 93 = .ok (.iload_n 3, 1) := by decide +kernel
theorem dX0_gains_94 : decode cX0_gains 94 = .ok (.ireturn, 1) := by decide +kernel
theorem dX0_spills_0 : decode cX0_spills 0 = .ok (.aload_n 0, 1) := by decide +kernel
theorem dX0_spills_1 : decode cX0_spills 1 = .ok (.iconst 2, 1) := by decide +kernel
theorem dX0_spills_2 : decode cX0_spills 2 = .ok (.iload_n 1, 1) := by decide +kernel
theorem dX0_spills_3 : decode cX0_spills 3 = .ok (.iload_n 2, 1) := by decide +kernel
theorem dX0_spills_4 : decode cX0_spills 4 = .ok (.invokevirtual 96, 3) := by decide +kernel
theorem dX0_spills_7 : decode cX0_spills 7 = .ok (.istore_n 3, 1) := by decide +kernel
theorem dX0_spills_8 : decode cX0_spills 8 = .ok (.aload_n 0, 1) := by decide +kernel
theorem dX0_spills_9 : decode cX0_spills 9 = .ok (.getfield 9, 3) := by decide +kernel
theorem dX0_spills_12 : decode cX0_spills 12 = .ok (.iload_n 1, 1) := by decide +kernel
theorem dX0_spills_13 : decode cX0_spills 13 = .ok (.iaload, 1) := by decide +kernel
theorem dX0_spills_14 : decode cX0_spills 14 = .ok (.tableswitch 49 2 5 #[30, 49, 30, 47], 30) := by decide +kernel
theorem dX0_spills_44 : decode cX0_spills 44 = .ok (.aload_n 0, 1) := by decide +kernel
theorem dX0_spills_45 : decode cX0_spills 45 = .ok (.getfield 50, 3) := by decide +kernel
theorem dX0_spills_48 : decode cX0_spills 48 = .ok (.iconst 2, 1) := by decide +kernel
theorem dX0_spills_49 : decode cX0_spills 49 = .ok (.irem, 1) := by decide +kernel
theorem dX0_spills_50 : decode cX0_spills 50 = .ok (.ifCond .ne 9, 3) := by decide +kernel
theorem dX0_spills_53 : decode cX0_spills 53 = .ok (.iload_n 3, 1) := by decide +kernel
theorem dX0_spills_54 : decode cX0_spills 54 = .ok (.iconst 1, 1) := by decide +kernel
theorem dX0_spills_55 : decode cX0_spills 55 = .ok (.iadd, 1) := by decide +kernel
theorem dX0_spills_56 : decode cX0_spills 56 = .ok (.goto 4, 3) := by decide +kernel
theorem dX0_spills_59 : decode cX0_spills 59 = .ok (.iconst 0, 1) := by decide +kernel
theorem dX0_spills_60 : decode cX0_spills 60 = .ok (.ireturn, 1) := by decide +kernel
theorem dX0_spills_61 : decode cX0_spills 61 = .ok (.iconst 0, 1) := by decide +kernel
theorem dX0_spills_62 : decode cX0_spills 62 = .ok (.ireturn, 1) := by decide +kernel
theorem dX0_spills_63 : decode cX0_spills 63 = .ok (.iload_n 3, 1) := by decide +kernel
theorem dX0_spills_64 : decode cX0_spills 64 = .ok (.ireturn, 1) := by decide +kernel
theorem dX0_can_0 : decode cX0_can 0 = .ok (.aload_n 0, 1) := by decide +kernel
theorem dX0_can_1 : decode cX0_can 1 = .ok (.iload_n 1, 1) := by decide +kernel
theorem dX0_can_2 : decode cX0_can 2 = .ok (.invokevirtual 99, 3) := by decide +kernel
theorem dX0_can_5 : decode cX0_can 5 = .ok (.ifCond .eq 38, 3) := by decide +kernel
theorem dX0_can_8 : decode cX0_can 8 = .ok (.iload_n 2, 1) := by decide +kernel
theorem dX0_can_9 : decode cX0_can 9 = .ok (.invokestatic 103, 3) := by decide +kernel
theorem dX0_can_12 : decode cX0_can 12 = .ok (.ifCond .eq 31, 3) := by decide +kernel
theorem dX0_can_15 : decode cX0_can 15 = .ok (.aload_n 0, 1) := by decide +kernel
theorem dX0_can_16 : decode cX0_can 16 = .ok (.getfield 24, 3) := by decide +kernel
theorem dX0_can_19 : decode cX0_can 19 = .ok (.iload_n 1, 1) := by decide +kernel
theorem dX0_can_20 : decode cX0_can 20 = .ok (.iaload, 1) := by decide +kernel
theorem dX0_can_21 : decode cX0_can 21 = .ok (.iconst (-1), 1) := by decide +kernel
theorem dX0_can_22 : decode cX0_can 22 = .ok (.if_icmp .ne 21, 3) := by decide +kernel
theorem dX0_can_25 : decode cX0_can 25 = .ok (.aload_n 0, 1) := by decide +kernel
theorem dX0_can_26 : decode cX0_can 26 = .ok (.getfield 30, 3) := by decide +kernel
theorem dX0_can_29 : decode cX0_can 29 = .ok (.iload_n 1, 1) := by decide +kernel
theorem dX0_can_30 : decode cX0_can 30 = .ok (.bipush 8, 2) := by decide +kernel
theorem dX0_can_32 : decode cX0_can 32 = .ok (.imul, 1) := by decide +kernel
theorem dX0_can_33 : decode cX0_can 33 = .ok (.iload_n 2, 1) := by decide +kernel
theorem dX0_can_34 : decode cX0_can 34 = .ok (.iadd, 1) := by decide +kernel
theorem dX0_can_35 : decode cX0_can 35 = .ok (.iaload, 1) := by decide +kernel
theorem dX0_can_36 : decode cX0_can 36 = .ok (.ifCond .le 7, 3) := by decide +kernel
theorem dX0_can_39 : decode cX0_can 39 = .ok (.iconst 1, 1) := by decide +kernel
theorem dX0_can_40 : decode cX0_can 40 = .ok (.goto 4, 3) := by decide +kernel
theorem dX0_can_43 : decode cX0_can 43 = .ok (.iconst 0, 1) := by decide +kernel
theorem dX0_can_44 : decode cX0_can 44 = .ok (.ireturn, 1) := by decide +kernel
theorem dX0_take_0 : decode cX0_take 0 = .ok (.aload_n 0, 1) := by decide +kernel
theorem dX0_take_1 : decode cX0_take 1 = .ok (.iload_n 1, 1) := by decide +kernel
theorem dX0_take_2 : decode cX0_take 2 = .ok (.iload_n 2, 1) := by decide +kernel
theorem dX0_take_3 : decode cX0_take 3 = .ok (.invokevirtual 106, 3) := by decide +kernel
theorem dX0_take_6 : decode cX0_take 6 = .ok (.istore_n 3, 1) := by decide +kernel
theorem dX0_take_7 : decode cX0_take 7 = .ok (.aload_n 0, 1) := by decide +kernel
theorem dX0_take_8 : decode cX0_take 8 = .ok (.getfield 18, 3) := by decide +kernel
theorem dX0_take_11 : decode cX0_take 11 = .ok (.iload_n 1, 1) := by decide +kernel
theorem dX0_take_12 : decode cX0_take 12 = .ok (.iaload, 1) := by decide +kernel
theorem dX0_take_13 : decode cX0_take 13 = .ok (.aload_n 0, 1) := by decide +kernel
theorem dX0_take_14 : decode cX0_take 14 = .ok (.iload_n 1, 1) := by decide +kernel
theorem dX0_take_15 : decode cX0_take 15 = .ok (.iload_n 2, 1) := by decide +kernel
theorem dX0_take_16 : decode cX0_take 16 = .ok (.invokevirtual 109, 3) := by decide +kernel
theorem dX0_take_19 : decode cX0_take 19 = .ok (.iadd, 1) := by decide +kernel
theorem dX0_take_20 : decode cX0_take 20 = .ok (.iconst 0, 1) := by decide +kernel
theorem dX0_take_21 : decode cX0_take 21 = .ok (.bipush 99, 2) := by decide +kernel
theorem dX0_take_23 : decode cX0_take 23 = .ok (.invokestatic 93, 3) := by decide +kernel
theorem dX0_take_26 : decode cX0_take 26 = .ok (.istore 4, 2) := by decide +kernel
theorem dX0_take_28 : decode cX0_take 28 = .ok (.aload_n 0, 1) := by decide +kernel
theorem dX0_take_29 : decode cX0_take 29 = .ok (.iload_n 1, 1) := by decide +kernel
theorem dX0_take_30 : decode cX0_take 30 = .ok (.iload_n 2, 1) := by decide +kernel
theorem dX0_take_31 : decode cX0_take 31 = .ok (.invokevirtual 112, 3) := by decide +kernel
theorem dX0_take_34 : decode cX0_take 34 = .ok (.istore 5, 2) := by decide +kernel
theorem dX0_take_36 : decode cX0_take 36 = .ok (.iload_n 1, 1) := by decide +kernel
theorem dX0_take_37 : decode cX0_take 37 = .ok (.bipush 8, 2) := by decide +kernel
theorem dX0_take_39 : decode cX0_take 39 = .ok (.imul, 1) := by decide +kernel
theorem dX0_take_40 : decode cX0_take 40 = .ok (.iload_n 2, 1) := by decide +kernel
theorem dX0_take_41 : decode cX0_take 41 = .ok (.iadd, 1) := by decide +kernel
theorem dX0_take_42 : decode cX0_take 42 = .ok (.istore 6, 2) := by decide +kernel
theorem dX0_take_44 : decode cX0_take 44 = .ok (.iload_n 1, 1) := by decide +kernel
theorem dX0_take_45 : decode cX0_take 45 = .ok (.iconst 1, 1) := by decide +kernel
theorem dX0_take_46 : decode cX0_take 46 = .ok (.iadd, 1) := by decide +kernel
theorem dX0_take_47 : decode cX0_take 47 = .ok (.aload_n 0, 1) := by decide +kernel
theorem dX0_take_48 : decode cX0_take 48 = .ok (.getfield 46, 3) := by decide +kernel
theorem dX0_take_51 : decode cX0_take 51 = .ok (.if_icmp .ge 9, 3) := by decide +kernel
theorem dX0_take_54 : decode cX0_take 54 = .ok (.iload_n 1, 1) := by decide +kernel
theorem dX0_take_55 : decode cX0_take 55 = .ok (.iconst 1, 1) := by decide +kernel
theorem dX0_take_56 : decode cX0_take 56 = .ok (.iadd, 1) := by decide +kernel
theorem dX0_take_57 : decode cX0_take 57 = .ok (.goto 4, 3) := by decide +kernel
theorem dX0_take_60 : decode cX0_take 60 = .ok (.iconst 0, 1) := by decide +kernel
theorem dX0_take_61 : decode cX0_take 61 = .ok (.istore 7, 2) := by decide +kernel
theorem dX0_take_63 : decode cX0_take 63 = .ok (.aload_n 0, 1) := by decide +kernel
theorem dX0_take_64 : decode cX0_take 64 = .ok (.getfield 30, 3) := by decide +kernel
theorem dX0_take_67 : decode cX0_take 67 = .ok (.iload 6, 2) := by decide +kernel
theorem dX0_take_69 : decode cX0_take 69 = .ok (.dup2, 1) := by decide +kernel
theorem dX0_take_70 : decode cX0_take 70 = .ok (.iaload, 1) := by decide +kernel
theorem dX0_take_71 : decode cX0_take 71 = .ok (.iconst 1, 1) := by decide +kernel
theorem dX0_take_72 : decode cX0_take 72 = .ok (.isub, 1) := by decide +kernel
theorem dX0_take_73 : decode cX0_take 73 = .ok (.iastore, 1) := by decide +kernel
theorem dX0_take_74 : decode cX0_take 74 = .ok (.iload 7, 2) := by decide +kernel
theorem dX0_take_76 : decode cX0_take 76 = .ok (.iload_n 1, 1) := by decide +kernel
theorem dX0_take_77 : decode cX0_take 77 = .ok (.if_icmp .eq 63, 3) := by decide +kernel
theorem dX0_take_80 : decode cX0_take 80 = .ok (.iload 7, 2) := by decide +kernel
theorem dX0_take_82 : decode cX0_take 82 = .ok (.bipush 8, 2) := by decide +kernel
theorem dX0_take_84 : decode cX0_take 84 = .ok (.imul, 1) := by decide +kernel
theorem dX0_take_85 : decode cX0_take 85 = .ok (.iload_n 2, 1) := by decide +kernel
theorem dX0_take_86 : decode cX0_take 86 = .ok (.iadd, 1) := by decide +kernel
theorem dX0_take_87 : decode cX0_take 87 = .ok (.istore 8, 2) := by decide +kernel
theorem dX0_take_89 : decode cX0_take 89 = .ok (.iload 5, 2) := by decide +kernel
theorem dX0_take_91 : decode cX0_take 91 = .ok (.aload_n 0, 1) := by decide +kernel
theorem dX0_take_92 : decode cX0_take 92 = .ok (.getfield 30, 3) := by decide +kernel
theorem dX0_take_95 : decode cX0_take 95 = .ok (.iload 6, 2) := by decide +kernel
theorem dX0_take_97 : decode cX0_take 97 = .ok (.iaload, 1) := by decide +kernel
theorem dX0_take_98 : decode cX0_take 98 = .ok (.bipush 9, 2) := by decide +kernel
theorem dX0_take_100 : decode cX0_take 100 = .ok (.aload_n 0, 1) := by decide +kernel
theorem dX0_take_101 : decode cX0_take 101 = .ok (.getfield 30, 3) := by decide +kernel
theorem dX0_take_104 : decode cX0_take 104 = .ok (.iload 8, 2) := by decide +kernel
theorem dX0_take_106 : decode cX0_take 106 = .ok (.iaload, 1) := by decide +kernel
theorem dX0_take_107 : decode cX0_take 107 = .ok (.isub, 1) := by decide +kernel
theorem dX0_take_108 : decode cX0_take 108 = .ok (.invokestatic 115, 3) := by decide +kernel
theorem dX0_take_111 : decode cX0_take 111 = .ok (.invokestatic 115, 3) := by decide +kernel
theorem dX0_take_114 : decode cX0_take 114 = .ok (.istore 5, 2) := by decide +kernel
theorem dX0_take_116 : decode cX0_take 116 = .ok (.aload_n 0, 1) := by decide +kernel
theorem dX0_take_117 : decode cX0_take 117 = .ok (.getfield 30, 3) := by decide +kernel
theorem dX0_take_120 : decode cX0_take 120 = .ok (.iload 6, 2) := by decide +kernel
theorem dX0_take_122 : decode cX0_take 122 = .ok (.dup2, 1) := by decide +kernel
theorem dX0_take_123 : decode cX0_take 123 = .ok (.iaload, 1) := by decide +kernel
theorem dX0_take_124 : decode cX0_take 124 = .ok (.iload 5, 2) := by decide +kernel
theorem dX0_take_126 : decode cX0_take 126 = .ok (.isub, 1) := by decide +kernel
theorem dX0_take_127 : decode cX0_take 127 = .ok (.iastore, 1) := by decide +kernel
theorem dX0_take_128 : decode cX0_take 128 = .ok (.aload_n 0, 1) := by decide +kernel
theorem dX0_take_129 : decode cX0_take 129 = .ok (.getfield 30, 3) := by decide +kernel
theorem dX0_take_132 : decode cX0_take 132 = .ok (.iload 8, 2) := by decide +kernel
theorem dX0_take_134 : decode cX0_take 134 = .ok (.dup2, 1) := by decide +kernel
theorem dX0_take_135 : decode cX0_take 135 = .ok (.iaload, 1) := by decide +kernel
theorem dX0_take_136 : decode cX0_take 136 = .ok (.iload 5, 2) := by decide +kernel
theorem dX0_take_138 : decode cX0_take 138 = .ok (.iadd, 1) := by decide +kernel
theorem dX0_take_139 : decode cX0_take 139 = .ok (.iastore, 1) := by decide +kernel
theorem dX0_take_140 : decode cX0_take 140 = .ok (.aload_n 0, 1) := by decide +kernel
theorem dX0_take_141 : decode cX0_take 141 = .ok (.getfield 18, 3) := by decide +kernel
theorem dX0_take_144 : decode cX0_take 144 = .ok (.iload_n 1, 1) := by decide +kernel
theorem dX0_take_145 : decode cX0_take 145 = .ok (.iload 4, 2) := by decide +kernel
theorem dX0_take_147 : decode cX0_take 147 = .ok (.iastore, 1) := by decide +kernel
theorem dX0_take_148 : decode cX0_take 148 = .ok (.aload_n 0, 1) := by decide +kernel
theorem dX0_take_149 : decode cX0_take 149 = .ok (.getfield 21, 3) := by decide +kernel
theorem dX0_take_152 : decode cX0_take 152 = .ok (.iload_n 1, 1) := by decide +kernel
theorem dX0_take_153 : decode cX0_take 153 = .ok (.dup2, 1) := by decide +kernel
theorem dX0_take_154 : decode cX0_take 154 = .ok (.iaload, 1) := by decide +kernel
theorem dX0_take_155 : decode cX0_take 155 = .ok (.iconst 1, 1) := by decide +kernel
theorem dX0_take_156 : decode cX0_take 156 = .ok (.iload_n 2, 1) := by decide +kernel
theorem dX0_take_157 : decode cX0_take 157 = .ok (.ishl, 1) := by decide +kernel
theorem dX0_take_158 : decode cX0_take 158 = .ok (.ior, 1) := by decide +kernel
theorem dX0_take_159 : decode cX0_take 159 = .ok (.iastore, 1) := by decide +kernel
theorem dX0_take_160 : decode cX0_take 160 = .ok (.aload_n 0, 1) := by decide +kernel
theorem dX0_take_161 : decode cX0_take 161 = .ok (.getfield 24, 3) := by decide +kernel
theorem dX0_take_164 : decode cX0_take 164 = .ok (.iload_n 1, 1) := by decide +kernel
theorem dX0_take_165 : decode cX0_take 165 = .ok (.iload_n 2, 1) := by decide +kernel
theorem dX0_take_166 : decode cX0_take 166 = .ok (.iastore, 1) := by decide +kernel
theorem dX0_take_167 : decode cX0_take 167 = .ok (.aload_n 0, 1) := by decide +kernel
theorem dX0_take_168 : decode cX0_take 168 = .ok (.getfield 27, 3) := by decide +kernel
theorem dX0_take_171 : decode cX0_take 171 = .ok (.iload_n 1, 1) := by decide +kernel
theorem dX0_take_172 : decode cX0_take 172 = .ok (.iload_n 3, 1) := by decide +kernel
theorem dX0_take_173 : decode cX0_take 173 = .ok (.iastore, 1) := by decide +kernel
theorem dX0_take_174 : decode cX0_take 174 = .ok (.return_, 1) := by decide +kernel
theorem dX0_tries_0 : decode cX0_tries 0 = .ok (.iload_n 1, 1) := by decide +kernel
theorem dX0_tries_1 : decode cX0_tries 1 = .ok (.ifCond .lt 18, 3) := by decide +kernel
theorem dX0_tries_4 : decode cX0_tries 4 = .ok (.aload_n 0, 1) := by decide +kernel
theorem dX0_tries_5 : decode cX0_tries 5 = .ok (.iload_n 1, 1) := by decide +kernel
theorem dX0_tries_6 : decode cX0_tries 6 = .ok (.bipush 10, 2) := by decide +kernel
theorem dX0_tries_8 : decode cX0_tries 8 = .ok (.idiv, 1) := by decide +kernel
theorem dX0_tries_9 : decode cX0_tries 9 = .ok (.iload_n 1, 1) := by decide +kernel
theorem dX0_tries_10 : decode cX0_tries 10 = .ok (.bipush 10, 2) := by decide +kernel
theorem dX0_tries_12 : decode cX0_tries 12 = .ok (.irem, 1) := by decide +kernel
theorem dX0_tries_13 : decode cX0_tries 13 = .ok (.invokevirtual 118, 3) := by decide +kernel
theorem dX0_tries_16 : decode cX0_tries 16 = .ok (.ifCond .ne 5, 3) := by decide +kernel
theorem dX0_tries_19 : decode cX0_tries 19 = .ok (.iconst 0, 1) := by decide +kernel
theorem dX0_tries_20 : decode cX0_tries 20 = .ok (.ireturn, 1) := by decide +kernel
theorem dX0_tries_21 : decode cX0_tries 21 = .ok (.aload_n 0, 1) := by decide +kernel
theorem dX0_tries_22 : decode cX0_tries 22 = .ok (.iload_n 1, 1) := by decide +kernel
theorem dX0_tries_23 : decode cX0_tries 23 = .ok (.bipush 10, 2) := by decide +kernel
theorem dX0_tries_25 : decode cX0_tries 25 = .ok (.idiv, 1) := by decide +kernel
theorem dX0_tries_26 : decode cX0_tries 26 = .ok (.iload_n 1, 1) := by decide +kernel
theorem dX0_tries_27 : decode cX0_tries 27 = .ok (.bipush 10, 2) := by decide +kernel
theorem dX0_tries_29 : decode cX0_tries 29 = .ok (.irem, 1) := by decide +kernel
theorem dX0_tries_30 : decode cX0_tries 30 = .ok (.invokevirtual 121, 3) := by decide +kernel
theorem dX0_tries_33 : decode cX0_tries 33 = .ok (.iconst 1, 1) := by decide +kernel
theorem dX0_tries_34 : decode cX0_tries 34 = .ok (.ireturn, 1) := by decide +kernel
theorem dX0_pass_0 : decode cX0_pass 0 = .ok (.iconst 0, 1) := by decide +kernel
theorem dX0_pass_1 : decode cX0_pass 1 = .ok (.istore_n 1, 1) := by decide +kernel
theorem dX0_pass_2 : decode cX0_pass 2 = .ok (.iconst 0, 1) := by decide +kernel
theorem dX0_pass_3 : decode cX0_pass 3 = .ok (.istore_n 2, 1) := by decide +kernel
theorem dX0_pass_4 : decode cX0_pass 4 = .ok (.iload_n 2, 1) := by decide +kernel
theorem dX0_pass_5 : decode cX0_pass 5 = .ok (.aload_n 0, 1) := by decide +kernel
theorem dX0_pass_6 : decode cX0_pass 6 = .ok (.getfield 46, 3) := by decide +kernel
theorem dX0_pass_9 : decode cX0_pass 9 = .ok (.if_icmp .ge 58, 3) := by decide +kernel
theorem dX0_pass_12 : decode cX0_pass 12 = .ok (.aload_n 0, 1) := by decide +kernel
theorem dX0_pass_13 : decode cX0_pass 13 = .ok (.getfield 24, 3) := by decide +kernel
theorem dX0_pass_16 : decode cX0_pass 16 = .ok (.iload_n 2, 1) := by decide +kernel
theorem dX0_pass_17 : decode cX0_pass 17 = .ok (.iaload, 1) := by decide +kernel
theorem dX0_pass_18 : decode cX0_pass 18 = .ok (.iconst (-1), 1) := by decide +kernel
theorem dX0_pass_19 : decode cX0_pass 19 = .ok (.if_icmp .eq 42, 3) := by decide +kernel
theorem dX0_pass_22 : decode cX0_pass 22 = .ok (.aload_n 0, 1) := by decide +kernel
theorem dX0_pass_23 : decode cX0_pass 23 = .ok (.getfield 27, 3) := by decide +kernel
theorem dX0_pass_26 : decode cX0_pass 26 = .ok (.iload_n 2, 1) := by decide +kernel
theorem dX0_pass_27 : decode cX0_pass 27 = .ok (.dup2, 1) := by decide +kernel
theorem dX0_pass_28 : decode cX0_pass 28 = .ok (.iaload, 1) := by decide +kernel
theorem dX0_pass_29 : decode cX0_pass 29 = .ok (.iconst 1, 1) := by decide +kernel
theorem dX0_pass_30 : decode cX0_pass 30 = .ok (.isub, 1) := by decide +kernel
theorem dX0_pass_31 : decode cX0_pass 31 = .ok (.iastore, 1) := by decide +kernel
theorem dX0_pass_32 : decode cX0_pass 32 = .ok (.aload_n 0, 1) := by decide +kernel
theorem dX0_pass_33 : decode cX0_pass 33 = .ok (.getfield 27, 3) := by decide +kernel
theorem dX0_pass_36 : decode cX0_pass 36 = .ok (.iload_n 2, 1) := by decide +kernel
theorem dX0_pass_37 : decode cX0_pass 37 = .ok (.iaload, 1) := by decide +kernel
theorem dX0_pass_38 : decode cX0_pass 38 = .ok (.ifCond .gt 23, 3) := by decide +kernel
theorem dX0_pass_41 : decode cX0_pass 41 = .ok (.aload_n 0, 1) := by decide +kernel
theorem dX0_pass_42 : decode cX0_pass 42 = .ok (.getfield 27, 3) := by decide +kernel
theorem dX0_pass_45 : decode cX0_pass 45 = .ok (.iload_n 2, 1) := by decide +kernel
theorem dX0_pass_46 : decode cX0_pass 46 = .ok (.iconst 0, 1) := by decide +kernel
theorem dX0_pass_47 : decode cX0_pass 47 = .ok (.iastore, 1) := by decide +kernel
theorem dX0_pass_48 : decode cX0_pass 48 = .ok (.aload_n 0, 1) := by decide +kernel
theorem dX0_pass_49 : decode cX0_pass 49 = .ok (.getfield 24, 3) := by decide +kernel
theorem dX0_pass_52 : decode cX0_pass 52 = .ok (.iload_n 2, 1) := by decide +kernel
theorem dX0_pass_53 : decode cX0_pass 53 = .ok (.iconst (-1), 1) := by decide +kernel
theorem dX0_pass_54 : decode cX0_pass 54 = .ok (.iastore, 1) := by decide +kernel
theorem dX0_pass_55 : decode cX0_pass 55 = .ok (.iload_n 1, 1) := by decide +kernel
theorem dX0_pass_56 : decode cX0_pass 56 = .ok (.iconst 1, 1) := by decide +kernel
theorem dX0_pass_57 : decode cX0_pass 57 = .ok (.iload_n 2, 1) := by decide +kernel
theorem dX0_pass_58 : decode cX0_pass 58 = .ok (.ishl, 1) := by decide +kernel
theorem dX0_pass_59 : decode cX0_pass 59 = .ok (.ior, 1) := by decide +kernel
theorem dX0_pass_60 : decode cX0_pass 60 = .ok (.istore_n 1, 1) := by decide +kernel
theorem dX0_pass_61 : decode cX0_pass 61 = .ok (.iinc 2 1, 3) := by decide +kernel
theorem dX0_pass_64 : decode cX0_pass 64 = .ok (.goto (-60), 3) := by decide +kernel
theorem dX0_pass_67 : decode cX0_pass 67 = .ok (.aload_n 0, 1) := by decide +kernel
theorem dX0_pass_68 : decode cX0_pass 68 = .ok (.dup, 1) := by decide +kernel
theorem dX0_pass_69 : decode cX0_pass 69 = .ok (.getfield 50, 3) := by decide +kernel
theorem dX0_pass_72 : decode cX0_pass 72 = .ok (.iconst 1, 1) := by decide +kernel
theorem dX0_pass_73 : decode cX0_pass 73 = .ok (.iadd, 1) := by decide +kernel
theorem dX0_pass_74 : decode cX0_pass 74 = .ok (.putfield 50, 3) := by decide +kernel
theorem dX0_pass_77 : decode cX0_pass 77 = .ok (.iload_n 1, 1) := by decide +kernel
theorem dX0_pass_78 : decode cX0_pass 78 = .ok (.ireturn, 1) := by decide +kernel
theorem dX1_init_0 : decode cX1_init 0 = .ok (.aload_n 0, 1) := by decide +kernel
theorem dX1_init_1 : decode cX1_init 1 = .ok (.invokespecial 3, 3) := by decide +kernel
theorem dX1_init_4 : decode cX1_init 4 = .ok (.aload_n 0, 1) := by decide +kernel
theorem dX1_init_5 : decode cX1_init 5 = .ok (.bipush 40, 2) := by decide +kernel
theorem dX1_init_7 : decode cX1_init 7 = .ok (.newarray .int, 2) := by decide +kernel
theorem dX1_init_9 : decode cX1_init 9 = .ok (.putfield 9, 3) := by decide +kernel
theorem dX1_init_12 : decode cX1_init 12 = .ok (.aload_n 0, 1) := by decide +kernel
theorem dX1_init_13 : decode cX1_init 13 = .ok (.iconst (-1), 1) := by decide +kernel
theorem dX1_init_14 : decode cX1_init 14 = .ok (.putfield 15, 3) := by decide +kernel
theorem dX1_init_17 : decode cX1_init 17 = .ok (.return_, 1) := by decide +kernel
theorem dX1_isMissing_0 : decode cX1_isMissing 0 = .ok (.aload_n 0, 1) := by decide +kernel
theorem dX1_isMissing_1 : decode cX1_isMissing 1 = .ok (.getfield 15, 3) := by decide +kernel
theorem dX1_isMissing_4 : decode cX1_isMissing 4 = .ok (.ifCond .ge 7, 3) := by decide +kernel
theorem dX1_isMissing_7 : decode cX1_isMissing 7 = .ok (.iconst 1, 1) := by decide +kernel
theorem dX1_isMissing_8 : decode cX1_isMissing 8 = .ok (.goto 4, 3) := by decide +kernel
theorem dX1_isMissing_11 : decode cX1_isMissing 11 = .ok (.iconst 0, 1) := by decide +kernel
theorem dX1_isMissing_12 : decode cX1_isMissing 12 = .ok (.ireturn, 1) := by decide +kernel
theorem dX1_has_0 : decode cX1_has 0 = .ok (.iload_n 1, 1) := by decide +kernel
theorem dX1_has_1 : decode cX1_has 1 = .ok (.ifCond .lt 15, 3) := by decide +kernel
theorem dX1_has_4 : decode cX1_has 4 = .ok (.iload_n 1, 1) := by decide +kernel
theorem dX1_has_5 : decode cX1_has 5 = .ok (.aload_n 0, 1) := by decide +kernel
theorem dX1_has_6 : decode cX1_has 6 = .ok (.getfield 19, 3) := by decide +kernel
theorem dX1_has_9 : decode cX1_has 9 = .ok (.if_icmp .ge 7, 3) := by decide +kernel
theorem dX1_has_12 : decode cX1_has 12 = .ok (.iconst 1, 1) := by decide +kernel
theorem dX1_has_13 : decode cX1_has 13 = .ok (.goto 4, 3) := by decide +kernel
theorem dX1_has_16 : decode cX1_has 16 = .ok (.iconst 0, 1) := by decide +kernel
theorem dX1_has_17 : decode cX1_has 17 = .ok (.ireturn, 1) := by decide +kernel
theorem dX1_holds_0 : decode cX1_holds 0 = .ok (.iload_n 1, 1) := by decide +kernel
theorem dX1_holds_1 : decode cX1_holds 1 = .ok (.ifCond .lt 29, 3) := by decide +kernel
theorem dX1_holds_4 : decode cX1_holds 4 = .ok (.iload_n 2, 1) := by decide +kernel
theorem dX1_holds_5 : decode cX1_holds 5 = .ok (.ifCond .lt 25, 3) := by decide +kernel
theorem dX1_holds_8 : decode cX1_holds 8 = .ok (.iload_n 2, 1) := by decide +kernel
theorem dX1_holds_9 : decode cX1_holds 9 = .ok (.aload_n 0, 1) := by decide +kernel
theorem dX1_holds_10 : decode cX1_holds 10 = .ok (.getfield 19, 3) := by decide +kernel
theorem dX1_holds_13 : decode cX1_holds 13 = .ok (.if_icmp .gt 17, 3) := by decide +kernel
theorem dX1_holds_16 : decode cX1_holds 16 = .ok (.iload_n 1, 1) := by decide +kernel
theorem dX1_holds_17 : decode cX1_holds 17 = .ok (.aload_n 0, 1) := by decide +kernel
theorem dX1_holds_18 : decode cX1_holds 18 = .ok (.getfield 19, 3) := by decide +kernel
theorem dX1_holds_21 : decode cX1_holds 21 = .ok (.iload_n 2, 1) := by decide +kernel
theorem dX1_holds_22 : decode cX1_holds 22 = .ok (.isub, 1) := by decide +kernel
theorem dX1_holds_23 : decode cX1_holds 23 = .ok (.if_icmp .gt 7, 3) := by decide +kernel
theorem dX1_holds_26 : decode cX1_holds 26 = .ok (.iconst 1, 1) := by decide +kernel
theorem dX1_holds_27 : decode cX1_holds 27 = .ok (.goto 4, 3) := by decide +kernel
theorem dX1_holds_30 : decode cX1_holds 30 = .ok (.iconst 0, 1) := by decide +kernel
theorem dX1_holds_31 : decode cX1_holds 31 = .ok (.ireturn, 1) := by decide +kernel
theorem dX1_becomes_0 : decode cX1_becomes 0 = .ok (.aload_n 0, 1) := by decide +kernel
theorem dX1_becomes_1 : decode cX1_becomes 1 = .ok (.iload_n 1, 1) := by decide +kernel
theorem dX1_becomes_2 : decode cX1_becomes 2 = .ok (.putfield 15, 3) := by decide +kernel
theorem dX1_becomes_5 : decode cX1_becomes 5 = .ok (.aload_n 0, 1) := by decide +kernel
theorem dX1_becomes_6 : decode cX1_becomes 6 = .ok (.iconst 0, 1) := by decide +kernel
theorem dX1_becomes_7 : decode cX1_becomes 7 = .ok (.iload_n 2, 1) := by decide +kernel
theorem dX1_becomes_8 : decode cX1_becomes 8 = .ok (.bipush 40, 2) := by decide +kernel
theorem dX1_becomes_10 : decode cX1_becomes 10 = .ok (.invokestatic 22, 3) := by decide +kernel
theorem dX1_becomes_13 : decode cX1_becomes 13 = .ok (.invokestatic 28, 3) := by decide +kernel
theorem dX1_becomes_16 : decode cX1_becomes 16 = .ok (.putfield 19, 3) := by decide +kernel
theorem dX1_becomes_19 : decode cX1_becomes 19 = .ok (.iconst 0, 1) := by decide +kernel
theorem dX1_becomes_20 : decode cX1_becomes 20 = .ok (.istore_n 3, 1) := by decide +kernel
theorem dX1_becomes_21 : decode cX1_becomes 21 = .ok (.iload_n 3, 1) := by decide +kernel
theorem dX1_becomes_22 : decode cX1_becomes 22 = .ok (.aload_n 0, 1) := by decide +kernel
theorem dX1_becomes_23 : decode cX1_becomes 23 = .ok (.getfield 19, 3) := by decide +kernel
theorem dX1_becomes_26 : decode cX1_becomes 26 = .ok (.if_icmp .ge 16, 3) := by decide +kernel
theorem dX1_becomes_29 : decode cX1_becomes 29 = .ok (.aload_n 0, 1) := by decide +kernel
theorem dX1_becomes_30 : decode cX1_becomes 30 = .ok (.getfield 9, 3) := by decide +kernel
theorem dX1_becomes_33 : decode cX1_becomes 33 = .ok (.iload_n 3, 1) := by decide +kernel
theorem dX1_becomes_34 : decode cX1_becomes 34 = .ok (.iconst 0, 1) := by decide +kernel
theorem dX1_becomes_35 : decode cX1_becomes 35 = .ok (.iastore, 1) := by decide +kernel
theorem dX1_becomes_36 : decode cX1_becomes 36 = .ok (.iinc 3 1, 3) := by decide +kernel
theorem dX1_becomes_39 : decode cX1_becomes 39 = .ok (.goto (-18), 3) := by decide +kernel
theorem dX1_becomes_42 : decode cX1_becomes 42 = .ok (.return_, 1) := by decide +kernel
theorem dX1_write_0 : decode cX1_write 0 = .ok (.aload_n 0, 1) := by decide +kernel
theorem dX1_write_1 : decode cX1_write 1 = .ok (.iload_n 1, 1) := by decide +kernel
theorem dX1_write_2 : decode cX1_write 2 = .ok (.invokevirtual 31, 3) := by decide +kernel
theorem dX1_write_5 : decode cX1_write 5 = .ok (.ifCond .eq 35, 3) := by decide +kernel
theorem dX1_write_8 : decode cX1_write 8 = .ok (.aload_n 0, 1) := by decide +kernel
theorem dX1_write_9 : decode cX1_write 9 = .ok (.getfield 9, 3) := by decide +kernel
theorem dX1_write_12 : decode cX1_write 12 = .ok (.iload_n 1, 1) := by decide +kernel
theorem dX1_write_13 : decode cX1_write 13 = .ok (.aload_n 0, 1) := by decide +kernel
theorem dX1_write_14 : decode cX1_write 14 = .ok (.getfield 15, 3) := by decide +kernel
theorem dX1_write_17 : decode cX1_write 17 = .ok (.ifCond .ne 8, 3) := by decide +kernel
theorem dX1_write_20 : decode cX1_write 20 = .ok (.iload_n 2, 1) := by decide +kernel
theorem dX1_write_21 : decode cX1_write 21 = .ok (.i2b, 1) := by decide +kernel
theorem dX1_write_22 : decode cX1_write 22 = .ok (.goto 17, 3) := by decide +kernel
theorem dX1_write_25 : decode cX1_write 25 = .ok (.aload_n 0, 1) := by decide +kernel
theorem dX1_write_26 : decode cX1_write 26 = .ok (.getfield 15, 3) := by decide +kernel
theorem dX1_write_29 : decode cX1_write 29 = .ok (.iconst 1, 1) := by decide +kernel
theorem dX1_write_30 : decode cX1_write 30 = .ok (.if_icmp .ne 8, 3) := by decide +kernel
theorem dX1_write_33 : decode cX1_write 33 = .ok (.iload_n 2, 1) := by decide +kernel
theorem dX1_write_34 : decode cX1_write 34 = .ok (.i2s, 1) := by decide +kernel
theorem dX1_write_35 : decode cX1_write 35 = .ok (.goto 4, 3) := by decide +kernel
theorem dX1_write_38 : decode cX1_write 38 = .ok (.iload_n 2, 1) := by decide +kernel
theorem dX1_write_39 : decode cX1_write 39 = .ok (.iastore, 1) := by decide +kernel
theorem dX1_write_40 : decode cX1_write 40 = .ok (.return_, 1) := by decide +kernel
theorem dX2_init_0 : decode cX2_init 0 = .ok (.aload_n 0, 1) := by decide +kernel
theorem dX2_init_1 : decode cX2_init 1 = .ok (.invokespecial 3, 3) := by decide +kernel
theorem dX2_init_4 : decode cX2_init 4 = .ok (.aload_n 0, 1) := by decide +kernel
theorem dX2_init_5 : decode cX2_init 5 = .ok (.sipush 160, 3) := by decide +kernel
theorem dX2_init_8 : decode cX2_init 8 = .ok (.newarray .int, 2) := by decide +kernel
theorem dX2_init_10 : decode cX2_init 10 = .ok (.putfield 9, 3) := by decide +kernel
theorem dX2_init_13 : decode cX2_init 13 = .ok (.aload_n 0, 1) := by decide +kernel
theorem dX2_init_14 : decode cX2_init 14 = .ok (.sipush 160, 3) := by decide +kernel
theorem dX2_init_17 : decode cX2_init 17 = .ok (.newarray .int, 2) := by decide +kernel
theorem dX2_init_19 : decode cX2_init 19 = .ok (.putfield 15, 3) := by decide +kernel
theorem dX2_init_22 : decode cX2_init 22 = .ok (.aload_n 0, 1) := by decide +kernel
theorem dX2_init_23 : decode cX2_init 23 = .ok (.iconst 3, 1) := by decide +kernel
theorem dX2_init_24 : decode cX2_init 24 = .ok (.newarray .int, 2) := by decide +kernel
theorem dX2_init_26 : decode cX2_init 26 = .ok (.putfield 18, 3) := by decide +kernel
theorem dX2_init_29 : decode cX2_init 29 = .ok (.return_, 1) := by decide +kernel
theorem dX2_add_0 : decode cX2_add 0 = .ok (.aload_n 0, 1) := by decide +kernel
theorem dX2_add_1 : decode cX2_add 1 = .ok (.getfield 21, 3) := by decide +kernel
theorem dX2_add_4 : decode cX2_add 4 = .ok (.sipush 160, 3) := by decide +kernel
theorem dX2_add_7 : decode cX2_add 7 = .ok (.if_icmp .ge 23, 3) := by decide +kernel
theorem dX2_add_10 : decode cX2_add 10 = .ok (.aload_n 0, 1) := by decide +kernel
theorem dX2_add_11 : decode cX2_add 11 = .ok (.getfield 9, 3) := by decide +kernel
theorem dX2_add_14 : decode cX2_add 14 = .ok (.aload_n 0, 1) := by decide +kernel
theorem dX2_add_15 : decode cX2_add 15 = .ok (.getfield 21, 3) := by decide +kernel
theorem dX2_add_18 : decode cX2_add 18 = .ok (.iload_n 1, 1) := by decide +kernel
theorem dX2_add_19 : decode cX2_add 19 = .ok (.iastore, 1) := by decide +kernel
theorem dX2_add_20 : decode cX2_add 20 = .ok (.aload_n 0, 1) := by decide +kernel
theorem dX2_add_21 : decode cX2_add 21 = .ok (.dup, 1) := by decide +kernel
theorem dX2_add_22 : decode cX2_add 22 = .ok (.getfield 21, 3) := by decide +kernel
theorem dX2_add_25 : decode cX2_add 25 = .ok (.iconst 1, 1) := by decide +kernel
theorem dX2_add_26 : decode cX2_add 26 = .ok (.iadd, 1) := by decide +kernel
theorem dX2_add_27 : decode cX2_add 27 = .ok (.putfield 21, 3) := by decide +kernel
theorem dX2_add_30 : decode cX2_add 30 = .ok (.return_, 1) := by decide +kernel
theorem dX2_asText_0 : decode cX2_asText 0 = .ok (.new 25, 3) := by decide +kernel
theorem dX2_asText_3 : decode cX2_asText 3 = .ok (.dup, 1) := by decide +kernel
theorem dX2_asText_4 : decode cX2_asText 4 = .ok (.aload_n 0, 1) := by decide +kernel
theorem dX2_asText_5 : decode cX2_asText 5 = .ok (.getfield 15, 3) := by decide +kernel
theorem dX2_asText_8 : decode cX2_asText 8 = .ok (.aload_n 0, 1) := by decide +kernel
theorem dX2_asText_9 : decode cX2_asText 9 = .ok (.getfield 27, 3) := by decide +kernel
theorem dX2_asText_12 : decode cX2_asText 12 = .ok (.aload_n 0, 1) := by decide +kernel
theorem dX2_asText_13 : decode cX2_asText 13 = .ok (.getfield 18, 3) := by decide +kernel
theorem dX2_asText_16 : decode cX2_asText 16 = .ok (.invokespecial 30, 3) := by decide +kernel
theorem dX2_asText_19 : decode cX2_asText 19 = .ok (.areturn, 1) := by decide +kernel
theorem dX2_isText_0 : decode cX2_isText 0 = .ok (.aload_n 0, 1) := by decide +kernel
theorem dX2_isText_1 : decode cX2_isText 1 = .ok (.iconst 0, 1) := by decide +kernel
theorem dX2_isText_2 : decode cX2_isText 2 = .ok (.putfield 33, 3) := by decide +kernel
theorem dX2_isText_5 : decode cX2_isText 5 = .ok (.aload_n 0, 1) := by decide +kernel
theorem dX2_isText_6 : decode cX2_isText 6 = .ok (.iconst 0, 1) := by decide +kernel
theorem dX2_isText_7 : decode cX2_isText 7 = .ok (.putfield 27, 3) := by decide +kernel
theorem dX2_isText_10 : decode cX2_isText 10 = .ok (.aload_n 0, 1) := by decide +kernel
theorem dX2_isText_11 : decode cX2_isText 11 = .ok (.invokevirtual 36, 3) := by decide +kernel
theorem dX2_isText_14 : decode cX2_isText 14 = .ok (.iconst 0, 1) := by decide +kernel
theorem dX2_isText_15 : decode cX2_isText 15 = .ok (.istore_n 1, 1) := by decide +kernel
theorem dX2_isText_16 : decode cX2_isText 16 = .ok (.iload_n 1, 1) := by decide +kernel
theorem dX2_isText_17 : decode cX2_isText 17 = .ok (.iconst 3, 1) := by decide +kernel
theorem dX2_isText_18 : decode cX2_isText 18 = .ok (.if_icmp .ge 50, 3) := by decide +kernel
theorem dX2_isText_21 : decode cX2_isText 21 = .ok (.aload_n 0, 1) := by decide +kernel
theorem dX2_isText_22 : decode cX2_isText 22 = .ok (.sipush 1000, 3) := by decide +kernel
theorem dX2_isText_25 : decode cX2_isText 25 = .ok (.iload_n 1, 1) := by decide +kernel
theorem dX2_isText_26 : decode cX2_isText 26 = .ok (.iadd, 1) := by decide +kernel
theorem dX2_isText_27 : decode cX2_isText 27 = .ok (.invokevirtual 39, 3) := by decide +kernel
theorem dX2_isText_30 : decode cX2_isText 30 = .ok (.ifCond .eq 20, 3) := by decide +kernel
theorem dX2_isText_33 : decode cX2_isText 33 = .ok (.aload_n 0, 1) := by decide +kernel
theorem dX2_isText_34 : decode cX2_isText 34 = .ok (.iconst 0, 1) := by decide +kernel
theorem dX2_isText_35 : decode cX2_isText 35 = .ok (.invokevirtual 43, 3) := by decide +kernel
theorem dX2_isText_38 : decode cX2_isText 38 = .ok (.ifCond .eq 12, 3) := by decide +kernel
theorem dX2_isText_41 : decode cX2_isText 41 = .ok (.aload_n 0, 1) := by decide +kernel
theorem dX2_isText_42 : decode cX2_isText 42 = .ok (.bipush 59, 2) := by decide +kernel
theorem dX2_isText_44 : decode cX2_isText 44 = .ok (.invokevirtual 39, 3) := by decide +kernel
theorem dX2_isText_47 : decode cX2_isText 47 = .ok (.ifCond .ne 5, 3) := by decide +kernel
theorem dX2_isText_50 : decode cX2_isText 50 = .ok (.iconst 0, 1) := by decide +kernel
theorem dX2_isText_51 : decode cX2_isText 51 = .ok (.ireturn, 1) := by decide +kernel
theorem dX2_isText_52 : decode cX2_isText 52 = .ok (.aload_n 0, 1) := by decide +kernel
theorem dX2_isText_53 : decode cX2_isText 53 = .ok (.getfield 18, 3) := by decide +kernel
theorem dX2_isText_56 : decode cX2_isText 56 = .ok (.iload_n 1, 1) := by decide +kernel
theorem dX2_isText_57 : decode cX2_isText 57 = .ok (.aload_n 0, 1) := by decide +kernel
theorem dX2_isText_58 : decode cX2_isText 58 = .ok (.getfield 27, 3) := by decide +kernel
theorem dX2_isText_61 : decode cX2_isText 61 = .ok (.iastore, 1) := by decide +kernel
theorem dX2_isText_62 : decode cX2_isText 62 = .ok (.iinc 1 1, 3) := by decide +kernel
theorem dX2_isText_65 : decode cX2_isText 65 = .ok (.goto (-49), 3) := by decide +kernel
theorem dX2_isText_68 : decode cX2_isText 68 = .ok (.aload_n 0, 1) := by decide +kernel
theorem dX2_isText_69 : decode cX2_isText 69 = .ok (.getfield 46, 3) := by decide +kernel
theorem dX2_isText_72 : decode cX2_isText 72 = .ok (.ifCond .ne 7, 3) := by decide +kernel
theorem dX2_isText_75 : decode cX2_isText 75 = .ok (.iconst 1, 1) := by decide +kernel
theorem dX2_isText_76 : decode cX2_isText 76 = .ok (.goto 4, 3) := by decide +kernel
theorem dX2_isText_79 : decode cX2_isText 79 = .ok (.iconst 0, 1) := by decide +kernel
theorem dX2_isText_80 : decode cX2_isText 80 = .ok (.ireturn, 1) := by decide +kernel
theorem dX2_passes_0 : decode cX2_passes 0 = .ok (.aload_n 0, 1) := by decide +kernel
theorem dX2_passes_1 : decode cX2_passes 1 = .ok (.getfield 46, 3) := by decide +kernel
theorem dX2_passes_4 : decode cX2_passes 4 = .ok (.iload_n 1, 1) := by decide +kernel
theorem dX2_passes_5 : decode cX2_passes 5 = .ok (.if_icmp .eq 5, 3) := by decide +kernel
theorem dX2_passes_8 : decode cX2_passes 8 = .ok (.iconst 0, 1) := by decide +kernel
theorem dX2_passes_9 : decode cX2_passes 9 = .ok (.ireturn, 1) := by decide +kernel
theorem dX2_passes_10 : decode cX2_passes 10 = .ok (.aload_n 0, 1) := by decide +kernel
theorem dX2_passes_11 : decode cX2_passes 11 = .ok (.invokevirtual 36, 3) := by decide +kernel
theorem dX2_passes_14 : decode cX2_passes 14 = .ok (.iconst 1, 1) := by decide +kernel
theorem dX2_passes_15 : decode cX2_passes 15 = .ok (.ireturn, 1) := by decide +kernel
theorem dX2_emit_0 : decode cX2_emit 0 = .ok (.aload_n 0, 1) := by decide +kernel
theorem dX2_emit_1 : decode cX2_emit 1 = .ok (.getfield 27, 3) := by decide +kernel
theorem dX2_emit_4 : decode cX2_emit 4 = .ok (.sipush 160, 3) := by decide +kernel
theorem dX2_emit_7 : decode cX2_emit 7 = .ok (.if_icmp .ge 23, 3) := by decide +kernel
theorem dX2_emit_10 : decode cX2_emit 10 = .ok (.aload_n 0, 1) := by decide +kernel
theorem dX2_emit_11 : decode cX2_emit 11 = .ok (.getfield 15, 3) := by decide +kernel
theorem dX2_emit_14 : decode cX2_emit 14 = .ok (.aload_n 0, 1) := by decide +kernel
theorem dX2_emit_15 : decode cX2_emit 15 = .ok (.getfield 27, 3) := by decide +kernel
theorem dX2_emit_18 : decode cX2_emit 18 = .ok (.iload_n 1, 1) := by decide +kernel
theorem dX2_emit_19 : decode cX2_emit 19 = .ok (.iastore, 1) := by decide +kernel
theorem dX2_emit_20 : decode cX2_emit 20 = .ok (.aload_n 0, 1) := by decide +kernel
theorem dX2_emit_21 : decode cX2_emit 21 = .ok (.dup, 1) := by decide +kernel
theorem dX2_emit_22 : decode cX2_emit 22 = .ok (.getfield 27, 3) := by decide +kernel
theorem dX2_emit_25 : decode cX2_emit 25 = .ok (.iconst 1, 1) := by decide +kernel
theorem dX2_emit_26 : decode cX2_emit 26 = .ok (.iadd, 1) := by decide +kernel
theorem dX2_emit_27 : decode cX2_emit 27 = .ok (.putfield 27, 3) := by decide +kernel
theorem dX2_emit_30 : decode cX2_emit 30 = .ok (.return_, 1) := by decide +kernel
theorem dX2_readAny_0 : decode cX2_readAny 0 = .ok (.aload_n 0, 1) := by decide +kernel
theorem dX2_readAny_1 : decode cX2_readAny 1 = .ok (.iload_n 1, 1) := by decide +kernel
theorem dX2_readAny_2 : decode cX2_readAny 2 = .ok (.invokevirtual 49, 3) := by decide +kernel
theorem dX2_readAny_5 : decode cX2_readAny 5 = .ok (.istore_n 2, 1) := by decide +kernel
theorem dX2_readAny_6 : decode cX2_readAny 6 = .ok (.iconst 0, 1) := by decide +kernel
theorem dX2_readAny_7 : decode cX2_readAny 7 = .ok (.istore_n 3, 1) := by decide +kernel
theorem dX2_readAny_8 : decode cX2_readAny 8 = .ok (.iload_n 3, 1) := by decide +kernel
theorem dX2_readAny_9 : decode cX2_readAny 9 = .ok (.sipush 160, 3) := by decide +kernel
theorem dX2_readAny_12 : decode cX2_readAny 12 = .ok (.if_icmp .ge 39, 3) := by decide +kernel
theorem dX2_readAny_15 : decode cX2_readAny 15 = .ok (.iload_n 2, 1) := by decide +kernel
theorem dX2_readAny_16 : decode cX2_readAny 16 = .ok (.ifCond .eq 35, 3) := by decide +kernel
theorem dX2_readAny_19 : decode cX2_readAny 19 = .ok (.aload_n 0, 1) := by decide +kernel
theorem dX2_readAny_20 : decode cX2_readAny 20 = .ok (.getfield 46, 3) := by decide +kernel
theorem dX2_readAny_23 : decode cX2_readAny 23 = .ok (.sipush 1003, 3) := by decide +kernel
theorem dX2_readAny_26 : decode cX2_readAny 26 = .ok (.if_icmp .ne 25, 3) := by decide +kernel
theorem dX2_readAny_29 : decode cX2_readAny 29 = .ok (.aload_n 0, 1) := by decide +kernel
theorem dX2_readAny_30 : decode cX2_readAny 30 = .ok (.invokevirtual 36, 3) := by decide +kernel
theorem dX2_readAny_33 : decode cX2_readAny 33 = .ok (.aload_n 0, 1) := by decide +kernel
theorem dX2_readAny_34 : decode cX2_readAny 34 = .ok (.iload_n 1, 1) := by decide +kernel
theorem dX2_readAny_35 : decode cX2_readAny 35 = .ok (.invokevirtual 49, 3) := by decide +kernel
theorem dX2_readAny_38 : decode cX2_readAny 38 = .ok (.istore_n 2, 1) := by decide +kernel
theorem dX2_readAny_39 : decode cX2_readAny 39 = .ok (.aload_n 0, 1) := by decide +kernel
theorem dX2_readAny_40 : decode cX2_readAny 40 = .ok (.bipush (-9), 2) := by decide +kernel
theorem dX2_readAny_42 : decode cX2_readAny 42 = .ok (.invokevirtual 52, 3) := by decide +kernel
theorem dX2_readAny_45 : decode cX2_readAny 45 = .ok (.iinc 3 1, 3) := by decide +kernel
theorem dX2_readAny_48 : decode cX2_readAny 48 = .ok (.goto (-40), 3) := by decide +kernel
theorem dX2_readAny_51 : decode cX2_readAny 51 = .ok (.iload_n 2, 1) := by decide +kernel
theorem dX2_readAny_52 : decode cX2_readAny 52 = .ok (.ireturn, 1) := by decide +kernel
theorem dX2_readBoth_0 : decode cX2_readBoth 0 = .ok (.aload_n 0, 1) := by decide +kernel
theorem dX2_readBoth_1 : decode cX2_readBoth 1 = .ok (.iload_n 1, 1) := by decide +kernel
theorem dX2_readBoth_2 : decode cX2_readBoth 2 = .ok (.invokevirtual 56, 3) := by decide +kernel
theorem dX2_readBoth_5 : decode cX2_readBoth 5 = .ok (.istore_n 2, 1) := by decide +kernel
theorem dX2_readBoth_6 : decode cX2_readBoth 6 = .ok (.iconst 0, 1) := by decide +kernel
theorem dX2_readBoth_7 : decode cX2_readBoth 7 = .ok (.istore_n 3, 1) := by decide +kernel
theorem dX2_readBoth_8 : decode cX2_readBoth 8 = .ok (.iload_n 3, 1) := by decide +kernel
theorem dX2_readBoth_9 : decode cX2_readBoth 9 = .ok (.sipush 160, 3) := by decide +kernel
theorem dX2_readBoth_12 : decode cX2_readBoth 12 = .ok (.if_icmp .ge 39, 3) := by decide +kernel
theorem dX2_readBoth_15 : decode cX2_readBoth 15 = .ok (.iload_n 2, 1) := by decide +kernel
theorem dX2_readBoth_16 : decode cX2_readBoth 16 = .ok (.ifCond .eq 35, 3) := by decide +kernel
theorem dX2_readBoth_19 : decode cX2_readBoth 19 = .ok (.aload_n 0, 1) := by decide +kernel
theorem dX2_readBoth_20 : decode cX2_readBoth 20 = .ok (.getfield 46, 3) := by decide +kernel
theorem dX2_readBoth_23 : decode cX2_readBoth 23 = .ok (.sipush 1004, 3) := by decide +kernel
theorem dX2_readBoth_26 : decode cX2_readBoth 26 = .ok (.if_icmp .ne 25, 3) := by decide +kernel
theorem dX2_readBoth_29 : decode cX2_readBoth 29 = .ok (.aload_n 0, 1) := by decide +kernel
theorem dX2_readBoth_30 : decode cX2_readBoth 30 = .ok (.invokevirtual 36, 3) := by decide +kernel
theorem dX2_readBoth_33 : decode cX2_readBoth 33 = .ok (.aload_n 0, 1) := by decide +kernel
theorem dX2_readBoth_34 : decode cX2_readBoth 34 = .ok (.iload_n 1, 1) := by decide +kernel
theorem dX2_readBoth_35 : decode cX2_readBoth 35 = .ok (.invokevirtual 56, 3) := by decide +kernel
theorem dX2_readBoth_38 : decode cX2_readBoth 38 = .ok (.istore_n 2, 1) := by decide +kernel
theorem dX2_readBoth_39 : decode cX2_readBoth 39 = .ok (.aload_n 0, 1) := by decide +kernel
theorem dX2_readBoth_40 : decode cX2_readBoth 40 = .ok (.bipush (-10), 2) := by decide +kernel
theorem dX2_readBoth_42 : decode cX2_readBoth 42 = .ok (.invokevirtual 52, 3) := by decide +kernel
theorem dX2_readBoth_45 : decode cX2_readBoth 45 = .ok (.iinc 3 1, 3) := by decide +kernel
theorem dX2_readBoth_48 : decode cX2_readBoth 48 = .ok (.goto (-40), 3) := by decide +kernel
theorem dX2_readBoth_51 : decode cX2_readBoth 51 = .ok (.iload_n 2, 1) := by decide +kernel
theorem dX2_readBoth_52 : decode cX2_readBoth 52 = .ok (.ireturn, 1) := by decide +kernel
theorem dX2_readNot_0 : decode cX2_readNot 0 = .ok (.aload_n 0, 1) := by decide +kernel
theorem dX2_readNot_1 : decode cX2_readNot 1 = .ok (.getfield 46, 3) := by decide +kernel
theorem dX2_readNot_4 : decode cX2_readNot 4 = .ok (.sipush 1005, 3) := by decide +kernel
theorem dX2_readNot_7 : decode cX2_readNot 7 = .ok (.if_icmp .ne 30, 3) := by decide +kernel
theorem dX2_readNot_10 : decode cX2_readNot 10 = .ok (.iload_n 1, 1) := by decide +kernel
theorem dX2_readNot_11 : decode cX2_readNot 11 = .ok (.iconst 5, 1) := by decide +kernel
theorem dX2_readNot_12 : decode cX2_readNot 12 = .ok (.if_icmp .lt 5, 3) := by decide +kernel
theorem dX2_readNot_15 : decode cX2_readNot 15 = .ok (.iconst 0, 1) := by decide +kernel
theorem dX2_readNot_16 : decode cX2_readNot 16 = .ok (.ireturn, 1) := by decide +kernel
theorem dX2_readNot_17 : decode cX2_readNot 17 = .ok (.aload_n 0, 1) := by decide +kernel
theorem dX2_readNot_18 : decode cX2_readNot 18 = .ok (.invokevirtual 36, 3) := by decide +kernel
theorem dX2_readNot_21 : decode cX2_readNot 21 = .ok (.aload_n 0, 1) := by decide +kernel
theorem dX2_readNot_22 : decode cX2_readNot 22 = .ok (.iload_n 1, 1) := by decide +kernel
theorem dX2_readNot_23 : decode cX2_readNot 23 = .ok (.iconst 1, 1) := by decide +kernel
theorem dX2_readNot_24 : decode cX2_readNot 24 = .ok (.iadd, 1) := by decide +kernel
theorem dX2_readNot_25 : decode cX2_readNot 25 = .ok (.invokevirtual 56, 3) := by decide +kernel
theorem dX2_readNot_28 : decode cX2_readNot 28 = .ok (.istore_n 2, 1) := by decide +kernel
theorem dX2_readNot_29 : decode cX2_readNot 29 = .ok (.aload_n 0, 1) := by decide +kernel
theorem dX2_readNot_30 : decode cX2_readNot 30 = .ok (.bipush (-8), 2) := by decide +kernel
theorem dX2_readNot_32 : decode cX2_readNot 32 = .ok (.invokevirtual 52, 3) := by decide +kernel
theorem dX2_readNot_35 : decode cX2_readNot 35 = .ok (.iload_n 2, 1) := by decide +kernel
theorem dX2_readNot_36 : decode cX2_readNot 36 = .ok (.ireturn, 1) := by decide +kernel
theorem dX2_readNot_37 : decode cX2_readNot 37 = .ok (.aload_n 0, 1) := by decide +kernel
theorem dX2_readNot_38 : decode cX2_readNot 38 = .ok (.iload_n 1, 1) := by decide +kernel
theorem dX2_readNot_39 : decode cX2_readNot 39 = .ok (.invokevirtual 59, 3) := by decide +kernel
theorem dX2_readNot_42 : decode cX2_readNot 42 = .ok (.istore_n 2, 1) := by decide +kernel
theorem dX2_readNot_43 : decode cX2_readNot 43 = .ok (.iload_n 2, 1) := by decide +kernel
theorem dX2_readNot_44 : decode cX2_readNot 44 = .ok (.ifCond .eq 53, 3) := by decide +kernel
theorem dX2_readNot_47 : decode cX2_readNot 47 = .ok (.aload_n 0, 1) := by decide +kernel
theorem dX2_readNot_48 : decode cX2_readNot 48 = .ok (.getfield 46, 3) := by decide +kernel
theorem dX2_readNot_51 : decode cX2_readNot 51 = .ok (.bipush 60, 2) := by decide +kernel
theorem dX2_readNot_53 : decode cX2_readNot 53 = .ok (.if_icmp .eq 12, 3) := by decide +kernel
theorem dX2_readNot_56 : decode cX2_readNot 56 = .ok (.aload_n 0, 1) := by decide +kernel
theorem dX2_readNot_57 : decode cX2_readNot 57 = .ok (.getfield 46, 3) := by decide +kernel
theorem dX2_readNot_60 : decode cX2_readNot 60 = .ok (.bipush 61, 2) := by decide +kernel
theorem dX2_readNot_62 : decode cX2_readNot 62 = .ok (.if_icmp .ne 35, 3) := by decide +kernel
theorem dX2_readNot_65 : decode cX2_readNot 65 = .ok (.aload_n 0, 1) := by decide +kernel
theorem dX2_readNot_66 : decode cX2_readNot 66 = .ok (.getfield 46, 3) := by decide +kernel
theorem dX2_readNot_69 : decode cX2_readNot 69 = .ok (.bipush 60, 2) := by decide +kernel
theorem dX2_readNot_71 : decode cX2_readNot 71 = .ok (.if_icmp .ne 8, 3) := by decide +kernel
theorem dX2_readNot_74 : decode cX2_readNot 74 = .ok (.bipush (-11), 2) := by decide +kernel
theorem dX2_readNot_76 : decode cX2_readNot 76 = .ok (.goto 5, 3) := by decide +kernel
theorem dX2_readNot_79 : decode cX2_readNot 79 = .ok (.bipush (-12), 2) := by decide +kernel
theorem dX2_readNot_81 : decode cX2_readNot 81 = .ok (.istore_n 3, 1) := by decide +kernel
theorem dX2_readNot_82 : decode cX2_readNot 82 = .ok (.aload_n 0, 1) := by decide +kernel
theorem dX2_readNot_83 : decode cX2_readNot 83 = .ok (.invokevirtual 36, 3) := by decide +kernel
theorem dX2_readNot_86 : decode cX2_readNot 86 = .ok (.aload_n 0, 1) := by decide +kernel
theorem dX2_readNot_87 : decode cX2_readNot 87 = .ok (.iload_n 1, 1) := by decide +kernel
theorem dX2_readNot_88 : decode cX2_readNot 88 = .ok (.invokevirtual 59, 3) := by decide +kernel
theorem dX2_readNot_91 : decode cX2_readNot 91 = .ok (.istore_n 2, 1) := by decide +kernel
theorem dX2_readNot_92 : decode cX2_readNot 92 = .ok (.aload_n 0, 1) := by decide +kernel
theorem dX2_readNot_93 : decode cX2_readNot 93 = .ok (.iload_n 3, 1) := by decide +kernel
theorem dX2_readNot_94 : decode cX2_readNot 94 = .ok (.invokevirtual 52, 3) := by decide +kernel
theorem dX2_readNot_97 : decode cX2_readNot 97 = .ok (.iload_n 2, 1) := by decide +kernel
theorem dX2_readNot_98 : decode cX2_readNot 98 = .ok (.ireturn, 1) := by decide +kernel
theorem dX2_readSum_0 : decode cX2_readSum 0 = .ok (.aload_n 0, 1) := by decide +kernel
theorem dX2_readSum_1 : decode cX2_readSum 1 = .ok (.iload_n 1, 1) := by decide +kernel
theorem dX2_readSum_2 : decode cX2_readSum 2 = .ok (.invokevirtual 62, 3) := by decide +kernel
theorem dX2_readSum_5 : decode cX2_readSum 5 = .ok (.istore_n 2, 1) := by decide +kernel
theorem dX2_readSum_6 : decode cX2_readSum 6 = .ok (.iconst 0, 1) := by decide +kernel
theorem dX2_readSum_7 : decode cX2_readSum 7 = .ok (.istore_n 3, 1) := by decide +kernel
theorem dX2_readSum_8 : decode cX2_readSum 8 = .ok (.iload_n 3, 1) := by decide +kernel
theorem dX2_readSum_9 : decode cX2_readSum 9 = .ok (.sipush 160, 3) := by decide +kernel
theorem dX2_readSum_12 : decode cX2_readSum 12 = .ok (.if_icmp .ge 65, 3) := by decide +kernel
theorem dX2_readSum_15 : decode cX2_readSum 15 = .ok (.iload_n 2, 1) := by decide +kernel
theorem dX2_readSum_16 : decode cX2_readSum 16 = .ok (.ifCond .eq 61, 3) := by decide +kernel
theorem dX2_readSum_19 : decode cX2_readSum 19 = .ok (.aload_n 0, 1) := by decide +kernel
theorem dX2_readSum_20 : decode cX2_readSum 20 = .ok (.getfield 46, 3) := by decide +kernel
theorem dX2_readSum_23 : decode cX2_readSum 23 = .ok (.bipush 43, 2) := by decide +kernel
theorem dX2_readSum_25 : decode cX2_readSum 25 = .ok (.if_icmp .eq 12, 3) := by decide +kernel
theorem dX2_readSum_28 : decode cX2_readSum 28 = .ok (.aload_n 0, 1) := by decide +kernel
theorem dX2_readSum_29 : decode cX2_readSum 29 = .ok (.getfield 46, 3) := by decide +kernel
theorem dX2_readSum_32 : decode cX2_readSum 32 = .ok (.bipush 45, 2) := by decide +kernel
theorem dX2_readSum_34 : decode cX2_readSum 34 = .ok (.if_icmp .ne 43, 3) := by decide +kernel
theorem dX2_readSum_37 : decode cX2_readSum 37 = .ok (.aload_n 0, 1) := by decide +kernel
theorem dX2_readSum_38 : decode cX2_readSum 38 = .ok (.getfield 46, 3) := by decide +kernel
theorem dX2_readSum_41 : decode cX2_readSum 41 = .ok (.bipush 43, 2) := by decide +kernel
theorem dX2_readSum_43 : decode cX2_readSum 43 = .ok (.if_icmp .ne 8, 3) := by decide +kernel
theorem dX2_readSum_46 : decode cX2_readSum 46 = .ok (.bipush (-13), 2) := by decide +kernel
theorem dX2_readSum_48 : decode cX2_readSum 48 = .ok (.goto 5, 3) := by decide +kernel
theorem dX2_readSum_51 : decode cX2_readSum 51 = .ok (.bipush (-14), 2) := by decide +kernel
theorem dX2_readSum_53 : decode cX2_readSum 53 = .ok (.istore 4, 2) := by decide +kernel
theorem dX2_readSum_55 : decode cX2_readSum 55 = .ok (.aload_n 0, 1) := by decide +kernel
theorem dX2_readSum_56 : decode cX2_readSum 56 = .ok (.invokevirtual 36, 3) := by decide +kernel
theorem dX2_readSum_59 : decode cX2_readSum 59 = .ok (.aload_n 0, 1) := by decide +kernel
theorem dX2_readSum_60 : decode cX2_readSum 60 = .ok (.iload_n 1, 1) := by decide +kernel
theorem dX2_readSum_61 : decode cX2_readSum 61 = .ok (.invokevirtual 62, 3) := by decide +kernel
theorem dX2_readSum_64 : decode cX2_readSum 64 = .ok (.istore_n 2, 1) := by decide +kernel
theorem dX2_readSum_65 : decode cX2_readSum 65 = .ok (.aload_n 0, 1) := by decide +kernel
theorem dX2_readSum_66 : decode cX2_readSum 66 = .ok (.iload 4, 2) := by decide +kernel
theorem dX2_readSum_68 : decode cX2_readSum 68 = .ok (.invokevirtual 52, 3) := by decide +kernel
theorem dX2_readSum_71 : decode cX2_readSum 71 = .ok (.iinc 3 1, 3) := by decide +kernel
theorem dX2_readSum_74 : decode cX2_readSum 74 = .ok (.goto (-66), 3) := by decide +kernel
theorem dX2_readSum_77 : decode cX2_readSum 77 = .ok (.iload_n 2, 1) := by decide +kernel
theorem dX2_readSum_78 : decode cX2_readSum 78 = .ok (.ireturn, 1) := by decide +kernel
theorem dX2_readTerm_0 : decode cX2_readTerm 0 = .ok (.aload_n 0, 1) := by decide +kernel
theorem dX2_readTerm_1 : decode cX2_readTerm 1 = .ok (.iload_n 1, 1) := by decide +kernel
theorem dX2_readTerm_2 : decode cX2_readTerm 2 = .ok (.invokevirtual 65, 3) := by decide +kernel
theorem dX2_readTerm_5 : decode cX2_readTerm 5 = .ok (.istore_n 2, 1) := by decide +kernel
theorem dX2_readTerm_6 : decode cX2_readTerm 6 = .ok (.iconst 0, 1) := by decide +kernel
theorem dX2_readTerm_7 : decode cX2_readTerm 7 = .ok (.istore_n 3, 1) := by decide +kernel
theorem dX2_readTerm_8 : decode cX2_readTerm 8 = .ok (.iload_n 3, 1) := by decide +kernel
theorem dX2_readTerm_9 : decode cX2_readTerm 9 = .ok (.sipush 160, 3) := by decide +kernel
theorem dX2_readTerm_12 : decode cX2_readTerm 12 = .ok (.if_icmp .ge 38, 3) := by decide +kernel
theorem dX2_readTerm_15 : decode cX2_readTerm 15 = .ok (.iload_n 2, 1) := by decide +kernel
theorem dX2_readTerm_16 : decode cX2_readTerm 16 = .ok (.ifCond .eq 34, 3) := by decide +kernel
theorem dX2_readTerm_19 : decode cX2_readTerm 19 = .ok (.aload_n 0, 1) := by decide +kernel
theorem dX2_readTerm_20 : decode cX2_readTerm 20 = .ok (.getfield 46, 3) := by decide +kernel
theorem dX2_readTerm_23 : decode cX2_readTerm 23 = .ok (.bipush 42, 2) := by decide +kernel
theorem dX2_readTerm_25 : decode cX2_readTerm 25 = .ok (.if_icmp .ne 25, 3) := by decide +kernel
theorem dX2_readTerm_28 : decode cX2_readTerm 28 = .ok (.aload_n 0, 1) := by decide +kernel
theorem dX2_readTerm_29 : decode cX2_readTerm 29 = .ok (.invokevirtual 36, 3) := by decide +kernel
theorem dX2_readTerm_32 : decode cX2_readTerm 32 = .ok (.aload_n 0, 1) := by decide +kernel
theorem dX2_readTerm_33 : decode cX2_readTerm 33 = .ok (.iload_n 1, 1) := by decide +kernel
theorem dX2_readTerm_34 : decode cX2_readTerm 34 = .ok (.invokevirtual 65, 3) := by decide +kernel
theorem dX2_readTerm_37 : decode cX2_readTerm 37 = .ok (.istore_n 2, 1) := by decide +kernel
theorem dX2_readTerm_38 : decode cX2_readTerm 38 = .ok (.aload_n 0, 1) := by decide +kernel
theorem dX2_readTerm_39 : decode cX2_readTerm 39 = .ok (.bipush (-15), 2) := by decide +kernel
theorem dX2_readTerm_41 : decode cX2_readTerm 41 = .ok (.invokevirtual 52, 3) := by decide +kernel
theorem dX2_readTerm_44 : decode cX2_readTerm 44 = .ok (.iinc 3 1, 3) := by decide +kernel
theorem dX2_readTerm_47 : decode cX2_readTerm 47 = .ok (.goto (-39), 3) := by decide +kernel
theorem dX2_readTerm_50 : decode cX2_readTerm 50 = .ok (.iload_n 2, 1) := by decide +kernel
theorem dX2_readTerm_51 : decode cX2_readTerm 51 = .ok (.ireturn, 1) := by decide +kernel
theorem dX2_readOne_0 : decode cX2_readOne 0 = .ok (.aload_n 0, 1) := by decide +kernel
theorem dX2_readOne_1 : decode cX2_readOne 1 = .ok (.getfield 46, 3) := by decide +kernel
theorem dX2_readOne_4 : decode cX2_readOne 4 = .ok (.iconst 1, 1) := by decide +kernel
theorem dX2_readOne_5 : decode cX2_readOne 5 = .ok (.if_icmp .ne 17, 3) := by decide +kernel
theorem dX2_readOne_8 : decode cX2_readOne 8 = .ok (.aload_n 0, 1) := by decide +kernel
theorem dX2_readOne_9 : decode cX2_readOne 9 = .ok (.aload_n 0, 1) := by decide +kernel
theorem dX2_readOne_10 : decode cX2_readOne 10 = .ok (.getfield 68, 3) := by decide +kernel
theorem dX2_readOne_13 : decode cX2_readOne 13 = .ok (.invokevirtual 52, 3) := by decide +kernel
theorem dX2_readOne_16 : decode cX2_readOne 16 = .ok (.aload_n 0, 1) := by decide +kernel
theorem dX2_readOne_17 : decode cX2_readOne 17 = .ok (.invokevirtual 36, 3) := by decide +kernel
theorem dX2_readOne_20 : decode cX2_readOne 20 = .ok (.iconst 1, 1) := by decide +kernel
theorem dX2_readOne_21 : decode cX2_readOne 21 = .ok (.ireturn, 1) := by decide +kernel
theorem dX2_readOne_22 : decode cX2_readOne 22 = .ok (.aload_n 0, 1) := by decide +kernel
theorem dX2_readOne_23 : decode cX2_readOne 23 = .ok (.getfield 46, 3) := by decide +kernel
theorem dX2_readOne_26 : decode cX2_readOne 26 = .ok (.sipush 1006, 3) := by decide +kernel
theorem dX2_readOne_29 : decode cX2_readOne 29 = .ok (.if_icmp .lt 23, 3) := by decide +kernel
theorem dX2_readOne_32 : decode cX2_readOne 32 = .ok (.aload_n 0, 1) := by decide +kernel
theorem dX2_readOne_33 : decode cX2_readOne 33 = .ok (.iconst (-1), 1) := by decide +kernel
theorem dX2_readOne_34 : decode cX2_readOne 34 = .ok (.aload_n 0, 1) := by decide +kernel
theorem dX2_readOne_35 : decode cX2_readOne 35 = .ok (.getfield 46, 3) := by decide +kernel
theorem dX2_readOne_38 : decode cX2_readOne 38 = .ok (.sipush 1006, 3) := by decide +kernel
theorem dX2_readOne_41 : decode cX2_readOne 41 = .ok (.isub, 1) := by decide +kernel
theorem dX2_readOne_42 : decode cX2_readOne 42 = .ok (.isub, 1) := by decide +kernel
theorem dX2_readOne_43 : decode cX2_readOne 43 = .ok (.invokevirtual 52, 3) := by decide +kernel
theorem dX2_readOne_46 : decode cX2_readOne 46 = .ok (.aload_n 0, 1) := by decide +kernel
theorem dX2_readOne_47 : decode cX2_readOne 47 = .ok (.invokevirtual 36, 3) := by decide +kernel
theorem dX2_readOne_50 : decode cX2_readOne 50 = .ok (.iconst 1, 1) := by decide +kernel
theorem dX2_readOne_51 : decode cX2_readOne 51 = .ok (.ireturn, 1) := by decide +kernel
theorem dX2_readOne_52 : decode cX2_readOne 52 = .ok (.aload_n 0, 1) := by decide +kernel
theorem dX2_readOne_53 : decode cX2_readOne 53 = .ok (.getfield 46, 3) := by decide +kernel
theorem dX2_readOne_56 : decode cX2_readOne 56 = .ok (.bipush 45, 2) := by decide +kernel
theorem dX2_readOne_58 : decode cX2_readOne 58 = .ok (.if_icmp .eq 12, 3) := by decide +kernel
theorem dX2_readOne_61 : decode cX2_readOne 61 = .ok (.aload_n 0, 1) := by decide +kernel
theorem dX2_readOne_62 : decode cX2_readOne 62 = .ok (.getfield 46, 3) := by decide +kernel
theorem dX2_readOne_65 : decode cX2_readOne 65 = .ok (.bipush 40, 2) := by decide +kernel
theorem dX2_readOne_67 : decode cX2_readOne 67 = .ok (.if_icmp .ne 8, 3) := by decide +kernel
theorem dX2_readOne_70 : decode cX2_readOne 70 = .ok (.iload_n 1, 1) := by decide +kernel
theorem dX2_readOne_71 : decode cX2_readOne 71 = .ok (.iconst 5, 1) := by decide +kernel
theorem dX2_readOne_72 : decode cX2_readOne 72 = .ok (.if_icmp .lt 5, 3) := by decide +kernel
theorem dX2_readOne_75 : decode cX2_readOne 75 = .ok (.iconst 0, 1) := by decide +kernel
theorem dX2_readOne_76 : decode cX2_readOne 76 = .ok (.ireturn, 1) := by decide +kernel
theorem dX2_readOne_77 : decode cX2_readOne 77 = .ok (.aload_n 0, 1) := by decide +kernel
theorem dX2_readOne_78 : decode cX2_readOne 78 = .ok (.getfield 46, 3) := by decide +kernel
theorem dX2_readOne_81 : decode cX2_readOne 81 = .ok (.bipush 40, 2) := by decide +kernel
theorem dX2_readOne_83 : decode cX2_readOne 83 = .ok (.if_icmp .ne 32, 3) := by decide +kernel
theorem dX2_readOne_86 : decode cX2_readOne 86 = .ok (.aload_n 0, 1) := by decide +kernel
theorem dX2_readOne_87 : decode cX2_readOne 87 = .ok (.invokevirtual 36, 3) := by decide +kernel
theorem dX2_readOne_90 : decode cX2_readOne 90 = .ok (.aload_n 0, 1) := by decide +kernel
theorem dX2_readOne_91 : decode cX2_readOne 91 = .ok (.iload_n 1, 1) := by decide +kernel
theorem dX2_readOne_92 : decode cX2_readOne 92 = .ok (.iconst 1, 1) := by decide +kernel
theorem dX2_readOne_93 : decode cX2_readOne 93 = .ok (.iadd, 1) := by decide +kernel
theorem dX2_readOne_94 : decode cX2_readOne 94 = .ok (.invokevirtual 43, 3) := by decide +kernel
theorem dX2_readOne_97 : decode cX2_readOne 97 = .ok (.ifCond .eq 16, 3) := by decide +kernel
theorem dX2_readOne_100 : decode cX2_readOne 100 = .ok (.aload_n 0, 1) := by decide +kernel
theorem dX2_readOne_101 : decode cX2_readOne 101 = .ok (.bipush 41, 2) := by decide +kernel
theorem dX2_readOne_103 : decode cX2_readOne 103 = .ok (.invokevirtual 39, 3) := by decide +kernel
theorem dX2_readOne_106 : decode cX2_readOne 106 = .ok (.ifCond .eq 7, 3) := by decide +kernel
theorem dX2_readOne_109 : decode cX2_readOne 109 = .ok (.iconst 1, 1) := by decide +kernel
theorem dX2_readOne_110 : decode cX2_readOne 110 = .ok (.goto 4, 3) := by decide +kernel
theorem dX2_readOne_113 : decode cX2_readOne 113 = .ok (.iconst 0, 1) := by decide +kernel
theorem dX2_readOne_114 : decode cX2_readOne 114 = .ok (.ireturn, 1) := by decide +kernel
theorem dX2_readOne_115 : decode cX2_readOne 115 = .ok (.aload_n 0, 1) := by decide +kernel
theorem dX2_readOne_116 : decode cX2_readOne 116 = .ok (.invokevirtual 36, 3) := by decide +kernel
theorem dX2_readOne_119 : decode cX2_readOne 119 = .ok (.aload_n 0, 1) := by decide +kernel
theorem dX2_readOne_120 : decode cX2_readOne 120 = .ok (.iload_n 1, 1) := by decide +kernel
theorem dX2_readOne_121 : decode cX2_readOne 121 = .ok (.iconst 1, 1) := by decide +kernel
theorem dX2_readOne_122 : decode cX2_readOne 122 = .ok (.iadd, 1) := by decide +kernel
theorem dX2_readOne_123 : decode cX2_readOne 123 = .ok (.invokevirtual 65, 3) := by decide +kernel
theorem dX2_readOne_126 : decode cX2_readOne 126 = .ok (.istore_n 2, 1) := by decide +kernel
theorem dX2_readOne_127 : decode cX2_readOne 127 = .ok (.aload_n 0, 1) := by decide +kernel
theorem dX2_readOne_128 : decode cX2_readOne 128 = .ok (.bipush (-7), 2) := by decide +kernel
theorem dX2_readOne_130 : decode cX2_readOne 130 = .ok (.invokevirtual 52, 3) := by decide +kernel
theorem dX2_readOne_133 : decode cX2_readOne 133 = .ok (.iload_n 2, 1) := by decide +kernel
theorem dX2_readOne_134 : decode cX2_readOne 134 = .ok (.ireturn, 1) := by decide +kernel
theorem dX2_readToken_0 : decode cX2_readToken 0 = .ok (.aload_n 0, 1) := by decide +kernel
theorem dX2_readToken_1 : decode cX2_readToken 1 = .ok (.getfield 33, 3) := by decide +kernel
theorem dX2_readToken_4 : decode cX2_readToken 4 = .ok (.aload_n 0, 1) := by decide +kernel
theorem dX2_readToken_5 : decode cX2_readToken 5 = .ok (.getfield 21, 3) := by decide +kernel
theorem dX2_readToken_8 : decode cX2_readToken 8 = .ok (.if_icmp .ge 44, 3) := by decide +kernel
theorem dX2_readToken_11 : decode cX2_readToken 11 = .ok (.aload_n 0, 1) := by decide +kernel
theorem dX2_readToken_12 : decode cX2_readToken 12 = .ok (.getfield 9, 3) := by decide +kernel
theorem dX2_readToken_15 : decode cX2_readToken 15 = .ok (.aload_n 0, 1) := by decide +kernel
theorem dX2_readToken_16 : decode cX2_readToken 16 = .ok (.getfield 33, 3) := by decide +kernel
theorem dX2_readToken_19 : decode cX2_readToken 19 = .ok (.iaload, 1) := by decide +kernel
theorem dX2_readToken_20 : decode cX2_readToken 20 = .ok (.bipush 32, 2) := by decide +kernel
theorem dX2_readToken_22 : decode cX2_readToken 22 = .ok (.if_icmp .eq 17, 3) := by decide +kernel
theorem dX2_readToken_25 : decode cX2_readToken 25 = .ok (.aload_n 0, 1) := by decide +kernel
theorem dX2_readToken_26 : decode cX2_readToken 26 = .ok (.getfield 9, 3) := by decide +kernel
theorem dX2_readToken_29 : decode cX2_readToken 29 = .ok (.aload_n 0, 1) := by decide +kernel
theorem dX2_readToken_30 : decode cX2_readToken 30 = .ok (.getfield 33, 3) := by decide +kernel
theorem dX2_readToken_33 : decode cX2_readToken 33 = .ok (.iaload, 1) := by decide +kernel
theorem dX2_readToken_34 : decode cX2_readToken 34 = .ok (.bipush 10, 2) := by decide +kernel
theorem dX2_readToken_36 : decode cX2_readToken 36 = .ok (.if_icmp .ne 16, 3) := by decide +kernel
theorem dX2_readToken_39 : decode cX2_readToken 39 = .ok (.aload_n 0, 1) := by decide +kernel
theorem dX2_readToken_40 : decode cX2_readToken 40 = .ok (.dup, 1) := by decide +kernel
theorem dX2_readToken_41 : decode cX2_readToken 41 = .ok (.getfield 33, 3) := by decide +kernel
theorem dX2_readToken_44 : decode cX2_readToken 44 = .ok (.iconst 1, 1) := by decide +kernel
theorem dX2_readToken_45 : decode cX2_readToken 45 = .ok (.iadd, 1) := by decide +kernel
theorem dX2_readToken_46 : decode cX2_readToken 46 = .ok (.putfield 33, 3) := by decide +kernel
theorem dX2_readToken_49 : decode cX2_readToken 49 = .ok (.goto (-49), 3) := by decide +kernel
theorem dX2_readToken_52 : decode cX2_readToken 52 = .ok (.aload_n 0, 1) := by decide +kernel
theorem dX2_readToken_53 : decode cX2_readToken 53 = .ok (.aload_n 0, 1) := by decide +kernel
theorem dX2_readToken_54 : decode cX2_readToken 54 = .ok (.getfield 33, 3) := by decide +kernel
theorem dX2_readToken_57 : decode cX2_readToken 57 = .ok (.putfield 71, 3) := by decide +kernel
theorem dX2_readToken_60 : decode cX2_readToken 60 = .ok (.aload_n 0, 1) := by decide +kernel
theorem dX2_readToken_61 : decode cX2_readToken 61 = .ok (.getfield 33, 3) := by decide +kernel
theorem dX2_readToken_64 : decode cX2_readToken 64 = .ok (.aload_n 0, 1) := by decide +kernel
theorem dX2_readToken_65 : decode cX2_readToken 65 = .ok (.getfield 21, 3) := by decide +kernel
theorem dX2_readToken_68 : decode cX2_readToken 68 = .ok (.if_icmp .lt 11, 3) := by decide +kernel
theorem dX2_readToken_71 : decode cX2_readToken 71 = .ok (.aload_n 0, 1) := by decide +kernel
theorem dX2_readToken_72 : decode cX2_readToken 72 = .ok (.iconst 0, 1) := by decide +kernel
theorem dX2_readToken_73 : decode cX2_readToken 73 = .ok (.putfield 46, 3) := by decide +kernel
theorem dX2_readToken_76 : decode cX2_readToken 76 = .ok (.goto 89, 3) := by decide +kernel
theorem dX2_readToken_79 : decode cX2_readToken 79 = .ok (.aload_n 0, 1) := by decide +kernel
theorem dX2_readToken_80 : decode cX2_readToken 80 = .ok (.getfield 9, 3) := by decide +kernel
theorem dX2_readToken_83 : decode cX2_readToken 83 = .ok (.aload_n 0, 1) := by decide +kernel
theorem dX2_readToken_84 : decode cX2_readToken 84 = .ok (.getfield 33, 3) := by decide +kernel
theorem dX2_readToken_87 : decode cX2_readToken 87 = .ok (.iaload, 1) := by decide +kernel
theorem dX2_readToken_88 : decode cX2_readToken 88 = .ok (.invokestatic 74, 3) := by decide +kernel
theorem dX2_readToken_91 : decode cX2_readToken 91 = .ok (.ifCond .eq 10, 3) := by decide +kernel
theorem dX2_readToken_94 : decode cX2_readToken 94 = .ok (.aload_n 0, 1) := by decide +kernel
theorem dX2_readToken_95 : decode cX2_readToken 95 = .ok (.invokevirtual 77, 3) := by decide +kernel
theorem dX2_readToken_98 : decode cX2_readToken 98 = .ok (.goto 67, 3) := by decide +kernel
theorem dX2_readToken_101 : decode cX2_readToken 101 = .ok (.aload_n 0, 1) := by decide +kernel
theorem dX2_readToken_102 : decode cX2_readToken 102 = .ok (.getfield 9, 3) := by decide +kernel
theorem dX2_readToken_105 : decode cX2_readToken 105 = .ok (.aload_n 0, 1) := by decide +kernel
theorem dX2_readToken_106 : decode cX2_readToken 106 = .ok (.getfield 33, 3) := by decide +kernel
theorem dX2_readToken_109 : decode cX2_readToken 109 = .ok (.iaload, 1) := by decide +kernel
theorem dX2_readToken_110 : decode cX2_readToken 110 = .ok (.invokestatic 80, 3) := by decide +kernel
theorem dX2_readToken_113 : decode cX2_readToken 113 = .ok (.ifCond .eq 10, 3) := by decide +kernel
theorem dX2_readToken_116 : decode cX2_readToken 116 = .ok (.aload_n 0, 1) := by decide +kernel
theorem dX2_readToken_117 : decode cX2_readToken 117 = .ok (.invokevirtual 83, 3) := by decide +kernel
theorem dX2_readToken_120 : decode cX2_readToken 120 = .ok (.goto 45, 3) := by decide +kernel
theorem dX2_readToken_123 : decode cX2_readToken 123 = .ok (.aload_n 0, 1) := by decide +kernel
theorem dX2_readToken_124 : decode cX2_readToken 124 = .ok (.aload_n 0, 1) := by decide +kernel
theorem dX2_readToken_125 : decode cX2_readToken 125 = .ok (.getfield 9, 3) := by decide +kernel
theorem dX2_readToken_128 : decode cX2_readToken 128 = .ok (.aload_n 0, 1) := by decide +kernel
theorem dX2_readToken_129 : decode cX2_readToken 129 = .ok (.getfield 33, 3) := by decide +kernel
theorem dX2_readToken_132 : decode cX2_readToken 132 = .ok (.iaload, 1) := by decide +kernel
theorem dX2_readToken_133 : decode cX2_readToken 133 = .ok (.invokestatic 86, 3) := by decide +kernel
theorem dX2_readToken_136 : decode cX2_readToken 136 = .ok (.ifCond .eq 15, 3) := by decide +kernel
theorem dX2_readToken_139 : decode cX2_readToken 139 = .ok (.aload_n 0, 1) := by decide +kernel
theorem dX2_readToken_140 : decode cX2_readToken 140 = .ok (.getfield 9, 3) := by decide +kernel
theorem dX2_readToken_143 : decode cX2_readToken 143 = .ok (.aload_n 0, 1) := by decide +kernel
theorem dX2_readToken_144 : decode cX2_readToken 144 = .ok (.getfield 33, 3) := by decide +kernel
theorem dX2_readToken_147 : decode cX2_readToken 147 = .ok (.iaload, 1) := by decide +kernel
theorem dX2_readToken_148 : decode cX2_readToken 148 = .ok (.goto 4, 3) := by decide +kernel
theorem dX2_readToken_151 : decode cX2_readToken 151 = .ok (.iconst 2, 1) := by decide +kernel
theorem dX2_readToken_152 : decode cX2_readToken 152 = .ok (.putfield 46, 3) := by decide +kernel
theorem dX2_readToken_155 : decode cX2_readToken 155 = .ok (.aload_n 0, 1) := by decide +kernel
theorem dX2_readToken_156 : decode cX2_readToken 156 = .ok (.dup, 1) := by decide +kernel
theorem dX2_readToken_157 : decode cX2_readToken 157 = .ok (.getfield 33, 3) := by decide +kernel
theorem dX2_readToken_160 : decode cX2_readToken 160 = .ok (.iconst 1, 1) := by decide +kernel
theorem dX2_readToken_161 : decode cX2_readToken 161 = .ok (.iadd, 1) := by decide +kernel
theorem dX2_readToken_162 : decode cX2_readToken 162 = .ok (.putfield 33, 3) := by decide +kernel
theorem dX2_readToken_165 : decode cX2_readToken 165 = .ok (.return_, 1) := by decide +kernel
theorem dX2_readWord_0 : decode cX2_readWord 0 = .ok (.aload_n 0, 1) := by decide +kernel
theorem dX2_readWord_1 : decode cX2_readWord 1 = .ok (.getfield 33, 3) := by decide +kernel
theorem dX2_readWord_4 : decode cX2_readWord 4 = .ok (.aload_n 0, 1) := by decide +kernel
theorem dX2_readWord_5 : decode cX2_readWord 5 = .ok (.getfield 21, 3) := by decide +kernel
theorem dX2_readWord_8 : decode cX2_readWord 8 = .ok (.if_icmp .ge 31, 3) := by decide +kernel
theorem dX2_readWord_11 : decode cX2_readWord 11 = .ok (.aload_n 0, 1) := by decide +kernel
theorem dX2_readWord_12 : decode cX2_readWord 12 = .ok (.getfield 9, 3) := by decide +kernel
theorem dX2_readWord_15 : decode cX2_readWord 15 = .ok (.aload_n 0, 1) := by decide +kernel
theorem dX2_readWord_16 : decode cX2_readWord 16 = .ok (.getfield 33, 3) := by decide +kernel
theorem dX2_readWord_19 : decode cX2_readWord 19 = .ok (.iaload, 1) := by decide +kernel
theorem dX2_readWord_20 : decode cX2_readWord 20 = .ok (.invokestatic 74, 3) := by decide +kernel
theorem dX2_readWord_23 : decode cX2_readWord 23 = .ok (.ifCond .eq 16, 3) := by decide +kernel
theorem dX2_readWord_26 : decode cX2_readWord 26 = .ok (.aload_n 0, 1) := by decide +kernel
theorem dX2_readWord_27 : decode cX2_readWord 27 = .ok (.dup, 1) := by decide +kernel
theorem dX2_readWord_28 : decode cX2_readWord 28 = .ok (.getfield 33, 3) := by decide +kernel
theorem dX2_readWord_31 : decode cX2_readWord 31 = .ok (.iconst 1, 1) := by decide +kernel
theorem dX2_readWord_32 : decode cX2_readWord 32 = .ok (.iadd, 1) := by decide +kernel
theorem dX2_readWord_33 : decode cX2_readWord 33 = .ok (.putfield 33, 3) := by decide +kernel
theorem dX2_readWord_36 : decode cX2_readWord 36 = .ok (.goto (-36), 3) := by decide +kernel
theorem dX2_readWord_39 : decode cX2_readWord 39 = .ok (.aload_n 0, 1) := by decide +kernel
theorem dX2_readWord_40 : decode cX2_readWord 40 = .ok (.iconst 2, 1) := by decide +kernel
theorem dX2_readWord_41 : decode cX2_readWord 41 = .ok (.putfield 46, 3) := by decide +kernel
theorem dX2_readWord_44 : decode cX2_readWord 44 = .ok (.iconst 0, 1) := by decide +kernel
theorem dX2_readWord_45 : decode cX2_readWord 45 = .ok (.istore_n 1, 1) := by decide +kernel
theorem dX2_readWord_46 : decode cX2_readWord 46 = .ok (.iload_n 1, 1) := by decide +kernel
theorem dX2_readWord_47 : decode cX2_readWord 47 = .ok (.bipush 12, 2) := by decide +kernel
theorem dX2_readWord_49 : decode cX2_readWord 49 = .ok (.if_icmp .ge 29, 3) := by decide +kernel
theorem dX2_readWord_52 : decode cX2_readWord 52 = .ok (.aload_n 0, 1) := by decide +kernel
theorem dX2_readWord_53 : decode cX2_readWord 53 = .ok (.iload_n 1, 1) := by decide +kernel
theorem dX2_readWord_54 : decode cX2_readWord 54 = .ok (.invokestatic 89, 3) := by decide +kernel
theorem dX2_readWord_57 : decode cX2_readWord 57 = .ok (.invokevirtual 93, 3) := by decide +kernel
theorem dX2_readWord_60 : decode cX2_readWord 60 = .ok (.ifCond .eq 12, 3) := by decide +kernel
theorem dX2_readWord_63 : decode cX2_readWord 63 = .ok (.aload_n 0, 1) := by decide +kernel
theorem dX2_readWord_64 : decode cX2_readWord 64 = .ok (.sipush 1000, 3) := by decide +kernel
theorem dX2_readWord_67 : decode cX2_readWord 67 = .ok (.iload_n 1, 1) := by decide +kernel
theorem dX2_readWord_68 : decode cX2_readWord 68 = .ok (.iadd, 1) := by decide +kernel
theorem dX2_readWord_69 : decode cX2_readWord 69 = .ok (.putfield 46, 3) := by decide +kernel
theorem dX2_readWord_72 : decode cX2_readWord 72 = .ok (.iinc 1 1, 3) := by decide +kernel
theorem dX2_readWord_75 : decode cX2_readWord 75 = .ok (.goto (-29), 3) := by decide +kernel
theorem dX2_readWord_78 : decode cX2_readWord 78 = .ok (.return_, 1) := by decide +kernel
theorem dX2_readNumber_0 : decode cX2_readNumber 0 = .ok (.aload_n 0, 1) := by decide +kernel
theorem dX2_readNumber_1 : decode cX2_readNumber 1 = .ok (.iconst 0, 1) := by decide +kernel
theorem dX2_readNumber_2 : decode cX2_readNumber 2 = .ok (.putfield 68, 3) := by decide +kernel
theorem dX2_readNumber_5 : decode cX2_readNumber 5 = .ok (.aload_n 0, 1) := by decide +kernel
theorem dX2_readNumber_6 : decode cX2_readNumber 6 = .ok (.getfield 33, 3) := by decide +kernel
theorem dX2_readNumber_9 : decode cX2_readNumber 9 = .ok (.aload_n 0, 1) := by decide +kernel
theorem dX2_readNumber_10 : decode cX2_readNumber 10 = .ok (.getfield 21, 3) := by decide +kernel
theorem dX2_readNumber_13 : decode cX2_readNumber 13 = .ok (.if_icmp .ge 55, 3) := by decide +kernel
theorem dX2_readNumber_16 : decode cX2_readNumber 16 = .ok (.aload_n 0, 1) := by decide +kernel
theorem dX2_readNumber_17 : decode cX2_readNumber 17 = .ok (.getfield 9, 3) := by decide +kernel
theorem dX2_readNumber_20 : decode cX2_readNumber 20 = .ok (.aload_n 0, 1) := by decide +kernel
theorem dX2_readNumber_21 : decode cX2_readNumber 21 = .ok (.getfield 33, 3) := by decide +kernel
theorem dX2_readNumber_24 : decode cX2_readNumber 24 = .ok (.iaload, 1) := by decide +kernel
theorem dX2_readNumber_25 : decode cX2_readNumber 25 = .ok (.invokestatic 80, 3) := by decide +kernel
theorem dX2_readNumber_28 : decode cX2_readNumber 28 = .ok (.ifCond .eq 40, 3) := by decide +kernel
theorem dX2_readNumber_31 : decode cX2_readNumber 31 = .ok (.aload_n 0, 1) := by decide +kernel
theorem dX2_readNumber_32 : decode cX2_readNumber 32 = .ok (.aload_n 0, 1) := by decide +kernel
theorem dX2_readNumber_33 : decode cX2_readNumber 33 = .ok (.getfield 68, 3) := by decide +kernel
theorem dX2_readNumber_36 : decode cX2_readNumber 36 = .ok (.bipush 10, 2) := by decide +kernel
theorem dX2_readNumber_38 : decode cX2_readNumber 38 = .ok (.imul, 1) := by decide +kernel
theorem dX2_readNumber_39 : decode cX2_readNumber 39 = .ok (.aload_n 0, 1) := by decide +kernel
theorem dX2_readNumber_40 : decode cX2_readNumber 40 = .ok (.getfield 9, 3) := by decide +kernel
theorem dX2_readNumber_43 : decode cX2_readNumber 43 = .ok (.aload_n 0, 1) := by decide +kernel
theorem dX2_readNumber_44 : decode cX2_readNumber 44 = .ok (.getfield 33, 3) := by decide +kernel
theorem dX2_readNumber_47 : decode cX2_readNumber 47 = .ok (.iaload, 1) := by decide +kernel
theorem dX2_readNumber_48 : decode cX2_readNumber 48 = .ok (.iadd, 1) := by decide +kernel
theorem dX2_readNumber_49 : decode cX2_readNumber 49 = .ok (.bipush 48, 2) := by decide +kernel
theorem dX2_readNumber_51 : decode cX2_readNumber 51 = .ok (.isub, 1) := by decide +kernel
theorem dX2_readNumber_52 : decode cX2_readNumber 52 = .ok (.putfield 68, 3) := by decide +kernel
theorem dX2_readNumber_55 : decode cX2_readNumber 55 = .ok (.aload_n 0, 1) := by decide +kernel
theorem dX2_readNumber_56 : decode cX2_readNumber 56 = .ok (.dup, 1) := by decide +kernel
theorem dX2_readNumber_57 : decode cX2_readNumber 57 = .ok (.getfield 33, 3) := by decide +kernel
theorem dX2_readNumber_60 : decode cX2_readNumber 60 = .ok (.iconst 1, 1) := by decide +kernel
theorem dX2_readNumber_61 : decode cX2_readNumber 61 = .ok (.iadd, 1) := by decide +kernel
theorem dX2_readNumber_62 : decode cX2_readNumber 62 = .ok (.putfield 33, 3) := by decide +kernel
theorem dX2_readNumber_65 : decode cX2_readNumber 65 = .ok (.goto (-60), 3) := by decide +kernel
theorem dX2_readNumber_68 : decode cX2_readNumber 68 = .ok (.aload_n 0, 1) := by decide +kernel
theorem dX2_readNumber_69 : decode cX2_readNumber 69 = .ok (.aload_n 0, 1) := by decide +kernel
theorem dX2_readNumber_70 : decode cX2_readNumber 70 = .ok (.getfield 33, 3) := by decide +kernel
theorem dX2_readNumber_73 : decode cX2_readNumber 73 = .ok (.aload_n 0, 1) := by decide +kernel
theorem dX2_readNumber_74 : decode cX2_readNumber 74 = .ok (.getfield 71, 3) := by decide +kernel
theorem dX2_readNumber_77 : decode cX2_readNumber 77 = .ok (.isub, 1) := by decide +kernel
theorem dX2_readNumber_78 : decode cX2_readNumber 78 = .ok (.iconst 4, 1) := by decide +kernel
theorem dX2_readNumber_79 : decode cX2_readNumber 79 = .ok (.if_icmp .le 7, 3) := by decide +kernel
theorem dX2_readNumber_82 : decode cX2_readNumber 82 = .ok (.iconst 2, 1) := by decide +kernel
theorem dX2_readNumber_83 : decode cX2_readNumber 83 = .ok (.goto 4, 3) := by decide +kernel
theorem dX2_readNumber_86 : decode cX2_readNumber 86 = .ok (.iconst 1, 1) := by decide +kernel
theorem dX2_readNumber_87 : decode cX2_readNumber 87 = .ok (.putfield 46, 3) := by decide +kernel
theorem dX2_readNumber_90 : decode cX2_readNumber 90 = .ok (.return_, 1) := by decide +kernel
theorem dX2_spells_0 : decode cX2_spells 0 = .ok (.aload_n 1, 1) := by decide +kernel
theorem dX2_spells_1 : decode cX2_spells 1 = .ok (.invokevirtual 97, 3) := by decide +kernel
theorem dX2_spells_4 : decode cX2_spells 4 = .ok (.aload_n 0, 1) := by decide +kernel
theorem dX2_spells_5 : decode cX2_spells 5 = .ok (.getfield 33, 3) := by decide +kernel
theorem dX2_spells_8 : decode cX2_spells 8 = .ok (.aload_n 0, 1) := by decide +kernel
theorem dX2_spells_9 : decode cX2_spells 9 = .ok (.getfield 71, 3) := by decide +kernel
theorem dX2_spells_12 : decode cX2_spells 12 = .ok (.isub, 1) := by decide +kernel
theorem dX2_spells_13 : decode cX2_spells 13 = .ok (.if_icmp .eq 5, 3) := by decide +kernel
theorem dX2_spells_16 : decode cX2_spells 16 = .ok (.iconst 0, 1) := by decide +kernel
theorem dX2_spells_17 : decode cX2_spells 17 = .ok (.ireturn, 1) := by decide +kernel
theorem dX2_spells_18 : decode cX2_spells 18 = .ok (.iconst 0, 1) := by decide +kernel
theorem dX2_spells_19 : decode cX2_spells 19 = .ok (.istore_n 2, 1) := by decide +kernel
theorem dX2_spells_20 : decode cX2_spells 20 = .ok (.iload_n 2, 1) := by decide +kernel
theorem dX2_spells_21 : decode cX2_spells 21 = .ok (.aload_n 1, 1) := by decide +kernel
theorem dX2_spells_22 : decode cX2_spells 22 = .ok (.invokevirtual 97, 3) := by decide +kernel
theorem dX2_spells_25 : decode cX2_spells 25 = .ok (.if_icmp .ge 30, 3) := by decide +kernel
theorem dX2_spells_28 : decode cX2_spells 28 = .ok (.aload_n 0, 1) := by decide +kernel
theorem dX2_spells_29 : decode cX2_spells 29 = .ok (.getfield 9, 3) := by decide +kernel
theorem dX2_spells_32 : decode cX2_spells 32 = .ok (.aload_n 0, 1) := by decide +kernel
theorem dX2_spells_33 : decode cX2_spells 33 = .ok (.getfield 71, 3) := by decide +kernel
theorem dX2_spells_36 : decode cX2_spells 36 = .ok (.iload_n 2, 1) := by decide +kernel
theorem dX2_spells_37 : decode cX2_spells 37 = .ok (.iadd, 1) := by decide +kernel
theorem dX2_spells_38 : decode cX2_spells 38 = .ok (.iaload, 1) := by decide +kernel
theorem dX2_spells_39 : decode cX2_spells 39 = .ok (.aload_n 1, 1) := by decide +kernel
theorem dX2_spells_40 : decode cX2_spells 40 = .ok (.iload_n 2, 1) := by decide +kernel
theorem dX2_spells_41 : decode cX2_spells 41 = .ok (.invokevirtual 102, 3) := by decide +kernel
theorem dX2_spells_44 : decode cX2_spells 44 = .ok (.if_icmp .eq 5, 3) := by decide +kernel
theorem dX2_spells_47 : decode cX2_spells 47 = .ok (.iconst 0, 1) := by decide +kernel
theorem dX2_spells_48 : decode cX2_spells 48 = .ok (.ireturn, 1) := by decide +kernel
theorem dX2_spells_49 : decode cX2_spells 49 = .ok (.iinc 2 1, 3) := by decide +kernel
theorem dX2_spells_52 : decode cX2_spells 52 = .ok (.goto (-32), 3) := by decide +kernel
theorem dX2_spells_55 : decode cX2_spells 55 = .ok (.iconst 1, 1) := by decide +kernel
theorem dX2_spells_56 : decode cX2_spells 56 = .ok (.ireturn, 1) := by decide +kernel
theorem dX2_wordOf_0 : decode cX2_wordOf 0 = .ok (.iload_n 0, 1) := by decide +kernel
theorem dX2_wordOf_1 : decode cX2_wordOf 1 = .ok (.tableswitch 92 0 10 #[59, 62, 65, 68, 71, 74, 77, 80, 83, 86, 89], 59) := by decide +kernel
theorem dX2_wordOf_60 : decode cX2_wordOf 60 = .ok (.ldc 106, 2) := by decide +kernel
theorem dX2_wordOf_62 : decode cX2_wordOf 62 = .ok (.areturn, 1) := by decide +kernel
theorem dX2_wordOf_63 : decode cX2_wordOf 63 = .ok (.ldc 108, 2) := by decide +kernel
theorem dX2_wordOf_65 : decode cX2_wordOf 65 = .ok (.areturn, 1) := by decide +kernel
theorem dX2_wordOf_66 : decode cX2_wordOf 66 = .ok (.ldc 110, 2) := by decide +kernel
theorem dX2_wordOf_68 : decode cX2_wordOf 68 = .ok (.areturn, 1) := by decide +kernel
theorem dX2_wordOf_69 : decode cX2_wordOf 69 = .ok (.ldc 112, 2) := by decide +kernel
theorem dX2_wordOf_71 : decode cX2_wordOf 71 = .ok (.areturn, 1) := by decide +kernel
theorem dX2_wordOf_72 : decode cX2_wordOf 72 = .ok (.ldc 114, 2) := by decide +kernel
theorem dX2_wordOf_74 : decode cX2_wordOf 74 = .ok (.areturn, 1) := by decide +kernel
theorem dX2_wordOf_75 : decode cX2_wordOf 75 = .ok (.ldc 116, 2) := by decide +kernel
theorem dX2_wordOf_77 : decode cX2_wordOf 77 = .ok (.areturn, 1) := by decide +kernel
theorem dX2_wordOf_78 : decode cX2_wordOf 78 = .ok (.ldc 118, 2) := by decide +kernel
theorem dX2_wordOf_80 : decode cX2_wordOf 80 = .ok (.areturn, 1) := by decide +kernel
theorem dX2_wordOf_81 : decode cX2_wordOf 81 = .ok (.ldc 120, 2) := by decide +kernel
theorem dX2_wordOf_83 : decode cX2_wordOf 83 = .ok (.areturn, 1) := by decide +kernel
theorem dX2_wordOf_84 : decode cX2_wordOf 84 = .ok (.ldc 122, 2) := by decide +kernel
theorem dX2_wordOf_86 : decode cX2_wordOf 86 = .ok (.areturn, 1) := by decide +kernel
theorem dX2_wordOf_87 : decode cX2_wordOf 87 = .ok (.ldc 124, 2) := by decide +kernel
theorem dX2_wordOf_89 : decode cX2_wordOf 89 = .ok (.areturn, 1) := by decide +kernel
theorem dX2_wordOf_90 : decode cX2_wordOf 90 = .ok (.ldc 126, 2) := by decide +kernel
theorem dX2_wordOf_92 : decode cX2_wordOf 92 = .ok (.areturn, 1) := by decide +kernel
theorem dX2_wordOf_93 : decode cX2_wordOf 93 = .ok (.ldc 128, 2) := by decide +kernel
theorem dX2_wordOf_95 : decode cX2_wordOf 95 = .ok (.areturn, 1) := by decide +kernel
theorem dX2_isLetter_0 : decode cX2_isLetter 0 = .ok (.iload_n 0, 1) := by decide +kernel
theorem dX2_isLetter_1 : decode cX2_isLetter 1 = .ok (.bipush 97, 2) := by decide +kernel
theorem dX2_isLetter_3 : decode cX2_isLetter 3 = .ok (.if_icmp .lt 13, 3) := by decide +kernel
theorem dX2_isLetter_6 : decode cX2_isLetter 6 = .ok (.iload_n 0, 1) := by decide +kernel
theorem dX2_isLetter_7 : decode cX2_isLetter 7 = .ok (.bipush 122, 2) := by decide +kernel
theorem dX2_isLetter_9 : decode cX2_isLetter 9 = .ok (.if_icmp .gt 7, 3) := by decide +kernel
theorem dX2_isLetter_12 : decode cX2_isLetter 12 = .ok (.iconst 1, 1) := by decide +kernel
theorem dX2_isLetter_13 : decode cX2_isLetter 13 = .ok (.goto 4, 3) := by decide +kernel
theorem dX2_isLetter_16 : decode cX2_isLetter 16 = .ok (.iconst 0, 1) := by decide +kernel
theorem dX2_isLetter_17 : decode cX2_isLetter 17 = .ok (.ireturn, 1) := by decide +kernel
theorem dX2_isDigit_0 : decode cX2_isDigit 0 = .ok (.iload_n 0, 1) := by decide +kernel
theorem dX2_isDigit_1 : decode cX2_isDigit 1 = .ok (.bipush 48, 2) := by decide +kernel
theorem dX2_isDigit_3 : decode cX2_isDigit 3 = .ok (.if_icmp .lt 13, 3) := by decide +kernel
theorem dX2_isDigit_6 : decode cX2_isDigit 6 = .ok (.iload_n 0, 1) := by decide +kernel
theorem dX2_isDigit_7 : decode cX2_isDigit 7 = .ok (.bipush 57, 2) := by decide +kernel
theorem dX2_isDigit_9 : decode cX2_isDigit 9 = .ok (.if_icmp .gt 7, 3) := by decide +kernel
theorem dX2_isDigit_12 : decode cX2_isDigit 12 = .ok (.iconst 1, 1) := by decide +kernel
theorem dX2_isDigit_13 : decode cX2_isDigit 13 = .ok (.goto 4, 3) := by decide +kernel
theorem dX2_isDigit_16 : decode cX2_isDigit 16 = .ok (.iconst 0, 1) := by decide +kernel
theorem dX2_isDigit_17 : decode cX2_isDigit 17 = .ok (.ireturn, 1) := by decide +kernel
theorem dX2_isSign_0 : decode cX2_isSign 0 = .ok (.iload_n 0, 1) := by decide +kernel
theorem dX2_isSign_1 : decode cX2_isSign 1 = .ok (.bipush 40, 2) := by decide +kernel
theorem dX2_isSign_3 : decode cX2_isSign 3 = .ok (.if_icmp .eq 45, 3) := by decide +kernel
theorem dX2_isSign_6 : decode cX2_isSign 6 = .ok (.iload_n 0, 1) := by decide +kernel
theorem dX2_isSign_7 : decode cX2_isSign 7 = .ok (.bipush 41, 2) := by decide +kernel
theorem dX2_isSign_9 : decode cX2_isSign 9 = .ok (.if_icmp .eq 39, 3) := by decide +kernel
theorem dX2_isSign_12 : decode cX2_isSign 12 = .ok (.iload_n 0, 1) := by decide +kernel
theorem dX2_isSign_13 : decode cX2_isSign 13 = .ok (.bipush 59, 2) := by decide +kernel
theorem dX2_isSign_15 : decode cX2_isSign 15 = .ok (.if_icmp .eq 33, 3) := by decide +kernel
theorem dX2_isSign_18 : decode cX2_isSign 18 = .ok (.iload_n 0, 1) := by decide +kernel
theorem dX2_isSign_19 : decode cX2_isSign 19 = .ok (.bipush 43, 2) := by decide +kernel
theorem dX2_isSign_21 : decode cX2_isSign 21 = .ok (.if_icmp .eq 27, 3) := by decide +kernel
theorem dX2_isSign_24 : decode cX2_isSign 24 = .ok (.iload_n 0, 1) := by decide +kernel
theorem dX2_isSign_25 : decode cX2_isSign 25 = .ok (.bipush 45, 2) := by decide +kernel
theorem dX2_isSign_27 : decode cX2_isSign 27 = .ok (.if_icmp .eq 21, 3) := by decide +kernel
theorem dX2_isSign_30 : decode cX2_isSign 30 = .ok (.iload_n 0, 1) := by decide +kernel
theorem dX2_isSign_31 : decode cX2_isSign 31 = .ok (.bipush 42, 2) := by decide +kernel
theorem dX2_isSign_33 : decode cX2_isSign 33 = .ok (.if_icmp .eq 15, 3) := by decide +kernel
theorem dX2_isSign_36 : decode cX2_isSign 36 = .ok (.iload_n 0, 1) := by decide +kernel
theorem dX2_isSign_37 : decode cX2_isSign 37 = .ok (.bipush 60, 2) := by decide +kernel
theorem dX2_isSign_39 : decode cX2_isSign 39 = .ok (.if_icmp .eq 9, 3) := by decide +kernel
theorem dX2_isSign_42 : decode cX2_isSign 42 = .ok (.iload_n 0, 1) := by decide +kernel
theorem dX2_isSign_43 : decode cX2_isSign 43 = .ok (.bipush 61, 2) := by decide +kernel
theorem dX2_isSign_45 : decode cX2_isSign 45 = .ok (.if_icmp .ne 7, 3) := by decide +kernel
theorem dX2_isSign_48 : decode cX2_isSign 48 = .ok (.iconst 1, 1) := by decide +kernel
theorem dX2_isSign_49 : decode cX2_isSign 49 = .ok (.goto 4, 3) := by decide +kernel
theorem dX2_isSign_52 : decode cX2_isSign 52 = .ok (.iconst 0, 1) := by decide +kernel
theorem dX2_isSign_53 : decode cX2_isSign 53 = .ok (.ireturn, 1) := by decide +kernel
theorem dX3_init_0 : decode cX3_init 0 = .ok (.aload_n 0, 1) := by decide +kernel
theorem dX3_init_1 : decode cX3_init 1 = .ok (.invokespecial 3, 3) := by decide +kernel
theorem dX3_init_4 : decode cX3_init 4 = .ok (.aload_n 0, 1) := by decide +kernel
theorem dX3_init_5 : decode cX3_init 5 = .ok (.iconst 3, 1) := by decide +kernel
theorem dX3_init_6 : decode cX3_init 6 = .ok (.newarray .int, 2) := by decide +kernel
theorem dX3_init_8 : decode cX3_init 8 = .ok (.putfield 9, 3) := by decide +kernel
theorem dX3_init_11 : decode cX3_init 11 = .ok (.iconst 0, 1) := by decide +kernel
theorem dX3_init_12 : decode cX3_init 12 = .ok (.iload_n 2, 1) := by decide +kernel
theorem dX3_init_13 : decode cX3_init 13 = .ok (.aload_n 1, 1) := by decide +kernel
theorem dX3_init_14 : decode cX3_init 14 = .ok (.arraylength, 1) := by decide +kernel
theorem dX3_init_15 : decode cX3_init 15 = .ok (.invokestatic 15, 3) := by decide +kernel
theorem dX3_init_18 : decode cX3_init 18 = .ok (.invokestatic 21, 3) := by decide +kernel
theorem dX3_init_21 : decode cX3_init 21 = .ok (.istore 4, 2) := by decide +kernel
theorem dX3_init_23 : decode cX3_init 23 = .ok (.aload_n 0, 1) := by decide +kernel
theorem dX3_init_24 : decode cX3_init 24 = .ok (.iload 4, 2) := by decide +kernel
theorem dX3_init_26 : decode cX3_init 26 = .ok (.newarray .int, 2) := by decide +kernel
theorem dX3_init_28 : decode cX3_init 28 = .ok (.putfield 24, 3) := by decide +kernel
theorem dX3_init_31 : decode cX3_init 31 = .ok (.aload_n 1, 1) := by decide +kernel
theorem dX3_init_32 : decode cX3_init 32 = .ok (.iconst 0, 1) := by decide +kernel
theorem dX3_init_33 : decode cX3_init 33 = .ok (.aload_n 0, 1) := by decide +kernel
theorem dX3_init_34 : decode cX3_init 34 = .ok (.getfield 24, 3) := by decide +kernel
theorem dX3_init_37 : decode cX3_init 37 = .ok (.iconst 0, 1) := by decide +kernel
theorem dX3_init_38 : decode cX3_init 38 = .ok (.iload 4, 2) := by decide +kernel
theorem dX3_init_40 : decode cX3_init 40 = .ok (.invokestatic 27, 3) := by decide +kernel
theorem dX3_init_43 : decode cX3_init 43 = .ok (.iconst 0, 1) := by decide +kernel
theorem dX3_init_44 : decode cX3_init 44 = .ok (.istore 5, 2) := by decide +kernel
theorem dX3_init_46 : decode cX3_init 46 = .ok (.iload 5, 2) := by decide +kernel
theorem dX3_init_48 : decode cX3_init 48 = .ok (.iconst 3, 1) := by decide +kernel
theorem dX3_init_49 : decode cX3_init 49 = .ok (.if_icmp .ge 32, 3) := by decide +kernel
theorem dX3_init_52 : decode cX3_init 52 = .ok (.iload 5, 2) := by decide +kernel
theorem dX3_init_54 : decode cX3_init 54 = .ok (.aload_n 3, 1) := by decide +kernel
theorem dX3_init_55 : decode cX3_init 55 = .ok (.arraylength, 1) := by decide +kernel
theorem dX3_init_56 : decode cX3_init 56 = .ok (.if_icmp .ge 25, 3) := by decide +kernel
theorem dX3_init_59 : decode cX3_init 59 = .ok (.aload_n 0, 1) := by decide +kernel
theorem dX3_init_60 : decode cX3_init 60 = .ok (.getfield 9, 3) := by decide +kernel
theorem dX3_init_63 : decode cX3_init 63 = .ok (.iload 5, 2) := by decide +kernel
theorem dX3_init_65 : decode cX3_init 65 = .ok (.aload_n 3, 1) := by decide +kernel
theorem dX3_init_66 : decode cX3_init 66 = .ok (.iload 5, 2) := by decide +kernel
theorem dX3_init_68 : decode cX3_init 68 = .ok (.iaload, 1) := by decide +kernel
theorem dX3_init_69 : decode cX3_init 69 = .ok (.iload 4, 2) := by decide +kernel
theorem dX3_init_71 : decode cX3_init 71 = .ok (.invokestatic 15, 3) := by decide +kernel
theorem dX3_init_74 : decode cX3_init 74 = .ok (.iastore, 1) := by decide +kernel
theorem dX3_init_75 : decode cX3_init 75 = .ok (.iinc 5 1, 3) := by decide +kernel
theorem dX3_init_78 : decode cX3_init 78 = .ok (.goto (-32), 3) := by decide +kernel
theorem dX3_init_81 : decode cX3_init 81 = .ok (.return_, 1) := by decide +kernel
theorem dX3_begin_0 : decode cX3_begin 0 = .ok (.iload_n 1, 1) := by decide +kernel
theorem dX3_begin_1 : decode cX3_begin 1 = .ok (.ifCond .ne 7, 3) := by decide +kernel
theorem dX3_begin_4 : decode cX3_begin 4 = .ok (.iconst 0, 1) := by decide +kernel
theorem dX3_begin_5 : decode cX3_begin 5 = .ok (.goto 11, 3) := by decide +kernel
theorem dX3_begin_8 : decode cX3_begin 8 = .ok (.aload_n 0, 1) := by decide +kernel
theorem dX3_begin_9 : decode cX3_begin 9 = .ok (.getfield 9, 3) := by decide +kernel
theorem dX3_begin_12 : decode cX3_begin 12 = .ok (.iload_n 1, 1) := by decide +kernel
theorem dX3_begin_13 : decode cX3_begin 13 = .ok (.iconst 1, 1) := by decide +kernel
theorem dX3_begin_14 : decode cX3_begin 14 = .ok (.isub, 1) := by decide +kernel
theorem dX3_begin_15 : decode cX3_begin 15 = .ok (.iaload, 1) := by decide +kernel
theorem dX3_begin_16 : decode cX3_begin 16 = .ok (.ireturn, 1) := by decide +kernel
theorem dX3_joined_0 : decode cX3_joined 0 = .ok (.iload_n 0, 1) := by decide +kernel
theorem dX3_joined_1 : decode cX3_joined 1 = .ok (.tableswitch 97 (-14) (-9) #[93, 89, 78, 67, 53, 39], 39) := by decide +kernel
theorem dX3_joined_40 : decode cX3_joined 40 = .ok (.iload_n 1, 1) := by decide +kernel
theorem dX3_joined_41 : decode cX3_joined 41 = .ok (.ifCond .ne 7, 3) := by decide +kernel
theorem dX3_joined_44 : decode cX3_joined 44 = .ok (.iload_n 2, 1) := by decide +kernel
theorem dX3_joined_45 : decode cX3_joined 45 = .ok (.ifCond .eq 7, 3) := by decide +kernel
theorem dX3_joined_48 : decode cX3_joined 48 = .ok (.iconst 1, 1) := by decide +kernel
theorem dX3_joined_49 : decode cX3_joined 49 = .ok (.goto 4, 3) := by decide +kernel
theorem dX3_joined_52 : decode cX3_joined 52 = .ok (.iconst 0, 1) := by decide +kernel
theorem dX3_joined_53 : decode cX3_joined 53 = .ok (.ireturn, 1) := by decide +kernel
theorem dX3_joined_54 : decode cX3_joined 54 = .ok (.iload_n 1, 1) := by decide +kernel
theorem dX3_joined_55 : decode cX3_joined 55 = .ok (.ifCond .eq 11, 3) := by decide +kernel
theorem dX3_joined_58 : decode cX3_joined 58 = .ok (.iload_n 2, 1) := by decide +kernel
theorem dX3_joined_59 : decode cX3_joined 59 = .ok (.ifCond .eq 7, 3) := by decide +kernel
theorem dX3_joined_62 : decode cX3_joined 62 = .ok (.iconst 1, 1) := by decide +kernel
theorem dX3_joined_63 : decode cX3_joined 63 = .ok (.goto 4, 3) := by decide +kernel
theorem dX3_joined_66 : decode cX3_joined 66 = .ok (.iconst 0, 1) := by decide +kernel
theorem dX3_joined_67 : decode cX3_joined 67 = .ok (.ireturn, 1) := by decide +kernel
theorem dX3_joined_68 : decode cX3_joined 68 = .ok (.iload_n 1, 1) := by decide +kernel
theorem dX3_joined_69 : decode cX3_joined 69 = .ok (.iload_n 2, 1) := by decide +kernel
theorem dX3_joined_70 : decode cX3_joined 70 = .ok (.if_icmp .ge 7, 3) := by decide +kernel
theorem dX3_joined_73 : decode cX3_joined 73 = .ok (.iconst 1, 1) := by decide +kernel
theorem dX3_joined_74 : decode cX3_joined 74 = .ok (.goto 4, 3) := by decide +kernel
theorem dX3_joined_77 : decode cX3_joined 77 = .ok (.iconst 0, 1) := by decide +kernel
theorem dX3_joined_78 : decode cX3_joined 78 = .ok (.ireturn, 1) := by decide +kernel
theorem dX3_joined_79 : decode cX3_joined 79 = .ok (.iload_n 1, 1) := by decide +kernel
theorem dX3_joined_80 : decode cX3_joined 80 = .ok (.iload_n 2, 1) := by decide +kernel
theorem dX3_joined_81 : decode cX3_joined 81 = .ok (.if_icmp .ne 7, 3) := by decide +kernel
theorem dX3_joined_84 : decode cX3_joined 84 = .ok (.iconst 1, 1) := by decide +kernel
theorem dX3_joined_85 : decode cX3_joined 85 = .ok (.goto 4, 3) := by decide +kernel
theorem dX3_joined_88 : decode cX3_joined 88 = .ok (.iconst 0, 1) := by decide +kernel
theorem dX3_joined_89 : decode cX3_joined 89 = .ok (.ireturn, 1) := by decide +kernel
theorem dX3_joined_90 : decode cX3_joined 90 = .ok (.iload_n 1, 1) := by decide +kernel
theorem dX3_joined_91 : decode cX3_joined 91 = .ok (.iload_n 2, 1) := by decide +kernel
theorem dX3_joined_92 : decode cX3_joined 92 = .ok (.iadd, 1) := by decide +kernel
theorem dX3_joined_93 : decode cX3_joined 93 = .ok (.ireturn, 1) := by decide +kernel
theorem dX3_joined_94 : decode cX3_joined 94 = .ok (.iload_n 1, 1) := by decide +kernel
theorem dX3_joined_95 : decode cX3_joined 95 = .ok (.iload_n 2, 1) := by decide +kernel
theorem dX3_joined_96 : decode cX3_joined 96 = .ok (.isub, 1) := by decide +kernel
theorem dX3_joined_97 : decode cX3_joined 97 = .ok (.ireturn, 1) := by decide +kernel
theorem dX3_joined_98 : decode cX3_joined 98 = .ok (.iload_n 1, 1) := by decide +kernel
theorem dX3_joined_99 : decode cX3_joined 99 = .ok (.iload_n 2, 1) := by decide +kernel
theorem dX3_joined_100 : decode cX3_joined 100 = .ok (.imul, 1) := by decide +kernel
theorem dX3_joined_101 : decode cX3_joined 101 = .ok (.ireturn, 1) := by decide +kernel
theorem dX4_init_0 : decode cX4_init 0 = .ok (.aload_n 0, 1) := by decide +kernel
theorem dX4_init_1 : decode cX4_init 1 = .ok (.invokespecial 1, 3) := by decide +kernel
theorem dX4_init_4 : decode cX4_init 4 = .ok (.bipush 6, 2) := by decide +kernel
theorem dX4_init_6 : decode cX4_init 6 = .ok (.anewarray 9, 3) := by decide +kernel
theorem dX4_init_9 : decode cX4_init 9 = .ok (.astore_n 1, 1) := by decide +kernel
theorem dX4_init_10 : decode cX4_init 10 = .ok (.sipush 160, 3) := by decide +kernel
theorem dX4_init_13 : decode cX4_init 13 = .ok (.newarray .int, 2) := by decide +kernel
theorem dX4_init_15 : decode cX4_init 15 = .ok (.astore_n 2, 1) := by decide +kernel
theorem dX4_init_16 : decode cX4_init 16 = .ok (.aload_n 0, 1) := by decide +kernel
theorem dX4_init_17 : decode cX4_init 17 = .ok (.new 11, 3) := by decide +kernel
theorem dX4_init_20 : decode cX4_init 20 = .ok (.dup, 1) := by decide +kernel
theorem dX4_init_21 : decode cX4_init 21 = .ok (.invokespecial 13, 3) := by decide +kernel
theorem dX4_init_24 : decode cX4_init 24 = .ok (.putfield 14, 3) := by decide +kernel
theorem dX4_init_27 : decode cX4_init 27 = .ok (.iconst 0, 1) := by decide +kernel
theorem dX4_init_28 : decode cX4_init 28 = .ok (.istore_n 3, 1) := by decide +kernel
theorem dX4_init_29 : decode cX4_init 29 = .ok (.iload_n 3, 1) := by decide +kernel
theorem dX4_init_30 : decode cX4_init 30 = .ok (.ldc 18, 2) := by decide +kernel
theorem dX4_init_32 : decode cX4_init 32 = .ok (.invokevirtual 20, 3) := by decide +kernel
theorem dX4_init_35 : decode cX4_init 35 = .ok (.if_icmp .ge 22, 3) := by decide +kernel
theorem dX4_init_38 : decode cX4_init 38 = .ok (.aload_n 0, 1) := by decide +kernel
theorem dX4_init_39 : decode cX4_init 39 = .ok (.getfield 14, 3) := by decide +kernel
theorem dX4_init_42 : decode cX4_init 42 = .ok (.ldc 18, 2) := by decide +kernel
theorem dX4_init_44 : decode cX4_init 44 = .ok (.iload_n 3, 1) := by decide +kernel
theorem dX4_init_45 : decode cX4_init 45 = .ok (.invokevirtual 26, 3) := by decide +kernel
theorem dX4_init_48 : decode cX4_init 48 = .ok (.invokevirtual 30, 3) := by decide +kernel
theorem dX4_init_51 : decode cX4_init 51 = .ok (.iinc 3 1, 3) := by decide +kernel
theorem dX4_init_54 : decode cX4_init 54 = .ok (.goto (-25), 3) := by decide +kernel
theorem dX4_init_57 : decode cX4_init 57 = .ok (.aload_n 0, 1) := by decide +kernel
theorem dX4_init_58 : decode cX4_init 58 = .ok (.getfield 14, 3) := by decide +kernel
theorem dX4_init_61 : decode cX4_init 61 = .ok (.invokevirtual 34, 3) := by decide +kernel
theorem dX4_init_64 : decode cX4_init 64 = .ok (.ifCond .eq 13, 3) := by decide +kernel
theorem dX4_init_67 : decode cX4_init 67 = .ok (.aload_n 1, 1) := by decide +kernel
theorem dX4_init_68 : decode cX4_init 68 = .ok (.iconst 0, 1) := by decide +kernel
theorem dX4_init_69 : decode cX4_init 69 = .ok (.aload_n 0, 1) := by decide +kernel
theorem dX4_init_70 : decode cX4_init 70 = .ok (.getfield 14, 3) := by decide +kernel
theorem dX4_init_73 : decode cX4_init 73 = .ok (.invokevirtual 38, 3) := by decide +kernel
theorem dX4_init_76 : decode cX4_init 76 = .ok (.aastore, 1) := by decide +kernel
theorem dX4_init_77 : decode cX4_init 77 = .ok (.aload_n 0, 1) := by decide +kernel
theorem dX4_init_78 : decode cX4_init 78 = .ok (.getfield 14, 3) := by decide +kernel
theorem dX4_init_81 : decode cX4_init 81 = .ok (.iconst 0, 1) := by decide +kernel
theorem dX4_init_82 : decode cX4_init 82 = .ok (.putfield 42, 3) := by decide +kernel
theorem dX4_init_85 : decode cX4_init 85 = .ok (.aload_n 0, 1) := by decide +kernel
theorem dX4_init_86 : decode cX4_init 86 = .ok (.aload_n 1, 1) := by decide +kernel
theorem dX4_init_87 : decode cX4_init 87 = .ok (.putfield 46, 3) := by decide +kernel
theorem dX4_init_90 : decode cX4_init 90 = .ok (.aload_n 0, 1) := by decide +kernel
theorem dX4_init_91 : decode cX4_init 91 = .ok (.iconst 1, 1) := by decide +kernel
theorem dX4_init_92 : decode cX4_init 92 = .ok (.putfield 50, 3) := by decide +kernel
theorem dX4_init_95 : decode cX4_init 95 = .ok (.aload_n 0, 1) := by decide +kernel
theorem dX4_init_96 : decode cX4_init 96 = .ok (.new 53, 3) := by decide +kernel
theorem dX4_init_99 : decode cX4_init 99 = .ok (.dup, 1) := by decide +kernel
theorem dX4_init_100 : decode cX4_init 100 = .ok (.aload_n 1, 1) := by decide +kernel
theorem dX4_init_101 : decode cX4_init 101 = .ok (.aload_n 2, 1) := by decide +kernel
theorem dX4_init_102 : decode cX4_init 102 = .ok (.invokespecial 55, 3) := by decide +kernel
theorem dX4_init_105 : decode cX4_init 105 = .ok (.putfield 58, 3) := by decide +kernel
theorem dX4_init_108 : decode cX4_init 108 = .ok (.aload_n 0, 1) := by decide +kernel
theorem dX4_init_109 : decode cX4_init 109 = .ok (.new 53, 3) := by decide +kernel
theorem dX4_init_112 : decode cX4_init 112 = .ok (.dup, 1) := by decide +kernel
theorem dX4_init_113 : decode cX4_init 113 = .ok (.aload_n 1, 1) := by decide +kernel
theorem dX4_init_114 : decode cX4_init 114 = .ok (.aload_n 2, 1) := by decide +kernel
theorem dX4_init_115 : decode cX4_init 115 = .ok (.invokespecial 55, 3) := by decide +kernel
theorem dX4_init_118 : decode cX4_init 118 = .ok (.putfield 62, 3) := by decide +kernel
theorem dX4_init_121 : decode cX4_init 121 = .ok (.aload_n 0, 1) := by decide +kernel
theorem dX4_init_122 : decode cX4_init 122 = .ok (.new 53, 3) := by decide +kernel
theorem dX4_init_125 : decode cX4_init 125 = .ok (.dup, 1) := by decide +kernel
theorem dX4_init_126 : decode cX4_init 126 = .ok (.aload_n 1, 1) := by decide +kernel
theorem dX4_init_127 : decode cX4_init 127 = .ok (.aload_n 2, 1) := by decide +kernel
theorem dX4_init_128 : decode cX4_init 128 = .ok (.invokespecial 55, 3) := by decide +kernel
theorem dX4_init_131 : decode cX4_init 131 = .ok (.putfield 65, 3) := by decide +kernel
theorem dX4_init_134 : decode cX4_init 134 = .ok (.iconst 4, 1) := by decide +kernel
theorem dX4_init_135 : decode cX4_init 135 = .ok (.anewarray 68, 3) := by decide +kernel
theorem dX4_init_138 : decode cX4_init 138 = .ok (.astore_n 3, 1) := by decide +kernel
theorem dX4_init_139 : decode cX4_init 139 = .ok (.iconst 0, 1) := by decide +kernel
theorem dX4_init_140 : decode cX4_init 140 = .ok (.istore 4, 2) := by decide +kernel
theorem dX4_init_142 : decode cX4_init 142 = .ok (.iload 4, 2) := by decide +kernel
theorem dX4_init_144 : decode cX4_init 144 = .ok (.iconst 4, 1) := by decide +kernel
theorem dX4_init_145 : decode cX4_init 145 = .ok (.if_icmp .ge 20, 3) := by decide +kernel
theorem dX4_init_148 : decode cX4_init 148 = .ok (.aload_n 3, 1) := by decide +kernel
theorem dX4_init_149 : decode cX4_init 149 = .ok (.iload 4, 2) := by decide +kernel
theorem dX4_init_151 : decode cX4_init 151 = .ok (.new 68, 3) := by decide +kernel
theorem dX4_init_154 : decode cX4_init 154 = .ok (.dup, 1) := by decide +kernel
theorem dX4_init_155 : decode cX4_init 155 = .ok (.invokespecial 70, 3) := by decide +kernel
theorem dX4_init_158 : decode cX4_init 158 = .ok (.aastore, 1) := by decide +kernel
theorem dX4_init_159 : decode cX4_init 159 = .ok (.iinc 4 1, 3) := by decide +kernel
theorem dX4_init_162 : decode cX4_init 162 = .ok (.goto (-20), 3) := by decide +kernel
theorem dX4_init_165 : decode cX4_init 165 = .ok (.aload_n 0, 1) := by decide +kernel
theorem dX4_init_166 : decode cX4_init 166 = .ok (.aload_n 3, 1) := by decide +kernel
theorem dX4_init_167 : decode cX4_init 167 = .ok (.putfield 71, 3) := by decide +kernel
theorem dX4_init_170 : decode cX4_init 170 = .ok (.aload_n 0, 1) := by decide +kernel
theorem dX4_init_171 : decode cX4_init 171 = .ok (.bipush 61, 2) := by decide +kernel
theorem dX4_init_173 : decode cX4_init 173 = .ok (.newarray .int, 2) := by decide +kernel
theorem dX4_init_175 : decode cX4_init 175 = .ok (.putfield 75, 3) := by decide +kernel
theorem dX4_init_178 : decode cX4_init 178 = .ok (.return_, 1) := by decide +kernel
theorem dX4_count_0 : decode cX4_count 0 = .ok (.iload_n 1, 1) := by decide +kernel
theorem dX4_count_1 : decode cX4_count 1 = .ok (.tableswitch 84 0 5 #[39, 47, 55, 63, 68, 76], 39) := by decide +kernel
theorem dX4_count_40 : decode cX4_count 40 = .ok (.aload_n 0, 1) := by decide +kernel
theorem dX4_count_41 : decode cX4_count 41 = .ok (.getfield 58, 3) := by decide +kernel
theorem dX4_count_44 : decode cX4_count 44 = .ok (.getfield 79, 3) := by decide +kernel
theorem dX4_count_47 : decode cX4_count 47 = .ok (.ireturn, 1) := by decide +kernel
theorem dX4_count_48 : decode cX4_count 48 = .ok (.aload_n 0, 1) := by decide +kernel
theorem dX4_count_49 : decode cX4_count 49 = .ok (.getfield 58, 3) := by decide +kernel
theorem dX4_count_52 : decode cX4_count 52 = .ok (.getfield 80, 3) := by decide +kernel
theorem dX4_count_55 : decode cX4_count 55 = .ok (.ireturn, 1) := by decide +kernel
theorem dX4_count_56 : decode cX4_count 56 = .ok (.aload_n 0, 1) := by decide +kernel
theorem dX4_count_57 : decode cX4_count 57 = .ok (.getfield 58, 3) := by decide +kernel
theorem dX4_count_60 : decode cX4_count 60 = .ok (.invokevirtual 83, 3) := by decide +kernel
theorem dX4_count_63 : decode cX4_count 63 = .ok (.ireturn, 1) := by decide +kernel
theorem dX4_count_64 : decode cX4_count 64 = .ok (.aload_n 0, 1) := by decide +kernel
theorem dX4_count_65 : decode cX4_count 65 = .ok (.getfield 50, 3) := by decide +kernel
theorem dX4_count_68 : decode cX4_count 68 = .ok (.ireturn, 1) := by decide +kernel
theorem dX4_count_69 : decode cX4_count 69 = .ok (.aload_n 0, 1) := by decide +kernel
theorem dX4_count_70 : decode cX4_count 70 = .ok (.getfield 58, 3) := by decide +kernel
theorem dX4_count_73 : decode cX4_count 73 = .ok (.getfield 86, 3) := by decide +kernel
theorem dX4_count_76 : decode cX4_count 76 = .ok (.ireturn, 1) := by decide +kernel
theorem dX4_count_77 : decode cX4_count 77 = .ok (.aload_n 0, 1) := by decide +kernel
theorem dX4_count_78 : decode cX4_count 78 = .ok (.getfield 14, 3) := by decide +kernel
theorem dX4_count_81 : decode cX4_count 81 = .ok (.getfield 42, 3) := by decide +kernel
theorem dX4_count_84 : decode cX4_count 84 = .ok (.ireturn, 1) := by decide +kernel
theorem dX4_count_85 : decode cX4_count 85 = .ok (.bipush (-2), 2) := by decide +kernel
theorem dX4_count_87 : decode cX4_count 87 = .ok (.ireturn, 1) := by decide +kernel
theorem dX4_clock_0 : decode cX4_clock 0 = .ok (.iload_n 1, 1) := by decide +kernel
theorem dX4_clock_1 : decode cX4_clock 1 = .ok (.iconst 0, 1) := by decide +kernel
theorem dX4_clock_2 : decode cX4_clock 2 = .ok (.sipush 999, 3) := by decide +kernel
theorem dX4_clock_5 : decode cX4_clock 5 = .ok (.invokestatic 89, 3) := by decide +kernel
theorem dX4_clock_8 : decode cX4_clock 8 = .ok (.ifCond .ne 6, 3) := by decide +kernel
theorem dX4_clock_11 : decode cX4_clock 11 = .ok (.bipush (-2), 2) := by decide +kernel
theorem dX4_clock_13 : decode cX4_clock 13 = .ok (.ireturn, 1) := by decide +kernel
theorem dX4_clock_14 : decode cX4_clock 14 = .ok (.aload_n 0, 1) := by decide +kernel
theorem dX4_clock_15 : decode cX4_clock 15 = .ok (.getfield 58, 3) := by decide +kernel
theorem dX4_clock_18 : decode cX4_clock 18 = .ok (.getfield 80, 3) := by decide +kernel
theorem dX4_clock_21 : decode cX4_clock 21 = .ok (.istore_n 2, 1) := by decide +kernel
theorem dX4_clock_22 : decode cX4_clock 22 = .ok (.aload_n 0, 1) := by decide +kernel
theorem dX4_clock_23 : decode cX4_clock 23 = .ok (.getfield 58, 3) := by decide +kernel
theorem dX4_clock_26 : decode cX4_clock 26 = .ok (.iload_n 1, 1) := by decide +kernel
theorem dX4_clock_27 : decode cX4_clock 27 = .ok (.putfield 80, 3) := by decide +kernel
theorem dX4_clock_30 : decode cX4_clock 30 = .ok (.iload_n 2, 1) := by decide +kernel
theorem dX4_clock_31 : decode cX4_clock 31 = .ok (.ireturn, 1) := by decide +kernel
theorem dX4_feed_0 : decode cX4_feed 0 = .ok (.iload_n 1, 1) := by decide +kernel
theorem dX4_feed_1 : decode cX4_feed 1 = .ok (.iconst 1, 1) := by decide +kernel
theorem dX4_feed_2 : decode cX4_feed 2 = .ok (.iconst 5, 1) := by decide +kernel
theorem dX4_feed_3 : decode cX4_feed 3 = .ok (.invokestatic 89, 3) := by decide +kernel
theorem dX4_feed_6 : decode cX4_feed 6 = .ok (.ifCond .eq 41, 3) := by decide +kernel
theorem dX4_feed_9 : decode cX4_feed 9 = .ok (.iload_n 2, 1) := by decide +kernel
theorem dX4_feed_10 : decode cX4_feed 10 = .ok (.invokestatic 93, 3) := by decide +kernel
theorem dX4_feed_13 : decode cX4_feed 13 = .ok (.ifCond .eq 34, 3) := by decide +kernel
theorem dX4_feed_16 : decode cX4_feed 16 = .ok (.iload_n 3, 1) := by decide +kernel
theorem dX4_feed_17 : decode cX4_feed 17 = .ok (.invokestatic 93, 3) := by decide +kernel
theorem dX4_feed_20 : decode cX4_feed 20 = .ok (.ifCond .eq 27, 3) := by decide +kernel
theorem dX4_feed_23 : decode cX4_feed 23 = .ok (.iload 4, 2) := by decide +kernel
theorem dX4_feed_25 : decode cX4_feed 25 = .ok (.invokestatic 93, 3) := by decide +kernel
theorem dX4_feed_28 : decode cX4_feed 28 = .ok (.ifCond .eq 19, 3) := by decide +kernel
theorem dX4_feed_31 : decode cX4_feed 31 = .ok (.iload 5, 2) := by decide +kernel
theorem dX4_feed_33 : decode cX4_feed 33 = .ok (.invokestatic 93, 3) := by decide +kernel
theorem dX4_feed_36 : decode cX4_feed 36 = .ok (.ifCond .eq 11, 3) := by decide +kernel
theorem dX4_feed_39 : decode cX4_feed 39 = .ok (.iload 6, 2) := by decide +kernel
theorem dX4_feed_41 : decode cX4_feed 41 = .ok (.invokestatic 93, 3) := by decide +kernel
theorem dX4_feed_44 : decode cX4_feed 44 = .ok (.ifCond .ne 6, 3) := by decide +kernel
theorem dX4_feed_47 : decode cX4_feed 47 = .ok (.bipush (-2), 2) := by decide +kernel
theorem dX4_feed_49 : decode cX4_feed 49 = .ok (.ireturn, 1) := by decide +kernel
theorem dX4_feed_50 : decode cX4_feed 50 = .ok (.aload_n 0, 1) := by decide +kernel
theorem dX4_feed_51 : decode cX4_feed 51 = .ok (.getfield 14, 3) := by decide +kernel
theorem dX4_feed_54 : decode cX4_feed 54 = .ok (.getfield 42, 3) := by decide +kernel
theorem dX4_feed_57 : decode cX4_feed 57 = .ok (.iload_n 1, 1) := by decide +kernel
theorem dX4_feed_58 : decode cX4_feed 58 = .ok (.iadd, 1) := by decide +kernel
theorem dX4_feed_59 : decode cX4_feed 59 = .ok (.sipush 160, 3) := by decide +kernel
theorem dX4_feed_62 : decode cX4_feed 62 = .ok (.if_icmp .le 6, 3) := by decide +kernel
theorem dX4_feed_65 : decode cX4_feed 65 = .ok (.bipush (-4), 2) := by decide +kernel
theorem dX4_feed_67 : decode cX4_feed 67 = .ok (.ireturn, 1) := by decide +kernel
theorem dX4_feed_68 : decode cX4_feed 68 = .ok (.iconst 0, 1) := by decide +kernel
theorem dX4_feed_69 : decode cX4_feed 69 = .ok (.istore 7, 2) := by decide +kernel
theorem dX4_feed_71 : decode cX4_feed 71 = .ok (.iload 7, 2) := by decide +kernel
theorem dX4_feed_73 : decode cX4_feed 73 = .ok (.iload_n 1, 1) := by decide +kernel
theorem dX4_feed_74 : decode cX4_feed 74 = .ok (.if_icmp .ge 59, 3) := by decide +kernel
theorem dX4_feed_77 : decode cX4_feed 77 = .ok (.aload_n 0, 1) := by decide +kernel
theorem dX4_feed_78 : decode cX4_feed 78 = .ok (.getfield 14, 3) := by decide +kernel
theorem dX4_feed_81 : decode cX4_feed 81 = .ok (.iload 7, 2) := by decide +kernel
theorem dX4_feed_83 : decode cX4_feed 83 = .ok (.ifCond .ne 7, 3) := by decide +kernel
theorem dX4_feed_86 : decode cX4_feed 86 = .ok (.iload_n 2, 1) := by decide +kernel
theorem dX4_feed_87 : decode cX4_feed 87 = .ok (.goto 37, 3) := by decide +kernel
theorem dX4_feed_90 : decode cX4_feed 90 = .ok (.iload 7, 2) := by decide +kernel
theorem dX4_feed_92 : decode cX4_feed 92 = .ok (.iconst 1, 1) := by decide +kernel
theorem dX4_feed_93 : decode cX4_feed 93 = .ok (.if_icmp .ne 7, 3) := by decide +kernel
theorem dX4_feed_96 : decode cX4_feed 96 = .ok (.iload_n 3, 1) := by decide +kernel
theorem dX4_feed_97 : decode cX4_feed 97 = .ok (.goto 27, 3) := by decide +kernel
theorem dX4_feed_100 : decode cX4_feed 100 = .ok (.iload 7, 2) := by decide +kernel
theorem dX4_feed_102 : decode cX4_feed 102 = .ok (.iconst 2, 1) := by decide +kernel
theorem dX4_feed_103 : decode cX4_feed 103 = .ok (.if_icmp .ne 8, 3) := by decide +kernel
theorem dX4_feed_106 : decode cX4_feed 106 = .ok (.iload 4, 2) := by decide +kernel
theorem dX4_feed_108 : decode cX4_feed 108 = .ok (.goto 16, 3) := by decide +kernel
theorem dX4_feed_111 : decode cX4_feed 111 = .ok (.iload 7, 2) := by decide +kernel
theorem dX4_feed_113 : decode cX4_feed 113 = .ok (.iconst 3, 1) := by decide +kernel
theorem dX4_feed_114 : decode cX4_feed 114 = .ok (.if_icmp .ne 8, 3) := by decide +kernel
theorem dX4_feed_117 : decode cX4_feed 117 = .ok (.iload 5, 2) := by decide +kernel
theorem dX4_feed_119 : decode cX4_feed 119 = .ok (.goto 5, 3) := by decide +kernel
theorem dX4_feed_122 : decode cX4_feed 122 = .ok (.iload 6, 2) := by decide +kernel
theorem dX4_feed_124 : decode cX4_feed 124 = .ok (.invokevirtual 30, 3) := by decide +kernel
theorem dX4_feed_127 : decode cX4_feed 127 = .ok (.iinc 7 1, 3) := by decide +kernel
theorem dX4_feed_130 : decode cX4_feed 130 = .ok (.goto (-59), 3) := by decide +kernel
theorem dX4_feed_133 : decode cX4_feed 133 = .ok (.aload_n 0, 1) := by decide +kernel
theorem dX4_feed_134 : decode cX4_feed 134 = .ok (.getfield 14, 3) := by decide +kernel
theorem dX4_feed_137 : decode cX4_feed 137 = .ok (.getfield 42, 3) := by decide +kernel
theorem dX4_feed_140 : decode cX4_feed 140 = .ok (.ireturn, 1) := by decide +kernel
theorem dX4_text_0 : decode cX4_text 0 = .ok (.aload_n 0, 1) := by decide +kernel
theorem dX4_text_1 : decode cX4_text 1 = .ok (.getfield 50, 3) := by decide +kernel
theorem dX4_text_4 : decode cX4_text 4 = .ok (.bipush 6, 2) := by decide +kernel
theorem dX4_text_6 : decode cX4_text 6 = .ok (.if_icmp .lt 6, 3) := by decide +kernel
theorem dX4_text_9 : decode cX4_text 9 = .ok (.bipush (-4), 2) := by decide +kernel
theorem dX4_text_11 : decode cX4_text 11 = .ok (.ireturn, 1) := by decide +kernel
theorem dX4_text_12 : decode cX4_text 12 = .ok (.aload_n 0, 1) := by decide +kernel
theorem dX4_text_13 : decode cX4_text 13 = .ok (.getfield 14, 3) := by decide +kernel
theorem dX4_text_16 : decode cX4_text 16 = .ok (.invokevirtual 34, 3) := by decide +kernel
theorem dX4_text_19 : decode cX4_text 19 = .ok (.istore_n 1, 1) := by decide +kernel
theorem dX4_text_20 : decode cX4_text 20 = .ok (.aload_n 0, 1) := by decide +kernel
theorem dX4_text_21 : decode cX4_text 21 = .ok (.getfield 14, 3) := by decide +kernel
theorem dX4_text_24 : decode cX4_text 24 = .ok (.iconst 0, 1) := by decide +kernel
theorem dX4_text_25 : decode cX4_text 25 = .ok (.putfield 42, 3) := by decide +kernel
theorem dX4_text_28 : decode cX4_text 28 = .ok (.iload_n 1, 1) := by decide +kernel
theorem dX4_text_29 : decode cX4_text 29 = .ok (.ifCond .ne 14, 3) := by decide +kernel
theorem dX4_text_32 : decode cX4_text 32 = .ok (.bipush (-100), 2) := by decide +kernel
theorem dX4_text_34 : decode cX4_text 34 = .ok (.aload_n 0, 1) := by decide +kernel
theorem dX4_text_35 : decode cX4_text 35 = .ok (.getfield 14, 3) := by decide +kernel
theorem dX4_text_38 : decode cX4_text 38 = .ok (.getfield 97, 3) := by decide +kernel
theorem dX4_text_41 : decode cX4_text 41 = .ok (.isub, 1) := by decide +kernel
theorem dX4_text_42 : decode cX4_text 42 = .ok (.ireturn, 1) := by decide +kernel
theorem dX4_text_43 : decode cX4_text 43 = .ok (.aload_n 0, 1) := by decide +kernel
theorem dX4_text_44 : decode cX4_text 44 = .ok (.getfield 46, 3) := by decide +kernel
theorem dX4_text_47 : decode cX4_text 47 = .ok (.aload_n 0, 1) := by decide +kernel
theorem dX4_text_48 : decode cX4_text 48 = .ok (.getfield 50, 3) := by decide +kernel
theorem dX4_text_51 : decode cX4_text 51 = .ok (.aload_n 0, 1) := by decide +kernel
theorem dX4_text_52 : decode cX4_text 52 = .ok (.getfield 14, 3) := by decide +kernel
theorem dX4_text_55 : decode cX4_text 55 = .ok (.invokevirtual 38, 3) := by decide +kernel
theorem dX4_text_58 : decode cX4_text 58 = .ok (.aastore, 1) := by decide +kernel
theorem dX4_text_59 : decode cX4_text 59 = .ok (.aload_n 0, 1) := by decide +kernel
theorem dX4_text_60 : decode cX4_text 60 = .ok (.dup, 1) := by decide +kernel
theorem dX4_text_61 : decode cX4_text 61 = .ok (.getfield 50, 3) := by decide +kernel
theorem dX4_text_64 : decode cX4_text 64 = .ok (.dup_x1, 1) := by decide +kernel
theorem dX4_text_65 : decode cX4_text 65 = .ok (.iconst 1, 1) := by decide +kernel
theorem dX4_text_66 : decode cX4_text 66 = .ok (.iadd, 1) := by decide +kernel
theorem dX4_text_67 : decode cX4_text 67 = .ok (.putfield 50, 3) := by decide +kernel
theorem dX4_text_70 : decode cX4_text 70 = .ok (.ireturn, 1) := by decide +kernel
theorem dX4_force_0 : decode cX4_force 0 = .ok (.iload_n 1, 1) := by decide +kernel
theorem dX4_force_1 : decode cX4_force 1 = .ok (.iconst 0, 1) := by decide +kernel
theorem dX4_force_2 : decode cX4_force 2 = .ok (.aload_n 0, 1) := by decide +kernel
theorem dX4_force_3 : decode cX4_force 3 = .ok (.getfield 50, 3) := by decide +kernel
theorem dX4_force_6 : decode cX4_force 6 = .ok (.iconst 1, 1) := by decide +kernel
theorem dX4_force_7 : decode cX4_force 7 = .ok (.isub, 1) := by decide +kernel
theorem dX4_force_8 : decode cX4_force 8 = .ok (.invokestatic 89, 3) := by decide +kernel
theorem dX4_force_11 : decode cX4_force 11 = .ok (.ifCond .ne 6, 3) := by decide +kernel
theorem dX4_force_14 : decode cX4_force 14 = .ok (.bipush (-2), 2) := by decide +kernel
theorem dX4_force_16 : decode cX4_force 16 = .ok (.ireturn, 1) := by decide +kernel
theorem dX4_force_17 : decode cX4_force 17 = .ok (.aload_n 0, 1) := by decide +kernel
theorem dX4_force_18 : decode cX4_force 18 = .ok (.getfield 58, 3) := by decide +kernel
theorem dX4_force_21 : decode cX4_force 21 = .ok (.getfield 86, 3) := by decide +kernel
theorem dX4_force_24 : decode cX4_force 24 = .ok (.istore_n 2, 1) := by decide +kernel
theorem dX4_force_25 : decode cX4_force 25 = .ok (.aload_n 0, 1) := by decide +kernel
theorem dX4_force_26 : decode cX4_force 26 = .ok (.getfield 58, 3) := by decide +kernel
theorem dX4_force_29 : decode cX4_force 29 = .ok (.iload_n 1, 1) := by decide +kernel
theorem dX4_force_30 : decode cX4_force 30 = .ok (.putfield 86, 3) := by decide +kernel
theorem dX4_force_33 : decode cX4_force 33 = .ok (.iload_n 2, 1) := by decide +kernel
theorem dX4_force_34 : decode cX4_force 34 = .ok (.ireturn, 1) := by decide +kernel
theorem dX4_asks_0 : decode cX4_asks 0 = .ok (.iload_n 1, 1) := by decide +kernel
theorem dX4_asks_1 : decode cX4_asks 1 = .ok (.iconst 0, 1) := by decide +kernel
theorem dX4_asks_2 : decode cX4_asks 2 = .ok (.iconst 2, 1) := by decide +kernel
theorem dX4_asks_3 : decode cX4_asks 3 = .ok (.invokestatic 89, 3) := by decide +kernel
theorem dX4_asks_6 : decode cX4_asks 6 = .ok (.ifCond .eq 21, 3) := by decide +kernel
theorem dX4_asks_9 : decode cX4_asks 9 = .ok (.aload_n 0, 1) := by decide +kernel
theorem dX4_asks_10 : decode cX4_asks 10 = .ok (.getfield 58, 3) := by decide +kernel
theorem dX4_asks_13 : decode cX4_asks 13 = .ok (.iload_n 2, 1) := by decide +kernel
theorem dX4_asks_14 : decode cX4_asks 14 = .ok (.invokevirtual 100, 3) := by decide +kernel
theorem dX4_asks_17 : decode cX4_asks 17 = .ok (.ifCond .eq 10, 3) := by decide +kernel
theorem dX4_asks_20 : decode cX4_asks 20 = .ok (.iload_n 3, 1) := by decide +kernel
theorem dX4_asks_21 : decode cX4_asks 21 = .ok (.invokestatic 103, 3) := by decide +kernel
theorem dX4_asks_24 : decode cX4_asks 24 = .ok (.ifCond .ne 7, 3) := by decide +kernel
theorem dX4_asks_27 : decode cX4_asks 27 = .ok (.sipush (-1000), 3) := by decide +kernel
theorem dX4_asks_30 : decode cX4_asks 30 = .ok (.ireturn, 1) := by decide +kernel
theorem dX4_asks_31 : decode cX4_asks 31 = .ok (.aload_n 0, 1) := by decide +kernel
theorem dX4_asks_32 : decode cX4_asks 32 = .ok (.getfield 58, 3) := by decide +kernel
theorem dX4_asks_35 : decode cX4_asks 35 = .ok (.iload_n 1, 1) := by decide +kernel
theorem dX4_asks_36 : decode cX4_asks 36 = .ok (.iload_n 2, 1) := by decide +kernel
theorem dX4_asks_37 : decode cX4_asks 37 = .ok (.iload_n 3, 1) := by decide +kernel
theorem dX4_asks_38 : decode cX4_asks 38 = .ok (.invokevirtual 106, 3) := by decide +kernel
theorem dX4_asks_41 : decode cX4_asks 41 = .ok (.ireturn, 1) := by decide +kernel
theorem dX4_gentleman_0 : decode cX4_gentleman 0 = .ok (.iload_n 1, 1) := by decide +kernel
theorem dX4_gentleman_1 : decode cX4_gentleman 1 = .ok (.iconst 0, 1) := by decide +kernel
theorem dX4_gentleman_2 : decode cX4_gentleman 2 = .ok (.bipush 59, 2) := by decide +kernel
theorem dX4_gentleman_4 : decode cX4_gentleman 4 = .ok (.invokestatic 89, 3) := by decide +kernel
theorem dX4_gentleman_7 : decode cX4_gentleman 7 = .ok (.ifCond .eq 13, 3) := by decide +kernel
theorem dX4_gentleman_10 : decode cX4_gentleman 10 = .ok (.iload_n 2, 1) := by decide +kernel
theorem dX4_gentleman_11 : decode cX4_gentleman 11 = .ok (.iconst 0, 1) := by decide +kernel
theorem dX4_gentleman_12 : decode cX4_gentleman 12 = .ok (.bipush 9, 2) := by decide +kernel
theorem dX4_gentleman_14 : decode cX4_gentleman 14 = .ok (.invokestatic 89, 3) := by decide +kernel
theorem dX4_gentleman_17 : decode cX4_gentleman 17 = .ok (.ifCond .ne 6, 3) := by decide +kernel
theorem dX4_gentleman_20 : decode cX4_gentleman 20 = .ok (.bipush (-2), 2) := by decide +kernel
theorem dX4_gentleman_22 : decode cX4_gentleman 22 = .ok (.ireturn, 1) := by decide +kernel
theorem dX4_gentleman_23 : decode cX4_gentleman 23 = .ok (.aload_n 0, 1) := by decide +kernel
theorem dX4_gentleman_24 : decode cX4_gentleman 24 = .ok (.getfield 58, 3) := by decide +kernel
theorem dX4_gentleman_27 : decode cX4_gentleman 27 = .ok (.getfield 79, 3) := by decide +kernel
theorem dX4_gentleman_30 : decode cX4_gentleman 30 = .ok (.bipush 6, 2) := by decide +kernel
theorem dX4_gentleman_32 : decode cX4_gentleman 32 = .ok (.if_icmp .lt 6, 3) := by decide +kernel
theorem dX4_gentleman_35 : decode cX4_gentleman 35 = .ok (.bipush (-4), 2) := by decide +kernel
theorem dX4_gentleman_37 : decode cX4_gentleman 37 = .ok (.ireturn, 1) := by decide +kernel
theorem dX4_gentleman_38 : decode cX4_gentleman 38 = .ok (.aload_n 0, 1) := by decide +kernel
theorem dX4_gentleman_39 : decode cX4_gentleman 39 = .ok (.getfield 58, 3) := by decide +kernel
theorem dX4_gentleman_42 : decode cX4_gentleman 42 = .ok (.iload_n 1, 1) := by decide +kernel
theorem dX4_gentleman_43 : decode cX4_gentleman 43 = .ok (.bipush 10, 2) := by decide +kernel
theorem dX4_gentleman_45 : decode cX4_gentleman 45 = .ok (.idiv, 1) := by decide +kernel
theorem dX4_gentleman_46 : decode cX4_gentleman 46 = .ok (.iload_n 1, 1) := by decide +kernel
theorem dX4_gentleman_47 : decode cX4_gentleman 47 = .ok (.bipush 10, 2) := by decide +kernel
theorem dX4_gentleman_49 : decode cX4_gentleman 49 = .ok (.irem, 1) := by decide +kernel
theorem dX4_gentleman_50 : decode cX4_gentleman 50 = .ok (.iload_n 2, 1) := by decide +kernel
theorem dX4_gentleman_51 : decode cX4_gentleman 51 = .ok (.invokevirtual 110, 3) := by decide +kernel
theorem dX4_gentleman_54 : decode cX4_gentleman 54 = .ok (.ireturn, 1) := by decide +kernel
theorem dX4_put_0 : decode cX4_put 0 = .ok (.aload_n 0, 1) := by decide +kernel
theorem dX4_put_1 : decode cX4_put 1 = .ok (.getfield 58, 3) := by decide +kernel
theorem dX4_put_4 : decode cX4_put 4 = .ok (.iload_n 1, 1) := by decide +kernel
theorem dX4_put_5 : decode cX4_put 5 = .ok (.invokevirtual 100, 3) := by decide +kernel
theorem dX4_put_8 : decode cX4_put 8 = .ok (.ifCond .ne 6, 3) := by decide +kernel
theorem dX4_put_11 : decode cX4_put 11 = .ok (.bipush (-5), 2) := by decide +kernel
theorem dX4_put_13 : decode cX4_put 13 = .ok (.ireturn, 1) := by decide +kernel
theorem dX4_put_14 : decode cX4_put 14 = .ok (.iload_n 2, 1) := by decide +kernel
theorem dX4_put_15 : decode cX4_put 15 = .ok (.iconst 0, 1) := by decide +kernel
theorem dX4_put_16 : decode cX4_put 16 = .ok (.bipush 8, 2) := by decide +kernel
theorem dX4_put_18 : decode cX4_put 18 = .ok (.invokestatic 89, 3) := by decide +kernel
theorem dX4_put_21 : decode cX4_put 21 = .ok (.ifCond .eq 24, 3) := by decide +kernel
theorem dX4_put_24 : decode cX4_put 24 = .ok (.iload_n 3, 1) := by decide +kernel
theorem dX4_put_25 : decode cX4_put 25 = .ok (.iconst 0, 1) := by decide +kernel
theorem dX4_put_26 : decode cX4_put 26 = .ok (.iload_n 2, 1) := by decide +kernel
theorem dX4_put_27 : decode cX4_put 27 = .ok (.bipush 8, 2) := by decide +kernel
theorem dX4_put_29 : decode cX4_put 29 = .ok (.if_icmp .ne 8, 3) := by decide +kernel
theorem dX4_put_32 : decode cX4_put 32 = .ok (.bipush 99, 2) := by decide +kernel
theorem dX4_put_34 : decode cX4_put 34 = .ok (.goto 5, 3) := by decide +kernel
theorem dX4_put_37 : decode cX4_put 37 = .ok (.bipush 9, 2) := by decide +kernel
theorem dX4_put_39 : decode cX4_put 39 = .ok (.invokestatic 89, 3) := by decide +kernel
theorem dX4_put_42 : decode cX4_put 42 = .ok (.ifCond .ne 6, 3) := by decide +kernel
theorem dX4_put_45 : decode cX4_put 45 = .ok (.bipush (-7), 2) := by decide +kernel
theorem dX4_put_47 : decode cX4_put 47 = .ok (.ireturn, 1) := by decide +kernel
theorem dX4_put_48 : decode cX4_put 48 = .ok (.aload_n 0, 1) := by decide +kernel
theorem dX4_put_49 : decode cX4_put 49 = .ok (.getfield 58, 3) := by decide +kernel
theorem dX4_put_52 : decode cX4_put 52 = .ok (.iload_n 1, 1) := by decide +kernel
theorem dX4_put_53 : decode cX4_put 53 = .ok (.iload_n 2, 1) := by decide +kernel
theorem dX4_put_54 : decode cX4_put 54 = .ok (.iload_n 3, 1) := by decide +kernel
theorem dX4_put_55 : decode cX4_put 55 = .ok (.invokevirtual 113, 3) := by decide +kernel
theorem dX4_put_58 : decode cX4_put 58 = .ok (.ireturn, 1) := by decide +kernel
theorem dX4_told_0 : decode cX4_told 0 = .ok (.aload_n 0, 1) := by decide +kernel
theorem dX4_told_1 : decode cX4_told 1 = .ok (.getfield 58, 3) := by decide +kernel
theorem dX4_told_4 : decode cX4_told 4 = .ok (.iload_n 1, 1) := by decide +kernel
theorem dX4_told_5 : decode cX4_told 5 = .ok (.invokevirtual 100, 3) := by decide +kernel
theorem dX4_told_8 : decode cX4_told 8 = .ok (.ifCond .ne 6, 3) := by decide +kernel
theorem dX4_told_11 : decode cX4_told 11 = .ok (.bipush (-5), 2) := by decide +kernel
theorem dX4_told_13 : decode cX4_told 13 = .ok (.ireturn, 1) := by decide +kernel
theorem dX4_told_14 : decode cX4_told 14 = .ok (.iload_n 2, 1) := by decide +kernel
theorem dX4_told_15 : decode cX4_told 15 = .ok (.invokestatic 103, 3) := by decide +kernel
theorem dX4_told_18 : decode cX4_told 18 = .ok (.ifCond .eq 18, 3) := by decide +kernel
theorem dX4_told_21 : decode cX4_told 21 = .ok (.aload_n 0, 1) := by decide +kernel
theorem dX4_told_22 : decode cX4_told 22 = .ok (.getfield 58, 3) := by decide +kernel
theorem dX4_told_25 : decode cX4_told 25 = .ok (.getfield 116, 3) := by decide +kernel
theorem dX4_told_28 : decode cX4_told 28 = .ok (.iload_n 1, 1) := by decide +kernel
theorem dX4_told_29 : decode cX4_told 29 = .ok (.bipush 8, 2) := by decide +kernel
theorem dX4_told_31 : decode cX4_told 31 = .ok (.imul, 1) := by decide +kernel
theorem dX4_told_32 : decode cX4_told 32 = .ok (.iload_n 2, 1) := by decide +kernel
theorem dX4_told_33 : decode cX4_told 33 = .ok (.iadd, 1) := by decide +kernel
theorem dX4_told_34 : decode cX4_told 34 = .ok (.iaload, 1) := by decide +kernel
theorem dX4_told_35 : decode cX4_told 35 = .ok (.ireturn, 1) := by decide +kernel
theorem dX4_told_36 : decode cX4_told 36 = .ok (.iload_n 2, 1) := by decide +kernel
theorem dX4_told_37 : decode cX4_told 37 = .ok (.tableswitch 99 8 13 #[39, 49, 59, 69, 79, 89], 39) := by decide +kernel
theorem dX4_told_76 : decode cX4_told 76 = .ok (.aload_n 0, 1) := by decide +kernel
theorem dX4_told_77 : decode cX4_told 77 = .ok (.getfield 58, 3) := by decide +kernel
theorem dX4_told_80 : decode cX4_told 80 = .ok (.getfield 119, 3) := by decide +kernel
theorem dX4_told_83 : decode cX4_told 83 = .ok (.iload_n 1, 1) := by decide +kernel
theorem dX4_told_84 : decode cX4_told 84 = .ok (.iaload, 1) := by decide +kernel
theorem dX4_told_85 : decode cX4_told 85 = .ok (.ireturn, 1) := by decide +kernel
theorem dX4_told_86 : decode cX4_told 86 = .ok (.aload_n 0, 1) := by decide +kernel
theorem dX4_told_87 : decode cX4_told 87 = .ok (.getfield 58, 3) := by decide +kernel
theorem dX4_told_90 : decode cX4_told 90 = .ok (.getfield 122, 3) := by decide +kernel
theorem dX4_told_93 : decode cX4_told 93 = .ok (.iload_n 1, 1) := by decide +kernel
theorem dX4_told_94 : decode cX4_told 94 = .ok (.iaload, 1) := by decide +kernel
theorem dX4_told_95 : decode cX4_told 95 = .ok (.ireturn, 1) := by decide +kernel
theorem dX4_told_96 : decode cX4_told 96 = .ok (.aload_n 0, 1) := by decide +kernel
theorem dX4_told_97 : decode cX4_told 97 = .ok (.getfield 58, 3) := by decide +kernel
theorem dX4_told_100 : decode cX4_told 100 = .ok (.getfield 125, 3) := by decide +kernel
theorem dX4_told_103 : decode cX4_told 103 = .ok (.iload_n 1, 1) := by decide +kernel
theorem dX4_told_104 : decode cX4_told 104 = .ok (.iaload, 1) := by decide +kernel
theorem dX4_told_105 : decode cX4_told 105 = .ok (.ireturn, 1) := by decide +kernel
theorem dX4_told_106 : decode cX4_told 106 = .ok (.aload_n 0, 1) := by decide +kernel
theorem dX4_told_107 : decode cX4_told 107 = .ok (.getfield 58, 3) := by decide +kernel
theorem dX4_told_110 : decode cX4_told 110 = .ok (.getfield 128, 3) := by decide +kernel
theorem dX4_told_113 : decode cX4_told 113 = .ok (.iload_n 1, 1) := by decide +kernel
theorem dX4_told_114 : decode cX4_told 114 = .ok (.iaload, 1) := by decide +kernel
theorem dX4_told_115 : decode cX4_told 115 = .ok (.ireturn, 1) := by decide +kernel
theorem dX4_told_116 : decode cX4_told 116 = .ok (.aload_n 0, 1) := by decide +kernel
theorem dX4_told_117 : decode cX4_told 117 = .ok (.getfield 58, 3) := by decide +kernel
theorem dX4_told_120 : decode cX4_told 120 = .ok (.getfield 131, 3) := by decide +kernel
theorem dX4_told_123 : decode cX4_told 123 = .ok (.iload_n 1, 1) := by decide +kernel
theorem dX4_told_124 : decode cX4_told 124 = .ok (.iaload, 1) := by decide +kernel
theorem dX4_told_125 : decode cX4_told 125 = .ok (.ireturn, 1) := by decide +kernel
theorem dX4_told_126 : decode cX4_told 126 = .ok (.aload_n 0, 1) := by decide +kernel
theorem dX4_told_127 : decode cX4_told 127 = .ok (.getfield 58, 3) := by decide +kernel
theorem dX4_told_130 : decode cX4_told 130 = .ok (.getfield 134, 3) := by decide +kernel
theorem dX4_told_133 : decode cX4_told 133 = .ok (.iload_n 1, 1) := by decide +kernel
theorem dX4_told_134 : decode cX4_told 134 = .ok (.iaload, 1) := by decide +kernel
theorem dX4_told_135 : decode cX4_told 135 = .ok (.ireturn, 1) := by decide +kernel
theorem dX4_told_136 : decode cX4_told 136 = .ok (.bipush (-7), 2) := by decide +kernel
theorem dX4_told_138 : decode cX4_told 138 = .ok (.ireturn, 1) := by decide +kernel
theorem dX4_pinches_0 : decode cX4_pinches 0 = .ok (.aload_n 0, 1) := by decide +kernel
theorem dX4_pinches_1 : decode cX4_pinches 1 = .ok (.getfield 58, 3) := by decide +kernel
theorem dX4_pinches_4 : decode cX4_pinches 4 = .ok (.iload_n 1, 1) := by decide +kernel
theorem dX4_pinches_5 : decode cX4_pinches 5 = .ok (.invokevirtual 100, 3) := by decide +kernel
theorem dX4_pinches_8 : decode cX4_pinches 8 = .ok (.ifCond .eq 10, 3) := by decide +kernel
theorem dX4_pinches_11 : decode cX4_pinches 11 = .ok (.iload_n 2, 1) := by decide +kernel
theorem dX4_pinches_12 : decode cX4_pinches 12 = .ok (.invokestatic 103, 3) := by decide +kernel
theorem dX4_pinches_15 : decode cX4_pinches 15 = .ok (.ifCond .ne 7, 3) := by decide +kernel
theorem dX4_pinches_18 : decode cX4_pinches 18 = .ok (.sipush (-5000), 3) := by decide +kernel
theorem dX4_pinches_21 : decode cX4_pinches 21 = .ok (.ireturn, 1) := by decide +kernel
theorem dX4_pinches_22 : decode cX4_pinches 22 = .ok (.iload_n 3, 1) := by decide +kernel
theorem dX4_pinches_23 : decode cX4_pinches 23 = .ok (.tableswitch 55 0 2 #[25, 35, 45], 25) := by decide +kernel
theorem dX4_pinches_48 : decode cX4_pinches 48 = .ok (.aload_n 0, 1) := by decide +kernel
theorem dX4_pinches_49 : decode cX4_pinches 49 = .ok (.getfield 58, 3) := by decide +kernel
theorem dX4_pinches_52 : decode cX4_pinches 52 = .ok (.iload_n 1, 1) := by decide +kernel
theorem dX4_pinches_53 : decode cX4_pinches 53 = .ok (.iload_n 2, 1) := by decide +kernel
theorem dX4_pinches_54 : decode cX4_pinches 54 = .ok (.invokevirtual 137, 3) := by decide +kernel
theorem dX4_pinches_57 : decode cX4_pinches 57 = .ok (.ireturn, 1) := by decide +kernel
theorem dX4_pinches_58 : decode cX4_pinches 58 = .ok (.aload_n 0, 1) := by decide +kernel
theorem dX4_pinches_59 : decode cX4_pinches 59 = .ok (.getfield 58, 3) := by decide +kernel
theorem dX4_pinches_62 : decode cX4_pinches 62 = .ok (.iload_n 1, 1) := by decide +kernel
theorem dX4_pinches_63 : decode cX4_pinches 63 = .ok (.iload_n 2, 1) := by decide +kernel
theorem dX4_pinches_64 : decode cX4_pinches 64 = .ok (.invokevirtual 141, 3) := by decide +kernel
theorem dX4_pinches_67 : decode cX4_pinches 67 = .ok (.ireturn, 1) := by decide +kernel
theorem dX4_pinches_68 : decode cX4_pinches 68 = .ok (.aload_n 0, 1) := by decide +kernel
theorem dX4_pinches_69 : decode cX4_pinches 69 = .ok (.getfield 58, 3) := by decide +kernel
theorem dX4_pinches_72 : decode cX4_pinches 72 = .ok (.iload_n 1, 1) := by decide +kernel
theorem dX4_pinches_73 : decode cX4_pinches 73 = .ok (.iload_n 2, 1) := by decide +kernel
theorem dX4_pinches_74 : decode cX4_pinches 74 = .ok (.invokevirtual 144, 3) := by decide +kernel
theorem dX4_pinches_77 : decode cX4_pinches 77 = .ok (.ireturn, 1) := by decide +kernel
theorem dX4_pinches_78 : decode cX4_pinches 78 = .ok (.sipush (-7000), 3) := by decide +kernel
theorem dX4_pinches_81 : decode cX4_pinches 81 = .ok (.ireturn, 1) := by decide +kernel
theorem dX4_pinch_0 : decode cX4_pinch 0 = .ok (.aload_n 0, 1) := by decide +kernel
theorem dX4_pinch_1 : decode cX4_pinch 1 = .ok (.getfield 58, 3) := by decide +kernel
theorem dX4_pinch_4 : decode cX4_pinch 4 = .ok (.iload_n 1, 1) := by decide +kernel
theorem dX4_pinch_5 : decode cX4_pinch 5 = .ok (.invokevirtual 100, 3) := by decide +kernel
theorem dX4_pinch_8 : decode cX4_pinch 8 = .ok (.ifCond .ne 6, 3) := by decide +kernel
theorem dX4_pinch_11 : decode cX4_pinch 11 = .ok (.bipush (-5), 2) := by decide +kernel
theorem dX4_pinch_13 : decode cX4_pinch 13 = .ok (.ireturn, 1) := by decide +kernel
theorem dX4_pinch_14 : decode cX4_pinch 14 = .ok (.iload_n 2, 1) := by decide +kernel
theorem dX4_pinch_15 : decode cX4_pinch 15 = .ok (.invokestatic 103, 3) := by decide +kernel
theorem dX4_pinch_18 : decode cX4_pinch 18 = .ok (.ifCond .ne 6, 3) := by decide +kernel
theorem dX4_pinch_21 : decode cX4_pinch 21 = .ok (.bipush (-6), 2) := by decide +kernel
theorem dX4_pinch_23 : decode cX4_pinch 23 = .ok (.ireturn, 1) := by decide +kernel
theorem dX4_pinch_24 : decode cX4_pinch 24 = .ok (.aload_n 0, 1) := by decide +kernel
theorem dX4_pinch_25 : decode cX4_pinch 25 = .ok (.getfield 58, 3) := by decide +kernel
theorem dX4_pinch_28 : decode cX4_pinch 28 = .ok (.iload_n 1, 1) := by decide +kernel
theorem dX4_pinch_29 : decode cX4_pinch 29 = .ok (.iload_n 2, 1) := by decide +kernel
theorem dX4_pinch_30 : decode cX4_pinch 30 = .ok (.invokevirtual 147, 3) := by decide +kernel
theorem dX4_pinch_33 : decode cX4_pinch 33 = .ok (.ifCond .ne 6, 3) := by decide +kernel
theorem dX4_pinch_36 : decode cX4_pinch 36 = .ok (.bipush (-3), 2) := by decide +kernel
theorem dX4_pinch_38 : decode cX4_pinch 38 = .ok (.ireturn, 1) := by decide +kernel
theorem dX4_pinch_39 : decode cX4_pinch 39 = .ok (.aload_n 0, 1) := by decide +kernel
theorem dX4_pinch_40 : decode cX4_pinch 40 = .ok (.getfield 58, 3) := by decide +kernel
theorem dX4_pinch_43 : decode cX4_pinch 43 = .ok (.iload_n 1, 1) := by decide +kernel
theorem dX4_pinch_44 : decode cX4_pinch 44 = .ok (.iload_n 2, 1) := by decide +kernel
theorem dX4_pinch_45 : decode cX4_pinch 45 = .ok (.invokevirtual 151, 3) := by decide +kernel
theorem dX4_pinch_48 : decode cX4_pinch 48 = .ok (.aload_n 0, 1) := by decide +kernel
theorem dX4_pinch_49 : decode cX4_pinch 49 = .ok (.getfield 58, 3) := by decide +kernel
theorem dX4_pinch_52 : decode cX4_pinch 52 = .ok (.getfield 134, 3) := by decide +kernel
theorem dX4_pinch_55 : decode cX4_pinch 55 = .ok (.iload_n 1, 1) := by decide +kernel
theorem dX4_pinch_56 : decode cX4_pinch 56 = .ok (.iaload, 1) := by decide +kernel
theorem dX4_pinch_57 : decode cX4_pinch 57 = .ok (.ireturn, 1) := by decide +kernel
theorem dX4_give_0 : decode cX4_give 0 = .ok (.aload_n 0, 1) := by decide +kernel
theorem dX4_give_1 : decode cX4_give 1 = .ok (.getfield 58, 3) := by decide +kernel
theorem dX4_give_4 : decode cX4_give 4 = .ok (.iload_n 1, 1) := by decide +kernel
theorem dX4_give_5 : decode cX4_give 5 = .ok (.invokevirtual 100, 3) := by decide +kernel
theorem dX4_give_8 : decode cX4_give 8 = .ok (.ifCond .eq 19, 3) := by decide +kernel
theorem dX4_give_11 : decode cX4_give 11 = .ok (.aload_n 0, 1) := by decide +kernel
theorem dX4_give_12 : decode cX4_give 12 = .ok (.getfield 58, 3) := by decide +kernel
theorem dX4_give_15 : decode cX4_give 15 = .ok (.iload_n 2, 1) := by decide +kernel
theorem dX4_give_16 : decode cX4_give 16 = .ok (.invokevirtual 100, 3) := by decide +kernel
theorem dX4_give_19 : decode cX4_give 19 = .ok (.ifCond .eq 8, 3) := by decide +kernel
theorem dX4_give_22 : decode cX4_give 22 = .ok (.iload_n 1, 1) := by decide +kernel
theorem dX4_give_23 : decode cX4_give 23 = .ok (.iload_n 2, 1) := by decide +kernel
theorem dX4_give_24 : decode cX4_give 24 = .ok (.if_icmp .ne 6, 3) := by decide +kernel
theorem dX4_give_27 : decode cX4_give 27 = .ok (.bipush (-5), 2) := by decide +kernel
theorem dX4_give_29 : decode cX4_give 29 = .ok (.ireturn, 1) := by decide +kernel
theorem dX4_give_30 : decode cX4_give 30 = .ok (.iload_n 3, 1) := by decide +kernel
theorem dX4_give_31 : decode cX4_give 31 = .ok (.invokestatic 103, 3) := by decide +kernel
theorem dX4_give_34 : decode cX4_give 34 = .ok (.ifCond .ne 6, 3) := by decide +kernel
theorem dX4_give_37 : decode cX4_give 37 = .ok (.bipush (-6), 2) := by decide +kernel
theorem dX4_give_39 : decode cX4_give 39 = .ok (.ireturn, 1) := by decide +kernel
theorem dX4_give_40 : decode cX4_give 40 = .ok (.iload_n 1, 1) := by decide +kernel
theorem dX4_give_41 : decode cX4_give 41 = .ok (.bipush 8, 2) := by decide +kernel
theorem dX4_give_43 : decode cX4_give 43 = .ok (.imul, 1) := by decide +kernel
theorem dX4_give_44 : decode cX4_give 44 = .ok (.iload_n 3, 1) := by decide +kernel
theorem dX4_give_45 : decode cX4_give 45 = .ok (.iadd, 1) := by decide +kernel
theorem dX4_give_46 : decode cX4_give 46 = .ok (.istore 4, 2) := by decide +kernel
theorem dX4_give_48 : decode cX4_give 48 = .ok (.iload_n 2, 1) := by decide +kernel
theorem dX4_give_49 : decode cX4_give 49 = .ok (.bipush 8, 2) := by decide +kernel
theorem dX4_give_51 : decode cX4_give 51 = .ok (.imul, 1) := by decide +kernel
theorem dX4_give_52 : decode cX4_give 52 = .ok (.iload_n 3, 1) := by decide +kernel
theorem dX4_give_53 : decode cX4_give 53 = .ok (.iadd, 1) := by decide +kernel
theorem dX4_give_54 : decode cX4_give 54 = .ok (.istore 5, 2) := by decide +kernel
theorem dX4_give_56 : decode cX4_give 56 = .ok (.aload_n 0, 1) := by decide +kernel
theorem dX4_give_57 : decode cX4_give 57 = .ok (.getfield 58, 3) := by decide +kernel
theorem dX4_give_60 : decode cX4_give 60 = .ok (.getfield 116, 3) := by decide +kernel
theorem dX4_give_63 : decode cX4_give 63 = .ok (.iload 4, 2) := by decide +kernel
theorem dX4_give_65 : decode cX4_give 65 = .ok (.iaload, 1) := by decide +kernel
theorem dX4_give_66 : decode cX4_give 66 = .ok (.ifCond .le 18, 3) := by decide +kernel
theorem dX4_give_69 : decode cX4_give 69 = .ok (.aload_n 0, 1) := by decide +kernel
theorem dX4_give_70 : decode cX4_give 70 = .ok (.getfield 58, 3) := by decide +kernel
theorem dX4_give_73 : decode cX4_give 73 = .ok (.getfield 116, 3) := by decide +kernel
theorem dX4_give_76 : decode cX4_give 76 = .ok (.iload 5, 2) := by decide +kernel
theorem dX4_give_78 : decode cX4_give 78 = .ok (.iaload, 1) := by decide +kernel
theorem dX4_give_79 : decode cX4_give 79 = .ok (.bipush 9, 2) := by decide +kernel
theorem dX4_give_81 : decode cX4_give 81 = .ok (.if_icmp .lt 6, 3) := by decide +kernel
theorem dX4_give_84 : decode cX4_give 84 = .ok (.bipush (-3), 2) := by decide +kernel
theorem dX4_give_86 : decode cX4_give 86 = .ok (.ireturn, 1) := by decide +kernel
theorem dX4_give_87 : decode cX4_give 87 = .ok (.aload_n 0, 1) := by decide +kernel
theorem dX4_give_88 : decode cX4_give 88 = .ok (.getfield 58, 3) := by decide +kernel
theorem dX4_give_91 : decode cX4_give 91 = .ok (.getfield 116, 3) := by decide +kernel
theorem dX4_give_94 : decode cX4_give 94 = .ok (.iload 4, 2) := by decide +kernel
theorem dX4_give_96 : decode cX4_give 96 = .ok (.dup2, 1) := by decide +kernel
theorem dX4_give_97 : decode cX4_give 97 = .ok (.iaload, 1) := by decide +kernel
theorem dX4_give_98 : decode cX4_give 98 = .ok (.iconst 1, 1) := by decide +kernel
theorem dX4_give_99 : decode cX4_give 99 = .ok (.isub, 1) := by decide +kernel
theorem dX4_give_100 : decode cX4_give 100 = .ok (.iastore, 1) := by decide +kernel
theorem dX4_give_101 : decode cX4_give 101 = .ok (.aload_n 0, 1) := by decide +kernel
theorem dX4_give_102 : decode cX4_give 102 = .ok (.getfield 58, 3) := by decide +kernel
theorem dX4_give_105 : decode cX4_give 105 = .ok (.getfield 116, 3) := by decide +kernel
theorem dX4_give_108 : decode cX4_give 108 = .ok (.iload 5, 2) := by decide +kernel
theorem dX4_give_110 : decode cX4_give 110 = .ok (.dup2, 1) := by decide +kernel
theorem dX4_give_111 : decode cX4_give 111 = .ok (.iaload, 1) := by decide +kernel
theorem dX4_give_112 : decode cX4_give 112 = .ok (.iconst 1, 1) := by decide +kernel
theorem dX4_give_113 : decode cX4_give 113 = .ok (.iadd, 1) := by decide +kernel
theorem dX4_give_114 : decode cX4_give 114 = .ok (.iastore, 1) := by decide +kernel
theorem dX4_give_115 : decode cX4_give 115 = .ok (.aload_n 0, 1) := by decide +kernel
theorem dX4_give_116 : decode cX4_give 116 = .ok (.getfield 58, 3) := by decide +kernel
theorem dX4_give_119 : decode cX4_give 119 = .ok (.getfield 116, 3) := by decide +kernel
theorem dX4_give_122 : decode cX4_give 122 = .ok (.iload 5, 2) := by decide +kernel
theorem dX4_give_124 : decode cX4_give 124 = .ok (.iaload, 1) := by decide +kernel
theorem dX4_give_125 : decode cX4_give 125 = .ok (.ireturn, 1) := by decide +kernel
theorem dX4_minute_0 : decode cX4_minute 0 = .ok (.aload_n 0, 1) := by decide +kernel
theorem dX4_minute_1 : decode cX4_minute 1 = .ok (.getfield 58, 3) := by decide +kernel
theorem dX4_minute_4 : decode cX4_minute 4 = .ok (.getfield 80, 3) := by decide +kernel
theorem dX4_minute_7 : decode cX4_minute 7 = .ok (.sipush 999, 3) := by decide +kernel
theorem dX4_minute_10 : decode cX4_minute 10 = .ok (.if_icmp .lt 6, 3) := by decide +kernel
theorem dX4_minute_13 : decode cX4_minute 13 = .ok (.bipush (-3), 2) := by decide +kernel
theorem dX4_minute_15 : decode cX4_minute 15 = .ok (.ireturn, 1) := by decide +kernel
theorem dX4_minute_16 : decode cX4_minute 16 = .ok (.aload_n 0, 1) := by decide +kernel
theorem dX4_minute_17 : decode cX4_minute 17 = .ok (.getfield 58, 3) := by decide +kernel
theorem dX4_minute_20 : decode cX4_minute 20 = .ok (.invokevirtual 155, 3) := by decide +kernel
theorem dX4_minute_23 : decode cX4_minute 23 = .ok (.ireturn, 1) := by decide +kernel
theorem dX4_room_0 : decode cX4_room 0 = .ok (.iload_n 1, 1) := by decide +kernel
theorem dX4_room_1 : decode cX4_room 1 = .ok (.ifCond .ne 12, 3) := by decide +kernel
theorem dX4_room_4 : decode cX4_room 4 = .ok (.aload_n 0, 1) := by decide +kernel
theorem dX4_room_5 : decode cX4_room 5 = .ok (.getfield 58, 3) := by decide +kernel
theorem dX4_room_8 : decode cX4_room 8 = .ok (.iconst (-1), 1) := by decide +kernel
theorem dX4_room_9 : decode cX4_room 9 = .ok (.invokevirtual 158, 3) := by decide +kernel
theorem dX4_room_12 : decode cX4_room 12 = .ok (.ireturn, 1) := by decide +kernel
theorem dX4_room_13 : decode cX4_room 13 = .ok (.iload_n 1, 1) := by decide +kernel
theorem dX4_room_14 : decode cX4_room 14 = .ok (.iconst 1, 1) := by decide +kernel
theorem dX4_room_15 : decode cX4_room 15 = .ok (.bipush 8, 2) := by decide +kernel
theorem dX4_room_17 : decode cX4_room 17 = .ok (.invokestatic 89, 3) := by decide +kernel
theorem dX4_room_20 : decode cX4_room 20 = .ok (.ifCond .eq 14, 3) := by decide +kernel
theorem dX4_room_23 : decode cX4_room 23 = .ok (.aload_n 0, 1) := by decide +kernel
theorem dX4_room_24 : decode cX4_room 24 = .ok (.getfield 58, 3) := by decide +kernel
theorem dX4_room_27 : decode cX4_room 27 = .ok (.iload_n 1, 1) := by decide +kernel
theorem dX4_room_28 : decode cX4_room 28 = .ok (.iconst 1, 1) := by decide +kernel
theorem dX4_room_29 : decode cX4_room 29 = .ok (.isub, 1) := by decide +kernel
theorem dX4_room_30 : decode cX4_room 30 = .ok (.invokevirtual 158, 3) := by decide +kernel
theorem dX4_room_33 : decode cX4_room 33 = .ok (.ireturn, 1) := by decide +kernel
theorem dX4_room_34 : decode cX4_room 34 = .ok (.iload_n 1, 1) := by decide +kernel
theorem dX4_room_35 : decode cX4_room 35 = .ok (.bipush 9, 2) := by decide +kernel
theorem dX4_room_37 : decode cX4_room 37 = .ok (.if_icmp .ne 13, 3) := by decide +kernel
theorem dX4_room_40 : decode cX4_room 40 = .ok (.aload_n 0, 1) := by decide +kernel
theorem dX4_room_41 : decode cX4_room 41 = .ok (.getfield 58, 3) := by decide +kernel
theorem dX4_room_44 : decode cX4_room 44 = .ok (.invokevirtual 162, 3) := by decide +kernel
theorem dX4_room_47 : decode cX4_room 47 = .ok (.goto 5, 3) := by decide +kernel
theorem dX4_room_50 : decode cX4_room 50 = .ok (.bipush (-2), 2) := by decide +kernel
theorem dX4_room_52 : decode cX4_room 52 = .ok (.ireturn, 1) := by decide +kernel
theorem dX4_evening_0 : decode cX4_evening 0 = .ok (.aload_n 0, 1) := by decide +kernel
theorem dX4_evening_1 : decode cX4_evening 1 = .ok (.iload_n 1, 1) := by decide +kernel
theorem dX4_evening_2 : decode cX4_evening 2 = .ok (.invokevirtual 165, 3) := by decide +kernel
theorem dX4_evening_5 : decode cX4_evening 5 = .ok (.istore_n 3, 1) := by decide +kernel
theorem dX4_evening_6 : decode cX4_evening 6 = .ok (.iload_n 3, 1) := by decide +kernel
theorem dX4_evening_7 : decode cX4_evening 7 = .ok (.ifCond .eq 5, 3) := by decide +kernel
theorem dX4_evening_10 : decode cX4_evening 10 = .ok (.iload_n 3, 1) := by decide +kernel
theorem dX4_evening_11 : decode cX4_evening 11 = .ok (.ireturn, 1) := by decide +kernel
theorem dX4_evening_12 : decode cX4_evening 12 = .ok (.iload_n 2, 1) := by decide +kernel
theorem dX4_evening_13 : decode cX4_evening 13 = .ok (.bipush 10, 2) := by decide +kernel
theorem dX4_evening_15 : decode cX4_evening 15 = .ok (.bipush 9, 2) := by decide +kernel
theorem dX4_evening_17 : decode cX4_evening 17 = .ok (.aload_n 0, 1) := by decide +kernel
theorem dX4_evening_18 : decode cX4_evening 18 = .ok (.getfield 58, 3) := by decide +kernel
theorem dX4_evening_21 : decode cX4_evening 21 = .ok (.getfield 79, 3) := by decide +kernel
theorem dX4_evening_24 : decode cX4_evening 24 = .ok (.iadd, 1) := by decide +kernel
theorem dX4_evening_25 : decode cX4_evening 25 = .ok (.invokestatic 89, 3) := by decide +kernel
theorem dX4_evening_28 : decode cX4_evening 28 = .ok (.istore 4, 2) := by decide +kernel
theorem dX4_evening_30 : decode cX4_evening 30 = .ok (.iload_n 2, 1) := by decide +kernel
theorem dX4_evening_31 : decode cX4_evening 31 = .ok (.bipush 20, 2) := by decide +kernel
theorem dX4_evening_33 : decode cX4_evening 33 = .ok (.bipush 19, 2) := by decide +kernel
theorem dX4_evening_35 : decode cX4_evening 35 = .ok (.aload_n 0, 1) := by decide +kernel
theorem dX4_evening_36 : decode cX4_evening 36 = .ok (.getfield 58, 3) := by decide +kernel
theorem dX4_evening_39 : decode cX4_evening 39 = .ok (.getfield 79, 3) := by decide +kernel
theorem dX4_evening_42 : decode cX4_evening 42 = .ok (.iadd, 1) := by decide +kernel
theorem dX4_evening_43 : decode cX4_evening 43 = .ok (.invokestatic 89, 3) := by decide +kernel
theorem dX4_evening_46 : decode cX4_evening 46 = .ok (.istore 5, 2) := by decide +kernel
theorem dX4_evening_48 : decode cX4_evening 48 = .ok (.iload_n 2, 1) := by decide +kernel
theorem dX4_evening_49 : decode cX4_evening 49 = .ok (.iconst 0, 1) := by decide +kernel
theorem dX4_evening_50 : decode cX4_evening 50 = .ok (.iconst 3, 1) := by decide +kernel
theorem dX4_evening_51 : decode cX4_evening 51 = .ok (.invokestatic 89, 3) := by decide +kernel
theorem dX4_evening_54 : decode cX4_evening 54 = .ok (.ifCond .ne 16, 3) := by decide +kernel
theorem dX4_evening_57 : decode cX4_evening 57 = .ok (.iload 4, 2) := by decide +kernel
theorem dX4_evening_59 : decode cX4_evening 59 = .ok (.ifCond .ne 11, 3) := by decide +kernel
theorem dX4_evening_62 : decode cX4_evening 62 = .ok (.iload 5, 2) := by decide +kernel
theorem dX4_evening_64 : decode cX4_evening 64 = .ok (.ifCond .ne 6, 3) := by decide +kernel
theorem dX4_evening_67 : decode cX4_evening 67 = .ok (.bipush (-7), 2) := by decide +kernel
theorem dX4_evening_69 : decode cX4_evening 69 = .ok (.ireturn, 1) := by decide +kernel
theorem dX4_evening_70 : decode cX4_evening 70 = .ok (.aload_n 0, 1) := by decide +kernel
theorem dX4_evening_71 : decode cX4_evening 71 = .ok (.getfield 71, 3) := by decide +kernel
theorem dX4_evening_74 : decode cX4_evening 74 = .ok (.iload_n 1, 1) := by decide +kernel
theorem dX4_evening_75 : decode cX4_evening 75 = .ok (.aaload, 1) := by decide +kernel
theorem dX4_evening_76 : decode cX4_evening 76 = .ok (.astore 6, 2) := by decide +kernel
theorem dX4_evening_78 : decode cX4_evening 78 = .ok (.aload_n 0, 1) := by decide +kernel
theorem dX4_evening_79 : decode cX4_evening 79 = .ok (.getfield 62, 3) := by decide +kernel
theorem dX4_evening_82 : decode cX4_evening 82 = .ok (.aload_n 0, 1) := by decide +kernel
theorem dX4_evening_83 : decode cX4_evening 83 = .ok (.getfield 58, 3) := by decide +kernel
theorem dX4_evening_86 : decode cX4_evening 86 = .ok (.invokevirtual 168, 3) := by decide +kernel
theorem dX4_evening_89 : decode cX4_evening 89 = .ok (.iconst 0, 1) := by decide +kernel
theorem dX4_evening_90 : decode cX4_evening 90 = .ok (.istore 7, 2) := by decide +kernel
theorem dX4_evening_92 : decode cX4_evening 92 = .ok (.iconst 0, 1) := by decide +kernel
theorem dX4_evening_93 : decode cX4_evening 93 = .ok (.istore 8, 2) := by decide +kernel
theorem dX4_evening_95 : decode cX4_evening 95 = .ok (.iconst 0, 1) := by decide +kernel
theorem dX4_evening_96 : decode cX4_evening 96 = .ok (.istore 9, 2) := by decide +kernel
theorem dX4_evening_98 : decode cX4_evening 98 = .ok (.iconst (-1), 1) := by decide +kernel
theorem dX4_evening_99 : decode cX4_evening 99 = .ok (.istore 10, 2) := by decide +kernel
theorem dX4_evening_101 : decode cX4_evening 101 = .ok (.iconst 0, 1) := by decide +kernel
theorem dX4_evening_102 : decode cX4_evening 102 = .ok (.istore 11, 2) := by decide +kernel
theorem dX4_evening_104 : decode cX4_evening 104 = .ok (.iload 11, 2) := by decide +kernel
theorem dX4_evening_106 : decode cX4_evening 106 = .ok (.aload 6, 2) := by decide +kernel
theorem dX4_evening_108 : decode cX4_evening 108 = .ok (.getfield 172, 3) := by decide +kernel
theorem dX4_evening_111 : decode cX4_evening 111 = .ok (.if_icmp .ge 95, 3) := by decide +kernel
theorem dX4_evening_114 : decode cX4_evening 114 = .ok (.aload_n 0, 1) := by decide +kernel
theorem dX4_evening_115 : decode cX4_evening 115 = .ok (.getfield 62, 3) := by decide +kernel
theorem dX4_evening_118 : decode cX4_evening 118 = .ok (.aload 6, 2) := by decide +kernel
theorem dX4_evening_120 : decode cX4_evening 120 = .ok (.getfield 173, 3) := by decide +kernel
theorem dX4_evening_123 : decode cX4_evening 123 = .ok (.iload 11, 2) := by decide +kernel
theorem dX4_evening_125 : decode cX4_evening 125 = .ok (.iaload, 1) := by decide +kernel
theorem dX4_evening_126 : decode cX4_evening 126 = .ok (.invokevirtual 176, 3) := by decide +kernel
theorem dX4_evening_129 : decode cX4_evening 129 = .ok (.ifCond .eq 9, 3) := by decide +kernel
theorem dX4_evening_132 : decode cX4_evening 132 = .ok (.iinc 7 1, 3) := by decide +kernel
theorem dX4_evening_135 : decode cX4_evening 135 = .ok (.goto 24, 3) := by decide +kernel
theorem dX4_evening_138 : decode cX4_evening 138 = .ok (.aload 6, 2) := by decide +kernel
theorem dX4_evening_140 : decode cX4_evening 140 = .ok (.getfield 173, 3) := by decide +kernel
theorem dX4_evening_143 : decode cX4_evening 143 = .ok (.iload 11, 2) := by decide +kernel
theorem dX4_evening_145 : decode cX4_evening 145 = .ok (.iaload, 1) := by decide +kernel
theorem dX4_evening_146 : decode cX4_evening 146 = .ok (.iconst (-1), 1) := by decide +kernel
theorem dX4_evening_147 : decode cX4_evening 147 = .ok (.if_icmp .eq 12, 3) := by decide +kernel
theorem dX4_evening_150 : decode cX4_evening 150 = .ok (.iload 10, 2) := by decide +kernel
theorem dX4_evening_152 : decode cX4_evening 152 = .ok (.ifCond .ge 7, 3) := by decide +kernel
theorem dX4_evening_155 : decode cX4_evening 155 = .ok (.iload 11, 2) := by decide +kernel
theorem dX4_evening_157 : decode cX4_evening 157 = .ok (.istore 10, 2) := by decide +kernel
theorem dX4_evening_159 : decode cX4_evening 159 = .ok (.aload_n 0, 1) := by decide +kernel
theorem dX4_evening_160 : decode cX4_evening 160 = .ok (.getfield 62, 3) := by decide +kernel
theorem dX4_evening_163 : decode cX4_evening 163 = .ok (.getfield 79, 3) := by decide +kernel
theorem dX4_evening_166 : decode cX4_evening 166 = .ok (.aload_n 0, 1) := by decide +kernel
theorem dX4_evening_167 : decode cX4_evening 167 = .ok (.getfield 62, 3) := by decide +kernel
theorem dX4_evening_170 : decode cX4_evening 170 = .ok (.invokevirtual 83, 3) := by decide +kernel
theorem dX4_evening_173 : decode cX4_evening 173 = .ok (.isub, 1) := by decide +kernel
theorem dX4_evening_174 : decode cX4_evening 174 = .ok (.istore 12, 2) := by decide +kernel
theorem dX4_evening_176 : decode cX4_evening 176 = .ok (.iload 8, 2) := by decide +kernel
theorem dX4_evening_178 : decode cX4_evening 178 = .ok (.iload 12, 2) := by decide +kernel
theorem dX4_evening_180 : decode cX4_evening 180 = .ok (.invokestatic 179, 3) := by decide +kernel
theorem dX4_evening_183 : decode cX4_evening 183 = .ok (.istore 8, 2) := by decide +kernel
theorem dX4_evening_185 : decode cX4_evening 185 = .ok (.iload 9, 2) := by decide +kernel
theorem dX4_evening_187 : decode cX4_evening 187 = .ok (.iload 12, 2) := by decide +kernel
theorem dX4_evening_189 : decode cX4_evening 189 = .ok (.iadd, 1) := by decide +kernel
theorem dX4_evening_190 : decode cX4_evening 190 = .ok (.istore 9, 2) := by decide +kernel
theorem dX4_evening_192 : decode cX4_evening 192 = .ok (.aload_n 0, 1) := by decide +kernel
theorem dX4_evening_193 : decode cX4_evening 193 = .ok (.getfield 62, 3) := by decide +kernel
theorem dX4_evening_196 : decode cX4_evening 196 = .ok (.invokevirtual 155, 3) := by decide +kernel
theorem dX4_evening_199 : decode cX4_evening 199 = .ok (.pop, 1) := by decide +kernel
theorem dX4_evening_200 : decode cX4_evening 200 = .ok (.iinc 11 1, 3) := by decide +kernel
theorem dX4_evening_203 : decode cX4_evening 203 = .ok (.goto (-99), 3) := by decide +kernel
theorem dX4_evening_206 : decode cX4_evening 206 = .ok (.iload 4, 2) := by decide +kernel
theorem dX4_evening_208 : decode cX4_evening 208 = .ok (.ifCond .eq 16, 3) := by decide +kernel
theorem dX4_evening_211 : decode cX4_evening 211 = .ok (.aload_n 0, 1) := by decide +kernel
theorem dX4_evening_212 : decode cX4_evening 212 = .ok (.getfield 62, 3) := by decide +kernel
theorem dX4_evening_215 : decode cX4_evening 215 = .ok (.getfield 119, 3) := by decide +kernel
theorem dX4_evening_218 : decode cX4_evening 218 = .ok (.iload_n 2, 1) := by decide +kernel
theorem dX4_evening_219 : decode cX4_evening 219 = .ok (.bipush 10, 2) := by decide +kernel
theorem dX4_evening_221 : decode cX4_evening 221 = .ok (.isub, 1) := by decide +kernel
theorem dX4_evening_222 : decode cX4_evening 222 = .ok (.iaload, 1) := by decide +kernel
theorem dX4_evening_223 : decode cX4_evening 223 = .ok (.ireturn, 1) := by decide +kernel
theorem dX4_evening_224 : decode cX4_evening 224 = .ok (.iload 5, 2) := by decide +kernel
theorem dX4_evening_226 : decode cX4_evening 226 = .ok (.ifCond .eq 16, 3) := by decide +kernel
theorem dX4_evening_229 : decode cX4_evening 229 = .ok (.aload_n 0, 1) := by decide +kernel
theorem dX4_evening_230 : decode cX4_evening 230 = .ok (.getfield 62, 3) := by decide +kernel
theorem dX4_evening_233 : decode cX4_evening 233 = .ok (.getfield 128, 3) := by decide +kernel
theorem dX4_evening_236 : decode cX4_evening 236 = .ok (.iload_n 2, 1) := by decide +kernel
theorem dX4_evening_237 : decode cX4_evening 237 = .ok (.bipush 20, 2) := by decide +kernel
theorem dX4_evening_239 : decode cX4_evening 239 = .ok (.isub, 1) := by decide +kernel
theorem dX4_evening_240 : decode cX4_evening 240 = .ok (.iaload, 1) := by decide +kernel
theorem dX4_evening_241 : decode cX4_evening 241 = .ok (.ireturn, 1) := by decide +kernel
theorem dX4_evening_242 : decode cX4_evening 242 = .ok (.iload_n 2, 1) := by decide +kernel
theorem dX4_evening_243 : decode cX4_evening 243 = .ok (.ifCond .ne 8, 3) := by decide +kernel
theorem dX4_evening_246 : decode cX4_evening 246 = .ok (.iload 7, 2) := by decide +kernel
theorem dX4_evening_248 : decode cX4_evening 248 = .ok (.goto 25, 3) := by decide +kernel
theorem dX4_evening_251 : decode cX4_evening 251 = .ok (.iload_n 2, 1) := by decide +kernel
theorem dX4_evening_252 : decode cX4_evening 252 = .ok (.iconst 1, 1) := by decide +kernel
theorem dX4_evening_253 : decode cX4_evening 253 = .ok (.if_icmp .ne 8, 3) := by decide +kernel
theorem dX4_evening_256 : decode cX4_evening 256 = .ok (.iload 8, 2) := by decide +kernel
theorem dX4_evening_258 : decode cX4_evening 258 = .ok (.goto 15, 3) := by decide +kernel
theorem dX4_evening_261 : decode cX4_evening 261 = .ok (.iload_n 2, 1) := by decide +kernel
theorem dX4_evening_262 : decode cX4_evening 262 = .ok (.iconst 2, 1) := by decide +kernel
theorem dX4_evening_263 : decode cX4_evening 263 = .ok (.if_icmp .ne 8, 3) := by decide +kernel
theorem dX4_evening_266 : decode cX4_evening 266 = .ok (.iload 9, 2) := by decide +kernel
theorem dX4_evening_268 : decode cX4_evening 268 = .ok (.goto 5, 3) := by decide +kernel
theorem dX4_evening_271 : decode cX4_evening 271 = .ok (.iload 10, 2) := by decide +kernel
theorem dX4_evening_273 : decode cX4_evening 273 = .ok (.ireturn, 1) := by decide +kernel
theorem dX4_spend_0 : decode cX4_spend 0 = .ok (.aload_n 0, 1) := by decide +kernel
theorem dX4_spend_1 : decode cX4_spend 1 = .ok (.iload_n 1, 1) := by decide +kernel
theorem dX4_spend_2 : decode cX4_spend 2 = .ok (.invokevirtual 165, 3) := by decide +kernel
theorem dX4_spend_5 : decode cX4_spend 5 = .ok (.istore_n 2, 1) := by decide +kernel
theorem dX4_spend_6 : decode cX4_spend 6 = .ok (.iload_n 2, 1) := by decide +kernel
theorem dX4_spend_7 : decode cX4_spend 7 = .ok (.ifCond .eq 5, 3) := by decide +kernel
theorem dX4_spend_10 : decode cX4_spend 10 = .ok (.iload_n 2, 1) := by decide +kernel
theorem dX4_spend_11 : decode cX4_spend 11 = .ok (.ireturn, 1) := by decide +kernel
theorem dX4_spend_12 : decode cX4_spend 12 = .ok (.aload_n 0, 1) := by decide +kernel
theorem dX4_spend_13 : decode cX4_spend 13 = .ok (.getfield 71, 3) := by decide +kernel
theorem dX4_spend_16 : decode cX4_spend 16 = .ok (.iload_n 1, 1) := by decide +kernel
theorem dX4_spend_17 : decode cX4_spend 17 = .ok (.aaload, 1) := by decide +kernel
theorem dX4_spend_18 : decode cX4_spend 18 = .ok (.astore_n 3, 1) := by decide +kernel
theorem dX4_spend_19 : decode cX4_spend 19 = .ok (.aload_n 0, 1) := by decide +kernel
theorem dX4_spend_20 : decode cX4_spend 20 = .ok (.getfield 58, 3) := by decide +kernel
theorem dX4_spend_23 : decode cX4_spend 23 = .ok (.getfield 80, 3) := by decide +kernel
theorem dX4_spend_26 : decode cX4_spend 26 = .ok (.aload_n 3, 1) := by decide +kernel
theorem dX4_spend_27 : decode cX4_spend 27 = .ok (.getfield 172, 3) := by decide +kernel
theorem dX4_spend_30 : decode cX4_spend 30 = .ok (.iadd, 1) := by decide +kernel
theorem dX4_spend_31 : decode cX4_spend 31 = .ok (.sipush 999, 3) := by decide +kernel
theorem dX4_spend_34 : decode cX4_spend 34 = .ok (.if_icmp .le 6, 3) := by decide +kernel
theorem dX4_spend_37 : decode cX4_spend 37 = .ok (.bipush (-3), 2) := by decide +kernel
theorem dX4_spend_39 : decode cX4_spend 39 = .ok (.ireturn, 1) := by decide +kernel
theorem dX4_spend_40 : decode cX4_spend 40 = .ok (.iconst 0, 1) := by decide +kernel
theorem dX4_spend_41 : decode cX4_spend 41 = .ok (.istore 4, 2) := by decide +kernel
theorem dX4_spend_43 : decode cX4_spend 43 = .ok (.iconst 0, 1) := by decide +kernel
theorem dX4_spend_44 : decode cX4_spend 44 = .ok (.istore 5, 2) := by decide +kernel
theorem dX4_spend_46 : decode cX4_spend 46 = .ok (.iload 5, 2) := by decide +kernel
theorem dX4_spend_48 : decode cX4_spend 48 = .ok (.aload_n 3, 1) := by decide +kernel
theorem dX4_spend_49 : decode cX4_spend 49 = .ok (.getfield 172, 3) := by decide +kernel
theorem dX4_spend_52 : decode cX4_spend 52 = .ok (.if_icmp .ge 37, 3) := by decide +kernel
theorem dX4_spend_55 : decode cX4_spend 55 = .ok (.aload_n 0, 1) := by decide +kernel
theorem dX4_spend_56 : decode cX4_spend 56 = .ok (.getfield 58, 3) := by decide +kernel
theorem dX4_spend_59 : decode cX4_spend 59 = .ok (.aload_n 3, 1) := by decide +kernel
theorem dX4_spend_60 : decode cX4_spend 60 = .ok (.getfield 173, 3) := by decide +kernel
theorem dX4_spend_63 : decode cX4_spend 63 = .ok (.iload 5, 2) := by decide +kernel
theorem dX4_spend_65 : decode cX4_spend 65 = .ok (.iaload, 1) := by decide +kernel
theorem dX4_spend_66 : decode cX4_spend 66 = .ok (.invokevirtual 176, 3) := by decide +kernel
theorem dX4_spend_69 : decode cX4_spend 69 = .ok (.ifCond .eq 6, 3) := by decide +kernel
theorem dX4_spend_72 : decode cX4_spend 72 = .ok (.iinc 4 1, 3) := by decide +kernel
theorem dX4_spend_75 : decode cX4_spend 75 = .ok (.aload_n 0, 1) := by decide +kernel
theorem dX4_spend_76 : decode cX4_spend 76 = .ok (.getfield 58, 3) := by decide +kernel
theorem dX4_spend_79 : decode cX4_spend 79 = .ok (.invokevirtual 155, 3) := by decide +kernel
theorem dX4_spend_82 : decode cX4_spend 82 = .ok (.pop, 1) := by decide +kernel
theorem dX4_spend_83 : decode cX4_spend 83 = .ok (.iinc 5 1, 3) := by decide +kernel
theorem dX4_spend_86 : decode cX4_spend 86 = .ok (.goto (-40), 3) := by decide +kernel
theorem dX4_spend_89 : decode cX4_spend 89 = .ok (.iload 4, 2) := by decide +kernel
theorem dX4_spend_91 : decode cX4_spend 91 = .ok (.ireturn, 1) := by decide +kernel
theorem dX4_plan_0 : decode cX4_plan 0 = .ok (.aload_n 0, 1) := by decide +kernel
theorem dX4_plan_1 : decode cX4_plan 1 = .ok (.getfield 58, 3) := by decide +kernel
theorem dX4_plan_4 : decode cX4_plan 4 = .ok (.iload_n 1, 1) := by decide +kernel
theorem dX4_plan_5 : decode cX4_plan 5 = .ok (.invokevirtual 100, 3) := by decide +kernel
theorem dX4_plan_8 : decode cX4_plan 8 = .ok (.ifCond .ne 6, 3) := by decide +kernel
theorem dX4_plan_11 : decode cX4_plan 11 = .ok (.bipush (-5), 2) := by decide +kernel
theorem dX4_plan_13 : decode cX4_plan 13 = .ok (.ireturn, 1) := by decide +kernel
theorem dX4_plan_14 : decode cX4_plan 14 = .ok (.iload_n 2, 1) := by decide +kernel
theorem dX4_plan_15 : decode cX4_plan 15 = .ok (.iconst 0, 1) := by decide +kernel
theorem dX4_plan_16 : decode cX4_plan 16 = .ok (.bipush 60, 2) := by decide +kernel
theorem dX4_plan_18 : decode cX4_plan 18 = .ok (.invokestatic 89, 3) := by decide +kernel
theorem dX4_plan_21 : decode cX4_plan 21 = .ok (.ifCond .eq 12, 3) := by decide +kernel
theorem dX4_plan_24 : decode cX4_plan 24 = .ok (.iload_n 3, 1) := by decide +kernel
theorem dX4_plan_25 : decode cX4_plan 25 = .ok (.iconst 0, 1) := by decide +kernel
theorem dX4_plan_26 : decode cX4_plan 26 = .ok (.iconst 1, 1) := by decide +kernel
theorem dX4_plan_27 : decode cX4_plan 27 = .ok (.invokestatic 89, 3) := by decide +kernel
theorem dX4_plan_30 : decode cX4_plan 30 = .ok (.ifCond .ne 6, 3) := by decide +kernel
theorem dX4_plan_33 : decode cX4_plan 33 = .ok (.bipush (-7), 2) := by decide +kernel
theorem dX4_plan_35 : decode cX4_plan 35 = .ok (.ireturn, 1) := by decide +kernel
theorem dX4_plan_36 : decode cX4_plan 36 = .ok (.aload_n 0, 1) := by decide +kernel
theorem dX4_plan_37 : decode cX4_plan 37 = .ok (.iload_n 1, 1) := by decide +kernel
theorem dX4_plan_38 : decode cX4_plan 38 = .ok (.iload_n 2, 1) := by decide +kernel
theorem dX4_plan_39 : decode cX4_plan 39 = .ok (.invokevirtual 184, 3) := by decide +kernel
theorem dX4_plan_42 : decode cX4_plan 42 = .ok (.iload_n 3, 1) := by decide +kernel
theorem dX4_plan_43 : decode cX4_plan 43 = .ok (.ifCond .ne 10, 3) := by decide +kernel
theorem dX4_plan_46 : decode cX4_plan 46 = .ok (.aload_n 0, 1) := by decide +kernel
theorem dX4_plan_47 : decode cX4_plan 47 = .ok (.getfield 75, 3) := by decide +kernel
theorem dX4_plan_50 : decode cX4_plan 50 = .ok (.iload_n 2, 1) := by decide +kernel
theorem dX4_plan_51 : decode cX4_plan 51 = .ok (.iaload, 1) := by decide +kernel
theorem dX4_plan_52 : decode cX4_plan 52 = .ok (.ireturn, 1) := by decide +kernel
theorem dX4_plan_53 : decode cX4_plan 53 = .ok (.iconst 0, 1) := by decide +kernel
theorem dX4_plan_54 : decode cX4_plan 54 = .ok (.istore 4, 2) := by decide +kernel
theorem dX4_plan_56 : decode cX4_plan 56 = .ok (.iload 4, 2) := by decide +kernel
theorem dX4_plan_58 : decode cX4_plan 58 = .ok (.iload_n 2, 1) := by decide +kernel
theorem dX4_plan_59 : decode cX4_plan 59 = .ok (.if_icmp .ge 25, 3) := by decide +kernel
theorem dX4_plan_62 : decode cX4_plan 62 = .ok (.aload_n 0, 1) := by decide +kernel
theorem dX4_plan_63 : decode cX4_plan 63 = .ok (.getfield 75, 3) := by decide +kernel
theorem dX4_plan_66 : decode cX4_plan 66 = .ok (.iload 4, 2) := by decide +kernel
theorem dX4_plan_68 : decode cX4_plan 68 = .ok (.iaload, 1) := by decide +kernel
theorem dX4_plan_69 : decode cX4_plan 69 = .ok (.aload_n 0, 1) := by decide +kernel
theorem dX4_plan_70 : decode cX4_plan 70 = .ok (.getfield 75, 3) := by decide +kernel
theorem dX4_plan_73 : decode cX4_plan 73 = .ok (.iload_n 2, 1) := by decide +kernel
theorem dX4_plan_74 : decode cX4_plan 74 = .ok (.iaload, 1) := by decide +kernel
theorem dX4_plan_75 : decode cX4_plan 75 = .ok (.if_icmp .eq 9, 3) := by decide +kernel
theorem dX4_plan_78 : decode cX4_plan 78 = .ok (.iinc 4 1, 3) := by decide +kernel
theorem dX4_plan_81 : decode cX4_plan 81 = .ok (.goto (-25), 3) := by decide +kernel
theorem dX4_plan_84 : decode cX4_plan 84 = .ok (.iload 4, 2) := by decide +kernel
theorem dX4_plan_86 : decode cX4_plan 86 = .ok (.ireturn, 1) := by decide +kernel
theorem dX4_fillBest_0 : decode cX4_fillBest 0 = .ok (.iconst 0, 1) := by decide +kernel
theorem dX4_fillBest_1 : decode cX4_fillBest 1 = .ok (.istore_n 3, 1) := by decide +kernel
theorem dX4_fillBest_2 : decode cX4_fillBest 2 = .ok (.iload_n 3, 1) := by decide +kernel
theorem dX4_fillBest_3 : decode cX4_fillBest 3 = .ok (.iload_n 2, 1) := by decide +kernel
theorem dX4_fillBest_4 : decode cX4_fillBest 4 = .ok (.if_icmp .gt 16, 3) := by decide +kernel
theorem dX4_fillBest_7 : decode cX4_fillBest 7 = .ok (.aload_n 0, 1) := by decide +kernel
theorem dX4_fillBest_8 : decode cX4_fillBest 8 = .ok (.getfield 75, 3) := by decide +kernel
theorem dX4_fillBest_11 : decode cX4_fillBest 11 = .ok (.iload_n 3, 1) := by decide +kernel
theorem dX4_fillBest_12 : decode cX4_fillBest 12 = .ok (.iconst 0, 1) := by decide +kernel
theorem dX4_fillBest_13 : decode cX4_fillBest 13 = .ok (.iastore, 1) := by decide +kernel
theorem dX4_fillBest_14 : decode cX4_fillBest 14 = .ok (.iinc 3 1, 3) := by decide +kernel
theorem dX4_fillBest_17 : decode cX4_fillBest 17 = .ok (.goto (-15), 3) := by decide +kernel
theorem dX4_fillBest_20 : decode cX4_fillBest 20 = .ok (.iconst 0, 1) := by decide +kernel
theorem dX4_fillBest_21 : decode cX4_fillBest 21 = .ok (.istore_n 3, 1) := by decide +kernel
theorem dX4_fillBest_22 : decode cX4_fillBest 22 = .ok (.iload_n 3, 1) := by decide +kernel
theorem dX4_fillBest_23 : decode cX4_fillBest 23 = .ok (.bipush 8, 2) := by decide +kernel
theorem dX4_fillBest_25 : decode cX4_fillBest 25 = .ok (.if_icmp .ge 104, 3) := by decide +kernel
theorem dX4_fillBest_28 : decode cX4_fillBest 28 = .ok (.aload_n 0, 1) := by decide +kernel
theorem dX4_fillBest_29 : decode cX4_fillBest 29 = .ok (.getfield 58, 3) := by decide +kernel
theorem dX4_fillBest_32 : decode cX4_fillBest 32 = .ok (.iload_n 1, 1) := by decide +kernel
theorem dX4_fillBest_33 : decode cX4_fillBest 33 = .ok (.iload_n 3, 1) := by decide +kernel
theorem dX4_fillBest_34 : decode cX4_fillBest 34 = .ok (.invokevirtual 137, 3) := by decide +kernel
theorem dX4_fillBest_37 : decode cX4_fillBest 37 = .ok (.istore 4, 2) := by decide +kernel
theorem dX4_fillBest_39 : decode cX4_fillBest 39 = .ok (.aload_n 0, 1) := by decide +kernel
theorem dX4_fillBest_40 : decode cX4_fillBest 40 = .ok (.getfield 58, 3) := by decide +kernel
theorem dX4_fillBest_43 : decode cX4_fillBest 43 = .ok (.iload_n 1, 1) := by decide +kernel
theorem dX4_fillBest_44 : decode cX4_fillBest 44 = .ok (.iload_n 3, 1) := by decide +kernel
theorem dX4_fillBest_45 : decode cX4_fillBest 45 = .ok (.invokevirtual 141, 3) := by decide +kernel
theorem dX4_fillBest_48 : decode cX4_fillBest 48 = .ok (.istore 5, 2) := by decide +kernel
theorem dX4_fillBest_50 : decode cX4_fillBest 50 = .ok (.aload_n 0, 1) := by decide +kernel
theorem dX4_fillBest_51 : decode cX4_fillBest 51 = .ok (.getfield 58, 3) := by decide +kernel
theorem dX4_fillBest_54 : decode cX4_fillBest 54 = .ok (.getfield 116, 3) := by decide +kernel
theorem dX4_fillBest_57 : decode cX4_fillBest 57 = .ok (.iload_n 1, 1) := by decide +kernel
theorem dX4_fillBest_58 : decode cX4_fillBest 58 = .ok (.bipush 8, 2) := by decide +kernel
theorem dX4_fillBest_60 : decode cX4_fillBest 60 = .ok (.imul, 1) := by decide +kernel
theorem dX4_fillBest_61 : decode cX4_fillBest 61 = .ok (.iload_n 3, 1) := by decide +kernel
theorem dX4_fillBest_62 : decode cX4_fillBest 62 = .ok (.iadd, 1) := by decide +kernel
theorem dX4_fillBest_63 : decode cX4_fillBest 63 = .ok (.iaload, 1) := by decide +kernel
theorem dX4_fillBest_64 : decode cX4_fillBest 64 = .ok (.istore 6, 2) := by decide +kernel
theorem dX4_fillBest_66 : decode cX4_fillBest 66 = .ok (.iload 6, 2) := by decide +kernel
theorem dX4_fillBest_68 : decode cX4_fillBest 68 = .ok (.ifCond .le 55, 3) := by decide +kernel
theorem dX4_fillBest_71 : decode cX4_fillBest 71 = .ok (.iload_n 2, 1) := by decide +kernel
theorem dX4_fillBest_72 : decode cX4_fillBest 72 = .ok (.istore 7, 2) := by decide +kernel
theorem dX4_fillBest_74 : decode cX4_fillBest 74 = .ok (.iload 7, 2) := by decide +kernel
theorem dX4_fillBest_76 : decode cX4_fillBest 76 = .ok (.iload 4, 2) := by decide +kernel
theorem dX4_fillBest_78 : decode cX4_fillBest 78 = .ok (.if_icmp .lt 39, 3) := by decide +kernel
theorem dX4_fillBest_81 : decode cX4_fillBest 81 = .ok (.aload_n 0, 1) := by decide +kernel
theorem dX4_fillBest_82 : decode cX4_fillBest 82 = .ok (.getfield 75, 3) := by decide +kernel
theorem dX4_fillBest_85 : decode cX4_fillBest 85 = .ok (.iload 7, 2) := by decide +kernel
theorem dX4_fillBest_87 : decode cX4_fillBest 87 = .ok (.aload_n 0, 1) := by decide +kernel
theorem dX4_fillBest_88 : decode cX4_fillBest 88 = .ok (.getfield 75, 3) := by decide +kernel
theorem dX4_fillBest_91 : decode cX4_fillBest 91 = .ok (.iload 7, 2) := by decide +kernel
theorem dX4_fillBest_93 : decode cX4_fillBest 93 = .ok (.iaload, 1) := by decide +kernel
theorem dX4_fillBest_94 : decode cX4_fillBest 94 = .ok (.aload_n 0, 1) := by decide +kernel
theorem dX4_fillBest_95 : decode cX4_fillBest 95 = .ok (.getfield 75, 3) := by decide +kernel
theorem dX4_fillBest_98 : decode cX4_fillBest 98 = .ok (.iload 7, 2) := by decide +kernel
theorem dX4_fillBest_100 : decode cX4_fillBest 100 = .ok (.iload 4, 2) := by decide +kernel
theorem dX4_fillBest_102 : decode cX4_fillBest 102 = .ok (.isub, 1) := by decide +kernel
theorem dX4_fillBest_103 : decode cX4_fillBest 103 = .ok (.iaload, 1) := by decide +kernel
theorem dX4_fillBest_104 : decode cX4_fillBest 104 = .ok (.iload 5, 2) := by decide +kernel
theorem dX4_fillBest_106 : decode cX4_fillBest 106 = .ok (.iadd, 1) := by decide +kernel
theorem dX4_fillBest_107 : decode cX4_fillBest 107 = .ok (.invokestatic 179, 3) := by decide +kernel
theorem dX4_fillBest_110 : decode cX4_fillBest 110 = .ok (.iastore, 1) := by decide +kernel
theorem dX4_fillBest_111 : decode cX4_fillBest 111 = .ok (.iinc 7 (-1), 3) := by decide +kernel
theorem dX4_fillBest_114 : decode cX4_fillBest 114 = .ok (.goto (-40), 3) := by decide +kernel
theorem dX4_fillBest_117 : decode cX4_fillBest 117 = .ok (.iinc 6 (-1), 3) := by decide +kernel
theorem dX4_fillBest_120 : decode cX4_fillBest 120 = .ok (.goto (-54), 3) := by decide +kernel
theorem dX4_fillBest_123 : decode cX4_fillBest 123 = .ok (.iinc 3 1, 3) := by decide +kernel
theorem dX4_fillBest_126 : decode cX4_fillBest 126 = .ok (.goto (-104), 3) := by decide +kernel
theorem dX4_fillBest_129 : decode cX4_fillBest 129 = .ok (.return_, 1) := by decide +kernel
theorem dX4_which_0 : decode cX4_which 0 = .ok (.aload_n 0, 1) := by decide +kernel
theorem dX4_which_1 : decode cX4_which 1 = .ok (.getfield 58, 3) := by decide +kernel
theorem dX4_which_4 : decode cX4_which 4 = .ok (.iload_n 1, 1) := by decide +kernel
theorem dX4_which_5 : decode cX4_which 5 = .ok (.invokevirtual 100, 3) := by decide +kernel
theorem dX4_which_8 : decode cX4_which 8 = .ok (.ifCond .ne 6, 3) := by decide +kernel
theorem dX4_which_11 : decode cX4_which 11 = .ok (.bipush (-5), 2) := by decide +kernel
theorem dX4_which_13 : decode cX4_which 13 = .ok (.ireturn, 1) := by decide +kernel
theorem dX4_which_14 : decode cX4_which 14 = .ok (.iload_n 2, 1) := by decide +kernel
theorem dX4_which_15 : decode cX4_which 15 = .ok (.iconst 0, 1) := by decide +kernel
theorem dX4_which_16 : decode cX4_which 16 = .ok (.iconst 1, 1) := by decide +kernel
theorem dX4_which_17 : decode cX4_which 17 = .ok (.invokestatic 89, 3) := by decide +kernel
theorem dX4_which_20 : decode cX4_which 20 = .ok (.ifCond .ne 6, 3) := by decide +kernel
theorem dX4_which_23 : decode cX4_which 23 = .ok (.bipush (-7), 2) := by decide +kernel
theorem dX4_which_25 : decode cX4_which 25 = .ok (.ireturn, 1) := by decide +kernel
theorem dX4_which_26 : decode cX4_which 26 = .ok (.iconst (-1), 1) := by decide +kernel
theorem dX4_which_27 : decode cX4_which 27 = .ok (.istore_n 3, 1) := by decide +kernel
theorem dX4_which_28 : decode cX4_which 28 = .ok (.aload_n 0, 1) := by decide +kernel
theorem dX4_which_29 : decode cX4_which 29 = .ok (.getfield 58, 3) := by decide +kernel
theorem dX4_which_32 : decode cX4_which 32 = .ok (.getfield 119, 3) := by decide +kernel
theorem dX4_which_35 : decode cX4_which 35 = .ok (.iload_n 1, 1) := by decide +kernel
theorem dX4_which_36 : decode cX4_which 36 = .ok (.iaload, 1) := by decide +kernel
theorem dX4_which_37 : decode cX4_which 37 = .ok (.istore 4, 2) := by decide +kernel
theorem dX4_which_39 : decode cX4_which 39 = .ok (.iconst 0, 1) := by decide +kernel
theorem dX4_which_40 : decode cX4_which 40 = .ok (.istore 5, 2) := by decide +kernel
theorem dX4_which_42 : decode cX4_which 42 = .ok (.iload 5, 2) := by decide +kernel
theorem dX4_which_44 : decode cX4_which 44 = .ok (.bipush 8, 2) := by decide +kernel
theorem dX4_which_46 : decode cX4_which 46 = .ok (.if_icmp .ge 68, 3) := by decide +kernel
theorem dX4_which_49 : decode cX4_which 49 = .ok (.aload_n 0, 1) := by decide +kernel
theorem dX4_which_50 : decode cX4_which 50 = .ok (.getfield 58, 3) := by decide +kernel
theorem dX4_which_53 : decode cX4_which 53 = .ok (.iload_n 1, 1) := by decide +kernel
theorem dX4_which_54 : decode cX4_which 54 = .ok (.iload 5, 2) := by decide +kernel
theorem dX4_which_56 : decode cX4_which 56 = .ok (.invokevirtual 147, 3) := by decide +kernel
theorem dX4_which_59 : decode cX4_which 59 = .ok (.ifCond .eq 49, 3) := by decide +kernel
theorem dX4_which_62 : decode cX4_which 62 = .ok (.aload_n 0, 1) := by decide +kernel
theorem dX4_which_63 : decode cX4_which 63 = .ok (.getfield 58, 3) := by decide +kernel
theorem dX4_which_66 : decode cX4_which 66 = .ok (.getfield 119, 3) := by decide +kernel
theorem dX4_which_69 : decode cX4_which 69 = .ok (.iload_n 1, 1) := by decide +kernel
theorem dX4_which_70 : decode cX4_which 70 = .ok (.iaload, 1) := by decide +kernel
theorem dX4_which_71 : decode cX4_which 71 = .ok (.aload_n 0, 1) := by decide +kernel
theorem dX4_which_72 : decode cX4_which 72 = .ok (.getfield 58, 3) := by decide +kernel
theorem dX4_which_75 : decode cX4_which 75 = .ok (.iload_n 1, 1) := by decide +kernel
theorem dX4_which_76 : decode cX4_which 76 = .ok (.iload 5, 2) := by decide +kernel
theorem dX4_which_78 : decode cX4_which 78 = .ok (.invokevirtual 141, 3) := by decide +kernel
theorem dX4_which_81 : decode cX4_which 81 = .ok (.iadd, 1) := by decide +kernel
theorem dX4_which_82 : decode cX4_which 82 = .ok (.iconst 0, 1) := by decide +kernel
theorem dX4_which_83 : decode cX4_which 83 = .ok (.bipush 99, 2) := by decide +kernel
theorem dX4_which_85 : decode cX4_which 85 = .ok (.invokestatic 187, 3) := by decide +kernel
theorem dX4_which_88 : decode cX4_which 88 = .ok (.istore 6, 2) := by decide +kernel
theorem dX4_which_90 : decode cX4_which 90 = .ok (.iload_n 3, 1) := by decide +kernel
theorem dX4_which_91 : decode cX4_which 91 = .ok (.ifCond .lt 10, 3) := by decide +kernel
theorem dX4_which_94 : decode cX4_which 94 = .ok (.iload 6, 2) := by decide +kernel
theorem dX4_which_96 : decode cX4_which 96 = .ok (.iload 4, 2) := by decide +kernel
theorem dX4_which_98 : decode cX4_which 98 = .ok (.if_icmp .le 10, 3) := by decide +kernel
theorem dX4_which_101 : decode cX4_which 101 = .ok (.iload 5, 2) := by decide +kernel
theorem dX4_which_103 : decode cX4_which 103 = .ok (.istore_n 3, 1) := by decide +kernel
theorem dX4_which_104 : decode cX4_which 104 = .ok (.iload 6, 2) := by decide +kernel
theorem dX4_which_106 : decode cX4_which 106 = .ok (.istore 4, 2) := by decide +kernel
theorem dX4_which_108 : decode cX4_which 108 = .ok (.iinc 5 1, 3) := by decide +kernel
theorem dX4_which_111 : decode cX4_which 111 = .ok (.goto (-69), 3) := by decide +kernel
theorem dX4_which_114 : decode cX4_which 114 = .ok (.iload_n 2, 1) := by decide +kernel
theorem dX4_which_115 : decode cX4_which 115 = .ok (.ifCond .ne 7, 3) := by decide +kernel
theorem dX4_which_118 : decode cX4_which 118 = .ok (.iload_n 3, 1) := by decide +kernel
theorem dX4_which_119 : decode cX4_which 119 = .ok (.goto 5, 3) := by decide +kernel
theorem dX4_which_122 : decode cX4_which 122 = .ok (.iload 4, 2) := by decide +kernel
theorem dX4_which_124 : decode cX4_which 124 = .ok (.ireturn, 1) := by decide +kernel
theorem dX4_tour_0 : decode cX4_tour 0 = .ok (.aload_n 0, 1) := by decide +kernel
theorem dX4_tour_1 : decode cX4_tour 1 = .ok (.getfield 58, 3) := by decide +kernel
theorem dX4_tour_4 : decode cX4_tour 4 = .ok (.iload_n 1, 1) := by decide +kernel
theorem dX4_tour_5 : decode cX4_tour 5 = .ok (.invokevirtual 100, 3) := by decide +kernel
theorem dX4_tour_8 : decode cX4_tour 8 = .ok (.ifCond .ne 6, 3) := by decide +kernel
theorem dX4_tour_11 : decode cX4_tour 11 = .ok (.bipush (-5), 2) := by decide +kernel
theorem dX4_tour_13 : decode cX4_tour 13 = .ok (.ireturn, 1) := by decide +kernel
theorem dX4_tour_14 : decode cX4_tour 14 = .ok (.iload_n 2, 1) := by decide +kernel
theorem dX4_tour_15 : decode cX4_tour 15 = .ok (.iconst 0, 1) := by decide +kernel
theorem dX4_tour_16 : decode cX4_tour 16 = .ok (.iconst 1, 1) := by decide +kernel
theorem dX4_tour_17 : decode cX4_tour 17 = .ok (.invokestatic 89, 3) := by decide +kernel
theorem dX4_tour_20 : decode cX4_tour 20 = .ok (.ifCond .ne 6, 3) := by decide +kernel
theorem dX4_tour_23 : decode cX4_tour 23 = .ok (.bipush (-7), 2) := by decide +kernel
theorem dX4_tour_25 : decode cX4_tour 25 = .ok (.ireturn, 1) := by decide +kernel
theorem dX4_tour_26 : decode cX4_tour 26 = .ok (.iconst 0, 1) := by decide +kernel
theorem dX4_tour_27 : decode cX4_tour 27 = .ok (.istore_n 3, 1) := by decide +kernel
theorem dX4_tour_28 : decode cX4_tour 28 = .ok (.iconst 0, 1) := by decide +kernel
theorem dX4_tour_29 : decode cX4_tour 29 = .ok (.istore 4, 2) := by decide +kernel
theorem dX4_tour_31 : decode cX4_tour 31 = .ok (.iload 4, 2) := by decide +kernel
theorem dX4_tour_33 : decode cX4_tour 33 = .ok (.bipush 8, 2) := by decide +kernel
theorem dX4_tour_35 : decode cX4_tour 35 = .ok (.if_icmp .ge 45, 3) := by decide +kernel
theorem dX4_tour_38 : decode cX4_tour 38 = .ok (.aload_n 0, 1) := by decide +kernel
theorem dX4_tour_39 : decode cX4_tour 39 = .ok (.getfield 58, 3) := by decide +kernel
theorem dX4_tour_42 : decode cX4_tour 42 = .ok (.iload_n 1, 1) := by decide +kernel
theorem dX4_tour_43 : decode cX4_tour 43 = .ok (.iload 4, 2) := by decide +kernel
theorem dX4_tour_45 : decode cX4_tour 45 = .ok (.invokevirtual 190, 3) := by decide +kernel
theorem dX4_tour_48 : decode cX4_tour 48 = .ok (.ifCond .ne 26, 3) := by decide +kernel
theorem dX4_tour_51 : decode cX4_tour 51 = .ok (.aload_n 0, 1) := by decide +kernel
theorem dX4_tour_52 : decode cX4_tour 52 = .ok (.getfield 58, 3) := by decide +kernel
theorem dX4_tour_55 : decode cX4_tour 55 = .ok (.getfield 116, 3) := by decide +kernel
theorem dX4_tour_58 : decode cX4_tour 58 = .ok (.iload_n 1, 1) := by decide +kernel
theorem dX4_tour_59 : decode cX4_tour 59 = .ok (.bipush 8, 2) := by decide +kernel
theorem dX4_tour_61 : decode cX4_tour 61 = .ok (.imul, 1) := by decide +kernel
theorem dX4_tour_62 : decode cX4_tour 62 = .ok (.iload 4, 2) := by decide +kernel
theorem dX4_tour_64 : decode cX4_tour 64 = .ok (.iadd, 1) := by decide +kernel
theorem dX4_tour_65 : decode cX4_tour 65 = .ok (.iaload, 1) := by decide +kernel
theorem dX4_tour_66 : decode cX4_tour 66 = .ok (.ifCond .gt 5, 3) := by decide +kernel
theorem dX4_tour_69 : decode cX4_tour 69 = .ok (.iconst (-1), 1) := by decide +kernel
theorem dX4_tour_70 : decode cX4_tour 70 = .ok (.ireturn, 1) := by decide +kernel
theorem dX4_tour_71 : decode cX4_tour 71 = .ok (.iinc 3 1, 3) := by decide +kernel
theorem dX4_tour_74 : decode cX4_tour 74 = .ok (.iinc 4 1, 3) := by decide +kernel
theorem dX4_tour_77 : decode cX4_tour 77 = .ok (.goto (-46), 3) := by decide +kernel
theorem dX4_tour_80 : decode cX4_tour 80 = .ok (.iload_n 2, 1) := by decide +kernel
theorem dX4_tour_81 : decode cX4_tour 81 = .ok (.ifCond .ne 7, 3) := by decide +kernel
theorem dX4_tour_84 : decode cX4_tour 84 = .ok (.iload_n 3, 1) := by decide +kernel
theorem dX4_tour_85 : decode cX4_tour 85 = .ok (.goto 8, 3) := by decide +kernel
theorem dX4_tour_88 : decode cX4_tour 88 = .ok (.aload_n 0, 1) := by decide +kernel
theorem dX4_tour_89 : decode cX4_tour 89 = .ok (.iload_n 1, 1) := by decide +kernel
theorem dX4_tour_90 : decode cX4_tour 90 = .ok (.invokevirtual 193, 3) := by decide +kernel
theorem dX4_tour_93 : decode cX4_tour 93 = .ok (.ireturn, 1) := by decide +kernel
theorem dX4_tourMinutes_0 : decode cX4_tourMinutes 0 = .ok (.aload_n 0, 1) := by decide +kernel
theorem dX4_tourMinutes_1 : decode cX4_tourMinutes 1 = .ok (.getfield 62, 3) := by decide +kernel
theorem dX4_tourMinutes_4 : decode cX4_tourMinutes 4 = .ok (.aload_n 0, 1) := by decide +kernel
theorem dX4_tourMinutes_5 : decode cX4_tourMinutes 5 = .ok (.getfield 58, 3) := by decide +kernel
theorem dX4_tourMinutes_8 : decode cX4_tourMinutes 8 = .ok (.invokevirtual 168, 3) := by decide +kernel
theorem dX4_tourMinutes_11 : decode cX4_tourMinutes 11 = .ok (.iconst 0, 1) := by decide +kernel
theorem dX4_tourMinutes_12 : decode cX4_tourMinutes 12 = .ok (.istore_n 2, 1) := by decide +kernel
theorem dX4_tourMinutes_13 : decode cX4_tourMinutes 13 = .ok (.iload_n 2, 1) := by decide +kernel
theorem dX4_tourMinutes_14 : decode cX4_tourMinutes 14 = .ok (.sipush 200, 3) := by decide +kernel
theorem dX4_tourMinutes_17 : decode cX4_tourMinutes 17 = .ok (.if_icmp .gt 70, 3) := by decide +kernel
theorem dX4_tourMinutes_20 : decode cX4_tourMinutes 20 = .ok (.aload_n 0, 1) := by decide +kernel
theorem dX4_tourMinutes_21 : decode cX4_tourMinutes 21 = .ok (.getfield 62, 3) := by decide +kernel
theorem dX4_tourMinutes_24 : decode cX4_tourMinutes 24 = .ok (.getfield 131, 3) := by decide +kernel
theorem dX4_tourMinutes_27 : decode cX4_tourMinutes 27 = .ok (.iload_n 1, 1) := by decide +kernel
theorem dX4_tourMinutes_28 : decode cX4_tourMinutes 28 = .ok (.iaload, 1) := by decide +kernel
theorem dX4_tourMinutes_29 : decode cX4_tourMinutes 29 = .ok (.iconst (-1), 1) := by decide +kernel
theorem dX4_tourMinutes_30 : decode cX4_tourMinutes 30 = .ok (.if_icmp .ne 43, 3) := by decide +kernel
theorem dX4_tourMinutes_33 : decode cX4_tourMinutes 33 = .ok (.aload_n 0, 1) := by decide +kernel
theorem dX4_tourMinutes_34 : decode cX4_tourMinutes 34 = .ok (.getfield 62, 3) := by decide +kernel
theorem dX4_tourMinutes_37 : decode cX4_tourMinutes 37 = .ok (.iload_n 1, 1) := by decide +kernel
theorem dX4_tourMinutes_38 : decode cX4_tourMinutes 38 = .ok (.invokevirtual 196, 3) := by decide +kernel
theorem dX4_tourMinutes_41 : decode cX4_tourMinutes 41 = .ok (.istore_n 3, 1) := by decide +kernel
theorem dX4_tourMinutes_42 : decode cX4_tourMinutes 42 = .ok (.iload_n 3, 1) := by decide +kernel
theorem dX4_tourMinutes_43 : decode cX4_tourMinutes 43 = .ok (.bipush 8, 2) := by decide +kernel
theorem dX4_tourMinutes_45 : decode cX4_tourMinutes 45 = .ok (.if_icmp .ne 5, 3) := by decide +kernel
theorem dX4_tourMinutes_48 : decode cX4_tourMinutes 48 = .ok (.iload_n 2, 1) := by decide +kernel
theorem dX4_tourMinutes_49 : decode cX4_tourMinutes 49 = .ok (.ireturn, 1) := by decide +kernel
theorem dX4_tourMinutes_50 : decode cX4_tourMinutes 50 = .ok (.aload_n 0, 1) := by decide +kernel
theorem dX4_tourMinutes_51 : decode cX4_tourMinutes 51 = .ok (.getfield 62, 3) := by decide +kernel
theorem dX4_tourMinutes_54 : decode cX4_tourMinutes 54 = .ok (.iload_n 1, 1) := by decide +kernel
theorem dX4_tourMinutes_55 : decode cX4_tourMinutes 55 = .ok (.iload_n 3, 1) := by decide +kernel
theorem dX4_tourMinutes_56 : decode cX4_tourMinutes 56 = .ok (.invokevirtual 147, 3) := by decide +kernel
theorem dX4_tourMinutes_59 : decode cX4_tourMinutes 59 = .ok (.ifCond .ne 5, 3) := by decide +kernel
theorem dX4_tourMinutes_62 : decode cX4_tourMinutes 62 = .ok (.iconst (-1), 1) := by decide +kernel
theorem dX4_tourMinutes_63 : decode cX4_tourMinutes 63 = .ok (.ireturn, 1) := by decide +kernel
theorem dX4_tourMinutes_64 : decode cX4_tourMinutes 64 = .ok (.aload_n 0, 1) := by decide +kernel
theorem dX4_tourMinutes_65 : decode cX4_tourMinutes 65 = .ok (.getfield 62, 3) := by decide +kernel
theorem dX4_tourMinutes_68 : decode cX4_tourMinutes 68 = .ok (.iload_n 1, 1) := by decide +kernel
theorem dX4_tourMinutes_69 : decode cX4_tourMinutes 69 = .ok (.iload_n 3, 1) := by decide +kernel
theorem dX4_tourMinutes_70 : decode cX4_tourMinutes 70 = .ok (.invokevirtual 151, 3) := by decide +kernel
theorem dX4_tourMinutes_73 : decode cX4_tourMinutes 73 = .ok (.aload_n 0, 1) := by decide +kernel
theorem dX4_tourMinutes_74 : decode cX4_tourMinutes 74 = .ok (.getfield 62, 3) := by decide +kernel
theorem dX4_tourMinutes_77 : decode cX4_tourMinutes 77 = .ok (.invokevirtual 155, 3) := by decide +kernel
theorem dX4_tourMinutes_80 : decode cX4_tourMinutes 80 = .ok (.pop, 1) := by decide +kernel
theorem dX4_tourMinutes_81 : decode cX4_tourMinutes 81 = .ok (.iinc 2 1, 3) := by decide +kernel
theorem dX4_tourMinutes_84 : decode cX4_tourMinutes 84 = .ok (.goto (-71), 3) := by decide +kernel
theorem dX4_tourMinutes_87 : decode cX4_tourMinutes 87 = .ok (.iconst (-1), 1) := by decide +kernel
theorem dX4_tourMinutes_88 : decode cX4_tourMinutes 88 = .ok (.ireturn, 1) := by decide +kernel
theorem dX4_share_0 : decode cX4_share 0 = .ok (.iload_n 1, 1) := by decide +kernel
theorem dX4_share_1 : decode cX4_share 1 = .ok (.invokestatic 103, 3) := by decide +kernel
theorem dX4_share_4 : decode cX4_share 4 = .ok (.ifCond .eq 12, 3) := by decide +kernel
theorem dX4_share_7 : decode cX4_share 7 = .ok (.iload_n 2, 1) := by decide +kernel
theorem dX4_share_8 : decode cX4_share 8 = .ok (.iconst 0, 1) := by decide +kernel
theorem dX4_share_9 : decode cX4_share 9 = .ok (.iconst 1, 1) := by decide +kernel
theorem dX4_share_10 : decode cX4_share 10 = .ok (.invokestatic 89, 3) := by decide +kernel
theorem dX4_share_13 : decode cX4_share 13 = .ok (.ifCond .ne 6, 3) := by decide +kernel
theorem dX4_share_16 : decode cX4_share 16 = .ok (.bipush (-2), 2) := by decide +kernel
theorem dX4_share_18 : decode cX4_share 18 = .ok (.ireturn, 1) := by decide +kernel
theorem dX4_share_19 : decode cX4_share 19 = .ok (.iconst (-1), 1) := by decide +kernel
theorem dX4_share_20 : decode cX4_share 20 = .ok (.istore_n 3, 1) := by decide +kernel
theorem dX4_share_21 : decode cX4_share 21 = .ok (.aload_n 0, 1) := by decide +kernel
theorem dX4_share_22 : decode cX4_share 22 = .ok (.getfield 58, 3) := by decide +kernel
theorem dX4_share_25 : decode cX4_share 25 = .ok (.invokevirtual 199, 3) := by decide +kernel
theorem dX4_share_28 : decode cX4_share 28 = .ok (.istore 4, 2) := by decide +kernel
theorem dX4_share_30 : decode cX4_share 30 = .ok (.iconst 0, 1) := by decide +kernel
theorem dX4_share_31 : decode cX4_share 31 = .ok (.istore 5, 2) := by decide +kernel
theorem dX4_share_33 : decode cX4_share 33 = .ok (.iload 5, 2) := by decide +kernel
theorem dX4_share_35 : decode cX4_share 35 = .ok (.aload_n 0, 1) := by decide +kernel
theorem dX4_share_36 : decode cX4_share 36 = .ok (.getfield 58, 3) := by decide +kernel
theorem dX4_share_39 : decode cX4_share 39 = .ok (.getfield 79, 3) := by decide +kernel
theorem dX4_share_42 : decode cX4_share 42 = .ok (.if_icmp .ge 56, 3) := by decide +kernel
theorem dX4_share_45 : decode cX4_share 45 = .ok (.aload_n 0, 1) := by decide +kernel
theorem dX4_share_46 : decode cX4_share 46 = .ok (.getfield 58, 3) := by decide +kernel
theorem dX4_share_49 : decode cX4_share 49 = .ok (.getfield 116, 3) := by decide +kernel
theorem dX4_share_52 : decode cX4_share 52 = .ok (.iload 5, 2) := by decide +kernel
theorem dX4_share_54 : decode cX4_share 54 = .ok (.bipush 8, 2) := by decide +kernel
theorem dX4_share_56 : decode cX4_share 56 = .ok (.imul, 1) := by decide +kernel
theorem dX4_share_57 : decode cX4_share 57 = .ok (.iload_n 1, 1) := by decide +kernel
theorem dX4_share_58 : decode cX4_share 58 = .ok (.iadd, 1) := by decide +kernel
theorem dX4_share_59 : decode cX4_share 59 = .ok (.iaload, 1) := by decide +kernel
theorem dX4_share_60 : decode cX4_share 60 = .ok (.bipush 9, 2) := by decide +kernel
theorem dX4_share_62 : decode cX4_share 62 = .ok (.if_icmp .ge 30, 3) := by decide +kernel
theorem dX4_share_65 : decode cX4_share 65 = .ok (.aload_n 0, 1) := by decide +kernel
theorem dX4_share_66 : decode cX4_share 66 = .ok (.iload 5, 2) := by decide +kernel
theorem dX4_share_68 : decode cX4_share 68 = .ok (.iload_n 1, 1) := by decide +kernel
theorem dX4_share_69 : decode cX4_share 69 = .ok (.invokevirtual 202, 3) := by decide +kernel
theorem dX4_share_72 : decode cX4_share 72 = .ok (.istore 6, 2) := by decide +kernel
theorem dX4_share_74 : decode cX4_share 74 = .ok (.iload_n 3, 1) := by decide +kernel
theorem dX4_share_75 : decode cX4_share 75 = .ok (.ifCond .lt 10, 3) := by decide +kernel
theorem dX4_share_78 : decode cX4_share 78 = .ok (.iload 6, 2) := by decide +kernel
theorem dX4_share_80 : decode cX4_share 80 = .ok (.iload 4, 2) := by decide +kernel
theorem dX4_share_82 : decode cX4_share 82 = .ok (.if_icmp .le 10, 3) := by decide +kernel
theorem dX4_share_85 : decode cX4_share 85 = .ok (.iload 5, 2) := by decide +kernel
theorem dX4_share_87 : decode cX4_share 87 = .ok (.istore_n 3, 1) := by decide +kernel
theorem dX4_share_88 : decode cX4_share 88 = .ok (.iload 6, 2) := by decide +kernel
theorem dX4_share_90 : decode cX4_share 90 = .ok (.istore 4, 2) := by decide +kernel
theorem dX4_share_92 : decode cX4_share 92 = .ok (.iinc 5 1, 3) := by decide +kernel
theorem dX4_share_95 : decode cX4_share 95 = .ok (.goto (-62), 3) := by decide +kernel
theorem dX4_share_98 : decode cX4_share 98 = .ok (.iload_n 2, 1) := by decide +kernel
theorem dX4_share_99 : decode cX4_share 99 = .ok (.ifCond .ne 7, 3) := by decide +kernel
theorem dX4_share_102 : decode cX4_share 102 = .ok (.iload_n 3, 1) := by decide +kernel
theorem dX4_share_103 : decode cX4_share 103 = .ok (.goto 5, 3) := by decide +kernel
theorem dX4_share_106 : decode cX4_share 106 = .ok (.iload 4, 2) := by decide +kernel
theorem dX4_share_108 : decode cX4_share 108 = .ok (.ireturn, 1) := by decide +kernel
theorem dX4_witSharing_0 : decode cX4_witSharing 0 = .ok (.aload_n 0, 1) := by decide +kernel
theorem dX4_witSharing_1 : decode cX4_witSharing 1 = .ok (.getfield 62, 3) := by decide +kernel
theorem dX4_witSharing_4 : decode cX4_witSharing 4 = .ok (.aload_n 0, 1) := by decide +kernel
theorem dX4_witSharing_5 : decode cX4_witSharing 5 = .ok (.getfield 58, 3) := by decide +kernel
theorem dX4_witSharing_8 : decode cX4_witSharing 8 = .ok (.invokevirtual 168, 3) := by decide +kernel
theorem dX4_witSharing_11 : decode cX4_witSharing 11 = .ok (.aload_n 0, 1) := by decide +kernel
theorem dX4_witSharing_12 : decode cX4_witSharing 12 = .ok (.getfield 62, 3) := by decide +kernel
theorem dX4_witSharing_15 : decode cX4_witSharing 15 = .ok (.getfield 116, 3) := by decide +kernel
theorem dX4_witSharing_18 : decode cX4_witSharing 18 = .ok (.iload_n 1, 1) := by decide +kernel
theorem dX4_witSharing_19 : decode cX4_witSharing 19 = .ok (.bipush 8, 2) := by decide +kernel
theorem dX4_witSharing_21 : decode cX4_witSharing 21 = .ok (.imul, 1) := by decide +kernel
theorem dX4_witSharing_22 : decode cX4_witSharing 22 = .ok (.iload_n 2, 1) := by decide +kernel
theorem dX4_witSharing_23 : decode cX4_witSharing 23 = .ok (.iadd, 1) := by decide +kernel
theorem dX4_witSharing_24 : decode cX4_witSharing 24 = .ok (.dup2, 1) := by decide +kernel
theorem dX4_witSharing_25 : decode cX4_witSharing 25 = .ok (.iaload, 1) := by decide +kernel
theorem dX4_witSharing_26 : decode cX4_witSharing 26 = .ok (.iconst 1, 1) := by decide +kernel
theorem dX4_witSharing_27 : decode cX4_witSharing 27 = .ok (.iadd, 1) := by decide +kernel
theorem dX4_witSharing_28 : decode cX4_witSharing 28 = .ok (.iastore, 1) := by decide +kernel
theorem dX4_witSharing_29 : decode cX4_witSharing 29 = .ok (.iconst 0, 1) := by decide +kernel
theorem dX4_witSharing_30 : decode cX4_witSharing 30 = .ok (.istore_n 3, 1) := by decide +kernel
theorem dX4_witSharing_31 : decode cX4_witSharing 31 = .ok (.iload_n 3, 1) := by decide +kernel
theorem dX4_witSharing_32 : decode cX4_witSharing 32 = .ok (.aload_n 0, 1) := by decide +kernel
theorem dX4_witSharing_33 : decode cX4_witSharing 33 = .ok (.getfield 62, 3) := by decide +kernel
theorem dX4_witSharing_36 : decode cX4_witSharing 36 = .ok (.getfield 79, 3) := by decide +kernel
theorem dX4_witSharing_39 : decode cX4_witSharing 39 = .ok (.if_icmp .ge 30, 3) := by decide +kernel
theorem dX4_witSharing_42 : decode cX4_witSharing 42 = .ok (.aload_n 0, 1) := by decide +kernel
theorem dX4_witSharing_43 : decode cX4_witSharing 43 = .ok (.getfield 62, 3) := by decide +kernel
theorem dX4_witSharing_46 : decode cX4_witSharing 46 = .ok (.iload_n 3, 1) := by decide +kernel
theorem dX4_witSharing_47 : decode cX4_witSharing 47 = .ok (.iload_n 2, 1) := by decide +kernel
theorem dX4_witSharing_48 : decode cX4_witSharing 48 = .ok (.invokevirtual 147, 3) := by decide +kernel
theorem dX4_witSharing_51 : decode cX4_witSharing 51 = .ok (.ifCond .eq 12, 3) := by decide +kernel
theorem dX4_witSharing_54 : decode cX4_witSharing 54 = .ok (.aload_n 0, 1) := by decide +kernel
theorem dX4_witSharing_55 : decode cX4_witSharing 55 = .ok (.getfield 62, 3) := by decide +kernel
theorem dX4_witSharing_58 : decode cX4_witSharing 58 = .ok (.iload_n 3, 1) := by decide +kernel
theorem dX4_witSharing_59 : decode cX4_witSharing 59 = .ok (.iload_n 2, 1) := by decide +kernel
theorem dX4_witSharing_60 : decode cX4_witSharing 60 = .ok (.invokevirtual 151, 3) := by decide +kernel
theorem dX4_witSharing_63 : decode cX4_witSharing 63 = .ok (.iinc 3 1, 3) := by decide +kernel
theorem dX4_witSharing_66 : decode cX4_witSharing 66 = .ok (.goto (-35), 3) := by decide +kernel
theorem dX4_witSharing_69 : decode cX4_witSharing 69 = .ok (.aload_n 0, 1) := by decide +kernel
theorem dX4_witSharing_70 : decode cX4_witSharing 70 = .ok (.getfield 62, 3) := by decide +kernel
theorem dX4_witSharing_73 : decode cX4_witSharing 73 = .ok (.invokevirtual 199, 3) := by decide +kernel
theorem dX4_witSharing_76 : decode cX4_witSharing 76 = .ok (.ireturn, 1) := by decide +kernel
theorem dX4_box_0 : decode cX4_box 0 = .ok (.aload_n 0, 1) := by decide +kernel
theorem dX4_box_1 : decode cX4_box 1 = .ok (.getfield 58, 3) := by decide +kernel
theorem dX4_box_4 : decode cX4_box 4 = .ok (.iload_n 1, 1) := by decide +kernel
theorem dX4_box_5 : decode cX4_box 5 = .ok (.invokevirtual 100, 3) := by decide +kernel
theorem dX4_box_8 : decode cX4_box 8 = .ok (.ifCond .eq 12, 3) := by decide +kernel
theorem dX4_box_11 : decode cX4_box 11 = .ok (.iload_n 2, 1) := by decide +kernel
theorem dX4_box_12 : decode cX4_box 12 = .ok (.iconst 0, 1) := by decide +kernel
theorem dX4_box_13 : decode cX4_box 13 = .ok (.iconst 1, 1) := by decide +kernel
theorem dX4_box_14 : decode cX4_box 14 = .ok (.invokestatic 89, 3) := by decide +kernel
theorem dX4_box_17 : decode cX4_box 17 = .ok (.ifCond .ne 7, 3) := by decide +kernel
theorem dX4_box_20 : decode cX4_box 20 = .ok (.ldc2_w 205, 3) := by decide +kernel
theorem dX4_box_23 : decode cX4_box 23 = .ok (.lreturn, 1) := by decide +kernel
theorem dX4_box_24 : decode cX4_box 24 = .ok (.iconst 0, 1) := by decide +kernel
theorem dX4_box_25 : decode cX4_box 25 = .ok (.istore_n 3, 1) := by decide +kernel
theorem dX4_box_26 : decode cX4_box 26 = .ok (.iconst 0, 1) := by decide +kernel
theorem dX4_box_27 : decode cX4_box 27 = .ok (.istore 4, 2) := by decide +kernel
theorem dX4_box_29 : decode cX4_box 29 = .ok (.iload 4, 2) := by decide +kernel
theorem dX4_box_31 : decode cX4_box 31 = .ok (.aload_n 0, 1) := by decide +kernel
theorem dX4_box_32 : decode cX4_box 32 = .ok (.getfield 58, 3) := by decide +kernel
theorem dX4_box_35 : decode cX4_box 35 = .ok (.getfield 79, 3) := by decide +kernel
theorem dX4_box_38 : decode cX4_box 38 = .ok (.if_icmp .ge 21, 3) := by decide +kernel
theorem dX4_box_41 : decode cX4_box 41 = .ok (.iload_n 3, 1) := by decide +kernel
theorem dX4_box_42 : decode cX4_box 42 = .ok (.aload_n 0, 1) := by decide +kernel
theorem dX4_box_43 : decode cX4_box 43 = .ok (.getfield 58, 3) := by decide +kernel
theorem dX4_box_46 : decode cX4_box 46 = .ok (.iload 4, 2) := by decide +kernel
theorem dX4_box_48 : decode cX4_box 48 = .ok (.invokevirtual 207, 3) := by decide +kernel
theorem dX4_box_51 : decode cX4_box 51 = .ok (.iadd, 1) := by decide +kernel
theorem dX4_box_52 : decode cX4_box 52 = .ok (.istore_n 3, 1) := by decide +kernel
theorem dX4_box_53 : decode cX4_box 53 = .ok (.iinc 4 1, 3) := by decide +kernel
theorem dX4_box_56 : decode cX4_box 56 = .ok (.goto (-27), 3) := by decide +kernel
theorem dX4_box_59 : decode cX4_box 59 = .ok (.iload_n 3, 1) := by decide +kernel
theorem dX4_box_60 : decode cX4_box 60 = .ok (.ifCond .ne 9, 3) := by decide +kernel
theorem dX4_box_63 : decode cX4_box 63 = .ok (.ldc2_w 205, 3) := by decide +kernel
theorem dX4_box_66 : decode cX4_box 66 = .ok (.goto 16, 3) := by decide +kernel
theorem dX4_box_69 : decode cX4_box 69 = .ok (.aload_n 0, 1) := by decide +kernel
theorem dX4_box_70 : decode cX4_box 70 = .ok (.getfield 58, 3) := by decide +kernel
theorem dX4_box_73 : decode cX4_box 73 = .ok (.iload_n 1, 1) := by decide +kernel
theorem dX4_box_74 : decode cX4_box 74 = .ok (.invokevirtual 207, 3) := by decide +kernel
theorem dX4_box_77 : decode cX4_box 77 = .ok (.iload_n 3, 1) := by decide +kernel
theorem dX4_box_78 : decode cX4_box 78 = .ok (.iload_n 2, 1) := by decide +kernel
theorem dX4_box_79 : decode cX4_box 79 = .ok (.invokestatic 210, 3) := by decide +kernel
theorem dX4_box_82 : decode cX4_box 82 = .ok (.lreturn, 1) := by decide +kernel
theorem dX4_judge_0 : decode cX4_judge 0 = .ok (.aload_n 0, 1) := by decide +kernel
theorem dX4_judge_1 : decode cX4_judge 1 = .ok (.iload_n 1, 1) := by decide +kernel
theorem dX4_judge_2 : decode cX4_judge 2 = .ok (.iload_n 2, 1) := by decide +kernel
theorem dX4_judge_3 : decode cX4_judge 3 = .ok (.iload_n 3, 1) := by decide +kernel
theorem dX4_judge_4 : decode cX4_judge 4 = .ok (.invokevirtual 214, 3) := by decide +kernel
theorem dX4_judge_7 : decode cX4_judge 7 = .ok (.istore 4, 2) := by decide +kernel
theorem dX4_judge_9 : decode cX4_judge 9 = .ok (.iload 4, 2) := by decide +kernel
theorem dX4_judge_11 : decode cX4_judge 11 = .ok (.ifCond .eq 6, 3) := by decide +kernel
theorem dX4_judge_14 : decode cX4_judge 14 = .ok (.iload 4, 2) := by decide +kernel
theorem dX4_judge_16 : decode cX4_judge 16 = .ok (.ireturn, 1) := by decide +kernel
theorem dX4_judge_17 : decode cX4_judge 17 = .ok (.aload_n 0, 1) := by decide +kernel
theorem dX4_judge_18 : decode cX4_judge 18 = .ok (.getfield 62, 3) := by decide +kernel
theorem dX4_judge_21 : decode cX4_judge 21 = .ok (.aload_n 0, 1) := by decide +kernel
theorem dX4_judge_22 : decode cX4_judge 22 = .ok (.getfield 58, 3) := by decide +kernel
theorem dX4_judge_25 : decode cX4_judge 25 = .ok (.invokevirtual 168, 3) := by decide +kernel
theorem dX4_judge_28 : decode cX4_judge 28 = .ok (.aload_n 0, 1) := by decide +kernel
theorem dX4_judge_29 : decode cX4_judge 29 = .ok (.iload_n 1, 1) := by decide +kernel
theorem dX4_judge_30 : decode cX4_judge 30 = .ok (.iload_n 2, 1) := by decide +kernel
theorem dX4_judge_31 : decode cX4_judge 31 = .ok (.iload_n 3, 1) := by decide +kernel
theorem dX4_judge_32 : decode cX4_judge 32 = .ok (.invokevirtual 217, 3) := by decide +kernel
theorem dX4_judge_35 : decode cX4_judge 35 = .ok (.ireturn, 1) := by decide +kernel
theorem dX4_kinds_0 : decode cX4_kinds 0 = .ok (.aload_n 0, 1) := by decide +kernel
theorem dX4_kinds_1 : decode cX4_kinds 1 = .ok (.iload_n 1, 1) := by decide +kernel
theorem dX4_kinds_2 : decode cX4_kinds 2 = .ok (.iload_n 2, 1) := by decide +kernel
theorem dX4_kinds_3 : decode cX4_kinds 3 = .ok (.iload_n 3, 1) := by decide +kernel
theorem dX4_kinds_4 : decode cX4_kinds 4 = .ok (.invokevirtual 214, 3) := by decide +kernel
theorem dX4_kinds_7 : decode cX4_kinds 7 = .ok (.istore 5, 2) := by decide +kernel
theorem dX4_kinds_9 : decode cX4_kinds 9 = .ok (.iload 5, 2) := by decide +kernel
theorem dX4_kinds_11 : decode cX4_kinds 11 = .ok (.ifCond .eq 6, 3) := by decide +kernel
theorem dX4_kinds_14 : decode cX4_kinds 14 = .ok (.iload 5, 2) := by decide +kernel
theorem dX4_kinds_16 : decode cX4_kinds 16 = .ok (.ireturn, 1) := by decide +kernel
theorem dX4_kinds_17 : decode cX4_kinds 17 = .ok (.iload 4, 2) := by decide +kernel
theorem dX4_kinds_19 : decode cX4_kinds 19 = .ok (.iconst 0, 1) := by decide +kernel
theorem dX4_kinds_20 : decode cX4_kinds 20 = .ok (.iconst 1, 1) := by decide +kernel
theorem dX4_kinds_21 : decode cX4_kinds 21 = .ok (.invokestatic 89, 3) := by decide +kernel
theorem dX4_kinds_24 : decode cX4_kinds 24 = .ok (.ifCond .ne 6, 3) := by decide +kernel
theorem dX4_kinds_27 : decode cX4_kinds 27 = .ok (.bipush (-7), 2) := by decide +kernel
theorem dX4_kinds_29 : decode cX4_kinds 29 = .ok (.ireturn, 1) := by decide +kernel
theorem dX4_kinds_30 : decode cX4_kinds 30 = .ok (.iconst 0, 1) := by decide +kernel
theorem dX4_kinds_31 : decode cX4_kinds 31 = .ok (.istore 6, 2) := by decide +kernel
theorem dX4_kinds_33 : decode cX4_kinds 33 = .ok (.iload 4, 2) := by decide +kernel
theorem dX4_kinds_35 : decode cX4_kinds 35 = .ok (.ifCond .ne 7, 3) := by decide +kernel
theorem dX4_kinds_38 : decode cX4_kinds 38 = .ok (.iconst 5, 1) := by decide +kernel
theorem dX4_kinds_39 : decode cX4_kinds 39 = .ok (.goto 5, 3) := by decide +kernel
theorem dX4_kinds_42 : decode cX4_kinds 42 = .ok (.bipush 9, 2) := by decide +kernel
theorem dX4_kinds_44 : decode cX4_kinds 44 = .ok (.istore 7, 2) := by decide +kernel
theorem dX4_kinds_46 : decode cX4_kinds 46 = .ok (.iconst 0, 1) := by decide +kernel
theorem dX4_kinds_47 : decode cX4_kinds 47 = .ok (.istore 8, 2) := by decide +kernel
theorem dX4_kinds_49 : decode cX4_kinds 49 = .ok (.iload 8, 2) := by decide +kernel
theorem dX4_kinds_51 : decode cX4_kinds 51 = .ok (.iload 7, 2) := by decide +kernel
theorem dX4_kinds_53 : decode cX4_kinds 53 = .ok (.if_icmp .gt 70, 3) := by decide +kernel
theorem dX4_kinds_56 : decode cX4_kinds 56 = .ok (.aload_n 0, 1) := by decide +kernel
theorem dX4_kinds_57 : decode cX4_kinds 57 = .ok (.getfield 62, 3) := by decide +kernel
theorem dX4_kinds_60 : decode cX4_kinds 60 = .ok (.aload_n 0, 1) := by decide +kernel
theorem dX4_kinds_61 : decode cX4_kinds 61 = .ok (.getfield 58, 3) := by decide +kernel
theorem dX4_kinds_64 : decode cX4_kinds 64 = .ok (.invokevirtual 168, 3) := by decide +kernel
theorem dX4_kinds_67 : decode cX4_kinds 67 = .ok (.iload 4, 2) := by decide +kernel
theorem dX4_kinds_69 : decode cX4_kinds 69 = .ok (.ifCond .ne 17, 3) := by decide +kernel
theorem dX4_kinds_72 : decode cX4_kinds 72 = .ok (.aload_n 0, 1) := by decide +kernel
theorem dX4_kinds_73 : decode cX4_kinds 73 = .ok (.getfield 62, 3) := by decide +kernel
theorem dX4_kinds_76 : decode cX4_kinds 76 = .ok (.getfield 122, 3) := by decide +kernel
theorem dX4_kinds_79 : decode cX4_kinds 79 = .ok (.iload_n 3, 1) := by decide +kernel
theorem dX4_kinds_80 : decode cX4_kinds 80 = .ok (.iload 8, 2) := by decide +kernel
theorem dX4_kinds_82 : decode cX4_kinds 82 = .ok (.iastore, 1) := by decide +kernel
theorem dX4_kinds_83 : decode cX4_kinds 83 = .ok (.goto 14, 3) := by decide +kernel
theorem dX4_kinds_86 : decode cX4_kinds 86 = .ok (.aload_n 0, 1) := by decide +kernel
theorem dX4_kinds_87 : decode cX4_kinds 87 = .ok (.getfield 62, 3) := by decide +kernel
theorem dX4_kinds_90 : decode cX4_kinds 90 = .ok (.getfield 125, 3) := by decide +kernel
theorem dX4_kinds_93 : decode cX4_kinds 93 = .ok (.iload_n 3, 1) := by decide +kernel
theorem dX4_kinds_94 : decode cX4_kinds 94 = .ok (.iload 8, 2) := by decide +kernel
theorem dX4_kinds_96 : decode cX4_kinds 96 = .ok (.iastore, 1) := by decide +kernel
theorem dX4_kinds_97 : decode cX4_kinds 97 = .ok (.aload_n 0, 1) := by decide +kernel
theorem dX4_kinds_98 : decode cX4_kinds 98 = .ok (.iload_n 1, 1) := by decide +kernel
theorem dX4_kinds_99 : decode cX4_kinds 99 = .ok (.iload_n 2, 1) := by decide +kernel
theorem dX4_kinds_100 : decode cX4_kinds 100 = .ok (.iload_n 3, 1) := by decide +kernel
theorem dX4_kinds_101 : decode cX4_kinds 101 = .ok (.invokevirtual 217, 3) := by decide +kernel
theorem dX4_kinds_104 : decode cX4_kinds 104 = .ok (.iconst (-1), 1) := by decide +kernel
theorem dX4_kinds_105 : decode cX4_kinds 105 = .ok (.if_icmp .ne 12, 3) := by decide +kernel
theorem dX4_kinds_108 : decode cX4_kinds 108 = .ok (.iload 6, 2) := by decide +kernel
theorem dX4_kinds_110 : decode cX4_kinds 110 = .ok (.iconst 1, 1) := by decide +kernel
theorem dX4_kinds_111 : decode cX4_kinds 111 = .ok (.iload 8, 2) := by decide +kernel
theorem dX4_kinds_113 : decode cX4_kinds 113 = .ok (.ishl, 1) := by decide +kernel
theorem dX4_kinds_114 : decode cX4_kinds 114 = .ok (.ior, 1) := by decide +kernel
theorem dX4_kinds_115 : decode cX4_kinds 115 = .ok (.istore 6, 2) := by decide +kernel
theorem dX4_kinds_117 : decode cX4_kinds 117 = .ok (.iinc 8 1, 3) := by decide +kernel
theorem dX4_kinds_120 : decode cX4_kinds 120 = .ok (.goto (-71), 3) := by decide +kernel
theorem dX4_kinds_123 : decode cX4_kinds 123 = .ok (.iload 6, 2) := by decide +kernel
theorem dX4_kinds_125 : decode cX4_kinds 125 = .ok (.ireturn, 1) := by decide +kernel
theorem dX4_states_0 : decode cX4_states 0 = .ok (.aload_n 0, 1) := by decide +kernel
theorem dX4_states_1 : decode cX4_states 1 = .ok (.iload_n 1, 1) := by decide +kernel
theorem dX4_states_2 : decode cX4_states 2 = .ok (.iload_n 2, 1) := by decide +kernel
theorem dX4_states_3 : decode cX4_states 3 = .ok (.iload_n 3, 1) := by decide +kernel
theorem dX4_states_4 : decode cX4_states 4 = .ok (.invokevirtual 214, 3) := by decide +kernel
theorem dX4_states_7 : decode cX4_states 7 = .ok (.istore 6, 2) := by decide +kernel
theorem dX4_states_9 : decode cX4_states 9 = .ok (.iload 6, 2) := by decide +kernel
theorem dX4_states_11 : decode cX4_states 11 = .ok (.ifCond .eq 6, 3) := by decide +kernel
theorem dX4_states_14 : decode cX4_states 14 = .ok (.iload 6, 2) := by decide +kernel
theorem dX4_states_16 : decode cX4_states 16 = .ok (.ireturn, 1) := by decide +kernel
theorem dX4_states_17 : decode cX4_states 17 = .ok (.iload 4, 2) := by decide +kernel
theorem dX4_states_19 : decode cX4_states 19 = .ok (.iconst 0, 1) := by decide +kernel
theorem dX4_states_20 : decode cX4_states 20 = .ok (.bipush 8, 2) := by decide +kernel
theorem dX4_states_22 : decode cX4_states 22 = .ok (.invokestatic 89, 3) := by decide +kernel
theorem dX4_states_25 : decode cX4_states 25 = .ok (.ifCond .eq 13, 3) := by decide +kernel
theorem dX4_states_28 : decode cX4_states 28 = .ok (.iload 5, 2) := by decide +kernel
theorem dX4_states_30 : decode cX4_states 30 = .ok (.iconst 0, 1) := by decide +kernel
theorem dX4_states_31 : decode cX4_states 31 = .ok (.iconst 1, 1) := by decide +kernel
theorem dX4_states_32 : decode cX4_states 32 = .ok (.invokestatic 89, 3) := by decide +kernel
theorem dX4_states_35 : decode cX4_states 35 = .ok (.ifCond .ne 6, 3) := by decide +kernel
theorem dX4_states_38 : decode cX4_states 38 = .ok (.bipush (-7), 2) := by decide +kernel
theorem dX4_states_40 : decode cX4_states 40 = .ok (.ireturn, 1) := by decide +kernel
theorem dX4_states_41 : decode cX4_states 41 = .ok (.iconst 0, 1) := by decide +kernel
theorem dX4_states_42 : decode cX4_states 42 = .ok (.istore 7, 2) := by decide +kernel
theorem dX4_states_44 : decode cX4_states 44 = .ok (.iconst (-1), 1) := by decide +kernel
theorem dX4_states_45 : decode cX4_states 45 = .ok (.istore 8, 2) := by decide +kernel
theorem dX4_states_47 : decode cX4_states 47 = .ok (.iload 4, 2) := by decide +kernel
theorem dX4_states_49 : decode cX4_states 49 = .ok (.bipush 8, 2) := by decide +kernel
theorem dX4_states_51 : decode cX4_states 51 = .ok (.if_icmp .ne 8, 3) := by decide +kernel
theorem dX4_states_54 : decode cX4_states 54 = .ok (.bipush 99, 2) := by decide +kernel
theorem dX4_states_56 : decode cX4_states 56 = .ok (.goto 5, 3) := by decide +kernel
theorem dX4_states_59 : decode cX4_states 59 = .ok (.bipush 9, 2) := by decide +kernel
theorem dX4_states_61 : decode cX4_states 61 = .ok (.istore 9, 2) := by decide +kernel
theorem dX4_states_63 : decode cX4_states 63 = .ok (.iconst 0, 1) := by decide +kernel
theorem dX4_states_64 : decode cX4_states 64 = .ok (.istore 10, 2) := by decide +kernel
theorem dX4_states_66 : decode cX4_states 66 = .ok (.iload 10, 2) := by decide +kernel
theorem dX4_states_68 : decode cX4_states 68 = .ok (.iload 9, 2) := by decide +kernel
theorem dX4_states_70 : decode cX4_states 70 = .ok (.if_icmp .gt 56, 3) := by decide +kernel
theorem dX4_states_73 : decode cX4_states 73 = .ok (.aload_n 0, 1) := by decide +kernel
theorem dX4_states_74 : decode cX4_states 74 = .ok (.getfield 62, 3) := by decide +kernel
theorem dX4_states_77 : decode cX4_states 77 = .ok (.aload_n 0, 1) := by decide +kernel
theorem dX4_states_78 : decode cX4_states 78 = .ok (.getfield 58, 3) := by decide +kernel
theorem dX4_states_81 : decode cX4_states 81 = .ok (.invokevirtual 168, 3) := by decide +kernel
theorem dX4_states_84 : decode cX4_states 84 = .ok (.aload_n 0, 1) := by decide +kernel
theorem dX4_states_85 : decode cX4_states 85 = .ok (.getfield 62, 3) := by decide +kernel
theorem dX4_states_88 : decode cX4_states 88 = .ok (.iload_n 3, 1) := by decide +kernel
theorem dX4_states_89 : decode cX4_states 89 = .ok (.iload 4, 2) := by decide +kernel
theorem dX4_states_91 : decode cX4_states 91 = .ok (.iload 10, 2) := by decide +kernel
theorem dX4_states_93 : decode cX4_states 93 = .ok (.invokevirtual 113, 3) := by decide +kernel
theorem dX4_states_96 : decode cX4_states 96 = .ok (.pop, 1) := by decide +kernel
theorem dX4_states_97 : decode cX4_states 97 = .ok (.aload_n 0, 1) := by decide +kernel
theorem dX4_states_98 : decode cX4_states 98 = .ok (.iload_n 1, 1) := by decide +kernel
theorem dX4_states_99 : decode cX4_states 99 = .ok (.iload_n 2, 1) := by decide +kernel
theorem dX4_states_100 : decode cX4_states 100 = .ok (.iload_n 3, 1) := by decide +kernel
theorem dX4_states_101 : decode cX4_states 101 = .ok (.invokevirtual 217, 3) := by decide +kernel
theorem dX4_states_104 : decode cX4_states 104 = .ok (.iconst (-1), 1) := by decide +kernel
theorem dX4_states_105 : decode cX4_states 105 = .ok (.if_icmp .ne 15, 3) := by decide +kernel
theorem dX4_states_108 : decode cX4_states 108 = .ok (.iinc 7 1, 3) := by decide +kernel
theorem dX4_states_111 : decode cX4_states 111 = .ok (.iload 8, 2) := by decide +kernel
theorem dX4_states_113 : decode cX4_states 113 = .ok (.ifCond .ge 7, 3) := by decide +kernel
theorem dX4_states_116 : decode cX4_states 116 = .ok (.iload 10, 2) := by decide +kernel
theorem dX4_states_118 : decode cX4_states 118 = .ok (.istore 8, 2) := by decide +kernel
theorem dX4_states_120 : decode cX4_states 120 = .ok (.iinc 10 1, 3) := by decide +kernel
theorem dX4_states_123 : decode cX4_states 123 = .ok (.goto (-57), 3) := by decide +kernel
theorem dX4_states_126 : decode cX4_states 126 = .ok (.iload 5, 2) := by decide +kernel
theorem dX4_states_128 : decode cX4_states 128 = .ok (.ifCond .ne 8, 3) := by decide +kernel
theorem dX4_states_131 : decode cX4_states 131 = .ok (.iload 7, 2) := by decide +kernel
theorem dX4_states_133 : decode cX4_states 133 = .ok (.goto 5, 3) := by decide +kernel
theorem dX4_states_136 : decode cX4_states 136 = .ok (.iload 8, 2) := by decide +kernel
theorem dX4_states_138 : decode cX4_states 138 = .ok (.ireturn, 1) := by decide +kernel
theorem dX4_whose_0 : decode cX4_whose 0 = .ok (.aload_n 0, 1) := by decide +kernel
theorem dX4_whose_1 : decode cX4_whose 1 = .ok (.iload_n 1, 1) := by decide +kernel
theorem dX4_whose_2 : decode cX4_whose 2 = .ok (.iload_n 2, 1) := by decide +kernel
theorem dX4_whose_3 : decode cX4_whose 3 = .ok (.invokevirtual 220, 3) := by decide +kernel
theorem dX4_whose_6 : decode cX4_whose 6 = .ok (.istore_n 3, 1) := by decide +kernel
theorem dX4_whose_7 : decode cX4_whose 7 = .ok (.iload_n 3, 1) := by decide +kernel
theorem dX4_whose_8 : decode cX4_whose 8 = .ok (.ifCond .eq 5, 3) := by decide +kernel
theorem dX4_whose_11 : decode cX4_whose 11 = .ok (.iload_n 3, 1) := by decide +kernel
theorem dX4_whose_12 : decode cX4_whose 12 = .ok (.ireturn, 1) := by decide +kernel
theorem dX4_whose_13 : decode cX4_whose 13 = .ok (.iconst 0, 1) := by decide +kernel
theorem dX4_whose_14 : decode cX4_whose 14 = .ok (.istore 4, 2) := by decide +kernel
theorem dX4_whose_16 : decode cX4_whose 16 = .ok (.iconst 0, 1) := by decide +kernel
theorem dX4_whose_17 : decode cX4_whose 17 = .ok (.istore 5, 2) := by decide +kernel
theorem dX4_whose_19 : decode cX4_whose 19 = .ok (.iload 5, 2) := by decide +kernel
theorem dX4_whose_21 : decode cX4_whose 21 = .ok (.aload_n 0, 1) := by decide +kernel
theorem dX4_whose_22 : decode cX4_whose 22 = .ok (.getfield 58, 3) := by decide +kernel
theorem dX4_whose_25 : decode cX4_whose 25 = .ok (.getfield 79, 3) := by decide +kernel
theorem dX4_whose_28 : decode cX4_whose 28 = .ok (.if_icmp .ge 41, 3) := by decide +kernel
theorem dX4_whose_31 : decode cX4_whose 31 = .ok (.aload_n 0, 1) := by decide +kernel
theorem dX4_whose_32 : decode cX4_whose 32 = .ok (.getfield 62, 3) := by decide +kernel
theorem dX4_whose_35 : decode cX4_whose 35 = .ok (.aload_n 0, 1) := by decide +kernel
theorem dX4_whose_36 : decode cX4_whose 36 = .ok (.getfield 58, 3) := by decide +kernel
theorem dX4_whose_39 : decode cX4_whose 39 = .ok (.invokevirtual 168, 3) := by decide +kernel
theorem dX4_whose_42 : decode cX4_whose 42 = .ok (.aload_n 0, 1) := by decide +kernel
theorem dX4_whose_43 : decode cX4_whose 43 = .ok (.iload_n 1, 1) := by decide +kernel
theorem dX4_whose_44 : decode cX4_whose 44 = .ok (.iload_n 2, 1) := by decide +kernel
theorem dX4_whose_45 : decode cX4_whose 45 = .ok (.iload 5, 2) := by decide +kernel
theorem dX4_whose_47 : decode cX4_whose 47 = .ok (.invokevirtual 217, 3) := by decide +kernel
theorem dX4_whose_50 : decode cX4_whose 50 = .ok (.iconst (-1), 1) := by decide +kernel
theorem dX4_whose_51 : decode cX4_whose 51 = .ok (.if_icmp .ne 12, 3) := by decide +kernel
theorem dX4_whose_54 : decode cX4_whose 54 = .ok (.iload 4, 2) := by decide +kernel
theorem dX4_whose_56 : decode cX4_whose 56 = .ok (.iconst 1, 1) := by decide +kernel
theorem dX4_whose_57 : decode cX4_whose 57 = .ok (.iload 5, 2) := by decide +kernel
theorem dX4_whose_59 : decode cX4_whose 59 = .ok (.ishl, 1) := by decide +kernel
theorem dX4_whose_60 : decode cX4_whose 60 = .ok (.ior, 1) := by decide +kernel
theorem dX4_whose_61 : decode cX4_whose 61 = .ok (.istore 4, 2) := by decide +kernel
theorem dX4_whose_63 : decode cX4_whose 63 = .ok (.iinc 5 1, 3) := by decide +kernel
theorem dX4_whose_66 : decode cX4_whose 66 = .ok (.goto (-47), 3) := by decide +kernel
theorem dX4_whose_69 : decode cX4_whose 69 = .ok (.iload 4, 2) := by decide +kernel
theorem dX4_whose_71 : decode cX4_whose 71 = .ok (.ireturn, 1) := by decide +kernel
theorem dX4_laws_0 : decode cX4_laws 0 = .ok (.aload_n 0, 1) := by decide +kernel
theorem dX4_laws_1 : decode cX4_laws 1 = .ok (.iload_n 1, 1) := by decide +kernel
theorem dX4_laws_2 : decode cX4_laws 2 = .ok (.iload_n 2, 1) := by decide +kernel
theorem dX4_laws_3 : decode cX4_laws 3 = .ok (.iload_n 3, 1) := by decide +kernel
theorem dX4_laws_4 : decode cX4_laws 4 = .ok (.invokevirtual 214, 3) := by decide +kernel
theorem dX4_laws_7 : decode cX4_laws 7 = .ok (.istore 4, 2) := by decide +kernel
theorem dX4_laws_9 : decode cX4_laws 9 = .ok (.iload 4, 2) := by decide +kernel
theorem dX4_laws_11 : decode cX4_laws 11 = .ok (.ifCond .eq 6, 3) := by decide +kernel
theorem dX4_laws_14 : decode cX4_laws 14 = .ok (.iload 4, 2) := by decide +kernel
theorem dX4_laws_16 : decode cX4_laws 16 = .ok (.ireturn, 1) := by decide +kernel
theorem dX4_laws_17 : decode cX4_laws 17 = .ok (.iconst 0, 1) := by decide +kernel
theorem dX4_laws_18 : decode cX4_laws 18 = .ok (.istore 5, 2) := by decide +kernel
theorem dX4_laws_20 : decode cX4_laws 20 = .ok (.iconst 0, 1) := by decide +kernel
theorem dX4_laws_21 : decode cX4_laws 21 = .ok (.istore 6, 2) := by decide +kernel
theorem dX4_laws_23 : decode cX4_laws 23 = .ok (.iload 6, 2) := by decide +kernel
theorem dX4_laws_25 : decode cX4_laws 25 = .ok (.aload_n 0, 1) := by decide +kernel
theorem dX4_laws_26 : decode cX4_laws 26 = .ok (.getfield 50, 3) := by decide +kernel
theorem dX4_laws_29 : decode cX4_laws 29 = .ok (.if_icmp .ge 49, 3) := by decide +kernel
theorem dX4_laws_32 : decode cX4_laws 32 = .ok (.aload_n 0, 1) := by decide +kernel
theorem dX4_laws_33 : decode cX4_laws 33 = .ok (.getfield 62, 3) := by decide +kernel
theorem dX4_laws_36 : decode cX4_laws 36 = .ok (.aload_n 0, 1) := by decide +kernel
theorem dX4_laws_37 : decode cX4_laws 37 = .ok (.getfield 58, 3) := by decide +kernel
theorem dX4_laws_40 : decode cX4_laws 40 = .ok (.invokevirtual 168, 3) := by decide +kernel
theorem dX4_laws_43 : decode cX4_laws 43 = .ok (.aload_n 0, 1) := by decide +kernel
theorem dX4_laws_44 : decode cX4_laws 44 = .ok (.getfield 62, 3) := by decide +kernel
theorem dX4_laws_47 : decode cX4_laws 47 = .ok (.iload 6, 2) := by decide +kernel
theorem dX4_laws_49 : decode cX4_laws 49 = .ok (.putfield 86, 3) := by decide +kernel
theorem dX4_laws_52 : decode cX4_laws 52 = .ok (.aload_n 0, 1) := by decide +kernel
theorem dX4_laws_53 : decode cX4_laws 53 = .ok (.iload_n 1, 1) := by decide +kernel
theorem dX4_laws_54 : decode cX4_laws 54 = .ok (.iload_n 2, 1) := by decide +kernel
theorem dX4_laws_55 : decode cX4_laws 55 = .ok (.iload_n 3, 1) := by decide +kernel
theorem dX4_laws_56 : decode cX4_laws 56 = .ok (.invokevirtual 217, 3) := by decide +kernel
theorem dX4_laws_59 : decode cX4_laws 59 = .ok (.iconst (-1), 1) := by decide +kernel
theorem dX4_laws_60 : decode cX4_laws 60 = .ok (.if_icmp .ne 12, 3) := by decide +kernel
theorem dX4_laws_63 : decode cX4_laws 63 = .ok (.iload 5, 2) := by decide +kernel
theorem dX4_laws_65 : decode cX4_laws 65 = .ok (.iconst 1, 1) := by decide +kernel
theorem dX4_laws_66 : decode cX4_laws 66 = .ok (.iload 6, 2) := by decide +kernel
theorem dX4_laws_68 : decode cX4_laws 68 = .ok (.ishl, 1) := by decide +kernel
theorem dX4_laws_69 : decode cX4_laws 69 = .ok (.ior, 1) := by decide +kernel
theorem dX4_laws_70 : decode cX4_laws 70 = .ok (.istore 5, 2) := by decide +kernel
theorem dX4_laws_72 : decode cX4_laws 72 = .ok (.iinc 6 1, 3) := by decide +kernel
theorem dX4_laws_75 : decode cX4_laws 75 = .ok (.goto (-52), 3) := by decide +kernel
theorem dX4_laws_78 : decode cX4_laws 78 = .ok (.iload 5, 2) := by decide +kernel
theorem dX4_laws_80 : decode cX4_laws 80 = .ok (.ireturn, 1) := by decide +kernel
theorem dX4_film_0 : decode cX4_film 0 = .ok (.iload_n 2, 1) := by decide +kernel
theorem dX4_film_1 : decode cX4_film 1 = .ok (.invokestatic 223, 3) := by decide +kernel
theorem dX4_film_4 : decode cX4_film 4 = .ok (.ifCond .eq 8, 3) := by decide +kernel
theorem dX4_film_7 : decode cX4_film 7 = .ok (.iload_n 2, 1) := by decide +kernel
theorem dX4_film_8 : decode cX4_film 8 = .ok (.iload_n 1, 1) := by decide +kernel
theorem dX4_film_9 : decode cX4_film 9 = .ok (.if_icmp .ne 6, 3) := by decide +kernel
theorem dX4_film_12 : decode cX4_film 12 = .ok (.bipush (-2), 2) := by decide +kernel
theorem dX4_film_14 : decode cX4_film 14 = .ok (.ireturn, 1) := by decide +kernel
theorem dX4_film_15 : decode cX4_film 15 = .ok (.aload_n 0, 1) := by decide +kernel
theorem dX4_film_16 : decode cX4_film 16 = .ok (.iload_n 1, 1) := by decide +kernel
theorem dX4_film_17 : decode cX4_film 17 = .ok (.invokevirtual 165, 3) := by decide +kernel
theorem dX4_film_20 : decode cX4_film 20 = .ok (.istore 4, 2) := by decide +kernel
theorem dX4_film_22 : decode cX4_film 22 = .ok (.iload 4, 2) := by decide +kernel
theorem dX4_film_24 : decode cX4_film 24 = .ok (.ifCond .eq 6, 3) := by decide +kernel
theorem dX4_film_27 : decode cX4_film 27 = .ok (.iload 4, 2) := by decide +kernel
theorem dX4_film_29 : decode cX4_film 29 = .ok (.ireturn, 1) := by decide +kernel
theorem dX4_film_30 : decode cX4_film 30 = .ok (.aload_n 0, 1) := by decide +kernel
theorem dX4_film_31 : decode cX4_film 31 = .ok (.getfield 58, 3) := by decide +kernel
theorem dX4_film_34 : decode cX4_film 34 = .ok (.iload_n 3, 1) := by decide +kernel
theorem dX4_film_35 : decode cX4_film 35 = .ok (.invokevirtual 100, 3) := by decide +kernel
theorem dX4_film_38 : decode cX4_film 38 = .ok (.ifCond .ne 6, 3) := by decide +kernel
theorem dX4_film_41 : decode cX4_film 41 = .ok (.bipush (-5), 2) := by decide +kernel
theorem dX4_film_43 : decode cX4_film 43 = .ok (.ireturn, 1) := by decide +kernel
theorem dX4_film_44 : decode cX4_film 44 = .ok (.aload_n 0, 1) := by decide +kernel
theorem dX4_film_45 : decode cX4_film 45 = .ok (.getfield 71, 3) := by decide +kernel
theorem dX4_film_48 : decode cX4_film 48 = .ok (.iload_n 1, 1) := by decide +kernel
theorem dX4_film_49 : decode cX4_film 49 = .ok (.aaload, 1) := by decide +kernel
theorem dX4_film_50 : decode cX4_film 50 = .ok (.astore 5, 2) := by decide +kernel
theorem dX4_film_52 : decode cX4_film 52 = .ok (.aload_n 0, 1) := by decide +kernel
theorem dX4_film_53 : decode cX4_film 53 = .ok (.getfield 71, 3) := by decide +kernel
theorem dX4_film_56 : decode cX4_film 56 = .ok (.iload_n 2, 1) := by decide +kernel
theorem dX4_film_57 : decode cX4_film 57 = .ok (.aaload, 1) := by decide +kernel
theorem dX4_film_58 : decode cX4_film 58 = .ok (.astore 6, 2) := by decide +kernel
theorem dX4_film_60 : decode cX4_film 60 = .ok (.aload 6, 2) := by decide +kernel
theorem dX4_film_62 : decode cX4_film 62 = .ok (.iconst 0, 1) := by decide +kernel
theorem dX4_film_63 : decode cX4_film 63 = .ok (.aload 5, 2) := by decide +kernel
theorem dX4_film_65 : decode cX4_film 65 = .ok (.getfield 172, 3) := by decide +kernel
theorem dX4_film_68 : decode cX4_film 68 = .ok (.invokevirtual 226, 3) := by decide +kernel
theorem dX4_film_71 : decode cX4_film 71 = .ok (.aload_n 0, 1) := by decide +kernel
theorem dX4_film_72 : decode cX4_film 72 = .ok (.getfield 62, 3) := by decide +kernel
theorem dX4_film_75 : decode cX4_film 75 = .ok (.aload_n 0, 1) := by decide +kernel
theorem dX4_film_76 : decode cX4_film 76 = .ok (.getfield 58, 3) := by decide +kernel
theorem dX4_film_79 : decode cX4_film 79 = .ok (.invokevirtual 168, 3) := by decide +kernel
theorem dX4_film_82 : decode cX4_film 82 = .ok (.iconst 0, 1) := by decide +kernel
theorem dX4_film_83 : decode cX4_film 83 = .ok (.istore 7, 2) := by decide +kernel
theorem dX4_film_85 : decode cX4_film 85 = .ok (.iload 7, 2) := by decide +kernel
theorem dX4_film_87 : decode cX4_film 87 = .ok (.aload 5, 2) := by decide +kernel
theorem dX4_film_89 : decode cX4_film 89 = .ok (.getfield 172, 3) := by decide +kernel
theorem dX4_film_92 : decode cX4_film 92 = .ok (.if_icmp .ge 49, 3) := by decide +kernel
theorem dX4_film_95 : decode cX4_film 95 = .ok (.aload_n 0, 1) := by decide +kernel
theorem dX4_film_96 : decode cX4_film 96 = .ok (.getfield 62, 3) := by decide +kernel
theorem dX4_film_99 : decode cX4_film 99 = .ok (.aload 5, 2) := by decide +kernel
theorem dX4_film_101 : decode cX4_film 101 = .ok (.getfield 173, 3) := by decide +kernel
theorem dX4_film_104 : decode cX4_film 104 = .ok (.iload 7, 2) := by decide +kernel
theorem dX4_film_106 : decode cX4_film 106 = .ok (.iaload, 1) := by decide +kernel
theorem dX4_film_107 : decode cX4_film 107 = .ok (.invokevirtual 176, 3) := by decide +kernel
theorem dX4_film_110 : decode cX4_film 110 = .ok (.pop, 1) := by decide +kernel
theorem dX4_film_111 : decode cX4_film 111 = .ok (.aload_n 0, 1) := by decide +kernel
theorem dX4_film_112 : decode cX4_film 112 = .ok (.getfield 62, 3) := by decide +kernel
theorem dX4_film_115 : decode cX4_film 115 = .ok (.invokevirtual 155, 3) := by decide +kernel
theorem dX4_film_118 : decode cX4_film 118 = .ok (.pop, 1) := by decide +kernel
theorem dX4_film_119 : decode cX4_film 119 = .ok (.aload 6, 2) := by decide +kernel
theorem dX4_film_121 : decode cX4_film 121 = .ok (.iload 7, 2) := by decide +kernel
theorem dX4_film_123 : decode cX4_film 123 = .ok (.aload_n 0, 1) := by decide +kernel
theorem dX4_film_124 : decode cX4_film 124 = .ok (.getfield 62, 3) := by decide +kernel
theorem dX4_film_127 : decode cX4_film 127 = .ok (.getfield 119, 3) := by decide +kernel
theorem dX4_film_130 : decode cX4_film 130 = .ok (.iload_n 3, 1) := by decide +kernel
theorem dX4_film_131 : decode cX4_film 131 = .ok (.iaload, 1) := by decide +kernel
theorem dX4_film_132 : decode cX4_film 132 = .ok (.invokevirtual 228, 3) := by decide +kernel
theorem dX4_film_135 : decode cX4_film 135 = .ok (.iinc 7 1, 3) := by decide +kernel
theorem dX4_film_138 : decode cX4_film 138 = .ok (.goto (-53), 3) := by decide +kernel
theorem dX4_film_141 : decode cX4_film 141 = .ok (.aload 5, 2) := by decide +kernel
theorem dX4_film_143 : decode cX4_film 143 = .ok (.getfield 172, 3) := by decide +kernel
theorem dX4_film_146 : decode cX4_film 146 = .ok (.ireturn, 1) := by decide +kernel
theorem dX4_otherwise_0 : decode cX4_otherwise 0 = .ok (.aload_n 0, 1) := by decide +kernel
theorem dX4_otherwise_1 : decode cX4_otherwise 1 = .ok (.getfield 71, 3) := by decide +kernel
theorem dX4_otherwise_4 : decode cX4_otherwise 4 = .ok (.iload_n 1, 1) := by decide +kernel
theorem dX4_otherwise_5 : decode cX4_otherwise 5 = .ok (.aaload, 1) := by decide +kernel
theorem dX4_otherwise_6 : decode cX4_otherwise 6 = .ok (.astore 4, 2) := by decide +kernel
theorem dX4_otherwise_8 : decode cX4_otherwise 8 = .ok (.aload_n 0, 1) := by decide +kernel
theorem dX4_otherwise_9 : decode cX4_otherwise 9 = .ok (.getfield 71, 3) := by decide +kernel
theorem dX4_otherwise_12 : decode cX4_otherwise 12 = .ok (.iload_n 2, 1) := by decide +kernel
theorem dX4_otherwise_13 : decode cX4_otherwise 13 = .ok (.aaload, 1) := by decide +kernel
theorem dX4_otherwise_14 : decode cX4_otherwise 14 = .ok (.astore 5, 2) := by decide +kernel
theorem dX4_otherwise_16 : decode cX4_otherwise 16 = .ok (.iconst 0, 1) := by decide +kernel
theorem dX4_otherwise_17 : decode cX4_otherwise 17 = .ok (.istore 6, 2) := by decide +kernel
theorem dX4_otherwise_19 : decode cX4_otherwise 19 = .ok (.iload 6, 2) := by decide +kernel
theorem dX4_otherwise_21 : decode cX4_otherwise 21 = .ok (.aload 5, 2) := by decide +kernel
theorem dX4_otherwise_23 : decode cX4_otherwise 23 = .ok (.getfield 172, 3) := by decide +kernel
theorem dX4_otherwise_26 : decode cX4_otherwise 26 = .ok (.if_icmp .ge 66, 3) := by decide +kernel
theorem dX4_otherwise_29 : decode cX4_otherwise 29 = .ok (.iload 6, 2) := by decide +kernel
theorem dX4_otherwise_31 : decode cX4_otherwise 31 = .ok (.aload 4, 2) := by decide +kernel
theorem dX4_otherwise_33 : decode cX4_otherwise 33 = .ok (.getfield 172, 3) := by decide +kernel
theorem dX4_otherwise_36 : decode cX4_otherwise 36 = .ok (.if_icmp .ge 56, 3) := by decide +kernel
theorem dX4_otherwise_39 : decode cX4_otherwise 39 = .ok (.aload_n 0, 1) := by decide +kernel
theorem dX4_otherwise_40 : decode cX4_otherwise 40 = .ok (.getfield 62, 3) := by decide +kernel
theorem dX4_otherwise_43 : decode cX4_otherwise 43 = .ok (.aload 4, 2) := by decide +kernel
theorem dX4_otherwise_45 : decode cX4_otherwise 45 = .ok (.getfield 173, 3) := by decide +kernel
theorem dX4_otherwise_48 : decode cX4_otherwise 48 = .ok (.iload 6, 2) := by decide +kernel
theorem dX4_otherwise_50 : decode cX4_otherwise 50 = .ok (.iaload, 1) := by decide +kernel
theorem dX4_otherwise_51 : decode cX4_otherwise 51 = .ok (.invokevirtual 176, 3) := by decide +kernel
theorem dX4_otherwise_54 : decode cX4_otherwise 54 = .ok (.pop, 1) := by decide +kernel
theorem dX4_otherwise_55 : decode cX4_otherwise 55 = .ok (.aload_n 0, 1) := by decide +kernel
theorem dX4_otherwise_56 : decode cX4_otherwise 56 = .ok (.getfield 62, 3) := by decide +kernel
theorem dX4_otherwise_59 : decode cX4_otherwise 59 = .ok (.invokevirtual 155, 3) := by decide +kernel
theorem dX4_otherwise_62 : decode cX4_otherwise 62 = .ok (.pop, 1) := by decide +kernel
theorem dX4_otherwise_63 : decode cX4_otherwise 63 = .ok (.aload_n 0, 1) := by decide +kernel
theorem dX4_otherwise_64 : decode cX4_otherwise 64 = .ok (.getfield 62, 3) := by decide +kernel
theorem dX4_otherwise_67 : decode cX4_otherwise 67 = .ok (.getfield 119, 3) := by decide +kernel
theorem dX4_otherwise_70 : decode cX4_otherwise 70 = .ok (.iload_n 3, 1) := by decide +kernel
theorem dX4_otherwise_71 : decode cX4_otherwise 71 = .ok (.iaload, 1) := by decide +kernel
theorem dX4_otherwise_72 : decode cX4_otherwise 72 = .ok (.aload 5, 2) := by decide +kernel
theorem dX4_otherwise_74 : decode cX4_otherwise 74 = .ok (.getfield 173, 3) := by decide +kernel
theorem dX4_otherwise_77 : decode cX4_otherwise 77 = .ok (.iload 6, 2) := by decide +kernel
theorem dX4_otherwise_79 : decode cX4_otherwise 79 = .ok (.iaload, 1) := by decide +kernel
theorem dX4_otherwise_80 : decode cX4_otherwise 80 = .ok (.if_icmp .eq 6, 3) := by decide +kernel
theorem dX4_otherwise_83 : decode cX4_otherwise 83 = .ok (.iload 6, 2) := by decide +kernel
theorem dX4_otherwise_85 : decode cX4_otherwise 85 = .ok (.ireturn, 1) := by decide +kernel
theorem dX4_otherwise_86 : decode cX4_otherwise 86 = .ok (.iinc 6 1, 3) := by decide +kernel
theorem dX4_otherwise_89 : decode cX4_otherwise 89 = .ok (.goto (-70), 3) := by decide +kernel
theorem dX4_otherwise_92 : decode cX4_otherwise 92 = .ok (.iconst (-1), 1) := by decide +kernel
theorem dX4_otherwise_93 : decode cX4_otherwise 93 = .ok (.ireturn, 1) := by decide +kernel
theorem dX4_drawn_0 : decode cX4_drawn 0 = .ok (.iload_n 1, 1) := by decide +kernel
theorem dX4_drawn_1 : decode cX4_drawn 1 = .ok (.iconst 0, 1) := by decide +kernel
theorem dX4_drawn_2 : decode cX4_drawn 2 = .ok (.ldc 231, 2) := by decide +kernel
theorem dX4_drawn_4 : decode cX4_drawn 4 = .ok (.invokestatic 89, 3) := by decide +kernel
theorem dX4_drawn_7 : decode cX4_drawn 7 = .ok (.ifCond .eq 22, 3) := by decide +kernel
theorem dX4_drawn_10 : decode cX4_drawn 10 = .ok (.iload_n 2, 1) := by decide +kernel
theorem dX4_drawn_11 : decode cX4_drawn 11 = .ok (.iconst 0, 1) := by decide +kernel
theorem dX4_drawn_12 : decode cX4_drawn 12 = .ok (.bipush 60, 2) := by decide +kernel
theorem dX4_drawn_14 : decode cX4_drawn 14 = .ok (.invokestatic 89, 3) := by decide +kernel
theorem dX4_drawn_17 : decode cX4_drawn 17 = .ok (.ifCond .eq 12, 3) := by decide +kernel
theorem dX4_drawn_20 : decode cX4_drawn 20 = .ok (.iload_n 3, 1) := by decide +kernel
theorem dX4_drawn_21 : decode cX4_drawn 21 = .ok (.iconst 0, 1) := by decide +kernel
theorem dX4_drawn_22 : decode cX4_drawn 22 = .ok (.iconst 1, 1) := by decide +kernel
theorem dX4_drawn_23 : decode cX4_drawn 23 = .ok (.invokestatic 89, 3) := by decide +kernel
theorem dX4_drawn_26 : decode cX4_drawn 26 = .ok (.ifCond .ne 6, 3) := by decide +kernel
theorem dX4_drawn_29 : decode cX4_drawn 29 = .ok (.bipush (-2), 2) := by decide +kernel
theorem dX4_drawn_31 : decode cX4_drawn 31 = .ok (.ireturn, 1) := by decide +kernel
theorem dX4_drawn_32 : decode cX4_drawn 32 = .ok (.aload_n 0, 1) := by decide +kernel
theorem dX4_drawn_33 : decode cX4_drawn 33 = .ok (.iload_n 1, 1) := by decide +kernel
theorem dX4_drawn_34 : decode cX4_drawn 34 = .ok (.iload_n 2, 1) := by decide +kernel
theorem dX4_drawn_35 : decode cX4_drawn 35 = .ok (.invokevirtual 232, 3) := by decide +kernel
theorem dX4_drawn_38 : decode cX4_drawn 38 = .ok (.istore 4, 2) := by decide +kernel
theorem dX4_drawn_40 : decode cX4_drawn 40 = .ok (.iload_n 3, 1) := by decide +kernel
theorem dX4_drawn_41 : decode cX4_drawn 41 = .ok (.ifCond .ne 13, 3) := by decide +kernel
theorem dX4_drawn_44 : decode cX4_drawn 44 = .ok (.aload_n 0, 1) := by decide +kernel
theorem dX4_drawn_45 : decode cX4_drawn 45 = .ok (.getfield 62, 3) := by decide +kernel
theorem dX4_drawn_48 : decode cX4_drawn 48 = .ok (.invokevirtual 199, 3) := by decide +kernel
theorem dX4_drawn_51 : decode cX4_drawn 51 = .ok (.goto 5, 3) := by decide +kernel
theorem dX4_drawn_54 : decode cX4_drawn 54 = .ok (.iload 4, 2) := by decide +kernel
theorem dX4_drawn_56 : decode cX4_drawn 56 = .ok (.ireturn, 1) := by decide +kernel
theorem dX4_odds_0 : decode cX4_odds 0 = .ok (.iload_n 1, 1) := by decide +kernel
theorem dX4_odds_1 : decode cX4_odds 1 = .ok (.iconst 0, 1) := by decide +kernel
theorem dX4_odds_2 : decode cX4_odds 2 = .ok (.ldc 231, 2) := by decide +kernel
theorem dX4_odds_4 : decode cX4_odds 4 = .ok (.invokestatic 89, 3) := by decide +kernel
theorem dX4_odds_7 : decode cX4_odds 7 = .ok (.ifCond .eq 34, 3) := by decide +kernel
theorem dX4_odds_10 : decode cX4_odds 10 = .ok (.iload_n 2, 1) := by decide +kernel
theorem dX4_odds_11 : decode cX4_odds 11 = .ok (.iconst 1, 1) := by decide +kernel
theorem dX4_odds_12 : decode cX4_odds 12 = .ok (.bipush 40, 2) := by decide +kernel
theorem dX4_odds_14 : decode cX4_odds 14 = .ok (.invokestatic 89, 3) := by decide +kernel
theorem dX4_odds_17 : decode cX4_odds 17 = .ok (.ifCond .eq 24, 3) := by decide +kernel
theorem dX4_odds_20 : decode cX4_odds 20 = .ok (.iload_n 3, 1) := by decide +kernel
theorem dX4_odds_21 : decode cX4_odds 21 = .ok (.iconst 0, 1) := by decide +kernel
theorem dX4_odds_22 : decode cX4_odds 22 = .ok (.sipush 999, 3) := by decide +kernel
theorem dX4_odds_25 : decode cX4_odds 25 = .ok (.invokestatic 89, 3) := by decide +kernel
theorem dX4_odds_28 : decode cX4_odds 28 = .ok (.ifCond .eq 13, 3) := by decide +kernel
theorem dX4_odds_31 : decode cX4_odds 31 = .ok (.iload 4, 2) := by decide +kernel
theorem dX4_odds_33 : decode cX4_odds 33 = .ok (.iconst 0, 1) := by decide +kernel
theorem dX4_odds_34 : decode cX4_odds 34 = .ok (.iconst 1, 1) := by decide +kernel
theorem dX4_odds_35 : decode cX4_odds 35 = .ok (.invokestatic 89, 3) := by decide +kernel
theorem dX4_odds_38 : decode cX4_odds 38 = .ok (.ifCond .ne 7, 3) := by decide +kernel
theorem dX4_odds_41 : decode cX4_odds 41 = .ok (.ldc2_w 205, 3) := by decide +kernel
theorem dX4_odds_44 : decode cX4_odds 44 = .ok (.lreturn, 1) := by decide +kernel
theorem dX4_odds_45 : decode cX4_odds 45 = .ok (.iconst 0, 1) := by decide +kernel
theorem dX4_odds_46 : decode cX4_odds 46 = .ok (.istore 5, 2) := by decide +kernel
theorem dX4_odds_48 : decode cX4_odds 48 = .ok (.iconst 0, 1) := by decide +kernel
theorem dX4_odds_49 : decode cX4_odds 49 = .ok (.istore 6, 2) := by decide +kernel
theorem dX4_odds_51 : decode cX4_odds 51 = .ok (.iload 6, 2) := by decide +kernel
theorem dX4_odds_53 : decode cX4_odds 53 = .ok (.iload_n 2, 1) := by decide +kernel
theorem dX4_odds_54 : decode cX4_odds 54 = .ok (.if_icmp .ge 34, 3) := by decide +kernel
theorem dX4_odds_57 : decode cX4_odds 57 = .ok (.aload_n 0, 1) := by decide +kernel
theorem dX4_odds_58 : decode cX4_odds 58 = .ok (.iload_n 1, 1) := by decide +kernel
theorem dX4_odds_59 : decode cX4_odds 59 = .ok (.iload 6, 2) := by decide +kernel
theorem dX4_odds_61 : decode cX4_odds 61 = .ok (.iadd, 1) := by decide +kernel
theorem dX4_odds_62 : decode cX4_odds 62 = .ok (.bipush 20, 2) := by decide +kernel
theorem dX4_odds_64 : decode cX4_odds 64 = .ok (.invokevirtual 232, 3) := by decide +kernel
theorem dX4_odds_67 : decode cX4_odds 67 = .ok (.pop, 1) := by decide +kernel
theorem dX4_odds_68 : decode cX4_odds 68 = .ok (.aload_n 0, 1) := by decide +kernel
theorem dX4_odds_69 : decode cX4_odds 69 = .ok (.getfield 62, 3) := by decide +kernel
theorem dX4_odds_72 : decode cX4_odds 72 = .ok (.invokevirtual 199, 3) := by decide +kernel
theorem dX4_odds_75 : decode cX4_odds 75 = .ok (.iload_n 3, 1) := by decide +kernel
theorem dX4_odds_76 : decode cX4_odds 76 = .ok (.if_icmp .lt 6, 3) := by decide +kernel
theorem dX4_odds_79 : decode cX4_odds 79 = .ok (.iinc 5 1, 3) := by decide +kernel
theorem dX4_odds_82 : decode cX4_odds 82 = .ok (.iinc 6 1, 3) := by decide +kernel
theorem dX4_odds_85 : decode cX4_odds 85 = .ok (.goto (-34), 3) := by decide +kernel
theorem dX4_odds_88 : decode cX4_odds 88 = .ok (.iload 5, 2) := by decide +kernel
theorem dX4_odds_90 : decode cX4_odds 90 = .ok (.iload_n 2, 1) := by decide +kernel
theorem dX4_odds_91 : decode cX4_odds 91 = .ok (.iload 4, 2) := by decide +kernel
theorem dX4_odds_93 : decode cX4_odds 93 = .ok (.invokestatic 210, 3) := by decide +kernel
theorem dX4_odds_96 : decode cX4_odds 96 = .ok (.lreturn, 1) := by decide +kernel
theorem dX4_drawEvening_0 : decode cX4_drawEvening 0 = .ok (.aload_n 0, 1) := by decide +kernel
theorem dX4_drawEvening_1 : decode cX4_drawEvening 1 = .ok (.getfield 62, 3) := by decide +kernel
theorem dX4_drawEvening_4 : decode cX4_drawEvening 4 = .ok (.aload_n 0, 1) := by decide +kernel
theorem dX4_drawEvening_5 : decode cX4_drawEvening 5 = .ok (.getfield 58, 3) := by decide +kernel
theorem dX4_drawEvening_8 : decode cX4_drawEvening 8 = .ok (.invokevirtual 168, 3) := by decide +kernel
theorem dX4_drawEvening_11 : decode cX4_drawEvening 11 = .ok (.iload_n 1, 1) := by decide +kernel
theorem dX4_drawEvening_12 : decode cX4_drawEvening 12 = .ok (.iconst 1, 1) := by decide +kernel
theorem dX4_drawEvening_13 : decode cX4_drawEvening 13 = .ok (.iadd, 1) := by decide +kernel
theorem dX4_drawEvening_14 : decode cX4_drawEvening 14 = .ok (.i2l, 1) := by decide +kernel
theorem dX4_drawEvening_15 : decode cX4_drawEvening 15 = .ok (.lstore_n 3, 1) := by decide +kernel
theorem dX4_drawEvening_16 : decode cX4_drawEvening 16 = .ok (.iconst 0, 1) := by decide +kernel
theorem dX4_drawEvening_17 : decode cX4_drawEvening 17 = .ok (.istore 5, 2) := by decide +kernel
theorem dX4_drawEvening_19 : decode cX4_drawEvening 19 = .ok (.iconst 0, 1) := by decide +kernel
theorem dX4_drawEvening_20 : decode cX4_drawEvening 20 = .ok (.istore 6, 2) := by decide +kernel
theorem dX4_drawEvening_22 : decode cX4_drawEvening 22 = .ok (.iload 6, 2) := by decide +kernel
theorem dX4_drawEvening_24 : decode cX4_drawEvening 24 = .ok (.iload_n 2, 1) := by decide +kernel
theorem dX4_drawEvening_25 : decode cX4_drawEvening 25 = .ok (.if_icmp .ge 74, 3) := by decide +kernel
theorem dX4_drawEvening_28 : decode cX4_drawEvening 28 = .ok (.lload_n 3, 1) := by decide +kernel
theorem dX4_drawEvening_29 : decode cX4_drawEvening 29 = .ok (.ldc2_w 235, 3) := by decide +kernel
theorem dX4_drawEvening_32 : decode cX4_drawEvening 32 = .ok (.lmul, 1) := by decide +kernel
theorem dX4_drawEvening_33 : decode cX4_drawEvening 33 = .ok (.ldc2_w 237, 3) := by decide +kernel
theorem dX4_drawEvening_36 : decode cX4_drawEvening 36 = .ok (.lrem, 1) := by decide +kernel
theorem dX4_drawEvening_37 : decode cX4_drawEvening 37 = .ok (.lstore_n 3, 1) := by decide +kernel
theorem dX4_drawEvening_38 : decode cX4_drawEvening 38 = .ok (.lload_n 3, 1) := by decide +kernel
theorem dX4_drawEvening_39 : decode cX4_drawEvening 39 = .ok (.ldc2_w 239, 3) := by decide +kernel
theorem dX4_drawEvening_42 : decode cX4_drawEvening 42 = .ok (.lrem, 1) := by decide +kernel
theorem dX4_drawEvening_43 : decode cX4_drawEvening 43 = .ok (.l2i, 1) := by decide +kernel
theorem dX4_drawEvening_44 : decode cX4_drawEvening 44 = .ok (.istore 7, 2) := by decide +kernel
theorem dX4_drawEvening_46 : decode cX4_drawEvening 46 = .ok (.lload_n 3, 1) := by decide +kernel
theorem dX4_drawEvening_47 : decode cX4_drawEvening 47 = .ok (.ldc2_w 235, 3) := by decide +kernel
theorem dX4_drawEvening_50 : decode cX4_drawEvening 50 = .ok (.lmul, 1) := by decide +kernel
theorem dX4_drawEvening_51 : decode cX4_drawEvening 51 = .ok (.ldc2_w 237, 3) := by decide +kernel
theorem dX4_drawEvening_54 : decode cX4_drawEvening 54 = .ok (.lrem, 1) := by decide +kernel
theorem dX4_drawEvening_55 : decode cX4_drawEvening 55 = .ok (.lstore_n 3, 1) := by decide +kernel
theorem dX4_drawEvening_56 : decode cX4_drawEvening 56 = .ok (.lload_n 3, 1) := by decide +kernel
theorem dX4_drawEvening_57 : decode cX4_drawEvening 57 = .ok (.ldc2_w 241, 3) := by decide +kernel
theorem dX4_drawEvening_60 : decode cX4_drawEvening 60 = .ok (.lrem, 1) := by decide +kernel
theorem dX4_drawEvening_61 : decode cX4_drawEvening 61 = .ok (.l2i, 1) := by decide +kernel
theorem dX4_drawEvening_62 : decode cX4_drawEvening 62 = .ok (.istore 8, 2) := by decide +kernel
theorem dX4_drawEvening_64 : decode cX4_drawEvening 64 = .ok (.aload_n 0, 1) := by decide +kernel
theorem dX4_drawEvening_65 : decode cX4_drawEvening 65 = .ok (.getfield 62, 3) := by decide +kernel
theorem dX4_drawEvening_68 : decode cX4_drawEvening 68 = .ok (.bipush 10, 2) := by decide +kernel
theorem dX4_drawEvening_70 : decode cX4_drawEvening 70 = .ok (.iload 7, 2) := by decide +kernel
theorem dX4_drawEvening_72 : decode cX4_drawEvening 72 = .ok (.imul, 1) := by decide +kernel
theorem dX4_drawEvening_73 : decode cX4_drawEvening 73 = .ok (.iload 8, 2) := by decide +kernel
theorem dX4_drawEvening_75 : decode cX4_drawEvening 75 = .ok (.iadd, 1) := by decide +kernel
theorem dX4_drawEvening_76 : decode cX4_drawEvening 76 = .ok (.invokevirtual 176, 3) := by decide +kernel
theorem dX4_drawEvening_79 : decode cX4_drawEvening 79 = .ok (.ifCond .eq 6, 3) := by decide +kernel
theorem dX4_drawEvening_82 : decode cX4_drawEvening 82 = .ok (.iinc 5 1, 3) := by decide +kernel
theorem dX4_drawEvening_85 : decode cX4_drawEvening 85 = .ok (.aload_n 0, 1) := by decide +kernel
theorem dX4_drawEvening_86 : decode cX4_drawEvening 86 = .ok (.getfield 62, 3) := by decide +kernel
theorem dX4_drawEvening_89 : decode cX4_drawEvening 89 = .ok (.invokevirtual 155, 3) := by decide +kernel
theorem dX4_drawEvening_92 : decode cX4_drawEvening 92 = .ok (.pop, 1) := by decide +kernel
theorem dX4_drawEvening_93 : decode cX4_drawEvening 93 = .ok (.iinc 6 1, 3) := by decide +kernel
theorem dX4_drawEvening_96 : decode cX4_drawEvening 96 = .ok (.goto (-74), 3) := by decide +kernel
theorem dX4_drawEvening_99 : decode cX4_drawEvening 99 = .ok (.iload 5, 2) := by decide +kernel
theorem dX4_drawEvening_101 : decode cX4_drawEvening 101 = .ok (.ireturn, 1) := by decide +kernel
theorem dX4_image_0 : decode cX4_image 0 = .ok (.aload_n 0, 1) := by decide +kernel
theorem dX4_image_1 : decode cX4_image 1 = .ok (.getfield 65, 3) := by decide +kernel
theorem dX4_image_4 : decode cX4_image 4 = .ok (.aload_n 0, 1) := by decide +kernel
theorem dX4_image_5 : decode cX4_image 5 = .ok (.getfield 58, 3) := by decide +kernel
theorem dX4_image_8 : decode cX4_image 8 = .ok (.invokevirtual 168, 3) := by decide +kernel
theorem dX4_image_11 : decode cX4_image 11 = .ok (.aload_n 0, 1) := by decide +kernel
theorem dX4_image_12 : decode cX4_image 12 = .ok (.iconst 1, 1) := by decide +kernel
theorem dX4_image_13 : decode cX4_image 13 = .ok (.putfield 243, 3) := by decide +kernel
theorem dX4_image_16 : decode cX4_image 16 = .ok (.aload_n 0, 1) := by decide +kernel
theorem dX4_image_17 : decode cX4_image 17 = .ok (.getfield 58, 3) := by decide +kernel
theorem dX4_image_20 : decode cX4_image 20 = .ok (.getfield 79, 3) := by decide +kernel
theorem dX4_image_23 : decode cX4_image 23 = .ok (.ireturn, 1) := by decide +kernel
theorem dX4_back_0 : decode cX4_back 0 = .ok (.aload_n 0, 1) := by decide +kernel
theorem dX4_back_1 : decode cX4_back 1 = .ok (.getfield 243, 3) := by decide +kernel
theorem dX4_back_4 : decode cX4_back 4 = .ok (.ifCond .ne 6, 3) := by decide +kernel
theorem dX4_back_7 : decode cX4_back 7 = .ok (.bipush (-3), 2) := by decide +kernel
theorem dX4_back_9 : decode cX4_back 9 = .ok (.ireturn, 1) := by decide +kernel
theorem dX4_back_10 : decode cX4_back 10 = .ok (.aload_n 0, 1) := by decide +kernel
theorem dX4_back_11 : decode cX4_back 11 = .ok (.getfield 58, 3) := by decide +kernel
theorem dX4_back_14 : decode cX4_back 14 = .ok (.aload_n 0, 1) := by decide +kernel
theorem dX4_back_15 : decode cX4_back 15 = .ok (.getfield 65, 3) := by decide +kernel
theorem dX4_back_18 : decode cX4_back 18 = .ok (.invokevirtual 168, 3) := by decide +kernel
theorem dX4_back_21 : decode cX4_back 21 = .ok (.aload_n 0, 1) := by decide +kernel
theorem dX4_back_22 : decode cX4_back 22 = .ok (.getfield 58, 3) := by decide +kernel
theorem dX4_back_25 : decode cX4_back 25 = .ok (.getfield 79, 3) := by decide +kernel
theorem dX4_back_28 : decode cX4_back 28 = .ok (.ireturn, 1) := by decide +kernel
theorem dX4_sheet_0 : decode cX4_sheet 0 = .ok (.iload_n 1, 1) := by decide +kernel
theorem dX4_sheet_1 : decode cX4_sheet 1 = .ok (.invokestatic 223, 3) := by decide +kernel
theorem dX4_sheet_4 : decode cX4_sheet 4 = .ok (.ifCond .eq 12, 3) := by decide +kernel
theorem dX4_sheet_7 : decode cX4_sheet 7 = .ok (.iload_n 2, 1) := by decide +kernel
theorem dX4_sheet_8 : decode cX4_sheet 8 = .ok (.iconst (-1), 1) := by decide +kernel
theorem dX4_sheet_9 : decode cX4_sheet 9 = .ok (.iconst 2, 1) := by decide +kernel
theorem dX4_sheet_10 : decode cX4_sheet 10 = .ok (.invokestatic 89, 3) := by decide +kernel
theorem dX4_sheet_13 : decode cX4_sheet 13 = .ok (.ifCond .ne 6, 3) := by decide +kernel
theorem dX4_sheet_16 : decode cX4_sheet 16 = .ok (.bipush (-2), 2) := by decide +kernel
theorem dX4_sheet_18 : decode cX4_sheet 18 = .ok (.ireturn, 1) := by decide +kernel
theorem dX4_sheet_19 : decode cX4_sheet 19 = .ok (.iload_n 2, 1) := by decide +kernel
theorem dX4_sheet_20 : decode cX4_sheet 20 = .ok (.iconst (-1), 1) := by decide +kernel
theorem dX4_sheet_21 : decode cX4_sheet 21 = .ok (.if_icmp .ne 16, 3) := by decide +kernel
theorem dX4_sheet_24 : decode cX4_sheet 24 = .ok (.aload_n 0, 1) := by decide +kernel
theorem dX4_sheet_25 : decode cX4_sheet 25 = .ok (.getfield 71, 3) := by decide +kernel
theorem dX4_sheet_28 : decode cX4_sheet 28 = .ok (.iload_n 1, 1) := by decide +kernel
theorem dX4_sheet_29 : decode cX4_sheet 29 = .ok (.aaload, 1) := by decide +kernel
theorem dX4_sheet_30 : decode cX4_sheet 30 = .ok (.iconst (-1), 1) := by decide +kernel
theorem dX4_sheet_31 : decode cX4_sheet 31 = .ok (.iconst 0, 1) := by decide +kernel
theorem dX4_sheet_32 : decode cX4_sheet 32 = .ok (.invokevirtual 226, 3) := by decide +kernel
theorem dX4_sheet_35 : decode cX4_sheet 35 = .ok (.iconst 1, 1) := by decide +kernel
theorem dX4_sheet_36 : decode cX4_sheet 36 = .ok (.ireturn, 1) := by decide +kernel
theorem dX4_sheet_37 : decode cX4_sheet 37 = .ok (.iload_n 3, 1) := by decide +kernel
theorem dX4_sheet_38 : decode cX4_sheet 38 = .ok (.bipush 40, 2) := by decide +kernel
theorem dX4_sheet_40 : decode cX4_sheet 40 = .ok (.if_icmp .le 6, 3) := by decide +kernel
theorem dX4_sheet_43 : decode cX4_sheet 43 = .ok (.bipush (-2), 2) := by decide +kernel
theorem dX4_sheet_45 : decode cX4_sheet 45 = .ok (.ireturn, 1) := by decide +kernel
theorem dX4_sheet_46 : decode cX4_sheet 46 = .ok (.iload_n 3, 1) := by decide +kernel
theorem dX4_sheet_47 : decode cX4_sheet 47 = .ok (.ifCond .ge 6, 3) := by decide +kernel
theorem dX4_sheet_50 : decode cX4_sheet 50 = .ok (.bipush (-14), 2) := by decide +kernel
theorem dX4_sheet_52 : decode cX4_sheet 52 = .ok (.ireturn, 1) := by decide +kernel
theorem dX4_sheet_53 : decode cX4_sheet 53 = .ok (.aload_n 0, 1) := by decide +kernel
theorem dX4_sheet_54 : decode cX4_sheet 54 = .ok (.getfield 71, 3) := by decide +kernel
theorem dX4_sheet_57 : decode cX4_sheet 57 = .ok (.iload_n 1, 1) := by decide +kernel
theorem dX4_sheet_58 : decode cX4_sheet 58 = .ok (.aaload, 1) := by decide +kernel
theorem dX4_sheet_59 : decode cX4_sheet 59 = .ok (.iload_n 2, 1) := by decide +kernel
theorem dX4_sheet_60 : decode cX4_sheet 60 = .ok (.iload_n 3, 1) := by decide +kernel
theorem dX4_sheet_61 : decode cX4_sheet 61 = .ok (.invokevirtual 226, 3) := by decide +kernel
theorem dX4_sheet_64 : decode cX4_sheet 64 = .ok (.iconst 1, 1) := by decide +kernel
theorem dX4_sheet_65 : decode cX4_sheet 65 = .ok (.ireturn, 1) := by decide +kernel
theorem dX4_cell_0 : decode cX4_cell 0 = .ok (.iload_n 1, 1) := by decide +kernel
theorem dX4_cell_1 : decode cX4_cell 1 = .ok (.invokestatic 223, 3) := by decide +kernel
theorem dX4_cell_4 : decode cX4_cell 4 = .ok (.ifCond .ne 6, 3) := by decide +kernel
theorem dX4_cell_7 : decode cX4_cell 7 = .ok (.bipush (-2), 2) := by decide +kernel
theorem dX4_cell_9 : decode cX4_cell 9 = .ok (.ireturn, 1) := by decide +kernel
theorem dX4_cell_10 : decode cX4_cell 10 = .ok (.aload_n 0, 1) := by decide +kernel
theorem dX4_cell_11 : decode cX4_cell 11 = .ok (.getfield 71, 3) := by decide +kernel
theorem dX4_cell_14 : decode cX4_cell 14 = .ok (.iload_n 1, 1) := by decide +kernel
theorem dX4_cell_15 : decode cX4_cell 15 = .ok (.aaload, 1) := by decide +kernel
theorem dX4_cell_16 : decode cX4_cell 16 = .ok (.invokevirtual 247, 3) := by decide +kernel
theorem dX4_cell_19 : decode cX4_cell 19 = .ok (.ifCond .eq 6, 3) := by decide +kernel
theorem dX4_cell_22 : decode cX4_cell 22 = .ok (.bipush (-11), 2) := by decide +kernel
theorem dX4_cell_24 : decode cX4_cell 24 = .ok (.ireturn, 1) := by decide +kernel
theorem dX4_cell_25 : decode cX4_cell 25 = .ok (.aload_n 0, 1) := by decide +kernel
theorem dX4_cell_26 : decode cX4_cell 26 = .ok (.getfield 71, 3) := by decide +kernel
theorem dX4_cell_29 : decode cX4_cell 29 = .ok (.iload_n 1, 1) := by decide +kernel
theorem dX4_cell_30 : decode cX4_cell 30 = .ok (.aaload, 1) := by decide +kernel
theorem dX4_cell_31 : decode cX4_cell 31 = .ok (.iload_n 2, 1) := by decide +kernel
theorem dX4_cell_32 : decode cX4_cell 32 = .ok (.invokevirtual 250, 3) := by decide +kernel
theorem dX4_cell_35 : decode cX4_cell 35 = .ok (.ifCond .ne 6, 3) := by decide +kernel
theorem dX4_cell_38 : decode cX4_cell 38 = .ok (.bipush (-12), 2) := by decide +kernel
theorem dX4_cell_40 : decode cX4_cell 40 = .ok (.ireturn, 1) := by decide +kernel
theorem dX4_cell_41 : decode cX4_cell 41 = .ok (.aload_n 0, 1) := by decide +kernel
theorem dX4_cell_42 : decode cX4_cell 42 = .ok (.getfield 71, 3) := by decide +kernel
theorem dX4_cell_45 : decode cX4_cell 45 = .ok (.iload_n 1, 1) := by decide +kernel
theorem dX4_cell_46 : decode cX4_cell 46 = .ok (.aaload, 1) := by decide +kernel
theorem dX4_cell_47 : decode cX4_cell 47 = .ok (.iload_n 2, 1) := by decide +kernel
theorem dX4_cell_48 : decode cX4_cell 48 = .ok (.iload_n 3, 1) := by decide +kernel
theorem dX4_cell_49 : decode cX4_cell 49 = .ok (.invokevirtual 228, 3) := by decide +kernel
theorem dX4_cell_52 : decode cX4_cell 52 = .ok (.iconst 1, 1) := by decide +kernel
theorem dX4_cell_53 : decode cX4_cell 53 = .ok (.ireturn, 1) := by decide +kernel
theorem dX4_copy_0 : decode cX4_copy 0 = .ok (.iload_n 1, 1) := by decide +kernel
theorem dX4_copy_1 : decode cX4_copy 1 = .ok (.invokestatic 223, 3) := by decide +kernel
theorem dX4_copy_4 : decode cX4_copy 4 = .ok (.ifCond .eq 10, 3) := by decide +kernel
theorem dX4_copy_7 : decode cX4_copy 7 = .ok (.iload_n 3, 1) := by decide +kernel
theorem dX4_copy_8 : decode cX4_copy 8 = .ok (.invokestatic 223, 3) := by decide +kernel
theorem dX4_copy_11 : decode cX4_copy 11 = .ok (.ifCond .ne 6, 3) := by decide +kernel
theorem dX4_copy_14 : decode cX4_copy 14 = .ok (.bipush (-2), 2) := by decide +kernel
theorem dX4_copy_16 : decode cX4_copy 16 = .ok (.ireturn, 1) := by decide +kernel
theorem dX4_copy_17 : decode cX4_copy 17 = .ok (.aload_n 0, 1) := by decide +kernel
theorem dX4_copy_18 : decode cX4_copy 18 = .ok (.getfield 71, 3) := by decide +kernel
theorem dX4_copy_21 : decode cX4_copy 21 = .ok (.iload_n 1, 1) := by decide +kernel
theorem dX4_copy_22 : decode cX4_copy 22 = .ok (.aaload, 1) := by decide +kernel
theorem dX4_copy_23 : decode cX4_copy 23 = .ok (.astore 6, 2) := by decide +kernel
theorem dX4_copy_25 : decode cX4_copy 25 = .ok (.aload_n 0, 1) := by decide +kernel
theorem dX4_copy_26 : decode cX4_copy 26 = .ok (.getfield 71, 3) := by decide +kernel
theorem dX4_copy_29 : decode cX4_copy 29 = .ok (.iload_n 3, 1) := by decide +kernel
theorem dX4_copy_30 : decode cX4_copy 30 = .ok (.aaload, 1) := by decide +kernel
theorem dX4_copy_31 : decode cX4_copy 31 = .ok (.astore 7, 2) := by decide +kernel
theorem dX4_copy_33 : decode cX4_copy 33 = .ok (.aload 6, 2) := by decide +kernel
theorem dX4_copy_35 : decode cX4_copy 35 = .ok (.invokevirtual 247, 3) := by decide +kernel
theorem dX4_copy_38 : decode cX4_copy 38 = .ok (.ifCond .ne 11, 3) := by decide +kernel
theorem dX4_copy_41 : decode cX4_copy 41 = .ok (.aload 7, 2) := by decide +kernel
theorem dX4_copy_43 : decode cX4_copy 43 = .ok (.invokevirtual 247, 3) := by decide +kernel
theorem dX4_copy_46 : decode cX4_copy 46 = .ok (.ifCond .eq 6, 3) := by decide +kernel
theorem dX4_copy_49 : decode cX4_copy 49 = .ok (.bipush (-11), 2) := by decide +kernel
theorem dX4_copy_51 : decode cX4_copy 51 = .ok (.ireturn, 1) := by decide +kernel
theorem dX4_copy_52 : decode cX4_copy 52 = .ok (.aload 6, 2) := by decide +kernel
theorem dX4_copy_54 : decode cX4_copy 54 = .ok (.getfield 251, 3) := by decide +kernel
theorem dX4_copy_57 : decode cX4_copy 57 = .ok (.aload 7, 2) := by decide +kernel
theorem dX4_copy_59 : decode cX4_copy 59 = .ok (.getfield 251, 3) := by decide +kernel
theorem dX4_copy_62 : decode cX4_copy 62 = .ok (.if_icmp .eq 6, 3) := by decide +kernel
theorem dX4_copy_65 : decode cX4_copy 65 = .ok (.bipush (-13), 2) := by decide +kernel
theorem dX4_copy_67 : decode cX4_copy 67 = .ok (.ireturn, 1) := by decide +kernel
theorem dX4_copy_68 : decode cX4_copy 68 = .ok (.aload 6, 2) := by decide +kernel
theorem dX4_copy_70 : decode cX4_copy 70 = .ok (.iload_n 2, 1) := by decide +kernel
theorem dX4_copy_71 : decode cX4_copy 71 = .ok (.iload 5, 2) := by decide +kernel
theorem dX4_copy_73 : decode cX4_copy 73 = .ok (.invokevirtual 254, 3) := by decide +kernel
theorem dX4_copy_76 : decode cX4_copy 76 = .ok (.ifCond .eq 15, 3) := by decide +kernel
theorem dX4_copy_79 : decode cX4_copy 79 = .ok (.aload 7, 2) := by decide +kernel
theorem dX4_copy_81 : decode cX4_copy 81 = .ok (.iload 4, 2) := by decide +kernel
theorem dX4_copy_83 : decode cX4_copy 83 = .ok (.iload 5, 2) := by decide +kernel
theorem dX4_copy_85 : decode cX4_copy 85 = .ok (.invokevirtual 254, 3) := by decide +kernel
theorem dX4_copy_88 : decode cX4_copy 88 = .ok (.ifCond .ne 6, 3) := by decide +kernel
theorem dX4_copy_91 : decode cX4_copy 91 = .ok (.bipush (-12), 2) := by decide +kernel
theorem dX4_copy_93 : decode cX4_copy 93 = .ok (.ireturn, 1) := by decide +kernel
theorem dX4_copy_94 : decode cX4_copy 94 = .ok (.aload 6, 2) := by decide +kernel
theorem dX4_copy_96 : decode cX4_copy 96 = .ok (.getfield 173, 3) := by decide +kernel
theorem dX4_copy_99 : decode cX4_copy 99 = .ok (.iload_n 2, 1) := by decide +kernel
theorem dX4_copy_100 : decode cX4_copy 100 = .ok (.aload 7, 2) := by decide +kernel
theorem dX4_copy_102 : decode cX4_copy 102 = .ok (.getfield 173, 3) := by decide +kernel
theorem dX4_copy_105 : decode cX4_copy 105 = .ok (.iload 4, 2) := by decide +kernel
theorem dX4_copy_107 : decode cX4_copy 107 = .ok (.iload 5, 2) := by decide +kernel
theorem dX4_copy_109 : decode cX4_copy 109 = .ok (.invokestatic 257, 3) := by decide +kernel
theorem dX4_copy_112 : decode cX4_copy 112 = .ok (.iload 5, 2) := by decide +kernel
theorem dX4_copy_114 : decode cX4_copy 114 = .ok (.ireturn, 1) := by decide +kernel
theorem dX4_setBy_0 : decode cX4_setBy 0 = .ok (.iload_n 1, 1) := by decide +kernel
theorem dX4_setBy_1 : decode cX4_setBy 1 = .ok (.invokestatic 223, 3) := by decide +kernel
theorem dX4_setBy_4 : decode cX4_setBy 4 = .ok (.ifCond .eq 23, 3) := by decide +kernel
theorem dX4_setBy_7 : decode cX4_setBy 7 = .ok (.iload_n 2, 1) := by decide +kernel
theorem dX4_setBy_8 : decode cX4_setBy 8 = .ok (.iconst 0, 1) := by decide +kernel
theorem dX4_setBy_9 : decode cX4_setBy 9 = .ok (.iconst 2, 1) := by decide +kernel
theorem dX4_setBy_10 : decode cX4_setBy 10 = .ok (.invokestatic 89, 3) := by decide +kernel
theorem dX4_setBy_13 : decode cX4_setBy 13 = .ok (.ifCond .eq 14, 3) := by decide +kernel
theorem dX4_setBy_16 : decode cX4_setBy 16 = .ok (.iload 4, 2) := by decide +kernel
theorem dX4_setBy_18 : decode cX4_setBy 18 = .ok (.iconst 0, 1) := by decide +kernel
theorem dX4_setBy_19 : decode cX4_setBy 19 = .ok (.bipush 6, 2) := by decide +kernel
theorem dX4_setBy_21 : decode cX4_setBy 21 = .ok (.invokestatic 89, 3) := by decide +kernel
theorem dX4_setBy_24 : decode cX4_setBy 24 = .ok (.ifCond .ne 6, 3) := by decide +kernel
theorem dX4_setBy_27 : decode cX4_setBy 27 = .ok (.bipush (-2), 2) := by decide +kernel
theorem dX4_setBy_29 : decode cX4_setBy 29 = .ok (.ireturn, 1) := by decide +kernel
theorem dX4_setBy_30 : decode cX4_setBy 30 = .ok (.aload_n 0, 1) := by decide +kernel
theorem dX4_setBy_31 : decode cX4_setBy 31 = .ok (.getfield 71, 3) := by decide +kernel
theorem dX4_setBy_34 : decode cX4_setBy 34 = .ok (.iload_n 1, 1) := by decide +kernel
theorem dX4_setBy_35 : decode cX4_setBy 35 = .ok (.aaload, 1) := by decide +kernel
theorem dX4_setBy_36 : decode cX4_setBy 36 = .ok (.astore 5, 2) := by decide +kernel
theorem dX4_setBy_38 : decode cX4_setBy 38 = .ok (.aload 5, 2) := by decide +kernel
theorem dX4_setBy_40 : decode cX4_setBy 40 = .ok (.invokevirtual 247, 3) := by decide +kernel
theorem dX4_setBy_43 : decode cX4_setBy 43 = .ok (.ifCond .eq 6, 3) := by decide +kernel
theorem dX4_setBy_46 : decode cX4_setBy 46 = .ok (.bipush (-11), 2) := by decide +kernel
theorem dX4_setBy_48 : decode cX4_setBy 48 = .ok (.ireturn, 1) := by decide +kernel
theorem dX4_setBy_49 : decode cX4_setBy 49 = .ok (.aload 5, 2) := by decide +kernel
theorem dX4_setBy_51 : decode cX4_setBy 51 = .ok (.getfield 251, 3) := by decide +kernel
theorem dX4_setBy_54 : decode cX4_setBy 54 = .ok (.iload_n 2, 1) := by decide +kernel
theorem dX4_setBy_55 : decode cX4_setBy 55 = .ok (.if_icmp .eq 6, 3) := by decide +kernel
theorem dX4_setBy_58 : decode cX4_setBy 58 = .ok (.bipush (-13), 2) := by decide +kernel
theorem dX4_setBy_60 : decode cX4_setBy 60 = .ok (.ireturn, 1) := by decide +kernel
theorem dX4_setBy_61 : decode cX4_setBy 61 = .ok (.iconst 0, 1) := by decide +kernel
theorem dX4_setBy_62 : decode cX4_setBy 62 = .ok (.istore 6, 2) := by decide +kernel
theorem dX4_setBy_64 : decode cX4_setBy 64 = .ok (.iconst 0, 1) := by decide +kernel
theorem dX4_setBy_65 : decode cX4_setBy 65 = .ok (.istore 7, 2) := by decide +kernel
theorem dX4_setBy_67 : decode cX4_setBy 67 = .ok (.iload 7, 2) := by decide +kernel
theorem dX4_setBy_69 : decode cX4_setBy 69 = .ok (.iload 4, 2) := by decide +kernel
theorem dX4_setBy_71 : decode cX4_setBy 71 = .ok (.if_icmp .ge 70, 3) := by decide +kernel
theorem dX4_setBy_74 : decode cX4_setBy 74 = .ok (.iload_n 3, 1) := by decide +kernel
theorem dX4_setBy_75 : decode cX4_setBy 75 = .ok (.iconst 2, 1) := by decide +kernel
theorem dX4_setBy_76 : decode cX4_setBy 76 = .ok (.iload 7, 2) := by decide +kernel
theorem dX4_setBy_78 : decode cX4_setBy 78 = .ok (.imul, 1) := by decide +kernel
theorem dX4_setBy_79 : decode cX4_setBy 79 = .ok (.iadd, 1) := by decide +kernel
theorem dX4_setBy_80 : decode cX4_setBy 80 = .ok (.istore 8, 2) := by decide +kernel
theorem dX4_setBy_82 : decode cX4_setBy 82 = .ok (.aload 5, 2) := by decide +kernel
theorem dX4_setBy_84 : decode cX4_setBy 84 = .ok (.iload 8, 2) := by decide +kernel
theorem dX4_setBy_86 : decode cX4_setBy 86 = .ok (.invokevirtual 250, 3) := by decide +kernel
theorem dX4_setBy_89 : decode cX4_setBy 89 = .ok (.ifCond .eq 15, 3) := by decide +kernel
theorem dX4_setBy_92 : decode cX4_setBy 92 = .ok (.aload 5, 2) := by decide +kernel
theorem dX4_setBy_94 : decode cX4_setBy 94 = .ok (.iload 8, 2) := by decide +kernel
theorem dX4_setBy_96 : decode cX4_setBy 96 = .ok (.iconst 1, 1) := by decide +kernel
theorem dX4_setBy_97 : decode cX4_setBy 97 = .ok (.iadd, 1) := by decide +kernel
theorem dX4_setBy_98 : decode cX4_setBy 98 = .ok (.invokevirtual 250, 3) := by decide +kernel
theorem dX4_setBy_101 : decode cX4_setBy 101 = .ok (.ifCond .ne 6, 3) := by decide +kernel
theorem dX4_setBy_104 : decode cX4_setBy 104 = .ok (.bipush (-12), 2) := by decide +kernel
theorem dX4_setBy_106 : decode cX4_setBy 106 = .ok (.ireturn, 1) := by decide +kernel
theorem dX4_setBy_107 : decode cX4_setBy 107 = .ok (.aload_n 0, 1) := by decide +kernel
theorem dX4_setBy_108 : decode cX4_setBy 108 = .ok (.aload 5, 2) := by decide +kernel
theorem dX4_setBy_110 : decode cX4_setBy 110 = .ok (.getfield 173, 3) := by decide +kernel
theorem dX4_setBy_113 : decode cX4_setBy 113 = .ok (.iload 8, 2) := by decide +kernel
theorem dX4_setBy_115 : decode cX4_setBy 115 = .ok (.iaload, 1) := by decide +kernel
theorem dX4_setBy_116 : decode cX4_setBy 116 = .ok (.aload 5, 2) := by decide +kernel
theorem dX4_setBy_118 : decode cX4_setBy 118 = .ok (.getfield 173, 3) := by decide +kernel
theorem dX4_setBy_121 : decode cX4_setBy 121 = .ok (.iload 8, 2) := by decide +kernel
theorem dX4_setBy_123 : decode cX4_setBy 123 = .ok (.iconst 1, 1) := by decide +kernel
theorem dX4_setBy_124 : decode cX4_setBy 124 = .ok (.iadd, 1) := by decide +kernel
theorem dX4_setBy_125 : decode cX4_setBy 125 = .ok (.iaload, 1) := by decide +kernel
theorem dX4_setBy_126 : decode cX4_setBy 126 = .ok (.invokevirtual 263, 3) := by decide +kernel
theorem dX4_setBy_129 : decode cX4_setBy 129 = .ok (.ifCond .lt 6, 3) := by decide +kernel
theorem dX4_setBy_132 : decode cX4_setBy 132 = .ok (.iinc 6 1, 3) := by decide +kernel
theorem dX4_setBy_135 : decode cX4_setBy 135 = .ok (.iinc 7 1, 3) := by decide +kernel
theorem dX4_setBy_138 : decode cX4_setBy 138 = .ok (.goto (-71), 3) := by decide +kernel
theorem dX4_setBy_141 : decode cX4_setBy 141 = .ok (.iload 6, 2) := by decide +kernel
theorem dX4_setBy_143 : decode cX4_setBy 143 = .ok (.ireturn, 1) := by decide +kernel
theorem dX4_taken_0 : decode cX4_taken 0 = .ok (.iload_n 2, 1) := by decide +kernel
theorem dX4_taken_1 : decode cX4_taken 1 = .ok (.iconst 0, 1) := by decide +kernel
theorem dX4_taken_2 : decode cX4_taken 2 = .ok (.bipush 6, 2) := by decide +kernel
theorem dX4_taken_4 : decode cX4_taken 4 = .ok (.invokestatic 89, 3) := by decide +kernel
theorem dX4_taken_7 : decode cX4_taken 7 = .ok (.ifCond .ne 6, 3) := by decide +kernel
theorem dX4_taken_10 : decode cX4_taken 10 = .ok (.bipush (-2), 2) := by decide +kernel
theorem dX4_taken_12 : decode cX4_taken 12 = .ok (.ireturn, 1) := by decide +kernel
theorem dX4_taken_13 : decode cX4_taken 13 = .ok (.iload_n 1, 1) := by decide +kernel
theorem dX4_taken_14 : decode cX4_taken 14 = .ok (.iconst 0, 1) := by decide +kernel
theorem dX4_taken_15 : decode cX4_taken 15 = .ok (.bipush 11, 2) := by decide +kernel
theorem dX4_taken_17 : decode cX4_taken 17 = .ok (.invokestatic 89, 3) := by decide +kernel
theorem dX4_taken_20 : decode cX4_taken 20 = .ok (.ifCond .ne 6, 3) := by decide +kernel
theorem dX4_taken_23 : decode cX4_taken 23 = .ok (.bipush (-12), 2) := by decide +kernel
theorem dX4_taken_25 : decode cX4_taken 25 = .ok (.ireturn, 1) := by decide +kernel
theorem dX4_taken_26 : decode cX4_taken 26 = .ok (.iload_n 1, 1) := by decide +kernel
theorem dX4_taken_27 : decode cX4_taken 27 = .ok (.bipush 6, 2) := by decide +kernel
theorem dX4_taken_29 : decode cX4_taken 29 = .ok (.irem, 1) := by decide +kernel
theorem dX4_taken_30 : decode cX4_taken 30 = .ok (.istore_n 3, 1) := by decide +kernel
theorem dX4_taken_31 : decode cX4_taken 31 = .ok (.aload_n 0, 1) := by decide +kernel
theorem dX4_taken_32 : decode cX4_taken 32 = .ok (.getfield 58, 3) := by decide +kernel
theorem dX4_taken_35 : decode cX4_taken 35 = .ok (.iload_n 3, 1) := by decide +kernel
theorem dX4_taken_36 : decode cX4_taken 36 = .ok (.invokevirtual 100, 3) := by decide +kernel
theorem dX4_taken_39 : decode cX4_taken 39 = .ok (.ifCond .ne 6, 3) := by decide +kernel
theorem dX4_taken_42 : decode cX4_taken 42 = .ok (.bipush (-11), 2) := by decide +kernel
theorem dX4_taken_44 : decode cX4_taken 44 = .ok (.ireturn, 1) := by decide +kernel
theorem dX4_taken_45 : decode cX4_taken 45 = .ok (.iload_n 1, 1) := by decide +kernel
theorem dX4_taken_46 : decode cX4_taken 46 = .ok (.bipush 6, 2) := by decide +kernel
theorem dX4_taken_48 : decode cX4_taken 48 = .ok (.if_icmp .lt 24, 3) := by decide +kernel
theorem dX4_taken_51 : decode cX4_taken 51 = .ok (.iload_n 2, 1) := by decide +kernel
theorem dX4_taken_52 : decode cX4_taken 52 = .ok (.bipush 6, 2) := by decide +kernel
theorem dX4_taken_54 : decode cX4_taken 54 = .ok (.if_icmp .ne 15, 3) := by decide +kernel
theorem dX4_taken_57 : decode cX4_taken 57 = .ok (.aload_n 0, 1) := by decide +kernel
theorem dX4_taken_58 : decode cX4_taken 58 = .ok (.getfield 58, 3) := by decide +kernel
theorem dX4_taken_61 : decode cX4_taken 61 = .ok (.getfield 119, 3) := by decide +kernel
theorem dX4_taken_64 : decode cX4_taken 64 = .ok (.iload_n 3, 1) := by decide +kernel
theorem dX4_taken_65 : decode cX4_taken 65 = .ok (.iaload, 1) := by decide +kernel
theorem dX4_taken_66 : decode cX4_taken 66 = .ok (.goto 5, 3) := by decide +kernel
theorem dX4_taken_69 : decode cX4_taken 69 = .ok (.bipush (-13), 2) := by decide +kernel
theorem dX4_taken_71 : decode cX4_taken 71 = .ok (.ireturn, 1) := by decide +kernel
theorem dX4_taken_72 : decode cX4_taken 72 = .ok (.aload_n 0, 1) := by decide +kernel
theorem dX4_taken_73 : decode cX4_taken 73 = .ok (.getfield 58, 3) := by decide +kernel
theorem dX4_taken_76 : decode cX4_taken 76 = .ok (.getfield 122, 3) := by decide +kernel
theorem dX4_taken_79 : decode cX4_taken 79 = .ok (.iload_n 3, 1) := by decide +kernel
theorem dX4_taken_80 : decode cX4_taken 80 = .ok (.iaload, 1) := by decide +kernel
theorem dX4_taken_81 : decode cX4_taken 81 = .ok (.iload_n 2, 1) := by decide +kernel
theorem dX4_taken_82 : decode cX4_taken 82 = .ok (.invokestatic 266, 3) := by decide +kernel
theorem dX4_taken_85 : decode cX4_taken 85 = .ok (.ifCond .eq 7, 3) := by decide +kernel
theorem dX4_taken_88 : decode cX4_taken 88 = .ok (.iload_n 3, 1) := by decide +kernel
theorem dX4_taken_89 : decode cX4_taken 89 = .ok (.goto 5, 3) := by decide +kernel
theorem dX4_taken_92 : decode cX4_taken 92 = .ok (.bipush (-13), 2) := by decide +kernel
theorem dX4_taken_94 : decode cX4_taken 94 = .ok (.ireturn, 1) := by decide +kernel
theorem dX4_within_0 : decode cX4_within 0 = .ok (.iload_n 0, 1) := by decide +kernel
theorem dX4_within_1 : decode cX4_within 1 = .ok (.iload_n 1, 1) := by decide +kernel
theorem dX4_within_2 : decode cX4_within 2 = .ok (.if_icmp .lt 12, 3) := by decide +kernel
theorem dX4_within_5 : decode cX4_within 5 = .ok (.iload_n 0, 1) := by decide +kernel
theorem dX4_within_6 : decode cX4_within 6 = .ok (.iload_n 2, 1) := by decide +kernel
theorem dX4_within_7 : decode cX4_within 7 = .ok (.if_icmp .gt 7, 3) := by decide +kernel
theorem dX4_within_10 : decode cX4_within 10 = .ok (.iconst 1, 1) := by decide +kernel
theorem dX4_within_11 : decode cX4_within 11 = .ok (.goto 4, 3) := by decide +kernel
theorem dX4_within_14 : decode cX4_within 14 = .ok (.iconst 0, 1) := by decide +kernel
theorem dX4_within_15 : decode cX4_within 15 = .ok (.ireturn, 1) := by decide +kernel
theorem dX4_bounded_0 : decode cX4_bounded 0 = .ok (.iload_n 1, 1) := by decide +kernel
theorem dX4_bounded_1 : decode cX4_bounded 1 = .ok (.iload_n 0, 1) := by decide +kernel
theorem dX4_bounded_2 : decode cX4_bounded 2 = .ok (.iload_n 2, 1) := by decide +kernel
theorem dX4_bounded_3 : decode cX4_bounded 3 = .ok (.invokestatic 269, 3) := by decide +kernel
theorem dX4_bounded_6 : decode cX4_bounded 6 = .ok (.invokestatic 179, 3) := by decide +kernel
theorem dX4_bounded_9 : decode cX4_bounded 9 = .ok (.ireturn, 1) := by decide +kernel
theorem dX4_isByte_0 : decode cX4_isByte 0 = .ok (.iload_n 0, 1) := by decide +kernel
theorem dX4_isByte_1 : decode cX4_isByte 1 = .ok (.iconst 0, 1) := by decide +kernel
theorem dX4_isByte_2 : decode cX4_isByte 2 = .ok (.sipush 255, 3) := by decide +kernel
theorem dX4_isByte_5 : decode cX4_isByte 5 = .ok (.invokestatic 89, 3) := by decide +kernel
theorem dX4_isByte_8 : decode cX4_isByte 8 = .ok (.ireturn, 1) := by decide +kernel
theorem dX4_isSort_0 : decode cX4_isSort 0 = .ok (.iload_n 0, 1) := by decide +kernel
theorem dX4_isSort_1 : decode cX4_isSort 1 = .ok (.iconst 0, 1) := by decide +kernel
theorem dX4_isSort_2 : decode cX4_isSort 2 = .ok (.bipush 7, 2) := by decide +kernel
theorem dX4_isSort_4 : decode cX4_isSort 4 = .ok (.invokestatic 89, 3) := by decide +kernel
theorem dX4_isSort_7 : decode cX4_isSort 7 = .ok (.ireturn, 1) := by decide +kernel
theorem dX4_isSheet_0 : decode cX4_isSheet 0 = .ok (.iload_n 0, 1) := by decide +kernel
theorem dX4_isSheet_1 : decode cX4_isSheet 1 = .ok (.iconst 0, 1) := by decide +kernel
theorem dX4_isSheet_2 : decode cX4_isSheet 2 = .ok (.iconst 3, 1) := by decide +kernel
theorem dX4_isSheet_3 : decode cX4_isSheet 3 = .ok (.invokestatic 89, 3) := by decide +kernel
theorem dX4_isSheet_6 : decode cX4_isSheet 6 = .ok (.ireturn, 1) := by decide +kernel
theorem dX4_isA_0 : decode cX4_isA 0 = .ok (.iload_n 0, 1) := by decide +kernel
theorem dX4_isA_1 : decode cX4_isA 1 = .ok (.iload_n 1, 1) := by decide +kernel
theorem dX4_isA_2 : decode cX4_isA 2 = .ok (.if_icmp .eq 27, 3) := by decide +kernel
theorem dX4_isA_5 : decode cX4_isA 5 = .ok (.iload_n 1, 1) := by decide +kernel
theorem dX4_isA_6 : decode cX4_isA 6 = .ok (.ifCond .eq 23, 3) := by decide +kernel
theorem dX4_isA_9 : decode cX4_isA 9 = .ok (.iload_n 0, 1) := by decide +kernel
theorem dX4_isA_10 : decode cX4_isA 10 = .ok (.iconst 3, 1) := by decide +kernel
theorem dX4_isA_11 : decode cX4_isA 11 = .ok (.if_icmp .ne 8, 3) := by decide +kernel
theorem dX4_isA_14 : decode cX4_isA 14 = .ok (.iload_n 1, 1) := by decide +kernel
theorem dX4_isA_15 : decode cX4_isA 15 = .ok (.iconst 1, 1) := by decide +kernel
theorem dX4_isA_16 : decode cX4_isA 16 = .ok (.if_icmp .eq 13, 3) := by decide +kernel
theorem dX4_isA_19 : decode cX4_isA 19 = .ok (.iload_n 0, 1) := by decide +kernel
theorem dX4_isA_20 : decode cX4_isA 20 = .ok (.iconst 4, 1) := by decide +kernel
theorem dX4_isA_21 : decode cX4_isA 21 = .ok (.if_icmp .ne 12, 3) := by decide +kernel
theorem dX4_isA_24 : decode cX4_isA 24 = .ok (.iload_n 1, 1) := by decide +kernel
theorem dX4_isA_25 : decode cX4_isA 25 = .ok (.iconst 2, 1) := by decide +kernel
theorem dX4_isA_26 : decode cX4_isA 26 = .ok (.if_icmp .ne 7, 3) := by decide +kernel
theorem dX4_isA_29 : decode cX4_isA 29 = .ok (.iconst 1, 1) := by decide +kernel
theorem dX4_isA_30 : decode cX4_isA 30 = .ok (.goto 4, 3) := by decide +kernel
theorem dX4_isA_33 : decode cX4_isA 33 = .ok (.iconst 0, 1) := by decide +kernel
theorem dX4_isA_34 : decode cX4_isA 34 = .ok (.ireturn, 1) := by decide +kernel
theorem dX4_refusesEvening_0 : decode cX4_refusesEvening 0 = .ok (.iload_n 1, 1) := by decide +kernel
theorem dX4_refusesEvening_1 : decode cX4_refusesEvening 1 = .ok (.invokestatic 223, 3) := by decide +kernel
theorem dX4_refusesEvening_4 : decode cX4_refusesEvening 4 = .ok (.ifCond .ne 6, 3) := by decide +kernel
theorem dX4_refusesEvening_7 : decode cX4_refusesEvening 7 = .ok (.bipush (-2), 2) := by decide +kernel
theorem dX4_refusesEvening_9 : decode cX4_refusesEvening 9 = .ok (.ireturn, 1) := by decide +kernel
theorem dX4_refusesEvening_10 : decode cX4_refusesEvening 10 = .ok (.aload_n 0, 1) := by decide +kernel
theorem dX4_refusesEvening_11 : decode cX4_refusesEvening 11 = .ok (.getfield 71, 3) := by decide +kernel
theorem dX4_refusesEvening_14 : decode cX4_refusesEvening 14 = .ok (.iload_n 1, 1) := by decide +kernel
theorem dX4_refusesEvening_15 : decode cX4_refusesEvening 15 = .ok (.aaload, 1) := by decide +kernel
theorem dX4_refusesEvening_16 : decode cX4_refusesEvening 16 = .ok (.astore_n 2, 1) := by decide +kernel
theorem dX4_refusesEvening_17 : decode cX4_refusesEvening 17 = .ok (.aload_n 2, 1) := by decide +kernel
theorem dX4_refusesEvening_18 : decode cX4_refusesEvening 18 = .ok (.invokevirtual 247, 3) := by decide +kernel
theorem dX4_refusesEvening_21 : decode cX4_refusesEvening 21 = .ok (.ifCond .eq 6, 3) := by decide +kernel
theorem dX4_refusesEvening_24 : decode cX4_refusesEvening 24 = .ok (.bipush (-11), 2) := by decide +kernel
theorem dX4_refusesEvening_26 : decode cX4_refusesEvening 26 = .ok (.ireturn, 1) := by decide +kernel
theorem dX4_refusesEvening_27 : decode cX4_refusesEvening 27 = .ok (.iconst 0, 1) := by decide +kernel
theorem dX4_refusesEvening_28 : decode cX4_refusesEvening 28 = .ok (.istore_n 3, 1) := by decide +kernel
theorem dX4_refusesEvening_29 : decode cX4_refusesEvening 29 = .ok (.iload_n 3, 1) := by decide +kernel
theorem dX4_refusesEvening_30 : decode cX4_refusesEvening 30 = .ok (.aload_n 2, 1) := by decide +kernel
theorem dX4_refusesEvening_31 : decode cX4_refusesEvening 31 = .ok (.getfield 172, 3) := by decide +kernel
theorem dX4_refusesEvening_34 : decode cX4_refusesEvening 34 = .ok (.if_icmp .ge 57, 3) := by decide +kernel
theorem dX4_refusesEvening_37 : decode cX4_refusesEvening 37 = .ok (.aload_n 2, 1) := by decide +kernel
theorem dX4_refusesEvening_38 : decode cX4_refusesEvening 38 = .ok (.getfield 173, 3) := by decide +kernel
theorem dX4_refusesEvening_41 : decode cX4_refusesEvening 41 = .ok (.iload_n 3, 1) := by decide +kernel
theorem dX4_refusesEvening_42 : decode cX4_refusesEvening 42 = .ok (.iaload, 1) := by decide +kernel
theorem dX4_refusesEvening_43 : decode cX4_refusesEvening 43 = .ok (.istore 4, 2) := by decide +kernel
theorem dX4_refusesEvening_45 : decode cX4_refusesEvening 45 = .ok (.iload 4, 2) := by decide +kernel
theorem dX4_refusesEvening_47 : decode cX4_refusesEvening 47 = .ok (.iconst (-1), 1) := by decide +kernel
theorem dX4_refusesEvening_48 : decode cX4_refusesEvening 48 = .ok (.if_icmp .eq 37, 3) := by decide +kernel
theorem dX4_refusesEvening_51 : decode cX4_refusesEvening 51 = .ok (.iload 4, 2) := by decide +kernel
theorem dX4_refusesEvening_53 : decode cX4_refusesEvening 53 = .ok (.ifCond .lt 29, 3) := by decide +kernel
theorem dX4_refusesEvening_56 : decode cX4_refusesEvening 56 = .ok (.aload_n 0, 1) := by decide +kernel
theorem dX4_refusesEvening_57 : decode cX4_refusesEvening 57 = .ok (.getfield 58, 3) := by decide +kernel
theorem dX4_refusesEvening_60 : decode cX4_refusesEvening 60 = .ok (.iload 4, 2) := by decide +kernel
theorem dX4_refusesEvening_62 : decode cX4_refusesEvening 62 = .ok (.bipush 10, 2) := by decide +kernel
theorem dX4_refusesEvening_64 : decode cX4_refusesEvening 64 = .ok (.idiv, 1) := by decide +kernel
theorem dX4_refusesEvening_65 : decode cX4_refusesEvening 65 = .ok (.invokevirtual 100, 3) := by decide +kernel
theorem dX4_refusesEvening_68 : decode cX4_refusesEvening 68 = .ok (.ifCond .eq 14, 3) := by decide +kernel
theorem dX4_refusesEvening_71 : decode cX4_refusesEvening 71 = .ok (.iload 4, 2) := by decide +kernel
theorem dX4_refusesEvening_73 : decode cX4_refusesEvening 73 = .ok (.bipush 10, 2) := by decide +kernel
theorem dX4_refusesEvening_75 : decode cX4_refusesEvening 75 = .ok (.irem, 1) := by decide +kernel
theorem dX4_refusesEvening_76 : decode cX4_refusesEvening 76 = .ok (.invokestatic 103, 3) := by decide +kernel
theorem dX4_refusesEvening_79 : decode cX4_refusesEvening 79 = .ok (.ifCond .ne 6, 3) := by decide +kernel
theorem dX4_refusesEvening_82 : decode cX4_refusesEvening 82 = .ok (.bipush (-2), 2) := by decide +kernel
theorem dX4_refusesEvening_84 : decode cX4_refusesEvening 84 = .ok (.ireturn, 1) := by decide +kernel
theorem dX4_refusesEvening_85 : decode cX4_refusesEvening 85 = .ok (.iinc 3 1, 3) := by decide +kernel
theorem dX4_refusesEvening_88 : decode cX4_refusesEvening 88 = .ok (.goto (-59), 3) := by decide +kernel
theorem dX4_refusesEvening_91 : decode cX4_refusesEvening 91 = .ok (.iconst 0, 1) := by decide +kernel
theorem dX4_refusesEvening_92 : decode cX4_refusesEvening 92 = .ok (.ireturn, 1) := by decide +kernel
theorem dX4_refusesTold_0 : decode cX4_refusesTold 0 = .ok (.iload_n 2, 1) := by decide +kernel
theorem dX4_refusesTold_1 : decode cX4_refusesTold 1 = .ok (.invokestatic 223, 3) := by decide +kernel
theorem dX4_refusesTold_4 : decode cX4_refusesTold 4 = .ok (.ifCond .ne 6, 3) := by decide +kernel
theorem dX4_refusesTold_7 : decode cX4_refusesTold 7 = .ok (.bipush (-2), 2) := by decide +kernel
theorem dX4_refusesTold_9 : decode cX4_refusesTold 9 = .ok (.ireturn, 1) := by decide +kernel
theorem dX4_refusesTold_10 : decode cX4_refusesTold 10 = .ok (.aload_n 0, 1) := by decide +kernel
theorem dX4_refusesTold_11 : decode cX4_refusesTold 11 = .ok (.iload_n 1, 1) := by decide +kernel
theorem dX4_refusesTold_12 : decode cX4_refusesTold 12 = .ok (.invokevirtual 165, 3) := by decide +kernel
theorem dX4_refusesTold_15 : decode cX4_refusesTold 15 = .ok (.istore_n 3, 1) := by decide +kernel
theorem dX4_refusesTold_16 : decode cX4_refusesTold 16 = .ok (.iload_n 3, 1) := by decide +kernel
theorem dX4_refusesTold_17 : decode cX4_refusesTold 17 = .ok (.ifCond .eq 5, 3) := by decide +kernel
theorem dX4_refusesTold_20 : decode cX4_refusesTold 20 = .ok (.iload_n 3, 1) := by decide +kernel
theorem dX4_refusesTold_21 : decode cX4_refusesTold 21 = .ok (.ireturn, 1) := by decide +kernel
theorem dX4_refusesTold_22 : decode cX4_refusesTold 22 = .ok (.aload_n 0, 1) := by decide +kernel
theorem dX4_refusesTold_23 : decode cX4_refusesTold 23 = .ok (.getfield 71, 3) := by decide +kernel
theorem dX4_refusesTold_26 : decode cX4_refusesTold 26 = .ok (.iload_n 2, 1) := by decide +kernel
theorem dX4_refusesTold_27 : decode cX4_refusesTold 27 = .ok (.aaload, 1) := by decide +kernel
theorem dX4_refusesTold_28 : decode cX4_refusesTold 28 = .ok (.invokevirtual 247, 3) := by decide +kernel
theorem dX4_refusesTold_31 : decode cX4_refusesTold 31 = .ok (.ifCond .eq 6, 3) := by decide +kernel
theorem dX4_refusesTold_34 : decode cX4_refusesTold 34 = .ok (.bipush (-11), 2) := by decide +kernel
theorem dX4_refusesTold_36 : decode cX4_refusesTold 36 = .ok (.ireturn, 1) := by decide +kernel
theorem dX4_refusesTold_37 : decode cX4_refusesTold 37 = .ok (.aload_n 0, 1) := by decide +kernel
theorem dX4_refusesTold_38 : decode cX4_refusesTold 38 = .ok (.getfield 71, 3) := by decide +kernel
theorem dX4_refusesTold_41 : decode cX4_refusesTold 41 = .ok (.iload_n 2, 1) := by decide +kernel
theorem dX4_refusesTold_42 : decode cX4_refusesTold 42 = .ok (.aaload, 1) := by decide +kernel
theorem dX4_refusesTold_43 : decode cX4_refusesTold 43 = .ok (.getfield 172, 3) := by decide +kernel
theorem dX4_refusesTold_46 : decode cX4_refusesTold 46 = .ok (.aload_n 0, 1) := by decide +kernel
theorem dX4_refusesTold_47 : decode cX4_refusesTold 47 = .ok (.getfield 71, 3) := by decide +kernel
theorem dX4_refusesTold_50 : decode cX4_refusesTold 50 = .ok (.iload_n 1, 1) := by decide +kernel
theorem dX4_refusesTold_51 : decode cX4_refusesTold 51 = .ok (.aaload, 1) := by decide +kernel
theorem dX4_refusesTold_52 : decode cX4_refusesTold 52 = .ok (.getfield 172, 3) := by decide +kernel
theorem dX4_refusesTold_55 : decode cX4_refusesTold 55 = .ok (.if_icmp .le 8, 3) := by decide +kernel
theorem dX4_refusesTold_58 : decode cX4_refusesTold 58 = .ok (.bipush (-2), 2) := by decide +kernel
theorem dX4_refusesTold_60 : decode cX4_refusesTold 60 = .ok (.goto 4, 3) := by decide +kernel
theorem dX4_refusesTold_63 : decode cX4_refusesTold 63 = .ok (.iconst 0, 1) := by decide +kernel
theorem dX4_refusesTold_64 : decode cX4_refusesTold 64 = .ok (.ireturn, 1) := by decide +kernel
theorem dX4_refusesJudging_0 : decode cX4_refusesJudging 0 = .ok (.aload_n 0, 1) := by decide +kernel
theorem dX4_refusesJudging_1 : decode cX4_refusesJudging 1 = .ok (.iload_n 1, 1) := by decide +kernel
theorem dX4_refusesJudging_2 : decode cX4_refusesJudging 2 = .ok (.iload_n 2, 1) := by decide +kernel
theorem dX4_refusesJudging_3 : decode cX4_refusesJudging 3 = .ok (.invokevirtual 220, 3) := by decide +kernel
theorem dX4_refusesJudging_6 : decode cX4_refusesJudging 6 = .ok (.istore 4, 2) := by decide +kernel
theorem dX4_refusesJudging_8 : decode cX4_refusesJudging 8 = .ok (.iload 4, 2) := by decide +kernel
theorem dX4_refusesJudging_10 : decode cX4_refusesJudging 10 = .ok (.ifCond .eq 6, 3) := by decide +kernel
theorem dX4_refusesJudging_13 : decode cX4_refusesJudging 13 = .ok (.iload 4, 2) := by decide +kernel
theorem dX4_refusesJudging_15 : decode cX4_refusesJudging 15 = .ok (.ireturn, 1) := by decide +kernel
theorem dX4_refusesJudging_16 : decode cX4_refusesJudging 16 = .ok (.aload_n 0, 1) := by decide +kernel
theorem dX4_refusesJudging_17 : decode cX4_refusesJudging 17 = .ok (.getfield 58, 3) := by decide +kernel
theorem dX4_refusesJudging_20 : decode cX4_refusesJudging 20 = .ok (.iload_n 3, 1) := by decide +kernel
theorem dX4_refusesJudging_21 : decode cX4_refusesJudging 21 = .ok (.invokevirtual 100, 3) := by decide +kernel
theorem dX4_refusesJudging_24 : decode cX4_refusesJudging 24 = .ok (.ifCond .eq 7, 3) := by decide +kernel
theorem dX4_refusesJudging_27 : decode cX4_refusesJudging 27 = .ok (.iconst 0, 1) := by decide +kernel
theorem dX4_refusesJudging_28 : decode cX4_refusesJudging 28 = .ok (.goto 5, 3) := by decide +kernel
theorem dX4_refusesJudging_31 : decode cX4_refusesJudging 31 = .ok (.bipush (-5), 2) := by decide +kernel
theorem dX4_refusesJudging_33 : decode cX4_refusesJudging 33 = .ok (.ireturn, 1) := by decide +kernel
theorem dX4_lowest_0 : decode cX4_lowest 0 = .ok (.iload_n 0, 1) := by decide +kernel
theorem dX4_lowest_1 : decode cX4_lowest 1 = .ok (.istore_n 3, 1) := by decide +kernel
theorem dX4_lowest_2 : decode cX4_lowest 2 = .ok (.iload_n 1, 1) := by decide +kernel
theorem dX4_lowest_3 : decode cX4_lowest 3 = .ok (.istore 4, 2) := by decide +kernel
theorem dX4_lowest_5 : decode cX4_lowest 5 = .ok (.iconst 0, 1) := by decide +kernel
theorem dX4_lowest_6 : decode cX4_lowest 6 = .ok (.istore 5, 2) := by decide +kernel
theorem dX4_lowest_8 : decode cX4_lowest 8 = .ok (.iload 5, 2) := by decide +kernel
theorem dX4_lowest_10 : decode cX4_lowest 10 = .ok (.bipush 100, 2) := by decide +kernel
theorem dX4_lowest_12 : decode cX4_lowest 12 = .ok (.if_icmp .ge 25, 3) := by decide +kernel
theorem dX4_lowest_15 : decode cX4_lowest 15 = .ok (.iload_n 3, 1) := by decide +kernel
theorem dX4_lowest_16 : decode cX4_lowest 16 = .ok (.ifCond .eq 21, 3) := by decide +kernel
theorem dX4_lowest_19 : decode cX4_lowest 19 = .ok (.iload 4, 2) := by decide +kernel
theorem dX4_lowest_21 : decode cX4_lowest 21 = .ok (.iload_n 3, 1) := by decide +kernel
theorem dX4_lowest_22 : decode cX4_lowest 22 = .ok (.irem, 1) := by decide +kernel
theorem dX4_lowest_23 : decode cX4_lowest 23 = .ok (.istore 6, 2) := by decide +kernel
theorem dX4_lowest_25 : decode cX4_lowest 25 = .ok (.iload_n 3, 1) := by decide +kernel
theorem dX4_lowest_26 : decode cX4_lowest 26 = .ok (.istore 4, 2) := by decide +kernel
theorem dX4_lowest_28 : decode cX4_lowest 28 = .ok (.iload 6, 2) := by decide +kernel
theorem dX4_lowest_30 : decode cX4_lowest 30 = .ok (.istore_n 3, 1) := by decide +kernel
theorem dX4_lowest_31 : decode cX4_lowest 31 = .ok (.iinc 5 1, 3) := by decide +kernel
theorem dX4_lowest_34 : decode cX4_lowest 34 = .ok (.goto (-26), 3) := by decide +kernel
theorem dX4_lowest_37 : decode cX4_lowest 37 = .ok (.iconst 1, 1) := by decide +kernel
theorem dX4_lowest_38 : decode cX4_lowest 38 = .ok (.iload 4, 2) := by decide +kernel
theorem dX4_lowest_40 : decode cX4_lowest 40 = .ok (.invokestatic 179, 3) := by decide +kernel
theorem dX4_lowest_43 : decode cX4_lowest 43 = .ok (.istore 5, 2) := by decide +kernel
theorem dX4_lowest_45 : decode cX4_lowest 45 = .ok (.iload_n 2, 1) := by decide +kernel
theorem dX4_lowest_46 : decode cX4_lowest 46 = .ok (.ifCond .ne 7, 3) := by decide +kernel
theorem dX4_lowest_49 : decode cX4_lowest 49 = .ok (.iload_n 0, 1) := by decide +kernel
theorem dX4_lowest_50 : decode cX4_lowest 50 = .ok (.goto 4, 3) := by decide +kernel
theorem dX4_lowest_53 : decode cX4_lowest 53 = .ok (.iload_n 1, 1) := by decide +kernel
theorem dX4_lowest_54 : decode cX4_lowest 54 = .ok (.iload 5, 2) := by decide +kernel
theorem dX4_lowest_56 : decode cX4_lowest 56 = .ok (.idiv, 1) := by decide +kernel
theorem dX4_lowest_57 : decode cX4_lowest 57 = .ok (.i2l, 1) := by decide +kernel
theorem dX4_lowest_58 : decode cX4_lowest 58 = .ok (.lreturn, 1) := by decide +kernel
theorem dJ6_bitCount_0f7a4_0 : decode cJ6_bitCount_0f7a4 0 = .ok (.iload_n 0, 1) := by decide +kernel
theorem dJ6_bitCount_0f7a4_1 : decode cJ6_bitCount_0f7a4 1 = .ok (.iload_n 0, 1) := by decide +kernel
theorem dJ6_bitCount_0f7a4_2 : decode cJ6_bitCount_0f7a4 2 = .ok (.iconst 1, 1) := by decide +kernel
theorem dJ6_bitCount_0f7a4_3 : decode cJ6_bitCount_0f7a4 3 = .ok (.iushr, 1) := by decide +kernel
theorem dJ6_bitCount_0f7a4_4 : decode cJ6_bitCount_0f7a4 4 = .ok (.ldc_w 265, 3) := by decide +kernel
theorem dJ6_bitCount_0f7a4_7 : decode cJ6_bitCount_0f7a4 7 = .ok (.iand, 1) := by decide +kernel
theorem dJ6_bitCount_0f7a4_8 : decode cJ6_bitCount_0f7a4 8 = .ok (.isub, 1) := by decide +kernel
theorem dJ6_bitCount_0f7a4_9 : decode cJ6_bitCount_0f7a4 9 = .ok (.istore_n 0, 1) := by decide +kernel
theorem dJ6_bitCount_0f7a4_10 : decode cJ6_bitCount_0f7a4 10 = .ok (.iload_n 0, 1) := by decide +kernel
theorem dJ6_bitCount_0f7a4_11 : decode cJ6_bitCount_0f7a4 11 = .ok (.ldc_w 266, 3) := by decide +kernel
theorem dJ6_bitCount_0f7a4_14 : decode cJ6_bitCount_0f7a4 14 = .ok (.iand, 1) := by decide +kernel
theorem dJ6_bitCount_0f7a4_15 : decode cJ6_bitCount_0f7a4 15 = .ok (.iload_n 0, 1) := by decide +kernel
theorem dJ6_bitCount_0f7a4_16 : decode cJ6_bitCount_0f7a4 16 = .ok (.iconst 2, 1) := by decide +kernel
theorem dJ6_bitCount_0f7a4_17 : decode cJ6_bitCount_0f7a4 17 = .ok (.iushr, 1) := by decide +kernel
theorem dJ6_bitCount_0f7a4_18 : decode cJ6_bitCount_0f7a4 18 = .ok (.ldc_w 266, 3) := by decide +kernel
theorem dJ6_bitCount_0f7a4_21 : decode cJ6_bitCount_0f7a4 21 = .ok (.iand, 1) := by decide +kernel
theorem dJ6_bitCount_0f7a4_22 : decode cJ6_bitCount_0f7a4 22 = .ok (.iadd, 1) := by decide +kernel
theorem dJ6_bitCount_0f7a4_23 : decode cJ6_bitCount_0f7a4 23 = .ok (.istore_n 0, 1) := by decide +kernel
theorem dJ6_bitCount_0f7a4_24 : decode cJ6_bitCount_0f7a4 24 = .ok (.iload_n 0, 1) := by decide +kernel
theorem dJ6_bitCount_0f7a4_25 : decode cJ6_bitCount_0f7a4 25 = .ok (.iload_n 0, 1) := by decide +kernel
theorem dJ6_bitCount_0f7a4_26 : decode cJ6_bitCount_0f7a4 26 = .ok (.iconst 4, 1) := by decide +kernel
theorem dJ6_bitCount_0f7a4_27 : decode cJ6_bitCount_0f7a4 27 = .ok (.iushr, 1) := by decide +kernel
theorem dJ6_bitCount_0f7a4_28 : decode cJ6_bitCount_0f7a4 28 = .ok (.iadd, 1) := by decide +kernel
theorem dJ6_bitCount_0f7a4_29 : decode cJ6_bitCount_0f7a4 29 = .ok (.ldc_w 267, 3) := by decide +kernel
theorem dJ6_bitCount_0f7a4_32 : decode cJ6_bitCount_0f7a4 32 = .ok (.iand, 1) := by decide +kernel
theorem dJ6_bitCount_0f7a4_33 : decode cJ6_bitCount_0f7a4 33 = .ok (.istore_n 0, 1) := by decide +kernel
theorem dJ6_bitCount_0f7a4_34 : decode cJ6_bitCount_0f7a4 34 = .ok (.iload_n 0, 1) := by decide +kernel
theorem dJ6_bitCount_0f7a4_35 : decode cJ6_bitCount_0f7a4 35 = .ok (.iload_n 0, 1) := by decide +kernel
theorem dJ6_bitCount_0f7a4_36 : decode cJ6_bitCount_0f7a4 36 = .ok (.bipush 8, 2) := by decide +kernel
theorem dJ6_bitCount_0f7a4_38 : decode cJ6_bitCount_0f7a4 38 = .ok (.iushr, 1) := by decide +kernel
theorem dJ6_bitCount_0f7a4_39 : decode cJ6_bitCount_0f7a4 39 = .ok (.iadd, 1) := by decide +kernel
theorem dJ6_bitCount_0f7a4_40 : decode cJ6_bitCount_0f7a4 40 = .ok (.istore_n 0, 1) := by decide +kernel
theorem dJ6_bitCount_0f7a4_41 : decode cJ6_bitCount_0f7a4 41 = .ok (.iload_n 0, 1) := by decide +kernel
theorem dJ6_bitCount_0f7a4_42 : decode cJ6_bitCount_0f7a4 42 = .ok (.iload_n 0, 1) := by decide +kernel
theorem dJ6_bitCount_0f7a4_43 : decode cJ6_bitCount_0f7a4 43 = .ok (.bipush 16, 2) := by decide +kernel
theorem dJ6_bitCount_0f7a4_45 : decode cJ6_bitCount_0f7a4 45 = .ok (.iushr, 1) := by decide +kernel
theorem dJ6_bitCount_0f7a4_46 : decode cJ6_bitCount_0f7a4 46 = .ok (.iadd, 1) := by decide +kernel
theorem dJ6_bitCount_0f7a4_47 : decode cJ6_bitCount_0f7a4 47 = .ok (.istore_n 0, 1) := by decide +kernel
theorem dJ6_bitCount_0f7a4_48 : decode cJ6_bitCount_0f7a4 48 = .ok (.iload_n 0, 1) := by decide +kernel
theorem dJ6_bitCount_0f7a4_49 : decode cJ6_bitCount_0f7a4 49 = .ok (.bipush 63, 2) := by decide +kernel
theorem dJ6_bitCount_0f7a4_51 : decode cJ6_bitCount_0f7a4 51 = .ok (.iand, 1) := by decide +kernel
theorem dJ6_bitCount_0f7a4_52 : decode cJ6_bitCount_0f7a4 52 = .ok (.ireturn, 1) := by decide +kernel
theorem dJ9_max_7cf53_0 : decode cJ9_max_7cf53 0 = .ok (.iload_n 0, 1) := by decide +kernel
theorem dJ9_max_7cf53_1 : decode cJ9_max_7cf53 1 = .ok (.iload_n 1, 1) := by decide +kernel
theorem dJ9_max_7cf53_2 : decode cJ9_max_7cf53 2 = .ok (.if_icmp .lt 7, 3) := by decide +kernel
theorem dJ9_max_7cf53_5 : decode cJ9_max_7cf53 5 = .ok (.iload_n 0, 1) := by decide +kernel
theorem dJ9_max_7cf53_6 : decode cJ9_max_7cf53 6 = .ok (.goto 4, 3) := by decide +kernel
theorem dJ9_max_7cf53_9 : decode cJ9_max_7cf53 9 = .ok (.iload_n 1, 1) := by decide +kernel
theorem dJ9_max_7cf53_10 : decode cJ9_max_7cf53 10 = .ok (.ireturn, 1) := by decide +kernel
theorem dJ9_min_7cf53_0 : decode cJ9_min_7cf53 0 = .ok (.iload_n 0, 1) := by decide +kernel
theorem dJ9_min_7cf53_1 : decode cJ9_min_7cf53 1 = .ok (.iload_n 1, 1) := by decide +kernel
theorem dJ9_min_7cf53_2 : decode cJ9_min_7cf53 2 = .ok (.if_icmp .gt 7, 3) := by decide +kernel
theorem dJ9_min_7cf53_5 : decode cJ9_min_7cf53 5 = .ok (.iload_n 0, 1) := by decide +kernel
theorem dJ9_min_7cf53_6 : decode cJ9_min_7cf53 6 = .ok (.goto 4, 3) := by decide +kernel
theorem dJ9_min_7cf53_9 : decode cJ9_min_7cf53 9 = .ok (.iload_n 1, 1) := by decide +kernel
theorem dJ9_min_7cf53_10 : decode cJ9_min_7cf53 10 = .ok (.ireturn, 1) := by decide +kernel
theorem dJ0_length_8abf5_0 : decode cJ0_length_8abf5 0 = .ok (.aload_n 0, 1) := by decide +kernel
theorem dJ0_length_8abf5_1 : decode cJ0_length_8abf5 1 = .ok (.getfield 9, 3) := by decide +kernel
theorem dJ0_length_8abf5_4 : decode cJ0_length_8abf5 4 = .ok (.arraylength, 1) := by decide +kernel
theorem dJ0_length_8abf5_5 : decode cJ0_length_8abf5 5 = .ok (.aload_n 0, 1) := by decide +kernel
theorem dJ0_length_8abf5_6 : decode cJ0_length_8abf5 6 = .ok (.invokevirtual 335, 3) := by decide +kernel
theorem dJ0_length_8abf5_9 : decode cJ0_length_8abf5 9 = .ok (.ishr, 1) := by decide +kernel
theorem dJ0_length_8abf5_10 : decode cJ0_length_8abf5 10 = .ok (.ireturn, 1) := by decide +kernel
theorem dJ0_charAt_5068e_0 : decode cJ0_charAt_5068e 0 = .ok (.aload_n 0, 1) := by decide +kernel
theorem dJ0_charAt_5068e_1 : decode cJ0_charAt_5068e 1 = .ok (.invokevirtual 492, 3) := by decide +kernel
theorem dJ0_charAt_5068e_4 : decode cJ0_charAt_5068e 4 = .ok (.ifCond .eq 12, 3) := by decide +kernel
theorem dJ0_charAt_5068e_7 : decode cJ0_charAt_5068e 7 = .ok (.aload_n 0, 1) := by decide +kernel
theorem dJ0_charAt_5068e_8 : decode cJ0_charAt_5068e 8 = .ok (.getfield 9, 3) := by decide +kernel
theorem dJ0_charAt_5068e_11 : decode cJ0_charAt_5068e 11 = .ok (.iload_n 1, 1) := by decide +kernel
theorem dJ0_charAt_5068e_12 : decode cJ0_charAt_5068e 12 = .ok (.invokestatic 495, 3) := by decide +kernel
theorem dJ0_charAt_5068e_15 : decode cJ0_charAt_5068e 15 = .ok (.ireturn, 1) := by decide +kernel
theorem dJ0_charAt_5068e_16 : decode cJ0_charAt_5068e 16 = .ok (.aload_n 0, 1) := by decide +kernel
theorem dJ0_charAt_5068e_17 : decode cJ0_charAt_5068e 17 = .ok (.getfield 9, 3) := by decide +kernel
theorem dJ0_charAt_5068e_20 : decode cJ0_charAt_5068e 20 = .ok (.iload_n 1, 1) := by decide +kernel
theorem dJ0_charAt_5068e_21 : decode cJ0_charAt_5068e 21 = .ok (.invokestatic 498, 3) := by decide +kernel
theorem dJ0_charAt_5068e_24 : decode cJ0_charAt_5068e 24 = .ok (.ireturn, 1) := by decide +kernel
theorem dJ0_coder_7d493_0 : decode cJ0_coder_7d493 0 = .ok (.getstatic 38, 3) := by decide +kernel
theorem dJ0_coder_7d493_3 : decode cJ0_coder_7d493 3 = .ok (.ifCond .eq 10, 3) := by decide +kernel
theorem dJ0_coder_7d493_6 : decode cJ0_coder_7d493 6 = .ok (.aload_n 0, 1) := by decide +kernel
theorem dJ0_coder_7d493_7 : decode cJ0_coder_7d493 7 = .ok (.getfield 15, 3) := by decide +kernel
theorem dJ0_coder_7d493_10 : decode cJ0_coder_7d493 10 = .ok (.goto 4, 3) := by decide +kernel
theorem dJ0_coder_7d493_13 : decode cJ0_coder_7d493 13 = .ok (.iconst 1, 1) := by decide +kernel
theorem dJ0_coder_7d493_14 : decode cJ0_coder_7d493 14 = .ok (.ireturn, 1) := by decide +kernel
theorem dJ0_isLatin1_aae02_0 : decode cJ0_isLatin1_aae02 0 = .ok (.getstatic 38, 3) := by decide +kernel
theorem dJ0_isLatin1_aae02_3 : decode cJ0_isLatin1_aae02 3 = .ok (.ifCond .eq 14, 3) := by decide +kernel
theorem dJ0_isLatin1_aae02_6 : decode cJ0_isLatin1_aae02 6 = .ok (.aload_n 0, 1) := by decide +kernel
theorem dJ0_isLatin1_aae02_7 : decode cJ0_isLatin1_aae02 7 = .ok (.getfield 15, 3) := by decide +kernel
theorem dJ0_isLatin1_aae02_10 : decode cJ0_isLatin1_aae02 10 = .ok (.ifCond .ne 7, 3) := by decide +kernel
theorem dJ0_isLatin1_aae02_13 : decode cJ0_isLatin1_aae02 13 = .ok (.iconst 1, 1) := by decide +kernel
theorem dJ0_isLatin1_aae02_14 : decode cJ0_isLatin1_aae02 14 = .ok (.goto 4, 3) := by decide +kernel
theorem dJ0_isLatin1_aae02_17 : decode cJ0_isLatin1_aae02 17 = .ok (.iconst 0, 1) := by decide +kernel
theorem dJ0_isLatin1_aae02_18 : decode cJ0_isLatin1_aae02 18 = .ok (.ireturn, 1) := by decide +kernel
theorem dJ0_checkIndex_df160_0 : decode cJ0_checkIndex_df160 0 = .ok (.iload_n 0, 1) := by decide +kernel
theorem dJ0_checkIndex_df160_1 : decode cJ0_checkIndex_df160 1 = .ok (.iload_n 1, 1) := by decide +kernel
theorem dJ0_checkIndex_df160_2 : decode cJ0_checkIndex_df160 2 = .ok (.getstatic 1053, 3) := by decide +kernel
theorem dJ0_checkIndex_df160_5 : decode cJ0_checkIndex_df160 5 = .ok (.invokestatic 1059, 3) := by decide +kernel
theorem dJ0_checkIndex_df160_8 : decode cJ0_checkIndex_df160 8 = .ok (.pop, 1) := by decide +kernel
theorem dJ0_checkIndex_df160_9 : decode cJ0_checkIndex_df160 9 = .ok (.return_, 1) := by decide +kernel
theorem dJ1_charAt_3b067_0 : decode cJ1_charAt_3b067 0 = .ok (.iload_n 1, 1) := by decide +kernel
theorem dJ1_charAt_3b067_1 : decode cJ1_charAt_3b067 1 = .ok (.aload_n 0, 1) := by decide +kernel
theorem dJ1_charAt_3b067_2 : decode cJ1_charAt_3b067 2 = .ok (.arraylength, 1) := by decide +kernel
theorem dJ1_charAt_3b067_3 : decode cJ1_charAt_3b067 3 = .ok (.invokestatic 9, 3) := by decide +kernel
theorem dJ1_charAt_3b067_6 : decode cJ1_charAt_3b067 6 = .ok (.aload_n 0, 1) := by decide +kernel
theorem dJ1_charAt_3b067_7 : decode cJ1_charAt_3b067 7 = .ok (.iload_n 1, 1) := by decide +kernel
theorem dJ1_charAt_3b067_8 : decode cJ1_charAt_3b067 8 = .ok (.baload, 1) := by decide +kernel
theorem dJ1_charAt_3b067_9 : decode cJ1_charAt_3b067 9 = .ok (.sipush 255, 3) := by decide +kernel
theorem dJ1_charAt_3b067_12 : decode cJ1_charAt_3b067 12 = .ok (.iand, 1) := by decide +kernel
theorem dJ1_charAt_3b067_13 : decode cJ1_charAt_3b067 13 = .ok (.i2c, 1) := by decide +kernel
theorem dJ1_charAt_3b067_14 : decode cJ1_charAt_3b067 14 = .ok (.ireturn, 1) := by decide +kernel
theorem dJ2_getChar_3b067_0 : decode cJ2_getChar_3b067 0 = .ok (.getstatic 44, 3) := by decide +kernel
theorem dJ2_getChar_3b067_3 : decode cJ2_getChar_3b067 3 = .ok (.ifCond .ne 25, 3) := by decide +kernel
theorem dJ2_getChar_3b067_6 : decode cJ2_getChar_3b067 6 = .ok (.iload_n 1, 1) := by decide +kernel
theorem dJ2_getChar_3b067_7 : decode cJ2_getChar_3b067 7 = .ok (.ifCond .lt 11, 3) := by decide +kernel
theorem dJ2_getChar_3b067_10 : decode cJ2_getChar_3b067 10 = .ok (.iload_n 1, 1) := by decide +kernel
theorem dJ2_getChar_3b067_11 : decode cJ2_getChar_3b067 11 = .ok (.aload_n 0, 1) := by decide +kernel
theorem dJ2_getChar_3b067_12 : decode cJ2_getChar_3b067 12 = .ok (.invokestatic 48, 3) := by decide +kernel
theorem dJ2_getChar_3b067_15 : decode cJ2_getChar_3b067 15 = .ok (.if_icmp .lt 13, 3) := by decide +kernel
theorem dJ2_getChar_3b067_18 : decode cJ2_getChar_3b067 18 = .ok (.new 52, 3) := by decide +kernel
theorem dJ2_getChar_3b067_21 : decode cJ2_getChar_3b067 21 = .ok (.dup, 1) := by decide +kernel
theorem dJ2_getChar_3b067_22 : decode cJ2_getChar_3b067 22 = .ok (.ldc 54, 2) := by decide +kernel
theorem dJ2_getChar_3b067_24 : decode cJ2_getChar_3b067 24 = .ok (.invokespecial 56, 3) := by decide +kernel
theorem dJ2_getChar_3b067_27 : decode cJ2_getChar_3b067 27 = .ok (.athrow, 1) := by decide +kernel
theorem dJ2_getChar_3b067_28 : decode cJ2_getChar_3b067 28 = .ok (.iload_n 1, 1) := by decide +kernel
theorem dJ2_getChar_3b067_29 : decode cJ2_getChar_3b067 29 = .ok (.iconst 1, 1) := by decide +kernel
theorem dJ2_getChar_3b067_30 : decode cJ2_getChar_3b067 30 = .ok (.ishl, 1) := by decide +kernel
theorem dJ2_getChar_3b067_31 : decode cJ2_getChar_3b067 31 = .ok (.istore_n 1, 1) := by decide +kernel
theorem dJ2_getChar_3b067_32 : decode cJ2_getChar_3b067 32 = .ok (.aload_n 0, 1) := by decide +kernel
theorem dJ2_getChar_3b067_33 : decode cJ2_getChar_3b067 33 = .ok (.iload_n 1, 1) := by decide +kernel
theorem dJ2_getChar_3b067_34 : decode cJ2_getChar_3b067 34 = .ok (.iinc 1 1, 3) := by decide +kernel
theorem dJ2_getChar_3b067_37 : decode cJ2_getChar_3b067 37 = .ok (.baload, 1) := by decide +kernel
theorem dJ2_getChar_3b067_38 : decode cJ2_getChar_3b067 38 = .ok (.sipush 255, 3) := by decide +kernel
theorem dJ2_getChar_3b067_41 : decode cJ2_getChar_3b067 41 = .ok (.iand, 1) := by decide +kernel
theorem dJ2_getChar_3b067_42 : decode cJ2_getChar_3b067 42 = .ok (.getstatic 59, 3) := by decide +kernel
theorem dJ2_getChar_3b067_45 : decode cJ2_getChar_3b067 45 = .ok (.ishl, 1) := by decide +kernel
theorem dJ2_getChar_3b067_46 : decode cJ2_getChar_3b067 46 = .ok (.aload_n 0, 1) := by decide +kernel
theorem dJ2_getChar_3b067_47 : decode cJ2_getChar_3b067 47 = .ok (.iload_n 1, 1) := by decide +kernel
theorem dJ2_getChar_3b067_48 : decode cJ2_getChar_3b067 48 = .ok (.baload, 1) := by decide +kernel
theorem dJ2_getChar_3b067_49 : decode cJ2_getChar_3b067 49 = .ok (.sipush 255, 3) := by decide +kernel
theorem dJ2_getChar_3b067_52 : decode cJ2_getChar_3b067 52 = .ok (.iand, 1) := by decide +kernel
theorem dJ2_getChar_3b067_53 : decode cJ2_getChar_3b067 53 = .ok (.getstatic 63, 3) := by decide +kernel
theorem dJ2_getChar_3b067_56 : decode cJ2_getChar_3b067 56 = .ok (.ishl, 1) := by decide +kernel
theorem dJ2_getChar_3b067_57 : decode cJ2_getChar_3b067 57 = .ok (.ior, 1) := by decide +kernel
theorem dJ2_getChar_3b067_58 : decode cJ2_getChar_3b067 58 = .ok (.i2c, 1) := by decide +kernel
theorem dJ2_getChar_3b067_59 : decode cJ2_getChar_3b067 59 = .ok (.ireturn, 1) := by decide +kernel
theorem dJ2_length_9d52b_0 : decode cJ2_length_9d52b 0 = .ok (.aload_n 0, 1) := by decide +kernel
theorem dJ2_length_9d52b_1 : decode cJ2_length_9d52b 1 = .ok (.arraylength, 1) := by decide +kernel
theorem dJ2_length_9d52b_2 : decode cJ2_length_9d52b 2 = .ok (.iconst 1, 1) := by decide +kernel
theorem dJ2_length_9d52b_3 : decode cJ2_length_9d52b 3 = .ok (.ishr, 1) := by decide +kernel
theorem dJ2_length_9d52b_4 : decode cJ2_length_9d52b 4 = .ok (.ireturn, 1) := by decide +kernel
theorem dJ2_charAt_3b067_0 : decode cJ2_charAt_3b067 0 = .ok (.iload_n 1, 1) := by decide +kernel
theorem dJ2_charAt_3b067_1 : decode cJ2_charAt_3b067 1 = .ok (.aload_n 0, 1) := by decide +kernel
theorem dJ2_charAt_3b067_2 : decode cJ2_charAt_3b067 2 = .ok (.invokestatic 67, 3) := by decide +kernel
theorem dJ2_charAt_3b067_5 : decode cJ2_charAt_3b067 5 = .ok (.aload_n 0, 1) := by decide +kernel
theorem dJ2_charAt_3b067_6 : decode cJ2_charAt_3b067 6 = .ok (.iload_n 1, 1) := by decide +kernel
theorem dJ2_charAt_3b067_7 : decode cJ2_charAt_3b067 7 = .ok (.invokestatic 71, 3) := by decide +kernel
theorem dJ2_charAt_3b067_10 : decode cJ2_charAt_3b067 10 = .ok (.ireturn, 1) := by decide +kernel
theorem dJ2_checkIndex_2214a_0 : decode cJ2_checkIndex_2214a 0 = .ok (.iload_n 0, 1) := by decide +kernel
theorem dJ2_checkIndex_2214a_1 : decode cJ2_checkIndex_2214a 1 = .ok (.aload_n 1, 1) := by decide +kernel
theorem dJ2_checkIndex_2214a_2 : decode cJ2_checkIndex_2214a 2 = .ok (.invokestatic 48, 3) := by decide +kernel
theorem dJ2_checkIndex_2214a_5 : decode cJ2_checkIndex_2214a 5 = .ok (.invokestatic 414, 3) := by decide +kernel
theorem dJ2_checkIndex_2214a_8 : decode cJ2_checkIndex_2214a 8 = .ok (.return_, 1) := by decide +kernel
theorem dJ3_checkIndex_8e157_0 : decode cJ3_checkIndex_8e157 0 = .ok (.iload_n 0, 1) := by decide +kernel
theorem dJ3_checkIndex_8e157_1 : decode cJ3_checkIndex_8e157 1 = .ok (.ifCond .lt 8, 3) := by decide +kernel
theorem dJ3_checkIndex_8e157_4 : decode cJ3_checkIndex_8e157 4 = .ok (.iload_n 0, 1) := by decide +kernel
theorem dJ3_checkIndex_8e157_5 : decode cJ3_checkIndex_8e157 5 = .ok (.iload_n 1, 1) := by decide +kernel
theorem dJ3_checkIndex_8e157_6 : decode cJ3_checkIndex_8e157 6 = .ok (.if_icmp .lt 10, 3) := by decide +kernel
theorem dJ3_checkIndex_8e157_9 : decode cJ3_checkIndex_8e157 9 = .ok (.aload_n 2, 1) := by decide +kernel
theorem dJ3_checkIndex_8e157_10 : decode cJ3_checkIndex_8e157 10 = .ok (.iload_n 0, 1) := by decide +kernel
theorem dJ3_checkIndex_8e157_11 : decode cJ3_checkIndex_8e157 11 = .ok (.iload_n 1, 1) := by decide +kernel
theorem dJ3_checkIndex_8e157_12 : decode cJ3_checkIndex_8e157 12 = .ok (.invokestatic 95, 3) := by decide +kernel
theorem dJ3_checkIndex_8e157_15 : decode cJ3_checkIndex_8e157 15 = .ok (.athrow, 1) := by decide +kernel
theorem dJ3_checkIndex_8e157_16 : decode cJ3_checkIndex_8e157 16 = .ok (.iload_n 0, 1) := by decide +kernel
theorem dJ3_checkIndex_8e157_17 : decode cJ3_checkIndex_8e157 17 = .ok (.ireturn, 1) := by decide +kernel
end
section
theorem dL_law_0 : decode cL_law 0 = .ok (.new 7, 3) := by decide +kernel
theorem dL_law_3 : decode cL_law 3 = .ok (.dup, 1) := by decide +kernel
theorem dL_law_4 : decode cL_law 4 = .ok (.invokespecial 9, 3) := by decide +kernel
theorem dL_law_7 : decode cL_law 7 = .ok (.astore_n 1, 1) := by decide +kernel
theorem dL_law_8 : decode cL_law 8 = .ok (.new 10, 3) := by decide +kernel
theorem dL_law_11 : decode cL_law 11 = .ok (.dup, 1) := by decide +kernel
theorem dL_law_12 : decode cL_law 12 = .ok (.invokespecial 12, 3) := by decide +kernel
theorem dL_law_15 : decode cL_law 15 = .ok (.astore_n 2, 1) := by decide +kernel
theorem dL_law_16 : decode cL_law 16 = .ok (.iconst 0, 1) := by decide +kernel
theorem dL_law_17 : decode cL_law 17 = .ok (.istore_n 3, 1) := by decide +kernel
theorem dL_law_18 : decode cL_law 18 = .ok (.iload_n 3, 1) := by decide +kernel
theorem dL_law_19 : decode cL_law 19 = .ok (.aload_n 0, 1) := by decide +kernel
theorem dL_law_20 : decode cL_law 20 = .ok (.arraylength, 1) := by decide +kernel
theorem dL_law_21 : decode cL_law 21 = .ok (.bipush 7, 2) := by decide +kernel
theorem dL_law_23 : decode cL_law 23 = .ok (.isub, 1) := by decide +kernel
theorem dL_law_24 : decode cL_law 24 = .ok (.if_icmp .gt 1506, 3) := by decide +kernel
theorem dL_law_27 : decode cL_law 27 = .ok (.aload_n 0, 1) := by decide +kernel
theorem dL_law_28 : decode cL_law 28 = .ok (.iload_n 3, 1) := by decide +kernel
theorem dL_law_29 : decode cL_law 29 = .ok (.iaload, 1) := by decide +kernel
theorem dL_law_30 : decode cL_law 30 = .ok (.bipush 63, 2) := by decide +kernel
theorem dL_law_32 : decode cL_law 32 = .ok (.iand, 1) := by decide +kernel
theorem dL_law_33 : decode cL_law 33 = .ok (.tableswitch 1491 0 35 #[159, 182, 205, 280, 293, 316, 359, 392, 435, 468, 511, 544, 587, 600, 623, 656, 679, 722, 755, 788, 821, 855, 898, 951, 1014, 1047, 1090, 1133, 1176, 1230, 1243, 1256, 1299, 1342, 1405, 1458], 159) := by decide +kernel
theorem dL_law_192 : decode cL_law 192 = .ok (.aload_n 1, 1) := by decide +kernel
theorem dL_law_193 : decode cL_law 193 = .ok (.aload_n 0, 1) := by decide +kernel
theorem dL_law_194 : decode cL_law 194 = .ok (.iload_n 3, 1) := by decide +kernel
theorem dL_law_195 : decode cL_law 195 = .ok (.iconst 1, 1) := by decide +kernel
theorem dL_law_196 : decode cL_law 196 = .ok (.iadd, 1) := by decide +kernel
theorem dL_law_197 : decode cL_law 197 = .ok (.iaload, 1) := by decide +kernel
theorem dL_law_198 : decode cL_law 198 = .ok (.invokevirtual 13, 3) := by decide +kernel
theorem dL_law_201 : decode cL_law 201 = .ok (.aload_n 2, 1) := by decide +kernel
theorem dL_law_202 : decode cL_law 202 = .ok (.aload_n 0, 1) := by decide +kernel
theorem dL_law_203 : decode cL_law 203 = .ok (.iload_n 3, 1) := by decide +kernel
theorem dL_law_204 : decode cL_law 204 = .ok (.iconst 1, 1) := by decide +kernel
theorem dL_law_205 : decode cL_law 205 = .ok (.iadd, 1) := by decide +kernel
theorem dL_law_206 : decode cL_law 206 = .ok (.iaload, 1) := by decide +kernel
theorem dL_law_207 : decode cL_law 207 = .ok (.invokevirtual 17, 3) := by decide +kernel
theorem dL_law_210 : decode cL_law 210 = .ok (.if_icmp .eq 1314, 3) := by decide +kernel
theorem dL_law_213 : decode cL_law 213 = .ok (.iconst 0, 1) := by decide +kernel
theorem dL_law_214 : decode cL_law 214 = .ok (.ireturn, 1) := by decide +kernel
theorem dL_law_215 : decode cL_law 215 = .ok (.aload_n 1, 1) := by decide +kernel
theorem dL_law_216 : decode cL_law 216 = .ok (.aload_n 0, 1) := by decide +kernel
theorem dL_law_217 : decode cL_law 217 = .ok (.iload_n 3, 1) := by decide +kernel
theorem dL_law_218 : decode cL_law 218 = .ok (.iconst 1, 1) := by decide +kernel
theorem dL_law_219 : decode cL_law 219 = .ok (.iadd, 1) := by decide +kernel
theorem dL_law_220 : decode cL_law 220 = .ok (.iaload, 1) := by decide +kernel
theorem dL_law_221 : decode cL_law 221 = .ok (.invokevirtual 18, 3) := by decide +kernel
theorem dL_law_224 : decode cL_law 224 = .ok (.aload_n 2, 1) := by decide +kernel
theorem dL_law_225 : decode cL_law 225 = .ok (.aload_n 0, 1) := by decide +kernel
theorem dL_law_226 : decode cL_law 226 = .ok (.iload_n 3, 1) := by decide +kernel
theorem dL_law_227 : decode cL_law 227 = .ok (.iconst 1, 1) := by decide +kernel
theorem dL_law_228 : decode cL_law 228 = .ok (.iadd, 1) := by decide +kernel
theorem dL_law_229 : decode cL_law 229 = .ok (.iaload, 1) := by decide +kernel
theorem dL_law_230 : decode cL_law 230 = .ok (.invokevirtual 21, 3) := by decide +kernel
theorem dL_law_233 : decode cL_law 233 = .ok (.if_icmp .eq 1291, 3) := by decide +kernel
theorem dL_law_236 : decode cL_law 236 = .ok (.iconst 0, 1) := by decide +kernel
theorem dL_law_237 : decode cL_law 237 = .ok (.ireturn, 1) := by decide +kernel
theorem dL_law_238 : decode cL_law 238 = .ok (.aload_n 1, 1) := by decide +kernel
theorem dL_law_239 : decode cL_law 239 = .ok (.aload_n 0, 1) := by decide +kernel
theorem dL_law_240 : decode cL_law 240 = .ok (.iload_n 3, 1) := by decide +kernel
theorem dL_law_241 : decode cL_law 241 = .ok (.iconst 1, 1) := by decide +kernel
theorem dL_law_242 : decode cL_law 242 = .ok (.iadd, 1) := by decide +kernel
theorem dL_law_243 : decode cL_law 243 = .ok (.iaload, 1) := by decide +kernel
theorem dL_law_244 : decode cL_law 244 = .ok (.aload_n 0, 1) := by decide +kernel
theorem dL_law_245 : decode cL_law 245 = .ok (.iload_n 3, 1) := by decide +kernel
theorem dL_law_246 : decode cL_law 246 = .ok (.iconst 2, 1) := by decide +kernel
theorem dL_law_247 : decode cL_law 247 = .ok (.iadd, 1) := by decide +kernel
theorem dL_law_248 : decode cL_law 248 = .ok (.iaload, 1) := by decide +kernel
theorem dL_law_249 : decode cL_law 249 = .ok (.aload_n 0, 1) := by decide +kernel
theorem dL_law_250 : decode cL_law 250 = .ok (.iload_n 3, 1) := by decide +kernel
theorem dL_law_251 : decode cL_law 251 = .ok (.iconst 3, 1) := by decide +kernel
theorem dL_law_252 : decode cL_law 252 = .ok (.iadd, 1) := by decide +kernel
theorem dL_law_253 : decode cL_law 253 = .ok (.iaload, 1) := by decide +kernel
theorem dL_law_254 : decode cL_law 254 = .ok (.aload_n 0, 1) := by decide +kernel
theorem dL_law_255 : decode cL_law 255 = .ok (.iload_n 3, 1) := by decide +kernel
theorem dL_law_256 : decode cL_law 256 = .ok (.iconst 4, 1) := by decide +kernel
theorem dL_law_257 : decode cL_law 257 = .ok (.iadd, 1) := by decide +kernel
theorem dL_law_258 : decode cL_law 258 = .ok (.iaload, 1) := by decide +kernel
theorem dL_law_259 : decode cL_law 259 = .ok (.aload_n 0, 1) := by decide +kernel
theorem dL_law_260 : decode cL_law 260 = .ok (.iload_n 3, 1) := by decide +kernel
theorem dL_law_261 : decode cL_law 261 = .ok (.iconst 5, 1) := by decide +kernel
theorem dL_law_262 : decode cL_law 262 = .ok (.iadd, 1) := by decide +kernel
theorem dL_law_263 : decode cL_law 263 = .ok (.iaload, 1) := by decide +kernel
theorem dL_law_264 : decode cL_law 264 = .ok (.aload_n 0, 1) := by decide +kernel
theorem dL_law_265 : decode cL_law 265 = .ok (.iload_n 3, 1) := by decide +kernel
theorem dL_law_266 : decode cL_law 266 = .ok (.bipush 6, 2) := by decide +kernel
theorem dL_law_268 : decode cL_law 268 = .ok (.iadd, 1) := by decide +kernel
theorem dL_law_269 : decode cL_law 269 = .ok (.iaload, 1) := by decide +kernel
theorem dL_law_270 : decode cL_law 270 = .ok (.invokevirtual 22, 3) := by decide +kernel
theorem dL_law_273 : decode cL_law 273 = .ok (.aload_n 2, 1) := by decide +kernel
theorem dL_law_274 : decode cL_law 274 = .ok (.aload_n 0, 1) := by decide +kernel
theorem dL_law_275 : decode cL_law 275 = .ok (.iload_n 3, 1) := by decide +kernel
theorem dL_law_276 : decode cL_law 276 = .ok (.iconst 1, 1) := by decide +kernel
theorem dL_law_277 : decode cL_law 277 = .ok (.iadd, 1) := by decide +kernel
theorem dL_law_278 : decode cL_law 278 = .ok (.iaload, 1) := by decide +kernel
theorem dL_law_279 : decode cL_law 279 = .ok (.aload_n 0, 1) := by decide +kernel
theorem dL_law_280 : decode cL_law 280 = .ok (.iload_n 3, 1) := by decide +kernel
theorem dL_law_281 : decode cL_law 281 = .ok (.iconst 2, 1) := by decide +kernel
theorem dL_law_282 : decode cL_law 282 = .ok (.iadd, 1) := by decide +kernel
theorem dL_law_283 : decode cL_law 283 = .ok (.iaload, 1) := by decide +kernel
theorem dL_law_284 : decode cL_law 284 = .ok (.aload_n 0, 1) := by decide +kernel
theorem dL_law_285 : decode cL_law 285 = .ok (.iload_n 3, 1) := by decide +kernel
theorem dL_law_286 : decode cL_law 286 = .ok (.iconst 3, 1) := by decide +kernel
theorem dL_law_287 : decode cL_law 287 = .ok (.iadd, 1) := by decide +kernel
theorem dL_law_288 : decode cL_law 288 = .ok (.iaload, 1) := by decide +kernel
theorem dL_law_289 : decode cL_law 289 = .ok (.aload_n 0, 1) := by decide +kernel
theorem dL_law_290 : decode cL_law 290 = .ok (.iload_n 3, 1) := by decide +kernel
theorem dL_law_291 : decode cL_law 291 = .ok (.iconst 4, 1) := by decide +kernel
theorem dL_law_292 : decode cL_law 292 = .ok (.iadd, 1) := by decide +kernel
theorem dL_law_293 : decode cL_law 293 = .ok (.iaload, 1) := by decide +kernel
theorem dL_law_294 : decode cL_law 294 = .ok (.aload_n 0, 1) := by decide +kernel
theorem dL_law_295 : decode cL_law 295 = .ok (.iload_n 3, 1) := by decide +kernel
theorem dL_law_296 : decode cL_law 296 = .ok (.iconst 5, 1) := by decide +kernel
theorem dL_law_297 : decode cL_law 297 = .ok (.iadd, 1) := by decide +kernel
theorem dL_law_298 : decode cL_law 298 = .ok (.iaload, 1) := by decide +kernel
theorem dL_law_299 : decode cL_law 299 = .ok (.aload_n 0, 1) := by decide +kernel
theorem dL_law_300 : decode cL_law 300 = .ok (.iload_n 3, 1) := by decide +kernel
theorem dL_law_301 : decode cL_law 301 = .ok (.bipush 6, 2) := by decide +kernel
theorem dL_law_303 : decode cL_law 303 = .ok (.iadd, 1) := by decide +kernel
theorem dL_law_304 : decode cL_law 304 = .ok (.iaload, 1) := by decide +kernel
theorem dL_law_305 : decode cL_law 305 = .ok (.invokevirtual 26, 3) := by decide +kernel
theorem dL_law_308 : decode cL_law 308 = .ok (.if_icmp .eq 1216, 3) := by decide +kernel
theorem dL_law_311 : decode cL_law 311 = .ok (.iconst 0, 1) := by decide +kernel
theorem dL_law_312 : decode cL_law 312 = .ok (.ireturn, 1) := by decide +kernel
theorem dL_law_313 : decode cL_law 313 = .ok (.aload_n 1, 1) := by decide +kernel
theorem dL_law_314 : decode cL_law 314 = .ok (.invokevirtual 27, 3) := by decide +kernel
theorem dL_law_317 : decode cL_law 317 = .ok (.aload_n 2, 1) := by decide +kernel
theorem dL_law_318 : decode cL_law 318 = .ok (.invokevirtual 31, 3) := by decide +kernel
theorem dL_law_321 : decode cL_law 321 = .ok (.if_icmp .eq 1203, 3) := by decide +kernel
theorem dL_law_324 : decode cL_law 324 = .ok (.iconst 0, 1) := by decide +kernel
theorem dL_law_325 : decode cL_law 325 = .ok (.ireturn, 1) := by decide +kernel
theorem dL_law_326 : decode cL_law 326 = .ok (.aload_n 1, 1) := by decide +kernel
theorem dL_law_327 : decode cL_law 327 = .ok (.aload_n 0, 1) := by decide +kernel
theorem dL_law_328 : decode cL_law 328 = .ok (.iload_n 3, 1) := by decide +kernel
theorem dL_law_329 : decode cL_law 329 = .ok (.iconst 1, 1) := by decide +kernel
theorem dL_law_330 : decode cL_law 330 = .ok (.iadd, 1) := by decide +kernel
theorem dL_law_331 : decode cL_law 331 = .ok (.iaload, 1) := by decide +kernel
theorem dL_law_332 : decode cL_law 332 = .ok (.invokevirtual 32, 3) := by decide +kernel
theorem dL_law_335 : decode cL_law 335 = .ok (.aload_n 2, 1) := by decide +kernel
theorem dL_law_336 : decode cL_law 336 = .ok (.aload_n 0, 1) := by decide +kernel
theorem dL_law_337 : decode cL_law 337 = .ok (.iload_n 3, 1) := by decide +kernel
theorem dL_law_338 : decode cL_law 338 = .ok (.iconst 1, 1) := by decide +kernel
theorem dL_law_339 : decode cL_law 339 = .ok (.iadd, 1) := by decide +kernel
theorem dL_law_340 : decode cL_law 340 = .ok (.iaload, 1) := by decide +kernel
theorem dL_law_341 : decode cL_law 341 = .ok (.invokevirtual 35, 3) := by decide +kernel
theorem dL_law_344 : decode cL_law 344 = .ok (.if_icmp .eq 1180, 3) := by decide +kernel
theorem dL_law_347 : decode cL_law 347 = .ok (.iconst 0, 1) := by decide +kernel
theorem dL_law_348 : decode cL_law 348 = .ok (.ireturn, 1) := by decide +kernel
theorem dL_law_349 : decode cL_law 349 = .ok (.aload_n 1, 1) := by decide +kernel
theorem dL_law_350 : decode cL_law 350 = .ok (.aload_n 0, 1) := by decide +kernel
theorem dL_law_351 : decode cL_law 351 = .ok (.iload_n 3, 1) := by decide +kernel
theorem dL_law_352 : decode cL_law 352 = .ok (.iconst 1, 1) := by decide +kernel
theorem dL_law_353 : decode cL_law 353 = .ok (.iadd, 1) := by decide +kernel
theorem dL_law_354 : decode cL_law 354 = .ok (.iaload, 1) := by decide +kernel
theorem dL_law_355 : decode cL_law 355 = .ok (.aload_n 0, 1) := by decide +kernel
theorem dL_law_356 : decode cL_law 356 = .ok (.iload_n 3, 1) := by decide +kernel
theorem dL_law_357 : decode cL_law 357 = .ok (.iconst 2, 1) := by decide +kernel
theorem dL_law_358 : decode cL_law 358 = .ok (.iadd, 1) := by decide +kernel
theorem dL_law_359 : decode cL_law 359 = .ok (.iaload, 1) := by decide +kernel
theorem dL_law_360 : decode cL_law 360 = .ok (.aload_n 0, 1) := by decide +kernel
theorem dL_law_361 : decode cL_law 361 = .ok (.iload_n 3, 1) := by decide +kernel
theorem dL_law_362 : decode cL_law 362 = .ok (.iconst 3, 1) := by decide +kernel
theorem dL_law_363 : decode cL_law 363 = .ok (.iadd, 1) := by decide +kernel
theorem dL_law_364 : decode cL_law 364 = .ok (.iaload, 1) := by decide +kernel
theorem dL_law_365 : decode cL_law 365 = .ok (.invokevirtual 36, 3) := by decide +kernel
theorem dL_law_368 : decode cL_law 368 = .ok (.aload_n 2, 1) := by decide +kernel
theorem dL_law_369 : decode cL_law 369 = .ok (.aload_n 0, 1) := by decide +kernel
theorem dL_law_370 : decode cL_law 370 = .ok (.iload_n 3, 1) := by decide +kernel
theorem dL_law_371 : decode cL_law 371 = .ok (.iconst 1, 1) := by decide +kernel
theorem dL_law_372 : decode cL_law 372 = .ok (.iadd, 1) := by decide +kernel
theorem dL_law_373 : decode cL_law 373 = .ok (.iaload, 1) := by decide +kernel
theorem dL_law_374 : decode cL_law 374 = .ok (.aload_n 0, 1) := by decide +kernel
theorem dL_law_375 : decode cL_law 375 = .ok (.iload_n 3, 1) := by decide +kernel
theorem dL_law_376 : decode cL_law 376 = .ok (.iconst 2, 1) := by decide +kernel
theorem dL_law_377 : decode cL_law 377 = .ok (.iadd, 1) := by decide +kernel
theorem dL_law_378 : decode cL_law 378 = .ok (.iaload, 1) := by decide +kernel
theorem dL_law_379 : decode cL_law 379 = .ok (.aload_n 0, 1) := by decide +kernel
theorem dL_law_380 : decode cL_law 380 = .ok (.iload_n 3, 1) := by decide +kernel
theorem dL_law_381 : decode cL_law 381 = .ok (.iconst 3, 1) := by decide +kernel
theorem dL_law_382 : decode cL_law 382 = .ok (.iadd, 1) := by decide +kernel
theorem dL_law_383 : decode cL_law 383 = .ok (.iaload, 1) := by decide +kernel
theorem dL_law_384 : decode cL_law 384 = .ok (.invokevirtual 40, 3) := by decide +kernel
theorem dL_law_387 : decode cL_law 387 = .ok (.if_icmp .eq 1137, 3) := by decide +kernel
theorem dL_law_390 : decode cL_law 390 = .ok (.iconst 0, 1) := by decide +kernel
theorem dL_law_391 : decode cL_law 391 = .ok (.ireturn, 1) := by decide +kernel
theorem dL_law_392 : decode cL_law 392 = .ok (.aload_n 1, 1) := by decide +kernel
theorem dL_law_393 : decode cL_law 393 = .ok (.aload_n 0, 1) := by decide +kernel
theorem dL_law_394 : decode cL_law 394 = .ok (.iload_n 3, 1) := by decide +kernel
theorem dL_law_395 : decode cL_law 395 = .ok (.iconst 1, 1) := by decide +kernel
theorem dL_law_396 : decode cL_law 396 = .ok (.iadd, 1) := by decide +kernel
theorem dL_law_397 : decode cL_law 397 = .ok (.iaload, 1) := by decide +kernel
theorem dL_law_398 : decode cL_law 398 = .ok (.aload_n 0, 1) := by decide +kernel
theorem dL_law_399 : decode cL_law 399 = .ok (.iload_n 3, 1) := by decide +kernel
theorem dL_law_400 : decode cL_law 400 = .ok (.iconst 2, 1) := by decide +kernel
theorem dL_law_401 : decode cL_law 401 = .ok (.iadd, 1) := by decide +kernel
theorem dL_law_402 : decode cL_law 402 = .ok (.iaload, 1) := by decide +kernel
theorem dL_law_403 : decode cL_law 403 = .ok (.invokevirtual 41, 3) := by decide +kernel
theorem dL_law_406 : decode cL_law 406 = .ok (.aload_n 2, 1) := by decide +kernel
theorem dL_law_407 : decode cL_law 407 = .ok (.aload_n 0, 1) := by decide +kernel
theorem dL_law_408 : decode cL_law 408 = .ok (.iload_n 3, 1) := by decide +kernel
theorem dL_law_409 : decode cL_law 409 = .ok (.iconst 1, 1) := by decide +kernel
theorem dL_law_410 : decode cL_law 410 = .ok (.iadd, 1) := by decide +kernel
theorem dL_law_411 : decode cL_law 411 = .ok (.iaload, 1) := by decide +kernel
theorem dL_law_412 : decode cL_law 412 = .ok (.aload_n 0, 1) := by decide +kernel
theorem dL_law_413 : decode cL_law 413 = .ok (.iload_n 3, 1) := by decide +kernel
theorem dL_law_414 : decode cL_law 414 = .ok (.iconst 2, 1) := by decide +kernel
theorem dL_law_415 : decode cL_law 415 = .ok (.iadd, 1) := by decide +kernel
theorem dL_law_416 : decode cL_law 416 = .ok (.iaload, 1) := by decide +kernel
theorem dL_law_417 : decode cL_law 417 = .ok (.invokevirtual 45, 3) := by decide +kernel
theorem dL_law_420 : decode cL_law 420 = .ok (.if_icmp .eq 1104, 3) := by decide +kernel
theorem dL_law_423 : decode cL_law 423 = .ok (.iconst 0, 1) := by decide +kernel
theorem dL_law_424 : decode cL_law 424 = .ok (.ireturn, 1) := by decide +kernel
theorem dL_law_425 : decode cL_law 425 = .ok (.aload_n 1, 1) := by decide +kernel
theorem dL_law_426 : decode cL_law 426 = .ok (.aload_n 0, 1) := by decide +kernel
theorem dL_law_427 : decode cL_law 427 = .ok (.iload_n 3, 1) := by decide +kernel
theorem dL_law_428 : decode cL_law 428 = .ok (.iconst 1, 1) := by decide +kernel
theorem dL_law_429 : decode cL_law 429 = .ok (.iadd, 1) := by decide +kernel
theorem dL_law_430 : decode cL_law 430 = .ok (.iaload, 1) := by decide +kernel
theorem dL_law_431 : decode cL_law 431 = .ok (.aload_n 0, 1) := by decide +kernel
theorem dL_law_432 : decode cL_law 432 = .ok (.iload_n 3, 1) := by decide +kernel
theorem dL_law_433 : decode cL_law 433 = .ok (.iconst 2, 1) := by decide +kernel
theorem dL_law_434 : decode cL_law 434 = .ok (.iadd, 1) := by decide +kernel
theorem dL_law_435 : decode cL_law 435 = .ok (.iaload, 1) := by decide +kernel
theorem dL_law_436 : decode cL_law 436 = .ok (.aload_n 0, 1) := by decide +kernel
theorem dL_law_437 : decode cL_law 437 = .ok (.iload_n 3, 1) := by decide +kernel
theorem dL_law_438 : decode cL_law 438 = .ok (.iconst 3, 1) := by decide +kernel
theorem dL_law_439 : decode cL_law 439 = .ok (.iadd, 1) := by decide +kernel
theorem dL_law_440 : decode cL_law 440 = .ok (.iaload, 1) := by decide +kernel
theorem dL_law_441 : decode cL_law 441 = .ok (.invokevirtual 46, 3) := by decide +kernel
theorem dL_law_444 : decode cL_law 444 = .ok (.aload_n 2, 1) := by decide +kernel
theorem dL_law_445 : decode cL_law 445 = .ok (.aload_n 0, 1) := by decide +kernel
theorem dL_law_446 : decode cL_law 446 = .ok (.iload_n 3, 1) := by decide +kernel
theorem dL_law_447 : decode cL_law 447 = .ok (.iconst 1, 1) := by decide +kernel
theorem dL_law_448 : decode cL_law 448 = .ok (.iadd, 1) := by decide +kernel
theorem dL_law_449 : decode cL_law 449 = .ok (.iaload, 1) := by decide +kernel
theorem dL_law_450 : decode cL_law 450 = .ok (.aload_n 0, 1) := by decide +kernel
theorem dL_law_451 : decode cL_law 451 = .ok (.iload_n 3, 1) := by decide +kernel
theorem dL_law_452 : decode cL_law 452 = .ok (.iconst 2, 1) := by decide +kernel
theorem dL_law_453 : decode cL_law 453 = .ok (.iadd, 1) := by decide +kernel
theorem dL_law_454 : decode cL_law 454 = .ok (.iaload, 1) := by decide +kernel
theorem dL_law_455 : decode cL_law 455 = .ok (.aload_n 0, 1) := by decide +kernel
theorem dL_law_456 : decode cL_law 456 = .ok (.iload_n 3, 1) := by decide +kernel
theorem dL_law_457 : decode cL_law 457 = .ok (.iconst 3, 1) := by decide +kernel
theorem dL_law_458 : decode cL_law 458 = .ok (.iadd, 1) := by decide +kernel
theorem dL_law_459 : decode cL_law 459 = .ok (.iaload, 1) := by decide +kernel
theorem dL_law_460 : decode cL_law 460 = .ok (.invokevirtual 49, 3) := by decide +kernel
theorem dL_law_463 : decode cL_law 463 = .ok (.if_icmp .eq 1061, 3) := by decide +kernel
theorem dL_law_466 : decode cL_law 466 = .ok (.iconst 0, 1) := by decide +kernel
theorem dL_law_467 : decode cL_law 467 = .ok (.ireturn, 1) := by decide +kernel
theorem dL_law_468 : decode cL_law 468 = .ok (.aload_n 1, 1) := by decide +kernel
theorem dL_law_469 : decode cL_law 469 = .ok (.aload_n 0, 1) := by decide +kernel
theorem dL_law_470 : decode cL_law 470 = .ok (.iload_n 3, 1) := by decide +kernel
theorem dL_law_471 : decode cL_law 471 = .ok (.iconst 1, 1) := by decide +kernel
theorem dL_law_472 : decode cL_law 472 = .ok (.iadd, 1) := by decide +kernel
theorem dL_law_473 : decode cL_law 473 = .ok (.iaload, 1) := by decide +kernel
theorem dL_law_474 : decode cL_law 474 = .ok (.aload_n 0, 1) := by decide +kernel
theorem dL_law_475 : decode cL_law 475 = .ok (.iload_n 3, 1) := by decide +kernel
theorem dL_law_476 : decode cL_law 476 = .ok (.iconst 2, 1) := by decide +kernel
theorem dL_law_477 : decode cL_law 477 = .ok (.iadd, 1) := by decide +kernel
theorem dL_law_478 : decode cL_law 478 = .ok (.iaload, 1) := by decide +kernel
theorem dL_law_479 : decode cL_law 479 = .ok (.invokevirtual 50, 3) := by decide +kernel
theorem dL_law_482 : decode cL_law 482 = .ok (.aload_n 2, 1) := by decide +kernel
theorem dL_law_483 : decode cL_law 483 = .ok (.aload_n 0, 1) := by decide +kernel
theorem dL_law_484 : decode cL_law 484 = .ok (.iload_n 3, 1) := by decide +kernel
theorem dL_law_485 : decode cL_law 485 = .ok (.iconst 1, 1) := by decide +kernel
theorem dL_law_486 : decode cL_law 486 = .ok (.iadd, 1) := by decide +kernel
theorem dL_law_487 : decode cL_law 487 = .ok (.iaload, 1) := by decide +kernel
theorem dL_law_488 : decode cL_law 488 = .ok (.aload_n 0, 1) := by decide +kernel
theorem dL_law_489 : decode cL_law 489 = .ok (.iload_n 3, 1) := by decide +kernel
theorem dL_law_490 : decode cL_law 490 = .ok (.iconst 2, 1) := by decide +kernel
theorem dL_law_491 : decode cL_law 491 = .ok (.iadd, 1) := by decide +kernel
theorem dL_law_492 : decode cL_law 492 = .ok (.iaload, 1) := by decide +kernel
theorem dL_law_493 : decode cL_law 493 = .ok (.invokevirtual 53, 3) := by decide +kernel
theorem dL_law_496 : decode cL_law 496 = .ok (.if_icmp .eq 1028, 3) := by decide +kernel
theorem dL_law_499 : decode cL_law 499 = .ok (.iconst 0, 1) := by decide +kernel
theorem dL_law_500 : decode cL_law 500 = .ok (.ireturn, 1) := by decide +kernel
theorem dL_law_501 : decode cL_law 501 = .ok (.aload_n 1, 1) := by decide +kernel
theorem dL_law_502 : decode cL_law 502 = .ok (.aload_n 0, 1) := by decide +kernel
theorem dL_law_503 : decode cL_law 503 = .ok (.iload_n 3, 1) := by decide +kernel
theorem dL_law_504 : decode cL_law 504 = .ok (.iconst 1, 1) := by decide +kernel
theorem dL_law_505 : decode cL_law 505 = .ok (.iadd, 1) := by decide +kernel
theorem dL_law_506 : decode cL_law 506 = .ok (.iaload, 1) := by decide +kernel
theorem dL_law_507 : decode cL_law 507 = .ok (.aload_n 0, 1) := by decide +kernel
theorem dL_law_508 : decode cL_law 508 = .ok (.iload_n 3, 1) := by decide +kernel
theorem dL_law_509 : decode cL_law 509 = .ok (.iconst 2, 1) := by decide +kernel
theorem dL_law_510 : decode cL_law 510 = .ok (.iadd, 1) := by decide +kernel
theorem dL_law_511 : decode cL_law 511 = .ok (.iaload, 1) := by decide +kernel
theorem dL_law_512 : decode cL_law 512 = .ok (.aload_n 0, 1) := by decide +kernel
theorem dL_law_513 : decode cL_law 513 = .ok (.iload_n 3, 1) := by decide +kernel
theorem dL_law_514 : decode cL_law 514 = .ok (.iconst 3, 1) := by decide +kernel
theorem dL_law_515 : decode cL_law 515 = .ok (.iadd, 1) := by decide +kernel
theorem dL_law_516 : decode cL_law 516 = .ok (.iaload, 1) := by decide +kernel
theorem dL_law_517 : decode cL_law 517 = .ok (.invokevirtual 54, 3) := by decide +kernel
theorem dL_law_520 : decode cL_law 520 = .ok (.aload_n 2, 1) := by decide +kernel
theorem dL_law_521 : decode cL_law 521 = .ok (.aload_n 0, 1) := by decide +kernel
theorem dL_law_522 : decode cL_law 522 = .ok (.iload_n 3, 1) := by decide +kernel
theorem dL_law_523 : decode cL_law 523 = .ok (.iconst 1, 1) := by decide +kernel
theorem dL_law_524 : decode cL_law 524 = .ok (.iadd, 1) := by decide +kernel
theorem dL_law_525 : decode cL_law 525 = .ok (.iaload, 1) := by decide +kernel
theorem dL_law_526 : decode cL_law 526 = .ok (.aload_n 0, 1) := by decide +kernel
theorem dL_law_527 : decode cL_law 527 = .ok (.iload_n 3, 1) := by decide +kernel
theorem dL_law_528 : decode cL_law 528 = .ok (.iconst 2, 1) := by decide +kernel
theorem dL_law_529 : decode cL_law 529 = .ok (.iadd, 1) := by decide +kernel
theorem dL_law_530 : decode cL_law 530 = .ok (.iaload, 1) := by decide +kernel
theorem dL_law_531 : decode cL_law 531 = .ok (.aload_n 0, 1) := by decide +kernel
theorem dL_law_532 : decode cL_law 532 = .ok (.iload_n 3, 1) := by decide +kernel
theorem dL_law_533 : decode cL_law 533 = .ok (.iconst 3, 1) := by decide +kernel
theorem dL_law_534 : decode cL_law 534 = .ok (.iadd, 1) := by decide +kernel
theorem dL_law_535 : decode cL_law 535 = .ok (.iaload, 1) := by decide +kernel
theorem dL_law_536 : decode cL_law 536 = .ok (.invokevirtual 57, 3) := by decide +kernel
theorem dL_law_539 : decode cL_law 539 = .ok (.if_icmp .eq 985, 3) := by decide +kernel
theorem dL_law_542 : decode cL_law 542 = .ok (.iconst 0, 1) := by decide +kernel
theorem dL_law_543 : decode cL_law 543 = .ok (.ireturn, 1) := by decide +kernel
theorem dL_law_544 : decode cL_law 544 = .ok (.aload_n 1, 1) := by decide +kernel
theorem dL_law_545 : decode cL_law 545 = .ok (.aload_n 0, 1) := by decide +kernel
theorem dL_law_546 : decode cL_law 546 = .ok (.iload_n 3, 1) := by decide +kernel
theorem dL_law_547 : decode cL_law 547 = .ok (.iconst 1, 1) := by decide +kernel
theorem dL_law_548 : decode cL_law 548 = .ok (.iadd, 1) := by decide +kernel
theorem dL_law_549 : decode cL_law 549 = .ok (.iaload, 1) := by decide +kernel
theorem dL_law_550 : decode cL_law 550 = .ok (.aload_n 0, 1) := by decide +kernel
theorem dL_law_551 : decode cL_law 551 = .ok (.iload_n 3, 1) := by decide +kernel
theorem dL_law_552 : decode cL_law 552 = .ok (.iconst 2, 1) := by decide +kernel
theorem dL_law_553 : decode cL_law 553 = .ok (.iadd, 1) := by decide +kernel
theorem dL_law_554 : decode cL_law 554 = .ok (.iaload, 1) := by decide +kernel
theorem dL_law_555 : decode cL_law 555 = .ok (.invokevirtual 58, 3) := by decide +kernel
theorem dL_law_558 : decode cL_law 558 = .ok (.aload_n 2, 1) := by decide +kernel
theorem dL_law_559 : decode cL_law 559 = .ok (.aload_n 0, 1) := by decide +kernel
theorem dL_law_560 : decode cL_law 560 = .ok (.iload_n 3, 1) := by decide +kernel
theorem dL_law_561 : decode cL_law 561 = .ok (.iconst 1, 1) := by decide +kernel
theorem dL_law_562 : decode cL_law 562 = .ok (.iadd, 1) := by decide +kernel
theorem dL_law_563 : decode cL_law 563 = .ok (.iaload, 1) := by decide +kernel
theorem dL_law_564 : decode cL_law 564 = .ok (.aload_n 0, 1) := by decide +kernel
theorem dL_law_565 : decode cL_law 565 = .ok (.iload_n 3, 1) := by decide +kernel
theorem dL_law_566 : decode cL_law 566 = .ok (.iconst 2, 1) := by decide +kernel
theorem dL_law_567 : decode cL_law 567 = .ok (.iadd, 1) := by decide +kernel
theorem dL_law_568 : decode cL_law 568 = .ok (.iaload, 1) := by decide +kernel
theorem dL_law_569 : decode cL_law 569 = .ok (.invokevirtual 61, 3) := by decide +kernel
theorem dL_law_572 : decode cL_law 572 = .ok (.if_icmp .eq 952, 3) := by decide +kernel
theorem dL_law_575 : decode cL_law 575 = .ok (.iconst 0, 1) := by decide +kernel
theorem dL_law_576 : decode cL_law 576 = .ok (.ireturn, 1) := by decide +kernel
theorem dL_law_577 : decode cL_law 577 = .ok (.aload_n 1, 1) := by decide +kernel
theorem dL_law_578 : decode cL_law 578 = .ok (.aload_n 0, 1) := by decide +kernel
theorem dL_law_579 : decode cL_law 579 = .ok (.iload_n 3, 1) := by decide +kernel
theorem dL_law_580 : decode cL_law 580 = .ok (.iconst 1, 1) := by decide +kernel
theorem dL_law_581 : decode cL_law 581 = .ok (.iadd, 1) := by decide +kernel
theorem dL_law_582 : decode cL_law 582 = .ok (.iaload, 1) := by decide +kernel
theorem dL_law_583 : decode cL_law 583 = .ok (.aload_n 0, 1) := by decide +kernel
theorem dL_law_584 : decode cL_law 584 = .ok (.iload_n 3, 1) := by decide +kernel
theorem dL_law_585 : decode cL_law 585 = .ok (.iconst 2, 1) := by decide +kernel
theorem dL_law_586 : decode cL_law 586 = .ok (.iadd, 1) := by decide +kernel
theorem dL_law_587 : decode cL_law 587 = .ok (.iaload, 1) := by decide +kernel
theorem dL_law_588 : decode cL_law 588 = .ok (.aload_n 0, 1) := by decide +kernel
theorem dL_law_589 : decode cL_law 589 = .ok (.iload_n 3, 1) := by decide +kernel
theorem dL_law_590 : decode cL_law 590 = .ok (.iconst 3, 1) := by decide +kernel
theorem dL_law_591 : decode cL_law 591 = .ok (.iadd, 1) := by decide +kernel
theorem dL_law_592 : decode cL_law 592 = .ok (.iaload, 1) := by decide +kernel
theorem dL_law_593 : decode cL_law 593 = .ok (.invokevirtual 62, 3) := by decide +kernel
theorem dL_law_596 : decode cL_law 596 = .ok (.aload_n 2, 1) := by decide +kernel
theorem dL_law_597 : decode cL_law 597 = .ok (.aload_n 0, 1) := by decide +kernel
theorem dL_law_598 : decode cL_law 598 = .ok (.iload_n 3, 1) := by decide +kernel
theorem dL_law_599 : decode cL_law 599 = .ok (.iconst 1, 1) := by decide +kernel
theorem dL_law_600 : decode cL_law 600 = .ok (.iadd, 1) := by decide +kernel
theorem dL_law_601 : decode cL_law 601 = .ok (.iaload, 1) := by decide +kernel
theorem dL_law_602 : decode cL_law 602 = .ok (.aload_n 0, 1) := by decide +kernel
theorem dL_law_603 : decode cL_law 603 = .ok (.iload_n 3, 1) := by decide +kernel
theorem dL_law_604 : decode cL_law 604 = .ok (.iconst 2, 1) := by decide +kernel
theorem dL_law_605 : decode cL_law 605 = .ok (.iadd, 1) := by decide +kernel
theorem dL_law_606 : decode cL_law 606 = .ok (.iaload, 1) := by decide +kernel
theorem dL_law_607 : decode cL_law 607 = .ok (.aload_n 0, 1) := by decide +kernel
theorem dL_law_608 : decode cL_law 608 = .ok (.iload_n 3, 1) := by decide +kernel
theorem dL_law_609 : decode cL_law 609 = .ok (.iconst 3, 1) := by decide +kernel
theorem dL_law_610 : decode cL_law 610 = .ok (.iadd, 1) := by decide +kernel
theorem dL_law_611 : decode cL_law 611 = .ok (.iaload, 1) := by decide +kernel
theorem dL_law_612 : decode cL_law 612 = .ok (.invokevirtual 65, 3) := by decide +kernel
theorem dL_law_615 : decode cL_law 615 = .ok (.if_icmp .eq 909, 3) := by decide +kernel
theorem dL_law_618 : decode cL_law 618 = .ok (.iconst 0, 1) := by decide +kernel
theorem dL_law_619 : decode cL_law 619 = .ok (.ireturn, 1) := by decide +kernel
theorem dL_law_620 : decode cL_law 620 = .ok (.aload_n 1, 1) := by decide +kernel
theorem dL_law_621 : decode cL_law 621 = .ok (.invokevirtual 66, 3) := by decide +kernel
theorem dL_law_624 : decode cL_law 624 = .ok (.aload_n 2, 1) := by decide +kernel
theorem dL_law_625 : decode cL_law 625 = .ok (.invokevirtual 69, 3) := by decide +kernel
theorem dL_law_628 : decode cL_law 628 = .ok (.if_icmp .eq 896, 3) := by decide +kernel
theorem dL_law_631 : decode cL_law 631 = .ok (.iconst 0, 1) := by decide +kernel
theorem dL_law_632 : decode cL_law 632 = .ok (.ireturn, 1) := by decide +kernel
theorem dL_law_633 : decode cL_law 633 = .ok (.aload_n 1, 1) := by decide +kernel
theorem dL_law_634 : decode cL_law 634 = .ok (.aload_n 0, 1) := by decide +kernel
theorem dL_law_635 : decode cL_law 635 = .ok (.iload_n 3, 1) := by decide +kernel
theorem dL_law_636 : decode cL_law 636 = .ok (.iconst 1, 1) := by decide +kernel
theorem dL_law_637 : decode cL_law 637 = .ok (.iadd, 1) := by decide +kernel
theorem dL_law_638 : decode cL_law 638 = .ok (.iaload, 1) := by decide +kernel
theorem dL_law_639 : decode cL_law 639 = .ok (.invokevirtual 70, 3) := by decide +kernel
theorem dL_law_642 : decode cL_law 642 = .ok (.aload_n 2, 1) := by decide +kernel
theorem dL_law_643 : decode cL_law 643 = .ok (.aload_n 0, 1) := by decide +kernel
theorem dL_law_644 : decode cL_law 644 = .ok (.iload_n 3, 1) := by decide +kernel
theorem dL_law_645 : decode cL_law 645 = .ok (.iconst 1, 1) := by decide +kernel
theorem dL_law_646 : decode cL_law 646 = .ok (.iadd, 1) := by decide +kernel
theorem dL_law_647 : decode cL_law 647 = .ok (.iaload, 1) := by decide +kernel
theorem dL_law_648 : decode cL_law 648 = .ok (.invokevirtual 73, 3) := by decide +kernel
theorem dL_law_651 : decode cL_law 651 = .ok (.if_icmp .eq 873, 3) := by decide +kernel
theorem dL_law_654 : decode cL_law 654 = .ok (.iconst 0, 1) := by decide +kernel
theorem dL_law_655 : decode cL_law 655 = .ok (.ireturn, 1) := by decide +kernel
theorem dL_law_656 : decode cL_law 656 = .ok (.aload_n 1, 1) := by decide +kernel
theorem dL_law_657 : decode cL_law 657 = .ok (.aload_n 0, 1) := by decide +kernel
theorem dL_law_658 : decode cL_law 658 = .ok (.iload_n 3, 1) := by decide +kernel
theorem dL_law_659 : decode cL_law 659 = .ok (.iconst 1, 1) := by decide +kernel
theorem dL_law_660 : decode cL_law 660 = .ok (.iadd, 1) := by decide +kernel
theorem dL_law_661 : decode cL_law 661 = .ok (.iaload, 1) := by decide +kernel
theorem dL_law_662 : decode cL_law 662 = .ok (.aload_n 0, 1) := by decide +kernel
theorem dL_law_663 : decode cL_law 663 = .ok (.iload_n 3, 1) := by decide +kernel
theorem dL_law_664 : decode cL_law 664 = .ok (.iconst 2, 1) := by decide +kernel
theorem dL_law_665 : decode cL_law 665 = .ok (.iadd, 1) := by decide +kernel
theorem dL_law_666 : decode cL_law 666 = .ok (.iaload, 1) := by decide +kernel
theorem dL_law_667 : decode cL_law 667 = .ok (.invokevirtual 74, 3) := by decide +kernel
theorem dL_law_670 : decode cL_law 670 = .ok (.aload_n 2, 1) := by decide +kernel
theorem dL_law_671 : decode cL_law 671 = .ok (.aload_n 0, 1) := by decide +kernel
theorem dL_law_672 : decode cL_law 672 = .ok (.iload_n 3, 1) := by decide +kernel
theorem dL_law_673 : decode cL_law 673 = .ok (.iconst 1, 1) := by decide +kernel
theorem dL_law_674 : decode cL_law 674 = .ok (.iadd, 1) := by decide +kernel
theorem dL_law_675 : decode cL_law 675 = .ok (.iaload, 1) := by decide +kernel
theorem dL_law_676 : decode cL_law 676 = .ok (.aload_n 0, 1) := by decide +kernel
theorem dL_law_677 : decode cL_law 677 = .ok (.iload_n 3, 1) := by decide +kernel
theorem dL_law_678 : decode cL_law 678 = .ok (.iconst 2, 1) := by decide +kernel
theorem dL_law_679 : decode cL_law 679 = .ok (.iadd, 1) := by decide +kernel
theorem dL_law_680 : decode cL_law 680 = .ok (.iaload, 1) := by decide +kernel
theorem dL_law_681 : decode cL_law 681 = .ok (.invokevirtual 77, 3) := by decide +kernel
theorem dL_law_684 : decode cL_law 684 = .ok (.if_icmp .eq 840, 3) := by decide +kernel
theorem dL_law_687 : decode cL_law 687 = .ok (.iconst 0, 1) := by decide +kernel
theorem dL_law_688 : decode cL_law 688 = .ok (.ireturn, 1) := by decide +kernel
theorem dL_law_689 : decode cL_law 689 = .ok (.aload_n 1, 1) := by decide +kernel
theorem dL_law_690 : decode cL_law 690 = .ok (.aload_n 0, 1) := by decide +kernel
theorem dL_law_691 : decode cL_law 691 = .ok (.iload_n 3, 1) := by decide +kernel
theorem dL_law_692 : decode cL_law 692 = .ok (.iconst 1, 1) := by decide +kernel
theorem dL_law_693 : decode cL_law 693 = .ok (.iadd, 1) := by decide +kernel
theorem dL_law_694 : decode cL_law 694 = .ok (.iaload, 1) := by decide +kernel
theorem dL_law_695 : decode cL_law 695 = .ok (.invokevirtual 78, 3) := by decide +kernel
theorem dL_law_698 : decode cL_law 698 = .ok (.aload_n 2, 1) := by decide +kernel
theorem dL_law_699 : decode cL_law 699 = .ok (.aload_n 0, 1) := by decide +kernel
theorem dL_law_700 : decode cL_law 700 = .ok (.iload_n 3, 1) := by decide +kernel
theorem dL_law_701 : decode cL_law 701 = .ok (.iconst 1, 1) := by decide +kernel
theorem dL_law_702 : decode cL_law 702 = .ok (.iadd, 1) := by decide +kernel
theorem dL_law_703 : decode cL_law 703 = .ok (.iaload, 1) := by decide +kernel
theorem dL_law_704 : decode cL_law 704 = .ok (.invokevirtual 81, 3) := by decide +kernel
theorem dL_law_707 : decode cL_law 707 = .ok (.if_icmp .eq 817, 3) := by decide +kernel
theorem dL_law_710 : decode cL_law 710 = .ok (.iconst 0, 1) := by decide +kernel
theorem dL_law_711 : decode cL_law 711 = .ok (.ireturn, 1) := by decide +kernel
theorem dL_law_712 : decode cL_law 712 = .ok (.aload_n 1, 1) := by decide +kernel
theorem dL_law_713 : decode cL_law 713 = .ok (.aload_n 0, 1) := by decide +kernel
theorem dL_law_714 : decode cL_law 714 = .ok (.iload_n 3, 1) := by decide +kernel
theorem dL_law_715 : decode cL_law 715 = .ok (.iconst 1, 1) := by decide +kernel
theorem dL_law_716 : decode cL_law 716 = .ok (.iadd, 1) := by decide +kernel
theorem dL_law_717 : decode cL_law 717 = .ok (.iaload, 1) := by decide +kernel
theorem dL_law_718 : decode cL_law 718 = .ok (.aload_n 0, 1) := by decide +kernel
theorem dL_law_719 : decode cL_law 719 = .ok (.iload_n 3, 1) := by decide +kernel
theorem dL_law_720 : decode cL_law 720 = .ok (.iconst 2, 1) := by decide +kernel
theorem dL_law_721 : decode cL_law 721 = .ok (.iadd, 1) := by decide +kernel
theorem dL_law_722 : decode cL_law 722 = .ok (.iaload, 1) := by decide +kernel
theorem dL_law_723 : decode cL_law 723 = .ok (.aload_n 0, 1) := by decide +kernel
theorem dL_law_724 : decode cL_law 724 = .ok (.iload_n 3, 1) := by decide +kernel
theorem dL_law_725 : decode cL_law 725 = .ok (.iconst 3, 1) := by decide +kernel
theorem dL_law_726 : decode cL_law 726 = .ok (.iadd, 1) := by decide +kernel
theorem dL_law_727 : decode cL_law 727 = .ok (.iaload, 1) := by decide +kernel
theorem dL_law_728 : decode cL_law 728 = .ok (.invokevirtual 82, 3) := by decide +kernel
theorem dL_law_731 : decode cL_law 731 = .ok (.aload_n 2, 1) := by decide +kernel
theorem dL_law_732 : decode cL_law 732 = .ok (.aload_n 0, 1) := by decide +kernel
theorem dL_law_733 : decode cL_law 733 = .ok (.iload_n 3, 1) := by decide +kernel
theorem dL_law_734 : decode cL_law 734 = .ok (.iconst 1, 1) := by decide +kernel
theorem dL_law_735 : decode cL_law 735 = .ok (.iadd, 1) := by decide +kernel
theorem dL_law_736 : decode cL_law 736 = .ok (.iaload, 1) := by decide +kernel
theorem dL_law_737 : decode cL_law 737 = .ok (.aload_n 0, 1) := by decide +kernel
theorem dL_law_738 : decode cL_law 738 = .ok (.iload_n 3, 1) := by decide +kernel
theorem dL_law_739 : decode cL_law 739 = .ok (.iconst 2, 1) := by decide +kernel
theorem dL_law_740 : decode cL_law 740 = .ok (.iadd, 1) := by decide +kernel
theorem dL_law_741 : decode cL_law 741 = .ok (.iaload, 1) := by decide +kernel
theorem dL_law_742 : decode cL_law 742 = .ok (.aload_n 0, 1) := by decide +kernel
theorem dL_law_743 : decode cL_law 743 = .ok (.iload_n 3, 1) := by decide +kernel
theorem dL_law_744 : decode cL_law 744 = .ok (.iconst 3, 1) := by decide +kernel
theorem dL_law_745 : decode cL_law 745 = .ok (.iadd, 1) := by decide +kernel
theorem dL_law_746 : decode cL_law 746 = .ok (.iaload, 1) := by decide +kernel
theorem dL_law_747 : decode cL_law 747 = .ok (.invokevirtual 85, 3) := by decide +kernel
theorem dL_law_750 : decode cL_law 750 = .ok (.if_icmp .eq 774, 3) := by decide +kernel
theorem dL_law_753 : decode cL_law 753 = .ok (.iconst 0, 1) := by decide +kernel
theorem dL_law_754 : decode cL_law 754 = .ok (.ireturn, 1) := by decide +kernel
theorem dL_law_755 : decode cL_law 755 = .ok (.aload_n 1, 1) := by decide +kernel
theorem dL_law_756 : decode cL_law 756 = .ok (.aload_n 0, 1) := by decide +kernel
theorem dL_law_757 : decode cL_law 757 = .ok (.iload_n 3, 1) := by decide +kernel
theorem dL_law_758 : decode cL_law 758 = .ok (.iconst 1, 1) := by decide +kernel
theorem dL_law_759 : decode cL_law 759 = .ok (.iadd, 1) := by decide +kernel
theorem dL_law_760 : decode cL_law 760 = .ok (.iaload, 1) := by decide +kernel
theorem dL_law_761 : decode cL_law 761 = .ok (.aload_n 0, 1) := by decide +kernel
theorem dL_law_762 : decode cL_law 762 = .ok (.iload_n 3, 1) := by decide +kernel
theorem dL_law_763 : decode cL_law 763 = .ok (.iconst 2, 1) := by decide +kernel
theorem dL_law_764 : decode cL_law 764 = .ok (.iadd, 1) := by decide +kernel
theorem dL_law_765 : decode cL_law 765 = .ok (.iaload, 1) := by decide +kernel
theorem dL_law_766 : decode cL_law 766 = .ok (.invokevirtual 86, 3) := by decide +kernel
theorem dL_law_769 : decode cL_law 769 = .ok (.aload_n 2, 1) := by decide +kernel
theorem dL_law_770 : decode cL_law 770 = .ok (.aload_n 0, 1) := by decide +kernel
theorem dL_law_771 : decode cL_law 771 = .ok (.iload_n 3, 1) := by decide +kernel
theorem dL_law_772 : decode cL_law 772 = .ok (.iconst 1, 1) := by decide +kernel
theorem dL_law_773 : decode cL_law 773 = .ok (.iadd, 1) := by decide +kernel
theorem dL_law_774 : decode cL_law 774 = .ok (.iaload, 1) := by decide +kernel
theorem dL_law_775 : decode cL_law 775 = .ok (.aload_n 0, 1) := by decide +kernel
theorem dL_law_776 : decode cL_law 776 = .ok (.iload_n 3, 1) := by decide +kernel
theorem dL_law_777 : decode cL_law 777 = .ok (.iconst 2, 1) := by decide +kernel
theorem dL_law_778 : decode cL_law 778 = .ok (.iadd, 1) := by decide +kernel
theorem dL_law_779 : decode cL_law 779 = .ok (.iaload, 1) := by decide +kernel
theorem dL_law_780 : decode cL_law 780 = .ok (.invokevirtual 89, 3) := by decide +kernel
theorem dL_law_783 : decode cL_law 783 = .ok (.if_icmp .eq 741, 3) := by decide +kernel
theorem dL_law_786 : decode cL_law 786 = .ok (.iconst 0, 1) := by decide +kernel
theorem dL_law_787 : decode cL_law 787 = .ok (.ireturn, 1) := by decide +kernel
theorem dL_law_788 : decode cL_law 788 = .ok (.aload_n 1, 1) := by decide +kernel
theorem dL_law_789 : decode cL_law 789 = .ok (.aload_n 0, 1) := by decide +kernel
theorem dL_law_790 : decode cL_law 790 = .ok (.iload_n 3, 1) := by decide +kernel
theorem dL_law_791 : decode cL_law 791 = .ok (.iconst 1, 1) := by decide +kernel
theorem dL_law_792 : decode cL_law 792 = .ok (.iadd, 1) := by decide +kernel
theorem dL_law_793 : decode cL_law 793 = .ok (.iaload, 1) := by decide +kernel
theorem dL_law_794 : decode cL_law 794 = .ok (.aload_n 0, 1) := by decide +kernel
theorem dL_law_795 : decode cL_law 795 = .ok (.iload_n 3, 1) := by decide +kernel
theorem dL_law_796 : decode cL_law 796 = .ok (.iconst 2, 1) := by decide +kernel
theorem dL_law_797 : decode cL_law 797 = .ok (.iadd, 1) := by decide +kernel
theorem dL_law_798 : decode cL_law 798 = .ok (.iaload, 1) := by decide +kernel
theorem dL_law_799 : decode cL_law 799 = .ok (.invokevirtual 90, 3) := by decide +kernel
theorem dL_law_802 : decode cL_law 802 = .ok (.aload_n 2, 1) := by decide +kernel
theorem dL_law_803 : decode cL_law 803 = .ok (.aload_n 0, 1) := by decide +kernel
theorem dL_law_804 : decode cL_law 804 = .ok (.iload_n 3, 1) := by decide +kernel
theorem dL_law_805 : decode cL_law 805 = .ok (.iconst 1, 1) := by decide +kernel
theorem dL_law_806 : decode cL_law 806 = .ok (.iadd, 1) := by decide +kernel
theorem dL_law_807 : decode cL_law 807 = .ok (.iaload, 1) := by decide +kernel
theorem dL_law_808 : decode cL_law 808 = .ok (.aload_n 0, 1) := by decide +kernel
theorem dL_law_809 : decode cL_law 809 = .ok (.iload_n 3, 1) := by decide +kernel
theorem dL_law_810 : decode cL_law 810 = .ok (.iconst 2, 1) := by decide +kernel
theorem dL_law_811 : decode cL_law 811 = .ok (.iadd, 1) := by decide +kernel
theorem dL_law_812 : decode cL_law 812 = .ok (.iaload, 1) := by decide +kernel
theorem dL_law_813 : decode cL_law 813 = .ok (.invokevirtual 93, 3) := by decide +kernel
theorem dL_law_816 : decode cL_law 816 = .ok (.if_icmp .eq 708, 3) := by decide +kernel
theorem dL_law_819 : decode cL_law 819 = .ok (.iconst 0, 1) := by decide +kernel
theorem dL_law_820 : decode cL_law 820 = .ok (.ireturn, 1) := by decide +kernel
theorem dL_law_821 : decode cL_law 821 = .ok (.aload_n 1, 1) := by decide +kernel
theorem dL_law_822 : decode cL_law 822 = .ok (.aload_n 0, 1) := by decide +kernel
theorem dL_law_823 : decode cL_law 823 = .ok (.iload_n 3, 1) := by decide +kernel
theorem dL_law_824 : decode cL_law 824 = .ok (.iconst 1, 1) := by decide +kernel
theorem dL_law_825 : decode cL_law 825 = .ok (.iadd, 1) := by decide +kernel
theorem dL_law_826 : decode cL_law 826 = .ok (.iaload, 1) := by decide +kernel
theorem dL_law_827 : decode cL_law 827 = .ok (.aload_n 0, 1) := by decide +kernel
theorem dL_law_828 : decode cL_law 828 = .ok (.iload_n 3, 1) := by decide +kernel
theorem dL_law_829 : decode cL_law 829 = .ok (.iconst 2, 1) := by decide +kernel
theorem dL_law_830 : decode cL_law 830 = .ok (.iadd, 1) := by decide +kernel
theorem dL_law_831 : decode cL_law 831 = .ok (.iaload, 1) := by decide +kernel
theorem dL_law_832 : decode cL_law 832 = .ok (.invokevirtual 94, 3) := by decide +kernel
theorem dL_law_835 : decode cL_law 835 = .ok (.aload_n 2, 1) := by decide +kernel
theorem dL_law_836 : decode cL_law 836 = .ok (.aload_n 0, 1) := by decide +kernel
theorem dL_law_837 : decode cL_law 837 = .ok (.iload_n 3, 1) := by decide +kernel
theorem dL_law_838 : decode cL_law 838 = .ok (.iconst 1, 1) := by decide +kernel
theorem dL_law_839 : decode cL_law 839 = .ok (.iadd, 1) := by decide +kernel
theorem dL_law_840 : decode cL_law 840 = .ok (.iaload, 1) := by decide +kernel
theorem dL_law_841 : decode cL_law 841 = .ok (.aload_n 0, 1) := by decide +kernel
theorem dL_law_842 : decode cL_law 842 = .ok (.iload_n 3, 1) := by decide +kernel
theorem dL_law_843 : decode cL_law 843 = .ok (.iconst 2, 1) := by decide +kernel
theorem dL_law_844 : decode cL_law 844 = .ok (.iadd, 1) := by decide +kernel
theorem dL_law_845 : decode cL_law 845 = .ok (.iaload, 1) := by decide +kernel
theorem dL_law_846 : decode cL_law 846 = .ok (.invokevirtual 97, 3) := by decide +kernel
theorem dL_law_849 : decode cL_law 849 = .ok (.if_icmp .eq 675, 3) := by decide +kernel
theorem dL_law_852 : decode cL_law 852 = .ok (.iconst 0, 1) := by decide +kernel
theorem dL_law_853 : decode cL_law 853 = .ok (.ireturn, 1) := by decide +kernel
theorem dL_law_854 : decode cL_law 854 = .ok (.aload_n 1, 1) := by decide +kernel
theorem dL_law_855 : decode cL_law 855 = .ok (.aload_n 0, 1) := by decide +kernel
theorem dL_law_856 : decode cL_law 856 = .ok (.iload_n 3, 1) := by decide +kernel
theorem dL_law_857 : decode cL_law 857 = .ok (.iconst 1, 1) := by decide +kernel
theorem dL_law_858 : decode cL_law 858 = .ok (.iadd, 1) := by decide +kernel
theorem dL_law_859 : decode cL_law 859 = .ok (.iaload, 1) := by decide +kernel
theorem dL_law_860 : decode cL_law 860 = .ok (.aload_n 0, 1) := by decide +kernel
theorem dL_law_861 : decode cL_law 861 = .ok (.iload_n 3, 1) := by decide +kernel
theorem dL_law_862 : decode cL_law 862 = .ok (.iconst 2, 1) := by decide +kernel
theorem dL_law_863 : decode cL_law 863 = .ok (.iadd, 1) := by decide +kernel
theorem dL_law_864 : decode cL_law 864 = .ok (.iaload, 1) := by decide +kernel
theorem dL_law_865 : decode cL_law 865 = .ok (.invokevirtual 98, 3) := by decide +kernel
theorem dL_law_868 : decode cL_law 868 = .ok (.aload_n 2, 1) := by decide +kernel
theorem dL_law_869 : decode cL_law 869 = .ok (.aload_n 0, 1) := by decide +kernel
theorem dL_law_870 : decode cL_law 870 = .ok (.iload_n 3, 1) := by decide +kernel
theorem dL_law_871 : decode cL_law 871 = .ok (.iconst 1, 1) := by decide +kernel
theorem dL_law_872 : decode cL_law 872 = .ok (.iadd, 1) := by decide +kernel
theorem dL_law_873 : decode cL_law 873 = .ok (.iaload, 1) := by decide +kernel
theorem dL_law_874 : decode cL_law 874 = .ok (.aload_n 0, 1) := by decide +kernel
theorem dL_law_875 : decode cL_law 875 = .ok (.iload_n 3, 1) := by decide +kernel
theorem dL_law_876 : decode cL_law 876 = .ok (.iconst 2, 1) := by decide +kernel
theorem dL_law_877 : decode cL_law 877 = .ok (.iadd, 1) := by decide +kernel
theorem dL_law_878 : decode cL_law 878 = .ok (.iaload, 1) := by decide +kernel
theorem dL_law_879 : decode cL_law 879 = .ok (.invokevirtual 102, 3) := by decide +kernel
theorem dL_law_882 : decode cL_law 882 = .ok (.lcmp, 1) := by decide +kernel
theorem dL_law_883 : decode cL_law 883 = .ok (.ifCond .eq 641, 3) := by decide +kernel
theorem dL_law_886 : decode cL_law 886 = .ok (.iconst 0, 1) := by decide +kernel
theorem dL_law_887 : decode cL_law 887 = .ok (.ireturn, 1) := by decide +kernel
theorem dL_law_888 : decode cL_law 888 = .ok (.aload_n 1, 1) := by decide +kernel
theorem dL_law_889 : decode cL_law 889 = .ok (.aload_n 0, 1) := by decide +kernel
theorem dL_law_890 : decode cL_law 890 = .ok (.iload_n 3, 1) := by decide +kernel
theorem dL_law_891 : decode cL_law 891 = .ok (.iconst 1, 1) := by decide +kernel
theorem dL_law_892 : decode cL_law 892 = .ok (.iadd, 1) := by decide +kernel
theorem dL_law_893 : decode cL_law 893 = .ok (.iaload, 1) := by decide +kernel
theorem dL_law_894 : decode cL_law 894 = .ok (.aload_n 0, 1) := by decide +kernel
theorem dL_law_895 : decode cL_law 895 = .ok (.iload_n 3, 1) := by decide +kernel
theorem dL_law_896 : decode cL_law 896 = .ok (.iconst 2, 1) := by decide +kernel
theorem dL_law_897 : decode cL_law 897 = .ok (.iadd, 1) := by decide +kernel
theorem dL_law_898 : decode cL_law 898 = .ok (.iaload, 1) := by decide +kernel
theorem dL_law_899 : decode cL_law 899 = .ok (.aload_n 0, 1) := by decide +kernel
theorem dL_law_900 : decode cL_law 900 = .ok (.iload_n 3, 1) := by decide +kernel
theorem dL_law_901 : decode cL_law 901 = .ok (.iconst 3, 1) := by decide +kernel
theorem dL_law_902 : decode cL_law 902 = .ok (.iadd, 1) := by decide +kernel
theorem dL_law_903 : decode cL_law 903 = .ok (.iaload, 1) := by decide +kernel
theorem dL_law_904 : decode cL_law 904 = .ok (.invokevirtual 103, 3) := by decide +kernel
theorem dL_law_907 : decode cL_law 907 = .ok (.aload_n 2, 1) := by decide +kernel
theorem dL_law_908 : decode cL_law 908 = .ok (.aload_n 0, 1) := by decide +kernel
theorem dL_law_909 : decode cL_law 909 = .ok (.iload_n 3, 1) := by decide +kernel
theorem dL_law_910 : decode cL_law 910 = .ok (.iconst 1, 1) := by decide +kernel
theorem dL_law_911 : decode cL_law 911 = .ok (.iadd, 1) := by decide +kernel
theorem dL_law_912 : decode cL_law 912 = .ok (.iaload, 1) := by decide +kernel
theorem dL_law_913 : decode cL_law 913 = .ok (.aload_n 0, 1) := by decide +kernel
theorem dL_law_914 : decode cL_law 914 = .ok (.iload_n 3, 1) := by decide +kernel
theorem dL_law_915 : decode cL_law 915 = .ok (.iconst 2, 1) := by decide +kernel
theorem dL_law_916 : decode cL_law 916 = .ok (.iadd, 1) := by decide +kernel
theorem dL_law_917 : decode cL_law 917 = .ok (.iaload, 1) := by decide +kernel
theorem dL_law_918 : decode cL_law 918 = .ok (.aload_n 0, 1) := by decide +kernel
theorem dL_law_919 : decode cL_law 919 = .ok (.iload_n 3, 1) := by decide +kernel
theorem dL_law_920 : decode cL_law 920 = .ok (.iconst 3, 1) := by decide +kernel
theorem dL_law_921 : decode cL_law 921 = .ok (.iadd, 1) := by decide +kernel
theorem dL_law_922 : decode cL_law 922 = .ok (.iaload, 1) := by decide +kernel
theorem dL_law_923 : decode cL_law 923 = .ok (.invokevirtual 106, 3) := by decide +kernel
theorem dL_law_926 : decode cL_law 926 = .ok (.if_icmp .eq 598, 3) := by decide +kernel
theorem dL_law_929 : decode cL_law 929 = .ok (.iconst 0, 1) := by decide +kernel
theorem dL_law_930 : decode cL_law 930 = .ok (.ireturn, 1) := by decide +kernel
theorem dL_law_931 : decode cL_law 931 = .ok (.aload_n 1, 1) := by decide +kernel
theorem dL_law_932 : decode cL_law 932 = .ok (.aload_n 0, 1) := by decide +kernel
theorem dL_law_933 : decode cL_law 933 = .ok (.iload_n 3, 1) := by decide +kernel
theorem dL_law_934 : decode cL_law 934 = .ok (.iconst 1, 1) := by decide +kernel
theorem dL_law_935 : decode cL_law 935 = .ok (.iadd, 1) := by decide +kernel
theorem dL_law_936 : decode cL_law 936 = .ok (.iaload, 1) := by decide +kernel
theorem dL_law_937 : decode cL_law 937 = .ok (.aload_n 0, 1) := by decide +kernel
theorem dL_law_938 : decode cL_law 938 = .ok (.iload_n 3, 1) := by decide +kernel
theorem dL_law_939 : decode cL_law 939 = .ok (.iconst 2, 1) := by decide +kernel
theorem dL_law_940 : decode cL_law 940 = .ok (.iadd, 1) := by decide +kernel
theorem dL_law_941 : decode cL_law 941 = .ok (.iaload, 1) := by decide +kernel
theorem dL_law_942 : decode cL_law 942 = .ok (.aload_n 0, 1) := by decide +kernel
theorem dL_law_943 : decode cL_law 943 = .ok (.iload_n 3, 1) := by decide +kernel
theorem dL_law_944 : decode cL_law 944 = .ok (.iconst 3, 1) := by decide +kernel
theorem dL_law_945 : decode cL_law 945 = .ok (.iadd, 1) := by decide +kernel
theorem dL_law_946 : decode cL_law 946 = .ok (.iaload, 1) := by decide +kernel
theorem dL_law_947 : decode cL_law 947 = .ok (.aload_n 0, 1) := by decide +kernel
theorem dL_law_948 : decode cL_law 948 = .ok (.iload_n 3, 1) := by decide +kernel
theorem dL_law_949 : decode cL_law 949 = .ok (.iconst 4, 1) := by decide +kernel
theorem dL_law_950 : decode cL_law 950 = .ok (.iadd, 1) := by decide +kernel
theorem dL_law_951 : decode cL_law 951 = .ok (.iaload, 1) := by decide +kernel
theorem dL_law_952 : decode cL_law 952 = .ok (.invokevirtual 107, 3) := by decide +kernel
theorem dL_law_955 : decode cL_law 955 = .ok (.aload_n 2, 1) := by decide +kernel
theorem dL_law_956 : decode cL_law 956 = .ok (.aload_n 0, 1) := by decide +kernel
theorem dL_law_957 : decode cL_law 957 = .ok (.iload_n 3, 1) := by decide +kernel
theorem dL_law_958 : decode cL_law 958 = .ok (.iconst 1, 1) := by decide +kernel
theorem dL_law_959 : decode cL_law 959 = .ok (.iadd, 1) := by decide +kernel
theorem dL_law_960 : decode cL_law 960 = .ok (.iaload, 1) := by decide +kernel
theorem dL_law_961 : decode cL_law 961 = .ok (.aload_n 0, 1) := by decide +kernel
theorem dL_law_962 : decode cL_law 962 = .ok (.iload_n 3, 1) := by decide +kernel
theorem dL_law_963 : decode cL_law 963 = .ok (.iconst 2, 1) := by decide +kernel
theorem dL_law_964 : decode cL_law 964 = .ok (.iadd, 1) := by decide +kernel
theorem dL_law_965 : decode cL_law 965 = .ok (.iaload, 1) := by decide +kernel
theorem dL_law_966 : decode cL_law 966 = .ok (.aload_n 0, 1) := by decide +kernel
theorem dL_law_967 : decode cL_law 967 = .ok (.iload_n 3, 1) := by decide +kernel
theorem dL_law_968 : decode cL_law 968 = .ok (.iconst 3, 1) := by decide +kernel
theorem dL_law_969 : decode cL_law 969 = .ok (.iadd, 1) := by decide +kernel
theorem dL_law_970 : decode cL_law 970 = .ok (.iaload, 1) := by decide +kernel
theorem dL_law_971 : decode cL_law 971 = .ok (.aload_n 0, 1) := by decide +kernel
theorem dL_law_972 : decode cL_law 972 = .ok (.iload_n 3, 1) := by decide +kernel
theorem dL_law_973 : decode cL_law 973 = .ok (.iconst 4, 1) := by decide +kernel
theorem dL_law_974 : decode cL_law 974 = .ok (.iadd, 1) := by decide +kernel
theorem dL_law_975 : decode cL_law 975 = .ok (.iaload, 1) := by decide +kernel
theorem dL_law_976 : decode cL_law 976 = .ok (.invokevirtual 111, 3) := by decide +kernel
theorem dL_law_979 : decode cL_law 979 = .ok (.if_icmp .eq 545, 3) := by decide +kernel
theorem dL_law_982 : decode cL_law 982 = .ok (.iconst 0, 1) := by decide +kernel
theorem dL_law_983 : decode cL_law 983 = .ok (.ireturn, 1) := by decide +kernel
theorem dL_law_984 : decode cL_law 984 = .ok (.aload_n 1, 1) := by decide +kernel
theorem dL_law_985 : decode cL_law 985 = .ok (.aload_n 0, 1) := by decide +kernel
theorem dL_law_986 : decode cL_law 986 = .ok (.iload_n 3, 1) := by decide +kernel
theorem dL_law_987 : decode cL_law 987 = .ok (.iconst 1, 1) := by decide +kernel
theorem dL_law_988 : decode cL_law 988 = .ok (.iadd, 1) := by decide +kernel
theorem dL_law_989 : decode cL_law 989 = .ok (.iaload, 1) := by decide +kernel
theorem dL_law_990 : decode cL_law 990 = .ok (.aload_n 0, 1) := by decide +kernel
theorem dL_law_991 : decode cL_law 991 = .ok (.iload_n 3, 1) := by decide +kernel
theorem dL_law_992 : decode cL_law 992 = .ok (.iconst 2, 1) := by decide +kernel
theorem dL_law_993 : decode cL_law 993 = .ok (.iadd, 1) := by decide +kernel
theorem dL_law_994 : decode cL_law 994 = .ok (.iaload, 1) := by decide +kernel
theorem dL_law_995 : decode cL_law 995 = .ok (.aload_n 0, 1) := by decide +kernel
theorem dL_law_996 : decode cL_law 996 = .ok (.iload_n 3, 1) := by decide +kernel
theorem dL_law_997 : decode cL_law 997 = .ok (.iconst 3, 1) := by decide +kernel
theorem dL_law_998 : decode cL_law 998 = .ok (.iadd, 1) := by decide +kernel
theorem dL_law_999 : decode cL_law 999 = .ok (.iaload, 1) := by decide +kernel
theorem dL_law_1000 : decode cL_law 1000 = .ok (.aload_n 0, 1) := by decide +kernel
theorem dL_law_1001 : decode cL_law 1001 = .ok (.iload_n 3, 1) := by decide +kernel
theorem dL_law_1002 : decode cL_law 1002 = .ok (.iconst 4, 1) := by decide +kernel
theorem dL_law_1003 : decode cL_law 1003 = .ok (.iadd, 1) := by decide +kernel
theorem dL_law_1004 : decode cL_law 1004 = .ok (.iaload, 1) := by decide +kernel
theorem dL_law_1005 : decode cL_law 1005 = .ok (.aload_n 0, 1) := by decide +kernel
theorem dL_law_1006 : decode cL_law 1006 = .ok (.iload_n 3, 1) := by decide +kernel
theorem dL_law_1007 : decode cL_law 1007 = .ok (.iconst 5, 1) := by decide +kernel
theorem dL_law_1008 : decode cL_law 1008 = .ok (.iadd, 1) := by decide +kernel
theorem dL_law_1009 : decode cL_law 1009 = .ok (.iaload, 1) := by decide +kernel
theorem dL_law_1010 : decode cL_law 1010 = .ok (.invokevirtual 112, 3) := by decide +kernel
theorem dL_law_1013 : decode cL_law 1013 = .ok (.aload_n 2, 1) := by decide +kernel
theorem dL_law_1014 : decode cL_law 1014 = .ok (.aload_n 0, 1) := by decide +kernel
theorem dL_law_1015 : decode cL_law 1015 = .ok (.iload_n 3, 1) := by decide +kernel
theorem dL_law_1016 : decode cL_law 1016 = .ok (.iconst 1, 1) := by decide +kernel
theorem dL_law_1017 : decode cL_law 1017 = .ok (.iadd, 1) := by decide +kernel
theorem dL_law_1018 : decode cL_law 1018 = .ok (.iaload, 1) := by decide +kernel
theorem dL_law_1019 : decode cL_law 1019 = .ok (.aload_n 0, 1) := by decide +kernel
theorem dL_law_1020 : decode cL_law 1020 = .ok (.iload_n 3, 1) := by decide +kernel
theorem dL_law_1021 : decode cL_law 1021 = .ok (.iconst 2, 1) := by decide +kernel
theorem dL_law_1022 : decode cL_law 1022 = .ok (.iadd, 1) := by decide +kernel
theorem dL_law_1023 : decode cL_law 1023 = .ok (.iaload, 1) := by decide +kernel
theorem dL_law_1024 : decode cL_law 1024 = .ok (.aload_n 0, 1) := by decide +kernel
theorem dL_law_1025 : decode cL_law 1025 = .ok (.iload_n 3, 1) := by decide +kernel
theorem dL_law_1026 : decode cL_law 1026 = .ok (.iconst 3, 1) := by decide +kernel
theorem dL_law_1027 : decode cL_law 1027 = .ok (.iadd, 1) := by decide +kernel
theorem dL_law_1028 : decode cL_law 1028 = .ok (.iaload, 1) := by decide +kernel
theorem dL_law_1029 : decode cL_law 1029 = .ok (.aload_n 0, 1) := by decide +kernel
theorem dL_law_1030 : decode cL_law 1030 = .ok (.iload_n 3, 1) := by decide +kernel
theorem dL_law_1031 : decode cL_law 1031 = .ok (.iconst 4, 1) := by decide +kernel
theorem dL_law_1032 : decode cL_law 1032 = .ok (.iadd, 1) := by decide +kernel
theorem dL_law_1033 : decode cL_law 1033 = .ok (.iaload, 1) := by decide +kernel
theorem dL_law_1034 : decode cL_law 1034 = .ok (.aload_n 0, 1) := by decide +kernel
theorem dL_law_1035 : decode cL_law 1035 = .ok (.iload_n 3, 1) := by decide +kernel
theorem dL_law_1036 : decode cL_law 1036 = .ok (.iconst 5, 1) := by decide +kernel
theorem dL_law_1037 : decode cL_law 1037 = .ok (.iadd, 1) := by decide +kernel
theorem dL_law_1038 : decode cL_law 1038 = .ok (.iaload, 1) := by decide +kernel
theorem dL_law_1039 : decode cL_law 1039 = .ok (.invokevirtual 116, 3) := by decide +kernel
theorem dL_law_1042 : decode cL_law 1042 = .ok (.if_icmp .eq 482, 3) := by decide +kernel
theorem dL_law_1045 : decode cL_law 1045 = .ok (.iconst 0, 1) := by decide +kernel
theorem dL_law_1046 : decode cL_law 1046 = .ok (.ireturn, 1) := by decide +kernel
theorem dL_law_1047 : decode cL_law 1047 = .ok (.aload_n 1, 1) := by decide +kernel
theorem dL_law_1048 : decode cL_law 1048 = .ok (.aload_n 0, 1) := by decide +kernel
theorem dL_law_1049 : decode cL_law 1049 = .ok (.iload_n 3, 1) := by decide +kernel
theorem dL_law_1050 : decode cL_law 1050 = .ok (.iconst 1, 1) := by decide +kernel
theorem dL_law_1051 : decode cL_law 1051 = .ok (.iadd, 1) := by decide +kernel
theorem dL_law_1052 : decode cL_law 1052 = .ok (.iaload, 1) := by decide +kernel
theorem dL_law_1053 : decode cL_law 1053 = .ok (.aload_n 0, 1) := by decide +kernel
theorem dL_law_1054 : decode cL_law 1054 = .ok (.iload_n 3, 1) := by decide +kernel
theorem dL_law_1055 : decode cL_law 1055 = .ok (.iconst 2, 1) := by decide +kernel
theorem dL_law_1056 : decode cL_law 1056 = .ok (.iadd, 1) := by decide +kernel
theorem dL_law_1057 : decode cL_law 1057 = .ok (.iaload, 1) := by decide +kernel
theorem dL_law_1058 : decode cL_law 1058 = .ok (.invokevirtual 117, 3) := by decide +kernel
theorem dL_law_1061 : decode cL_law 1061 = .ok (.aload_n 2, 1) := by decide +kernel
theorem dL_law_1062 : decode cL_law 1062 = .ok (.aload_n 0, 1) := by decide +kernel
theorem dL_law_1063 : decode cL_law 1063 = .ok (.iload_n 3, 1) := by decide +kernel
theorem dL_law_1064 : decode cL_law 1064 = .ok (.iconst 1, 1) := by decide +kernel
theorem dL_law_1065 : decode cL_law 1065 = .ok (.iadd, 1) := by decide +kernel
theorem dL_law_1066 : decode cL_law 1066 = .ok (.iaload, 1) := by decide +kernel
theorem dL_law_1067 : decode cL_law 1067 = .ok (.aload_n 0, 1) := by decide +kernel
theorem dL_law_1068 : decode cL_law 1068 = .ok (.iload_n 3, 1) := by decide +kernel
theorem dL_law_1069 : decode cL_law 1069 = .ok (.iconst 2, 1) := by decide +kernel
theorem dL_law_1070 : decode cL_law 1070 = .ok (.iadd, 1) := by decide +kernel
theorem dL_law_1071 : decode cL_law 1071 = .ok (.iaload, 1) := by decide +kernel
theorem dL_law_1072 : decode cL_law 1072 = .ok (.invokevirtual 120, 3) := by decide +kernel
theorem dL_law_1075 : decode cL_law 1075 = .ok (.if_icmp .eq 449, 3) := by decide +kernel
theorem dL_law_1078 : decode cL_law 1078 = .ok (.iconst 0, 1) := by decide +kernel
theorem dL_law_1079 : decode cL_law 1079 = .ok (.ireturn, 1) := by decide +kernel
theorem dL_law_1080 : decode cL_law 1080 = .ok (.aload_n 1, 1) := by decide +kernel
theorem dL_law_1081 : decode cL_law 1081 = .ok (.aload_n 0, 1) := by decide +kernel
theorem dL_law_1082 : decode cL_law 1082 = .ok (.iload_n 3, 1) := by decide +kernel
theorem dL_law_1083 : decode cL_law 1083 = .ok (.iconst 1, 1) := by decide +kernel
theorem dL_law_1084 : decode cL_law 1084 = .ok (.iadd, 1) := by decide +kernel
theorem dL_law_1085 : decode cL_law 1085 = .ok (.iaload, 1) := by decide +kernel
theorem dL_law_1086 : decode cL_law 1086 = .ok (.aload_n 0, 1) := by decide +kernel
theorem dL_law_1087 : decode cL_law 1087 = .ok (.iload_n 3, 1) := by decide +kernel
theorem dL_law_1088 : decode cL_law 1088 = .ok (.iconst 2, 1) := by decide +kernel
theorem dL_law_1089 : decode cL_law 1089 = .ok (.iadd, 1) := by decide +kernel
theorem dL_law_1090 : decode cL_law 1090 = .ok (.iaload, 1) := by decide +kernel
theorem dL_law_1091 : decode cL_law 1091 = .ok (.aload_n 0, 1) := by decide +kernel
theorem dL_law_1092 : decode cL_law 1092 = .ok (.iload_n 3, 1) := by decide +kernel
theorem dL_law_1093 : decode cL_law 1093 = .ok (.iconst 3, 1) := by decide +kernel
theorem dL_law_1094 : decode cL_law 1094 = .ok (.iadd, 1) := by decide +kernel
theorem dL_law_1095 : decode cL_law 1095 = .ok (.iaload, 1) := by decide +kernel
theorem dL_law_1096 : decode cL_law 1096 = .ok (.invokevirtual 121, 3) := by decide +kernel
theorem dL_law_1099 : decode cL_law 1099 = .ok (.aload_n 2, 1) := by decide +kernel
theorem dL_law_1100 : decode cL_law 1100 = .ok (.aload_n 0, 1) := by decide +kernel
theorem dL_law_1101 : decode cL_law 1101 = .ok (.iload_n 3, 1) := by decide +kernel
theorem dL_law_1102 : decode cL_law 1102 = .ok (.iconst 1, 1) := by decide +kernel
theorem dL_law_1103 : decode cL_law 1103 = .ok (.iadd, 1) := by decide +kernel
theorem dL_law_1104 : decode cL_law 1104 = .ok (.iaload, 1) := by decide +kernel
theorem dL_law_1105 : decode cL_law 1105 = .ok (.aload_n 0, 1) := by decide +kernel
theorem dL_law_1106 : decode cL_law 1106 = .ok (.iload_n 3, 1) := by decide +kernel
theorem dL_law_1107 : decode cL_law 1107 = .ok (.iconst 2, 1) := by decide +kernel
theorem dL_law_1108 : decode cL_law 1108 = .ok (.iadd, 1) := by decide +kernel
theorem dL_law_1109 : decode cL_law 1109 = .ok (.iaload, 1) := by decide +kernel
theorem dL_law_1110 : decode cL_law 1110 = .ok (.aload_n 0, 1) := by decide +kernel
theorem dL_law_1111 : decode cL_law 1111 = .ok (.iload_n 3, 1) := by decide +kernel
theorem dL_law_1112 : decode cL_law 1112 = .ok (.iconst 3, 1) := by decide +kernel
theorem dL_law_1113 : decode cL_law 1113 = .ok (.iadd, 1) := by decide +kernel
theorem dL_law_1114 : decode cL_law 1114 = .ok (.iaload, 1) := by decide +kernel
theorem dL_law_1115 : decode cL_law 1115 = .ok (.invokevirtual 124, 3) := by decide +kernel
theorem dL_law_1118 : decode cL_law 1118 = .ok (.if_icmp .eq 406, 3) := by decide +kernel
theorem dL_law_1121 : decode cL_law 1121 = .ok (.iconst 0, 1) := by decide +kernel
theorem dL_law_1122 : decode cL_law 1122 = .ok (.ireturn, 1) := by decide +kernel
theorem dL_law_1123 : decode cL_law 1123 = .ok (.aload_n 1, 1) := by decide +kernel
theorem dL_law_1124 : decode cL_law 1124 = .ok (.aload_n 0, 1) := by decide +kernel
theorem dL_law_1125 : decode cL_law 1125 = .ok (.iload_n 3, 1) := by decide +kernel
theorem dL_law_1126 : decode cL_law 1126 = .ok (.iconst 1, 1) := by decide +kernel
theorem dL_law_1127 : decode cL_law 1127 = .ok (.iadd, 1) := by decide +kernel
theorem dL_law_1128 : decode cL_law 1128 = .ok (.iaload, 1) := by decide +kernel
theorem dL_law_1129 : decode cL_law 1129 = .ok (.aload_n 0, 1) := by decide +kernel
theorem dL_law_1130 : decode cL_law 1130 = .ok (.iload_n 3, 1) := by decide +kernel
theorem dL_law_1131 : decode cL_law 1131 = .ok (.iconst 2, 1) := by decide +kernel
theorem dL_law_1132 : decode cL_law 1132 = .ok (.iadd, 1) := by decide +kernel
theorem dL_law_1133 : decode cL_law 1133 = .ok (.iaload, 1) := by decide +kernel
theorem dL_law_1134 : decode cL_law 1134 = .ok (.aload_n 0, 1) := by decide +kernel
theorem dL_law_1135 : decode cL_law 1135 = .ok (.iload_n 3, 1) := by decide +kernel
theorem dL_law_1136 : decode cL_law 1136 = .ok (.iconst 3, 1) := by decide +kernel
theorem dL_law_1137 : decode cL_law 1137 = .ok (.iadd, 1) := by decide +kernel
theorem dL_law_1138 : decode cL_law 1138 = .ok (.iaload, 1) := by decide +kernel
theorem dL_law_1139 : decode cL_law 1139 = .ok (.invokevirtual 125, 3) := by decide +kernel
theorem dL_law_1142 : decode cL_law 1142 = .ok (.aload_n 2, 1) := by decide +kernel
theorem dL_law_1143 : decode cL_law 1143 = .ok (.aload_n 0, 1) := by decide +kernel
theorem dL_law_1144 : decode cL_law 1144 = .ok (.iload_n 3, 1) := by decide +kernel
theorem dL_law_1145 : decode cL_law 1145 = .ok (.iconst 1, 1) := by decide +kernel
theorem dL_law_1146 : decode cL_law 1146 = .ok (.iadd, 1) := by decide +kernel
theorem dL_law_1147 : decode cL_law 1147 = .ok (.iaload, 1) := by decide +kernel
theorem dL_law_1148 : decode cL_law 1148 = .ok (.aload_n 0, 1) := by decide +kernel
theorem dL_law_1149 : decode cL_law 1149 = .ok (.iload_n 3, 1) := by decide +kernel
theorem dL_law_1150 : decode cL_law 1150 = .ok (.iconst 2, 1) := by decide +kernel
theorem dL_law_1151 : decode cL_law 1151 = .ok (.iadd, 1) := by decide +kernel
theorem dL_law_1152 : decode cL_law 1152 = .ok (.iaload, 1) := by decide +kernel
theorem dL_law_1153 : decode cL_law 1153 = .ok (.aload_n 0, 1) := by decide +kernel
theorem dL_law_1154 : decode cL_law 1154 = .ok (.iload_n 3, 1) := by decide +kernel
theorem dL_law_1155 : decode cL_law 1155 = .ok (.iconst 3, 1) := by decide +kernel
theorem dL_law_1156 : decode cL_law 1156 = .ok (.iadd, 1) := by decide +kernel
theorem dL_law_1157 : decode cL_law 1157 = .ok (.iaload, 1) := by decide +kernel
theorem dL_law_1158 : decode cL_law 1158 = .ok (.invokevirtual 128, 3) := by decide +kernel
theorem dL_law_1161 : decode cL_law 1161 = .ok (.if_icmp .eq 363, 3) := by decide +kernel
theorem dL_law_1164 : decode cL_law 1164 = .ok (.iconst 0, 1) := by decide +kernel
theorem dL_law_1165 : decode cL_law 1165 = .ok (.ireturn, 1) := by decide +kernel
theorem dL_law_1166 : decode cL_law 1166 = .ok (.aload_n 1, 1) := by decide +kernel
theorem dL_law_1167 : decode cL_law 1167 = .ok (.aload_n 0, 1) := by decide +kernel
theorem dL_law_1168 : decode cL_law 1168 = .ok (.iload_n 3, 1) := by decide +kernel
theorem dL_law_1169 : decode cL_law 1169 = .ok (.iconst 1, 1) := by decide +kernel
theorem dL_law_1170 : decode cL_law 1170 = .ok (.iadd, 1) := by decide +kernel
theorem dL_law_1171 : decode cL_law 1171 = .ok (.iaload, 1) := by decide +kernel
theorem dL_law_1172 : decode cL_law 1172 = .ok (.aload_n 0, 1) := by decide +kernel
theorem dL_law_1173 : decode cL_law 1173 = .ok (.iload_n 3, 1) := by decide +kernel
theorem dL_law_1174 : decode cL_law 1174 = .ok (.iconst 2, 1) := by decide +kernel
theorem dL_law_1175 : decode cL_law 1175 = .ok (.iadd, 1) := by decide +kernel
theorem dL_law_1176 : decode cL_law 1176 = .ok (.iaload, 1) := by decide +kernel
theorem dL_law_1177 : decode cL_law 1177 = .ok (.aload_n 0, 1) := by decide +kernel
theorem dL_law_1178 : decode cL_law 1178 = .ok (.iload_n 3, 1) := by decide +kernel
theorem dL_law_1179 : decode cL_law 1179 = .ok (.iconst 3, 1) := by decide +kernel
theorem dL_law_1180 : decode cL_law 1180 = .ok (.iadd, 1) := by decide +kernel
theorem dL_law_1181 : decode cL_law 1181 = .ok (.iaload, 1) := by decide +kernel
theorem dL_law_1182 : decode cL_law 1182 = .ok (.invokevirtual 129, 3) := by decide +kernel
theorem dL_law_1185 : decode cL_law 1185 = .ok (.aload_n 2, 1) := by decide +kernel
theorem dL_law_1186 : decode cL_law 1186 = .ok (.aload_n 0, 1) := by decide +kernel
theorem dL_law_1187 : decode cL_law 1187 = .ok (.iload_n 3, 1) := by decide +kernel
theorem dL_law_1188 : decode cL_law 1188 = .ok (.iconst 1, 1) := by decide +kernel
theorem dL_law_1189 : decode cL_law 1189 = .ok (.iadd, 1) := by decide +kernel
theorem dL_law_1190 : decode cL_law 1190 = .ok (.iaload, 1) := by decide +kernel
theorem dL_law_1191 : decode cL_law 1191 = .ok (.aload_n 0, 1) := by decide +kernel
theorem dL_law_1192 : decode cL_law 1192 = .ok (.iload_n 3, 1) := by decide +kernel
theorem dL_law_1193 : decode cL_law 1193 = .ok (.iconst 2, 1) := by decide +kernel
theorem dL_law_1194 : decode cL_law 1194 = .ok (.iadd, 1) := by decide +kernel
theorem dL_law_1195 : decode cL_law 1195 = .ok (.iaload, 1) := by decide +kernel
theorem dL_law_1196 : decode cL_law 1196 = .ok (.aload_n 0, 1) := by decide +kernel
theorem dL_law_1197 : decode cL_law 1197 = .ok (.iload_n 3, 1) := by decide +kernel
theorem dL_law_1198 : decode cL_law 1198 = .ok (.iconst 3, 1) := by decide +kernel
theorem dL_law_1199 : decode cL_law 1199 = .ok (.iadd, 1) := by decide +kernel
theorem dL_law_1200 : decode cL_law 1200 = .ok (.iaload, 1) := by decide +kernel
theorem dL_law_1201 : decode cL_law 1201 = .ok (.invokevirtual 132, 3) := by decide +kernel
theorem dL_law_1204 : decode cL_law 1204 = .ok (.if_icmp .eq 320, 3) := by decide +kernel
theorem dL_law_1207 : decode cL_law 1207 = .ok (.iconst 0, 1) := by decide +kernel
theorem dL_law_1208 : decode cL_law 1208 = .ok (.ireturn, 1) := by decide +kernel
theorem dL_law_1209 : decode cL_law 1209 = .ok (.aload_n 1, 1) := by decide +kernel
theorem dL_law_1210 : decode cL_law 1210 = .ok (.aload_n 0, 1) := by decide +kernel
theorem dL_law_1211 : decode cL_law 1211 = .ok (.iload_n 3, 1) := by decide +kernel
theorem dL_law_1212 : decode cL_law 1212 = .ok (.iconst 1, 1) := by decide +kernel
theorem dL_law_1213 : decode cL_law 1213 = .ok (.iadd, 1) := by decide +kernel
theorem dL_law_1214 : decode cL_law 1214 = .ok (.iaload, 1) := by decide +kernel
theorem dL_law_1215 : decode cL_law 1215 = .ok (.aload_n 0, 1) := by decide +kernel
theorem dL_law_1216 : decode cL_law 1216 = .ok (.iload_n 3, 1) := by decide +kernel
theorem dL_law_1217 : decode cL_law 1217 = .ok (.iconst 2, 1) := by decide +kernel
theorem dL_law_1218 : decode cL_law 1218 = .ok (.iadd, 1) := by decide +kernel
theorem dL_law_1219 : decode cL_law 1219 = .ok (.iaload, 1) := by decide +kernel
theorem dL_law_1220 : decode cL_law 1220 = .ok (.aload_n 0, 1) := by decide +kernel
theorem dL_law_1221 : decode cL_law 1221 = .ok (.iload_n 3, 1) := by decide +kernel
theorem dL_law_1222 : decode cL_law 1222 = .ok (.iconst 3, 1) := by decide +kernel
theorem dL_law_1223 : decode cL_law 1223 = .ok (.iadd, 1) := by decide +kernel
theorem dL_law_1224 : decode cL_law 1224 = .ok (.iaload, 1) := by decide +kernel
theorem dL_law_1225 : decode cL_law 1225 = .ok (.aload_n 0, 1) := by decide +kernel
theorem dL_law_1226 : decode cL_law 1226 = .ok (.iload_n 3, 1) := by decide +kernel
theorem dL_law_1227 : decode cL_law 1227 = .ok (.iconst 4, 1) := by decide +kernel
theorem dL_law_1228 : decode cL_law 1228 = .ok (.iadd, 1) := by decide +kernel
theorem dL_law_1229 : decode cL_law 1229 = .ok (.iaload, 1) := by decide +kernel
theorem dL_law_1230 : decode cL_law 1230 = .ok (.invokevirtual 133, 3) := by decide +kernel
theorem dL_law_1233 : decode cL_law 1233 = .ok (.aload_n 2, 1) := by decide +kernel
theorem dL_law_1234 : decode cL_law 1234 = .ok (.aload_n 0, 1) := by decide +kernel
theorem dL_law_1235 : decode cL_law 1235 = .ok (.iload_n 3, 1) := by decide +kernel
theorem dL_law_1236 : decode cL_law 1236 = .ok (.iconst 1, 1) := by decide +kernel
theorem dL_law_1237 : decode cL_law 1237 = .ok (.iadd, 1) := by decide +kernel
theorem dL_law_1238 : decode cL_law 1238 = .ok (.iaload, 1) := by decide +kernel
theorem dL_law_1239 : decode cL_law 1239 = .ok (.aload_n 0, 1) := by decide +kernel
theorem dL_law_1240 : decode cL_law 1240 = .ok (.iload_n 3, 1) := by decide +kernel
theorem dL_law_1241 : decode cL_law 1241 = .ok (.iconst 2, 1) := by decide +kernel
theorem dL_law_1242 : decode cL_law 1242 = .ok (.iadd, 1) := by decide +kernel
theorem dL_law_1243 : decode cL_law 1243 = .ok (.iaload, 1) := by decide +kernel
theorem dL_law_1244 : decode cL_law 1244 = .ok (.aload_n 0, 1) := by decide +kernel
theorem dL_law_1245 : decode cL_law 1245 = .ok (.iload_n 3, 1) := by decide +kernel
theorem dL_law_1246 : decode cL_law 1246 = .ok (.iconst 3, 1) := by decide +kernel
theorem dL_law_1247 : decode cL_law 1247 = .ok (.iadd, 1) := by decide +kernel
theorem dL_law_1248 : decode cL_law 1248 = .ok (.iaload, 1) := by decide +kernel
theorem dL_law_1249 : decode cL_law 1249 = .ok (.aload_n 0, 1) := by decide +kernel
theorem dL_law_1250 : decode cL_law 1250 = .ok (.iload_n 3, 1) := by decide +kernel
theorem dL_law_1251 : decode cL_law 1251 = .ok (.iconst 4, 1) := by decide +kernel
theorem dL_law_1252 : decode cL_law 1252 = .ok (.iadd, 1) := by decide +kernel
theorem dL_law_1253 : decode cL_law 1253 = .ok (.iaload, 1) := by decide +kernel
theorem dL_law_1254 : decode cL_law 1254 = .ok (.invokevirtual 137, 3) := by decide +kernel
theorem dL_law_1257 : decode cL_law 1257 = .ok (.lcmp, 1) := by decide +kernel
theorem dL_law_1258 : decode cL_law 1258 = .ok (.ifCond .eq 266, 3) := by decide +kernel
theorem dL_law_1261 : decode cL_law 1261 = .ok (.iconst 0, 1) := by decide +kernel
theorem dL_law_1262 : decode cL_law 1262 = .ok (.ireturn, 1) := by decide +kernel
theorem dL_law_1263 : decode cL_law 1263 = .ok (.aload_n 1, 1) := by decide +kernel
theorem dL_law_1264 : decode cL_law 1264 = .ok (.invokevirtual 138, 3) := by decide +kernel
theorem dL_law_1267 : decode cL_law 1267 = .ok (.aload_n 2, 1) := by decide +kernel
theorem dL_law_1268 : decode cL_law 1268 = .ok (.invokevirtual 141, 3) := by decide +kernel
theorem dL_law_1271 : decode cL_law 1271 = .ok (.if_icmp .eq 253, 3) := by decide +kernel
theorem dL_law_1274 : decode cL_law 1274 = .ok (.iconst 0, 1) := by decide +kernel
theorem dL_law_1275 : decode cL_law 1275 = .ok (.ireturn, 1) := by decide +kernel
theorem dL_law_1276 : decode cL_law 1276 = .ok (.aload_n 1, 1) := by decide +kernel
theorem dL_law_1277 : decode cL_law 1277 = .ok (.invokevirtual 142, 3) := by decide +kernel
theorem dL_law_1280 : decode cL_law 1280 = .ok (.aload_n 2, 1) := by decide +kernel
theorem dL_law_1281 : decode cL_law 1281 = .ok (.invokevirtual 145, 3) := by decide +kernel
theorem dL_law_1284 : decode cL_law 1284 = .ok (.if_icmp .eq 240, 3) := by decide +kernel
theorem dL_law_1287 : decode cL_law 1287 = .ok (.iconst 0, 1) := by decide +kernel
theorem dL_law_1288 : decode cL_law 1288 = .ok (.ireturn, 1) := by decide +kernel
theorem dL_law_1289 : decode cL_law 1289 = .ok (.aload_n 1, 1) := by decide +kernel
theorem dL_law_1290 : decode cL_law 1290 = .ok (.aload_n 0, 1) := by decide +kernel
theorem dL_law_1291 : decode cL_law 1291 = .ok (.iload_n 3, 1) := by decide +kernel
theorem dL_law_1292 : decode cL_law 1292 = .ok (.iconst 1, 1) := by decide +kernel
theorem dL_law_1293 : decode cL_law 1293 = .ok (.iadd, 1) := by decide +kernel
theorem dL_law_1294 : decode cL_law 1294 = .ok (.iaload, 1) := by decide +kernel
theorem dL_law_1295 : decode cL_law 1295 = .ok (.aload_n 0, 1) := by decide +kernel
theorem dL_law_1296 : decode cL_law 1296 = .ok (.iload_n 3, 1) := by decide +kernel
theorem dL_law_1297 : decode cL_law 1297 = .ok (.iconst 2, 1) := by decide +kernel
theorem dL_law_1298 : decode cL_law 1298 = .ok (.iadd, 1) := by decide +kernel
theorem dL_law_1299 : decode cL_law 1299 = .ok (.iaload, 1) := by decide +kernel
theorem dL_law_1300 : decode cL_law 1300 = .ok (.aload_n 0, 1) := by decide +kernel
theorem dL_law_1301 : decode cL_law 1301 = .ok (.iload_n 3, 1) := by decide +kernel
theorem dL_law_1302 : decode cL_law 1302 = .ok (.iconst 3, 1) := by decide +kernel
theorem dL_law_1303 : decode cL_law 1303 = .ok (.iadd, 1) := by decide +kernel
theorem dL_law_1304 : decode cL_law 1304 = .ok (.iaload, 1) := by decide +kernel
theorem dL_law_1305 : decode cL_law 1305 = .ok (.invokevirtual 146, 3) := by decide +kernel
theorem dL_law_1308 : decode cL_law 1308 = .ok (.aload_n 2, 1) := by decide +kernel
theorem dL_law_1309 : decode cL_law 1309 = .ok (.aload_n 0, 1) := by decide +kernel
theorem dL_law_1310 : decode cL_law 1310 = .ok (.iload_n 3, 1) := by decide +kernel
theorem dL_law_1311 : decode cL_law 1311 = .ok (.iconst 1, 1) := by decide +kernel
theorem dL_law_1312 : decode cL_law 1312 = .ok (.iadd, 1) := by decide +kernel
theorem dL_law_1313 : decode cL_law 1313 = .ok (.iaload, 1) := by decide +kernel
theorem dL_law_1314 : decode cL_law 1314 = .ok (.aload_n 0, 1) := by decide +kernel
theorem dL_law_1315 : decode cL_law 1315 = .ok (.iload_n 3, 1) := by decide +kernel
theorem dL_law_1316 : decode cL_law 1316 = .ok (.iconst 2, 1) := by decide +kernel
theorem dL_law_1317 : decode cL_law 1317 = .ok (.iadd, 1) := by decide +kernel
theorem dL_law_1318 : decode cL_law 1318 = .ok (.iaload, 1) := by decide +kernel
theorem dL_law_1319 : decode cL_law 1319 = .ok (.aload_n 0, 1) := by decide +kernel
theorem dL_law_1320 : decode cL_law 1320 = .ok (.iload_n 3, 1) := by decide +kernel
theorem dL_law_1321 : decode cL_law 1321 = .ok (.iconst 3, 1) := by decide +kernel
theorem dL_law_1322 : decode cL_law 1322 = .ok (.iadd, 1) := by decide +kernel
theorem dL_law_1323 : decode cL_law 1323 = .ok (.iaload, 1) := by decide +kernel
theorem dL_law_1324 : decode cL_law 1324 = .ok (.invokevirtual 149, 3) := by decide +kernel
theorem dL_law_1327 : decode cL_law 1327 = .ok (.if_icmp .eq 197, 3) := by decide +kernel
theorem dL_law_1330 : decode cL_law 1330 = .ok (.iconst 0, 1) := by decide +kernel
theorem dL_law_1331 : decode cL_law 1331 = .ok (.ireturn, 1) := by decide +kernel
theorem dL_law_1332 : decode cL_law 1332 = .ok (.aload_n 1, 1) := by decide +kernel
theorem dL_law_1333 : decode cL_law 1333 = .ok (.aload_n 0, 1) := by decide +kernel
theorem dL_law_1334 : decode cL_law 1334 = .ok (.iload_n 3, 1) := by decide +kernel
theorem dL_law_1335 : decode cL_law 1335 = .ok (.iconst 1, 1) := by decide +kernel
theorem dL_law_1336 : decode cL_law 1336 = .ok (.iadd, 1) := by decide +kernel
theorem dL_law_1337 : decode cL_law 1337 = .ok (.iaload, 1) := by decide +kernel
theorem dL_law_1338 : decode cL_law 1338 = .ok (.aload_n 0, 1) := by decide +kernel
theorem dL_law_1339 : decode cL_law 1339 = .ok (.iload_n 3, 1) := by decide +kernel
theorem dL_law_1340 : decode cL_law 1340 = .ok (.iconst 2, 1) := by decide +kernel
theorem dL_law_1341 : decode cL_law 1341 = .ok (.iadd, 1) := by decide +kernel
theorem dL_law_1342 : decode cL_law 1342 = .ok (.iaload, 1) := by decide +kernel
theorem dL_law_1343 : decode cL_law 1343 = .ok (.aload_n 0, 1) := by decide +kernel
theorem dL_law_1344 : decode cL_law 1344 = .ok (.iload_n 3, 1) := by decide +kernel
theorem dL_law_1345 : decode cL_law 1345 = .ok (.iconst 3, 1) := by decide +kernel
theorem dL_law_1346 : decode cL_law 1346 = .ok (.iadd, 1) := by decide +kernel
theorem dL_law_1347 : decode cL_law 1347 = .ok (.iaload, 1) := by decide +kernel
theorem dL_law_1348 : decode cL_law 1348 = .ok (.invokevirtual 150, 3) := by decide +kernel
theorem dL_law_1351 : decode cL_law 1351 = .ok (.aload_n 2, 1) := by decide +kernel
theorem dL_law_1352 : decode cL_law 1352 = .ok (.aload_n 0, 1) := by decide +kernel
theorem dL_law_1353 : decode cL_law 1353 = .ok (.iload_n 3, 1) := by decide +kernel
theorem dL_law_1354 : decode cL_law 1354 = .ok (.iconst 1, 1) := by decide +kernel
theorem dL_law_1355 : decode cL_law 1355 = .ok (.iadd, 1) := by decide +kernel
theorem dL_law_1356 : decode cL_law 1356 = .ok (.iaload, 1) := by decide +kernel
theorem dL_law_1357 : decode cL_law 1357 = .ok (.aload_n 0, 1) := by decide +kernel
theorem dL_law_1358 : decode cL_law 1358 = .ok (.iload_n 3, 1) := by decide +kernel
theorem dL_law_1359 : decode cL_law 1359 = .ok (.iconst 2, 1) := by decide +kernel
theorem dL_law_1360 : decode cL_law 1360 = .ok (.iadd, 1) := by decide +kernel
theorem dL_law_1361 : decode cL_law 1361 = .ok (.iaload, 1) := by decide +kernel
theorem dL_law_1362 : decode cL_law 1362 = .ok (.aload_n 0, 1) := by decide +kernel
theorem dL_law_1363 : decode cL_law 1363 = .ok (.iload_n 3, 1) := by decide +kernel
theorem dL_law_1364 : decode cL_law 1364 = .ok (.iconst 3, 1) := by decide +kernel
theorem dL_law_1365 : decode cL_law 1365 = .ok (.iadd, 1) := by decide +kernel
theorem dL_law_1366 : decode cL_law 1366 = .ok (.iaload, 1) := by decide +kernel
theorem dL_law_1367 : decode cL_law 1367 = .ok (.invokevirtual 153, 3) := by decide +kernel
theorem dL_law_1370 : decode cL_law 1370 = .ok (.if_icmp .eq 154, 3) := by decide +kernel
theorem dL_law_1373 : decode cL_law 1373 = .ok (.iconst 0, 1) := by decide +kernel
theorem dL_law_1374 : decode cL_law 1374 = .ok (.ireturn, 1) := by decide +kernel
theorem dL_law_1375 : decode cL_law 1375 = .ok (.aload_n 1, 1) := by decide +kernel
theorem dL_law_1376 : decode cL_law 1376 = .ok (.aload_n 0, 1) := by decide +kernel
theorem dL_law_1377 : decode cL_law 1377 = .ok (.iload_n 3, 1) := by decide +kernel
theorem dL_law_1378 : decode cL_law 1378 = .ok (.iconst 1, 1) := by decide +kernel
theorem dL_law_1379 : decode cL_law 1379 = .ok (.iadd, 1) := by decide +kernel
theorem dL_law_1380 : decode cL_law 1380 = .ok (.iaload, 1) := by decide +kernel
theorem dL_law_1381 : decode cL_law 1381 = .ok (.aload_n 0, 1) := by decide +kernel
theorem dL_law_1382 : decode cL_law 1382 = .ok (.iload_n 3, 1) := by decide +kernel
theorem dL_law_1383 : decode cL_law 1383 = .ok (.iconst 2, 1) := by decide +kernel
theorem dL_law_1384 : decode cL_law 1384 = .ok (.iadd, 1) := by decide +kernel
theorem dL_law_1385 : decode cL_law 1385 = .ok (.iaload, 1) := by decide +kernel
theorem dL_law_1386 : decode cL_law 1386 = .ok (.aload_n 0, 1) := by decide +kernel
theorem dL_law_1387 : decode cL_law 1387 = .ok (.iload_n 3, 1) := by decide +kernel
theorem dL_law_1388 : decode cL_law 1388 = .ok (.iconst 3, 1) := by decide +kernel
theorem dL_law_1389 : decode cL_law 1389 = .ok (.iadd, 1) := by decide +kernel
theorem dL_law_1390 : decode cL_law 1390 = .ok (.iaload, 1) := by decide +kernel
theorem dL_law_1391 : decode cL_law 1391 = .ok (.aload_n 0, 1) := by decide +kernel
theorem dL_law_1392 : decode cL_law 1392 = .ok (.iload_n 3, 1) := by decide +kernel
theorem dL_law_1393 : decode cL_law 1393 = .ok (.iconst 4, 1) := by decide +kernel
theorem dL_law_1394 : decode cL_law 1394 = .ok (.iadd, 1) := by decide +kernel
theorem dL_law_1395 : decode cL_law 1395 = .ok (.iaload, 1) := by decide +kernel
theorem dL_law_1396 : decode cL_law 1396 = .ok (.aload_n 0, 1) := by decide +kernel
theorem dL_law_1397 : decode cL_law 1397 = .ok (.iload_n 3, 1) := by decide +kernel
theorem dL_law_1398 : decode cL_law 1398 = .ok (.iconst 5, 1) := by decide +kernel
theorem dL_law_1399 : decode cL_law 1399 = .ok (.iadd, 1) := by decide +kernel
theorem dL_law_1400 : decode cL_law 1400 = .ok (.iaload, 1) := by decide +kernel
theorem dL_law_1401 : decode cL_law 1401 = .ok (.invokevirtual 154, 3) := by decide +kernel
theorem dL_law_1404 : decode cL_law 1404 = .ok (.aload_n 2, 1) := by decide +kernel
theorem dL_law_1405 : decode cL_law 1405 = .ok (.aload_n 0, 1) := by decide +kernel
theorem dL_law_1406 : decode cL_law 1406 = .ok (.iload_n 3, 1) := by decide +kernel
theorem dL_law_1407 : decode cL_law 1407 = .ok (.iconst 1, 1) := by decide +kernel
theorem dL_law_1408 : decode cL_law 1408 = .ok (.iadd, 1) := by decide +kernel
theorem dL_law_1409 : decode cL_law 1409 = .ok (.iaload, 1) := by decide +kernel
theorem dL_law_1410 : decode cL_law 1410 = .ok (.aload_n 0, 1) := by decide +kernel
theorem dL_law_1411 : decode cL_law 1411 = .ok (.iload_n 3, 1) := by decide +kernel
theorem dL_law_1412 : decode cL_law 1412 = .ok (.iconst 2, 1) := by decide +kernel
theorem dL_law_1413 : decode cL_law 1413 = .ok (.iadd, 1) := by decide +kernel
theorem dL_law_1414 : decode cL_law 1414 = .ok (.iaload, 1) := by decide +kernel
theorem dL_law_1415 : decode cL_law 1415 = .ok (.aload_n 0, 1) := by decide +kernel
theorem dL_law_1416 : decode cL_law 1416 = .ok (.iload_n 3, 1) := by decide +kernel
theorem dL_law_1417 : decode cL_law 1417 = .ok (.iconst 3, 1) := by decide +kernel
theorem dL_law_1418 : decode cL_law 1418 = .ok (.iadd, 1) := by decide +kernel
theorem dL_law_1419 : decode cL_law 1419 = .ok (.iaload, 1) := by decide +kernel
theorem dL_law_1420 : decode cL_law 1420 = .ok (.aload_n 0, 1) := by decide +kernel
theorem dL_law_1421 : decode cL_law 1421 = .ok (.iload_n 3, 1) := by decide +kernel
theorem dL_law_1422 : decode cL_law 1422 = .ok (.iconst 4, 1) := by decide +kernel
theorem dL_law_1423 : decode cL_law 1423 = .ok (.iadd, 1) := by decide +kernel
theorem dL_law_1424 : decode cL_law 1424 = .ok (.iaload, 1) := by decide +kernel
theorem dL_law_1425 : decode cL_law 1425 = .ok (.aload_n 0, 1) := by decide +kernel
theorem dL_law_1426 : decode cL_law 1426 = .ok (.iload_n 3, 1) := by decide +kernel
theorem dL_law_1427 : decode cL_law 1427 = .ok (.iconst 5, 1) := by decide +kernel
theorem dL_law_1428 : decode cL_law 1428 = .ok (.iadd, 1) := by decide +kernel
theorem dL_law_1429 : decode cL_law 1429 = .ok (.iaload, 1) := by decide +kernel
theorem dL_law_1430 : decode cL_law 1430 = .ok (.invokevirtual 157, 3) := by decide +kernel
theorem dL_law_1433 : decode cL_law 1433 = .ok (.if_icmp .eq 91, 3) := by decide +kernel
theorem dL_law_1436 : decode cL_law 1436 = .ok (.iconst 0, 1) := by decide +kernel
theorem dL_law_1437 : decode cL_law 1437 = .ok (.ireturn, 1) := by decide +kernel
theorem dL_law_1438 : decode cL_law 1438 = .ok (.aload_n 1, 1) := by decide +kernel
theorem dL_law_1439 : decode cL_law 1439 = .ok (.aload_n 0, 1) := by decide +kernel
theorem dL_law_1440 : decode cL_law 1440 = .ok (.iload_n 3, 1) := by decide +kernel
theorem dL_law_1441 : decode cL_law 1441 = .ok (.iconst 1, 1) := by decide +kernel
theorem dL_law_1442 : decode cL_law 1442 = .ok (.iadd, 1) := by decide +kernel
theorem dL_law_1443 : decode cL_law 1443 = .ok (.iaload, 1) := by decide +kernel
theorem dL_law_1444 : decode cL_law 1444 = .ok (.aload_n 0, 1) := by decide +kernel
theorem dL_law_1445 : decode cL_law 1445 = .ok (.iload_n 3, 1) := by decide +kernel
theorem dL_law_1446 : decode cL_law 1446 = .ok (.iconst 2, 1) := by decide +kernel
theorem dL_law_1447 : decode cL_law 1447 = .ok (.iadd, 1) := by decide +kernel
theorem dL_law_1448 : decode cL_law 1448 = .ok (.iaload, 1) := by decide +kernel
theorem dL_law_1449 : decode cL_law 1449 = .ok (.aload_n 0, 1) := by decide +kernel
theorem dL_law_1450 : decode cL_law 1450 = .ok (.iload_n 3, 1) := by decide +kernel
theorem dL_law_1451 : decode cL_law 1451 = .ok (.iconst 3, 1) := by decide +kernel
theorem dL_law_1452 : decode cL_law 1452 = .ok (.iadd, 1) := by decide +kernel
theorem dL_law_1453 : decode cL_law 1453 = .ok (.iaload, 1) := by decide +kernel
theorem dL_law_1454 : decode cL_law 1454 = .ok (.aload_n 0, 1) := by decide +kernel
theorem dL_law_1455 : decode cL_law 1455 = .ok (.iload_n 3, 1) := by decide +kernel
theorem dL_law_1456 : decode cL_law 1456 = .ok (.iconst 4, 1) := by decide +kernel
theorem dL_law_1457 : decode cL_law 1457 = .ok (.iadd, 1) := by decide +kernel
theorem dL_law_1458 : decode cL_law 1458 = .ok (.iaload, 1) := by decide +kernel
theorem dL_law_1459 : decode cL_law 1459 = .ok (.invokevirtual 158, 3) := by decide +kernel
theorem dL_law_1462 : decode cL_law 1462 = .ok (.aload_n 2, 1) := by decide +kernel
theorem dL_law_1463 : decode cL_law 1463 = .ok (.aload_n 0, 1) := by decide +kernel
theorem dL_law_1464 : decode cL_law 1464 = .ok (.iload_n 3, 1) := by decide +kernel
theorem dL_law_1465 : decode cL_law 1465 = .ok (.iconst 1, 1) := by decide +kernel
theorem dL_law_1466 : decode cL_law 1466 = .ok (.iadd, 1) := by decide +kernel
theorem dL_law_1467 : decode cL_law 1467 = .ok (.iaload, 1) := by decide +kernel
theorem dL_law_1468 : decode cL_law 1468 = .ok (.aload_n 0, 1) := by decide +kernel
theorem dL_law_1469 : decode cL_law 1469 = .ok (.iload_n 3, 1) := by decide +kernel
theorem dL_law_1470 : decode cL_law 1470 = .ok (.iconst 2, 1) := by decide +kernel
theorem dL_law_1471 : decode cL_law 1471 = .ok (.iadd, 1) := by decide +kernel
theorem dL_law_1472 : decode cL_law 1472 = .ok (.iaload, 1) := by decide +kernel
theorem dL_law_1473 : decode cL_law 1473 = .ok (.aload_n 0, 1) := by decide +kernel
theorem dL_law_1474 : decode cL_law 1474 = .ok (.iload_n 3, 1) := by decide +kernel
theorem dL_law_1475 : decode cL_law 1475 = .ok (.iconst 3, 1) := by decide +kernel
theorem dL_law_1476 : decode cL_law 1476 = .ok (.iadd, 1) := by decide +kernel
theorem dL_law_1477 : decode cL_law 1477 = .ok (.iaload, 1) := by decide +kernel
theorem dL_law_1478 : decode cL_law 1478 = .ok (.aload_n 0, 1) := by decide +kernel
theorem dL_law_1479 : decode cL_law 1479 = .ok (.iload_n 3, 1) := by decide +kernel
theorem dL_law_1480 : decode cL_law 1480 = .ok (.iconst 4, 1) := by decide +kernel
theorem dL_law_1481 : decode cL_law 1481 = .ok (.iadd, 1) := by decide +kernel
theorem dL_law_1482 : decode cL_law 1482 = .ok (.iaload, 1) := by decide +kernel
theorem dL_law_1483 : decode cL_law 1483 = .ok (.invokevirtual 161, 3) := by decide +kernel
theorem dL_law_1486 : decode cL_law 1486 = .ok (.if_icmp .eq 38, 3) := by decide +kernel
theorem dL_law_1489 : decode cL_law 1489 = .ok (.iconst 0, 1) := by decide +kernel
theorem dL_law_1490 : decode cL_law 1490 = .ok (.ireturn, 1) := by decide +kernel
theorem dL_law_1491 : decode cL_law 1491 = .ok (.aload_n 1, 1) := by decide +kernel
theorem dL_law_1492 : decode cL_law 1492 = .ok (.aload_n 0, 1) := by decide +kernel
theorem dL_law_1493 : decode cL_law 1493 = .ok (.iload_n 3, 1) := by decide +kernel
theorem dL_law_1494 : decode cL_law 1494 = .ok (.iconst 1, 1) := by decide +kernel
theorem dL_law_1495 : decode cL_law 1495 = .ok (.iadd, 1) := by decide +kernel
theorem dL_law_1496 : decode cL_law 1496 = .ok (.iaload, 1) := by decide +kernel
theorem dL_law_1497 : decode cL_law 1497 = .ok (.aload_n 0, 1) := by decide +kernel
theorem dL_law_1498 : decode cL_law 1498 = .ok (.iload_n 3, 1) := by decide +kernel
theorem dL_law_1499 : decode cL_law 1499 = .ok (.iconst 2, 1) := by decide +kernel
theorem dL_law_1500 : decode cL_law 1500 = .ok (.iadd, 1) := by decide +kernel
theorem dL_law_1501 : decode cL_law 1501 = .ok (.iaload, 1) := by decide +kernel
theorem dL_law_1502 : decode cL_law 1502 = .ok (.invokevirtual 162, 3) := by decide +kernel
theorem dL_law_1505 : decode cL_law 1505 = .ok (.aload_n 2, 1) := by decide +kernel
theorem dL_law_1506 : decode cL_law 1506 = .ok (.aload_n 0, 1) := by decide +kernel
theorem dL_law_1507 : decode cL_law 1507 = .ok (.iload_n 3, 1) := by decide +kernel
theorem dL_law_1508 : decode cL_law 1508 = .ok (.iconst 1, 1) := by decide +kernel
theorem dL_law_1509 : decode cL_law 1509 = .ok (.iadd, 1) := by decide +kernel
theorem dL_law_1510 : decode cL_law 1510 = .ok (.iaload, 1) := by decide +kernel
theorem dL_law_1511 : decode cL_law 1511 = .ok (.aload_n 0, 1) := by decide +kernel
theorem dL_law_1512 : decode cL_law 1512 = .ok (.iload_n 3, 1) := by decide +kernel
theorem dL_law_1513 : decode cL_law 1513 = .ok (.iconst 2, 1) := by decide +kernel
theorem dL_law_1514 : decode cL_law 1514 = .ok (.iadd, 1) := by decide +kernel
theorem dL_law_1515 : decode cL_law 1515 = .ok (.iaload, 1) := by decide +kernel
theorem dL_law_1516 : decode cL_law 1516 = .ok (.invokevirtual 165, 3) := by decide +kernel
theorem dL_law_1519 : decode cL_law 1519 = .ok (.if_icmp .eq 5, 3) := by decide +kernel
theorem dL_law_1522 : decode cL_law 1522 = .ok (.iconst 0, 1) := by decide +kernel
theorem dL_law_1523 : decode cL_law 1523 = .ok (.ireturn, 1) := by decide +kernel
theorem dL_law_1524 : decode cL_law 1524 = .ok (.iinc 3 7, 3) := by decide +kernel
theorem dL_law_1527 : decode cL_law 1527 = .ok (.goto (-1509), 3) := by decide +kernel
theorem dL_law_1530 : decode cL_law 1530 = .ok (.iconst 1, 1) := by decide +kernel
theorem dL_law_1531 : decode cL_law 1531 = .ok (.ireturn, 1) := by decide +kernel
end
