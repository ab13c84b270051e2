section
-- ===== PART A: goes FIRST, ahead of the names: the tables' words, and 'selects' of the private methods out of them =====
/-- a private method of a class that the tables say can be made, by its rows of tables_1 -/
def lw_okq (q : MethodName × Nat) : Prop := (q.1.cls ≠ "java/lang/invoke/MethodHandle" ∧ q.1.cls ≠ "java/lang/invoke/VarHandle") ∧ Cond.instantiable q.1.cls q.2 ∈ tables_1 ∧ Cond.privateMethod q.1 ∈ tables_1 ∧ Cond.instanceMethod q.1 ∈ tables_1
theorem lw_p0 : lw_okq (⟨"HungMargins$Settings", "store", "(II)V"⟩, 5) := ⟨⟨by decide +kernel, by decide +kernel⟩, List.mem_of_getElem? (i := 77) (by decide +kernel), List.mem_of_getElem? (i := 89) (by decide +kernel), List.mem_of_getElem? (i := 90) (by decide +kernel)⟩
theorem lw_p1 : lw_okq (⟨"HungMargins$Settings", "loseUndone", "()V"⟩, 5) := ⟨⟨by decide +kernel, by decide +kernel⟩, List.mem_of_getElem? (i := 77) (by decide +kernel), List.mem_of_getElem? (i := 95) (by decide +kernel), List.mem_of_getElem? (i := 96) (by decide +kernel)⟩
theorem lw_p2 : lw_okq (⟨"HungMargins$Script", "forgetAll", "()V"⟩, 10) := ⟨⟨by decide +kernel, by decide +kernel⟩, List.mem_of_getElem? (i := 38) (by decide +kernel), List.mem_of_getElem? (i := 306) (by decide +kernel), List.mem_of_getElem? (i := 307) (by decide +kernel)⟩
theorem lw_p3 : lw_okq (⟨"HungMargins$Script", "addPlace", "(I)V"⟩, 10) := ⟨⟨by decide +kernel, by decide +kernel⟩, List.mem_of_getElem? (i := 38) (by decide +kernel), List.mem_of_getElem? (i := 314) (by decide +kernel), List.mem_of_getElem? (i := 315) (by decide +kernel)⟩
theorem lw_p4 : lw_okq (⟨"HungMargins$Script", "endWord", "()V"⟩, 10) := ⟨⟨by decide +kernel, by decide +kernel⟩, List.mem_of_getElem? (i := 38) (by decide +kernel), List.mem_of_getElem? (i := 325) (by decide +kernel), List.mem_of_getElem? (i := 326) (by decide +kernel)⟩
theorem lw_p5 : lw_okq (⟨"HungMargins$Script", "firstLike", "(I)I"⟩, 10) := ⟨⟨by decide +kernel, by decide +kernel⟩, List.mem_of_getElem? (i := 38) (by decide +kernel), List.mem_of_getElem? (i := 333) (by decide +kernel), List.mem_of_getElem? (i := 334) (by decide +kernel)⟩
theorem lw_p6 : lw_okq (⟨"HungMargins$Script", "areSpelledAlike", "(II)Z"⟩, 10) := ⟨⟨by decide +kernel, by decide +kernel⟩, List.mem_of_getElem? (i := 38) (by decide +kernel), List.mem_of_getElem? (i := 337) (by decide +kernel), List.mem_of_getElem? (i := 338) (by decide +kernel)⟩
theorem lw_p7 : lw_okq (⟨"HungMargins", "isPlace", "(I)Z"⟩, 12) := ⟨⟨by decide +kernel, by decide +kernel⟩, List.mem_of_getElem? (i := 13) (by decide +kernel), List.mem_of_getElem? (i := 375) (by decide +kernel), List.mem_of_getElem? (i := 376) (by decide +kernel)⟩
theorem lw_p8 : lw_okq (⟨"HungMargins", "change", "(II)I"⟩, 12) := ⟨⟨by decide +kernel, by decide +kernel⟩, List.mem_of_getElem? (i := 13) (by decide +kernel), List.mem_of_getElem? (i := 396) (by decide +kernel), List.mem_of_getElem? (i := 397) (by decide +kernel)⟩
theorem lw_p9 : lw_okq (⟨"HungMargins", "markStale", "(I)V"⟩, 12) := ⟨⟨by decide +kernel, by decide +kernel⟩, List.mem_of_getElem? (i := 13) (by decide +kernel), List.mem_of_getElem? (i := 424) (by decide +kernel), List.mem_of_getElem? (i := 425) (by decide +kernel)⟩
theorem lw_p10 : lw_okq (⟨"HungMargins", "freshen", "()V"⟩, 12) := ⟨⟨by decide +kernel, by decide +kernel⟩, List.mem_of_getElem? (i := 13) (by decide +kernel), List.mem_of_getElem? (i := 461) (by decide +kernel), List.mem_of_getElem? (i := 462) (by decide +kernel)⟩
theorem lw_p11 : lw_okq (⟨"HungMargins$Lengths", "takeWord", "(LHungMargins$Script;LHungMargins$Settings;II)I"⟩, 9) := ⟨⟨by decide +kernel, by decide +kernel⟩, List.mem_of_getElem? (i := 120) (by decide +kernel), List.mem_of_getElem? (i := 473) (by decide +kernel), List.mem_of_getElem? (i := 474) (by decide +kernel)⟩
theorem lw_p12 : lw_okq (⟨"HungMargins$Lengths", "addPlace", "(IIIII)V"⟩, 9) := ⟨⟨by decide +kernel, by decide +kernel⟩, List.mem_of_getElem? (i := 120) (by decide +kernel), List.mem_of_getElem? (i := 489) (by decide +kernel), List.mem_of_getElem? (i := 490) (by decide +kernel)⟩
theorem lw_p13 : lw_okq (⟨"HungMargins$Breaker", "chooseEnd", "(LHungMargins$Lengths;III)V"⟩, 3) := ⟨⟨by decide +kernel, by decide +kernel⟩, List.mem_of_getElem? (i := 156) (by decide +kernel), List.mem_of_getElem? (i := 506) (by decide +kernel), List.mem_of_getElem? (i := 507) (by decide +kernel)⟩
theorem lw_p14 : lw_okq (⟨"HungMargins$Sheet", "setLine", "(LHungMargins$Lengths;II)V"⟩, 8) := ⟨⟨by decide +kernel, by decide +kernel⟩, List.mem_of_getElem? (i := 172) (by decide +kernel), List.mem_of_getElem? (i := 545) (by decide +kernel), List.mem_of_getElem? (i := 546) (by decide +kernel)⟩
theorem lw_p15 : lw_okq (⟨"HungMargins$Sheet", "addBlank", "(II)V"⟩, 8) := ⟨⟨by decide +kernel, by decide +kernel⟩, List.mem_of_getElem? (i := 172) (by decide +kernel), List.mem_of_getElem? (i := 573) (by decide +kernel), List.mem_of_getElem? (i := 574) (by decide +kernel)⟩
def lw_privs_1 : List (MethodName × Nat) := [(⟨"HungMargins$Settings", "store", "(II)V"⟩, 5), (⟨"HungMargins$Settings", "loseUndone", "()V"⟩, 5), (⟨"HungMargins$Script", "forgetAll", "()V"⟩, 10), (⟨"HungMargins$Script", "addPlace", "(I)V"⟩, 10), (⟨"HungMargins$Script", "endWord", "()V"⟩, 10), (⟨"HungMargins$Script", "firstLike", "(I)I"⟩, 10), (⟨"HungMargins$Script", "areSpelledAlike", "(II)Z"⟩, 10), (⟨"HungMargins", "isPlace", "(I)Z"⟩, 12), (⟨"HungMargins", "change", "(II)I"⟩, 12), (⟨"HungMargins", "markStale", "(I)V"⟩, 12), (⟨"HungMargins", "freshen", "()V"⟩, 12), (⟨"HungMargins$Lengths", "takeWord", "(LHungMargins$Script;LHungMargins$Settings;II)I"⟩, 9), (⟨"HungMargins$Lengths", "addPlace", "(IIIII)V"⟩, 9), (⟨"HungMargins$Breaker", "chooseEnd", "(LHungMargins$Lengths;III)V"⟩, 3), (⟨"HungMargins$Sheet", "setLine", "(LHungMargins$Lengths;II)V"⟩, 8), (⟨"HungMargins$Sheet", "addBlank", "(II)V"⟩, 8)]
theorem lw_r1 : ∀ q ∈ lw_privs_1, lw_okq q := List.forall_mem_cons.mpr ⟨lw_p0, List.forall_mem_cons.mpr ⟨lw_p1, List.forall_mem_cons.mpr ⟨lw_p2, List.forall_mem_cons.mpr ⟨lw_p3, List.forall_mem_cons.mpr ⟨lw_p4, List.forall_mem_cons.mpr ⟨lw_p5, List.forall_mem_cons.mpr ⟨lw_p6, List.forall_mem_cons.mpr ⟨lw_p7, List.forall_mem_cons.mpr ⟨lw_p8, List.forall_mem_cons.mpr ⟨lw_p9, List.forall_mem_cons.mpr ⟨lw_p10, List.forall_mem_cons.mpr ⟨lw_p11, List.forall_mem_cons.mpr ⟨lw_p12, List.forall_mem_cons.mpr ⟨lw_p13, List.forall_mem_cons.mpr ⟨lw_p14, List.forall_mem_cons.mpr ⟨lw_p15, fun _ h => absurd h List.not_mem_nil⟩⟩⟩⟩⟩⟩⟩⟩⟩⟩⟩⟩⟩⟩⟩⟩
theorem lw_p16 : lw_okq (⟨"HungMargins$Sheet", "measureRivers", "()V"⟩, 8) := ⟨⟨by decide +kernel, by decide +kernel⟩, List.mem_of_getElem? (i := 172) (by decide +kernel), List.mem_of_getElem? (i := 578) (by decide +kernel), List.mem_of_getElem? (i := 579) (by decide +kernel)⟩
theorem lw_p17 : lw_okq (⟨"HungMargins$Sheet", "longestMet", "(II)I"⟩, 8) := ⟨⟨by decide +kernel, by decide +kernel⟩, List.mem_of_getElem? (i := 172) (by decide +kernel), List.mem_of_getElem? (i := 587) (by decide +kernel), List.mem_of_getElem? (i := 588) (by decide +kernel)⟩
theorem lw_p18 : lw_okq (⟨"HungMargins$Sheet", "meet", "(II)Z"⟩, 8) := ⟨⟨by decide +kernel, by decide +kernel⟩, List.mem_of_getElem? (i := 172) (by decide +kernel), List.mem_of_getElem? (i := 591) (by decide +kernel), List.mem_of_getElem? (i := 592) (by decide +kernel)⟩
theorem lw_p19 : lw_okq (⟨"HungMargins$Sheet", "meetsAny", "(II)Z"⟩, 8) := ⟨⟨by decide +kernel, by decide +kernel⟩, List.mem_of_getElem? (i := 172) (by decide +kernel), List.mem_of_getElem? (i := 597) (by decide +kernel), List.mem_of_getElem? (i := 598) (by decide +kernel)⟩
theorem lw_p20 : lw_okq (⟨"HungMargins", "lastOfDraft", "()I"⟩, 12) := ⟨⟨by decide +kernel, by decide +kernel⟩, List.mem_of_getElem? (i := 13) (by decide +kernel), List.mem_of_getElem? (i := 679) (by decide +kernel), List.mem_of_getElem? (i := 680) (by decide +kernel)⟩
theorem lw_p21 : lw_okq (⟨"HungMargins", "firstWrongLine", "()I"⟩, 12) := ⟨⟨by decide +kernel, by decide +kernel⟩, List.mem_of_getElem? (i := 13) (by decide +kernel), List.mem_of_getElem? (i := 692) (by decide +kernel), List.mem_of_getElem? (i := 693) (by decide +kernel)⟩
theorem lw_p22 : lw_okq (⟨"HungMargins", "costOfDraft", "()I"⟩, 12) := ⟨⟨by decide +kernel, by decide +kernel⟩, List.mem_of_getElem? (i := 13) (by decide +kernel), List.mem_of_getElem? (i := 696) (by decide +kernel), List.mem_of_getElem? (i := 697) (by decide +kernel)⟩
theorem lw_p23 : lw_okq (⟨"HungMargins", "freshenSurvey", "()V"⟩, 12) := ⟨⟨by decide +kernel, by decide +kernel⟩, List.mem_of_getElem? (i := 13) (by decide +kernel), List.mem_of_getElem? (i := 704) (by decide +kernel), List.mem_of_getElem? (i := 705) (by decide +kernel)⟩
theorem lw_p24 : lw_okq (⟨"HungMargins$Survey", "note", "(ILHungMargins$Breaker;)V"⟩, 3) := ⟨⟨by decide +kernel, by decide +kernel⟩, List.mem_of_getElem? (i := 205) (by decide +kernel), List.mem_of_getElem? (i := 714) (by decide +kernel), List.mem_of_getElem? (i := 715) (by decide +kernel)⟩
theorem lw_p25 : lw_okq (⟨"HungMargins$Survey", "beginsLine", "(ILHungMargins$Script;I)Z"⟩, 3) := ⟨⟨by decide +kernel, by decide +kernel⟩, List.mem_of_getElem? (i := 205) (by decide +kernel), List.mem_of_getElem? (i := 748) (by decide +kernel), List.mem_of_getElem? (i := 749) (by decide +kernel)⟩
theorem lw_p26 : lw_okq (⟨"HungMargins$Survey", "endsAt", "(II)Z"⟩, 3) := ⟨⟨by decide +kernel, by decide +kernel⟩, List.mem_of_getElem? (i := 205) (by decide +kernel), List.mem_of_getElem? (i := 756) (by decide +kernel), List.mem_of_getElem? (i := 757) (by decide +kernel)⟩
theorem lw_p27 : lw_okq (⟨"HungMarginsModel", "begins", "()V"⟩, 37) := ⟨⟨by decide +kernel, by decide +kernel⟩, List.mem_of_getElem? (i := 788) (by decide +kernel), List.mem_of_getElem? (i := 794) (by decide +kernel), List.mem_of_getElem? (i := 795) (by decide +kernel)⟩
theorem lw_p28 : lw_okq (⟨"HungMarginsModel", "fault", "()I"⟩, 37) := ⟨⟨by decide +kernel, by decide +kernel⟩, List.mem_of_getElem? (i := 788) (by decide +kernel), List.mem_of_getElem? (i := 925) (by decide +kernel), List.mem_of_getElem? (i := 926) (by decide +kernel)⟩
theorem lw_p29 : lw_okq (⟨"HungMarginsModel", "isWholeAt", "(I)Z"⟩, 37) := ⟨⟨by decide +kernel, by decide +kernel⟩, List.mem_of_getElem? (i := 788) (by decide +kernel), List.mem_of_getElem? (i := 929) (by decide +kernel), List.mem_of_getElem? (i := 930) (by decide +kernel)⟩
theorem lw_p30 : lw_okq (⟨"HungMarginsModel", "laysPlace", "(IIZ)V"⟩, 37) := ⟨⟨by decide +kernel, by decide +kernel⟩, List.mem_of_getElem? (i := 788) (by decide +kernel), List.mem_of_getElem? (i := 939) (by decide +kernel), List.mem_of_getElem? (i := 940) (by decide +kernel)⟩
theorem lw_p31 : lw_okq (⟨"HungMarginsModel", "isWord", "(I)Z"⟩, 37) := ⟨⟨by decide +kernel, by decide +kernel⟩, List.mem_of_getElem? (i := 788) (by decide +kernel), List.mem_of_getElem? (i := 947) (by decide +kernel), List.mem_of_getElem? (i := 948) (by decide +kernel)⟩
def lw_privs_2 : List (MethodName × Nat) := [(⟨"HungMargins$Sheet", "measureRivers", "()V"⟩, 8), (⟨"HungMargins$Sheet", "longestMet", "(II)I"⟩, 8), (⟨"HungMargins$Sheet", "meet", "(II)Z"⟩, 8), (⟨"HungMargins$Sheet", "meetsAny", "(II)Z"⟩, 8), (⟨"HungMargins", "lastOfDraft", "()I"⟩, 12), (⟨"HungMargins", "firstWrongLine", "()I"⟩, 12), (⟨"HungMargins", "costOfDraft", "()I"⟩, 12), (⟨"HungMargins", "freshenSurvey", "()V"⟩, 12), (⟨"HungMargins$Survey", "note", "(ILHungMargins$Breaker;)V"⟩, 3), (⟨"HungMargins$Survey", "beginsLine", "(ILHungMargins$Script;I)Z"⟩, 3), (⟨"HungMargins$Survey", "endsAt", "(II)Z"⟩, 3), (⟨"HungMarginsModel", "begins", "()V"⟩, 37), (⟨"HungMarginsModel", "fault", "()I"⟩, 37), (⟨"HungMarginsModel", "isWholeAt", "(I)Z"⟩, 37), (⟨"HungMarginsModel", "laysPlace", "(IIZ)V"⟩, 37), (⟨"HungMarginsModel", "isWord", "(I)Z"⟩, 37)]
theorem lw_r2 : ∀ q ∈ lw_privs_2, lw_okq q := List.forall_mem_cons.mpr ⟨lw_p16, List.forall_mem_cons.mpr ⟨lw_p17, List.forall_mem_cons.mpr ⟨lw_p18, List.forall_mem_cons.mpr ⟨lw_p19, List.forall_mem_cons.mpr ⟨lw_p20, List.forall_mem_cons.mpr ⟨lw_p21, List.forall_mem_cons.mpr ⟨lw_p22, List.forall_mem_cons.mpr ⟨lw_p23, List.forall_mem_cons.mpr ⟨lw_p24, List.forall_mem_cons.mpr ⟨lw_p25, List.forall_mem_cons.mpr ⟨lw_p26, List.forall_mem_cons.mpr ⟨lw_p27, List.forall_mem_cons.mpr ⟨lw_p28, List.forall_mem_cons.mpr ⟨lw_p29, List.forall_mem_cons.mpr ⟨lw_p30, List.forall_mem_cons.mpr ⟨lw_p31, fun _ h => absurd h List.not_mem_nil⟩⟩⟩⟩⟩⟩⟩⟩⟩⟩⟩⟩⟩⟩⟩⟩
theorem lw_p32 : lw_okq (⟨"HungMarginsModel", "firstLike", "(I)I"⟩, 37) := ⟨⟨by decide +kernel, by decide +kernel⟩, List.mem_of_getElem? (i := 788) (by decide +kernel), List.mem_of_getElem? (i := 955) (by decide +kernel), List.mem_of_getElem? (i := 956) (by decide +kernel)⟩
theorem lw_p33 : lw_okq (⟨"HungMarginsModel", "areAlike", "(II)Z"⟩, 37) := ⟨⟨by decide +kernel, by decide +kernel⟩, List.mem_of_getElem? (i := 788) (by decide +kernel), List.mem_of_getElem? (i := 959) (by decide +kernel), List.mem_of_getElem? (i := 960) (by decide +kernel)⟩
theorem lw_p34 : lw_okq (⟨"HungMarginsModel", "isPlace", "(I)Z"⟩, 37) := ⟨⟨by decide +kernel, by decide +kernel⟩, List.mem_of_getElem? (i := 788) (by decide +kernel), List.mem_of_getElem? (i := 967) (by decide +kernel), List.mem_of_getElem? (i := 968) (by decide +kernel)⟩
theorem lw_p35 : lw_okq (⟨"HungMarginsModel", "becomes", "(II)I"⟩, 37) := ⟨⟨by decide +kernel, by decide +kernel⟩, List.mem_of_getElem? (i := 788) (by decide +kernel), List.mem_of_getElem? (i := 978) (by decide +kernel), List.mem_of_getElem? (i := 979) (by decide +kernel)⟩
theorem lw_p36 : lw_okq (⟨"HungMarginsModel", "notes", "()V"⟩, 37) := ⟨⟨by decide +kernel, by decide +kernel⟩, List.mem_of_getElem? (i := 788) (by decide +kernel), List.mem_of_getElem? (i := 982) (by decide +kernel), List.mem_of_getElem? (i := 983) (by decide +kernel)⟩
theorem lw_p37 : lw_okq (⟨"HungMarginsModel", "laysPage", "(I)Z"⟩, 37) := ⟨⟨by decide +kernel, by decide +kernel⟩, List.mem_of_getElem? (i := 788) (by decide +kernel), List.mem_of_getElem? (i := 1002) (by decide +kernel), List.mem_of_getElem? (i := 1003) (by decide +kernel)⟩
theorem lw_p38 : lw_okq (⟨"HungMarginsModel", "sums", "()V"⟩, 37) := ⟨⟨by decide +kernel, by decide +kernel⟩, List.mem_of_getElem? (i := 788) (by decide +kernel), List.mem_of_getElem? (i := 1006) (by decide +kernel), List.mem_of_getElem? (i := 1007) (by decide +kernel)⟩
theorem lw_p39 : lw_okq (⟨"HungMarginsModel", "looksFrom", "(II)V"⟩, 37) := ⟨⟨by decide +kernel, by decide +kernel⟩, List.mem_of_getElem? (i := 788) (by decide +kernel), List.mem_of_getElem? (i := 1010) (by decide +kernel), List.mem_of_getElem? (i := 1011) (by decide +kernel)⟩
theorem lw_p40 : lw_okq (⟨"HungMarginsModel", "left", "(III)I"⟩, 37) := ⟨⟨by decide +kernel, by decide +kernel⟩, List.mem_of_getElem? (i := 788) (by decide +kernel), List.mem_of_getElem? (i := 1014) (by decide +kernel), List.mem_of_getElem? (i := 1015) (by decide +kernel)⟩
theorem lw_p41 : lw_okq (⟨"HungMarginsModel", "hung", "(I)I"⟩, 37) := ⟨⟨by decide +kernel, by decide +kernel⟩, List.mem_of_getElem? (i := 788) (by decide +kernel), List.mem_of_getElem? (i := 1018) (by decide +kernel), List.mem_of_getElem? (i := 1019) (by decide +kernel)⟩
theorem lw_p42 : lw_okq (⟨"HungMarginsModel", "natural", "(II)I"⟩, 37) := ⟨⟨by decide +kernel, by decide +kernel⟩, List.mem_of_getElem? (i := 788) (by decide +kernel), List.mem_of_getElem? (i := 1022) (by decide +kernel), List.mem_of_getElem? (i := 1023) (by decide +kernel)⟩
theorem lw_p43 : lw_okq (⟨"HungMarginsModel", "firstWord", "(I)I"⟩, 37) := ⟨⟨by decide +kernel, by decide +kernel⟩, List.mem_of_getElem? (i := 788) (by decide +kernel), List.mem_of_getElem? (i := 1026) (by decide +kernel), List.mem_of_getElem? (i := 1027) (by decide +kernel)⟩
theorem lw_p44 : lw_okq (⟨"HungMarginsModel", "firstLetter", "(I)I"⟩, 37) := ⟨⟨by decide +kernel, by decide +kernel⟩, List.mem_of_getElem? (i := 788) (by decide +kernel), List.mem_of_getElem? (i := 1030) (by decide +kernel), List.mem_of_getElem? (i := 1031) (by decide +kernel)⟩
theorem lw_p45 : lw_okq (⟨"HungMarginsModel", "costOf", "(III)I"⟩, 37) := ⟨⟨by decide +kernel, by decide +kernel⟩, List.mem_of_getElem? (i := 788) (by decide +kernel), List.mem_of_getElem? (i := 1034) (by decide +kernel), List.mem_of_getElem? (i := 1035) (by decide +kernel)⟩
theorem lw_p46 : lw_okq (⟨"HungMarginsModel", "rough", "()I"⟩, 37) := ⟨⟨by decide +kernel, by decide +kernel⟩, List.mem_of_getElem? (i := 788) (by decide +kernel), List.mem_of_getElem? (i := 1038) (by decide +kernel), List.mem_of_getElem? (i := 1039) (by decide +kernel)⟩
theorem lw_p47 : lw_okq (⟨"HungMarginsModel", "endOf", "(I)I"⟩, 37) := ⟨⟨by decide +kernel, by decide +kernel⟩, List.mem_of_getElem? (i := 788) (by decide +kernel), List.mem_of_getElem? (i := 1042) (by decide +kernel), List.mem_of_getElem? (i := 1043) (by decide +kernel)⟩
def lw_privs_3 : List (MethodName × Nat) := [(⟨"HungMarginsModel", "firstLike", "(I)I"⟩, 37), (⟨"HungMarginsModel", "areAlike", "(II)Z"⟩, 37), (⟨"HungMarginsModel", "isPlace", "(I)Z"⟩, 37), (⟨"HungMarginsModel", "becomes", "(II)I"⟩, 37), (⟨"HungMarginsModel", "notes", "()V"⟩, 37), (⟨"HungMarginsModel", "laysPage", "(I)Z"⟩, 37), (⟨"HungMarginsModel", "sums", "()V"⟩, 37), (⟨"HungMarginsModel", "looksFrom", "(II)V"⟩, 37), (⟨"HungMarginsModel", "left", "(III)I"⟩, 37), (⟨"HungMarginsModel", "hung", "(I)I"⟩, 37), (⟨"HungMarginsModel", "natural", "(II)I"⟩, 37), (⟨"HungMarginsModel", "firstWord", "(I)I"⟩, 37), (⟨"HungMarginsModel", "firstLetter", "(I)I"⟩, 37), (⟨"HungMarginsModel", "costOf", "(III)I"⟩, 37), (⟨"HungMarginsModel", "rough", "()I"⟩, 37), (⟨"HungMarginsModel", "endOf", "(I)I"⟩, 37)]
theorem lw_r3 : ∀ q ∈ lw_privs_3, lw_okq q := List.forall_mem_cons.mpr ⟨lw_p32, List.forall_mem_cons.mpr ⟨lw_p33, List.forall_mem_cons.mpr ⟨lw_p34, List.forall_mem_cons.mpr ⟨lw_p35, List.forall_mem_cons.mpr ⟨lw_p36, List.forall_mem_cons.mpr ⟨lw_p37, List.forall_mem_cons.mpr ⟨lw_p38, List.forall_mem_cons.mpr ⟨lw_p39, List.forall_mem_cons.mpr ⟨lw_p40, List.forall_mem_cons.mpr ⟨lw_p41, List.forall_mem_cons.mpr ⟨lw_p42, List.forall_mem_cons.mpr ⟨lw_p43, List.forall_mem_cons.mpr ⟨lw_p44, List.forall_mem_cons.mpr ⟨lw_p45, List.forall_mem_cons.mpr ⟨lw_p46, List.forall_mem_cons.mpr ⟨lw_p47, fun _ h => absurd h List.not_mem_nil⟩⟩⟩⟩⟩⟩⟩⟩⟩⟩⟩⟩⟩⟩⟩⟩
theorem lw_p48 : lw_okq (⟨"HungMarginsModel", "before", "(I)I"⟩, 37) := ⟨⟨by decide +kernel, by decide +kernel⟩, List.mem_of_getElem? (i := 788) (by decide +kernel), List.mem_of_getElem? (i := 1046) (by decide +kernel), List.mem_of_getElem? (i := 1047) (by decide +kernel)⟩
theorem lw_p49 : lw_okq (⟨"HungMarginsModel", "isGiving", "(I)Z"⟩, 37) := ⟨⟨by decide +kernel, by decide +kernel⟩, List.mem_of_getElem? (i := 788) (by decide +kernel), List.mem_of_getElem? (i := 1050) (by decide +kernel), List.mem_of_getElem? (i := 1051) (by decide +kernel)⟩
theorem lw_p50 : lw_okq (⟨"HungMarginsModel", "blanksOf", "(I)I"⟩, 37) := ⟨⟨by decide +kernel, by decide +kernel⟩, List.mem_of_getElem? (i := 788) (by decide +kernel), List.mem_of_getElem? (i := 1054) (by decide +kernel), List.mem_of_getElem? (i := 1055) (by decide +kernel)⟩
theorem lw_p51 : lw_okq (⟨"HungMarginsModel", "leftIn", "(I)I"⟩, 37) := ⟨⟨by decide +kernel, by decide +kernel⟩, List.mem_of_getElem? (i := 788) (by decide +kernel), List.mem_of_getElem? (i := 1058) (by decide +kernel), List.mem_of_getElem? (i := 1059) (by decide +kernel)⟩
theorem lw_p52 : lw_okq (⟨"HungMarginsModel", "laysBlanks", "()V"⟩, 37) := ⟨⟨by decide +kernel, by decide +kernel⟩, List.mem_of_getElem? (i := 788) (by decide +kernel), List.mem_of_getElem? (i := 1062) (by decide +kernel), List.mem_of_getElem? (i := 1063) (by decide +kernel)⟩
theorem lw_p53 : lw_okq (⟨"HungMarginsModel", "rivers", "()V"⟩, 37) := ⟨⟨by decide +kernel, by decide +kernel⟩, List.mem_of_getElem? (i := 788) (by decide +kernel), List.mem_of_getElem? (i := 1066) (by decide +kernel), List.mem_of_getElem? (i := 1067) (by decide +kernel)⟩
theorem lw_p54 : lw_okq (⟨"HungMarginsModel", "areCommon", "(II)Z"⟩, 37) := ⟨⟨by decide +kernel, by decide +kernel⟩, List.mem_of_getElem? (i := 788) (by decide +kernel), List.mem_of_getElem? (i := 1070) (by decide +kernel), List.mem_of_getElem? (i := 1071) (by decide +kernel)⟩
theorem lw_p55 : lw_okq (⟨"HungMarginsModel", "finds", "(I)V"⟩, 37) := ⟨⟨by decide +kernel, by decide +kernel⟩, List.mem_of_getElem? (i := 788) (by decide +kernel), List.mem_of_getElem? (i := 1103) (by decide +kernel), List.mem_of_getElem? (i := 1104) (by decide +kernel)⟩
theorem lw_p56 : lw_okq (⟨"HungMarginsModel", "found", "(I)I"⟩, 37) := ⟨⟨by decide +kernel, by decide +kernel⟩, List.mem_of_getElem? (i := 788) (by decide +kernel), List.mem_of_getElem? (i := 1107) (by decide +kernel), List.mem_of_getElem? (i := 1108) (by decide +kernel)⟩
theorem lw_p57 : lw_okq (⟨"HungMarginsModel", "isBegun", "(I)Z"⟩, 37) := ⟨⟨by decide +kernel, by decide +kernel⟩, List.mem_of_getElem? (i := 788) (by decide +kernel), List.mem_of_getElem? (i := 1123) (by decide +kernel), List.mem_of_getElem? (i := 1124) (by decide +kernel)⟩
theorem lw_p58 : lw_okq (⟨"HungMarginsModel", "differents", "()I"⟩, 37) := ⟨⟨by decide +kernel, by decide +kernel⟩, List.mem_of_getElem? (i := 788) (by decide +kernel), List.mem_of_getElem? (i := 1139) (by decide +kernel), List.mem_of_getElem? (i := 1140) (by decide +kernel)⟩
def lw_privs_4 : List (MethodName × Nat) := [(⟨"HungMarginsModel", "before", "(I)I"⟩, 37), (⟨"HungMarginsModel", "isGiving", "(I)Z"⟩, 37), (⟨"HungMarginsModel", "blanksOf", "(I)I"⟩, 37), (⟨"HungMarginsModel", "leftIn", "(I)I"⟩, 37), (⟨"HungMarginsModel", "laysBlanks", "()V"⟩, 37), (⟨"HungMarginsModel", "rivers", "()V"⟩, 37), (⟨"HungMarginsModel", "areCommon", "(II)Z"⟩, 37), (⟨"HungMarginsModel", "finds", "(I)V"⟩, 37), (⟨"HungMarginsModel", "found", "(I)I"⟩, 37), (⟨"HungMarginsModel", "isBegun", "(I)Z"⟩, 37), (⟨"HungMarginsModel", "differents", "()I"⟩, 37)]
theorem lw_r4 : ∀ q ∈ lw_privs_4, lw_okq q := List.forall_mem_cons.mpr ⟨lw_p48, List.forall_mem_cons.mpr ⟨lw_p49, List.forall_mem_cons.mpr ⟨lw_p50, List.forall_mem_cons.mpr ⟨lw_p51, List.forall_mem_cons.mpr ⟨lw_p52, List.forall_mem_cons.mpr ⟨lw_p53, List.forall_mem_cons.mpr ⟨lw_p54, List.forall_mem_cons.mpr ⟨lw_p55, List.forall_mem_cons.mpr ⟨lw_p56, List.forall_mem_cons.mpr ⟨lw_p57, List.forall_mem_cons.mpr ⟨lw_p58, fun _ h => absurd h List.not_mem_nil⟩⟩⟩⟩⟩⟩⟩⟩⟩⟩⟩
def lw_privs : List (MethodName × Nat) := lw_privs_1 ++ (lw_privs_2 ++ (lw_privs_3 ++ (lw_privs_4)))
def lw_tbl : List Cond := k2_sels lw_privs ++ tables_1
theorem lw_privs_ok : ∀ q ∈ lw_privs, lw_okq q := by
  show ∀ q ∈ lw_privs_1 ++ (lw_privs_2 ++ (lw_privs_3 ++ (lw_privs_4))), lw_okq q
  exact List.forall_mem_append.mpr ⟨lw_r1, List.forall_mem_append.mpr ⟨lw_r2, List.forall_mem_append.mpr ⟨lw_r3, lw_r4⟩⟩⟩
def RX0 : String := "HungMargins$Breaker"
def TX0 : u_T := fun k => match k with
  | 0 => ("HungMargins$Breaker", "costs", "[I", true)
  | 1 => ("HungMargins$Breaker", "lineCounts", "[I", true)
  | _ => ("HungMargins$Breaker", "nextEnds", "[I", true)
def tyX0 : Nat → FieldType := fun k => match k with
  | 0 => .array .int
  | 1 => .array .int
  | _ => .array .int
abbrev wsX00 : List Cond := u_ws RX0 TX0 3
theorem nmX0 : ∀ a, a < 3 → ∀ b, b < 3 → a ≠ b → (TX0 a).2.1 ≠ (TX0 b).2.1 := by decide +kernel
theorem tyX0_ok : ∀ k, k < 3 → parseFieldDescriptor (TX0 k).2.2.1 = some (tyX0 k) := by decide +kernel
abbrev cX0_init : ByteArray := prog_2_method_1_code
def yX0_init : MethodName := ⟨RX0, "<init>", "()V"⟩
abbrev cX0_solve : ByteArray := prog_2_method_2_code
def yX0_solve : MethodName := ⟨RX0, "solve", "(LHungMargins$Lengths;I)V"⟩
abbrev cX0_chooseEnd : ByteArray := prog_2_method_3_code
def yX0_chooseEnd : MethodName := ⟨RX0, "chooseEnd", "(LHungMargins$Lengths;III)V"⟩
abbrev cX0_hasPage : ByteArray := prog_2_method_4_code
def yX0_hasPage : MethodName := ⟨RX0, "hasPage", "()Z"⟩
abbrev cX0_cost : ByteArray := prog_2_method_5_code
def yX0_cost : MethodName := ⟨RX0, "cost", "()I"⟩
abbrev cX0_lineCount : ByteArray := prog_2_method_6_code
def yX0_lineCount : MethodName := ⟨RX0, "lineCount", "()I"⟩
abbrev cX0_endBehind : ByteArray := prog_2_method_7_code
def yX0_endBehind : MethodName := ⟨RX0, "endBehind", "(I)I"⟩
def RX1 : String := "HungMargins$Lengths"
def TX1 : u_T := fun k => match k with
  | 0 => ("HungMargins$Lengths", "ends", "LHungMargins$Row;", true)
  | 1 => ("HungMargins$Lengths", "hung", "LHungMargins$Row;", true)
  | 2 => ("HungMargins$Lengths", "slashes", "LHungMargins$Row;", true)
  | 3 => ("HungMargins$Lengths", "inWord", "LHungMargins$Row;", true)
  | 4 => ("HungMargins$Lengths", "begins", "LHungMargins$Row;", true)
  | 5 => ("HungMargins$Lengths", "gap", "I", false)
  | 6 => ("HungMargins$Lengths", "measure", "I", false)
  | 7 => ("HungMargins$Lengths", "parted", "I", false)
  | _ => ("HungMargins$Lengths", "again", "I", false)
def tyX1 : Nat → FieldType := fun k => match k with
  | 0 => .object "HungMargins$Row"
  | 1 => .object "HungMargins$Row"
  | 2 => .object "HungMargins$Row"
  | 3 => .object "HungMargins$Row"
  | 4 => .object "HungMargins$Row"
  | 5 => .int
  | 6 => .int
  | 7 => .int
  | _ => .int
abbrev wsX10 : List Cond := u_ws RX1 TX1 9
theorem nmX1 : ∀ a, a < 9 → ∀ b, b < 9 → a ≠ b → (TX1 a).2.1 ≠ (TX1 b).2.1 := by decide +kernel
theorem tyX1_ok : ∀ k, k < 9 → parseFieldDescriptor (TX1 k).2.2.1 = some (tyX1 k) := by decide +kernel
abbrev cX1_init : ByteArray := prog_3_method_1_code
def yX1_init : MethodName := ⟨RX1, "<init>", "()V"⟩
abbrev cX1_take : ByteArray := prog_3_method_2_code
def yX1_take : MethodName := ⟨RX1, "take", "(LHungMargins$Script;LHungMargins$Settings;)V"⟩
abbrev cX1_takeWord : ByteArray := prog_3_method_3_code
def yX1_takeWord : MethodName := ⟨RX1, "takeWord", "(LHungMargins$Script;LHungMargins$Settings;II)I"⟩
abbrev cX1_addPlace : ByteArray := prog_3_method_4_code
def yX1_addPlace : MethodName := ⟨RX1, "addPlace", "(IIIII)V"⟩
abbrev cX1_places : ByteArray := prog_3_method_5_code
def yX1_places : MethodName := ⟨RX1, "places", "()I"⟩
abbrev cX1_gap : ByteArray := prog_3_method_6_code
def yX1_gap : MethodName := ⟨RX1, "gap", "()I"⟩
abbrev cX1_isSlashAt : ByteArray := prog_3_method_7_code
def yX1_isSlashAt : MethodName := ⟨RX1, "isSlashAt", "(I)Z"⟩
abbrev cX1_hungAt : ByteArray := prog_3_method_8_code
def yX1_hungAt : MethodName := ⟨RX1, "hungAt", "(I)I"⟩
abbrev cX1_beginBehind : ByteArray := prog_3_method_9_code
def yX1_beginBehind : MethodName := ⟨RX1, "beginBehind", "(I)I"⟩
abbrev cX1_natural : ByteArray := prog_3_method_10_code
def yX1_natural : MethodName := ⟨RX1, "natural", "(II)I"⟩
abbrev cX1_leftBy : ByteArray := prog_3_method_11_code
def yX1_leftBy : MethodName := ⟨RX1, "leftBy", "(III)I"⟩
abbrev cX1_left : ByteArray := prog_3_method_12_code
def yX1_left : MethodName := ⟨RX1, "left", "(II)I"⟩
abbrev cX1_costBy : ByteArray := prog_3_method_13_code
def yX1_costBy : MethodName := ⟨RX1, "costBy", "(III)I"⟩
abbrev cX1_cost : ByteArray := prog_3_method_14_code
def yX1_cost : MethodName := ⟨RX1, "cost", "(II)I"⟩
abbrev cX1_blanks : ByteArray := prog_3_method_15_code
def yX1_blanks : MethodName := ⟨RX1, "blanks", "(II)I"⟩
abbrev cX1_spread : ByteArray := prog_3_method_16_code
def yX1_spread : MethodName := ⟨RX1, "spread", "(II)I"⟩
def RX2 : String := "HungMargins$Row"
def TX2 : u_T := fun k => match k with
  | 0 => ("HungMargins$Row", "items", "[I", true)
  | _ => ("HungMargins$Row", "size", "I", false)
def tyX2 : Nat → FieldType := fun k => match k with
  | 0 => .array .int
  | _ => .int
abbrev wsX20 : List Cond := u_ws RX2 TX2 2
theorem nmX2 : ∀ a, a < 2 → ∀ b, b < 2 → a ≠ b → (TX2 a).2.1 ≠ (TX2 b).2.1 := by decide +kernel
theorem tyX2_ok : ∀ k, k < 2 → parseFieldDescriptor (TX2 k).2.2.1 = some (tyX2 k) := by decide +kernel
abbrev cX2_init : ByteArray := prog_4_method_1_code
def yX2_init : MethodName := ⟨RX2, "<init>", "(I)V"⟩
abbrev cX2_size : ByteArray := prog_4_method_2_code
def yX2_size : MethodName := ⟨RX2, "size", "()I"⟩
abbrev cX2_get : ByteArray := prog_4_method_3_code
def yX2_get : MethodName := ⟨RX2, "get", "(I)I"⟩
abbrev cX2_set : ByteArray := prog_4_method_4_code
def yX2_set : MethodName := ⟨RX2, "set", "(II)V"⟩
abbrev cX2_add : ByteArray := prog_4_method_5_code
def yX2_add : MethodName := ⟨RX2, "add", "(I)Z"⟩
abbrev cX2_drop : ByteArray := prog_4_method_6_code
def yX2_drop : MethodName := ⟨RX2, "drop", "()V"⟩
abbrev cX2_dropFirst : ByteArray := prog_4_method_7_code
def yX2_dropFirst : MethodName := ⟨RX2, "dropFirst", "()V"⟩
abbrev cX2_empty : ByteArray := prog_4_method_8_code
def yX2_empty : MethodName := ⟨RX2, "empty", "()V"⟩
def RX3 : String := "HungMargins$Script"
def TX3 : u_T := fun k => match k with
  | 0 => ("HungMargins$Script", "signs", "LHungMargins$Row;", true)
  | 1 => ("HungMargins$Script", "signEnds", "LHungMargins$Row;", true)
  | 2 => ("HungMargins$Script", "plain", "LHungMargins$Row;", true)
  | 3 => ("HungMargins$Script", "plainEnds", "LHungMargins$Row;", true)
  | 4 => ("HungMargins$Script", "lastPlaces", "LHungMargins$Row;", true)
  | 5 => ("HungMargins$Script", "spelledAs", "LHungMargins$Row;", true)
  | 6 => ("HungMargins$Script", "firsts", "LHungMargins$Row;", true)
  | 7 => ("HungMargins$Script", "placeWords", "LHungMargins$Row;", true)
  | 8 => ("HungMargins$Script", "placePlain", "LHungMargins$Row;", true)
  | _ => ("HungMargins$Script", "placeSlashes", "LHungMargins$Row;", true)
def tyX3 : Nat → FieldType := fun k => match k with
  | 0 => .object "HungMargins$Row"
  | 1 => .object "HungMargins$Row"
  | 2 => .object "HungMargins$Row"
  | 3 => .object "HungMargins$Row"
  | 4 => .object "HungMargins$Row"
  | 5 => .object "HungMargins$Row"
  | 6 => .object "HungMargins$Row"
  | 7 => .object "HungMargins$Row"
  | 8 => .object "HungMargins$Row"
  | _ => .object "HungMargins$Row"
abbrev wsX30 : List Cond := u_ws RX3 TX3 10
theorem nmX3 : ∀ a, a < 10 → ∀ b, b < 10 → a ≠ b → (TX3 a).2.1 ≠ (TX3 b).2.1 := by decide +kernel
theorem tyX3_ok : ∀ k, k < 10 → parseFieldDescriptor (TX3 k).2.2.1 = some (tyX3 k) := by decide +kernel
abbrev cX3_init : ByteArray := prog_5_method_1_code
def yX3_init : MethodName := ⟨RX3, "<init>", "()V"⟩
abbrev cX3_read : ByteArray := prog_5_method_2_code
def yX3_read : MethodName := ⟨RX3, "read", "(LHungMargins$Row;)V"⟩
abbrev cX3_forgetAll : ByteArray := prog_5_method_3_code
def yX3_forgetAll : MethodName := ⟨RX3, "forgetAll", "()V"⟩
abbrev cX3_addPlace : ByteArray := prog_5_method_4_code
def yX3_addPlace : MethodName := ⟨RX3, "addPlace", "(I)V"⟩
abbrev cX3_endWord : ByteArray := prog_5_method_5_code
def yX3_endWord : MethodName := ⟨RX3, "endWord", "()V"⟩
abbrev cX3_firstLike : ByteArray := prog_5_method_6_code
def yX3_firstLike : MethodName := ⟨RX3, "firstLike", "(I)I"⟩
abbrev cX3_areSpelledAlike : ByteArray := prog_5_method_7_code
def yX3_areSpelledAlike : MethodName := ⟨RX3, "areSpelledAlike", "(II)Z"⟩
abbrev cX3_wordCount : ByteArray := prog_5_method_8_code
def yX3_wordCount : MethodName := ⟨RX3, "wordCount", "()I"⟩
abbrev cX3_placeCount : ByteArray := prog_5_method_9_code
def yX3_placeCount : MethodName := ⟨RX3, "placeCount", "()I"⟩
abbrev cX3_startOf : ByteArray := prog_5_method_10_code
def yX3_startOf : MethodName := ⟨RX3, "startOf", "(LHungMargins$Row;I)I"⟩
abbrev cX3_signCount : ByteArray := prog_5_method_11_code
def yX3_signCount : MethodName := ⟨RX3, "signCount", "(I)I"⟩
abbrev cX3_signOf : ByteArray := prog_5_method_12_code
def yX3_signOf : MethodName := ⟨RX3, "signOf", "(II)I"⟩
abbrev cX3_wordAt : ByteArray := prog_5_method_13_code
def yX3_wordAt : MethodName := ⟨RX3, "wordAt", "(I)I"⟩
abbrev cX3_plainAhead : ByteArray := prog_5_method_14_code
def yX3_plainAhead : MethodName := ⟨RX3, "plainAhead", "(I)I"⟩
abbrev cX3_isSlashAt : ByteArray := prog_5_method_15_code
def yX3_isSlashAt : MethodName := ⟨RX3, "isSlashAt", "(I)Z"⟩
abbrev cX3_lastPlaceOf : ByteArray := prog_5_method_16_code
def yX3_lastPlaceOf : MethodName := ⟨RX3, "lastPlaceOf", "(I)I"⟩
abbrev cX3_spellings : ByteArray := prog_5_method_17_code
def yX3_spellings : MethodName := ⟨RX3, "spellings", "()I"⟩
abbrev cX3_firstSpelled : ByteArray := prog_5_method_18_code
def yX3_firstSpelled : MethodName := ⟨RX3, "firstSpelled", "(I)I"⟩
abbrev cX3_timesSpelled : ByteArray := prog_5_method_19_code
def yX3_timesSpelled : MethodName := ⟨RX3, "timesSpelled", "(I)I"⟩
def RX4 : String := "HungMargins$Settings"
def TX4 : u_T := fun k => match k with
  | 0 => ("HungMargins$Settings", "values", "[I", true)
  | 1 => ("HungMargins$Settings", "undoSlots", "LHungMargins$Row;", true)
  | 2 => ("HungMargins$Settings", "undoValues", "LHungMargins$Row;", true)
  | 3 => ("HungMargins$Settings", "images", "[I", true)
  | _ => ("HungMargins$Settings", "kept", "[Z", true)
def tyX4 : Nat → FieldType := fun k => match k with
  | 0 => .array .int
  | 1 => .object "HungMargins$Row"
  | 2 => .object "HungMargins$Row"
  | 3 => .array .int
  | _ => .array .boolean
abbrev wsX40 : List Cond := u_ws RX4 TX4 5
theorem nmX4 : ∀ a, a < 5 → ∀ b, b < 5 → a ≠ b → (TX4 a).2.1 ≠ (TX4 b).2.1 := by decide +kernel
theorem tyX4_ok : ∀ k, k < 5 → parseFieldDescriptor (TX4 k).2.2.1 = some (tyX4 k) := by decide +kernel
abbrev cX4_init : ByteArray := prog_6_method_1_code
def yX4_init : MethodName := ⟨RX4, "<init>", "()V"⟩
abbrev cX4_begin : ByteArray := prog_6_method_2_code
def yX4_begin : MethodName := ⟨RX4, "begin", "()V"⟩
abbrev cX4_store : ByteArray := prog_6_method_3_code
def yX4_store : MethodName := ⟨RX4, "store", "(II)V"⟩
abbrev cX4_loseUndone : ByteArray := prog_6_method_4_code
def yX4_loseUndone : MethodName := ⟨RX4, "loseUndone", "()V"⟩
abbrev cX4_get : ByteArray := prog_6_method_5_code
def yX4_get : MethodName := ⟨RX4, "get", "(I)I"⟩
abbrev cX4_widthOf : ByteArray := prog_6_method_6_code
def yX4_widthOf : MethodName := ⟨RX4, "widthOf", "(I)I"⟩
abbrev cX4_hungOf : ByteArray := prog_6_method_7_code
def yX4_hungOf : MethodName := ⟨RX4, "hungOf", "(I)I"⟩
abbrev cX4_change : ByteArray := prog_6_method_8_code
def yX4_change : MethodName := ⟨RX4, "change", "(II)V"⟩
abbrev cX4_undoable : ByteArray := prog_6_method_9_code
def yX4_undoable : MethodName := ⟨RX4, "undoable", "()I"⟩
abbrev cX4_takeBack : ByteArray := prog_6_method_10_code
def yX4_takeBack : MethodName := ⟨RX4, "takeBack", "()I"⟩
abbrev cX4_has : ByteArray := prog_6_method_11_code
def yX4_has : MethodName := ⟨RX4, "has", "(I)Z"⟩
abbrev cX4_copyTo : ByteArray := prog_6_method_12_code
def yX4_copyTo : MethodName := ⟨RX4, "copyTo", "(I)V"⟩
abbrev cX4_copyFrom : ByteArray := prog_6_method_13_code
def yX4_copyFrom : MethodName := ⟨RX4, "copyFrom", "(I)V"⟩
def RX5 : String := "HungMargins$Sheet"
def TX5 : u_T := fun k => match k with
  | 0 => ("HungMargins$Sheet", "ends", "LHungMargins$Row;", true)
  | 1 => ("HungMargins$Sheet", "firstBlanks", "LHungMargins$Row;", true)
  | 2 => ("HungMargins$Sheet", "blankBegins", "LHungMargins$Row;", true)
  | 3 => ("HungMargins$Sheet", "blankEnds", "LHungMargins$Row;", true)
  | 4 => ("HungMargins$Sheet", "longs", "LHungMargins$Row;", true)
  | 5 => ("HungMargins$Sheet", "springs", "LHungMargins$Row;", true)
  | 6 => ("HungMargins$Sheet", "there", "Z", false)
  | _ => ("HungMargins$Sheet", "cost", "I", false)
def tyX5 : Nat → FieldType := fun k => match k with
  | 0 => .object "HungMargins$Row"
  | 1 => .object "HungMargins$Row"
  | 2 => .object "HungMargins$Row"
  | 3 => .object "HungMargins$Row"
  | 4 => .object "HungMargins$Row"
  | 5 => .object "HungMargins$Row"
  | 6 => .boolean
  | _ => .int
abbrev wsX50 : List Cond := u_ws RX5 TX5 8
theorem nmX5 : ∀ a, a < 8 → ∀ b, b < 8 → a ≠ b → (TX5 a).2.1 ≠ (TX5 b).2.1 := by decide +kernel
theorem tyX5_ok : ∀ k, k < 8 → parseFieldDescriptor (TX5 k).2.2.1 = some (tyX5 k) := by decide +kernel
abbrev cX5_init : ByteArray := prog_7_method_1_code
def yX5_init : MethodName := ⟨RX5, "<init>", "()V"⟩
abbrev cX5_lay : ByteArray := prog_7_method_2_code
def yX5_lay : MethodName := ⟨RX5, "lay", "(LHungMargins$Lengths;LHungMargins$Breaker;)V"⟩
abbrev cX5_setLine : ByteArray := prog_7_method_3_code
def yX5_setLine : MethodName := ⟨RX5, "setLine", "(LHungMargins$Lengths;II)V"⟩
abbrev cX5_addBlank : ByteArray := prog_7_method_4_code
def yX5_addBlank : MethodName := ⟨RX5, "addBlank", "(II)V"⟩
abbrev cX5_measureRivers : ByteArray := prog_7_method_5_code
def yX5_measureRivers : MethodName := ⟨RX5, "measureRivers", "()V"⟩
abbrev cX5_longestMet : ByteArray := prog_7_method_6_code
def yX5_longestMet : MethodName := ⟨RX5, "longestMet", "(II)I"⟩
abbrev cX5_meetsAny : ByteArray := prog_7_method_7_code
def yX5_meetsAny : MethodName := ⟨RX5, "meetsAny", "(II)Z"⟩
abbrev cX5_meet : ByteArray := prog_7_method_8_code
def yX5_meet : MethodName := ⟨RX5, "meet", "(II)Z"⟩
abbrev cX5_isThere : ByteArray := prog_7_method_9_code
def yX5_isThere : MethodName := ⟨RX5, "isThere", "()Z"⟩
abbrev cX5_cost : ByteArray := prog_7_method_10_code
def yX5_cost : MethodName := ⟨RX5, "cost", "()I"⟩
abbrev cX5_lineCount : ByteArray := prog_7_method_11_code
def yX5_lineCount : MethodName := ⟨RX5, "lineCount", "()I"⟩
abbrev cX5_startOf : ByteArray := prog_7_method_12_code
def yX5_startOf : MethodName := ⟨RX5, "startOf", "(I)I"⟩
abbrev cX5_endOf : ByteArray := prog_7_method_13_code
def yX5_endOf : MethodName := ⟨RX5, "endOf", "(I)I"⟩
abbrev cX5_slashEnds : ByteArray := prog_7_method_14_code
def yX5_slashEnds : MethodName := ⟨RX5, "slashEnds", "(LHungMargins$Lengths;)I"⟩
abbrev cX5_rough : ByteArray := prog_7_method_15_code
def yX5_rough : MethodName := ⟨RX5, "rough", "(LHungMargins$Lengths;)I"⟩
abbrev cX5_springs : ByteArray := prog_7_method_16_code
def yX5_springs : MethodName := ⟨RX5, "springs", "()I"⟩
abbrev cX5_longest : ByteArray := prog_7_method_17_code
def yX5_longest : MethodName := ⟨RX5, "longest", "()I"⟩
abbrev cX5_blankCount : ByteArray := prog_7_method_18_code
def yX5_blankCount : MethodName := ⟨RX5, "blankCount", "(I)I"⟩
abbrev cX5_blankOf : ByteArray := prog_7_method_19_code
def yX5_blankOf : MethodName := ⟨RX5, "blankOf", "(III)I"⟩
def RX6 : String := "HungMargins$Survey"
def TX6 : u_T := fun k => match k with
  | 0 => ("HungMargins$Survey", "there", "[Z", true)
  | 1 => ("HungMargins$Survey", "ends", "[J", true)
  | _ => ("HungMargins$Survey", "picks", "[Z", true)
def tyX6 : Nat → FieldType := fun k => match k with
  | 0 => .array .boolean
  | 1 => .array .long
  | _ => .array .boolean
abbrev wsX60 : List Cond := u_ws RX6 TX6 3
theorem nmX6 : ∀ a, a < 3 → ∀ b, b < 3 → a ≠ b → (TX6 a).2.1 ≠ (TX6 b).2.1 := by decide +kernel
theorem tyX6_ok : ∀ k, k < 3 → parseFieldDescriptor (TX6 k).2.2.1 = some (tyX6 k) := by decide +kernel
abbrev cX6_init : ByteArray := prog_8_method_1_code
def yX6_init : MethodName := ⟨RX6, "<init>", "()V"⟩
abbrev cX6_goThrough : ByteArray := prog_8_method_2_code
def yX6_goThrough : MethodName := ⟨RX6, "goThrough", "(LHungMargins$Lengths;LHungMargins$Breaker;)V"⟩
abbrev cX6_note : ByteArray := prog_8_method_3_code
def yX6_note : MethodName := ⟨RX6, "note", "(ILHungMargins$Breaker;)V"⟩
abbrev cX6_endsAt : ByteArray := prog_8_method_4_code
def yX6_endsAt : MethodName := ⟨RX6, "endsAt", "(II)Z"⟩
abbrev cX6_pickAlike : ByteArray := prog_8_method_5_code
def yX6_pickAlike : MethodName := ⟨RX6, "pickAlike", "(I)V"⟩
abbrev cX6_pickSeen : ByteArray := prog_8_method_6_code
def yX6_pickSeen : MethodName := ⟨RX6, "pickSeen", "(LHungMargins$Script;LHungMargins$Row;LHungMargins$Row;)V"⟩
abbrev cX6_beginsLine : ByteArray := prog_8_method_7_code
def yX6_beginsLine : MethodName := ⟨RX6, "beginsLine", "(ILHungMargins$Script;I)Z"⟩
abbrev cX6_picked : ByteArray := prog_8_method_8_code
def yX6_picked : MethodName := ⟨RX6, "picked", "(I)I"⟩
def RX7 : String := "HungMargins"
def TX7 : u_T := fun k => match k with
  | 0 => ("HungMargins", "text", "LHungMargins$Row;", true)
  | 1 => ("HungMargins", "script", "LHungMargins$Script;", true)
  | 2 => ("HungMargins", "settings", "LHungMargins$Settings;", true)
  | 3 => ("HungMargins", "draft", "LHungMargins$Row;", true)
  | 4 => ("HungMargins", "seenWords", "LHungMargins$Row;", true)
  | 5 => ("HungMargins", "seenBegins", "LHungMargins$Row;", true)
  | 6 => ("HungMargins", "lengths", "LHungMargins$Lengths;", true)
  | 7 => ("HungMargins", "breaker", "LHungMargins$Breaker;", true)
  | 8 => ("HungMargins", "sheet", "LHungMargins$Sheet;", true)
  | 9 => ("HungMargins", "survey", "LHungMargins$Survey;", true)
  | 10 => ("HungMargins", "sheetStale", "Z", false)
  | _ => ("HungMargins", "surveyStale", "Z", false)
def tyX7 : Nat → FieldType := fun k => match k with
  | 0 => .object "HungMargins$Row"
  | 1 => .object "HungMargins$Script"
  | 2 => .object "HungMargins$Settings"
  | 3 => .object "HungMargins$Row"
  | 4 => .object "HungMargins$Row"
  | 5 => .object "HungMargins$Row"
  | 6 => .object "HungMargins$Lengths"
  | 7 => .object "HungMargins$Breaker"
  | 8 => .object "HungMargins$Sheet"
  | 9 => .object "HungMargins$Survey"
  | 10 => .boolean
  | _ => .boolean
abbrev wsX70 : List Cond := u_ws RX7 TX7 12
theorem nmX7 : ∀ a, a < 12 → ∀ b, b < 12 → a ≠ b → (TX7 a).2.1 ≠ (TX7 b).2.1 := by decide +kernel
theorem tyX7_ok : ∀ k, k < 12 → parseFieldDescriptor (TX7 k).2.2.1 = some (tyX7 k) := by decide +kernel
abbrev cX7_init : ByteArray := prog_1_method_1_code
def yX7_init : MethodName := ⟨RX7, "<init>", "()V"⟩
abbrev cX7_type : ByteArray := prog_1_method_2_code
def yX7_type : MethodName := ⟨RX7, "type", "(I)I"⟩
abbrev cX7_clear : ByteArray := prog_1_method_3_code
def yX7_clear : MethodName := ⟨RX7, "clear", "()I"⟩
abbrev cX7_words : ByteArray := prog_1_method_4_code
def yX7_words : MethodName := ⟨RX7, "words", "()I"⟩
abbrev cX7_word : ByteArray := prog_1_method_5_code
def yX7_word : MethodName := ⟨RX7, "word", "(II)I"⟩
abbrev cX7_different : ByteArray := prog_1_method_6_code
def yX7_different : MethodName := ⟨RX7, "different", "(II)I"⟩
abbrev cX7_place : ByteArray := prog_1_method_7_code
def yX7_place : MethodName := ⟨RX7, "place", "(II)I"⟩
abbrev cX7_wide : ByteArray := prog_1_method_8_code
def yX7_wide : MethodName := ⟨RX7, "wide", "(II)I"⟩
abbrev cX7_hangs : ByteArray := prog_1_method_9_code
def yX7_hangs : MethodName := ⟨RX7, "hangs", "(II)I"⟩
abbrev cX7_sets : ByteArray := prog_1_method_10_code
def yX7_sets : MethodName := ⟨RX7, "sets", "(II)I"⟩
abbrev cX7_undo : ByteArray := prog_1_method_11_code
def yX7_undo : MethodName := ⟨RX7, "undo", "()I"⟩
abbrev cX7_page : ByteArray := prog_1_method_12_code
def yX7_page : MethodName := ⟨RX7, "page", "(I)I"⟩
abbrev cX7_line : ByteArray := prog_1_method_13_code
def yX7_line : MethodName := ⟨RX7, "line", "(II)I"⟩
abbrev cX7_blank : ByteArray := prog_1_method_14_code
def yX7_blank : MethodName := ⟨RX7, "blank", "(III)I"⟩
abbrev cX7_leftOf : ByteArray := prog_1_method_15_code
def yX7_leftOf : MethodName := ⟨RX7, "leftOf", "(II)I"⟩
abbrev cX7_puts : ByteArray := prog_1_method_16_code
def yX7_puts : MethodName := ⟨RX7, "puts", "(I)I"⟩
abbrev cX7_takes : ByteArray := prog_1_method_17_code
def yX7_takes : MethodName := ⟨RX7, "takes", "()I"⟩
abbrev cX7_judged : ByteArray := prog_1_method_18_code
def yX7_judged : MethodName := ⟨RX7, "judged", "(I)I"⟩
abbrev cX7_alike : ByteArray := prog_1_method_19_code
def yX7_alike : MethodName := ⟨RX7, "alike", "(I)I"⟩
abbrev cX7_sees : ByteArray := prog_1_method_20_code
def yX7_sees : MethodName := ⟨RX7, "sees", "(II)I"⟩
abbrev cX7_forget : ByteArray := prog_1_method_21_code
def yX7_forget : MethodName := ⟨RX7, "forget", "()I"⟩
abbrev cX7_unseen : ByteArray := prog_1_method_22_code
def yX7_unseen : MethodName := ⟨RX7, "unseen", "(I)I"⟩
abbrev cX7_keep : ByteArray := prog_1_method_23_code
def yX7_keep : MethodName := ⟨RX7, "keep", "(I)I"⟩
abbrev cX7_back : ByteArray := prog_1_method_24_code
def yX7_back : MethodName := ⟨RX7, "back", "(I)I"⟩
abbrev cX7_count : ByteArray := prog_1_method_25_code
def yX7_count : MethodName := ⟨RX7, "count", "(I)I"⟩
abbrev cX7_isPlace : ByteArray := prog_1_method_26_code
def yX7_isPlace : MethodName := ⟨RX7, "isPlace", "(I)Z"⟩
abbrev cX7_lastOfDraft : ByteArray := prog_1_method_27_code
def yX7_lastOfDraft : MethodName := ⟨RX7, "lastOfDraft", "()I"⟩
abbrev cX7_change : ByteArray := prog_1_method_28_code
def yX7_change : MethodName := ⟨RX7, "change", "(II)I"⟩
abbrev cX7_markStale : ByteArray := prog_1_method_29_code
def yX7_markStale : MethodName := ⟨RX7, "markStale", "(I)V"⟩
abbrev cX7_freshen : ByteArray := prog_1_method_30_code
def yX7_freshen : MethodName := ⟨RX7, "freshen", "()V"⟩
abbrev cX7_freshenSurvey : ByteArray := prog_1_method_31_code
def yX7_freshenSurvey : MethodName := ⟨RX7, "freshenSurvey", "()V"⟩
abbrev cX7_firstWrongLine : ByteArray := prog_1_method_32_code
def yX7_firstWrongLine : MethodName := ⟨RX7, "firstWrongLine", "()I"⟩
abbrev cX7_costOfDraft : ByteArray := prog_1_method_33_code
def yX7_costOfDraft : MethodName := ⟨RX7, "costOfDraft", "()I"⟩
abbrev cX7_isLetter : ByteArray := prog_1_method_34_code
def yX7_isLetter : MethodName := ⟨RX7, "isLetter", "(I)Z"⟩
abbrev cX7_markNumber : ByteArray := prog_1_method_35_code
def yX7_markNumber : MethodName := ⟨RX7, "markNumber", "(I)I"⟩
abbrev cX7_widthSlot : ByteArray := prog_1_method_36_code
def yX7_widthSlot : MethodName := ⟨RX7, "widthSlot", "(I)I"⟩
abbrev cX7_hangSlot : ByteArray := prog_1_method_37_code
def yX7_hangSlot : MethodName := ⟨RX7, "hangSlot", "(I)I"⟩
abbrev cX7_isPlainSign : ByteArray := prog_1_method_38_code
def yX7_isPlainSign : MethodName := ⟨RX7, "isPlainSign", "(I)Z"⟩
abbrev cX7_faultOf : ByteArray := prog_1_method_39_code
def yX7_faultOf : MethodName := ⟨RX7, "faultOf", "(LHungMargins$Row;)I"⟩
abbrev cX7_isBetweenSigns : ByteArray := prog_1_method_40_code
def yX7_isBetweenSigns : MethodName := ⟨RX7, "isBetweenSigns", "(LHungMargins$Row;I)Z"⟩
def RX8 : String := "HungMarginsModel"
def TX8 : u_T := fun k => match k with
  | 0 => ("HungMarginsModel", "letters", "I", false)
  | 1 => ("HungMarginsModel", "text", "[I", true)
  | 2 => ("HungMarginsModel", "size", "I", false)
  | 3 => ("HungMarginsModel", "row", "[I", true)
  | 4 => ("HungMarginsModel", "words", "I", false)
  | 5 => ("HungMarginsModel", "start", "[I", true)
  | 6 => ("HungMarginsModel", "end", "[I", true)
  | 7 => ("HungMarginsModel", "places", "I", false)
  | 8 => ("HungMarginsModel", "placeWord", "[I", true)
  | 9 => ("HungMarginsModel", "placeAt", "[I", true)
  | 10 => ("HungMarginsModel", "isParted", "[Z", true)
  | 11 => ("HungMarginsModel", "s", "[I", true)
  | 12 => ("HungMarginsModel", "undos", "I", false)
  | 13 => ("HungMarginsModel", "past", "[I", true)
  | 14 => ("HungMarginsModel", "isKept", "[Z", true)
  | 15 => ("HungMarginsModel", "kept", "[I", true)
  | 16 => ("HungMarginsModel", "drafted", "I", false)
  | 17 => ("HungMarginsModel", "draft", "[I", true)
  | 18 => ("HungMarginsModel", "seen", "I", false)
  | 19 => ("HungMarginsModel", "seenWord", "[I", true)
  | 20 => ("HungMarginsModel", "seenIs", "[I", true)
  | 21 => ("HungMarginsModel", "wide", "[I", true)
  | 22 => ("HungMarginsModel", "toPay", "[I", true)
  | 23 => ("HungMarginsModel", "toGo", "[I", true)
  | 24 => ("HungMarginsModel", "then", "[I", true)
  | 25 => ("HungMarginsModel", "lines", "I", false)
  | 26 => ("HungMarginsModel", "ends", "[I", true)
  | 27 => ("HungMarginsModel", "blanks", "I", false)
  | 28 => ("HungMarginsModel", "blankLine", "[I", true)
  | 29 => ("HungMarginsModel", "blankFrom", "[I", true)
  | 30 => ("HungMarginsModel", "blankTo", "[I", true)
  | 31 => ("HungMarginsModel", "blankLong", "[I", true)
  | 32 => ("HungMarginsModel", "isSpring", "[Z", true)
  | 33 => ("HungMarginsModel", "goodMany", "I", false)
  | 34 => ("HungMarginsModel", "goodLeast", "I", false)
  | 35 => ("HungMarginsModel", "goodMost", "I", false)
  | _ => ("HungMarginsModel", "now", "[I", true)
def tyX8 : Nat → FieldType := fun k => match k with
  | 0 => .int
  | 1 => .array .int
  | 2 => .int
  | 3 => .array .int
  | 4 => .int
  | 5 => .array .int
  | 6 => .array .int
  | 7 => .int
  | 8 => .array .int
  | 9 => .array .int
  | 10 => .array .boolean
  | 11 => .array .int
  | 12 => .int
  | 13 => .array .int
  | 14 => .array .boolean
  | 15 => .array .int
  | 16 => .int
  | 17 => .array .int
  | 18 => .int
  | 19 => .array .int
  | 20 => .array .int
  | 21 => .array .int
  | 22 => .array .int
  | 23 => .array .int
  | 24 => .array .int
  | 25 => .int
  | 26 => .array .int
  | 27 => .int
  | 28 => .array .int
  | 29 => .array .int
  | 30 => .array .int
  | 31 => .array .int
  | 32 => .array .boolean
  | 33 => .int
  | 34 => .int
  | 35 => .int
  | _ => .array .int
abbrev wsX80 : List Cond := u_ws RX8 TX8 37
theorem nmX8 : ∀ a, a < 37 → ∀ b, b < 37 → a ≠ b → (TX8 a).2.1 ≠ (TX8 b).2.1 := by decide +kernel
theorem tyX8_ok : ∀ k, k < 37 → parseFieldDescriptor (TX8 k).2.2.1 = some (tyX8 k) := by decide +kernel
abbrev cX8_in : ByteArray := prog_10_method_1_code
def yX8_in : MethodName := ⟨RX8, "in", "(III)Z"⟩
abbrev cX8_init : ByteArray := prog_10_method_2_code
def yX8_init : MethodName := ⟨RX8, "<init>", "()V"⟩
abbrev cX8_begins : ByteArray := prog_10_method_3_code
def yX8_begins : MethodName := ⟨RX8, "begins", "()V"⟩
abbrev cX8_type : ByteArray := prog_10_method_4_code
def yX8_type : MethodName := ⟨RX8, "type", "(I)I"⟩
abbrev cX8_clear : ByteArray := prog_10_method_5_code
def yX8_clear : MethodName := ⟨RX8, "clear", "()I"⟩
abbrev cX8_markOf : ByteArray := prog_10_method_6_code
def yX8_markOf : MethodName := ⟨RX8, "markOf", "(I)I"⟩
abbrev cX8_isWhole : ByteArray := prog_10_method_7_code
def yX8_isWhole : MethodName := ⟨RX8, "isWhole", "(I)Z"⟩
abbrev cX8_isWholeAt : ByteArray := prog_10_method_8_code
def yX8_isWholeAt : MethodName := ⟨RX8, "isWholeAt", "(I)Z"⟩
abbrev cX8_fault : ByteArray := prog_10_method_9_code
def yX8_fault : MethodName := ⟨RX8, "fault", "()I"⟩
abbrev cX8_laysPlace : ByteArray := prog_10_method_10_code
def yX8_laysPlace : MethodName := ⟨RX8, "laysPlace", "(IIZ)V"⟩
abbrev cX8_words : ByteArray := prog_10_method_11_code
def yX8_words : MethodName := ⟨RX8, "words", "()I"⟩
abbrev cX8_isWord : ByteArray := prog_10_method_12_code
def yX8_isWord : MethodName := ⟨RX8, "isWord", "(I)Z"⟩
abbrev cX8_word : ByteArray := prog_10_method_13_code
def yX8_word : MethodName := ⟨RX8, "word", "(II)I"⟩
abbrev cX8_areAlike : ByteArray := prog_10_method_14_code
def yX8_areAlike : MethodName := ⟨RX8, "areAlike", "(II)Z"⟩
abbrev cX8_firstLike : ByteArray := prog_10_method_15_code
def yX8_firstLike : MethodName := ⟨RX8, "firstLike", "(I)I"⟩
abbrev cX8_differents : ByteArray := prog_10_method_16_code
def yX8_differents : MethodName := ⟨RX8, "differents", "()I"⟩
abbrev cX8_different : ByteArray := prog_10_method_17_code
def yX8_different : MethodName := ⟨RX8, "different", "(II)I"⟩
abbrev cX8_isPlace : ByteArray := prog_10_method_18_code
def yX8_isPlace : MethodName := ⟨RX8, "isPlace", "(I)Z"⟩
abbrev cX8_place : ByteArray := prog_10_method_19_code
def yX8_place : MethodName := ⟨RX8, "place", "(II)I"⟩
abbrev cX8_notes : ByteArray := prog_10_method_20_code
def yX8_notes : MethodName := ⟨RX8, "notes", "()V"⟩
abbrev cX8_becomes : ByteArray := prog_10_method_21_code
def yX8_becomes : MethodName := ⟨RX8, "becomes", "(II)I"⟩
abbrev cX8_widthOf : ByteArray := prog_10_method_22_code
def yX8_widthOf : MethodName := ⟨RX8, "widthOf", "(I)I"⟩
abbrev cX8_wide : ByteArray := prog_10_method_23_code
def yX8_wide : MethodName := ⟨RX8, "wide", "(II)I"⟩
abbrev cX8_hangs : ByteArray := prog_10_method_24_code
def yX8_hangs : MethodName := ⟨RX8, "hangs", "(II)I"⟩
abbrev cX8_sets : ByteArray := prog_10_method_25_code
def yX8_sets : MethodName := ⟨RX8, "sets", "(II)I"⟩
abbrev cX8_undo : ByteArray := prog_10_method_26_code
def yX8_undo : MethodName := ⟨RX8, "undo", "()I"⟩
abbrev cX8_sums : ByteArray := prog_10_method_27_code
def yX8_sums : MethodName := ⟨RX8, "sums", "()V"⟩
abbrev cX8_firstWord : ByteArray := prog_10_method_28_code
def yX8_firstWord : MethodName := ⟨RX8, "firstWord", "(I)I"⟩
abbrev cX8_firstLetter : ByteArray := prog_10_method_29_code
def yX8_firstLetter : MethodName := ⟨RX8, "firstLetter", "(I)I"⟩
abbrev cX8_natural : ByteArray := prog_10_method_30_code
def yX8_natural : MethodName := ⟨RX8, "natural", "(II)I"⟩
abbrev cX8_hung : ByteArray := prog_10_method_31_code
def yX8_hung : MethodName := ⟨RX8, "hung", "(I)I"⟩
abbrev cX8_left : ByteArray := prog_10_method_32_code
def yX8_left : MethodName := ⟨RX8, "left", "(III)I"⟩
abbrev cX8_costOf : ByteArray := prog_10_method_33_code
def yX8_costOf : MethodName := ⟨RX8, "costOf", "(III)I"⟩
abbrev cX8_looksFrom : ByteArray := prog_10_method_34_code
def yX8_looksFrom : MethodName := ⟨RX8, "looksFrom", "(II)V"⟩
abbrev cX8_laysPage : ByteArray := prog_10_method_35_code
def yX8_laysPage : MethodName := ⟨RX8, "laysPage", "(I)Z"⟩
abbrev cX8_before : ByteArray := prog_10_method_36_code
def yX8_before : MethodName := ⟨RX8, "before", "(I)I"⟩
abbrev cX8_blanksOf : ByteArray := prog_10_method_37_code
def yX8_blanksOf : MethodName := ⟨RX8, "blanksOf", "(I)I"⟩
abbrev cX8_leftIn : ByteArray := prog_10_method_38_code
def yX8_leftIn : MethodName := ⟨RX8, "leftIn", "(I)I"⟩
abbrev cX8_isGiving : ByteArray := prog_10_method_39_code
def yX8_isGiving : MethodName := ⟨RX8, "isGiving", "(I)Z"⟩
abbrev cX8_endOf : ByteArray := prog_10_method_40_code
def yX8_endOf : MethodName := ⟨RX8, "endOf", "(I)I"⟩
abbrev cX8_laysBlanks : ByteArray := prog_10_method_41_code
def yX8_laysBlanks : MethodName := ⟨RX8, "laysBlanks", "()V"⟩
abbrev cX8_areCommon : ByteArray := prog_10_method_42_code
def yX8_areCommon : MethodName := ⟨RX8, "areCommon", "(II)Z"⟩
abbrev cX8_rivers : ByteArray := prog_10_method_43_code
def yX8_rivers : MethodName := ⟨RX8, "rivers", "()V"⟩
abbrev cX8_rough : ByteArray := prog_10_method_44_code
def yX8_rough : MethodName := ⟨RX8, "rough", "()I"⟩
abbrev cX8_page : ByteArray := prog_10_method_45_code
def yX8_page : MethodName := ⟨RX8, "page", "(I)I"⟩
abbrev cX8_line : ByteArray := prog_10_method_46_code
def yX8_line : MethodName := ⟨RX8, "line", "(II)I"⟩
abbrev cX8_blank : ByteArray := prog_10_method_47_code
def yX8_blank : MethodName := ⟨RX8, "blank", "(III)I"⟩
abbrev cX8_leftOf : ByteArray := prog_10_method_48_code
def yX8_leftOf : MethodName := ⟨RX8, "leftOf", "(II)I"⟩
abbrev cX8_puts : ByteArray := prog_10_method_49_code
def yX8_puts : MethodName := ⟨RX8, "puts", "(I)I"⟩
abbrev cX8_takes : ByteArray := prog_10_method_50_code
def yX8_takes : MethodName := ⟨RX8, "takes", "()I"⟩
abbrev cX8_judged : ByteArray := prog_10_method_51_code
def yX8_judged : MethodName := ⟨RX8, "judged", "(I)I"⟩
abbrev cX8_finds : ByteArray := prog_10_method_52_code
def yX8_finds : MethodName := ⟨RX8, "finds", "(I)V"⟩
abbrev cX8_found : ByteArray := prog_10_method_53_code
def yX8_found : MethodName := ⟨RX8, "found", "(I)I"⟩
abbrev cX8_alike : ByteArray := prog_10_method_54_code
def yX8_alike : MethodName := ⟨RX8, "alike", "(I)I"⟩
abbrev cX8_sees : ByteArray := prog_10_method_55_code
def yX8_sees : MethodName := ⟨RX8, "sees", "(II)I"⟩
abbrev cX8_forget : ByteArray := prog_10_method_56_code
def yX8_forget : MethodName := ⟨RX8, "forget", "()I"⟩
abbrev cX8_isBegun : ByteArray := prog_10_method_57_code
def yX8_isBegun : MethodName := ⟨RX8, "isBegun", "(I)Z"⟩
abbrev cX8_unseen : ByteArray := prog_10_method_58_code
def yX8_unseen : MethodName := ⟨RX8, "unseen", "(I)I"⟩
abbrev cX8_keep : ByteArray := prog_10_method_59_code
def yX8_keep : MethodName := ⟨RX8, "keep", "(I)I"⟩
abbrev cX8_back : ByteArray := prog_10_method_60_code
def yX8_back : MethodName := ⟨RX8, "back", "(I)I"⟩
abbrev cX8_count : ByteArray := prog_10_method_61_code
def yX8_count : MethodName := ⟨RX8, "count", "(I)I"⟩
def RJ9 : String := "java/lang/Math"
def TJ9 : u_T := fun k => match k with
  | _ => ("", "", "", false)
def tyJ9 : Nat → FieldType := fun k => match k with
  | _ => .int
abbrev wsJ90 : List Cond := u_ws RJ9 TJ9 0
theorem nmJ9 : ∀ a, a < 0 → ∀ b, b < 0 → a ≠ b → (TJ9 a).2.1 ≠ (TJ9 b).2.1 := by decide +kernel
theorem tyJ9_ok : ∀ k, k < 0 → parseFieldDescriptor (TJ9 k).2.2.1 = some (tyJ9 k) := by decide +kernel
abbrev cJ9_max_7cf53 : ByteArray := prog_11_method_65_code
def yJ9_max_7cf53 : MethodName := ⟨RJ9, "max", "(II)I"⟩
abbrev cJ9_min_7cf53 : ByteArray := prog_11_method_69_code
def yJ9_min_7cf53 : MethodName := ⟨RJ9, "min", "(II)I"⟩
def RJ10 : String := "java/lang/System"
def TJ10 : u_T := fun k => match k with
  | _ => ("", "", "", false)
def tyJ10 : Nat → FieldType := fun k => match k with
  | _ => .int
abbrev wsJ100 : List Cond := u_ws RJ10 TJ10 0
theorem nmJ10 : ∀ a, a < 0 → ∀ b, b < 0 → a ≠ b → (TJ10 a).2.1 ≠ (TJ10 b).2.1 := by decide +kernel
theorem tyJ10_ok : ∀ k, k < 0 → parseFieldDescriptor (TJ10 k).2.2.1 = some (tyJ10 k) := by decide +kernel
def RL : String := "HungMarginsLaw"
abbrev cL_law : ByteArray := code
def yL_law : MethodName := ⟨RL, "law", "([I)Z"⟩
abbrev vwCl : List vw_C := [(RX0, TX0, 3), (RX1, TX1, 9), (RX2, TX2, 2), (RX3, TX3, 10), (RX4, TX4, 5), (RX5, TX5, 8), (RX6, TX6, 3), (RX7, TX7, 12), (RX8, TX8, 37)]

def hm_W : List Cond := lw_tbl.filter goodWord
theorem hm_Wtbl : ∀ w ∈ hm_W, w ∈ lw_tbl := fun _ h => (List.mem_filter.mp h).1
theorem hm_Wgood : ∀ w ∈ hm_W, (w.onTables && w.keeps) = true ∨ ∃ ty, w = .arrayClass ty := fun _ h => good_of_word (List.mem_filter.mp h).2
theorem hm_t {w : Cond} (h : w ∈ tables_1) (hg : goodWord w = true) : w ∈ hm_W := List.mem_filter.mpr ⟨List.mem_append_right _ h, hg⟩
theorem hm_m1 (i : Nat) {w : Cond} (h : tables_1_1[i]? = some w) (hg : goodWord w = true) : w ∈ hm_W := hm_t (List.mem_append_left _ (List.mem_of_getElem? h)) hg
theorem hm_m2 (i : Nat) {w : Cond} (h : tables_1_2[i]? = some w) (hg : goodWord w = true) : w ∈ hm_W := hm_t (List.mem_append_right _ (List.mem_append_left _ (List.mem_of_getElem? h))) hg
theorem hm_m3 (i : Nat) {w : Cond} (h : tables_1_3[i]? = some w) (hg : goodWord w = true) : w ∈ hm_W := hm_t (List.mem_append_right _ (List.mem_append_right _ (List.mem_append_left _ (List.mem_of_getElem? h)))) hg
theorem hm_m4 (i : Nat) {w : Cond} (h : tables_1_4[i]? = some w) (hg : goodWord w = true) : w ∈ hm_W := hm_t (List.mem_append_right _ (List.mem_append_right _ (List.mem_append_right _ (List.mem_append_left _ (List.mem_of_getElem? h))))) hg
theorem hm_m5 (i : Nat) {w : Cond} (h : tables_1_5[i]? = some w) (hg : goodWord w = true) : w ∈ hm_W := hm_t (List.mem_append_right _ (List.mem_append_right _ (List.mem_append_right _ (List.mem_append_right _ (List.mem_of_getElem? h))))) hg
theorem hm_ps (i : Nat) {q : MethodName × Nat} (h : lw_privs[i]? = some q) {w : Cond} (e : Cond.selects q.1.cls q.1 q.1 = w) (hg : goodWord w = true) : w ∈ hm_W := List.mem_filter.mpr ⟨List.mem_append_left _ (by rw [← e]; exact List.mem_map.mpr ⟨q, List.mem_of_getElem? h, rfl⟩), hg⟩
end
section
theorem dX0_init_0 : decode cX0_init 0 = .ok (.aload_n 0, 1) := by decide +kernel
theorem dX0_init_1 : decode cX0_init 1 = .ok (.invokespecial 3, 3) := by decide +kernel
theorem dX0_init_4 : decode cX0_init 4 = .ok (.aload_n 0, 1) := by decide +kernel
theorem dX0_init_5 : decode cX0_init 5 = .ok (.bipush 101, 2) := by decide +kernel
theorem dX0_init_7 : decode cX0_init 7 = .ok (.newarray .int, 2) := by decide +kernel
theorem dX0_init_9 : decode cX0_init 9 = .ok (.putfield 9, 3) := by decide +kernel
theorem dX0_init_12 : decode cX0_init 12 = .ok (.aload_n 0, 1) := by decide +kernel
theorem dX0_init_13 : decode cX0_init 13 = .ok (.bipush 101, 2) := by decide +kernel
theorem dX0_init_15 : decode cX0_init 15 = .ok (.newarray .int, 2) := by decide +kernel
theorem dX0_init_17 : decode cX0_init 17 = .ok (.putfield 15, 3) := by decide +kernel
theorem dX0_init_20 : decode cX0_init 20 = .ok (.aload_n 0, 1) := by decide +kernel
theorem dX0_init_21 : decode cX0_init 21 = .ok (.bipush 101, 2) := by decide +kernel
theorem dX0_init_23 : decode cX0_init 23 = .ok (.newarray .int, 2) := by decide +kernel
theorem dX0_init_25 : decode cX0_init 25 = .ok (.putfield 18, 3) := by decide +kernel
theorem dX0_init_28 : decode cX0_init 28 = .ok (.return_, 1) := by decide +kernel
theorem dX0_solve_0 : decode cX0_solve 0 = .ok (.iconst 0, 1) := by decide +kernel
theorem dX0_solve_1 : decode cX0_solve 1 = .ok (.aload_n 1, 1) := by decide +kernel
theorem dX0_solve_2 : decode cX0_solve 2 = .ok (.invokevirtual 21, 3) := by decide +kernel
theorem dX0_solve_5 : decode cX0_solve 5 = .ok (.bipush 100, 2) := by decide +kernel
theorem dX0_solve_7 : decode cX0_solve 7 = .ok (.invokestatic 27, 3) := by decide +kernel
theorem dX0_solve_10 : decode cX0_solve 10 = .ok (.invokestatic 33, 3) := by decide +kernel
theorem dX0_solve_13 : decode cX0_solve 13 = .ok (.istore_n 3, 1) := by decide +kernel
theorem dX0_solve_14 : decode cX0_solve 14 = .ok (.aload_n 0, 1) := by decide +kernel
theorem dX0_solve_15 : decode cX0_solve 15 = .ok (.getfield 9, 3) := by decide +kernel
theorem dX0_solve_18 : decode cX0_solve 18 = .ok (.iload_n 3, 1) := by decide +kernel
theorem dX0_solve_19 : decode cX0_solve 19 = .ok (.iconst 0, 1) := by decide +kernel
theorem dX0_solve_20 : decode cX0_solve 20 = .ok (.iastore, 1) := by decide +kernel
theorem dX0_solve_21 : decode cX0_solve 21 = .ok (.aload_n 0, 1) := by decide +kernel
theorem dX0_solve_22 : decode cX0_solve 22 = .ok (.getfield 15, 3) := by decide +kernel
theorem dX0_solve_25 : decode cX0_solve 25 = .ok (.iload_n 3, 1) := by decide +kernel
theorem dX0_solve_26 : decode cX0_solve 26 = .ok (.iconst 0, 1) := by decide +kernel
theorem dX0_solve_27 : decode cX0_solve 27 = .ok (.iastore, 1) := by decide +kernel
theorem dX0_solve_28 : decode cX0_solve 28 = .ok (.aload_n 0, 1) := by decide +kernel
theorem dX0_solve_29 : decode cX0_solve 29 = .ok (.getfield 18, 3) := by decide +kernel
theorem dX0_solve_32 : decode cX0_solve 32 = .ok (.iload_n 3, 1) := by decide +kernel
theorem dX0_solve_33 : decode cX0_solve 33 = .ok (.iload_n 3, 1) := by decide +kernel
theorem dX0_solve_34 : decode cX0_solve 34 = .ok (.iastore, 1) := by decide +kernel
theorem dX0_solve_35 : decode cX0_solve 35 = .ok (.iload_n 3, 1) := by decide +kernel
theorem dX0_solve_36 : decode cX0_solve 36 = .ok (.iconst 2, 1) := by decide +kernel
theorem dX0_solve_37 : decode cX0_solve 37 = .ok (.isub, 1) := by decide +kernel
theorem dX0_solve_38 : decode cX0_solve 38 = .ok (.istore 4, 2) := by decide +kernel
theorem dX0_solve_40 : decode cX0_solve 40 = .ok (.iload 4, 2) := by decide +kernel
theorem dX0_solve_42 : decode cX0_solve 42 = .ok (.iconst (-1), 1) := by decide +kernel
theorem dX0_solve_43 : decode cX0_solve 43 = .ok (.if_icmp .lt 18, 3) := by decide +kernel
theorem dX0_solve_46 : decode cX0_solve 46 = .ok (.aload_n 0, 1) := by decide +kernel
theorem dX0_solve_47 : decode cX0_solve 47 = .ok (.aload_n 1, 1) := by decide +kernel
theorem dX0_solve_48 : decode cX0_solve 48 = .ok (.iload_n 2, 1) := by decide +kernel
theorem dX0_solve_49 : decode cX0_solve 49 = .ok (.iload 4, 2) := by decide +kernel
theorem dX0_solve_51 : decode cX0_solve 51 = .ok (.iload_n 3, 1) := by decide +kernel
theorem dX0_solve_52 : decode cX0_solve 52 = .ok (.invokevirtual 36, 3) := by decide +kernel
theorem dX0_solve_55 : decode cX0_solve 55 = .ok (.iinc 4 (-1), 3) := by decide +kernel
theorem dX0_solve_58 : decode cX0_solve 58 = .ok (.goto (-18), 3) := by decide +kernel
theorem dX0_solve_61 : decode cX0_solve 61 = .ok (.return_, 1) := by decide +kernel
theorem dX0_chooseEnd_0 : decode cX0_chooseEnd 0 = .ok (.iconst 0, 1) := by decide +kernel
theorem dX0_chooseEnd_1 : decode cX0_chooseEnd 1 = .ok (.istore 5, 2) := by decide +kernel
theorem dX0_chooseEnd_3 : decode cX0_chooseEnd 3 = .ok (.iconst (-1), 1) := by decide +kernel
theorem dX0_chooseEnd_4 : decode cX0_chooseEnd 4 = .ok (.istore 6, 2) := by decide +kernel
theorem dX0_chooseEnd_6 : decode cX0_chooseEnd 6 = .ok (.iconst (-1), 1) := by decide +kernel
theorem dX0_chooseEnd_7 : decode cX0_chooseEnd 7 = .ok (.istore 7, 2) := by decide +kernel
theorem dX0_chooseEnd_9 : decode cX0_chooseEnd 9 = .ok (.iload_n 2, 1) := by decide +kernel
theorem dX0_chooseEnd_10 : decode cX0_chooseEnd 10 = .ok (.bipush 9, 2) := by decide +kernel
theorem dX0_chooseEnd_12 : decode cX0_chooseEnd 12 = .ok (.iadd, 1) := by decide +kernel
theorem dX0_chooseEnd_13 : decode cX0_chooseEnd 13 = .ok (.aload_n 1, 1) := by decide +kernel
theorem dX0_chooseEnd_14 : decode cX0_chooseEnd 14 = .ok (.iload_n 3, 1) := by decide +kernel
theorem dX0_chooseEnd_15 : decode cX0_chooseEnd 15 = .ok (.invokevirtual 40, 3) := by decide +kernel
theorem dX0_chooseEnd_18 : decode cX0_chooseEnd 18 = .ok (.iadd, 1) := by decide +kernel
theorem dX0_chooseEnd_19 : decode cX0_chooseEnd 19 = .ok (.istore 8, 2) := by decide +kernel
theorem dX0_chooseEnd_21 : decode cX0_chooseEnd 21 = .ok (.iload_n 3, 1) := by decide +kernel
theorem dX0_chooseEnd_22 : decode cX0_chooseEnd 22 = .ok (.iconst 1, 1) := by decide +kernel
theorem dX0_chooseEnd_23 : decode cX0_chooseEnd 23 = .ok (.iadd, 1) := by decide +kernel
theorem dX0_chooseEnd_24 : decode cX0_chooseEnd 24 = .ok (.istore 9, 2) := by decide +kernel
theorem dX0_chooseEnd_26 : decode cX0_chooseEnd 26 = .ok (.iload 9, 2) := by decide +kernel
theorem dX0_chooseEnd_28 : decode cX0_chooseEnd 28 = .ok (.iload 4, 2) := by decide +kernel
theorem dX0_chooseEnd_30 : decode cX0_chooseEnd 30 = .ok (.if_icmp .ge 122, 3) := by decide +kernel
theorem dX0_chooseEnd_33 : decode cX0_chooseEnd 33 = .ok (.aload_n 1, 1) := by decide +kernel
theorem dX0_chooseEnd_34 : decode cX0_chooseEnd 34 = .ok (.iload_n 2, 1) := by decide +kernel
theorem dX0_chooseEnd_35 : decode cX0_chooseEnd 35 = .ok (.iload_n 3, 1) := by decide +kernel
theorem dX0_chooseEnd_36 : decode cX0_chooseEnd 36 = .ok (.iload 9, 2) := by decide +kernel
theorem dX0_chooseEnd_38 : decode cX0_chooseEnd 38 = .ok (.invokevirtual 44, 3) := by decide +kernel
theorem dX0_chooseEnd_41 : decode cX0_chooseEnd 41 = .ok (.istore 10, 2) := by decide +kernel
theorem dX0_chooseEnd_43 : decode cX0_chooseEnd 43 = .ok (.iload 10, 2) := by decide +kernel
theorem dX0_chooseEnd_45 : decode cX0_chooseEnd 45 = .ok (.ifCond .lt 87, 3) := by decide +kernel
theorem dX0_chooseEnd_48 : decode cX0_chooseEnd 48 = .ok (.aload_n 0, 1) := by decide +kernel
theorem dX0_chooseEnd_49 : decode cX0_chooseEnd 49 = .ok (.getfield 15, 3) := by decide +kernel
theorem dX0_chooseEnd_52 : decode cX0_chooseEnd 52 = .ok (.iload 9, 2) := by decide +kernel
theorem dX0_chooseEnd_54 : decode cX0_chooseEnd 54 = .ok (.iconst 1, 1) := by decide +kernel
theorem dX0_chooseEnd_55 : decode cX0_chooseEnd 55 = .ok (.iadd, 1) := by decide +kernel
theorem dX0_chooseEnd_56 : decode cX0_chooseEnd 56 = .ok (.iaload, 1) := by decide +kernel
theorem dX0_chooseEnd_57 : decode cX0_chooseEnd 57 = .ok (.ifCond .lt 75, 3) := by decide +kernel
theorem dX0_chooseEnd_60 : decode cX0_chooseEnd 60 = .ok (.aload_n 1, 1) := by decide +kernel
theorem dX0_chooseEnd_61 : decode cX0_chooseEnd 61 = .ok (.iload 10, 2) := by decide +kernel
theorem dX0_chooseEnd_63 : decode cX0_chooseEnd 63 = .ok (.iload_n 3, 1) := by decide +kernel
theorem dX0_chooseEnd_64 : decode cX0_chooseEnd 64 = .ok (.iload 9, 2) := by decide +kernel
theorem dX0_chooseEnd_66 : decode cX0_chooseEnd 66 = .ok (.invokevirtual 48, 3) := by decide +kernel
theorem dX0_chooseEnd_69 : decode cX0_chooseEnd 69 = .ok (.aload_n 0, 1) := by decide +kernel
theorem dX0_chooseEnd_70 : decode cX0_chooseEnd 70 = .ok (.getfield 9, 3) := by decide +kernel
theorem dX0_chooseEnd_73 : decode cX0_chooseEnd 73 = .ok (.iload 9, 2) := by decide +kernel
theorem dX0_chooseEnd_75 : decode cX0_chooseEnd 75 = .ok (.iconst 1, 1) := by decide +kernel
theorem dX0_chooseEnd_76 : decode cX0_chooseEnd 76 = .ok (.iadd, 1) := by decide +kernel
theorem dX0_chooseEnd_77 : decode cX0_chooseEnd 77 = .ok (.iaload, 1) := by decide +kernel
theorem dX0_chooseEnd_78 : decode cX0_chooseEnd 78 = .ok (.iadd, 1) := by decide +kernel
theorem dX0_chooseEnd_79 : decode cX0_chooseEnd 79 = .ok (.istore 11, 2) := by decide +kernel
theorem dX0_chooseEnd_81 : decode cX0_chooseEnd 81 = .ok (.aload_n 0, 1) := by decide +kernel
theorem dX0_chooseEnd_82 : decode cX0_chooseEnd 82 = .ok (.getfield 15, 3) := by decide +kernel
theorem dX0_chooseEnd_85 : decode cX0_chooseEnd 85 = .ok (.iload 9, 2) := by decide +kernel
theorem dX0_chooseEnd_87 : decode cX0_chooseEnd 87 = .ok (.iconst 1, 1) := by decide +kernel
theorem dX0_chooseEnd_88 : decode cX0_chooseEnd 88 = .ok (.iadd, 1) := by decide +kernel
theorem dX0_chooseEnd_89 : decode cX0_chooseEnd 89 = .ok (.iaload, 1) := by decide +kernel
theorem dX0_chooseEnd_90 : decode cX0_chooseEnd 90 = .ok (.iconst 1, 1) := by decide +kernel
theorem dX0_chooseEnd_91 : decode cX0_chooseEnd 91 = .ok (.iadd, 1) := by decide +kernel
theorem dX0_chooseEnd_92 : decode cX0_chooseEnd 92 = .ok (.istore 12, 2) := by decide +kernel
theorem dX0_chooseEnd_94 : decode cX0_chooseEnd 94 = .ok (.iload 7, 2) := by decide +kernel
theorem dX0_chooseEnd_96 : decode cX0_chooseEnd 96 = .ok (.ifCond .lt 24, 3) := by decide +kernel
theorem dX0_chooseEnd_99 : decode cX0_chooseEnd 99 = .ok (.iload 11, 2) := by decide +kernel
theorem dX0_chooseEnd_101 : decode cX0_chooseEnd 101 = .ok (.iload 5, 2) := by decide +kernel
theorem dX0_chooseEnd_103 : decode cX0_chooseEnd 103 = .ok (.if_icmp .lt 17, 3) := by decide +kernel
theorem dX0_chooseEnd_106 : decode cX0_chooseEnd 106 = .ok (.iload 11, 2) := by decide +kernel
theorem dX0_chooseEnd_108 : decode cX0_chooseEnd 108 = .ok (.iload 5, 2) := by decide +kernel
theorem dX0_chooseEnd_110 : decode cX0_chooseEnd 110 = .ok (.if_icmp .ne 22, 3) := by decide +kernel
theorem dX0_chooseEnd_113 : decode cX0_chooseEnd 113 = .ok (.iload 12, 2) := by decide +kernel
theorem dX0_chooseEnd_115 : decode cX0_chooseEnd 115 = .ok (.iload 6, 2) := by decide +kernel
theorem dX0_chooseEnd_117 : decode cX0_chooseEnd 117 = .ok (.if_icmp .gt 15, 3) := by decide +kernel
theorem dX0_chooseEnd_120 : decode cX0_chooseEnd 120 = .ok (.iload 11, 2) := by decide +kernel
theorem dX0_chooseEnd_122 : decode cX0_chooseEnd 122 = .ok (.istore 5, 2) := by decide +kernel
theorem dX0_chooseEnd_124 : decode cX0_chooseEnd 124 = .ok (.iload 12, 2) := by decide +kernel
theorem dX0_chooseEnd_126 : decode cX0_chooseEnd 126 = .ok (.istore 6, 2) := by decide +kernel
theorem dX0_chooseEnd_128 : decode cX0_chooseEnd 128 = .ok (.iload 9, 2) := by decide +kernel
theorem dX0_chooseEnd_130 : decode cX0_chooseEnd 130 = .ok (.istore 7, 2) := by decide +kernel
theorem dX0_chooseEnd_132 : decode cX0_chooseEnd 132 = .ok (.aload_n 1, 1) := by decide +kernel
theorem dX0_chooseEnd_133 : decode cX0_chooseEnd 133 = .ok (.iload 9, 2) := by decide +kernel
theorem dX0_chooseEnd_135 : decode cX0_chooseEnd 135 = .ok (.invokevirtual 40, 3) := by decide +kernel
theorem dX0_chooseEnd_138 : decode cX0_chooseEnd 138 = .ok (.iload 8, 2) := by decide +kernel
theorem dX0_chooseEnd_140 : decode cX0_chooseEnd 140 = .ok (.if_icmp .le 6, 3) := by decide +kernel
theorem dX0_chooseEnd_143 : decode cX0_chooseEnd 143 = .ok (.goto 9, 3) := by decide +kernel
theorem dX0_chooseEnd_146 : decode cX0_chooseEnd 146 = .ok (.iinc 9 1, 3) := by decide +kernel
theorem dX0_chooseEnd_149 : decode cX0_chooseEnd 149 = .ok (.goto (-123), 3) := by decide +kernel
theorem dX0_chooseEnd_152 : decode cX0_chooseEnd 152 = .ok (.aload_n 0, 1) := by decide +kernel
theorem dX0_chooseEnd_153 : decode cX0_chooseEnd 153 = .ok (.getfield 9, 3) := by decide +kernel
theorem dX0_chooseEnd_156 : decode cX0_chooseEnd 156 = .ok (.iload_n 3, 1) := by decide +kernel
theorem dX0_chooseEnd_157 : decode cX0_chooseEnd 157 = .ok (.iconst 1, 1) := by decide +kernel
theorem dX0_chooseEnd_158 : decode cX0_chooseEnd 158 = .ok (.iadd, 1) := by decide +kernel
theorem dX0_chooseEnd_159 : decode cX0_chooseEnd 159 = .ok (.iload 5, 2) := by decide +kernel
theorem dX0_chooseEnd_161 : decode cX0_chooseEnd 161 = .ok (.iastore, 1) := by decide +kernel
theorem dX0_chooseEnd_162 : decode cX0_chooseEnd 162 = .ok (.aload_n 0, 1) := by decide +kernel
theorem dX0_chooseEnd_163 : decode cX0_chooseEnd 163 = .ok (.getfield 15, 3) := by decide +kernel
theorem dX0_chooseEnd_166 : decode cX0_chooseEnd 166 = .ok (.iload_n 3, 1) := by decide +kernel
theorem dX0_chooseEnd_167 : decode cX0_chooseEnd 167 = .ok (.iconst 1, 1) := by decide +kernel
theorem dX0_chooseEnd_168 : decode cX0_chooseEnd 168 = .ok (.iadd, 1) := by decide +kernel
theorem dX0_chooseEnd_169 : decode cX0_chooseEnd 169 = .ok (.iload 6, 2) := by decide +kernel
theorem dX0_chooseEnd_171 : decode cX0_chooseEnd 171 = .ok (.iastore, 1) := by decide +kernel
theorem dX0_chooseEnd_172 : decode cX0_chooseEnd 172 = .ok (.aload_n 0, 1) := by decide +kernel
theorem dX0_chooseEnd_173 : decode cX0_chooseEnd 173 = .ok (.getfield 18, 3) := by decide +kernel
theorem dX0_chooseEnd_176 : decode cX0_chooseEnd 176 = .ok (.iload_n 3, 1) := by decide +kernel
theorem dX0_chooseEnd_177 : decode cX0_chooseEnd 177 = .ok (.iconst 1, 1) := by decide +kernel
theorem dX0_chooseEnd_178 : decode cX0_chooseEnd 178 = .ok (.iadd, 1) := by decide +kernel
theorem dX0_chooseEnd_179 : decode cX0_chooseEnd 179 = .ok (.iload 7, 2) := by decide +kernel
theorem dX0_chooseEnd_181 : decode cX0_chooseEnd 181 = .ok (.iastore, 1) := by decide +kernel
theorem dX0_chooseEnd_182 : decode cX0_chooseEnd 182 = .ok (.return_, 1) := by decide +kernel
theorem dX0_hasPage_0 : decode cX0_hasPage 0 = .ok (.aload_n 0, 1) := by decide +kernel
theorem dX0_hasPage_1 : decode cX0_hasPage 1 = .ok (.getfield 15, 3) := by decide +kernel
theorem dX0_hasPage_4 : decode cX0_hasPage 4 = .ok (.iconst 0, 1) := by decide +kernel
theorem dX0_hasPage_5 : decode cX0_hasPage 5 = .ok (.iaload, 1) := by decide +kernel
theorem dX0_hasPage_6 : decode cX0_hasPage 6 = .ok (.ifCond .lt 7, 3) := by decide +kernel
theorem dX0_hasPage_9 : decode cX0_hasPage 9 = .ok (.iconst 1, 1) := by decide +kernel
theorem dX0_hasPage_10 : decode cX0_hasPage 10 = .ok (.goto 4, 3) := by decide +kernel
theorem dX0_hasPage_13 : decode cX0_hasPage 13 = .ok (.iconst 0, 1) := by decide +kernel
theorem dX0_hasPage_14 : decode cX0_hasPage 14 = .ok (.ireturn, 1) := by decide +kernel
theorem dX0_cost_0 : decode cX0_cost 0 = .ok (.aload_n 0, 1) := by decide +kernel
theorem dX0_cost_1 : decode cX0_cost 1 = .ok (.getfield 9, 3) := by decide +kernel
theorem dX0_cost_4 : decode cX0_cost 4 = .ok (.iconst 0, 1) := by decide +kernel
theorem dX0_cost_5 : decode cX0_cost 5 = .ok (.iaload, 1) := by decide +kernel
theorem dX0_cost_6 : decode cX0_cost 6 = .ok (.ireturn, 1) := by decide +kernel
theorem dX0_lineCount_0 : decode cX0_lineCount 0 = .ok (.aload_n 0, 1) := by decide +kernel
theorem dX0_lineCount_1 : decode cX0_lineCount 1 = .ok (.getfield 15, 3) := by decide +kernel
theorem dX0_lineCount_4 : decode cX0_lineCount 4 = .ok (.iconst 0, 1) := by decide +kernel
theorem dX0_lineCount_5 : decode cX0_lineCount 5 = .ok (.iaload, 1) := by decide +kernel
theorem dX0_lineCount_6 : decode cX0_lineCount 6 = .ok (.ireturn, 1) := by decide +kernel
theorem dX0_endBehind_0 : decode cX0_endBehind 0 = .ok (.iload_n 1, 1) := by decide +kernel
theorem dX0_endBehind_1 : decode cX0_endBehind 1 = .ok (.iconst 1, 1) := by decide +kernel
theorem dX0_endBehind_2 : decode cX0_endBehind 2 = .ok (.iadd, 1) := by decide +kernel
theorem dX0_endBehind_3 : decode cX0_endBehind 3 = .ok (.istore_n 2, 1) := by decide +kernel
theorem dX0_endBehind_4 : decode cX0_endBehind 4 = .ok (.iload_n 2, 1) := by decide +kernel
theorem dX0_endBehind_5 : decode cX0_endBehind 5 = .ok (.ifCond .lt 21, 3) := by decide +kernel
theorem dX0_endBehind_8 : decode cX0_endBehind 8 = .ok (.iload_n 2, 1) := by decide +kernel
theorem dX0_endBehind_9 : decode cX0_endBehind 9 = .ok (.aload_n 0, 1) := by decide +kernel
theorem dX0_endBehind_10 : decode cX0_endBehind 10 = .ok (.getfield 18, 3) := by decide +kernel
theorem dX0_endBehind_13 : decode cX0_endBehind 13 = .ok (.arraylength, 1) := by decide +kernel
theorem dX0_endBehind_14 : decode cX0_endBehind 14 = .ok (.if_icmp .ge 12, 3) := by decide +kernel
theorem dX0_endBehind_17 : decode cX0_endBehind 17 = .ok (.aload_n 0, 1) := by decide +kernel
theorem dX0_endBehind_18 : decode cX0_endBehind 18 = .ok (.getfield 18, 3) := by decide +kernel
theorem dX0_endBehind_21 : decode cX0_endBehind 21 = .ok (.iload_n 2, 1) := by decide +kernel
theorem dX0_endBehind_22 : decode cX0_endBehind 22 = .ok (.iaload, 1) := by decide +kernel
theorem dX0_endBehind_23 : decode cX0_endBehind 23 = .ok (.goto 4, 3) := by decide +kernel
theorem dX0_endBehind_26 : decode cX0_endBehind 26 = .ok (.iconst (-1), 1) := by decide +kernel
theorem dX0_endBehind_27 : decode cX0_endBehind 27 = .ok (.ireturn, 1) := by decide +kernel
theorem dX1_init_0 : decode cX1_init 0 = .ok (.aload_n 0, 1) := by decide +kernel
theorem dX1_init_1 : decode cX1_init 1 = .ok (.invokespecial 3, 3) := by decide +kernel
theorem dX1_init_4 : decode cX1_init 4 = .ok (.aload_n 0, 1) := by decide +kernel
theorem dX1_init_5 : decode cX1_init 5 = .ok (.new 9, 3) := by decide +kernel
theorem dX1_init_8 : decode cX1_init 8 = .ok (.dup, 1) := by decide +kernel
theorem dX1_init_9 : decode cX1_init 9 = .ok (.bipush 100, 2) := by decide +kernel
theorem dX1_init_11 : decode cX1_init 11 = .ok (.invokespecial 11, 3) := by decide +kernel
theorem dX1_init_14 : decode cX1_init 14 = .ok (.putfield 14, 3) := by decide +kernel
theorem dX1_init_17 : decode cX1_init 17 = .ok (.aload_n 0, 1) := by decide +kernel
theorem dX1_init_18 : decode cX1_init 18 = .ok (.new 9, 3) := by decide +kernel
theorem dX1_init_21 : decode cX1_init 21 = .ok (.dup, 1) := by decide +kernel
theorem dX1_init_22 : decode cX1_init 22 = .ok (.bipush 100, 2) := by decide +kernel
theorem dX1_init_24 : decode cX1_init 24 = .ok (.invokespecial 11, 3) := by decide +kernel
theorem dX1_init_27 : decode cX1_init 27 = .ok (.putfield 20, 3) := by decide +kernel
theorem dX1_init_30 : decode cX1_init 30 = .ok (.aload_n 0, 1) := by decide +kernel
theorem dX1_init_31 : decode cX1_init 31 = .ok (.new 9, 3) := by decide +kernel
theorem dX1_init_34 : decode cX1_init 34 = .ok (.dup, 1) := by decide +kernel
theorem dX1_init_35 : decode cX1_init 35 = .ok (.bipush 100, 2) := by decide +kernel
theorem dX1_init_37 : decode cX1_init 37 = .ok (.invokespecial 11, 3) := by decide +kernel
theorem dX1_init_40 : decode cX1_init 40 = .ok (.putfield 23, 3) := by decide +kernel
theorem dX1_init_43 : decode cX1_init 43 = .ok (.aload_n 0, 1) := by decide +kernel
theorem dX1_init_44 : decode cX1_init 44 = .ok (.new 9, 3) := by decide +kernel
theorem dX1_init_47 : decode cX1_init 47 = .ok (.dup, 1) := by decide +kernel
theorem dX1_init_48 : decode cX1_init 48 = .ok (.bipush 100, 2) := by decide +kernel
theorem dX1_init_50 : decode cX1_init 50 = .ok (.invokespecial 11, 3) := by decide +kernel
theorem dX1_init_53 : decode cX1_init 53 = .ok (.putfield 26, 3) := by decide +kernel
theorem dX1_init_56 : decode cX1_init 56 = .ok (.aload_n 0, 1) := by decide +kernel
theorem dX1_init_57 : decode cX1_init 57 = .ok (.new 9, 3) := by decide +kernel
theorem dX1_init_60 : decode cX1_init 60 = .ok (.dup, 1) := by decide +kernel
theorem dX1_init_61 : decode cX1_init 61 = .ok (.bipush 101, 2) := by decide +kernel
theorem dX1_init_63 : decode cX1_init 63 = .ok (.invokespecial 11, 3) := by decide +kernel
theorem dX1_init_66 : decode cX1_init 66 = .ok (.putfield 29, 3) := by decide +kernel
theorem dX1_init_69 : decode cX1_init 69 = .ok (.return_, 1) := by decide +kernel
theorem dX1_take_0 : decode cX1_take 0 = .ok (.aload_n 0, 1) := by decide +kernel
theorem dX1_take_1 : decode cX1_take 1 = .ok (.aload_n 2, 1) := by decide +kernel
theorem dX1_take_2 : decode cX1_take 2 = .ok (.bipush 34, 2) := by decide +kernel
theorem dX1_take_4 : decode cX1_take 4 = .ok (.invokevirtual 32, 3) := by decide +kernel
theorem dX1_take_7 : decode cX1_take 7 = .ok (.putfield 38, 3) := by decide +kernel
theorem dX1_take_10 : decode cX1_take 10 = .ok (.aload_n 0, 1) := by decide +kernel
theorem dX1_take_11 : decode cX1_take 11 = .ok (.aload_n 2, 1) := by decide +kernel
theorem dX1_take_12 : decode cX1_take 12 = .ok (.bipush 35, 2) := by decide +kernel
theorem dX1_take_14 : decode cX1_take 14 = .ok (.invokevirtual 32, 3) := by decide +kernel
theorem dX1_take_17 : decode cX1_take 17 = .ok (.putfield 42, 3) := by decide +kernel
theorem dX1_take_20 : decode cX1_take 20 = .ok (.aload_n 0, 1) := by decide +kernel
theorem dX1_take_21 : decode cX1_take 21 = .ok (.aload_n 2, 1) := by decide +kernel
theorem dX1_take_22 : decode cX1_take 22 = .ok (.bipush 36, 2) := by decide +kernel
theorem dX1_take_24 : decode cX1_take 24 = .ok (.invokevirtual 32, 3) := by decide +kernel
theorem dX1_take_27 : decode cX1_take 27 = .ok (.putfield 45, 3) := by decide +kernel
theorem dX1_take_30 : decode cX1_take 30 = .ok (.aload_n 0, 1) := by decide +kernel
theorem dX1_take_31 : decode cX1_take 31 = .ok (.aload_n 2, 1) := by decide +kernel
theorem dX1_take_32 : decode cX1_take 32 = .ok (.bipush 37, 2) := by decide +kernel
theorem dX1_take_34 : decode cX1_take 34 = .ok (.invokevirtual 32, 3) := by decide +kernel
theorem dX1_take_37 : decode cX1_take 37 = .ok (.putfield 48, 3) := by decide +kernel
theorem dX1_take_40 : decode cX1_take 40 = .ok (.aload_n 0, 1) := by decide +kernel
theorem dX1_take_41 : decode cX1_take 41 = .ok (.getfield 14, 3) := by decide +kernel
theorem dX1_take_44 : decode cX1_take 44 = .ok (.invokevirtual 51, 3) := by decide +kernel
theorem dX1_take_47 : decode cX1_take 47 = .ok (.aload_n 0, 1) := by decide +kernel
theorem dX1_take_48 : decode cX1_take 48 = .ok (.getfield 20, 3) := by decide +kernel
theorem dX1_take_51 : decode cX1_take 51 = .ok (.invokevirtual 51, 3) := by decide +kernel
theorem dX1_take_54 : decode cX1_take 54 = .ok (.aload_n 0, 1) := by decide +kernel
theorem dX1_take_55 : decode cX1_take 55 = .ok (.getfield 23, 3) := by decide +kernel
theorem dX1_take_58 : decode cX1_take 58 = .ok (.invokevirtual 51, 3) := by decide +kernel
theorem dX1_take_61 : decode cX1_take 61 = .ok (.aload_n 0, 1) := by decide +kernel
theorem dX1_take_62 : decode cX1_take 62 = .ok (.getfield 26, 3) := by decide +kernel
theorem dX1_take_65 : decode cX1_take 65 = .ok (.invokevirtual 51, 3) := by decide +kernel
theorem dX1_take_68 : decode cX1_take 68 = .ok (.aload_n 0, 1) := by decide +kernel
theorem dX1_take_69 : decode cX1_take 69 = .ok (.getfield 29, 3) := by decide +kernel
theorem dX1_take_72 : decode cX1_take 72 = .ok (.invokevirtual 51, 3) := by decide +kernel
theorem dX1_take_75 : decode cX1_take 75 = .ok (.aload_n 0, 1) := by decide +kernel
theorem dX1_take_76 : decode cX1_take 76 = .ok (.getfield 29, 3) := by decide +kernel
theorem dX1_take_79 : decode cX1_take 79 = .ok (.iconst 0, 1) := by decide +kernel
theorem dX1_take_80 : decode cX1_take 80 = .ok (.invokevirtual 54, 3) := by decide +kernel
theorem dX1_take_83 : decode cX1_take 83 = .ok (.pop, 1) := by decide +kernel
theorem dX1_take_84 : decode cX1_take 84 = .ok (.iconst 0, 1) := by decide +kernel
theorem dX1_take_85 : decode cX1_take 85 = .ok (.istore_n 3, 1) := by decide +kernel
theorem dX1_take_86 : decode cX1_take 86 = .ok (.iconst 0, 1) := by decide +kernel
theorem dX1_take_87 : decode cX1_take 87 = .ok (.istore 4, 2) := by decide +kernel
theorem dX1_take_89 : decode cX1_take 89 = .ok (.iload 4, 2) := by decide +kernel
theorem dX1_take_91 : decode cX1_take 91 = .ok (.aload_n 1, 1) := by decide +kernel
theorem dX1_take_92 : decode cX1_take 92 = .ok (.invokevirtual 58, 3) := by decide +kernel
theorem dX1_take_95 : decode cX1_take 95 = .ok (.if_icmp .ge 19, 3) := by decide +kernel
theorem dX1_take_98 : decode cX1_take 98 = .ok (.aload_n 0, 1) := by decide +kernel
theorem dX1_take_99 : decode cX1_take 99 = .ok (.aload_n 1, 1) := by decide +kernel
theorem dX1_take_100 : decode cX1_take 100 = .ok (.aload_n 2, 1) := by decide +kernel
theorem dX1_take_101 : decode cX1_take 101 = .ok (.iload 4, 2) := by decide +kernel
theorem dX1_take_103 : decode cX1_take 103 = .ok (.iload_n 3, 1) := by decide +kernel
theorem dX1_take_104 : decode cX1_take 104 = .ok (.invokevirtual 64, 3) := by decide +kernel
theorem dX1_take_107 : decode cX1_take 107 = .ok (.istore_n 3, 1) := by decide +kernel
theorem dX1_take_108 : decode cX1_take 108 = .ok (.iinc 4 1, 3) := by decide +kernel
theorem dX1_take_111 : decode cX1_take 111 = .ok (.goto (-22), 3) := by decide +kernel
theorem dX1_take_114 : decode cX1_take 114 = .ok (.return_, 1) := by decide +kernel
theorem dX1_takeWord_0 : decode cX1_takeWord 0 = .ok (.iload 4, 2) := by decide +kernel
theorem dX1_takeWord_2 : decode cX1_takeWord 2 = .ok (.istore 5, 2) := by decide +kernel
theorem dX1_takeWord_4 : decode cX1_takeWord 4 = .ok (.iconst 0, 1) := by decide +kernel
theorem dX1_takeWord_5 : decode cX1_takeWord 5 = .ok (.istore 6, 2) := by decide +kernel
theorem dX1_takeWord_7 : decode cX1_takeWord 7 = .ok (.iconst 0, 1) := by decide +kernel
theorem dX1_takeWord_8 : decode cX1_takeWord 8 = .ok (.istore 7, 2) := by decide +kernel
theorem dX1_takeWord_10 : decode cX1_takeWord 10 = .ok (.iload 7, 2) := by decide +kernel
theorem dX1_takeWord_12 : decode cX1_takeWord 12 = .ok (.aload_n 1, 1) := by decide +kernel
theorem dX1_takeWord_13 : decode cX1_takeWord 13 = .ok (.iload_n 3, 1) := by decide +kernel
theorem dX1_takeWord_14 : decode cX1_takeWord 14 = .ok (.invokevirtual 68, 3) := by decide +kernel
theorem dX1_takeWord_17 : decode cX1_takeWord 17 = .ok (.if_icmp .ge 59, 3) := by decide +kernel
theorem dX1_takeWord_20 : decode cX1_takeWord 20 = .ok (.aload_n 1, 1) := by decide +kernel
theorem dX1_takeWord_21 : decode cX1_takeWord 21 = .ok (.iload_n 3, 1) := by decide +kernel
theorem dX1_takeWord_22 : decode cX1_takeWord 22 = .ok (.iload 7, 2) := by decide +kernel
theorem dX1_takeWord_24 : decode cX1_takeWord 24 = .ok (.invokevirtual 71, 3) := by decide +kernel
theorem dX1_takeWord_27 : decode cX1_takeWord 27 = .ok (.istore 6, 2) := by decide +kernel
theorem dX1_takeWord_29 : decode cX1_takeWord 29 = .ok (.iload 5, 2) := by decide +kernel
theorem dX1_takeWord_31 : decode cX1_takeWord 31 = .ok (.aload_n 2, 1) := by decide +kernel
theorem dX1_takeWord_32 : decode cX1_takeWord 32 = .ok (.iload 6, 2) := by decide +kernel
theorem dX1_takeWord_34 : decode cX1_takeWord 34 = .ok (.invokevirtual 75, 3) := by decide +kernel
theorem dX1_takeWord_37 : decode cX1_takeWord 37 = .ok (.iadd, 1) := by decide +kernel
theorem dX1_takeWord_38 : decode cX1_takeWord 38 = .ok (.istore 5, 2) := by decide +kernel
theorem dX1_takeWord_40 : decode cX1_takeWord 40 = .ok (.iload 6, 2) := by decide +kernel
theorem dX1_takeWord_42 : decode cX1_takeWord 42 = .ok (.bipush 47, 2) := by decide +kernel
theorem dX1_takeWord_44 : decode cX1_takeWord 44 = .ok (.if_icmp .ne 26, 3) := by decide +kernel
theorem dX1_takeWord_47 : decode cX1_takeWord 47 = .ok (.aload_n 0, 1) := by decide +kernel
theorem dX1_takeWord_48 : decode cX1_takeWord 48 = .ok (.iload_n 3, 1) := by decide +kernel
theorem dX1_takeWord_49 : decode cX1_takeWord 49 = .ok (.iconst 1, 1) := by decide +kernel
theorem dX1_takeWord_50 : decode cX1_takeWord 50 = .ok (.iload 5, 2) := by decide +kernel
theorem dX1_takeWord_52 : decode cX1_takeWord 52 = .ok (.aload_n 2, 1) := by decide +kernel
theorem dX1_takeWord_53 : decode cX1_takeWord 53 = .ok (.bipush 45, 2) := by decide +kernel
theorem dX1_takeWord_55 : decode cX1_takeWord 55 = .ok (.invokevirtual 75, 3) := by decide +kernel
theorem dX1_takeWord_58 : decode cX1_takeWord 58 = .ok (.iadd, 1) := by decide +kernel
theorem dX1_takeWord_59 : decode cX1_takeWord 59 = .ok (.aload_n 2, 1) := by decide +kernel
theorem dX1_takeWord_60 : decode cX1_takeWord 60 = .ok (.bipush 45, 2) := by decide +kernel
theorem dX1_takeWord_62 : decode cX1_takeWord 62 = .ok (.invokevirtual 78, 3) := by decide +kernel
theorem dX1_takeWord_65 : decode cX1_takeWord 65 = .ok (.iload 5, 2) := by decide +kernel
theorem dX1_takeWord_67 : decode cX1_takeWord 67 = .ok (.invokevirtual 81, 3) := by decide +kernel
theorem dX1_takeWord_70 : decode cX1_takeWord 70 = .ok (.iinc 7 1, 3) := by decide +kernel
theorem dX1_takeWord_73 : decode cX1_takeWord 73 = .ok (.goto (-63), 3) := by decide +kernel
theorem dX1_takeWord_76 : decode cX1_takeWord 76 = .ok (.aload_n 0, 1) := by decide +kernel
theorem dX1_takeWord_77 : decode cX1_takeWord 77 = .ok (.iload_n 3, 1) := by decide +kernel
theorem dX1_takeWord_78 : decode cX1_takeWord 78 = .ok (.iconst 0, 1) := by decide +kernel
theorem dX1_takeWord_79 : decode cX1_takeWord 79 = .ok (.iload 5, 2) := by decide +kernel
theorem dX1_takeWord_81 : decode cX1_takeWord 81 = .ok (.aload_n 2, 1) := by decide +kernel
theorem dX1_takeWord_82 : decode cX1_takeWord 82 = .ok (.iload 6, 2) := by decide +kernel
theorem dX1_takeWord_84 : decode cX1_takeWord 84 = .ok (.invokevirtual 78, 3) := by decide +kernel
theorem dX1_takeWord_87 : decode cX1_takeWord 87 = .ok (.iload 5, 2) := by decide +kernel
theorem dX1_takeWord_89 : decode cX1_takeWord 89 = .ok (.aload_n 0, 1) := by decide +kernel
theorem dX1_takeWord_90 : decode cX1_takeWord 90 = .ok (.getfield 38, 3) := by decide +kernel
theorem dX1_takeWord_93 : decode cX1_takeWord 93 = .ok (.iadd, 1) := by decide +kernel
theorem dX1_takeWord_94 : decode cX1_takeWord 94 = .ok (.invokevirtual 81, 3) := by decide +kernel
theorem dX1_takeWord_97 : decode cX1_takeWord 97 = .ok (.iload 5, 2) := by decide +kernel
theorem dX1_takeWord_99 : decode cX1_takeWord 99 = .ok (.aload_n 0, 1) := by decide +kernel
theorem dX1_takeWord_100 : decode cX1_takeWord 100 = .ok (.getfield 38, 3) := by decide +kernel
theorem dX1_takeWord_103 : decode cX1_takeWord 103 = .ok (.iadd, 1) := by decide +kernel
theorem dX1_takeWord_104 : decode cX1_takeWord 104 = .ok (.ireturn, 1) := by decide +kernel
theorem dX1_addPlace_0 : decode cX1_addPlace 0 = .ok (.aload_n 0, 1) := by decide +kernel
theorem dX1_addPlace_1 : decode cX1_addPlace 1 = .ok (.getfield 26, 3) := by decide +kernel
theorem dX1_addPlace_4 : decode cX1_addPlace 4 = .ok (.iload_n 1, 1) := by decide +kernel
theorem dX1_addPlace_5 : decode cX1_addPlace 5 = .ok (.invokevirtual 54, 3) := by decide +kernel
theorem dX1_addPlace_8 : decode cX1_addPlace 8 = .ok (.pop, 1) := by decide +kernel
theorem dX1_addPlace_9 : decode cX1_addPlace 9 = .ok (.aload_n 0, 1) := by decide +kernel
theorem dX1_addPlace_10 : decode cX1_addPlace 10 = .ok (.getfield 23, 3) := by decide +kernel
theorem dX1_addPlace_13 : decode cX1_addPlace 13 = .ok (.iload_n 2, 1) := by decide +kernel
theorem dX1_addPlace_14 : decode cX1_addPlace 14 = .ok (.invokevirtual 54, 3) := by decide +kernel
theorem dX1_addPlace_17 : decode cX1_addPlace 17 = .ok (.pop, 1) := by decide +kernel
theorem dX1_addPlace_18 : decode cX1_addPlace 18 = .ok (.aload_n 0, 1) := by decide +kernel
theorem dX1_addPlace_19 : decode cX1_addPlace 19 = .ok (.getfield 14, 3) := by decide +kernel
theorem dX1_addPlace_22 : decode cX1_addPlace 22 = .ok (.iload_n 3, 1) := by decide +kernel
theorem dX1_addPlace_23 : decode cX1_addPlace 23 = .ok (.invokevirtual 54, 3) := by decide +kernel
theorem dX1_addPlace_26 : decode cX1_addPlace 26 = .ok (.pop, 1) := by decide +kernel
theorem dX1_addPlace_27 : decode cX1_addPlace 27 = .ok (.aload_n 0, 1) := by decide +kernel
theorem dX1_addPlace_28 : decode cX1_addPlace 28 = .ok (.getfield 20, 3) := by decide +kernel
theorem dX1_addPlace_31 : decode cX1_addPlace 31 = .ok (.iload 4, 2) := by decide +kernel
theorem dX1_addPlace_33 : decode cX1_addPlace 33 = .ok (.invokevirtual 54, 3) := by decide +kernel
theorem dX1_addPlace_36 : decode cX1_addPlace 36 = .ok (.pop, 1) := by decide +kernel
theorem dX1_addPlace_37 : decode cX1_addPlace 37 = .ok (.aload_n 0, 1) := by decide +kernel
theorem dX1_addPlace_38 : decode cX1_addPlace 38 = .ok (.getfield 29, 3) := by decide +kernel
theorem dX1_addPlace_41 : decode cX1_addPlace 41 = .ok (.iload 5, 2) := by decide +kernel
theorem dX1_addPlace_43 : decode cX1_addPlace 43 = .ok (.invokevirtual 54, 3) := by decide +kernel
theorem dX1_addPlace_46 : decode cX1_addPlace 46 = .ok (.pop, 1) := by decide +kernel
theorem dX1_addPlace_47 : decode cX1_addPlace 47 = .ok (.return_, 1) := by decide +kernel
theorem dX1_places_0 : decode cX1_places 0 = .ok (.aload_n 0, 1) := by decide +kernel
theorem dX1_places_1 : decode cX1_places 1 = .ok (.getfield 14, 3) := by decide +kernel
theorem dX1_places_4 : decode cX1_places 4 = .ok (.invokevirtual 85, 3) := by decide +kernel
theorem dX1_places_7 : decode cX1_places 7 = .ok (.ireturn, 1) := by decide +kernel
theorem dX1_gap_0 : decode cX1_gap 0 = .ok (.aload_n 0, 1) := by decide +kernel
theorem dX1_gap_1 : decode cX1_gap 1 = .ok (.getfield 38, 3) := by decide +kernel
theorem dX1_gap_4 : decode cX1_gap 4 = .ok (.ireturn, 1) := by decide +kernel
theorem dX1_isSlashAt_0 : decode cX1_isSlashAt 0 = .ok (.aload_n 0, 1) := by decide +kernel
theorem dX1_isSlashAt_1 : decode cX1_isSlashAt 1 = .ok (.getfield 23, 3) := by decide +kernel
theorem dX1_isSlashAt_4 : decode cX1_isSlashAt 4 = .ok (.iload_n 1, 1) := by decide +kernel
theorem dX1_isSlashAt_5 : decode cX1_isSlashAt 5 = .ok (.invokevirtual 88, 3) := by decide +kernel
theorem dX1_isSlashAt_8 : decode cX1_isSlashAt 8 = .ok (.iconst 1, 1) := by decide +kernel
theorem dX1_isSlashAt_9 : decode cX1_isSlashAt 9 = .ok (.if_icmp .ne 7, 3) := by decide +kernel
theorem dX1_isSlashAt_12 : decode cX1_isSlashAt 12 = .ok (.iconst 1, 1) := by decide +kernel
theorem dX1_isSlashAt_13 : decode cX1_isSlashAt 13 = .ok (.goto 4, 3) := by decide +kernel
theorem dX1_isSlashAt_16 : decode cX1_isSlashAt 16 = .ok (.iconst 0, 1) := by decide +kernel
theorem dX1_isSlashAt_17 : decode cX1_isSlashAt 17 = .ok (.ireturn, 1) := by decide +kernel
theorem dX1_hungAt_0 : decode cX1_hungAt 0 = .ok (.aload_n 0, 1) := by decide +kernel
theorem dX1_hungAt_1 : decode cX1_hungAt 1 = .ok (.getfield 20, 3) := by decide +kernel
theorem dX1_hungAt_4 : decode cX1_hungAt 4 = .ok (.iload_n 1, 1) := by decide +kernel
theorem dX1_hungAt_5 : decode cX1_hungAt 5 = .ok (.invokevirtual 88, 3) := by decide +kernel
theorem dX1_hungAt_8 : decode cX1_hungAt 8 = .ok (.ireturn, 1) := by decide +kernel
theorem dX1_beginBehind_0 : decode cX1_beginBehind 0 = .ok (.aload_n 0, 1) := by decide +kernel
theorem dX1_beginBehind_1 : decode cX1_beginBehind 1 = .ok (.getfield 29, 3) := by decide +kernel
theorem dX1_beginBehind_4 : decode cX1_beginBehind 4 = .ok (.iload_n 1, 1) := by decide +kernel
theorem dX1_beginBehind_5 : decode cX1_beginBehind 5 = .ok (.iconst 1, 1) := by decide +kernel
theorem dX1_beginBehind_6 : decode cX1_beginBehind 6 = .ok (.iadd, 1) := by decide +kernel
theorem dX1_beginBehind_7 : decode cX1_beginBehind 7 = .ok (.invokevirtual 88, 3) := by decide +kernel
theorem dX1_beginBehind_10 : decode cX1_beginBehind 10 = .ok (.ireturn, 1) := by decide +kernel
theorem dX1_natural_0 : decode cX1_natural 0 = .ok (.aload_n 0, 1) := by decide +kernel
theorem dX1_natural_1 : decode cX1_natural 1 = .ok (.getfield 14, 3) := by decide +kernel
theorem dX1_natural_4 : decode cX1_natural 4 = .ok (.iload_n 2, 1) := by decide +kernel
theorem dX1_natural_5 : decode cX1_natural 5 = .ok (.invokevirtual 88, 3) := by decide +kernel
theorem dX1_natural_8 : decode cX1_natural 8 = .ok (.aload_n 0, 1) := by decide +kernel
theorem dX1_natural_9 : decode cX1_natural 9 = .ok (.getfield 29, 3) := by decide +kernel
theorem dX1_natural_12 : decode cX1_natural 12 = .ok (.iload_n 1, 1) := by decide +kernel
theorem dX1_natural_13 : decode cX1_natural 13 = .ok (.iconst 1, 1) := by decide +kernel
theorem dX1_natural_14 : decode cX1_natural 14 = .ok (.iadd, 1) := by decide +kernel
theorem dX1_natural_15 : decode cX1_natural 15 = .ok (.invokevirtual 88, 3) := by decide +kernel
theorem dX1_natural_18 : decode cX1_natural 18 = .ok (.isub, 1) := by decide +kernel
theorem dX1_natural_19 : decode cX1_natural 19 = .ok (.ireturn, 1) := by decide +kernel
theorem dX1_leftBy_0 : decode cX1_leftBy 0 = .ok (.iload_n 1, 1) := by decide +kernel
theorem dX1_leftBy_1 : decode cX1_leftBy 1 = .ok (.aload_n 0, 1) := by decide +kernel
theorem dX1_leftBy_2 : decode cX1_leftBy 2 = .ok (.getfield 20, 3) := by decide +kernel
theorem dX1_leftBy_5 : decode cX1_leftBy 5 = .ok (.iload_n 3, 1) := by decide +kernel
theorem dX1_leftBy_6 : decode cX1_leftBy 6 = .ok (.invokevirtual 88, 3) := by decide +kernel
theorem dX1_leftBy_9 : decode cX1_leftBy 9 = .ok (.iadd, 1) := by decide +kernel
theorem dX1_leftBy_10 : decode cX1_leftBy 10 = .ok (.aload_n 0, 1) := by decide +kernel
theorem dX1_leftBy_11 : decode cX1_leftBy 11 = .ok (.getfield 14, 3) := by decide +kernel
theorem dX1_leftBy_14 : decode cX1_leftBy 14 = .ok (.iload_n 3, 1) := by decide +kernel
theorem dX1_leftBy_15 : decode cX1_leftBy 15 = .ok (.invokevirtual 88, 3) := by decide +kernel
theorem dX1_leftBy_18 : decode cX1_leftBy 18 = .ok (.isub, 1) := by decide +kernel
theorem dX1_leftBy_19 : decode cX1_leftBy 19 = .ok (.aload_n 0, 1) := by decide +kernel
theorem dX1_leftBy_20 : decode cX1_leftBy 20 = .ok (.getfield 29, 3) := by decide +kernel
theorem dX1_leftBy_23 : decode cX1_leftBy 23 = .ok (.iload_n 2, 1) := by decide +kernel
theorem dX1_leftBy_24 : decode cX1_leftBy 24 = .ok (.iconst 1, 1) := by decide +kernel
theorem dX1_leftBy_25 : decode cX1_leftBy 25 = .ok (.iadd, 1) := by decide +kernel
theorem dX1_leftBy_26 : decode cX1_leftBy 26 = .ok (.invokevirtual 88, 3) := by decide +kernel
theorem dX1_leftBy_29 : decode cX1_leftBy 29 = .ok (.iadd, 1) := by decide +kernel
theorem dX1_leftBy_30 : decode cX1_leftBy 30 = .ok (.ireturn, 1) := by decide +kernel
theorem dX1_left_0 : decode cX1_left 0 = .ok (.aload_n 0, 1) := by decide +kernel
theorem dX1_left_1 : decode cX1_left 1 = .ok (.aload_n 0, 1) := by decide +kernel
theorem dX1_left_2 : decode cX1_left 2 = .ok (.getfield 42, 3) := by decide +kernel
theorem dX1_left_5 : decode cX1_left 5 = .ok (.iload_n 1, 1) := by decide +kernel
theorem dX1_left_6 : decode cX1_left 6 = .ok (.iload_n 2, 1) := by decide +kernel
theorem dX1_left_7 : decode cX1_left 7 = .ok (.invokevirtual 89, 3) := by decide +kernel
theorem dX1_left_10 : decode cX1_left 10 = .ok (.ireturn, 1) := by decide +kernel
theorem dX1_costBy_0 : decode cX1_costBy 0 = .ok (.iload_n 3, 1) := by decide +kernel
theorem dX1_costBy_1 : decode cX1_costBy 1 = .ok (.aload_n 0, 1) := by decide +kernel
theorem dX1_costBy_2 : decode cX1_costBy 2 = .ok (.getfield 14, 3) := by decide +kernel
theorem dX1_costBy_5 : decode cX1_costBy 5 = .ok (.invokevirtual 85, 3) := by decide +kernel
theorem dX1_costBy_8 : decode cX1_costBy 8 = .ok (.iconst 1, 1) := by decide +kernel
theorem dX1_costBy_9 : decode cX1_costBy 9 = .ok (.isub, 1) := by decide +kernel
theorem dX1_costBy_10 : decode cX1_costBy 10 = .ok (.if_icmp .ne 5, 3) := by decide +kernel
theorem dX1_costBy_13 : decode cX1_costBy 13 = .ok (.iconst 0, 1) := by decide +kernel
theorem dX1_costBy_14 : decode cX1_costBy 14 = .ok (.ireturn, 1) := by decide +kernel
theorem dX1_costBy_15 : decode cX1_costBy 15 = .ok (.iload_n 1, 1) := by decide +kernel
theorem dX1_costBy_16 : decode cX1_costBy 16 = .ok (.iload_n 1, 1) := by decide +kernel
theorem dX1_costBy_17 : decode cX1_costBy 17 = .ok (.imul, 1) := by decide +kernel
theorem dX1_costBy_18 : decode cX1_costBy 18 = .ok (.istore 4, 2) := by decide +kernel
theorem dX1_costBy_20 : decode cX1_costBy 20 = .ok (.aload_n 0, 1) := by decide +kernel
theorem dX1_costBy_21 : decode cX1_costBy 21 = .ok (.getfield 23, 3) := by decide +kernel
theorem dX1_costBy_24 : decode cX1_costBy 24 = .ok (.iload_n 3, 1) := by decide +kernel
theorem dX1_costBy_25 : decode cX1_costBy 25 = .ok (.invokevirtual 88, 3) := by decide +kernel
theorem dX1_costBy_28 : decode cX1_costBy 28 = .ok (.iconst 1, 1) := by decide +kernel
theorem dX1_costBy_29 : decode cX1_costBy 29 = .ok (.if_icmp .ne 37, 3) := by decide +kernel
theorem dX1_costBy_32 : decode cX1_costBy 32 = .ok (.iload 4, 2) := by decide +kernel
theorem dX1_costBy_34 : decode cX1_costBy 34 = .ok (.aload_n 0, 1) := by decide +kernel
theorem dX1_costBy_35 : decode cX1_costBy 35 = .ok (.getfield 45, 3) := by decide +kernel
theorem dX1_costBy_38 : decode cX1_costBy 38 = .ok (.iload_n 2, 1) := by decide +kernel
theorem dX1_costBy_39 : decode cX1_costBy 39 = .ok (.ifCond .lt 22, 3) := by decide +kernel
theorem dX1_costBy_42 : decode cX1_costBy 42 = .ok (.aload_n 0, 1) := by decide +kernel
theorem dX1_costBy_43 : decode cX1_costBy 43 = .ok (.getfield 23, 3) := by decide +kernel
theorem dX1_costBy_46 : decode cX1_costBy 46 = .ok (.iload_n 2, 1) := by decide +kernel
theorem dX1_costBy_47 : decode cX1_costBy 47 = .ok (.invokevirtual 88, 3) := by decide +kernel
theorem dX1_costBy_50 : decode cX1_costBy 50 = .ok (.iconst 1, 1) := by decide +kernel
theorem dX1_costBy_51 : decode cX1_costBy 51 = .ok (.if_icmp .ne 10, 3) := by decide +kernel
theorem dX1_costBy_54 : decode cX1_costBy 54 = .ok (.aload_n 0, 1) := by decide +kernel
theorem dX1_costBy_55 : decode cX1_costBy 55 = .ok (.getfield 48, 3) := by decide +kernel
theorem dX1_costBy_58 : decode cX1_costBy 58 = .ok (.goto 4, 3) := by decide +kernel
theorem dX1_costBy_61 : decode cX1_costBy 61 = .ok (.iconst 0, 1) := by decide +kernel
theorem dX1_costBy_62 : decode cX1_costBy 62 = .ok (.iadd, 1) := by decide +kernel
theorem dX1_costBy_63 : decode cX1_costBy 63 = .ok (.iadd, 1) := by decide +kernel
theorem dX1_costBy_64 : decode cX1_costBy 64 = .ok (.istore 4, 2) := by decide +kernel
theorem dX1_costBy_66 : decode cX1_costBy 66 = .ok (.iload 4, 2) := by decide +kernel
theorem dX1_costBy_68 : decode cX1_costBy 68 = .ok (.ireturn, 1) := by decide +kernel
theorem dX1_cost_0 : decode cX1_cost 0 = .ok (.aload_n 0, 1) := by decide +kernel
theorem dX1_cost_1 : decode cX1_cost 1 = .ok (.aload_n 0, 1) := by decide +kernel
theorem dX1_cost_2 : decode cX1_cost 2 = .ok (.iload_n 1, 1) := by decide +kernel
theorem dX1_cost_3 : decode cX1_cost 3 = .ok (.iload_n 2, 1) := by decide +kernel
theorem dX1_cost_4 : decode cX1_cost 4 = .ok (.invokevirtual 93, 3) := by decide +kernel
theorem dX1_cost_7 : decode cX1_cost 7 = .ok (.iload_n 1, 1) := by decide +kernel
theorem dX1_cost_8 : decode cX1_cost 8 = .ok (.iload_n 2, 1) := by decide +kernel
theorem dX1_cost_9 : decode cX1_cost 9 = .ok (.invokevirtual 96, 3) := by decide +kernel
theorem dX1_cost_12 : decode cX1_cost 12 = .ok (.ireturn, 1) := by decide +kernel
theorem dX1_blanks_0 : decode cX1_blanks 0 = .ok (.aload_n 0, 1) := by decide +kernel
theorem dX1_blanks_1 : decode cX1_blanks 1 = .ok (.getfield 26, 3) := by decide +kernel
theorem dX1_blanks_4 : decode cX1_blanks 4 = .ok (.iload_n 2, 1) := by decide +kernel
theorem dX1_blanks_5 : decode cX1_blanks 5 = .ok (.invokevirtual 88, 3) := by decide +kernel
theorem dX1_blanks_8 : decode cX1_blanks 8 = .ok (.aload_n 0, 1) := by decide +kernel
theorem dX1_blanks_9 : decode cX1_blanks 9 = .ok (.getfield 26, 3) := by decide +kernel
theorem dX1_blanks_12 : decode cX1_blanks 12 = .ok (.iload_n 1, 1) := by decide +kernel
theorem dX1_blanks_13 : decode cX1_blanks 13 = .ok (.iconst 1, 1) := by decide +kernel
theorem dX1_blanks_14 : decode cX1_blanks 14 = .ok (.iadd, 1) := by decide +kernel
theorem dX1_blanks_15 : decode cX1_blanks 15 = .ok (.invokevirtual 88, 3) := by decide +kernel
theorem dX1_blanks_18 : decode cX1_blanks 18 = .ok (.isub, 1) := by decide +kernel
theorem dX1_blanks_19 : decode cX1_blanks 19 = .ok (.ireturn, 1) := by decide +kernel
theorem dX1_spread_0 : decode cX1_spread 0 = .ok (.iload_n 2, 1) := by decide +kernel
theorem dX1_spread_1 : decode cX1_spread 1 = .ok (.aload_n 0, 1) := by decide +kernel
theorem dX1_spread_2 : decode cX1_spread 2 = .ok (.invokevirtual 99, 3) := by decide +kernel
theorem dX1_spread_5 : decode cX1_spread 5 = .ok (.iconst 1, 1) := by decide +kernel
theorem dX1_spread_6 : decode cX1_spread 6 = .ok (.isub, 1) := by decide +kernel
theorem dX1_spread_7 : decode cX1_spread 7 = .ok (.if_icmp .eq 12, 3) := by decide +kernel
theorem dX1_spread_10 : decode cX1_spread 10 = .ok (.aload_n 0, 1) := by decide +kernel
theorem dX1_spread_11 : decode cX1_spread 11 = .ok (.iload_n 1, 1) := by decide +kernel
theorem dX1_spread_12 : decode cX1_spread 12 = .ok (.iload_n 2, 1) := by decide +kernel
theorem dX1_spread_13 : decode cX1_spread 13 = .ok (.invokevirtual 102, 3) := by decide +kernel
theorem dX1_spread_16 : decode cX1_spread 16 = .ok (.ifCond .ne 7, 3) := by decide +kernel
theorem dX1_spread_19 : decode cX1_spread 19 = .ok (.iconst 0, 1) := by decide +kernel
theorem dX1_spread_20 : decode cX1_spread 20 = .ok (.goto 13, 3) := by decide +kernel
theorem dX1_spread_23 : decode cX1_spread 23 = .ok (.aload_n 0, 1) := by decide +kernel
theorem dX1_spread_24 : decode cX1_spread 24 = .ok (.aload_n 0, 1) := by decide +kernel
theorem dX1_spread_25 : decode cX1_spread 25 = .ok (.getfield 42, 3) := by decide +kernel
theorem dX1_spread_28 : decode cX1_spread 28 = .ok (.iload_n 1, 1) := by decide +kernel
theorem dX1_spread_29 : decode cX1_spread 29 = .ok (.iload_n 2, 1) := by decide +kernel
theorem dX1_spread_30 : decode cX1_spread 30 = .ok (.invokevirtual 89, 3) := by decide +kernel
theorem dX1_spread_33 : decode cX1_spread 33 = .ok (.ireturn, 1) := by decide +kernel
theorem dX2_init_0 : decode cX2_init 0 = .ok (.aload_n 0, 1) := by decide +kernel
theorem dX2_init_1 : decode cX2_init 1 = .ok (.invokespecial 1, 3) := by decide +kernel
theorem dX2_init_4 : decode cX2_init 4 = .ok (.aload_n 0, 1) := by decide +kernel
theorem dX2_init_5 : decode cX2_init 5 = .ok (.iconst 0, 1) := by decide +kernel
theorem dX2_init_6 : decode cX2_init 6 = .ok (.iload_n 1, 1) := by decide +kernel
theorem dX2_init_7 : decode cX2_init 7 = .ok (.invokestatic 7, 3) := by decide +kernel
theorem dX2_init_10 : decode cX2_init 10 = .ok (.newarray .int, 2) := by decide +kernel
theorem dX2_init_12 : decode cX2_init 12 = .ok (.putfield 13, 3) := by decide +kernel
theorem dX2_init_15 : decode cX2_init 15 = .ok (.return_, 1) := by decide +kernel
theorem dX2_size_0 : decode cX2_size 0 = .ok (.aload_n 0, 1) := by decide +kernel
theorem dX2_size_1 : decode cX2_size 1 = .ok (.getfield 19, 3) := by decide +kernel
theorem dX2_size_4 : decode cX2_size 4 = .ok (.ireturn, 1) := by decide +kernel
theorem dX2_get_0 : decode cX2_get 0 = .ok (.iload_n 1, 1) := by decide +kernel
theorem dX2_get_1 : decode cX2_get 1 = .ok (.ifCond .lt 29, 3) := by decide +kernel
theorem dX2_get_4 : decode cX2_get 4 = .ok (.iload_n 1, 1) := by decide +kernel
theorem dX2_get_5 : decode cX2_get 5 = .ok (.aload_n 0, 1) := by decide +kernel
theorem dX2_get_6 : decode cX2_get 6 = .ok (.getfield 19, 3) := by decide +kernel
theorem dX2_get_9 : decode cX2_get 9 = .ok (.if_icmp .ge 21, 3) := by decide +kernel
theorem dX2_get_12 : decode cX2_get 12 = .ok (.iload_n 1, 1) := by decide +kernel
theorem dX2_get_13 : decode cX2_get 13 = .ok (.aload_n 0, 1) := by decide +kernel
theorem dX2_get_14 : decode cX2_get 14 = .ok (.getfield 13, 3) := by decide +kernel
theorem dX2_get_17 : decode cX2_get 17 = .ok (.arraylength, 1) := by decide +kernel
theorem dX2_get_18 : decode cX2_get 18 = .ok (.if_icmp .ge 12, 3) := by decide +kernel
theorem dX2_get_21 : decode cX2_get 21 = .ok (.aload_n 0, 1) := by decide +kernel
theorem dX2_get_22 : decode cX2_get 22 = .ok (.getfield 13, 3) := by decide +kernel
theorem dX2_get_25 : decode cX2_get 25 = .ok (.iload_n 1, 1) := by decide +kernel
theorem dX2_get_26 : decode cX2_get 26 = .ok (.iaload, 1) := by decide +kernel
theorem dX2_get_27 : decode cX2_get 27 = .ok (.goto 4, 3) := by decide +kernel
theorem dX2_get_30 : decode cX2_get 30 = .ok (.iconst 0, 1) := by decide +kernel
theorem dX2_get_31 : decode cX2_get 31 = .ok (.ireturn, 1) := by decide +kernel
theorem dX2_set_0 : decode cX2_set 0 = .ok (.iload_n 1, 1) := by decide +kernel
theorem dX2_set_1 : decode cX2_set 1 = .ok (.ifCond .lt 27, 3) := by decide +kernel
theorem dX2_set_4 : decode cX2_set 4 = .ok (.iload_n 1, 1) := by decide +kernel
theorem dX2_set_5 : decode cX2_set 5 = .ok (.aload_n 0, 1) := by decide +kernel
theorem dX2_set_6 : decode cX2_set 6 = .ok (.getfield 19, 3) := by decide +kernel
theorem dX2_set_9 : decode cX2_set 9 = .ok (.if_icmp .ge 19, 3) := by decide +kernel
theorem dX2_set_12 : decode cX2_set 12 = .ok (.iload_n 1, 1) := by decide +kernel
theorem dX2_set_13 : decode cX2_set 13 = .ok (.aload_n 0, 1) := by decide +kernel
theorem dX2_set_14 : decode cX2_set 14 = .ok (.getfield 13, 3) := by decide +kernel
theorem dX2_set_17 : decode cX2_set 17 = .ok (.arraylength, 1) := by decide +kernel
theorem dX2_set_18 : decode cX2_set 18 = .ok (.if_icmp .ge 10, 3) := by decide +kernel
theorem dX2_set_21 : decode cX2_set 21 = .ok (.aload_n 0, 1) := by decide +kernel
theorem dX2_set_22 : decode cX2_set 22 = .ok (.getfield 13, 3) := by decide +kernel
theorem dX2_set_25 : decode cX2_set 25 = .ok (.iload_n 1, 1) := by decide +kernel
theorem dX2_set_26 : decode cX2_set 26 = .ok (.iload_n 2, 1) := by decide +kernel
theorem dX2_set_27 : decode cX2_set 27 = .ok (.iastore, 1) := by decide +kernel
theorem dX2_set_28 : decode cX2_set 28 = .ok (.return_, 1) := by decide +kernel
theorem dX2_add_0 : decode cX2_add 0 = .ok (.aload_n 0, 1) := by decide +kernel
theorem dX2_add_1 : decode cX2_add 1 = .ok (.getfield 19, 3) := by decide +kernel
theorem dX2_add_4 : decode cX2_add 4 = .ok (.ifCond .lt 15, 3) := by decide +kernel
theorem dX2_add_7 : decode cX2_add 7 = .ok (.aload_n 0, 1) := by decide +kernel
theorem dX2_add_8 : decode cX2_add 8 = .ok (.getfield 19, 3) := by decide +kernel
theorem dX2_add_11 : decode cX2_add 11 = .ok (.aload_n 0, 1) := by decide +kernel
theorem dX2_add_12 : decode cX2_add 12 = .ok (.getfield 13, 3) := by decide +kernel
theorem dX2_add_15 : decode cX2_add 15 = .ok (.arraylength, 1) := by decide +kernel
theorem dX2_add_16 : decode cX2_add 16 = .ok (.if_icmp .lt 5, 3) := by decide +kernel
theorem dX2_add_19 : decode cX2_add 19 = .ok (.iconst 0, 1) := by decide +kernel
theorem dX2_add_20 : decode cX2_add 20 = .ok (.ireturn, 1) := by decide +kernel
theorem dX2_add_21 : decode cX2_add 21 = .ok (.aload_n 0, 1) := by decide +kernel
theorem dX2_add_22 : decode cX2_add 22 = .ok (.getfield 13, 3) := by decide +kernel
theorem dX2_add_25 : decode cX2_add 25 = .ok (.aload_n 0, 1) := by decide +kernel
theorem dX2_add_26 : decode cX2_add 26 = .ok (.getfield 19, 3) := by decide +kernel
theorem dX2_add_29 : decode cX2_add 29 = .ok (.iload_n 1, 1) := by decide +kernel
theorem dX2_add_30 : decode cX2_add 30 = .ok (.iastore, 1) := by decide +kernel
theorem dX2_add_31 : decode cX2_add 31 = .ok (.aload_n 0, 1) := by decide +kernel
theorem dX2_add_32 : decode cX2_add 32 = .ok (.dup, 1) := by decide +kernel
theorem dX2_add_33 : decode cX2_add 33 = .ok (.getfield 19, 3) := by decide +kernel
theorem dX2_add_36 : decode cX2_add 36 = .ok (.iconst 1, 1) := by decide +kernel
theorem dX2_add_37 : decode cX2_add 37 = .ok (.iadd, 1) := by decide +kernel
theorem dX2_add_38 : decode cX2_add 38 = .ok (.putfield 19, 3) := by decide +kernel
theorem dX2_add_41 : decode cX2_add 41 = .ok (.iconst 1, 1) := by decide +kernel
theorem dX2_add_42 : decode cX2_add 42 = .ok (.ireturn, 1) := by decide +kernel
theorem dX2_drop_0 : decode cX2_drop 0 = .ok (.aload_n 0, 1) := by decide +kernel
theorem dX2_drop_1 : decode cX2_drop 1 = .ok (.getfield 19, 3) := by decide +kernel
theorem dX2_drop_4 : decode cX2_drop 4 = .ok (.ifCond .le 13, 3) := by decide +kernel
theorem dX2_drop_7 : decode cX2_drop 7 = .ok (.aload_n 0, 1) := by decide +kernel
theorem dX2_drop_8 : decode cX2_drop 8 = .ok (.dup, 1) := by decide +kernel
theorem dX2_drop_9 : decode cX2_drop 9 = .ok (.getfield 19, 3) := by decide +kernel
theorem dX2_drop_12 : decode cX2_drop 12 = .ok (.iconst 1, 1) := by decide +kernel
theorem dX2_drop_13 : decode cX2_drop 13 = .ok (.isub, 1) := by decide +kernel
theorem dX2_drop_14 : decode cX2_drop 14 = .ok (.putfield 19, 3) := by decide +kernel
theorem dX2_drop_17 : decode cX2_drop 17 = .ok (.return_, 1) := by decide +kernel
theorem dX2_dropFirst_0 : decode cX2_dropFirst 0 = .ok (.iconst 1, 1) := by decide +kernel
theorem dX2_dropFirst_1 : decode cX2_dropFirst 1 = .ok (.istore_n 1, 1) := by decide +kernel
theorem dX2_dropFirst_2 : decode cX2_dropFirst 2 = .ok (.iload_n 1, 1) := by decide +kernel
theorem dX2_dropFirst_3 : decode cX2_dropFirst 3 = .ok (.aload_n 0, 1) := by decide +kernel
theorem dX2_dropFirst_4 : decode cX2_dropFirst 4 = .ok (.getfield 19, 3) := by decide +kernel
theorem dX2_dropFirst_7 : decode cX2_dropFirst 7 = .ok (.if_icmp .ge 21, 3) := by decide +kernel
theorem dX2_dropFirst_10 : decode cX2_dropFirst 10 = .ok (.aload_n 0, 1) := by decide +kernel
theorem dX2_dropFirst_11 : decode cX2_dropFirst 11 = .ok (.iload_n 1, 1) := by decide +kernel
theorem dX2_dropFirst_12 : decode cX2_dropFirst 12 = .ok (.iconst 1, 1) := by decide +kernel
theorem dX2_dropFirst_13 : decode cX2_dropFirst 13 = .ok (.isub, 1) := by decide +kernel
theorem dX2_dropFirst_14 : decode cX2_dropFirst 14 = .ok (.aload_n 0, 1) := by decide +kernel
theorem dX2_dropFirst_15 : decode cX2_dropFirst 15 = .ok (.iload_n 1, 1) := by decide +kernel
theorem dX2_dropFirst_16 : decode cX2_dropFirst 16 = .ok (.invokevirtual 23, 3) := by decide +kernel
theorem dX2_dropFirst_19 : decode cX2_dropFirst 19 = .ok (.invokevirtual 27, 3) := by decide +kernel
theorem dX2_dropFirst_22 : decode cX2_dropFirst 22 = .ok (.iinc 1 1, 3) := by decide +kernel
theorem dX2_dropFirst_25 : decode cX2_dropFirst 25 = .ok (.goto (-23), 3) := by decide +kernel
theorem dX2_dropFirst_28 : decode cX2_dropFirst 28 = .ok (.aload_n 0, 1) := by decide +kernel
theorem dX2_dropFirst_29 : decode cX2_dropFirst 29 = .ok (.invokevirtual 31, 3) := by decide +kernel
theorem dX2_dropFirst_32 : decode cX2_dropFirst 32 = .ok (.return_, 1) := by decide +kernel
theorem dX2_empty_0 : decode cX2_empty 0 = .ok (.aload_n 0, 1) := by decide +kernel
theorem dX2_empty_1 : decode cX2_empty 1 = .ok (.iconst 0, 1) := by decide +kernel
theorem dX2_empty_2 : decode cX2_empty 2 = .ok (.putfield 19, 3) := by decide +kernel
theorem dX2_empty_5 : decode cX2_empty 5 = .ok (.return_, 1) := by decide +kernel
theorem dX3_init_0 : decode cX3_init 0 = .ok (.aload_n 0, 1) := by decide +kernel
theorem dX3_init_1 : decode cX3_init 1 = .ok (.invokespecial 3, 3) := by decide +kernel
theorem dX3_init_4 : decode cX3_init 4 = .ok (.aload_n 0, 1) := by decide +kernel
theorem dX3_init_5 : decode cX3_init 5 = .ok (.new 9, 3) := by decide +kernel
theorem dX3_init_8 : decode cX3_init 8 = .ok (.dup, 1) := by decide +kernel
theorem dX3_init_9 : decode cX3_init 9 = .ok (.sipush 200, 3) := by decide +kernel
theorem dX3_init_12 : decode cX3_init 12 = .ok (.invokespecial 11, 3) := by decide +kernel
theorem dX3_init_15 : decode cX3_init 15 = .ok (.putfield 14, 3) := by decide +kernel
theorem dX3_init_18 : decode cX3_init 18 = .ok (.aload_n 0, 1) := by decide +kernel
theorem dX3_init_19 : decode cX3_init 19 = .ok (.new 9, 3) := by decide +kernel
theorem dX3_init_22 : decode cX3_init 22 = .ok (.dup, 1) := by decide +kernel
theorem dX3_init_23 : decode cX3_init 23 = .ok (.bipush 30, 2) := by decide +kernel
theorem dX3_init_25 : decode cX3_init 25 = .ok (.invokespecial 11, 3) := by decide +kernel
theorem dX3_init_28 : decode cX3_init 28 = .ok (.putfield 20, 3) := by decide +kernel
theorem dX3_init_31 : decode cX3_init 31 = .ok (.aload_n 0, 1) := by decide +kernel
theorem dX3_init_32 : decode cX3_init 32 = .ok (.new 9, 3) := by decide +kernel
theorem dX3_init_35 : decode cX3_init 35 = .ok (.dup, 1) := by decide +kernel
theorem dX3_init_36 : decode cX3_init 36 = .ok (.sipush 200, 3) := by decide +kernel
theorem dX3_init_39 : decode cX3_init 39 = .ok (.invokespecial 11, 3) := by decide +kernel
theorem dX3_init_42 : decode cX3_init 42 = .ok (.putfield 23, 3) := by decide +kernel
theorem dX3_init_45 : decode cX3_init 45 = .ok (.aload_n 0, 1) := by decide +kernel
theorem dX3_init_46 : decode cX3_init 46 = .ok (.new 9, 3) := by decide +kernel
theorem dX3_init_49 : decode cX3_init 49 = .ok (.dup, 1) := by decide +kernel
theorem dX3_init_50 : decode cX3_init 50 = .ok (.bipush 30, 2) := by decide +kernel
theorem dX3_init_52 : decode cX3_init 52 = .ok (.invokespecial 11, 3) := by decide +kernel
theorem dX3_init_55 : decode cX3_init 55 = .ok (.putfield 26, 3) := by decide +kernel
theorem dX3_init_58 : decode cX3_init 58 = .ok (.aload_n 0, 1) := by decide +kernel
theorem dX3_init_59 : decode cX3_init 59 = .ok (.new 9, 3) := by decide +kernel
theorem dX3_init_62 : decode cX3_init 62 = .ok (.dup, 1) := by decide +kernel
theorem dX3_init_63 : decode cX3_init 63 = .ok (.bipush 30, 2) := by decide +kernel
theorem dX3_init_65 : decode cX3_init 65 = .ok (.invokespecial 11, 3) := by decide +kernel
theorem dX3_init_68 : decode cX3_init 68 = .ok (.putfield 29, 3) := by decide +kernel
theorem dX3_init_71 : decode cX3_init 71 = .ok (.aload_n 0, 1) := by decide +kernel
theorem dX3_init_72 : decode cX3_init 72 = .ok (.new 9, 3) := by decide +kernel
theorem dX3_init_75 : decode cX3_init 75 = .ok (.dup, 1) := by decide +kernel
theorem dX3_init_76 : decode cX3_init 76 = .ok (.bipush 30, 2) := by decide +kernel
theorem dX3_init_78 : decode cX3_init 78 = .ok (.invokespecial 11, 3) := by decide +kernel
theorem dX3_init_81 : decode cX3_init 81 = .ok (.putfield 32, 3) := by decide +kernel
theorem dX3_init_84 : decode cX3_init 84 = .ok (.aload_n 0, 1) := by decide +kernel
theorem dX3_init_85 : decode cX3_init 85 = .ok (.new 9, 3) := by decide +kernel
theorem dX3_init_88 : decode cX3_init 88 = .ok (.dup, 1) := by decide +kernel
theorem dX3_init_89 : decode cX3_init 89 = .ok (.bipush 30, 2) := by decide +kernel
theorem dX3_init_91 : decode cX3_init 91 = .ok (.invokespecial 11, 3) := by decide +kernel
theorem dX3_init_94 : decode cX3_init 94 = .ok (.putfield 35, 3) := by decide +kernel
theorem dX3_init_97 : decode cX3_init 97 = .ok (.aload_n 0, 1) := by decide +kernel
theorem dX3_init_98 : decode cX3_init 98 = .ok (.new 9, 3) := by decide +kernel
theorem dX3_init_101 : decode cX3_init 101 = .ok (.dup, 1) := by decide +kernel
theorem dX3_init_102 : decode cX3_init 102 = .ok (.bipush 100, 2) := by decide +kernel
theorem dX3_init_104 : decode cX3_init 104 = .ok (.invokespecial 11, 3) := by decide +kernel
theorem dX3_init_107 : decode cX3_init 107 = .ok (.putfield 38, 3) := by decide +kernel
theorem dX3_init_110 : decode cX3_init 110 = .ok (.aload_n 0, 1) := by decide +kernel
theorem dX3_init_111 : decode cX3_init 111 = .ok (.new 9, 3) := by decide +kernel
theorem dX3_init_114 : decode cX3_init 114 = .ok (.dup, 1) := by decide +kernel
theorem dX3_init_115 : decode cX3_init 115 = .ok (.bipush 100, 2) := by decide +kernel
theorem dX3_init_117 : decode cX3_init 117 = .ok (.invokespecial 11, 3) := by decide +kernel
theorem dX3_init_120 : decode cX3_init 120 = .ok (.putfield 41, 3) := by decide +kernel
theorem dX3_init_123 : decode cX3_init 123 = .ok (.aload_n 0, 1) := by decide +kernel
theorem dX3_init_124 : decode cX3_init 124 = .ok (.new 9, 3) := by decide +kernel
theorem dX3_init_127 : decode cX3_init 127 = .ok (.dup, 1) := by decide +kernel
theorem dX3_init_128 : decode cX3_init 128 = .ok (.bipush 100, 2) := by decide +kernel
theorem dX3_init_130 : decode cX3_init 130 = .ok (.invokespecial 11, 3) := by decide +kernel
theorem dX3_init_133 : decode cX3_init 133 = .ok (.putfield 44, 3) := by decide +kernel
theorem dX3_init_136 : decode cX3_init 136 = .ok (.return_, 1) := by decide +kernel
theorem dX3_read_0 : decode cX3_read 0 = .ok (.aload_n 0, 1) := by decide +kernel
theorem dX3_read_1 : decode cX3_read 1 = .ok (.invokevirtual 47, 3) := by decide +kernel
theorem dX3_read_4 : decode cX3_read 4 = .ok (.iconst 0, 1) := by decide +kernel
theorem dX3_read_5 : decode cX3_read 5 = .ok (.istore_n 2, 1) := by decide +kernel
theorem dX3_read_6 : decode cX3_read 6 = .ok (.iload_n 2, 1) := by decide +kernel
theorem dX3_read_7 : decode cX3_read 7 = .ok (.aload_n 1, 1) := by decide +kernel
theorem dX3_read_8 : decode cX3_read 8 = .ok (.invokevirtual 50, 3) := by decide +kernel
theorem dX3_read_11 : decode cX3_read 11 = .ok (.if_icmp .ge 82, 3) := by decide +kernel
theorem dX3_read_14 : decode cX3_read 14 = .ok (.aload_n 1, 1) := by decide +kernel
theorem dX3_read_15 : decode cX3_read 15 = .ok (.iload_n 2, 1) := by decide +kernel
theorem dX3_read_16 : decode cX3_read 16 = .ok (.invokevirtual 54, 3) := by decide +kernel
theorem dX3_read_19 : decode cX3_read 19 = .ok (.istore_n 3, 1) := by decide +kernel
theorem dX3_read_20 : decode cX3_read 20 = .ok (.iload_n 3, 1) := by decide +kernel
theorem dX3_read_21 : decode cX3_read 21 = .ok (.bipush 32, 2) := by decide +kernel
theorem dX3_read_23 : decode cX3_read 23 = .ok (.if_icmp .ne 6, 3) := by decide +kernel
theorem dX3_read_26 : decode cX3_read 26 = .ok (.goto 61, 3) := by decide +kernel
theorem dX3_read_29 : decode cX3_read 29 = .ok (.aload_n 0, 1) := by decide +kernel
theorem dX3_read_30 : decode cX3_read 30 = .ok (.getfield 14, 3) := by decide +kernel
theorem dX3_read_33 : decode cX3_read 33 = .ok (.iload_n 3, 1) := by decide +kernel
theorem dX3_read_34 : decode cX3_read 34 = .ok (.invokevirtual 58, 3) := by decide +kernel
theorem dX3_read_37 : decode cX3_read 37 = .ok (.pop, 1) := by decide +kernel
theorem dX3_read_38 : decode cX3_read 38 = .ok (.iload_n 3, 1) := by decide +kernel
theorem dX3_read_39 : decode cX3_read 39 = .ok (.bipush 47, 2) := by decide +kernel
theorem dX3_read_41 : decode cX3_read 41 = .ok (.if_icmp .ne 11, 3) := by decide +kernel
theorem dX3_read_44 : decode cX3_read 44 = .ok (.aload_n 0, 1) := by decide +kernel
theorem dX3_read_45 : decode cX3_read 45 = .ok (.iconst 1, 1) := by decide +kernel
theorem dX3_read_46 : decode cX3_read 46 = .ok (.invokevirtual 62, 3) := by decide +kernel
theorem dX3_read_49 : decode cX3_read 49 = .ok (.goto 38, 3) := by decide +kernel
theorem dX3_read_52 : decode cX3_read 52 = .ok (.aload_n 0, 1) := by decide +kernel
theorem dX3_read_53 : decode cX3_read 53 = .ok (.getfield 23, 3) := by decide +kernel
theorem dX3_read_56 : decode cX3_read 56 = .ok (.iload_n 3, 1) := by decide +kernel
theorem dX3_read_57 : decode cX3_read 57 = .ok (.invokevirtual 58, 3) := by decide +kernel
theorem dX3_read_60 : decode cX3_read 60 = .ok (.pop, 1) := by decide +kernel
theorem dX3_read_61 : decode cX3_read 61 = .ok (.iload_n 2, 1) := by decide +kernel
theorem dX3_read_62 : decode cX3_read 62 = .ok (.iconst 1, 1) := by decide +kernel
theorem dX3_read_63 : decode cX3_read 63 = .ok (.iadd, 1) := by decide +kernel
theorem dX3_read_64 : decode cX3_read 64 = .ok (.aload_n 1, 1) := by decide +kernel
theorem dX3_read_65 : decode cX3_read 65 = .ok (.invokevirtual 50, 3) := by decide +kernel
theorem dX3_read_68 : decode cX3_read 68 = .ok (.if_icmp .ge 15, 3) := by decide +kernel
theorem dX3_read_71 : decode cX3_read 71 = .ok (.aload_n 1, 1) := by decide +kernel
theorem dX3_read_72 : decode cX3_read 72 = .ok (.iload_n 2, 1) := by decide +kernel
theorem dX3_read_73 : decode cX3_read 73 = .ok (.iconst 1, 1) := by decide +kernel
theorem dX3_read_74 : decode cX3_read 74 = .ok (.iadd, 1) := by decide +kernel
theorem dX3_read_75 : decode cX3_read 75 = .ok (.invokevirtual 54, 3) := by decide +kernel
theorem dX3_read_78 : decode cX3_read 78 = .ok (.bipush 32, 2) := by decide +kernel
theorem dX3_read_80 : decode cX3_read 80 = .ok (.if_icmp .ne 7, 3) := by decide +kernel
theorem dX3_read_83 : decode cX3_read 83 = .ok (.aload_n 0, 1) := by decide +kernel
theorem dX3_read_84 : decode cX3_read 84 = .ok (.invokevirtual 65, 3) := by decide +kernel
theorem dX3_read_87 : decode cX3_read 87 = .ok (.iinc 2 1, 3) := by decide +kernel
theorem dX3_read_90 : decode cX3_read 90 = .ok (.goto (-84), 3) := by decide +kernel
theorem dX3_read_93 : decode cX3_read 93 = .ok (.return_, 1) := by decide +kernel
theorem dX3_forgetAll_0 : decode cX3_forgetAll 0 = .ok (.aload_n 0, 1) := by decide +kernel
theorem dX3_forgetAll_1 : decode cX3_forgetAll 1 = .ok (.getfield 14, 3) := by decide +kernel
theorem dX3_forgetAll_4 : decode cX3_forgetAll 4 = .ok (.invokevirtual 68, 3) := by decide +kernel
theorem dX3_forgetAll_7 : decode cX3_forgetAll 7 = .ok (.aload_n 0, 1) := by decide +kernel
theorem dX3_forgetAll_8 : decode cX3_forgetAll 8 = .ok (.getfield 20, 3) := by decide +kernel
theorem dX3_forgetAll_11 : decode cX3_forgetAll 11 = .ok (.invokevirtual 68, 3) := by decide +kernel
theorem dX3_forgetAll_14 : decode cX3_forgetAll 14 = .ok (.aload_n 0, 1) := by decide +kernel
theorem dX3_forgetAll_15 : decode cX3_forgetAll 15 = .ok (.getfield 23, 3) := by decide +kernel
theorem dX3_forgetAll_18 : decode cX3_forgetAll 18 = .ok (.invokevirtual 68, 3) := by decide +kernel
theorem dX3_forgetAll_21 : decode cX3_forgetAll 21 = .ok (.aload_n 0, 1) := by decide +kernel
theorem dX3_forgetAll_22 : decode cX3_forgetAll 22 = .ok (.getfield 26, 3) := by decide +kernel
theorem dX3_forgetAll_25 : decode cX3_forgetAll 25 = .ok (.invokevirtual 68, 3) := by decide +kernel
theorem dX3_forgetAll_28 : decode cX3_forgetAll 28 = .ok (.aload_n 0, 1) := by decide +kernel
theorem dX3_forgetAll_29 : decode cX3_forgetAll 29 = .ok (.getfield 29, 3) := by decide +kernel
theorem dX3_forgetAll_32 : decode cX3_forgetAll 32 = .ok (.invokevirtual 68, 3) := by decide +kernel
theorem dX3_forgetAll_35 : decode cX3_forgetAll 35 = .ok (.aload_n 0, 1) := by decide +kernel
theorem dX3_forgetAll_36 : decode cX3_forgetAll 36 = .ok (.getfield 32, 3) := by decide +kernel
theorem dX3_forgetAll_39 : decode cX3_forgetAll 39 = .ok (.invokevirtual 68, 3) := by decide +kernel
theorem dX3_forgetAll_42 : decode cX3_forgetAll 42 = .ok (.aload_n 0, 1) := by decide +kernel
theorem dX3_forgetAll_43 : decode cX3_forgetAll 43 = .ok (.getfield 35, 3) := by decide +kernel
theorem dX3_forgetAll_46 : decode cX3_forgetAll 46 = .ok (.invokevirtual 68, 3) := by decide +kernel
theorem dX3_forgetAll_49 : decode cX3_forgetAll 49 = .ok (.aload_n 0, 1) := by decide +kernel
theorem dX3_forgetAll_50 : decode cX3_forgetAll 50 = .ok (.getfield 38, 3) := by decide +kernel
theorem dX3_forgetAll_53 : decode cX3_forgetAll 53 = .ok (.invokevirtual 68, 3) := by decide +kernel
theorem dX3_forgetAll_56 : decode cX3_forgetAll 56 = .ok (.aload_n 0, 1) := by decide +kernel
theorem dX3_forgetAll_57 : decode cX3_forgetAll 57 = .ok (.getfield 41, 3) := by decide +kernel
theorem dX3_forgetAll_60 : decode cX3_forgetAll 60 = .ok (.invokevirtual 68, 3) := by decide +kernel
theorem dX3_forgetAll_63 : decode cX3_forgetAll 63 = .ok (.aload_n 0, 1) := by decide +kernel
theorem dX3_forgetAll_64 : decode cX3_forgetAll 64 = .ok (.getfield 44, 3) := by decide +kernel
theorem dX3_forgetAll_67 : decode cX3_forgetAll 67 = .ok (.invokevirtual 68, 3) := by decide +kernel
theorem dX3_forgetAll_70 : decode cX3_forgetAll 70 = .ok (.return_, 1) := by decide +kernel
theorem dX3_addPlace_0 : decode cX3_addPlace 0 = .ok (.aload_n 0, 1) := by decide +kernel
theorem dX3_addPlace_1 : decode cX3_addPlace 1 = .ok (.invokevirtual 71, 3) := by decide +kernel
theorem dX3_addPlace_4 : decode cX3_addPlace 4 = .ok (.istore_n 2, 1) := by decide +kernel
theorem dX3_addPlace_5 : decode cX3_addPlace 5 = .ok (.aload_n 0, 1) := by decide +kernel
theorem dX3_addPlace_6 : decode cX3_addPlace 6 = .ok (.getfield 38, 3) := by decide +kernel
theorem dX3_addPlace_9 : decode cX3_addPlace 9 = .ok (.iload_n 2, 1) := by decide +kernel
theorem dX3_addPlace_10 : decode cX3_addPlace 10 = .ok (.invokevirtual 58, 3) := by decide +kernel
theorem dX3_addPlace_13 : decode cX3_addPlace 13 = .ok (.pop, 1) := by decide +kernel
theorem dX3_addPlace_14 : decode cX3_addPlace 14 = .ok (.aload_n 0, 1) := by decide +kernel
theorem dX3_addPlace_15 : decode cX3_addPlace 15 = .ok (.getfield 41, 3) := by decide +kernel
theorem dX3_addPlace_18 : decode cX3_addPlace 18 = .ok (.aload_n 0, 1) := by decide +kernel
theorem dX3_addPlace_19 : decode cX3_addPlace 19 = .ok (.getfield 23, 3) := by decide +kernel
theorem dX3_addPlace_22 : decode cX3_addPlace 22 = .ok (.invokevirtual 50, 3) := by decide +kernel
theorem dX3_addPlace_25 : decode cX3_addPlace 25 = .ok (.aload_n 0, 1) := by decide +kernel
theorem dX3_addPlace_26 : decode cX3_addPlace 26 = .ok (.getfield 26, 3) := by decide +kernel
theorem dX3_addPlace_29 : decode cX3_addPlace 29 = .ok (.iload_n 2, 1) := by decide +kernel
theorem dX3_addPlace_30 : decode cX3_addPlace 30 = .ok (.invokestatic 74, 3) := by decide +kernel
theorem dX3_addPlace_33 : decode cX3_addPlace 33 = .ok (.isub, 1) := by decide +kernel
theorem dX3_addPlace_34 : decode cX3_addPlace 34 = .ok (.invokevirtual 58, 3) := by decide +kernel
theorem dX3_addPlace_37 : decode cX3_addPlace 37 = .ok (.pop, 1) := by decide +kernel
theorem dX3_addPlace_38 : decode cX3_addPlace 38 = .ok (.aload_n 0, 1) := by decide +kernel
theorem dX3_addPlace_39 : decode cX3_addPlace 39 = .ok (.getfield 44, 3) := by decide +kernel
theorem dX3_addPlace_42 : decode cX3_addPlace 42 = .ok (.iload_n 1, 1) := by decide +kernel
theorem dX3_addPlace_43 : decode cX3_addPlace 43 = .ok (.invokevirtual 58, 3) := by decide +kernel
theorem dX3_addPlace_46 : decode cX3_addPlace 46 = .ok (.pop, 1) := by decide +kernel
theorem dX3_addPlace_47 : decode cX3_addPlace 47 = .ok (.return_, 1) := by decide +kernel
theorem dX3_endWord_0 : decode cX3_endWord 0 = .ok (.aload_n 0, 1) := by decide +kernel
theorem dX3_endWord_1 : decode cX3_endWord 1 = .ok (.invokevirtual 71, 3) := by decide +kernel
theorem dX3_endWord_4 : decode cX3_endWord 4 = .ok (.istore_n 1, 1) := by decide +kernel
theorem dX3_endWord_5 : decode cX3_endWord 5 = .ok (.aload_n 0, 1) := by decide +kernel
theorem dX3_endWord_6 : decode cX3_endWord 6 = .ok (.iconst 0, 1) := by decide +kernel
theorem dX3_endWord_7 : decode cX3_endWord 7 = .ok (.invokevirtual 62, 3) := by decide +kernel
theorem dX3_endWord_10 : decode cX3_endWord 10 = .ok (.aload_n 0, 1) := by decide +kernel
theorem dX3_endWord_11 : decode cX3_endWord 11 = .ok (.getfield 29, 3) := by decide +kernel
theorem dX3_endWord_14 : decode cX3_endWord 14 = .ok (.aload_n 0, 1) := by decide +kernel
theorem dX3_endWord_15 : decode cX3_endWord 15 = .ok (.invokevirtual 78, 3) := by decide +kernel
theorem dX3_endWord_18 : decode cX3_endWord 18 = .ok (.iconst 1, 1) := by decide +kernel
theorem dX3_endWord_19 : decode cX3_endWord 19 = .ok (.isub, 1) := by decide +kernel
theorem dX3_endWord_20 : decode cX3_endWord 20 = .ok (.invokevirtual 58, 3) := by decide +kernel
theorem dX3_endWord_23 : decode cX3_endWord 23 = .ok (.pop, 1) := by decide +kernel
theorem dX3_endWord_24 : decode cX3_endWord 24 = .ok (.aload_n 0, 1) := by decide +kernel
theorem dX3_endWord_25 : decode cX3_endWord 25 = .ok (.getfield 26, 3) := by decide +kernel
theorem dX3_endWord_28 : decode cX3_endWord 28 = .ok (.aload_n 0, 1) := by decide +kernel
theorem dX3_endWord_29 : decode cX3_endWord 29 = .ok (.getfield 23, 3) := by decide +kernel
theorem dX3_endWord_32 : decode cX3_endWord 32 = .ok (.invokevirtual 50, 3) := by decide +kernel
theorem dX3_endWord_35 : decode cX3_endWord 35 = .ok (.invokevirtual 58, 3) := by decide +kernel
theorem dX3_endWord_38 : decode cX3_endWord 38 = .ok (.pop, 1) := by decide +kernel
theorem dX3_endWord_39 : decode cX3_endWord 39 = .ok (.aload_n 0, 1) := by decide +kernel
theorem dX3_endWord_40 : decode cX3_endWord 40 = .ok (.getfield 20, 3) := by decide +kernel
theorem dX3_endWord_43 : decode cX3_endWord 43 = .ok (.aload_n 0, 1) := by decide +kernel
theorem dX3_endWord_44 : decode cX3_endWord 44 = .ok (.getfield 14, 3) := by decide +kernel
theorem dX3_endWord_47 : decode cX3_endWord 47 = .ok (.invokevirtual 50, 3) := by decide +kernel
theorem dX3_endWord_50 : decode cX3_endWord 50 = .ok (.invokevirtual 58, 3) := by decide +kernel
theorem dX3_endWord_53 : decode cX3_endWord 53 = .ok (.pop, 1) := by decide +kernel
theorem dX3_endWord_54 : decode cX3_endWord 54 = .ok (.aload_n 0, 1) := by decide +kernel
theorem dX3_endWord_55 : decode cX3_endWord 55 = .ok (.iload_n 1, 1) := by decide +kernel
theorem dX3_endWord_56 : decode cX3_endWord 56 = .ok (.invokevirtual 81, 3) := by decide +kernel
theorem dX3_endWord_59 : decode cX3_endWord 59 = .ok (.istore_n 2, 1) := by decide +kernel
theorem dX3_endWord_60 : decode cX3_endWord 60 = .ok (.aload_n 0, 1) := by decide +kernel
theorem dX3_endWord_61 : decode cX3_endWord 61 = .ok (.getfield 32, 3) := by decide +kernel
theorem dX3_endWord_64 : decode cX3_endWord 64 = .ok (.iload_n 2, 1) := by decide +kernel
theorem dX3_endWord_65 : decode cX3_endWord 65 = .ok (.invokevirtual 58, 3) := by decide +kernel
theorem dX3_endWord_68 : decode cX3_endWord 68 = .ok (.pop, 1) := by decide +kernel
theorem dX3_endWord_69 : decode cX3_endWord 69 = .ok (.iload_n 2, 1) := by decide +kernel
theorem dX3_endWord_70 : decode cX3_endWord 70 = .ok (.iload_n 1, 1) := by decide +kernel
theorem dX3_endWord_71 : decode cX3_endWord 71 = .ok (.if_icmp .ne 12, 3) := by decide +kernel
theorem dX3_endWord_74 : decode cX3_endWord 74 = .ok (.aload_n 0, 1) := by decide +kernel
theorem dX3_endWord_75 : decode cX3_endWord 75 = .ok (.getfield 35, 3) := by decide +kernel
theorem dX3_endWord_78 : decode cX3_endWord 78 = .ok (.iload_n 1, 1) := by decide +kernel
theorem dX3_endWord_79 : decode cX3_endWord 79 = .ok (.invokevirtual 58, 3) := by decide +kernel
theorem dX3_endWord_82 : decode cX3_endWord 82 = .ok (.pop, 1) := by decide +kernel
theorem dX3_endWord_83 : decode cX3_endWord 83 = .ok (.return_, 1) := by decide +kernel
theorem dX3_firstLike_0 : decode cX3_firstLike 0 = .ok (.iconst 0, 1) := by decide +kernel
theorem dX3_firstLike_1 : decode cX3_firstLike 1 = .ok (.istore_n 2, 1) := by decide +kernel
theorem dX3_firstLike_2 : decode cX3_firstLike 2 = .ok (.iload_n 2, 1) := by decide +kernel
theorem dX3_firstLike_3 : decode cX3_firstLike 3 = .ok (.iload_n 1, 1) := by decide +kernel
theorem dX3_firstLike_4 : decode cX3_firstLike 4 = .ok (.if_icmp .ge 20, 3) := by decide +kernel
theorem dX3_firstLike_7 : decode cX3_firstLike 7 = .ok (.aload_n 0, 1) := by decide +kernel
theorem dX3_firstLike_8 : decode cX3_firstLike 8 = .ok (.iload_n 2, 1) := by decide +kernel
theorem dX3_firstLike_9 : decode cX3_firstLike 9 = .ok (.iload_n 1, 1) := by decide +kernel
theorem dX3_firstLike_10 : decode cX3_firstLike 10 = .ok (.invokevirtual 84, 3) := by decide +kernel
theorem dX3_firstLike_13 : decode cX3_firstLike 13 = .ok (.ifCond .eq 5, 3) := by decide +kernel
theorem dX3_firstLike_16 : decode cX3_firstLike 16 = .ok (.iload_n 2, 1) := by decide +kernel
theorem dX3_firstLike_17 : decode cX3_firstLike 17 = .ok (.ireturn, 1) := by decide +kernel
theorem dX3_firstLike_18 : decode cX3_firstLike 18 = .ok (.iinc 2 1, 3) := by decide +kernel
theorem dX3_firstLike_21 : decode cX3_firstLike 21 = .ok (.goto (-19), 3) := by decide +kernel
theorem dX3_firstLike_24 : decode cX3_firstLike 24 = .ok (.iload_n 1, 1) := by decide +kernel
theorem dX3_firstLike_25 : decode cX3_firstLike 25 = .ok (.ireturn, 1) := by decide +kernel
theorem dX3_areSpelledAlike_0 : decode cX3_areSpelledAlike 0 = .ok (.aload_n 0, 1) := by decide +kernel
theorem dX3_areSpelledAlike_1 : decode cX3_areSpelledAlike 1 = .ok (.getfield 26, 3) := by decide +kernel
theorem dX3_areSpelledAlike_4 : decode cX3_areSpelledAlike 4 = .ok (.iload_n 1, 1) := by decide +kernel
theorem dX3_areSpelledAlike_5 : decode cX3_areSpelledAlike 5 = .ok (.invokestatic 74, 3) := by decide +kernel
theorem dX3_areSpelledAlike_8 : decode cX3_areSpelledAlike 8 = .ok (.istore_n 3, 1) := by decide +kernel
theorem dX3_areSpelledAlike_9 : decode cX3_areSpelledAlike 9 = .ok (.aload_n 0, 1) := by decide +kernel
theorem dX3_areSpelledAlike_10 : decode cX3_areSpelledAlike 10 = .ok (.getfield 26, 3) := by decide +kernel
theorem dX3_areSpelledAlike_13 : decode cX3_areSpelledAlike 13 = .ok (.iload_n 2, 1) := by decide +kernel
theorem dX3_areSpelledAlike_14 : decode cX3_areSpelledAlike 14 = .ok (.invokestatic 74, 3) := by decide +kernel
theorem dX3_areSpelledAlike_17 : decode cX3_areSpelledAlike 17 = .ok (.istore 4, 2) := by decide +kernel
theorem dX3_areSpelledAlike_19 : decode cX3_areSpelledAlike 19 = .ok (.aload_n 0, 1) := by decide +kernel
theorem dX3_areSpelledAlike_20 : decode cX3_areSpelledAlike 20 = .ok (.getfield 26, 3) := by decide +kernel
theorem dX3_areSpelledAlike_23 : decode cX3_areSpelledAlike 23 = .ok (.iload_n 1, 1) := by decide +kernel
theorem dX3_areSpelledAlike_24 : decode cX3_areSpelledAlike 24 = .ok (.invokevirtual 54, 3) := by decide +kernel
theorem dX3_areSpelledAlike_27 : decode cX3_areSpelledAlike 27 = .ok (.iload_n 3, 1) := by decide +kernel
theorem dX3_areSpelledAlike_28 : decode cX3_areSpelledAlike 28 = .ok (.isub, 1) := by decide +kernel
theorem dX3_areSpelledAlike_29 : decode cX3_areSpelledAlike 29 = .ok (.istore 5, 2) := by decide +kernel
theorem dX3_areSpelledAlike_31 : decode cX3_areSpelledAlike 31 = .ok (.aload_n 0, 1) := by decide +kernel
theorem dX3_areSpelledAlike_32 : decode cX3_areSpelledAlike 32 = .ok (.getfield 26, 3) := by decide +kernel
theorem dX3_areSpelledAlike_35 : decode cX3_areSpelledAlike 35 = .ok (.iload_n 2, 1) := by decide +kernel
theorem dX3_areSpelledAlike_36 : decode cX3_areSpelledAlike 36 = .ok (.invokevirtual 54, 3) := by decide +kernel
theorem dX3_areSpelledAlike_39 : decode cX3_areSpelledAlike 39 = .ok (.iload 4, 2) := by decide +kernel
theorem dX3_areSpelledAlike_41 : decode cX3_areSpelledAlike 41 = .ok (.isub, 1) := by decide +kernel
theorem dX3_areSpelledAlike_42 : decode cX3_areSpelledAlike 42 = .ok (.iload 5, 2) := by decide +kernel
theorem dX3_areSpelledAlike_44 : decode cX3_areSpelledAlike 44 = .ok (.if_icmp .eq 5, 3) := by decide +kernel
theorem dX3_areSpelledAlike_47 : decode cX3_areSpelledAlike 47 = .ok (.iconst 0, 1) := by decide +kernel
theorem dX3_areSpelledAlike_48 : decode cX3_areSpelledAlike 48 = .ok (.ireturn, 1) := by decide +kernel
theorem dX3_areSpelledAlike_49 : decode cX3_areSpelledAlike 49 = .ok (.iconst 0, 1) := by decide +kernel
theorem dX3_areSpelledAlike_50 : decode cX3_areSpelledAlike 50 = .ok (.istore 6, 2) := by decide +kernel
theorem dX3_areSpelledAlike_52 : decode cX3_areSpelledAlike 52 = .ok (.iload 6, 2) := by decide +kernel
theorem dX3_areSpelledAlike_54 : decode cX3_areSpelledAlike 54 = .ok (.iload 5, 2) := by decide +kernel
theorem dX3_areSpelledAlike_56 : decode cX3_areSpelledAlike 56 = .ok (.if_icmp .ge 37, 3) := by decide +kernel
theorem dX3_areSpelledAlike_59 : decode cX3_areSpelledAlike 59 = .ok (.aload_n 0, 1) := by decide +kernel
theorem dX3_areSpelledAlike_60 : decode cX3_areSpelledAlike 60 = .ok (.getfield 23, 3) := by decide +kernel
theorem dX3_areSpelledAlike_63 : decode cX3_areSpelledAlike 63 = .ok (.iload_n 3, 1) := by decide +kernel
theorem dX3_areSpelledAlike_64 : decode cX3_areSpelledAlike 64 = .ok (.iload 6, 2) := by decide +kernel
theorem dX3_areSpelledAlike_66 : decode cX3_areSpelledAlike 66 = .ok (.iadd, 1) := by decide +kernel
theorem dX3_areSpelledAlike_67 : decode cX3_areSpelledAlike 67 = .ok (.invokevirtual 54, 3) := by decide +kernel
theorem dX3_areSpelledAlike_70 : decode cX3_areSpelledAlike 70 = .ok (.aload_n 0, 1) := by decide +kernel
theorem dX3_areSpelledAlike_71 : decode cX3_areSpelledAlike 71 = .ok (.getfield 23, 3) := by decide +kernel
theorem dX3_areSpelledAlike_74 : decode cX3_areSpelledAlike 74 = .ok (.iload 4, 2) := by decide +kernel
theorem dX3_areSpelledAlike_76 : decode cX3_areSpelledAlike 76 = .ok (.iload 6, 2) := by decide +kernel
theorem dX3_areSpelledAlike_78 : decode cX3_areSpelledAlike 78 = .ok (.iadd, 1) := by decide +kernel
theorem dX3_areSpelledAlike_79 : decode cX3_areSpelledAlike 79 = .ok (.invokevirtual 54, 3) := by decide +kernel
theorem dX3_areSpelledAlike_82 : decode cX3_areSpelledAlike 82 = .ok (.if_icmp .eq 5, 3) := by decide +kernel
theorem dX3_areSpelledAlike_85 : decode cX3_areSpelledAlike 85 = .ok (.iconst 0, 1) := by decide +kernel
theorem dX3_areSpelledAlike_86 : decode cX3_areSpelledAlike 86 = .ok (.ireturn, 1) := by decide +kernel
theorem dX3_areSpelledAlike_87 : decode cX3_areSpelledAlike 87 = .ok (.iinc 6 1, 3) := by decide +kernel
theorem dX3_areSpelledAlike_90 : decode cX3_areSpelledAlike 90 = .ok (.goto (-38), 3) := by decide +kernel
theorem dX3_areSpelledAlike_93 : decode cX3_areSpelledAlike 93 = .ok (.iconst 1, 1) := by decide +kernel
theorem dX3_areSpelledAlike_94 : decode cX3_areSpelledAlike 94 = .ok (.ireturn, 1) := by decide +kernel
theorem dX3_wordCount_0 : decode cX3_wordCount 0 = .ok (.aload_n 0, 1) := by decide +kernel
theorem dX3_wordCount_1 : decode cX3_wordCount 1 = .ok (.getfield 20, 3) := by decide +kernel
theorem dX3_wordCount_4 : decode cX3_wordCount 4 = .ok (.invokevirtual 50, 3) := by decide +kernel
theorem dX3_wordCount_7 : decode cX3_wordCount 7 = .ok (.ireturn, 1) := by decide +kernel
theorem dX3_placeCount_0 : decode cX3_placeCount 0 = .ok (.aload_n 0, 1) := by decide +kernel
theorem dX3_placeCount_1 : decode cX3_placeCount 1 = .ok (.getfield 38, 3) := by decide +kernel
theorem dX3_placeCount_4 : decode cX3_placeCount 4 = .ok (.invokevirtual 50, 3) := by decide +kernel
theorem dX3_placeCount_7 : decode cX3_placeCount 7 = .ok (.ireturn, 1) := by decide +kernel
theorem dX3_startOf_0 : decode cX3_startOf 0 = .ok (.iload_n 1, 1) := by decide +kernel
theorem dX3_startOf_1 : decode cX3_startOf 1 = .ok (.ifCond .le 13, 3) := by decide +kernel
theorem dX3_startOf_4 : decode cX3_startOf 4 = .ok (.aload_n 0, 1) := by decide +kernel
theorem dX3_startOf_5 : decode cX3_startOf 5 = .ok (.iload_n 1, 1) := by decide +kernel
theorem dX3_startOf_6 : decode cX3_startOf 6 = .ok (.iconst 1, 1) := by decide +kernel
theorem dX3_startOf_7 : decode cX3_startOf 7 = .ok (.isub, 1) := by decide +kernel
theorem dX3_startOf_8 : decode cX3_startOf 8 = .ok (.invokevirtual 54, 3) := by decide +kernel
theorem dX3_startOf_11 : decode cX3_startOf 11 = .ok (.goto 4, 3) := by decide +kernel
theorem dX3_startOf_14 : decode cX3_startOf 14 = .ok (.iconst 0, 1) := by decide +kernel
theorem dX3_startOf_15 : decode cX3_startOf 15 = .ok (.ireturn, 1) := by decide +kernel
theorem dX3_signCount_0 : decode cX3_signCount 0 = .ok (.aload_n 0, 1) := by decide +kernel
theorem dX3_signCount_1 : decode cX3_signCount 1 = .ok (.getfield 20, 3) := by decide +kernel
theorem dX3_signCount_4 : decode cX3_signCount 4 = .ok (.iload_n 1, 1) := by decide +kernel
theorem dX3_signCount_5 : decode cX3_signCount 5 = .ok (.invokevirtual 54, 3) := by decide +kernel
theorem dX3_signCount_8 : decode cX3_signCount 8 = .ok (.aload_n 0, 1) := by decide +kernel
theorem dX3_signCount_9 : decode cX3_signCount 9 = .ok (.getfield 20, 3) := by decide +kernel
theorem dX3_signCount_12 : decode cX3_signCount 12 = .ok (.iload_n 1, 1) := by decide +kernel
theorem dX3_signCount_13 : decode cX3_signCount 13 = .ok (.invokestatic 74, 3) := by decide +kernel
theorem dX3_signCount_16 : decode cX3_signCount 16 = .ok (.isub, 1) := by decide +kernel
theorem dX3_signCount_17 : decode cX3_signCount 17 = .ok (.ireturn, 1) := by decide +kernel
theorem dX3_signOf_0 : decode cX3_signOf 0 = .ok (.aload_n 0, 1) := by decide +kernel
theorem dX3_signOf_1 : decode cX3_signOf 1 = .ok (.getfield 14, 3) := by decide +kernel
theorem dX3_signOf_4 : decode cX3_signOf 4 = .ok (.aload_n 0, 1) := by decide +kernel
theorem dX3_signOf_5 : decode cX3_signOf 5 = .ok (.getfield 20, 3) := by decide +kernel
theorem dX3_signOf_8 : decode cX3_signOf 8 = .ok (.iload_n 1, 1) := by decide +kernel
theorem dX3_signOf_9 : decode cX3_signOf 9 = .ok (.invokestatic 74, 3) := by decide +kernel
theorem dX3_signOf_12 : decode cX3_signOf 12 = .ok (.iload_n 2, 1) := by decide +kernel
theorem dX3_signOf_13 : decode cX3_signOf 13 = .ok (.iadd, 1) := by decide +kernel
theorem dX3_signOf_14 : decode cX3_signOf 14 = .ok (.invokevirtual 54, 3) := by decide +kernel
theorem dX3_signOf_17 : decode cX3_signOf 17 = .ok (.ireturn, 1) := by decide +kernel
theorem dX3_wordAt_0 : decode cX3_wordAt 0 = .ok (.aload_n 0, 1) := by decide +kernel
theorem dX3_wordAt_1 : decode cX3_wordAt 1 = .ok (.getfield 38, 3) := by decide +kernel
theorem dX3_wordAt_4 : decode cX3_wordAt 4 = .ok (.iload_n 1, 1) := by decide +kernel
theorem dX3_wordAt_5 : decode cX3_wordAt 5 = .ok (.invokevirtual 54, 3) := by decide +kernel
theorem dX3_wordAt_8 : decode cX3_wordAt 8 = .ok (.ireturn, 1) := by decide +kernel
theorem dX3_plainAhead_0 : decode cX3_plainAhead 0 = .ok (.aload_n 0, 1) := by decide +kernel
theorem dX3_plainAhead_1 : decode cX3_plainAhead 1 = .ok (.getfield 41, 3) := by decide +kernel
theorem dX3_plainAhead_4 : decode cX3_plainAhead 4 = .ok (.iload_n 1, 1) := by decide +kernel
theorem dX3_plainAhead_5 : decode cX3_plainAhead 5 = .ok (.invokevirtual 54, 3) := by decide +kernel
theorem dX3_plainAhead_8 : decode cX3_plainAhead 8 = .ok (.ireturn, 1) := by decide +kernel
theorem dX3_isSlashAt_0 : decode cX3_isSlashAt 0 = .ok (.aload_n 0, 1) := by decide +kernel
theorem dX3_isSlashAt_1 : decode cX3_isSlashAt 1 = .ok (.getfield 44, 3) := by decide +kernel
theorem dX3_isSlashAt_4 : decode cX3_isSlashAt 4 = .ok (.iload_n 1, 1) := by decide +kernel
theorem dX3_isSlashAt_5 : decode cX3_isSlashAt 5 = .ok (.invokevirtual 54, 3) := by decide +kernel
theorem dX3_isSlashAt_8 : decode cX3_isSlashAt 8 = .ok (.iconst 1, 1) := by decide +kernel
theorem dX3_isSlashAt_9 : decode cX3_isSlashAt 9 = .ok (.if_icmp .ne 7, 3) := by decide +kernel
theorem dX3_isSlashAt_12 : decode cX3_isSlashAt 12 = .ok (.iconst 1, 1) := by decide +kernel
theorem dX3_isSlashAt_13 : decode cX3_isSlashAt 13 = .ok (.goto 4, 3) := by decide +kernel
theorem dX3_isSlashAt_16 : decode cX3_isSlashAt 16 = .ok (.iconst 0, 1) := by decide +kernel
theorem dX3_isSlashAt_17 : decode cX3_isSlashAt 17 = .ok (.ireturn, 1) := by decide +kernel
theorem dX3_lastPlaceOf_0 : decode cX3_lastPlaceOf 0 = .ok (.aload_n 0, 1) := by decide +kernel
theorem dX3_lastPlaceOf_1 : decode cX3_lastPlaceOf 1 = .ok (.getfield 29, 3) := by decide +kernel
theorem dX3_lastPlaceOf_4 : decode cX3_lastPlaceOf 4 = .ok (.iload_n 1, 1) := by decide +kernel
theorem dX3_lastPlaceOf_5 : decode cX3_lastPlaceOf 5 = .ok (.invokevirtual 54, 3) := by decide +kernel
theorem dX3_lastPlaceOf_8 : decode cX3_lastPlaceOf 8 = .ok (.ireturn, 1) := by decide +kernel
theorem dX3_spellings_0 : decode cX3_spellings 0 = .ok (.aload_n 0, 1) := by decide +kernel
theorem dX3_spellings_1 : decode cX3_spellings 1 = .ok (.getfield 35, 3) := by decide +kernel
theorem dX3_spellings_4 : decode cX3_spellings 4 = .ok (.invokevirtual 50, 3) := by decide +kernel
theorem dX3_spellings_7 : decode cX3_spellings 7 = .ok (.ireturn, 1) := by decide +kernel
theorem dX3_firstSpelled_0 : decode cX3_firstSpelled 0 = .ok (.aload_n 0, 1) := by decide +kernel
theorem dX3_firstSpelled_1 : decode cX3_firstSpelled 1 = .ok (.getfield 35, 3) := by decide +kernel
theorem dX3_firstSpelled_4 : decode cX3_firstSpelled 4 = .ok (.iload_n 1, 1) := by decide +kernel
theorem dX3_firstSpelled_5 : decode cX3_firstSpelled 5 = .ok (.invokevirtual 54, 3) := by decide +kernel
theorem dX3_firstSpelled_8 : decode cX3_firstSpelled 8 = .ok (.ireturn, 1) := by decide +kernel
theorem dX3_timesSpelled_0 : decode cX3_timesSpelled 0 = .ok (.iconst 0, 1) := by decide +kernel
theorem dX3_timesSpelled_1 : decode cX3_timesSpelled 1 = .ok (.istore_n 2, 1) := by decide +kernel
theorem dX3_timesSpelled_2 : decode cX3_timesSpelled 2 = .ok (.iconst 0, 1) := by decide +kernel
theorem dX3_timesSpelled_3 : decode cX3_timesSpelled 3 = .ok (.istore_n 3, 1) := by decide +kernel
theorem dX3_timesSpelled_4 : decode cX3_timesSpelled 4 = .ok (.iload_n 3, 1) := by decide +kernel
theorem dX3_timesSpelled_5 : decode cX3_timesSpelled 5 = .ok (.aload_n 0, 1) := by decide +kernel
theorem dX3_timesSpelled_6 : decode cX3_timesSpelled 6 = .ok (.getfield 32, 3) := by decide +kernel
theorem dX3_timesSpelled_9 : decode cX3_timesSpelled 9 = .ok (.invokevirtual 50, 3) := by decide +kernel
theorem dX3_timesSpelled_12 : decode cX3_timesSpelled 12 = .ok (.if_icmp .ge 36, 3) := by decide +kernel
theorem dX3_timesSpelled_15 : decode cX3_timesSpelled 15 = .ok (.iload_n 2, 1) := by decide +kernel
theorem dX3_timesSpelled_16 : decode cX3_timesSpelled 16 = .ok (.aload_n 0, 1) := by decide +kernel
theorem dX3_timesSpelled_17 : decode cX3_timesSpelled 17 = .ok (.getfield 32, 3) := by decide +kernel
theorem dX3_timesSpelled_20 : decode cX3_timesSpelled 20 = .ok (.iload_n 3, 1) := by decide +kernel
theorem dX3_timesSpelled_21 : decode cX3_timesSpelled 21 = .ok (.invokevirtual 54, 3) := by decide +kernel
theorem dX3_timesSpelled_24 : decode cX3_timesSpelled 24 = .ok (.aload_n 0, 1) := by decide +kernel
theorem dX3_timesSpelled_25 : decode cX3_timesSpelled 25 = .ok (.getfield 35, 3) := by decide +kernel
theorem dX3_timesSpelled_28 : decode cX3_timesSpelled 28 = .ok (.iload_n 1, 1) := by decide +kernel
theorem dX3_timesSpelled_29 : decode cX3_timesSpelled 29 = .ok (.invokevirtual 54, 3) := by decide +kernel
theorem dX3_timesSpelled_32 : decode cX3_timesSpelled 32 = .ok (.if_icmp .ne 7, 3) := by decide +kernel
theorem dX3_timesSpelled_35 : decode cX3_timesSpelled 35 = .ok (.iconst 1, 1) := by decide +kernel
theorem dX3_timesSpelled_36 : decode cX3_timesSpelled 36 = .ok (.goto 4, 3) := by decide +kernel
theorem dX3_timesSpelled_39 : decode cX3_timesSpelled 39 = .ok (.iconst 0, 1) := by decide +kernel
theorem dX3_timesSpelled_40 : decode cX3_timesSpelled 40 = .ok (.iadd, 1) := by decide +kernel
theorem dX3_timesSpelled_41 : decode cX3_timesSpelled 41 = .ok (.istore_n 2, 1) := by decide +kernel
theorem dX3_timesSpelled_42 : decode cX3_timesSpelled 42 = .ok (.iinc 3 1, 3) := by decide +kernel
theorem dX3_timesSpelled_45 : decode cX3_timesSpelled 45 = .ok (.goto (-41), 3) := by decide +kernel
theorem dX3_timesSpelled_48 : decode cX3_timesSpelled 48 = .ok (.iload_n 2, 1) := by decide +kernel
theorem dX3_timesSpelled_49 : decode cX3_timesSpelled 49 = .ok (.ireturn, 1) := by decide +kernel
theorem dX4_init_0 : decode cX4_init 0 = .ok (.aload_n 0, 1) := by decide +kernel
theorem dX4_init_1 : decode cX4_init 1 = .ok (.invokespecial 3, 3) := by decide +kernel
theorem dX4_init_4 : decode cX4_init 4 = .ok (.aload_n 0, 1) := by decide +kernel
theorem dX4_init_5 : decode cX4_init 5 = .ok (.bipush 38, 2) := by decide +kernel
theorem dX4_init_7 : decode cX4_init 7 = .ok (.newarray .int, 2) := by decide +kernel
theorem dX4_init_9 : decode cX4_init 9 = .ok (.putfield 9, 3) := by decide +kernel
theorem dX4_init_12 : decode cX4_init 12 = .ok (.aload_n 0, 1) := by decide +kernel
theorem dX4_init_13 : decode cX4_init 13 = .ok (.new 15, 3) := by decide +kernel
theorem dX4_init_16 : decode cX4_init 16 = .ok (.dup, 1) := by decide +kernel
theorem dX4_init_17 : decode cX4_init 17 = .ok (.bipush 10, 2) := by decide +kernel
theorem dX4_init_19 : decode cX4_init 19 = .ok (.invokespecial 17, 3) := by decide +kernel
theorem dX4_init_22 : decode cX4_init 22 = .ok (.putfield 20, 3) := by decide +kernel
theorem dX4_init_25 : decode cX4_init 25 = .ok (.aload_n 0, 1) := by decide +kernel
theorem dX4_init_26 : decode cX4_init 26 = .ok (.new 15, 3) := by decide +kernel
theorem dX4_init_29 : decode cX4_init 29 = .ok (.dup, 1) := by decide +kernel
theorem dX4_init_30 : decode cX4_init 30 = .ok (.bipush 10, 2) := by decide +kernel
theorem dX4_init_32 : decode cX4_init 32 = .ok (.invokespecial 17, 3) := by decide +kernel
theorem dX4_init_35 : decode cX4_init 35 = .ok (.putfield 24, 3) := by decide +kernel
theorem dX4_init_38 : decode cX4_init 38 = .ok (.aload_n 0, 1) := by decide +kernel
theorem dX4_init_39 : decode cX4_init 39 = .ok (.bipush 76, 2) := by decide +kernel
theorem dX4_init_41 : decode cX4_init 41 = .ok (.newarray .int, 2) := by decide +kernel
theorem dX4_init_43 : decode cX4_init 43 = .ok (.putfield 27, 3) := by decide +kernel
theorem dX4_init_46 : decode cX4_init 46 = .ok (.aload_n 0, 1) := by decide +kernel
theorem dX4_init_47 : decode cX4_init 47 = .ok (.iconst 2, 1) := by decide +kernel
theorem dX4_init_48 : decode cX4_init 48 = .ok (.newarray .boolean, 2) := by decide +kernel
theorem dX4_init_50 : decode cX4_init 50 = .ok (.putfield 30, 3) := by decide +kernel
theorem dX4_init_53 : decode cX4_init 53 = .ok (.aload_n 0, 1) := by decide +kernel
theorem dX4_init_54 : decode cX4_init 54 = .ok (.invokevirtual 34, 3) := by decide +kernel
theorem dX4_init_57 : decode cX4_init 57 = .ok (.return_, 1) := by decide +kernel
theorem dX4_begin_0 : decode cX4_begin 0 = .ok (.iconst 0, 1) := by decide +kernel
theorem dX4_begin_1 : decode cX4_begin 1 = .ok (.istore_n 1, 1) := by decide +kernel
theorem dX4_begin_2 : decode cX4_begin 2 = .ok (.iload_n 1, 1) := by decide +kernel
theorem dX4_begin_3 : decode cX4_begin 3 = .ok (.bipush 34, 2) := by decide +kernel
theorem dX4_begin_5 : decode cX4_begin 5 = .ok (.if_icmp .ge 35, 3) := by decide +kernel
theorem dX4_begin_8 : decode cX4_begin 8 = .ok (.aload_n 0, 1) := by decide +kernel
theorem dX4_begin_9 : decode cX4_begin 9 = .ok (.iload_n 1, 1) := by decide +kernel
theorem dX4_begin_10 : decode cX4_begin 10 = .ok (.iload_n 1, 1) := by decide +kernel
theorem dX4_begin_11 : decode cX4_begin 11 = .ok (.bipush 26, 2) := by decide +kernel
theorem dX4_begin_13 : decode cX4_begin 13 = .ok (.if_icmp .ge 7, 3) := by decide +kernel
theorem dX4_begin_16 : decode cX4_begin 16 = .ok (.iconst 4, 1) := by decide +kernel
theorem dX4_begin_17 : decode cX4_begin 17 = .ok (.goto 14, 3) := by decide +kernel
theorem dX4_begin_20 : decode cX4_begin 20 = .ok (.iload_n 1, 1) := by decide +kernel
theorem dX4_begin_21 : decode cX4_begin 21 = .ok (.bipush 30, 2) := by decide +kernel
theorem dX4_begin_23 : decode cX4_begin 23 = .ok (.if_icmp .ge 7, 3) := by decide +kernel
theorem dX4_begin_26 : decode cX4_begin 26 = .ok (.iconst 2, 1) := by decide +kernel
theorem dX4_begin_27 : decode cX4_begin 27 = .ok (.goto 4, 3) := by decide +kernel
theorem dX4_begin_30 : decode cX4_begin 30 = .ok (.iconst 0, 1) := by decide +kernel
theorem dX4_begin_31 : decode cX4_begin 31 = .ok (.invokevirtual 37, 3) := by decide +kernel
theorem dX4_begin_34 : decode cX4_begin 34 = .ok (.iinc 1 1, 3) := by decide +kernel
theorem dX4_begin_37 : decode cX4_begin 37 = .ok (.goto (-35), 3) := by decide +kernel
theorem dX4_begin_40 : decode cX4_begin 40 = .ok (.iconst 0, 1) := by decide +kernel
theorem dX4_begin_41 : decode cX4_begin 41 = .ok (.istore_n 1, 1) := by decide +kernel
theorem dX4_begin_42 : decode cX4_begin 42 = .ok (.iload_n 1, 1) := by decide +kernel
theorem dX4_begin_43 : decode cX4_begin 43 = .ok (.getstatic 41, 3) := by decide +kernel
theorem dX4_begin_46 : decode cX4_begin 46 = .ok (.arraylength, 1) := by decide +kernel
theorem dX4_begin_47 : decode cX4_begin 47 = .ok (.if_icmp .ge 22, 3) := by decide +kernel
theorem dX4_begin_50 : decode cX4_begin 50 = .ok (.aload_n 0, 1) := by decide +kernel
theorem dX4_begin_51 : decode cX4_begin 51 = .ok (.bipush 34, 2) := by decide +kernel
theorem dX4_begin_53 : decode cX4_begin 53 = .ok (.iload_n 1, 1) := by decide +kernel
theorem dX4_begin_54 : decode cX4_begin 54 = .ok (.iadd, 1) := by decide +kernel
theorem dX4_begin_55 : decode cX4_begin 55 = .ok (.getstatic 41, 3) := by decide +kernel
theorem dX4_begin_58 : decode cX4_begin 58 = .ok (.iload_n 1, 1) := by decide +kernel
theorem dX4_begin_59 : decode cX4_begin 59 = .ok (.iaload, 1) := by decide +kernel
theorem dX4_begin_60 : decode cX4_begin 60 = .ok (.invokevirtual 37, 3) := by decide +kernel
theorem dX4_begin_63 : decode cX4_begin 63 = .ok (.iinc 1 1, 3) := by decide +kernel
theorem dX4_begin_66 : decode cX4_begin 66 = .ok (.goto (-24), 3) := by decide +kernel
theorem dX4_begin_69 : decode cX4_begin 69 = .ok (.iconst 0, 1) := by decide +kernel
theorem dX4_begin_70 : decode cX4_begin 70 = .ok (.istore_n 1, 1) := by decide +kernel
theorem dX4_begin_71 : decode cX4_begin 71 = .ok (.iload_n 1, 1) := by decide +kernel
theorem dX4_begin_72 : decode cX4_begin 72 = .ok (.aload_n 0, 1) := by decide +kernel
theorem dX4_begin_73 : decode cX4_begin 73 = .ok (.getfield 30, 3) := by decide +kernel
theorem dX4_begin_76 : decode cX4_begin 76 = .ok (.arraylength, 1) := by decide +kernel
theorem dX4_begin_77 : decode cX4_begin 77 = .ok (.if_icmp .ge 16, 3) := by decide +kernel
theorem dX4_begin_80 : decode cX4_begin 80 = .ok (.aload_n 0, 1) := by decide +kernel
theorem dX4_begin_81 : decode cX4_begin 81 = .ok (.getfield 30, 3) := by decide +kernel
theorem dX4_begin_84 : decode cX4_begin 84 = .ok (.iload_n 1, 1) := by decide +kernel
theorem dX4_begin_85 : decode cX4_begin 85 = .ok (.iconst 0, 1) := by decide +kernel
theorem dX4_begin_86 : decode cX4_begin 86 = .ok (.bastore, 1) := by decide +kernel
theorem dX4_begin_87 : decode cX4_begin 87 = .ok (.iinc 1 1, 3) := by decide +kernel
theorem dX4_begin_90 : decode cX4_begin 90 = .ok (.goto (-19), 3) := by decide +kernel
theorem dX4_begin_93 : decode cX4_begin 93 = .ok (.aload_n 0, 1) := by decide +kernel
theorem dX4_begin_94 : decode cX4_begin 94 = .ok (.invokevirtual 44, 3) := by decide +kernel
theorem dX4_begin_97 : decode cX4_begin 97 = .ok (.return_, 1) := by decide +kernel
theorem dX4_store_0 : decode cX4_store 0 = .ok (.iload_n 1, 1) := by decide +kernel
theorem dX4_store_1 : decode cX4_store 1 = .ok (.ifCond .lt 19, 3) := by decide +kernel
theorem dX4_store_4 : decode cX4_store 4 = .ok (.iload_n 1, 1) := by decide +kernel
theorem dX4_store_5 : decode cX4_store 5 = .ok (.aload_n 0, 1) := by decide +kernel
theorem dX4_store_6 : decode cX4_store 6 = .ok (.getfield 9, 3) := by decide +kernel
theorem dX4_store_9 : decode cX4_store 9 = .ok (.arraylength, 1) := by decide +kernel
theorem dX4_store_10 : decode cX4_store 10 = .ok (.if_icmp .ge 10, 3) := by decide +kernel
theorem dX4_store_13 : decode cX4_store 13 = .ok (.aload_n 0, 1) := by decide +kernel
theorem dX4_store_14 : decode cX4_store 14 = .ok (.getfield 9, 3) := by decide +kernel
theorem dX4_store_17 : decode cX4_store 17 = .ok (.iload_n 1, 1) := by decide +kernel
theorem dX4_store_18 : decode cX4_store 18 = .ok (.iload_n 2, 1) := by decide +kernel
theorem dX4_store_19 : decode cX4_store 19 = .ok (.iastore, 1) := by decide +kernel
theorem dX4_store_20 : decode cX4_store 20 = .ok (.return_, 1) := by decide +kernel
theorem dX4_loseUndone_0 : decode cX4_loseUndone 0 = .ok (.aload_n 0, 1) := by decide +kernel
theorem dX4_loseUndone_1 : decode cX4_loseUndone 1 = .ok (.getfield 20, 3) := by decide +kernel
theorem dX4_loseUndone_4 : decode cX4_loseUndone 4 = .ok (.invokevirtual 47, 3) := by decide +kernel
theorem dX4_loseUndone_7 : decode cX4_loseUndone 7 = .ok (.aload_n 0, 1) := by decide +kernel
theorem dX4_loseUndone_8 : decode cX4_loseUndone 8 = .ok (.getfield 24, 3) := by decide +kernel
theorem dX4_loseUndone_11 : decode cX4_loseUndone 11 = .ok (.invokevirtual 47, 3) := by decide +kernel
theorem dX4_loseUndone_14 : decode cX4_loseUndone 14 = .ok (.return_, 1) := by decide +kernel
theorem dX4_get_0 : decode cX4_get 0 = .ok (.iload_n 1, 1) := by decide +kernel
theorem dX4_get_1 : decode cX4_get 1 = .ok (.ifCond .lt 21, 3) := by decide +kernel
theorem dX4_get_4 : decode cX4_get 4 = .ok (.iload_n 1, 1) := by decide +kernel
theorem dX4_get_5 : decode cX4_get 5 = .ok (.aload_n 0, 1) := by decide +kernel
theorem dX4_get_6 : decode cX4_get 6 = .ok (.getfield 9, 3) := by decide +kernel
theorem dX4_get_9 : decode cX4_get 9 = .ok (.arraylength, 1) := by decide +kernel
theorem dX4_get_10 : decode cX4_get 10 = .ok (.if_icmp .ge 12, 3) := by decide +kernel
theorem dX4_get_13 : decode cX4_get 13 = .ok (.aload_n 0, 1) := by decide +kernel
theorem dX4_get_14 : decode cX4_get 14 = .ok (.getfield 9, 3) := by decide +kernel
theorem dX4_get_17 : decode cX4_get 17 = .ok (.iload_n 1, 1) := by decide +kernel
theorem dX4_get_18 : decode cX4_get 18 = .ok (.iaload, 1) := by decide +kernel
theorem dX4_get_19 : decode cX4_get 19 = .ok (.goto 4, 3) := by decide +kernel
theorem dX4_get_22 : decode cX4_get 22 = .ok (.iconst 0, 1) := by decide +kernel
theorem dX4_get_23 : decode cX4_get 23 = .ok (.ireturn, 1) := by decide +kernel
theorem dX4_widthOf_0 : decode cX4_widthOf 0 = .ok (.aload_n 0, 1) := by decide +kernel
theorem dX4_widthOf_1 : decode cX4_widthOf 1 = .ok (.iload_n 1, 1) := by decide +kernel
theorem dX4_widthOf_2 : decode cX4_widthOf 2 = .ok (.invokestatic 50, 3) := by decide +kernel
theorem dX4_widthOf_5 : decode cX4_widthOf 5 = .ok (.invokevirtual 54, 3) := by decide +kernel
theorem dX4_widthOf_8 : decode cX4_widthOf 8 = .ok (.ireturn, 1) := by decide +kernel
theorem dX4_hungOf_0 : decode cX4_hungOf 0 = .ok (.aload_n 0, 1) := by decide +kernel
theorem dX4_hungOf_1 : decode cX4_hungOf 1 = .ok (.iload_n 1, 1) := by decide +kernel
theorem dX4_hungOf_2 : decode cX4_hungOf 2 = .ok (.invokestatic 50, 3) := by decide +kernel
theorem dX4_hungOf_5 : decode cX4_hungOf 5 = .ok (.invokevirtual 54, 3) := by decide +kernel
theorem dX4_hungOf_8 : decode cX4_hungOf 8 = .ok (.aload_n 0, 1) := by decide +kernel
theorem dX4_hungOf_9 : decode cX4_hungOf 9 = .ok (.iload_n 1, 1) := by decide +kernel
theorem dX4_hungOf_10 : decode cX4_hungOf 10 = .ok (.invokestatic 57, 3) := by decide +kernel
theorem dX4_hungOf_13 : decode cX4_hungOf 13 = .ok (.invokevirtual 54, 3) := by decide +kernel
theorem dX4_hungOf_16 : decode cX4_hungOf 16 = .ok (.imul, 1) := by decide +kernel
theorem dX4_hungOf_17 : decode cX4_hungOf 17 = .ok (.bipush 10, 2) := by decide +kernel
theorem dX4_hungOf_19 : decode cX4_hungOf 19 = .ok (.idiv, 1) := by decide +kernel
theorem dX4_hungOf_20 : decode cX4_hungOf 20 = .ok (.ireturn, 1) := by decide +kernel
theorem dX4_change_0 : decode cX4_change 0 = .ok (.aload_n 0, 1) := by decide +kernel
theorem dX4_change_1 : decode cX4_change 1 = .ok (.getfield 20, 3) := by decide +kernel
theorem dX4_change_4 : decode cX4_change 4 = .ok (.invokevirtual 60, 3) := by decide +kernel
theorem dX4_change_7 : decode cX4_change 7 = .ok (.bipush 10, 2) := by decide +kernel
theorem dX4_change_9 : decode cX4_change 9 = .ok (.if_icmp .lt 17, 3) := by decide +kernel
theorem dX4_change_12 : decode cX4_change 12 = .ok (.aload_n 0, 1) := by decide +kernel
theorem dX4_change_13 : decode cX4_change 13 = .ok (.getfield 20, 3) := by decide +kernel
theorem dX4_change_16 : decode cX4_change 16 = .ok (.invokevirtual 64, 3) := by decide +kernel
theorem dX4_change_19 : decode cX4_change 19 = .ok (.aload_n 0, 1) := by decide +kernel
theorem dX4_change_20 : decode cX4_change 20 = .ok (.getfield 24, 3) := by decide +kernel
theorem dX4_change_23 : decode cX4_change 23 = .ok (.invokevirtual 64, 3) := by decide +kernel
theorem dX4_change_26 : decode cX4_change 26 = .ok (.aload_n 0, 1) := by decide +kernel
theorem dX4_change_27 : decode cX4_change 27 = .ok (.getfield 20, 3) := by decide +kernel
theorem dX4_change_30 : decode cX4_change 30 = .ok (.iload_n 1, 1) := by decide +kernel
theorem dX4_change_31 : decode cX4_change 31 = .ok (.invokevirtual 67, 3) := by decide +kernel
theorem dX4_change_34 : decode cX4_change 34 = .ok (.pop, 1) := by decide +kernel
theorem dX4_change_35 : decode cX4_change 35 = .ok (.aload_n 0, 1) := by decide +kernel
theorem dX4_change_36 : decode cX4_change 36 = .ok (.getfield 24, 3) := by decide +kernel
theorem dX4_change_39 : decode cX4_change 39 = .ok (.aload_n 0, 1) := by decide +kernel
theorem dX4_change_40 : decode cX4_change 40 = .ok (.iload_n 1, 1) := by decide +kernel
theorem dX4_change_41 : decode cX4_change 41 = .ok (.invokevirtual 54, 3) := by decide +kernel
theorem dX4_change_44 : decode cX4_change 44 = .ok (.invokevirtual 67, 3) := by decide +kernel
theorem dX4_change_47 : decode cX4_change 47 = .ok (.pop, 1) := by decide +kernel
theorem dX4_change_48 : decode cX4_change 48 = .ok (.aload_n 0, 1) := by decide +kernel
theorem dX4_change_49 : decode cX4_change 49 = .ok (.iload_n 1, 1) := by decide +kernel
theorem dX4_change_50 : decode cX4_change 50 = .ok (.iload_n 2, 1) := by decide +kernel
theorem dX4_change_51 : decode cX4_change 51 = .ok (.invokevirtual 37, 3) := by decide +kernel
theorem dX4_change_54 : decode cX4_change 54 = .ok (.return_, 1) := by decide +kernel
theorem dX4_undoable_0 : decode cX4_undoable 0 = .ok (.aload_n 0, 1) := by decide +kernel
theorem dX4_undoable_1 : decode cX4_undoable 1 = .ok (.getfield 20, 3) := by decide +kernel
theorem dX4_undoable_4 : decode cX4_undoable 4 = .ok (.invokevirtual 60, 3) := by decide +kernel
theorem dX4_undoable_7 : decode cX4_undoable 7 = .ok (.ireturn, 1) := by decide +kernel
theorem dX4_takeBack_0 : decode cX4_takeBack 0 = .ok (.aload_n 0, 1) := by decide +kernel
theorem dX4_takeBack_1 : decode cX4_takeBack 1 = .ok (.getfield 20, 3) := by decide +kernel
theorem dX4_takeBack_4 : decode cX4_takeBack 4 = .ok (.invokevirtual 60, 3) := by decide +kernel
theorem dX4_takeBack_7 : decode cX4_takeBack 7 = .ok (.iconst 1, 1) := by decide +kernel
theorem dX4_takeBack_8 : decode cX4_takeBack 8 = .ok (.isub, 1) := by decide +kernel
theorem dX4_takeBack_9 : decode cX4_takeBack 9 = .ok (.istore_n 1, 1) := by decide +kernel
theorem dX4_takeBack_10 : decode cX4_takeBack 10 = .ok (.aload_n 0, 1) := by decide +kernel
theorem dX4_takeBack_11 : decode cX4_takeBack 11 = .ok (.getfield 20, 3) := by decide +kernel
theorem dX4_takeBack_14 : decode cX4_takeBack 14 = .ok (.iload_n 1, 1) := by decide +kernel
theorem dX4_takeBack_15 : decode cX4_takeBack 15 = .ok (.invokevirtual 71, 3) := by decide +kernel
theorem dX4_takeBack_18 : decode cX4_takeBack 18 = .ok (.istore_n 2, 1) := by decide +kernel
theorem dX4_takeBack_19 : decode cX4_takeBack 19 = .ok (.iload_n 1, 1) := by decide +kernel
theorem dX4_takeBack_20 : decode cX4_takeBack 20 = .ok (.ifCond .lt 30, 3) := by decide +kernel
theorem dX4_takeBack_23 : decode cX4_takeBack 23 = .ok (.aload_n 0, 1) := by decide +kernel
theorem dX4_takeBack_24 : decode cX4_takeBack 24 = .ok (.iload_n 2, 1) := by decide +kernel
theorem dX4_takeBack_25 : decode cX4_takeBack 25 = .ok (.aload_n 0, 1) := by decide +kernel
theorem dX4_takeBack_26 : decode cX4_takeBack 26 = .ok (.getfield 24, 3) := by decide +kernel
theorem dX4_takeBack_29 : decode cX4_takeBack 29 = .ok (.iload_n 1, 1) := by decide +kernel
theorem dX4_takeBack_30 : decode cX4_takeBack 30 = .ok (.invokevirtual 71, 3) := by decide +kernel
theorem dX4_takeBack_33 : decode cX4_takeBack 33 = .ok (.invokevirtual 37, 3) := by decide +kernel
theorem dX4_takeBack_36 : decode cX4_takeBack 36 = .ok (.aload_n 0, 1) := by decide +kernel
theorem dX4_takeBack_37 : decode cX4_takeBack 37 = .ok (.getfield 20, 3) := by decide +kernel
theorem dX4_takeBack_40 : decode cX4_takeBack 40 = .ok (.invokevirtual 72, 3) := by decide +kernel
theorem dX4_takeBack_43 : decode cX4_takeBack 43 = .ok (.aload_n 0, 1) := by decide +kernel
theorem dX4_takeBack_44 : decode cX4_takeBack 44 = .ok (.getfield 24, 3) := by decide +kernel
theorem dX4_takeBack_47 : decode cX4_takeBack 47 = .ok (.invokevirtual 72, 3) := by decide +kernel
theorem dX4_takeBack_50 : decode cX4_takeBack 50 = .ok (.iload_n 2, 1) := by decide +kernel
theorem dX4_takeBack_51 : decode cX4_takeBack 51 = .ok (.ireturn, 1) := by decide +kernel
theorem dX4_has_0 : decode cX4_has 0 = .ok (.iload_n 1, 1) := by decide +kernel
theorem dX4_has_1 : decode cX4_has 1 = .ok (.ifCond .lt 25, 3) := by decide +kernel
theorem dX4_has_4 : decode cX4_has 4 = .ok (.iload_n 1, 1) := by decide +kernel
theorem dX4_has_5 : decode cX4_has 5 = .ok (.aload_n 0, 1) := by decide +kernel
theorem dX4_has_6 : decode cX4_has 6 = .ok (.getfield 30, 3) := by decide +kernel
theorem dX4_has_9 : decode cX4_has 9 = .ok (.arraylength, 1) := by decide +kernel
theorem dX4_has_10 : decode cX4_has 10 = .ok (.if_icmp .ge 16, 3) := by decide +kernel
theorem dX4_has_13 : decode cX4_has 13 = .ok (.aload_n 0, 1) := by decide +kernel
theorem dX4_has_14 : decode cX4_has 14 = .ok (.getfield 30, 3) := by decide +kernel
theorem dX4_has_17 : decode cX4_has 17 = .ok (.iload_n 1, 1) := by decide +kernel
theorem dX4_has_18 : decode cX4_has 18 = .ok (.baload, 1) := by decide +kernel
theorem dX4_has_19 : decode cX4_has 19 = .ok (.ifCond .eq 7, 3) := by decide +kernel
theorem dX4_has_22 : decode cX4_has 22 = .ok (.iconst 1, 1) := by decide +kernel
theorem dX4_has_23 : decode cX4_has 23 = .ok (.goto 4, 3) := by decide +kernel
theorem dX4_has_26 : decode cX4_has 26 = .ok (.iconst 0, 1) := by decide +kernel
theorem dX4_has_27 : decode cX4_has 27 = .ok (.ireturn, 1) := by decide +kernel
theorem dX4_copyTo_0 : decode cX4_copyTo 0 = .ok (.iload_n 1, 1) := by decide +kernel
theorem dX4_copyTo_1 : decode cX4_copyTo 1 = .ok (.ifCond .lt 12, 3) := by decide +kernel
theorem dX4_copyTo_4 : decode cX4_copyTo 4 = .ok (.iload_n 1, 1) := by decide +kernel
theorem dX4_copyTo_5 : decode cX4_copyTo 5 = .ok (.aload_n 0, 1) := by decide +kernel
theorem dX4_copyTo_6 : decode cX4_copyTo 6 = .ok (.getfield 30, 3) := by decide +kernel
theorem dX4_copyTo_9 : decode cX4_copyTo 9 = .ok (.arraylength, 1) := by decide +kernel
theorem dX4_copyTo_10 : decode cX4_copyTo 10 = .ok (.if_icmp .lt 4, 3) := by decide +kernel
theorem dX4_copyTo_13 : decode cX4_copyTo 13 = .ok (.return_, 1) := by decide +kernel
theorem dX4_copyTo_14 : decode cX4_copyTo 14 = .ok (.aload_n 0, 1) := by decide +kernel
theorem dX4_copyTo_15 : decode cX4_copyTo 15 = .ok (.getfield 9, 3) := by decide +kernel
theorem dX4_copyTo_18 : decode cX4_copyTo 18 = .ok (.iconst 0, 1) := by decide +kernel
theorem dX4_copyTo_19 : decode cX4_copyTo 19 = .ok (.aload_n 0, 1) := by decide +kernel
theorem dX4_copyTo_20 : decode cX4_copyTo 20 = .ok (.getfield 27, 3) := by decide +kernel
theorem dX4_copyTo_23 : decode cX4_copyTo 23 = .ok (.iload_n 1, 1) := by decide +kernel
theorem dX4_copyTo_24 : decode cX4_copyTo 24 = .ok (.bipush 38, 2) := by decide +kernel
theorem dX4_copyTo_26 : decode cX4_copyTo 26 = .ok (.imul, 1) := by decide +kernel
theorem dX4_copyTo_27 : decode cX4_copyTo 27 = .ok (.bipush 38, 2) := by decide +kernel
theorem dX4_copyTo_29 : decode cX4_copyTo 29 = .ok (.invokestatic 75, 3) := by decide +kernel
theorem dX4_copyTo_32 : decode cX4_copyTo 32 = .ok (.aload_n 0, 1) := by decide +kernel
theorem dX4_copyTo_33 : decode cX4_copyTo 33 = .ok (.getfield 30, 3) := by decide +kernel
theorem dX4_copyTo_36 : decode cX4_copyTo 36 = .ok (.iload_n 1, 1) := by decide +kernel
theorem dX4_copyTo_37 : decode cX4_copyTo 37 = .ok (.iconst 1, 1) := by decide +kernel
theorem dX4_copyTo_38 : decode cX4_copyTo 38 = .ok (.bastore, 1) := by decide +kernel
theorem dX4_copyTo_39 : decode cX4_copyTo 39 = .ok (.return_, 1) := by decide +kernel
theorem dX4_copyFrom_0 : decode cX4_copyFrom 0 = .ok (.aload_n 0, 1) := by decide +kernel
theorem dX4_copyFrom_1 : decode cX4_copyFrom 1 = .ok (.iload_n 1, 1) := by decide +kernel
theorem dX4_copyFrom_2 : decode cX4_copyFrom 2 = .ok (.invokevirtual 81, 3) := by decide +kernel
theorem dX4_copyFrom_5 : decode cX4_copyFrom 5 = .ok (.ifCond .eq 25, 3) := by decide +kernel
theorem dX4_copyFrom_8 : decode cX4_copyFrom 8 = .ok (.aload_n 0, 1) := by decide +kernel
theorem dX4_copyFrom_9 : decode cX4_copyFrom 9 = .ok (.getfield 27, 3) := by decide +kernel
theorem dX4_copyFrom_12 : decode cX4_copyFrom 12 = .ok (.iload_n 1, 1) := by decide +kernel
theorem dX4_copyFrom_13 : decode cX4_copyFrom 13 = .ok (.bipush 38, 2) := by decide +kernel
theorem dX4_copyFrom_15 : decode cX4_copyFrom 15 = .ok (.imul, 1) := by decide +kernel
theorem dX4_copyFrom_16 : decode cX4_copyFrom 16 = .ok (.aload_n 0, 1) := by decide +kernel
theorem dX4_copyFrom_17 : decode cX4_copyFrom 17 = .ok (.getfield 9, 3) := by decide +kernel
theorem dX4_copyFrom_20 : decode cX4_copyFrom 20 = .ok (.iconst 0, 1) := by decide +kernel
theorem dX4_copyFrom_21 : decode cX4_copyFrom 21 = .ok (.bipush 38, 2) := by decide +kernel
theorem dX4_copyFrom_23 : decode cX4_copyFrom 23 = .ok (.invokestatic 75, 3) := by decide +kernel
theorem dX4_copyFrom_26 : decode cX4_copyFrom 26 = .ok (.aload_n 0, 1) := by decide +kernel
theorem dX4_copyFrom_27 : decode cX4_copyFrom 27 = .ok (.invokevirtual 44, 3) := by decide +kernel
theorem dX4_copyFrom_30 : decode cX4_copyFrom 30 = .ok (.return_, 1) := by decide +kernel
theorem dX5_init_0 : decode cX5_init 0 = .ok (.aload_n 0, 1) := by decide +kernel
theorem dX5_init_1 : decode cX5_init 1 = .ok (.invokespecial 3, 3) := by decide +kernel
theorem dX5_init_4 : decode cX5_init 4 = .ok (.aload_n 0, 1) := by decide +kernel
theorem dX5_init_5 : decode cX5_init 5 = .ok (.new 9, 3) := by decide +kernel
theorem dX5_init_8 : decode cX5_init 8 = .ok (.dup, 1) := by decide +kernel
theorem dX5_init_9 : decode cX5_init 9 = .ok (.bipush 100, 2) := by decide +kernel
theorem dX5_init_11 : decode cX5_init 11 = .ok (.invokespecial 11, 3) := by decide +kernel
theorem dX5_init_14 : decode cX5_init 14 = .ok (.putfield 14, 3) := by decide +kernel
theorem dX5_init_17 : decode cX5_init 17 = .ok (.aload_n 0, 1) := by decide +kernel
theorem dX5_init_18 : decode cX5_init 18 = .ok (.new 9, 3) := by decide +kernel
theorem dX5_init_21 : decode cX5_init 21 = .ok (.dup, 1) := by decide +kernel
theorem dX5_init_22 : decode cX5_init 22 = .ok (.bipush 101, 2) := by decide +kernel
theorem dX5_init_24 : decode cX5_init 24 = .ok (.invokespecial 11, 3) := by decide +kernel
theorem dX5_init_27 : decode cX5_init 27 = .ok (.putfield 20, 3) := by decide +kernel
theorem dX5_init_30 : decode cX5_init 30 = .ok (.aload_n 0, 1) := by decide +kernel
theorem dX5_init_31 : decode cX5_init 31 = .ok (.new 9, 3) := by decide +kernel
theorem dX5_init_34 : decode cX5_init 34 = .ok (.dup, 1) := by decide +kernel
theorem dX5_init_35 : decode cX5_init 35 = .ok (.bipush 30, 2) := by decide +kernel
theorem dX5_init_37 : decode cX5_init 37 = .ok (.invokespecial 11, 3) := by decide +kernel
theorem dX5_init_40 : decode cX5_init 40 = .ok (.putfield 23, 3) := by decide +kernel
theorem dX5_init_43 : decode cX5_init 43 = .ok (.aload_n 0, 1) := by decide +kernel
theorem dX5_init_44 : decode cX5_init 44 = .ok (.new 9, 3) := by decide +kernel
theorem dX5_init_47 : decode cX5_init 47 = .ok (.dup, 1) := by decide +kernel
theorem dX5_init_48 : decode cX5_init 48 = .ok (.bipush 30, 2) := by decide +kernel
theorem dX5_init_50 : decode cX5_init 50 = .ok (.invokespecial 11, 3) := by decide +kernel
theorem dX5_init_53 : decode cX5_init 53 = .ok (.putfield 26, 3) := by decide +kernel
theorem dX5_init_56 : decode cX5_init 56 = .ok (.aload_n 0, 1) := by decide +kernel
theorem dX5_init_57 : decode cX5_init 57 = .ok (.new 9, 3) := by decide +kernel
theorem dX5_init_60 : decode cX5_init 60 = .ok (.dup, 1) := by decide +kernel
theorem dX5_init_61 : decode cX5_init 61 = .ok (.bipush 30, 2) := by decide +kernel
theorem dX5_init_63 : decode cX5_init 63 = .ok (.invokespecial 11, 3) := by decide +kernel
theorem dX5_init_66 : decode cX5_init 66 = .ok (.putfield 29, 3) := by decide +kernel
theorem dX5_init_69 : decode cX5_init 69 = .ok (.aload_n 0, 1) := by decide +kernel
theorem dX5_init_70 : decode cX5_init 70 = .ok (.new 9, 3) := by decide +kernel
theorem dX5_init_73 : decode cX5_init 73 = .ok (.dup, 1) := by decide +kernel
theorem dX5_init_74 : decode cX5_init 74 = .ok (.bipush 30, 2) := by decide +kernel
theorem dX5_init_76 : decode cX5_init 76 = .ok (.invokespecial 11, 3) := by decide +kernel
theorem dX5_init_79 : decode cX5_init 79 = .ok (.putfield 32, 3) := by decide +kernel
theorem dX5_init_82 : decode cX5_init 82 = .ok (.return_, 1) := by decide +kernel
theorem dX5_lay_0 : decode cX5_lay 0 = .ok (.aload_n 0, 1) := by decide +kernel
theorem dX5_lay_1 : decode cX5_lay 1 = .ok (.getfield 14, 3) := by decide +kernel
theorem dX5_lay_4 : decode cX5_lay 4 = .ok (.invokevirtual 35, 3) := by decide +kernel
theorem dX5_lay_7 : decode cX5_lay 7 = .ok (.aload_n 0, 1) := by decide +kernel
theorem dX5_lay_8 : decode cX5_lay 8 = .ok (.getfield 20, 3) := by decide +kernel
theorem dX5_lay_11 : decode cX5_lay 11 = .ok (.invokevirtual 35, 3) := by decide +kernel
theorem dX5_lay_14 : decode cX5_lay 14 = .ok (.aload_n 0, 1) := by decide +kernel
theorem dX5_lay_15 : decode cX5_lay 15 = .ok (.getfield 23, 3) := by decide +kernel
theorem dX5_lay_18 : decode cX5_lay 18 = .ok (.invokevirtual 35, 3) := by decide +kernel
theorem dX5_lay_21 : decode cX5_lay 21 = .ok (.aload_n 0, 1) := by decide +kernel
theorem dX5_lay_22 : decode cX5_lay 22 = .ok (.getfield 26, 3) := by decide +kernel
theorem dX5_lay_25 : decode cX5_lay 25 = .ok (.invokevirtual 35, 3) := by decide +kernel
theorem dX5_lay_28 : decode cX5_lay 28 = .ok (.aload_n 0, 1) := by decide +kernel
theorem dX5_lay_29 : decode cX5_lay 29 = .ok (.getfield 29, 3) := by decide +kernel
theorem dX5_lay_32 : decode cX5_lay 32 = .ok (.invokevirtual 35, 3) := by decide +kernel
theorem dX5_lay_35 : decode cX5_lay 35 = .ok (.aload_n 0, 1) := by decide +kernel
theorem dX5_lay_36 : decode cX5_lay 36 = .ok (.getfield 32, 3) := by decide +kernel
theorem dX5_lay_39 : decode cX5_lay 39 = .ok (.invokevirtual 35, 3) := by decide +kernel
theorem dX5_lay_42 : decode cX5_lay 42 = .ok (.aload_n 0, 1) := by decide +kernel
theorem dX5_lay_43 : decode cX5_lay 43 = .ok (.aload_n 2, 1) := by decide +kernel
theorem dX5_lay_44 : decode cX5_lay 44 = .ok (.invokevirtual 38, 3) := by decide +kernel
theorem dX5_lay_47 : decode cX5_lay 47 = .ok (.putfield 44, 3) := by decide +kernel
theorem dX5_lay_50 : decode cX5_lay 50 = .ok (.aload_n 0, 1) := by decide +kernel
theorem dX5_lay_51 : decode cX5_lay 51 = .ok (.aload_n 2, 1) := by decide +kernel
theorem dX5_lay_52 : decode cX5_lay 52 = .ok (.invokevirtual 48, 3) := by decide +kernel
theorem dX5_lay_55 : decode cX5_lay 55 = .ok (.putfield 52, 3) := by decide +kernel
theorem dX5_lay_58 : decode cX5_lay 58 = .ok (.aload_n 0, 1) := by decide +kernel
theorem dX5_lay_59 : decode cX5_lay 59 = .ok (.getfield 44, 3) := by decide +kernel
theorem dX5_lay_62 : decode cX5_lay 62 = .ok (.ifCond .ne 4, 3) := by decide +kernel
theorem dX5_lay_65 : decode cX5_lay 65 = .ok (.return_, 1) := by decide +kernel
theorem dX5_lay_66 : decode cX5_lay 66 = .ok (.aload_n 0, 1) := by decide +kernel
theorem dX5_lay_67 : decode cX5_lay 67 = .ok (.getfield 20, 3) := by decide +kernel
theorem dX5_lay_70 : decode cX5_lay 70 = .ok (.iconst 0, 1) := by decide +kernel
theorem dX5_lay_71 : decode cX5_lay 71 = .ok (.invokevirtual 55, 3) := by decide +kernel
theorem dX5_lay_74 : decode cX5_lay 74 = .ok (.pop, 1) := by decide +kernel
theorem dX5_lay_75 : decode cX5_lay 75 = .ok (.iconst (-1), 1) := by decide +kernel
theorem dX5_lay_76 : decode cX5_lay 76 = .ok (.istore_n 3, 1) := by decide +kernel
theorem dX5_lay_77 : decode cX5_lay 77 = .ok (.iconst 0, 1) := by decide +kernel
theorem dX5_lay_78 : decode cX5_lay 78 = .ok (.istore 4, 2) := by decide +kernel
theorem dX5_lay_80 : decode cX5_lay 80 = .ok (.iload 4, 2) := by decide +kernel
theorem dX5_lay_82 : decode cX5_lay 82 = .ok (.aload_n 2, 1) := by decide +kernel
theorem dX5_lay_83 : decode cX5_lay 83 = .ok (.invokevirtual 59, 3) := by decide +kernel
theorem dX5_lay_86 : decode cX5_lay 86 = .ok (.if_icmp .ge 52, 3) := by decide +kernel
theorem dX5_lay_89 : decode cX5_lay 89 = .ok (.aload_n 2, 1) := by decide +kernel
theorem dX5_lay_90 : decode cX5_lay 90 = .ok (.iload_n 3, 1) := by decide +kernel
theorem dX5_lay_91 : decode cX5_lay 91 = .ok (.invokevirtual 62, 3) := by decide +kernel
theorem dX5_lay_94 : decode cX5_lay 94 = .ok (.istore 5, 2) := by decide +kernel
theorem dX5_lay_96 : decode cX5_lay 96 = .ok (.aload_n 0, 1) := by decide +kernel
theorem dX5_lay_97 : decode cX5_lay 97 = .ok (.getfield 14, 3) := by decide +kernel
theorem dX5_lay_100 : decode cX5_lay 100 = .ok (.iload 5, 2) := by decide +kernel
theorem dX5_lay_102 : decode cX5_lay 102 = .ok (.invokevirtual 55, 3) := by decide +kernel
theorem dX5_lay_105 : decode cX5_lay 105 = .ok (.pop, 1) := by decide +kernel
theorem dX5_lay_106 : decode cX5_lay 106 = .ok (.aload_n 0, 1) := by decide +kernel
theorem dX5_lay_107 : decode cX5_lay 107 = .ok (.aload_n 1, 1) := by decide +kernel
theorem dX5_lay_108 : decode cX5_lay 108 = .ok (.iload_n 3, 1) := by decide +kernel
theorem dX5_lay_109 : decode cX5_lay 109 = .ok (.iload 5, 2) := by decide +kernel
theorem dX5_lay_111 : decode cX5_lay 111 = .ok (.invokevirtual 66, 3) := by decide +kernel
theorem dX5_lay_114 : decode cX5_lay 114 = .ok (.aload_n 0, 1) := by decide +kernel
theorem dX5_lay_115 : decode cX5_lay 115 = .ok (.getfield 20, 3) := by decide +kernel
theorem dX5_lay_118 : decode cX5_lay 118 = .ok (.aload_n 0, 1) := by decide +kernel
theorem dX5_lay_119 : decode cX5_lay 119 = .ok (.getfield 23, 3) := by decide +kernel
theorem dX5_lay_122 : decode cX5_lay 122 = .ok (.invokevirtual 70, 3) := by decide +kernel
theorem dX5_lay_125 : decode cX5_lay 125 = .ok (.invokevirtual 55, 3) := by decide +kernel
theorem dX5_lay_128 : decode cX5_lay 128 = .ok (.pop, 1) := by decide +kernel
theorem dX5_lay_129 : decode cX5_lay 129 = .ok (.iload 5, 2) := by decide +kernel
theorem dX5_lay_131 : decode cX5_lay 131 = .ok (.istore_n 3, 1) := by decide +kernel
theorem dX5_lay_132 : decode cX5_lay 132 = .ok (.iinc 4 1, 3) := by decide +kernel
theorem dX5_lay_135 : decode cX5_lay 135 = .ok (.goto (-55), 3) := by decide +kernel
theorem dX5_lay_138 : decode cX5_lay 138 = .ok (.aload_n 0, 1) := by decide +kernel
theorem dX5_lay_139 : decode cX5_lay 139 = .ok (.invokevirtual 73, 3) := by decide +kernel
theorem dX5_lay_142 : decode cX5_lay 142 = .ok (.return_, 1) := by decide +kernel
theorem dX5_setLine_0 : decode cX5_setLine 0 = .ok (.aload_n 1, 1) := by decide +kernel
theorem dX5_setLine_1 : decode cX5_setLine 1 = .ok (.iload_n 2, 1) := by decide +kernel
theorem dX5_setLine_2 : decode cX5_setLine 2 = .ok (.iload_n 3, 1) := by decide +kernel
theorem dX5_setLine_3 : decode cX5_setLine 3 = .ok (.invokevirtual 76, 3) := by decide +kernel
theorem dX5_setLine_6 : decode cX5_setLine 6 = .ok (.istore 4, 2) := by decide +kernel
theorem dX5_setLine_8 : decode cX5_setLine 8 = .ok (.iload 4, 2) := by decide +kernel
theorem dX5_setLine_10 : decode cX5_setLine 10 = .ok (.ifCond .le 15, 3) := by decide +kernel
theorem dX5_setLine_13 : decode cX5_setLine 13 = .ok (.aload_n 1, 1) := by decide +kernel
theorem dX5_setLine_14 : decode cX5_setLine 14 = .ok (.iload_n 2, 1) := by decide +kernel
theorem dX5_setLine_15 : decode cX5_setLine 15 = .ok (.iload_n 3, 1) := by decide +kernel
theorem dX5_setLine_16 : decode cX5_setLine 16 = .ok (.invokevirtual 82, 3) := by decide +kernel
theorem dX5_setLine_19 : decode cX5_setLine 19 = .ok (.iload 4, 2) := by decide +kernel
theorem dX5_setLine_21 : decode cX5_setLine 21 = .ok (.idiv, 1) := by decide +kernel
theorem dX5_setLine_22 : decode cX5_setLine 22 = .ok (.goto 4, 3) := by decide +kernel
theorem dX5_setLine_25 : decode cX5_setLine 25 = .ok (.iconst 0, 1) := by decide +kernel
theorem dX5_setLine_26 : decode cX5_setLine 26 = .ok (.istore 5, 2) := by decide +kernel
theorem dX5_setLine_28 : decode cX5_setLine 28 = .ok (.iload 4, 2) := by decide +kernel
theorem dX5_setLine_30 : decode cX5_setLine 30 = .ok (.ifCond .le 15, 3) := by decide +kernel
theorem dX5_setLine_33 : decode cX5_setLine 33 = .ok (.aload_n 1, 1) := by decide +kernel
theorem dX5_setLine_34 : decode cX5_setLine 34 = .ok (.iload_n 2, 1) := by decide +kernel
theorem dX5_setLine_35 : decode cX5_setLine 35 = .ok (.iload_n 3, 1) := by decide +kernel
theorem dX5_setLine_36 : decode cX5_setLine 36 = .ok (.invokevirtual 82, 3) := by decide +kernel
theorem dX5_setLine_39 : decode cX5_setLine 39 = .ok (.iload 4, 2) := by decide +kernel
theorem dX5_setLine_41 : decode cX5_setLine 41 = .ok (.irem, 1) := by decide +kernel
theorem dX5_setLine_42 : decode cX5_setLine 42 = .ok (.goto 4, 3) := by decide +kernel
theorem dX5_setLine_45 : decode cX5_setLine 45 = .ok (.iconst 0, 1) := by decide +kernel
theorem dX5_setLine_46 : decode cX5_setLine 46 = .ok (.istore 6, 2) := by decide +kernel
theorem dX5_setLine_48 : decode cX5_setLine 48 = .ok (.iconst 0, 1) := by decide +kernel
theorem dX5_setLine_49 : decode cX5_setLine 49 = .ok (.istore 7, 2) := by decide +kernel
theorem dX5_setLine_51 : decode cX5_setLine 51 = .ok (.iload_n 2, 1) := by decide +kernel
theorem dX5_setLine_52 : decode cX5_setLine 52 = .ok (.iconst 1, 1) := by decide +kernel
theorem dX5_setLine_53 : decode cX5_setLine 53 = .ok (.iadd, 1) := by decide +kernel
theorem dX5_setLine_54 : decode cX5_setLine 54 = .ok (.istore 8, 2) := by decide +kernel
theorem dX5_setLine_56 : decode cX5_setLine 56 = .ok (.iload 8, 2) := by decide +kernel
theorem dX5_setLine_58 : decode cX5_setLine 58 = .ok (.iload_n 3, 1) := by decide +kernel
theorem dX5_setLine_59 : decode cX5_setLine 59 = .ok (.if_icmp .ge 76, 3) := by decide +kernel
theorem dX5_setLine_62 : decode cX5_setLine 62 = .ok (.aload_n 1, 1) := by decide +kernel
theorem dX5_setLine_63 : decode cX5_setLine 63 = .ok (.iload 8, 2) := by decide +kernel
theorem dX5_setLine_65 : decode cX5_setLine 65 = .ok (.invokevirtual 85, 3) := by decide +kernel
theorem dX5_setLine_68 : decode cX5_setLine 68 = .ok (.ifCond .eq 6, 3) := by decide +kernel
theorem dX5_setLine_71 : decode cX5_setLine 71 = .ok (.goto 58, 3) := by decide +kernel
theorem dX5_setLine_74 : decode cX5_setLine 74 = .ok (.aload_n 1, 1) := by decide +kernel
theorem dX5_setLine_75 : decode cX5_setLine 75 = .ok (.iload_n 2, 1) := by decide +kernel
theorem dX5_setLine_76 : decode cX5_setLine 76 = .ok (.iload 8, 2) := by decide +kernel
theorem dX5_setLine_78 : decode cX5_setLine 78 = .ok (.invokevirtual 88, 3) := by decide +kernel
theorem dX5_setLine_81 : decode cX5_setLine 81 = .ok (.iload 7, 2) := by decide +kernel
theorem dX5_setLine_83 : decode cX5_setLine 83 = .ok (.iload 5, 2) := by decide +kernel
theorem dX5_setLine_85 : decode cX5_setLine 85 = .ok (.imul, 1) := by decide +kernel
theorem dX5_setLine_86 : decode cX5_setLine 86 = .ok (.iadd, 1) := by decide +kernel
theorem dX5_setLine_87 : decode cX5_setLine 87 = .ok (.iload 7, 2) := by decide +kernel
theorem dX5_setLine_89 : decode cX5_setLine 89 = .ok (.iload 6, 2) := by decide +kernel
theorem dX5_setLine_91 : decode cX5_setLine 91 = .ok (.invokestatic 91, 3) := by decide +kernel
theorem dX5_setLine_94 : decode cX5_setLine 94 = .ok (.iadd, 1) := by decide +kernel
theorem dX5_setLine_95 : decode cX5_setLine 95 = .ok (.istore 9, 2) := by decide +kernel
theorem dX5_setLine_97 : decode cX5_setLine 97 = .ok (.aload_n 0, 1) := by decide +kernel
theorem dX5_setLine_98 : decode cX5_setLine 98 = .ok (.iload 9, 2) := by decide +kernel
theorem dX5_setLine_100 : decode cX5_setLine 100 = .ok (.iload 9, 2) := by decide +kernel
theorem dX5_setLine_102 : decode cX5_setLine 102 = .ok (.aload_n 1, 1) := by decide +kernel
theorem dX5_setLine_103 : decode cX5_setLine 103 = .ok (.invokevirtual 96, 3) := by decide +kernel
theorem dX5_setLine_106 : decode cX5_setLine 106 = .ok (.iadd, 1) := by decide +kernel
theorem dX5_setLine_107 : decode cX5_setLine 107 = .ok (.iload 5, 2) := by decide +kernel
theorem dX5_setLine_109 : decode cX5_setLine 109 = .ok (.iadd, 1) := by decide +kernel
theorem dX5_setLine_110 : decode cX5_setLine 110 = .ok (.iload 7, 2) := by decide +kernel
theorem dX5_setLine_112 : decode cX5_setLine 112 = .ok (.iload 6, 2) := by decide +kernel
theorem dX5_setLine_114 : decode cX5_setLine 114 = .ok (.if_icmp .ge 7, 3) := by decide +kernel
theorem dX5_setLine_117 : decode cX5_setLine 117 = .ok (.iconst 1, 1) := by decide +kernel
theorem dX5_setLine_118 : decode cX5_setLine 118 = .ok (.goto 4, 3) := by decide +kernel
theorem dX5_setLine_121 : decode cX5_setLine 121 = .ok (.iconst 0, 1) := by decide +kernel
theorem dX5_setLine_122 : decode cX5_setLine 122 = .ok (.iadd, 1) := by decide +kernel
theorem dX5_setLine_123 : decode cX5_setLine 123 = .ok (.invokevirtual 99, 3) := by decide +kernel
theorem dX5_setLine_126 : decode cX5_setLine 126 = .ok (.iinc 7 1, 3) := by decide +kernel
theorem dX5_setLine_129 : decode cX5_setLine 129 = .ok (.iinc 8 1, 3) := by decide +kernel
theorem dX5_setLine_132 : decode cX5_setLine 132 = .ok (.goto (-76), 3) := by decide +kernel
theorem dX5_setLine_135 : decode cX5_setLine 135 = .ok (.return_, 1) := by decide +kernel
theorem dX5_addBlank_0 : decode cX5_addBlank 0 = .ok (.aload_n 0, 1) := by decide +kernel
theorem dX5_addBlank_1 : decode cX5_addBlank 1 = .ok (.getfield 23, 3) := by decide +kernel
theorem dX5_addBlank_4 : decode cX5_addBlank 4 = .ok (.iload_n 1, 1) := by decide +kernel
theorem dX5_addBlank_5 : decode cX5_addBlank 5 = .ok (.invokevirtual 55, 3) := by decide +kernel
theorem dX5_addBlank_8 : decode cX5_addBlank 8 = .ok (.pop, 1) := by decide +kernel
theorem dX5_addBlank_9 : decode cX5_addBlank 9 = .ok (.aload_n 0, 1) := by decide +kernel
theorem dX5_addBlank_10 : decode cX5_addBlank 10 = .ok (.getfield 26, 3) := by decide +kernel
theorem dX5_addBlank_13 : decode cX5_addBlank 13 = .ok (.iload_n 2, 1) := by decide +kernel
theorem dX5_addBlank_14 : decode cX5_addBlank 14 = .ok (.invokevirtual 55, 3) := by decide +kernel
theorem dX5_addBlank_17 : decode cX5_addBlank 17 = .ok (.pop, 1) := by decide +kernel
theorem dX5_addBlank_18 : decode cX5_addBlank 18 = .ok (.aload_n 0, 1) := by decide +kernel
theorem dX5_addBlank_19 : decode cX5_addBlank 19 = .ok (.getfield 29, 3) := by decide +kernel
theorem dX5_addBlank_22 : decode cX5_addBlank 22 = .ok (.iconst 0, 1) := by decide +kernel
theorem dX5_addBlank_23 : decode cX5_addBlank 23 = .ok (.invokevirtual 55, 3) := by decide +kernel
theorem dX5_addBlank_26 : decode cX5_addBlank 26 = .ok (.pop, 1) := by decide +kernel
theorem dX5_addBlank_27 : decode cX5_addBlank 27 = .ok (.aload_n 0, 1) := by decide +kernel
theorem dX5_addBlank_28 : decode cX5_addBlank 28 = .ok (.getfield 32, 3) := by decide +kernel
theorem dX5_addBlank_31 : decode cX5_addBlank 31 = .ok (.iconst 0, 1) := by decide +kernel
theorem dX5_addBlank_32 : decode cX5_addBlank 32 = .ok (.invokevirtual 55, 3) := by decide +kernel
theorem dX5_addBlank_35 : decode cX5_addBlank 35 = .ok (.pop, 1) := by decide +kernel
theorem dX5_addBlank_36 : decode cX5_addBlank 36 = .ok (.return_, 1) := by decide +kernel
theorem dX5_measureRivers_0 : decode cX5_measureRivers 0 = .ok (.aload_n 0, 1) := by decide +kernel
theorem dX5_measureRivers_1 : decode cX5_measureRivers 1 = .ok (.invokevirtual 103, 3) := by decide +kernel
theorem dX5_measureRivers_4 : decode cX5_measureRivers 4 = .ok (.iconst 1, 1) := by decide +kernel
theorem dX5_measureRivers_5 : decode cX5_measureRivers 5 = .ok (.isub, 1) := by decide +kernel
theorem dX5_measureRivers_6 : decode cX5_measureRivers 6 = .ok (.istore_n 1, 1) := by decide +kernel
theorem dX5_measureRivers_7 : decode cX5_measureRivers 7 = .ok (.iload_n 1, 1) := by decide +kernel
theorem dX5_measureRivers_8 : decode cX5_measureRivers 8 = .ok (.ifCond .lt 102, 3) := by decide +kernel
theorem dX5_measureRivers_11 : decode cX5_measureRivers 11 = .ok (.aload_n 0, 1) := by decide +kernel
theorem dX5_measureRivers_12 : decode cX5_measureRivers 12 = .ok (.getfield 20, 3) := by decide +kernel
theorem dX5_measureRivers_15 : decode cX5_measureRivers 15 = .ok (.iload_n 1, 1) := by decide +kernel
theorem dX5_measureRivers_16 : decode cX5_measureRivers 16 = .ok (.invokevirtual 104, 3) := by decide +kernel
theorem dX5_measureRivers_19 : decode cX5_measureRivers 19 = .ok (.istore_n 2, 1) := by decide +kernel
theorem dX5_measureRivers_20 : decode cX5_measureRivers 20 = .ok (.iload_n 2, 1) := by decide +kernel
theorem dX5_measureRivers_21 : decode cX5_measureRivers 21 = .ok (.aload_n 0, 1) := by decide +kernel
theorem dX5_measureRivers_22 : decode cX5_measureRivers 22 = .ok (.getfield 20, 3) := by decide +kernel
theorem dX5_measureRivers_25 : decode cX5_measureRivers 25 = .ok (.iload_n 1, 1) := by decide +kernel
theorem dX5_measureRivers_26 : decode cX5_measureRivers 26 = .ok (.iconst 1, 1) := by decide +kernel
theorem dX5_measureRivers_27 : decode cX5_measureRivers 27 = .ok (.iadd, 1) := by decide +kernel
theorem dX5_measureRivers_28 : decode cX5_measureRivers 28 = .ok (.invokevirtual 104, 3) := by decide +kernel
theorem dX5_measureRivers_31 : decode cX5_measureRivers 31 = .ok (.if_icmp .ge 73, 3) := by decide +kernel
theorem dX5_measureRivers_34 : decode cX5_measureRivers 34 = .ok (.aload_n 0, 1) := by decide +kernel
theorem dX5_measureRivers_35 : decode cX5_measureRivers 35 = .ok (.getfield 29, 3) := by decide +kernel
theorem dX5_measureRivers_38 : decode cX5_measureRivers 38 = .ok (.iload_n 2, 1) := by decide +kernel
theorem dX5_measureRivers_39 : decode cX5_measureRivers 39 = .ok (.iconst 1, 1) := by decide +kernel
theorem dX5_measureRivers_40 : decode cX5_measureRivers 40 = .ok (.aload_n 0, 1) := by decide +kernel
theorem dX5_measureRivers_41 : decode cX5_measureRivers 41 = .ok (.iload_n 2, 1) := by decide +kernel
theorem dX5_measureRivers_42 : decode cX5_measureRivers 42 = .ok (.iload_n 1, 1) := by decide +kernel
theorem dX5_measureRivers_43 : decode cX5_measureRivers 43 = .ok (.iconst 1, 1) := by decide +kernel
theorem dX5_measureRivers_44 : decode cX5_measureRivers 44 = .ok (.iadd, 1) := by decide +kernel
theorem dX5_measureRivers_45 : decode cX5_measureRivers 45 = .ok (.invokevirtual 107, 3) := by decide +kernel
theorem dX5_measureRivers_48 : decode cX5_measureRivers 48 = .ok (.iadd, 1) := by decide +kernel
theorem dX5_measureRivers_49 : decode cX5_measureRivers 49 = .ok (.invokevirtual 110, 3) := by decide +kernel
theorem dX5_measureRivers_52 : decode cX5_measureRivers 52 = .ok (.aload_n 0, 1) := by decide +kernel
theorem dX5_measureRivers_53 : decode cX5_measureRivers 53 = .ok (.getfield 29, 3) := by decide +kernel
theorem dX5_measureRivers_56 : decode cX5_measureRivers 56 = .ok (.iload_n 2, 1) := by decide +kernel
theorem dX5_measureRivers_57 : decode cX5_measureRivers 57 = .ok (.invokevirtual 104, 3) := by decide +kernel
theorem dX5_measureRivers_60 : decode cX5_measureRivers 60 = .ok (.iconst 3, 1) := by decide +kernel
theorem dX5_measureRivers_61 : decode cX5_measureRivers 61 = .ok (.if_icmp .lt 18, 3) := by decide +kernel
theorem dX5_measureRivers_64 : decode cX5_measureRivers 64 = .ok (.aload_n 0, 1) := by decide +kernel
theorem dX5_measureRivers_65 : decode cX5_measureRivers 65 = .ok (.iload_n 2, 1) := by decide +kernel
theorem dX5_measureRivers_66 : decode cX5_measureRivers 66 = .ok (.iload_n 1, 1) := by decide +kernel
theorem dX5_measureRivers_67 : decode cX5_measureRivers 67 = .ok (.iconst 1, 1) := by decide +kernel
theorem dX5_measureRivers_68 : decode cX5_measureRivers 68 = .ok (.isub, 1) := by decide +kernel
theorem dX5_measureRivers_69 : decode cX5_measureRivers 69 = .ok (.invokevirtual 113, 3) := by decide +kernel
theorem dX5_measureRivers_72 : decode cX5_measureRivers 72 = .ok (.ifCond .ne 7, 3) := by decide +kernel
theorem dX5_measureRivers_75 : decode cX5_measureRivers 75 = .ok (.iconst 1, 1) := by decide +kernel
theorem dX5_measureRivers_76 : decode cX5_measureRivers 76 = .ok (.goto 4, 3) := by decide +kernel
theorem dX5_measureRivers_79 : decode cX5_measureRivers 79 = .ok (.iconst 0, 1) := by decide +kernel
theorem dX5_measureRivers_80 : decode cX5_measureRivers 80 = .ok (.istore_n 3, 1) := by decide +kernel
theorem dX5_measureRivers_81 : decode cX5_measureRivers 81 = .ok (.aload_n 0, 1) := by decide +kernel
theorem dX5_measureRivers_82 : decode cX5_measureRivers 82 = .ok (.getfield 32, 3) := by decide +kernel
theorem dX5_measureRivers_85 : decode cX5_measureRivers 85 = .ok (.iload_n 2, 1) := by decide +kernel
theorem dX5_measureRivers_86 : decode cX5_measureRivers 86 = .ok (.iload_n 3, 1) := by decide +kernel
theorem dX5_measureRivers_87 : decode cX5_measureRivers 87 = .ok (.ifCond .eq 7, 3) := by decide +kernel
theorem dX5_measureRivers_90 : decode cX5_measureRivers 90 = .ok (.iconst 1, 1) := by decide +kernel
theorem dX5_measureRivers_91 : decode cX5_measureRivers 91 = .ok (.goto 4, 3) := by decide +kernel
theorem dX5_measureRivers_94 : decode cX5_measureRivers 94 = .ok (.iconst 0, 1) := by decide +kernel
theorem dX5_measureRivers_95 : decode cX5_measureRivers 95 = .ok (.invokevirtual 110, 3) := by decide +kernel
theorem dX5_measureRivers_98 : decode cX5_measureRivers 98 = .ok (.iinc 2 1, 3) := by decide +kernel
theorem dX5_measureRivers_101 : decode cX5_measureRivers 101 = .ok (.goto (-81), 3) := by decide +kernel
theorem dX5_measureRivers_104 : decode cX5_measureRivers 104 = .ok (.iinc 1 (-1), 3) := by decide +kernel
theorem dX5_measureRivers_107 : decode cX5_measureRivers 107 = .ok (.goto (-100), 3) := by decide +kernel
theorem dX5_measureRivers_110 : decode cX5_measureRivers 110 = .ok (.return_, 1) := by decide +kernel
theorem dX5_longestMet_0 : decode cX5_longestMet 0 = .ok (.iconst 0, 1) := by decide +kernel
theorem dX5_longestMet_1 : decode cX5_longestMet 1 = .ok (.istore_n 3, 1) := by decide +kernel
theorem dX5_longestMet_2 : decode cX5_longestMet 2 = .ok (.aload_n 0, 1) := by decide +kernel
theorem dX5_longestMet_3 : decode cX5_longestMet 3 = .ok (.getfield 20, 3) := by decide +kernel
theorem dX5_longestMet_6 : decode cX5_longestMet 6 = .ok (.iload_n 2, 1) := by decide +kernel
theorem dX5_longestMet_7 : decode cX5_longestMet 7 = .ok (.invokevirtual 104, 3) := by decide +kernel
theorem dX5_longestMet_10 : decode cX5_longestMet 10 = .ok (.istore 4, 2) := by decide +kernel
theorem dX5_longestMet_12 : decode cX5_longestMet 12 = .ok (.iload 4, 2) := by decide +kernel
theorem dX5_longestMet_14 : decode cX5_longestMet 14 = .ok (.aload_n 0, 1) := by decide +kernel
theorem dX5_longestMet_15 : decode cX5_longestMet 15 = .ok (.getfield 20, 3) := by decide +kernel
theorem dX5_longestMet_18 : decode cX5_longestMet 18 = .ok (.iload_n 2, 1) := by decide +kernel
theorem dX5_longestMet_19 : decode cX5_longestMet 19 = .ok (.iconst 1, 1) := by decide +kernel
theorem dX5_longestMet_20 : decode cX5_longestMet 20 = .ok (.iadd, 1) := by decide +kernel
theorem dX5_longestMet_21 : decode cX5_longestMet 21 = .ok (.invokevirtual 104, 3) := by decide +kernel
theorem dX5_longestMet_24 : decode cX5_longestMet 24 = .ok (.if_icmp .ge 33, 3) := by decide +kernel
theorem dX5_longestMet_27 : decode cX5_longestMet 27 = .ok (.aload_n 0, 1) := by decide +kernel
theorem dX5_longestMet_28 : decode cX5_longestMet 28 = .ok (.iload_n 1, 1) := by decide +kernel
theorem dX5_longestMet_29 : decode cX5_longestMet 29 = .ok (.iload 4, 2) := by decide +kernel
theorem dX5_longestMet_31 : decode cX5_longestMet 31 = .ok (.invokevirtual 117, 3) := by decide +kernel
theorem dX5_longestMet_34 : decode cX5_longestMet 34 = .ok (.ifCond .eq 17, 3) := by decide +kernel
theorem dX5_longestMet_37 : decode cX5_longestMet 37 = .ok (.iload_n 3, 1) := by decide +kernel
theorem dX5_longestMet_38 : decode cX5_longestMet 38 = .ok (.aload_n 0, 1) := by decide +kernel
theorem dX5_longestMet_39 : decode cX5_longestMet 39 = .ok (.getfield 29, 3) := by decide +kernel
theorem dX5_longestMet_42 : decode cX5_longestMet 42 = .ok (.iload 4, 2) := by decide +kernel
theorem dX5_longestMet_44 : decode cX5_longestMet 44 = .ok (.invokevirtual 104, 3) := by decide +kernel
theorem dX5_longestMet_47 : decode cX5_longestMet 47 = .ok (.invokestatic 120, 3) := by decide +kernel
theorem dX5_longestMet_50 : decode cX5_longestMet 50 = .ok (.istore_n 3, 1) := by decide +kernel
theorem dX5_longestMet_51 : decode cX5_longestMet 51 = .ok (.iinc 4 1, 3) := by decide +kernel
theorem dX5_longestMet_54 : decode cX5_longestMet 54 = .ok (.goto (-42), 3) := by decide +kernel
theorem dX5_longestMet_57 : decode cX5_longestMet 57 = .ok (.iload_n 3, 1) := by decide +kernel
theorem dX5_longestMet_58 : decode cX5_longestMet 58 = .ok (.ireturn, 1) := by decide +kernel
theorem dX5_meetsAny_0 : decode cX5_meetsAny 0 = .ok (.iload_n 2, 1) := by decide +kernel
theorem dX5_meetsAny_1 : decode cX5_meetsAny 1 = .ok (.ifCond .ge 5, 3) := by decide +kernel
theorem dX5_meetsAny_4 : decode cX5_meetsAny 4 = .ok (.iconst 0, 1) := by decide +kernel
theorem dX5_meetsAny_5 : decode cX5_meetsAny 5 = .ok (.ireturn, 1) := by decide +kernel
theorem dX5_meetsAny_6 : decode cX5_meetsAny 6 = .ok (.aload_n 0, 1) := by decide +kernel
theorem dX5_meetsAny_7 : decode cX5_meetsAny 7 = .ok (.getfield 20, 3) := by decide +kernel
theorem dX5_meetsAny_10 : decode cX5_meetsAny 10 = .ok (.iload_n 2, 1) := by decide +kernel
theorem dX5_meetsAny_11 : decode cX5_meetsAny 11 = .ok (.invokevirtual 104, 3) := by decide +kernel
theorem dX5_meetsAny_14 : decode cX5_meetsAny 14 = .ok (.istore_n 3, 1) := by decide +kernel
theorem dX5_meetsAny_15 : decode cX5_meetsAny 15 = .ok (.iload_n 3, 1) := by decide +kernel
theorem dX5_meetsAny_16 : decode cX5_meetsAny 16 = .ok (.aload_n 0, 1) := by decide +kernel
theorem dX5_meetsAny_17 : decode cX5_meetsAny 17 = .ok (.getfield 20, 3) := by decide +kernel
theorem dX5_meetsAny_20 : decode cX5_meetsAny 20 = .ok (.iload_n 2, 1) := by decide +kernel
theorem dX5_meetsAny_21 : decode cX5_meetsAny 21 = .ok (.iconst 1, 1) := by decide +kernel
theorem dX5_meetsAny_22 : decode cX5_meetsAny 22 = .ok (.iadd, 1) := by decide +kernel
theorem dX5_meetsAny_23 : decode cX5_meetsAny 23 = .ok (.invokevirtual 104, 3) := by decide +kernel
theorem dX5_meetsAny_26 : decode cX5_meetsAny 26 = .ok (.if_icmp .ge 20, 3) := by decide +kernel
theorem dX5_meetsAny_29 : decode cX5_meetsAny 29 = .ok (.aload_n 0, 1) := by decide +kernel
theorem dX5_meetsAny_30 : decode cX5_meetsAny 30 = .ok (.iload_n 1, 1) := by decide +kernel
theorem dX5_meetsAny_31 : decode cX5_meetsAny 31 = .ok (.iload_n 3, 1) := by decide +kernel
theorem dX5_meetsAny_32 : decode cX5_meetsAny 32 = .ok (.invokevirtual 117, 3) := by decide +kernel
theorem dX5_meetsAny_35 : decode cX5_meetsAny 35 = .ok (.ifCond .eq 5, 3) := by decide +kernel
theorem dX5_meetsAny_38 : decode cX5_meetsAny 38 = .ok (.iconst 1, 1) := by decide +kernel
theorem dX5_meetsAny_39 : decode cX5_meetsAny 39 = .ok (.ireturn, 1) := by decide +kernel
theorem dX5_meetsAny_40 : decode cX5_meetsAny 40 = .ok (.iinc 3 1, 3) := by decide +kernel
theorem dX5_meetsAny_43 : decode cX5_meetsAny 43 = .ok (.goto (-28), 3) := by decide +kernel
theorem dX5_meetsAny_46 : decode cX5_meetsAny 46 = .ok (.iconst 0, 1) := by decide +kernel
theorem dX5_meetsAny_47 : decode cX5_meetsAny 47 = .ok (.ireturn, 1) := by decide +kernel
theorem dX5_meet_0 : decode cX5_meet 0 = .ok (.aload_n 0, 1) := by decide +kernel
theorem dX5_meet_1 : decode cX5_meet 1 = .ok (.getfield 23, 3) := by decide +kernel
theorem dX5_meet_4 : decode cX5_meet 4 = .ok (.iload_n 1, 1) := by decide +kernel
theorem dX5_meet_5 : decode cX5_meet 5 = .ok (.invokevirtual 104, 3) := by decide +kernel
theorem dX5_meet_8 : decode cX5_meet 8 = .ok (.aload_n 0, 1) := by decide +kernel
theorem dX5_meet_9 : decode cX5_meet 9 = .ok (.getfield 26, 3) := by decide +kernel
theorem dX5_meet_12 : decode cX5_meet 12 = .ok (.iload_n 2, 1) := by decide +kernel
theorem dX5_meet_13 : decode cX5_meet 13 = .ok (.invokevirtual 104, 3) := by decide +kernel
theorem dX5_meet_16 : decode cX5_meet 16 = .ok (.if_icmp .ge 26, 3) := by decide +kernel
theorem dX5_meet_19 : decode cX5_meet 19 = .ok (.aload_n 0, 1) := by decide +kernel
theorem dX5_meet_20 : decode cX5_meet 20 = .ok (.getfield 23, 3) := by decide +kernel
theorem dX5_meet_23 : decode cX5_meet 23 = .ok (.iload_n 2, 1) := by decide +kernel
theorem dX5_meet_24 : decode cX5_meet 24 = .ok (.invokevirtual 104, 3) := by decide +kernel
theorem dX5_meet_27 : decode cX5_meet 27 = .ok (.aload_n 0, 1) := by decide +kernel
theorem dX5_meet_28 : decode cX5_meet 28 = .ok (.getfield 26, 3) := by decide +kernel
theorem dX5_meet_31 : decode cX5_meet 31 = .ok (.iload_n 1, 1) := by decide +kernel
theorem dX5_meet_32 : decode cX5_meet 32 = .ok (.invokevirtual 104, 3) := by decide +kernel
end
section
theorem dX5_meet_35 : decode cX5_meet 35 = .ok (.if_icmp .ge 7, 3) := by decide +kernel
theorem dX5_meet_38 : decode cX5_meet 38 = .ok (.iconst 1, 1) := by decide +kernel
theorem dX5_meet_39 : decode cX5_meet 39 = .ok (.goto 4, 3) := by decide +kernel
theorem dX5_meet_42 : decode cX5_meet 42 = .ok (.iconst 0, 1) := by decide +kernel
theorem dX5_meet_43 : decode cX5_meet 43 = .ok (.ireturn, 1) := by decide +kernel
theorem dX5_isThere_0 : decode cX5_isThere 0 = .ok (.aload_n 0, 1) := by decide +kernel
theorem dX5_isThere_1 : decode cX5_isThere 1 = .ok (.getfield 44, 3) := by decide +kernel
theorem dX5_isThere_4 : decode cX5_isThere 4 = .ok (.ireturn, 1) := by decide +kernel
theorem dX5_cost_0 : decode cX5_cost 0 = .ok (.aload_n 0, 1) := by decide +kernel
theorem dX5_cost_1 : decode cX5_cost 1 = .ok (.getfield 52, 3) := by decide +kernel
theorem dX5_cost_4 : decode cX5_cost 4 = .ok (.ireturn, 1) := by decide +kernel
theorem dX5_lineCount_0 : decode cX5_lineCount 0 = .ok (.aload_n 0, 1) := by decide +kernel
theorem dX5_lineCount_1 : decode cX5_lineCount 1 = .ok (.getfield 14, 3) := by decide +kernel
theorem dX5_lineCount_4 : decode cX5_lineCount 4 = .ok (.invokevirtual 70, 3) := by decide +kernel
theorem dX5_lineCount_7 : decode cX5_lineCount 7 = .ok (.ireturn, 1) := by decide +kernel
theorem dX5_startOf_0 : decode cX5_startOf 0 = .ok (.iload_n 1, 1) := by decide +kernel
theorem dX5_startOf_1 : decode cX5_startOf 1 = .ok (.ifCond .le 16, 3) := by decide +kernel
theorem dX5_startOf_4 : decode cX5_startOf 4 = .ok (.aload_n 0, 1) := by decide +kernel
theorem dX5_startOf_5 : decode cX5_startOf 5 = .ok (.getfield 14, 3) := by decide +kernel
theorem dX5_startOf_8 : decode cX5_startOf 8 = .ok (.iload_n 1, 1) := by decide +kernel
theorem dX5_startOf_9 : decode cX5_startOf 9 = .ok (.iconst 1, 1) := by decide +kernel
theorem dX5_startOf_10 : decode cX5_startOf 10 = .ok (.isub, 1) := by decide +kernel
theorem dX5_startOf_11 : decode cX5_startOf 11 = .ok (.invokevirtual 104, 3) := by decide +kernel
theorem dX5_startOf_14 : decode cX5_startOf 14 = .ok (.goto 4, 3) := by decide +kernel
theorem dX5_startOf_17 : decode cX5_startOf 17 = .ok (.iconst (-1), 1) := by decide +kernel
theorem dX5_startOf_18 : decode cX5_startOf 18 = .ok (.ireturn, 1) := by decide +kernel
theorem dX5_endOf_0 : decode cX5_endOf 0 = .ok (.aload_n 0, 1) := by decide +kernel
theorem dX5_endOf_1 : decode cX5_endOf 1 = .ok (.getfield 14, 3) := by decide +kernel
theorem dX5_endOf_4 : decode cX5_endOf 4 = .ok (.iload_n 1, 1) := by decide +kernel
theorem dX5_endOf_5 : decode cX5_endOf 5 = .ok (.invokevirtual 104, 3) := by decide +kernel
theorem dX5_endOf_8 : decode cX5_endOf 8 = .ok (.ireturn, 1) := by decide +kernel
theorem dX5_slashEnds_0 : decode cX5_slashEnds 0 = .ok (.iconst 0, 1) := by decide +kernel
theorem dX5_slashEnds_1 : decode cX5_slashEnds 1 = .ok (.istore_n 2, 1) := by decide +kernel
theorem dX5_slashEnds_2 : decode cX5_slashEnds 2 = .ok (.iconst 0, 1) := by decide +kernel
theorem dX5_slashEnds_3 : decode cX5_slashEnds 3 = .ok (.istore_n 3, 1) := by decide +kernel
theorem dX5_slashEnds_4 : decode cX5_slashEnds 4 = .ok (.iload_n 3, 1) := by decide +kernel
theorem dX5_slashEnds_5 : decode cX5_slashEnds 5 = .ok (.aload_n 0, 1) := by decide +kernel
theorem dX5_slashEnds_6 : decode cX5_slashEnds 6 = .ok (.getfield 14, 3) := by decide +kernel
theorem dX5_slashEnds_9 : decode cX5_slashEnds 9 = .ok (.invokevirtual 70, 3) := by decide +kernel
theorem dX5_slashEnds_12 : decode cX5_slashEnds 12 = .ok (.if_icmp .ge 32, 3) := by decide +kernel
theorem dX5_slashEnds_15 : decode cX5_slashEnds 15 = .ok (.iload_n 2, 1) := by decide +kernel
theorem dX5_slashEnds_16 : decode cX5_slashEnds 16 = .ok (.aload_n 1, 1) := by decide +kernel
theorem dX5_slashEnds_17 : decode cX5_slashEnds 17 = .ok (.aload_n 0, 1) := by decide +kernel
theorem dX5_slashEnds_18 : decode cX5_slashEnds 18 = .ok (.getfield 14, 3) := by decide +kernel
theorem dX5_slashEnds_21 : decode cX5_slashEnds 21 = .ok (.iload_n 3, 1) := by decide +kernel
theorem dX5_slashEnds_22 : decode cX5_slashEnds 22 = .ok (.invokevirtual 104, 3) := by decide +kernel
theorem dX5_slashEnds_25 : decode cX5_slashEnds 25 = .ok (.invokevirtual 85, 3) := by decide +kernel
theorem dX5_slashEnds_28 : decode cX5_slashEnds 28 = .ok (.ifCond .eq 7, 3) := by decide +kernel
theorem dX5_slashEnds_31 : decode cX5_slashEnds 31 = .ok (.iconst 1, 1) := by decide +kernel
theorem dX5_slashEnds_32 : decode cX5_slashEnds 32 = .ok (.goto 4, 3) := by decide +kernel
theorem dX5_slashEnds_35 : decode cX5_slashEnds 35 = .ok (.iconst 0, 1) := by decide +kernel
theorem dX5_slashEnds_36 : decode cX5_slashEnds 36 = .ok (.iadd, 1) := by decide +kernel
theorem dX5_slashEnds_37 : decode cX5_slashEnds 37 = .ok (.istore_n 2, 1) := by decide +kernel
theorem dX5_slashEnds_38 : decode cX5_slashEnds 38 = .ok (.iinc 3 1, 3) := by decide +kernel
theorem dX5_slashEnds_41 : decode cX5_slashEnds 41 = .ok (.goto (-37), 3) := by decide +kernel
theorem dX5_slashEnds_44 : decode cX5_slashEnds 44 = .ok (.iload_n 2, 1) := by decide +kernel
theorem dX5_slashEnds_45 : decode cX5_slashEnds 45 = .ok (.ireturn, 1) := by decide +kernel
theorem dX5_rough_0 : decode cX5_rough 0 = .ok (.iconst 0, 1) := by decide +kernel
theorem dX5_rough_1 : decode cX5_rough 1 = .ok (.istore_n 2, 1) := by decide +kernel
theorem dX5_rough_2 : decode cX5_rough 2 = .ok (.iconst 0, 1) := by decide +kernel
theorem dX5_rough_3 : decode cX5_rough 3 = .ok (.istore_n 3, 1) := by decide +kernel
theorem dX5_rough_4 : decode cX5_rough 4 = .ok (.iload_n 3, 1) := by decide +kernel
theorem dX5_rough_5 : decode cX5_rough 5 = .ok (.iconst 1, 1) := by decide +kernel
theorem dX5_rough_6 : decode cX5_rough 6 = .ok (.iadd, 1) := by decide +kernel
theorem dX5_rough_7 : decode cX5_rough 7 = .ok (.aload_n 0, 1) := by decide +kernel
theorem dX5_rough_8 : decode cX5_rough 8 = .ok (.getfield 14, 3) := by decide +kernel
theorem dX5_rough_11 : decode cX5_rough 11 = .ok (.invokevirtual 70, 3) := by decide +kernel
theorem dX5_rough_14 : decode cX5_rough 14 = .ok (.if_icmp .ge 41, 3) := by decide +kernel
theorem dX5_rough_17 : decode cX5_rough 17 = .ok (.iload_n 2, 1) := by decide +kernel
theorem dX5_rough_18 : decode cX5_rough 18 = .ok (.aload_n 1, 1) := by decide +kernel
theorem dX5_rough_19 : decode cX5_rough 19 = .ok (.aload_n 0, 1) := by decide +kernel
theorem dX5_rough_20 : decode cX5_rough 20 = .ok (.iload_n 3, 1) := by decide +kernel
theorem dX5_rough_21 : decode cX5_rough 21 = .ok (.invokevirtual 123, 3) := by decide +kernel
theorem dX5_rough_24 : decode cX5_rough 24 = .ok (.aload_n 0, 1) := by decide +kernel
theorem dX5_rough_25 : decode cX5_rough 25 = .ok (.iload_n 3, 1) := by decide +kernel
theorem dX5_rough_26 : decode cX5_rough 26 = .ok (.invokevirtual 126, 3) := by decide +kernel
theorem dX5_rough_29 : decode cX5_rough 29 = .ok (.invokevirtual 129, 3) := by decide +kernel
theorem dX5_rough_32 : decode cX5_rough 32 = .ok (.aload_n 1, 1) := by decide +kernel
theorem dX5_rough_33 : decode cX5_rough 33 = .ok (.aload_n 0, 1) := by decide +kernel
theorem dX5_rough_34 : decode cX5_rough 34 = .ok (.iload_n 3, 1) := by decide +kernel
theorem dX5_rough_35 : decode cX5_rough 35 = .ok (.invokevirtual 123, 3) := by decide +kernel
theorem dX5_rough_38 : decode cX5_rough 38 = .ok (.aload_n 0, 1) := by decide +kernel
theorem dX5_rough_39 : decode cX5_rough 39 = .ok (.iload_n 3, 1) := by decide +kernel
theorem dX5_rough_40 : decode cX5_rough 40 = .ok (.invokevirtual 126, 3) := by decide +kernel
theorem dX5_rough_43 : decode cX5_rough 43 = .ok (.invokevirtual 82, 3) := by decide +kernel
theorem dX5_rough_46 : decode cX5_rough 46 = .ok (.isub, 1) := by decide +kernel
theorem dX5_rough_47 : decode cX5_rough 47 = .ok (.iadd, 1) := by decide +kernel
theorem dX5_rough_48 : decode cX5_rough 48 = .ok (.istore_n 2, 1) := by decide +kernel
theorem dX5_rough_49 : decode cX5_rough 49 = .ok (.iinc 3 1, 3) := by decide +kernel
theorem dX5_rough_52 : decode cX5_rough 52 = .ok (.goto (-48), 3) := by decide +kernel
theorem dX5_rough_55 : decode cX5_rough 55 = .ok (.iload_n 2, 1) := by decide +kernel
theorem dX5_rough_56 : decode cX5_rough 56 = .ok (.ireturn, 1) := by decide +kernel
theorem dX5_springs_0 : decode cX5_springs 0 = .ok (.iconst 0, 1) := by decide +kernel
theorem dX5_springs_1 : decode cX5_springs 1 = .ok (.istore_n 1, 1) := by decide +kernel
theorem dX5_springs_2 : decode cX5_springs 2 = .ok (.iconst 0, 1) := by decide +kernel
theorem dX5_springs_3 : decode cX5_springs 3 = .ok (.istore_n 2, 1) := by decide +kernel
theorem dX5_springs_4 : decode cX5_springs 4 = .ok (.iload_n 2, 1) := by decide +kernel
theorem dX5_springs_5 : decode cX5_springs 5 = .ok (.aload_n 0, 1) := by decide +kernel
theorem dX5_springs_6 : decode cX5_springs 6 = .ok (.getfield 32, 3) := by decide +kernel
theorem dX5_springs_9 : decode cX5_springs 9 = .ok (.invokevirtual 70, 3) := by decide +kernel
theorem dX5_springs_12 : decode cX5_springs 12 = .ok (.if_icmp .ge 20, 3) := by decide +kernel
theorem dX5_springs_15 : decode cX5_springs 15 = .ok (.iload_n 1, 1) := by decide +kernel
theorem dX5_springs_16 : decode cX5_springs 16 = .ok (.aload_n 0, 1) := by decide +kernel
theorem dX5_springs_17 : decode cX5_springs 17 = .ok (.getfield 32, 3) := by decide +kernel
theorem dX5_springs_20 : decode cX5_springs 20 = .ok (.iload_n 2, 1) := by decide +kernel
theorem dX5_springs_21 : decode cX5_springs 21 = .ok (.invokevirtual 104, 3) := by decide +kernel
theorem dX5_springs_24 : decode cX5_springs 24 = .ok (.iadd, 1) := by decide +kernel
theorem dX5_springs_25 : decode cX5_springs 25 = .ok (.istore_n 1, 1) := by decide +kernel
theorem dX5_springs_26 : decode cX5_springs 26 = .ok (.iinc 2 1, 3) := by decide +kernel
theorem dX5_springs_29 : decode cX5_springs 29 = .ok (.goto (-25), 3) := by decide +kernel
theorem dX5_springs_32 : decode cX5_springs 32 = .ok (.iload_n 1, 1) := by decide +kernel
theorem dX5_springs_33 : decode cX5_springs 33 = .ok (.ireturn, 1) := by decide +kernel
theorem dX5_longest_0 : decode cX5_longest 0 = .ok (.iconst 0, 1) := by decide +kernel
theorem dX5_longest_1 : decode cX5_longest 1 = .ok (.istore_n 1, 1) := by decide +kernel
theorem dX5_longest_2 : decode cX5_longest 2 = .ok (.iconst 0, 1) := by decide +kernel
theorem dX5_longest_3 : decode cX5_longest 3 = .ok (.istore_n 2, 1) := by decide +kernel
theorem dX5_longest_4 : decode cX5_longest 4 = .ok (.iload_n 2, 1) := by decide +kernel
theorem dX5_longest_5 : decode cX5_longest 5 = .ok (.aload_n 0, 1) := by decide +kernel
theorem dX5_longest_6 : decode cX5_longest 6 = .ok (.getfield 29, 3) := by decide +kernel
theorem dX5_longest_9 : decode cX5_longest 9 = .ok (.invokevirtual 70, 3) := by decide +kernel
theorem dX5_longest_12 : decode cX5_longest 12 = .ok (.if_icmp .ge 22, 3) := by decide +kernel
theorem dX5_longest_15 : decode cX5_longest 15 = .ok (.iload_n 1, 1) := by decide +kernel
theorem dX5_longest_16 : decode cX5_longest 16 = .ok (.aload_n 0, 1) := by decide +kernel
theorem dX5_longest_17 : decode cX5_longest 17 = .ok (.getfield 29, 3) := by decide +kernel
theorem dX5_longest_20 : decode cX5_longest 20 = .ok (.iload_n 2, 1) := by decide +kernel
theorem dX5_longest_21 : decode cX5_longest 21 = .ok (.invokevirtual 104, 3) := by decide +kernel
theorem dX5_longest_24 : decode cX5_longest 24 = .ok (.invokestatic 120, 3) := by decide +kernel
theorem dX5_longest_27 : decode cX5_longest 27 = .ok (.istore_n 1, 1) := by decide +kernel
theorem dX5_longest_28 : decode cX5_longest 28 = .ok (.iinc 2 1, 3) := by decide +kernel
theorem dX5_longest_31 : decode cX5_longest 31 = .ok (.goto (-27), 3) := by decide +kernel
theorem dX5_longest_34 : decode cX5_longest 34 = .ok (.iload_n 1, 1) := by decide +kernel
theorem dX5_longest_35 : decode cX5_longest 35 = .ok (.ireturn, 1) := by decide +kernel
theorem dX5_blankCount_0 : decode cX5_blankCount 0 = .ok (.aload_n 0, 1) := by decide +kernel
theorem dX5_blankCount_1 : decode cX5_blankCount 1 = .ok (.getfield 20, 3) := by decide +kernel
theorem dX5_blankCount_4 : decode cX5_blankCount 4 = .ok (.iload_n 1, 1) := by decide +kernel
theorem dX5_blankCount_5 : decode cX5_blankCount 5 = .ok (.iconst 1, 1) := by decide +kernel
theorem dX5_blankCount_6 : decode cX5_blankCount 6 = .ok (.iadd, 1) := by decide +kernel
theorem dX5_blankCount_7 : decode cX5_blankCount 7 = .ok (.invokevirtual 104, 3) := by decide +kernel
theorem dX5_blankCount_10 : decode cX5_blankCount 10 = .ok (.aload_n 0, 1) := by decide +kernel
theorem dX5_blankCount_11 : decode cX5_blankCount 11 = .ok (.getfield 20, 3) := by decide +kernel
theorem dX5_blankCount_14 : decode cX5_blankCount 14 = .ok (.iload_n 1, 1) := by decide +kernel
theorem dX5_blankCount_15 : decode cX5_blankCount 15 = .ok (.invokevirtual 104, 3) := by decide +kernel
theorem dX5_blankCount_18 : decode cX5_blankCount 18 = .ok (.isub, 1) := by decide +kernel
theorem dX5_blankCount_19 : decode cX5_blankCount 19 = .ok (.ireturn, 1) := by decide +kernel
theorem dX5_blankOf_0 : decode cX5_blankOf 0 = .ok (.aload_n 0, 1) := by decide +kernel
theorem dX5_blankOf_1 : decode cX5_blankOf 1 = .ok (.getfield 20, 3) := by decide +kernel
theorem dX5_blankOf_4 : decode cX5_blankOf 4 = .ok (.iload_n 1, 1) := by decide +kernel
theorem dX5_blankOf_5 : decode cX5_blankOf 5 = .ok (.invokevirtual 104, 3) := by decide +kernel
theorem dX5_blankOf_8 : decode cX5_blankOf 8 = .ok (.iload_n 2, 1) := by decide +kernel
theorem dX5_blankOf_9 : decode cX5_blankOf 9 = .ok (.iadd, 1) := by decide +kernel
theorem dX5_blankOf_10 : decode cX5_blankOf 10 = .ok (.istore 4, 2) := by decide +kernel
theorem dX5_blankOf_12 : decode cX5_blankOf 12 = .ok (.iload_n 3, 1) := by decide +kernel
theorem dX5_blankOf_13 : decode cX5_blankOf 13 = .ok (.tableswitch 57 0 2 #[27, 37, 47], 27) := by decide +kernel
theorem dX5_blankOf_40 : decode cX5_blankOf 40 = .ok (.aload_n 0, 1) := by decide +kernel
theorem dX5_blankOf_41 : decode cX5_blankOf 41 = .ok (.getfield 23, 3) := by decide +kernel
theorem dX5_blankOf_44 : decode cX5_blankOf 44 = .ok (.iload 4, 2) := by decide +kernel
theorem dX5_blankOf_46 : decode cX5_blankOf 46 = .ok (.invokevirtual 104, 3) := by decide +kernel
theorem dX5_blankOf_49 : decode cX5_blankOf 49 = .ok (.ireturn, 1) := by decide +kernel
theorem dX5_blankOf_50 : decode cX5_blankOf 50 = .ok (.aload_n 0, 1) := by decide +kernel
theorem dX5_blankOf_51 : decode cX5_blankOf 51 = .ok (.getfield 26, 3) := by decide +kernel
theorem dX5_blankOf_54 : decode cX5_blankOf 54 = .ok (.iload 4, 2) := by decide +kernel
theorem dX5_blankOf_56 : decode cX5_blankOf 56 = .ok (.invokevirtual 104, 3) := by decide +kernel
theorem dX5_blankOf_59 : decode cX5_blankOf 59 = .ok (.ireturn, 1) := by decide +kernel
theorem dX5_blankOf_60 : decode cX5_blankOf 60 = .ok (.aload_n 0, 1) := by decide +kernel
theorem dX5_blankOf_61 : decode cX5_blankOf 61 = .ok (.getfield 29, 3) := by decide +kernel
theorem dX5_blankOf_64 : decode cX5_blankOf 64 = .ok (.iload 4, 2) := by decide +kernel
theorem dX5_blankOf_66 : decode cX5_blankOf 66 = .ok (.invokevirtual 104, 3) := by decide +kernel
theorem dX5_blankOf_69 : decode cX5_blankOf 69 = .ok (.ireturn, 1) := by decide +kernel
theorem dX5_blankOf_70 : decode cX5_blankOf 70 = .ok (.aload_n 0, 1) := by decide +kernel
theorem dX5_blankOf_71 : decode cX5_blankOf 71 = .ok (.getfield 32, 3) := by decide +kernel
theorem dX5_blankOf_74 : decode cX5_blankOf 74 = .ok (.iload 4, 2) := by decide +kernel
theorem dX5_blankOf_76 : decode cX5_blankOf 76 = .ok (.invokevirtual 104, 3) := by decide +kernel
theorem dX5_blankOf_79 : decode cX5_blankOf 79 = .ok (.ireturn, 1) := by decide +kernel
theorem dX6_init_0 : decode cX6_init 0 = .ok (.aload_n 0, 1) := by decide +kernel
theorem dX6_init_1 : decode cX6_init 1 = .ok (.invokespecial 3, 3) := by decide +kernel
theorem dX6_init_4 : decode cX6_init 4 = .ok (.aload_n 0, 1) := by decide +kernel
theorem dX6_init_5 : decode cX6_init 5 = .ok (.sipush 191, 3) := by decide +kernel
theorem dX6_init_8 : decode cX6_init 8 = .ok (.newarray .boolean, 2) := by decide +kernel
theorem dX6_init_10 : decode cX6_init 10 = .ok (.putfield 9, 3) := by decide +kernel
theorem dX6_init_13 : decode cX6_init 13 = .ok (.aload_n 0, 1) := by decide +kernel
theorem dX6_init_14 : decode cX6_init 14 = .ok (.sipush 382, 3) := by decide +kernel
theorem dX6_init_17 : decode cX6_init 17 = .ok (.newarray .long, 2) := by decide +kernel
theorem dX6_init_19 : decode cX6_init 19 = .ok (.putfield 15, 3) := by decide +kernel
theorem dX6_init_22 : decode cX6_init 22 = .ok (.aload_n 0, 1) := by decide +kernel
theorem dX6_init_23 : decode cX6_init 23 = .ok (.sipush 191, 3) := by decide +kernel
theorem dX6_init_26 : decode cX6_init 26 = .ok (.newarray .boolean, 2) := by decide +kernel
theorem dX6_init_28 : decode cX6_init 28 = .ok (.putfield 19, 3) := by decide +kernel
theorem dX6_init_31 : decode cX6_init 31 = .ok (.return_, 1) := by decide +kernel
theorem dX6_goThrough_0 : decode cX6_goThrough 0 = .ok (.iconst 0, 1) := by decide +kernel
theorem dX6_goThrough_1 : decode cX6_goThrough 1 = .ok (.istore_n 3, 1) := by decide +kernel
theorem dX6_goThrough_2 : decode cX6_goThrough 2 = .ok (.iload_n 3, 1) := by decide +kernel
theorem dX6_goThrough_3 : decode cX6_goThrough 3 = .ok (.sipush 191, 3) := by decide +kernel
theorem dX6_goThrough_6 : decode cX6_goThrough 6 = .ok (.if_icmp .ge 34, 3) := by decide +kernel
theorem dX6_goThrough_9 : decode cX6_goThrough 9 = .ok (.aload_n 2, 1) := by decide +kernel
theorem dX6_goThrough_10 : decode cX6_goThrough 10 = .ok (.aload_n 1, 1) := by decide +kernel
theorem dX6_goThrough_11 : decode cX6_goThrough 11 = .ok (.bipush 10, 2) := by decide +kernel
theorem dX6_goThrough_13 : decode cX6_goThrough 13 = .ok (.iload_n 3, 1) := by decide +kernel
theorem dX6_goThrough_14 : decode cX6_goThrough 14 = .ok (.iadd, 1) := by decide +kernel
theorem dX6_goThrough_15 : decode cX6_goThrough 15 = .ok (.invokevirtual 22, 3) := by decide +kernel
theorem dX6_goThrough_18 : decode cX6_goThrough 18 = .ok (.aload_n 0, 1) := by decide +kernel
theorem dX6_goThrough_19 : decode cX6_goThrough 19 = .ok (.getfield 9, 3) := by decide +kernel
theorem dX6_goThrough_22 : decode cX6_goThrough 22 = .ok (.iload_n 3, 1) := by decide +kernel
theorem dX6_goThrough_23 : decode cX6_goThrough 23 = .ok (.aload_n 2, 1) := by decide +kernel
theorem dX6_goThrough_24 : decode cX6_goThrough 24 = .ok (.invokevirtual 28, 3) := by decide +kernel
theorem dX6_goThrough_27 : decode cX6_goThrough 27 = .ok (.bastore, 1) := by decide +kernel
theorem dX6_goThrough_28 : decode cX6_goThrough 28 = .ok (.aload_n 0, 1) := by decide +kernel
theorem dX6_goThrough_29 : decode cX6_goThrough 29 = .ok (.iload_n 3, 1) := by decide +kernel
theorem dX6_goThrough_30 : decode cX6_goThrough 30 = .ok (.aload_n 2, 1) := by decide +kernel
theorem dX6_goThrough_31 : decode cX6_goThrough 31 = .ok (.invokevirtual 32, 3) := by decide +kernel
theorem dX6_goThrough_34 : decode cX6_goThrough 34 = .ok (.iinc 3 1, 3) := by decide +kernel
theorem dX6_goThrough_37 : decode cX6_goThrough 37 = .ok (.goto (-35), 3) := by decide +kernel
theorem dX6_goThrough_40 : decode cX6_goThrough 40 = .ok (.return_, 1) := by decide +kernel
theorem dX6_note_0 : decode cX6_note 0 = .ok (.lconst 0, 1) := by decide +kernel
theorem dX6_note_1 : decode cX6_note 1 = .ok (.lstore_n 3, 1) := by decide +kernel
theorem dX6_note_2 : decode cX6_note 2 = .ok (.lconst 0, 1) := by decide +kernel
theorem dX6_note_3 : decode cX6_note 3 = .ok (.lstore 5, 2) := by decide +kernel
theorem dX6_note_5 : decode cX6_note 5 = .ok (.iconst (-1), 1) := by decide +kernel
theorem dX6_note_6 : decode cX6_note 6 = .ok (.istore 7, 2) := by decide +kernel
theorem dX6_note_8 : decode cX6_note 8 = .ok (.iconst 0, 1) := by decide +kernel
theorem dX6_note_9 : decode cX6_note 9 = .ok (.istore 8, 2) := by decide +kernel
theorem dX6_note_11 : decode cX6_note 11 = .ok (.iload 8, 2) := by decide +kernel
theorem dX6_note_13 : decode cX6_note 13 = .ok (.aload_n 2, 1) := by decide +kernel
theorem dX6_note_14 : decode cX6_note 14 = .ok (.invokevirtual 36, 3) := by decide +kernel
theorem dX6_note_17 : decode cX6_note 17 = .ok (.if_icmp .ge 46, 3) := by decide +kernel
theorem dX6_note_20 : decode cX6_note 20 = .ok (.aload_n 2, 1) := by decide +kernel
theorem dX6_note_21 : decode cX6_note 21 = .ok (.iload 7, 2) := by decide +kernel
theorem dX6_note_23 : decode cX6_note 23 = .ok (.invokevirtual 40, 3) := by decide +kernel
theorem dX6_note_26 : decode cX6_note 26 = .ok (.istore 7, 2) := by decide +kernel
theorem dX6_note_28 : decode cX6_note 28 = .ok (.iload 7, 2) := by decide +kernel
theorem dX6_note_30 : decode cX6_note 30 = .ok (.bipush 64, 2) := by decide +kernel
theorem dX6_note_32 : decode cX6_note 32 = .ok (.if_icmp .ge 13, 3) := by decide +kernel
theorem dX6_note_35 : decode cX6_note 35 = .ok (.lload_n 3, 1) := by decide +kernel
theorem dX6_note_36 : decode cX6_note 36 = .ok (.lconst 1, 1) := by decide +kernel
theorem dX6_note_37 : decode cX6_note 37 = .ok (.iload 7, 2) := by decide +kernel
theorem dX6_note_39 : decode cX6_note 39 = .ok (.lshl, 1) := by decide +kernel
theorem dX6_note_40 : decode cX6_note 40 = .ok (.lor, 1) := by decide +kernel
theorem dX6_note_41 : decode cX6_note 41 = .ok (.lstore_n 3, 1) := by decide +kernel
theorem dX6_note_42 : decode cX6_note 42 = .ok (.goto 15, 3) := by decide +kernel
theorem dX6_note_45 : decode cX6_note 45 = .ok (.lload 5, 2) := by decide +kernel
theorem dX6_note_47 : decode cX6_note 47 = .ok (.lconst 1, 1) := by decide +kernel
theorem dX6_note_48 : decode cX6_note 48 = .ok (.iload 7, 2) := by decide +kernel
theorem dX6_note_50 : decode cX6_note 50 = .ok (.bipush 64, 2) := by decide +kernel
theorem dX6_note_52 : decode cX6_note 52 = .ok (.isub, 1) := by decide +kernel
theorem dX6_note_53 : decode cX6_note 53 = .ok (.lshl, 1) := by decide +kernel
theorem dX6_note_54 : decode cX6_note 54 = .ok (.lor, 1) := by decide +kernel
theorem dX6_note_55 : decode cX6_note 55 = .ok (.lstore 5, 2) := by decide +kernel
theorem dX6_note_57 : decode cX6_note 57 = .ok (.iinc 8 1, 3) := by decide +kernel
theorem dX6_note_60 : decode cX6_note 60 = .ok (.goto (-49), 3) := by decide +kernel
theorem dX6_note_63 : decode cX6_note 63 = .ok (.iload_n 1, 1) := by decide +kernel
theorem dX6_note_64 : decode cX6_note 64 = .ok (.ifCond .lt 31, 3) := by decide +kernel
theorem dX6_note_67 : decode cX6_note 67 = .ok (.iload_n 1, 1) := by decide +kernel
theorem dX6_note_68 : decode cX6_note 68 = .ok (.sipush 191, 3) := by decide +kernel
theorem dX6_note_71 : decode cX6_note 71 = .ok (.if_icmp .ge 24, 3) := by decide +kernel
theorem dX6_note_74 : decode cX6_note 74 = .ok (.aload_n 0, 1) := by decide +kernel
theorem dX6_note_75 : decode cX6_note 75 = .ok (.getfield 15, 3) := by decide +kernel
theorem dX6_note_78 : decode cX6_note 78 = .ok (.iload_n 1, 1) := by decide +kernel
theorem dX6_note_79 : decode cX6_note 79 = .ok (.iconst 2, 1) := by decide +kernel
theorem dX6_note_80 : decode cX6_note 80 = .ok (.imul, 1) := by decide +kernel
theorem dX6_note_81 : decode cX6_note 81 = .ok (.lload_n 3, 1) := by decide +kernel
theorem dX6_note_82 : decode cX6_note 82 = .ok (.lastore, 1) := by decide +kernel
theorem dX6_note_83 : decode cX6_note 83 = .ok (.aload_n 0, 1) := by decide +kernel
theorem dX6_note_84 : decode cX6_note 84 = .ok (.getfield 15, 3) := by decide +kernel
theorem dX6_note_87 : decode cX6_note 87 = .ok (.iload_n 1, 1) := by decide +kernel
theorem dX6_note_88 : decode cX6_note 88 = .ok (.iconst 2, 1) := by decide +kernel
theorem dX6_note_89 : decode cX6_note 89 = .ok (.imul, 1) := by decide +kernel
theorem dX6_note_90 : decode cX6_note 90 = .ok (.iconst 1, 1) := by decide +kernel
theorem dX6_note_91 : decode cX6_note 91 = .ok (.iadd, 1) := by decide +kernel
theorem dX6_note_92 : decode cX6_note 92 = .ok (.lload 5, 2) := by decide +kernel
theorem dX6_note_94 : decode cX6_note 94 = .ok (.lastore, 1) := by decide +kernel
theorem dX6_note_95 : decode cX6_note 95 = .ok (.return_, 1) := by decide +kernel
theorem dX6_endsAt_0 : decode cX6_endsAt 0 = .ok (.iload_n 1, 1) := by decide +kernel
theorem dX6_endsAt_1 : decode cX6_endsAt 1 = .ok (.ifCond .lt 21, 3) := by decide +kernel
theorem dX6_endsAt_4 : decode cX6_endsAt 4 = .ok (.iload_n 1, 1) := by decide +kernel
theorem dX6_endsAt_5 : decode cX6_endsAt 5 = .ok (.sipush 191, 3) := by decide +kernel
theorem dX6_endsAt_8 : decode cX6_endsAt 8 = .ok (.if_icmp .ge 14, 3) := by decide +kernel
theorem dX6_endsAt_11 : decode cX6_endsAt 11 = .ok (.iload_n 2, 1) := by decide +kernel
theorem dX6_endsAt_12 : decode cX6_endsAt 12 = .ok (.ifCond .lt 10, 3) := by decide +kernel
theorem dX6_endsAt_15 : decode cX6_endsAt 15 = .ok (.iload_n 2, 1) := by decide +kernel
theorem dX6_endsAt_16 : decode cX6_endsAt 16 = .ok (.sipush 128, 3) := by decide +kernel
theorem dX6_endsAt_19 : decode cX6_endsAt 19 = .ok (.if_icmp .lt 5, 3) := by decide +kernel
theorem dX6_endsAt_22 : decode cX6_endsAt 22 = .ok (.iconst 0, 1) := by decide +kernel
theorem dX6_endsAt_23 : decode cX6_endsAt 23 = .ok (.ireturn, 1) := by decide +kernel
theorem dX6_endsAt_24 : decode cX6_endsAt 24 = .ok (.aload_n 0, 1) := by decide +kernel
theorem dX6_endsAt_25 : decode cX6_endsAt 25 = .ok (.getfield 15, 3) := by decide +kernel
theorem dX6_endsAt_28 : decode cX6_endsAt 28 = .ok (.iload_n 1, 1) := by decide +kernel
theorem dX6_endsAt_29 : decode cX6_endsAt 29 = .ok (.iconst 2, 1) := by decide +kernel
theorem dX6_endsAt_30 : decode cX6_endsAt 30 = .ok (.imul, 1) := by decide +kernel
theorem dX6_endsAt_31 : decode cX6_endsAt 31 = .ok (.iload_n 2, 1) := by decide +kernel
theorem dX6_endsAt_32 : decode cX6_endsAt 32 = .ok (.bipush 64, 2) := by decide +kernel
theorem dX6_endsAt_34 : decode cX6_endsAt 34 = .ok (.idiv, 1) := by decide +kernel
theorem dX6_endsAt_35 : decode cX6_endsAt 35 = .ok (.iadd, 1) := by decide +kernel
theorem dX6_endsAt_36 : decode cX6_endsAt 36 = .ok (.laload, 1) := by decide +kernel
theorem dX6_endsAt_37 : decode cX6_endsAt 37 = .ok (.iload_n 2, 1) := by decide +kernel
theorem dX6_endsAt_38 : decode cX6_endsAt 38 = .ok (.bipush 64, 2) := by decide +kernel
theorem dX6_endsAt_40 : decode cX6_endsAt 40 = .ok (.irem, 1) := by decide +kernel
theorem dX6_endsAt_41 : decode cX6_endsAt 41 = .ok (.lushr, 1) := by decide +kernel
theorem dX6_endsAt_42 : decode cX6_endsAt 42 = .ok (.lconst 1, 1) := by decide +kernel
theorem dX6_endsAt_43 : decode cX6_endsAt 43 = .ok (.land, 1) := by decide +kernel
theorem dX6_endsAt_44 : decode cX6_endsAt 44 = .ok (.lconst 1, 1) := by decide +kernel
theorem dX6_endsAt_45 : decode cX6_endsAt 45 = .ok (.lcmp, 1) := by decide +kernel
theorem dX6_endsAt_46 : decode cX6_endsAt 46 = .ok (.ifCond .ne 7, 3) := by decide +kernel
theorem dX6_endsAt_49 : decode cX6_endsAt 49 = .ok (.iconst 1, 1) := by decide +kernel
theorem dX6_endsAt_50 : decode cX6_endsAt 50 = .ok (.goto 4, 3) := by decide +kernel
theorem dX6_endsAt_53 : decode cX6_endsAt 53 = .ok (.iconst 0, 1) := by decide +kernel
theorem dX6_endsAt_54 : decode cX6_endsAt 54 = .ok (.ireturn, 1) := by decide +kernel
theorem dX6_pickAlike_0 : decode cX6_pickAlike 0 = .ok (.iconst 0, 1) := by decide +kernel
theorem dX6_pickAlike_1 : decode cX6_pickAlike 1 = .ok (.sipush 190, 3) := by decide +kernel
theorem dX6_pickAlike_4 : decode cX6_pickAlike 4 = .ok (.iload_n 1, 1) := by decide +kernel
theorem dX6_pickAlike_5 : decode cX6_pickAlike 5 = .ok (.bipush 10, 2) := by decide +kernel
theorem dX6_pickAlike_7 : decode cX6_pickAlike 7 = .ok (.isub, 1) := by decide +kernel
theorem dX6_pickAlike_8 : decode cX6_pickAlike 8 = .ok (.invokestatic 44, 3) := by decide +kernel
theorem dX6_pickAlike_11 : decode cX6_pickAlike 11 = .ok (.invokestatic 50, 3) := by decide +kernel
theorem dX6_pickAlike_14 : decode cX6_pickAlike 14 = .ok (.istore_n 2, 1) := by decide +kernel
theorem dX6_pickAlike_15 : decode cX6_pickAlike 15 = .ok (.iconst 0, 1) := by decide +kernel
theorem dX6_pickAlike_16 : decode cX6_pickAlike 16 = .ok (.istore_n 3, 1) := by decide +kernel
theorem dX6_pickAlike_17 : decode cX6_pickAlike 17 = .ok (.iload_n 3, 1) := by decide +kernel
theorem dX6_pickAlike_18 : decode cX6_pickAlike 18 = .ok (.sipush 191, 3) := by decide +kernel
theorem dX6_pickAlike_21 : decode cX6_pickAlike 21 = .ok (.if_icmp .ge 73, 3) := by decide +kernel
theorem dX6_pickAlike_24 : decode cX6_pickAlike 24 = .ok (.aload_n 0, 1) := by decide +kernel
theorem dX6_pickAlike_25 : decode cX6_pickAlike 25 = .ok (.getfield 19, 3) := by decide +kernel
theorem dX6_pickAlike_28 : decode cX6_pickAlike 28 = .ok (.iload_n 3, 1) := by decide +kernel
theorem dX6_pickAlike_29 : decode cX6_pickAlike 29 = .ok (.aload_n 0, 1) := by decide +kernel
theorem dX6_pickAlike_30 : decode cX6_pickAlike 30 = .ok (.getfield 9, 3) := by decide +kernel
theorem dX6_pickAlike_33 : decode cX6_pickAlike 33 = .ok (.iload_n 3, 1) := by decide +kernel
theorem dX6_pickAlike_34 : decode cX6_pickAlike 34 = .ok (.baload, 1) := by decide +kernel
theorem dX6_pickAlike_35 : decode cX6_pickAlike 35 = .ok (.ifCond .eq 51, 3) := by decide +kernel
theorem dX6_pickAlike_38 : decode cX6_pickAlike 38 = .ok (.aload_n 0, 1) := by decide +kernel
theorem dX6_pickAlike_39 : decode cX6_pickAlike 39 = .ok (.getfield 15, 3) := by decide +kernel
theorem dX6_pickAlike_42 : decode cX6_pickAlike 42 = .ok (.iload_n 3, 1) := by decide +kernel
theorem dX6_pickAlike_43 : decode cX6_pickAlike 43 = .ok (.iconst 2, 1) := by decide +kernel
theorem dX6_pickAlike_44 : decode cX6_pickAlike 44 = .ok (.imul, 1) := by decide +kernel
theorem dX6_pickAlike_45 : decode cX6_pickAlike 45 = .ok (.laload, 1) := by decide +kernel
theorem dX6_pickAlike_46 : decode cX6_pickAlike 46 = .ok (.aload_n 0, 1) := by decide +kernel
theorem dX6_pickAlike_47 : decode cX6_pickAlike 47 = .ok (.getfield 15, 3) := by decide +kernel
theorem dX6_pickAlike_50 : decode cX6_pickAlike 50 = .ok (.iload_n 2, 1) := by decide +kernel
theorem dX6_pickAlike_51 : decode cX6_pickAlike 51 = .ok (.iconst 2, 1) := by decide +kernel
theorem dX6_pickAlike_52 : decode cX6_pickAlike 52 = .ok (.imul, 1) := by decide +kernel
theorem dX6_pickAlike_53 : decode cX6_pickAlike 53 = .ok (.laload, 1) := by decide +kernel
theorem dX6_pickAlike_54 : decode cX6_pickAlike 54 = .ok (.lcmp, 1) := by decide +kernel
theorem dX6_pickAlike_55 : decode cX6_pickAlike 55 = .ok (.ifCond .ne 31, 3) := by decide +kernel
theorem dX6_pickAlike_58 : decode cX6_pickAlike 58 = .ok (.aload_n 0, 1) := by decide +kernel
theorem dX6_pickAlike_59 : decode cX6_pickAlike 59 = .ok (.getfield 15, 3) := by decide +kernel
theorem dX6_pickAlike_62 : decode cX6_pickAlike 62 = .ok (.iload_n 3, 1) := by decide +kernel
theorem dX6_pickAlike_63 : decode cX6_pickAlike 63 = .ok (.iconst 2, 1) := by decide +kernel
theorem dX6_pickAlike_64 : decode cX6_pickAlike 64 = .ok (.imul, 1) := by decide +kernel
theorem dX6_pickAlike_65 : decode cX6_pickAlike 65 = .ok (.iconst 1, 1) := by decide +kernel
theorem dX6_pickAlike_66 : decode cX6_pickAlike 66 = .ok (.iadd, 1) := by decide +kernel
theorem dX6_pickAlike_67 : decode cX6_pickAlike 67 = .ok (.laload, 1) := by decide +kernel
theorem dX6_pickAlike_68 : decode cX6_pickAlike 68 = .ok (.aload_n 0, 1) := by decide +kernel
theorem dX6_pickAlike_69 : decode cX6_pickAlike 69 = .ok (.getfield 15, 3) := by decide +kernel
theorem dX6_pickAlike_72 : decode cX6_pickAlike 72 = .ok (.iload_n 2, 1) := by decide +kernel
theorem dX6_pickAlike_73 : decode cX6_pickAlike 73 = .ok (.iconst 2, 1) := by decide +kernel
theorem dX6_pickAlike_74 : decode cX6_pickAlike 74 = .ok (.imul, 1) := by decide +kernel
theorem dX6_pickAlike_75 : decode cX6_pickAlike 75 = .ok (.iconst 1, 1) := by decide +kernel
theorem dX6_pickAlike_76 : decode cX6_pickAlike 76 = .ok (.iadd, 1) := by decide +kernel
theorem dX6_pickAlike_77 : decode cX6_pickAlike 77 = .ok (.laload, 1) := by decide +kernel
theorem dX6_pickAlike_78 : decode cX6_pickAlike 78 = .ok (.lcmp, 1) := by decide +kernel
theorem dX6_pickAlike_79 : decode cX6_pickAlike 79 = .ok (.ifCond .ne 7, 3) := by decide +kernel
theorem dX6_pickAlike_82 : decode cX6_pickAlike 82 = .ok (.iconst 1, 1) := by decide +kernel
theorem dX6_pickAlike_83 : decode cX6_pickAlike 83 = .ok (.goto 4, 3) := by decide +kernel
theorem dX6_pickAlike_86 : decode cX6_pickAlike 86 = .ok (.iconst 0, 1) := by decide +kernel
theorem dX6_pickAlike_87 : decode cX6_pickAlike 87 = .ok (.bastore, 1) := by decide +kernel
theorem dX6_pickAlike_88 : decode cX6_pickAlike 88 = .ok (.iinc 3 1, 3) := by decide +kernel
theorem dX6_pickAlike_91 : decode cX6_pickAlike 91 = .ok (.goto (-74), 3) := by decide +kernel
theorem dX6_pickAlike_94 : decode cX6_pickAlike 94 = .ok (.return_, 1) := by decide +kernel
theorem dX6_pickSeen_0 : decode cX6_pickSeen 0 = .ok (.iconst 0, 1) := by decide +kernel
theorem dX6_pickSeen_1 : decode cX6_pickSeen 1 = .ok (.istore 4, 2) := by decide +kernel
theorem dX6_pickSeen_3 : decode cX6_pickSeen 3 = .ok (.iload 4, 2) := by decide +kernel
theorem dX6_pickSeen_5 : decode cX6_pickSeen 5 = .ok (.sipush 191, 3) := by decide +kernel
theorem dX6_pickSeen_8 : decode cX6_pickSeen 8 = .ok (.if_icmp .ge 98, 3) := by decide +kernel
theorem dX6_pickSeen_11 : decode cX6_pickSeen 11 = .ok (.aload_n 0, 1) := by decide +kernel
theorem dX6_pickSeen_12 : decode cX6_pickSeen 12 = .ok (.getfield 19, 3) := by decide +kernel
theorem dX6_pickSeen_15 : decode cX6_pickSeen 15 = .ok (.iload 4, 2) := by decide +kernel
theorem dX6_pickSeen_17 : decode cX6_pickSeen 17 = .ok (.aload_n 0, 1) := by decide +kernel
theorem dX6_pickSeen_18 : decode cX6_pickSeen 18 = .ok (.getfield 9, 3) := by decide +kernel
theorem dX6_pickSeen_21 : decode cX6_pickSeen 21 = .ok (.iload 4, 2) := by decide +kernel
theorem dX6_pickSeen_23 : decode cX6_pickSeen 23 = .ok (.baload, 1) := by decide +kernel
theorem dX6_pickSeen_24 : decode cX6_pickSeen 24 = .ok (.bastore, 1) := by decide +kernel
theorem dX6_pickSeen_25 : decode cX6_pickSeen 25 = .ok (.iconst 0, 1) := by decide +kernel
theorem dX6_pickSeen_26 : decode cX6_pickSeen 26 = .ok (.istore 5, 2) := by decide +kernel
theorem dX6_pickSeen_28 : decode cX6_pickSeen 28 = .ok (.iload 5, 2) := by decide +kernel
theorem dX6_pickSeen_30 : decode cX6_pickSeen 30 = .ok (.aload_n 2, 1) := by decide +kernel
theorem dX6_pickSeen_31 : decode cX6_pickSeen 31 = .ok (.invokevirtual 53, 3) := by decide +kernel
theorem dX6_pickSeen_34 : decode cX6_pickSeen 34 = .ok (.if_icmp .ge 66, 3) := by decide +kernel
theorem dX6_pickSeen_37 : decode cX6_pickSeen 37 = .ok (.aload_n 0, 1) := by decide +kernel
theorem dX6_pickSeen_38 : decode cX6_pickSeen 38 = .ok (.iload 4, 2) := by decide +kernel
theorem dX6_pickSeen_40 : decode cX6_pickSeen 40 = .ok (.aload_n 1, 1) := by decide +kernel
theorem dX6_pickSeen_41 : decode cX6_pickSeen 41 = .ok (.aload_n 2, 1) := by decide +kernel
theorem dX6_pickSeen_42 : decode cX6_pickSeen 42 = .ok (.iload 5, 2) := by decide +kernel
theorem dX6_pickSeen_44 : decode cX6_pickSeen 44 = .ok (.invokevirtual 58, 3) := by decide +kernel
theorem dX6_pickSeen_47 : decode cX6_pickSeen 47 = .ok (.invokevirtual 61, 3) := by decide +kernel
theorem dX6_pickSeen_50 : decode cX6_pickSeen 50 = .ok (.istore 6, 2) := by decide +kernel
theorem dX6_pickSeen_52 : decode cX6_pickSeen 52 = .ok (.aload_n 0, 1) := by decide +kernel
theorem dX6_pickSeen_53 : decode cX6_pickSeen 53 = .ok (.getfield 19, 3) := by decide +kernel
theorem dX6_pickSeen_56 : decode cX6_pickSeen 56 = .ok (.iload 4, 2) := by decide +kernel
theorem dX6_pickSeen_58 : decode cX6_pickSeen 58 = .ok (.aload_n 0, 1) := by decide +kernel
theorem dX6_pickSeen_59 : decode cX6_pickSeen 59 = .ok (.getfield 19, 3) := by decide +kernel
theorem dX6_pickSeen_62 : decode cX6_pickSeen 62 = .ok (.iload 4, 2) := by decide +kernel
theorem dX6_pickSeen_64 : decode cX6_pickSeen 64 = .ok (.baload, 1) := by decide +kernel
theorem dX6_pickSeen_65 : decode cX6_pickSeen 65 = .ok (.ifCond .eq 27, 3) := by decide +kernel
theorem dX6_pickSeen_68 : decode cX6_pickSeen 68 = .ok (.iload 6, 2) := by decide +kernel
theorem dX6_pickSeen_70 : decode cX6_pickSeen 70 = .ok (.aload_n 3, 1) := by decide +kernel
theorem dX6_pickSeen_71 : decode cX6_pickSeen 71 = .ok (.iload 5, 2) := by decide +kernel
theorem dX6_pickSeen_73 : decode cX6_pickSeen 73 = .ok (.invokevirtual 58, 3) := by decide +kernel
theorem dX6_pickSeen_76 : decode cX6_pickSeen 76 = .ok (.iconst 1, 1) := by decide +kernel
theorem dX6_pickSeen_77 : decode cX6_pickSeen 77 = .ok (.if_icmp .ne 7, 3) := by decide +kernel
theorem dX6_pickSeen_80 : decode cX6_pickSeen 80 = .ok (.iconst 1, 1) := by decide +kernel
theorem dX6_pickSeen_81 : decode cX6_pickSeen 81 = .ok (.goto 4, 3) := by decide +kernel
theorem dX6_pickSeen_84 : decode cX6_pickSeen 84 = .ok (.iconst 0, 1) := by decide +kernel
theorem dX6_pickSeen_85 : decode cX6_pickSeen 85 = .ok (.if_icmp .ne 7, 3) := by decide +kernel
theorem dX6_pickSeen_88 : decode cX6_pickSeen 88 = .ok (.iconst 1, 1) := by decide +kernel
theorem dX6_pickSeen_89 : decode cX6_pickSeen 89 = .ok (.goto 4, 3) := by decide +kernel
theorem dX6_pickSeen_92 : decode cX6_pickSeen 92 = .ok (.iconst 0, 1) := by decide +kernel
theorem dX6_pickSeen_93 : decode cX6_pickSeen 93 = .ok (.bastore, 1) := by decide +kernel
theorem dX6_pickSeen_94 : decode cX6_pickSeen 94 = .ok (.iinc 5 1, 3) := by decide +kernel
theorem dX6_pickSeen_97 : decode cX6_pickSeen 97 = .ok (.goto (-69), 3) := by decide +kernel
theorem dX6_pickSeen_100 : decode cX6_pickSeen 100 = .ok (.iinc 4 1, 3) := by decide +kernel
theorem dX6_pickSeen_103 : decode cX6_pickSeen 103 = .ok (.goto (-100), 3) := by decide +kernel
theorem dX6_pickSeen_106 : decode cX6_pickSeen 106 = .ok (.return_, 1) := by decide +kernel
theorem dX6_beginsLine_0 : decode cX6_beginsLine 0 = .ok (.iload_n 3, 1) := by decide +kernel
theorem dX6_beginsLine_1 : decode cX6_beginsLine 1 = .ok (.ifCond .eq 18, 3) := by decide +kernel
theorem dX6_beginsLine_4 : decode cX6_beginsLine 4 = .ok (.aload_n 0, 1) := by decide +kernel
theorem dX6_beginsLine_5 : decode cX6_beginsLine 5 = .ok (.iload_n 1, 1) := by decide +kernel
theorem dX6_beginsLine_6 : decode cX6_beginsLine 6 = .ok (.aload_n 2, 1) := by decide +kernel
theorem dX6_beginsLine_7 : decode cX6_beginsLine 7 = .ok (.iload_n 3, 1) := by decide +kernel
theorem dX6_beginsLine_8 : decode cX6_beginsLine 8 = .ok (.iconst 1, 1) := by decide +kernel
theorem dX6_beginsLine_9 : decode cX6_beginsLine 9 = .ok (.isub, 1) := by decide +kernel
theorem dX6_beginsLine_10 : decode cX6_beginsLine 10 = .ok (.invokevirtual 65, 3) := by decide +kernel
theorem dX6_beginsLine_13 : decode cX6_beginsLine 13 = .ok (.invokevirtual 70, 3) := by decide +kernel
theorem dX6_beginsLine_16 : decode cX6_beginsLine 16 = .ok (.ifCond .eq 7, 3) := by decide +kernel
theorem dX6_beginsLine_19 : decode cX6_beginsLine 19 = .ok (.iconst 1, 1) := by decide +kernel
theorem dX6_beginsLine_20 : decode cX6_beginsLine 20 = .ok (.goto 4, 3) := by decide +kernel
theorem dX6_beginsLine_23 : decode cX6_beginsLine 23 = .ok (.iconst 0, 1) := by decide +kernel
theorem dX6_beginsLine_24 : decode cX6_beginsLine 24 = .ok (.ireturn, 1) := by decide +kernel
theorem dX6_picked_0 : decode cX6_picked 0 = .ok (.iconst 0, 1) := by decide +kernel
theorem dX6_picked_1 : decode cX6_picked 1 = .ok (.istore_n 2, 1) := by decide +kernel
theorem dX6_picked_2 : decode cX6_picked 2 = .ok (.bipush (-9), 2) := by decide +kernel
theorem dX6_picked_4 : decode cX6_picked 4 = .ok (.istore_n 3, 1) := by decide +kernel
theorem dX6_picked_5 : decode cX6_picked 5 = .ok (.bipush (-9), 2) := by decide +kernel
theorem dX6_picked_7 : decode cX6_picked 7 = .ok (.istore 4, 2) := by decide +kernel
theorem dX6_picked_9 : decode cX6_picked 9 = .ok (.iconst 0, 1) := by decide +kernel
theorem dX6_picked_10 : decode cX6_picked 10 = .ok (.istore 5, 2) := by decide +kernel
theorem dX6_picked_12 : decode cX6_picked 12 = .ok (.iload 5, 2) := by decide +kernel
theorem dX6_picked_14 : decode cX6_picked 14 = .ok (.sipush 191, 3) := by decide +kernel
theorem dX6_picked_17 : decode cX6_picked 17 = .ok (.if_icmp .ge 45, 3) := by decide +kernel
theorem dX6_picked_20 : decode cX6_picked 20 = .ok (.aload_n 0, 1) := by decide +kernel
theorem dX6_picked_21 : decode cX6_picked 21 = .ok (.getfield 19, 3) := by decide +kernel
theorem dX6_picked_24 : decode cX6_picked 24 = .ok (.iload 5, 2) := by decide +kernel
theorem dX6_picked_26 : decode cX6_picked 26 = .ok (.baload, 1) := by decide +kernel
theorem dX6_picked_27 : decode cX6_picked 27 = .ok (.ifCond .eq 29, 3) := by decide +kernel
theorem dX6_picked_30 : decode cX6_picked 30 = .ok (.iinc 2 1, 3) := by decide +kernel
theorem dX6_picked_33 : decode cX6_picked 33 = .ok (.iload_n 3, 1) := by decide +kernel
theorem dX6_picked_34 : decode cX6_picked 34 = .ok (.bipush (-9), 2) := by decide +kernel
theorem dX6_picked_36 : decode cX6_picked 36 = .ok (.if_icmp .ne 11, 3) := by decide +kernel
theorem dX6_picked_39 : decode cX6_picked 39 = .ok (.bipush 10, 2) := by decide +kernel
theorem dX6_picked_41 : decode cX6_picked 41 = .ok (.iload 5, 2) := by decide +kernel
theorem dX6_picked_43 : decode cX6_picked 43 = .ok (.iadd, 1) := by decide +kernel
theorem dX6_picked_44 : decode cX6_picked 44 = .ok (.goto 4, 3) := by decide +kernel
theorem dX6_picked_47 : decode cX6_picked 47 = .ok (.iload_n 3, 1) := by decide +kernel
theorem dX6_picked_48 : decode cX6_picked 48 = .ok (.istore_n 3, 1) := by decide +kernel
theorem dX6_picked_49 : decode cX6_picked 49 = .ok (.bipush 10, 2) := by decide +kernel
theorem dX6_picked_51 : decode cX6_picked 51 = .ok (.iload 5, 2) := by decide +kernel
theorem dX6_picked_53 : decode cX6_picked 53 = .ok (.iadd, 1) := by decide +kernel
theorem dX6_picked_54 : decode cX6_picked 54 = .ok (.istore 4, 2) := by decide +kernel
theorem dX6_picked_56 : decode cX6_picked 56 = .ok (.iinc 5 1, 3) := by decide +kernel
theorem dX6_picked_59 : decode cX6_picked 59 = .ok (.goto (-47), 3) := by decide +kernel
theorem dX6_picked_62 : decode cX6_picked 62 = .ok (.iload_n 1, 1) := by decide +kernel
theorem dX6_picked_63 : decode cX6_picked 63 = .ok (.ifCond .ne 7, 3) := by decide +kernel
theorem dX6_picked_66 : decode cX6_picked 66 = .ok (.iload_n 2, 1) := by decide +kernel
theorem dX6_picked_67 : decode cX6_picked 67 = .ok (.goto 14, 3) := by decide +kernel
theorem dX6_picked_70 : decode cX6_picked 70 = .ok (.iload_n 1, 1) := by decide +kernel
theorem dX6_picked_71 : decode cX6_picked 71 = .ok (.iconst 1, 1) := by decide +kernel
theorem dX6_picked_72 : decode cX6_picked 72 = .ok (.if_icmp .ne 7, 3) := by decide +kernel
theorem dX6_picked_75 : decode cX6_picked 75 = .ok (.iload_n 3, 1) := by decide +kernel
theorem dX6_picked_76 : decode cX6_picked 76 = .ok (.goto 5, 3) := by decide +kernel
theorem dX6_picked_79 : decode cX6_picked 79 = .ok (.iload 4, 2) := by decide +kernel
theorem dX6_picked_81 : decode cX6_picked 81 = .ok (.ireturn, 1) := by decide +kernel
theorem dX7_init_0 : decode cX7_init 0 = .ok (.aload_n 0, 1) := by decide +kernel
theorem dX7_init_1 : decode cX7_init 1 = .ok (.invokespecial 3, 3) := by decide +kernel
theorem dX7_init_4 : decode cX7_init 4 = .ok (.aload_n 0, 1) := by decide +kernel
theorem dX7_init_5 : decode cX7_init 5 = .ok (.new 9, 3) := by decide +kernel
theorem dX7_init_8 : decode cX7_init 8 = .ok (.dup, 1) := by decide +kernel
theorem dX7_init_9 : decode cX7_init 9 = .ok (.sipush 200, 3) := by decide +kernel
theorem dX7_init_12 : decode cX7_init 12 = .ok (.invokespecial 11, 3) := by decide +kernel
theorem dX7_init_15 : decode cX7_init 15 = .ok (.putfield 14, 3) := by decide +kernel
theorem dX7_init_18 : decode cX7_init 18 = .ok (.aload_n 0, 1) := by decide +kernel
theorem dX7_init_19 : decode cX7_init 19 = .ok (.new 18, 3) := by decide +kernel
theorem dX7_init_22 : decode cX7_init 22 = .ok (.dup, 1) := by decide +kernel
theorem dX7_init_23 : decode cX7_init 23 = .ok (.invokespecial 20, 3) := by decide +kernel
theorem dX7_init_26 : decode cX7_init 26 = .ok (.putfield 21, 3) := by decide +kernel
theorem dX7_init_29 : decode cX7_init 29 = .ok (.aload_n 0, 1) := by decide +kernel
theorem dX7_init_30 : decode cX7_init 30 = .ok (.new 25, 3) := by decide +kernel
theorem dX7_init_33 : decode cX7_init 33 = .ok (.dup, 1) := by decide +kernel
theorem dX7_init_34 : decode cX7_init 34 = .ok (.invokespecial 27, 3) := by decide +kernel
theorem dX7_init_37 : decode cX7_init 37 = .ok (.putfield 28, 3) := by decide +kernel
theorem dX7_init_40 : decode cX7_init 40 = .ok (.aload_n 0, 1) := by decide +kernel
theorem dX7_init_41 : decode cX7_init 41 = .ok (.new 9, 3) := by decide +kernel
theorem dX7_init_44 : decode cX7_init 44 = .ok (.dup, 1) := by decide +kernel
theorem dX7_init_45 : decode cX7_init 45 = .ok (.bipush 100, 2) := by decide +kernel
theorem dX7_init_47 : decode cX7_init 47 = .ok (.invokespecial 11, 3) := by decide +kernel
theorem dX7_init_50 : decode cX7_init 50 = .ok (.putfield 32, 3) := by decide +kernel
theorem dX7_init_53 : decode cX7_init 53 = .ok (.aload_n 0, 1) := by decide +kernel
theorem dX7_init_54 : decode cX7_init 54 = .ok (.new 9, 3) := by decide +kernel
theorem dX7_init_57 : decode cX7_init 57 = .ok (.dup, 1) := by decide +kernel
theorem dX7_init_58 : decode cX7_init 58 = .ok (.bipush 6, 2) := by decide +kernel
theorem dX7_init_60 : decode cX7_init 60 = .ok (.invokespecial 11, 3) := by decide +kernel
theorem dX7_init_63 : decode cX7_init 63 = .ok (.putfield 35, 3) := by decide +kernel
theorem dX7_init_66 : decode cX7_init 66 = .ok (.aload_n 0, 1) := by decide +kernel
theorem dX7_init_67 : decode cX7_init 67 = .ok (.new 9, 3) := by decide +kernel
theorem dX7_init_70 : decode cX7_init 70 = .ok (.dup, 1) := by decide +kernel
theorem dX7_init_71 : decode cX7_init 71 = .ok (.bipush 6, 2) := by decide +kernel
theorem dX7_init_73 : decode cX7_init 73 = .ok (.invokespecial 11, 3) := by decide +kernel
theorem dX7_init_76 : decode cX7_init 76 = .ok (.putfield 38, 3) := by decide +kernel
theorem dX7_init_79 : decode cX7_init 79 = .ok (.aload_n 0, 1) := by decide +kernel
theorem dX7_init_80 : decode cX7_init 80 = .ok (.new 41, 3) := by decide +kernel
theorem dX7_init_83 : decode cX7_init 83 = .ok (.dup, 1) := by decide +kernel
theorem dX7_init_84 : decode cX7_init 84 = .ok (.invokespecial 43, 3) := by decide +kernel
theorem dX7_init_87 : decode cX7_init 87 = .ok (.putfield 44, 3) := by decide +kernel
theorem dX7_init_90 : decode cX7_init 90 = .ok (.aload_n 0, 1) := by decide +kernel
theorem dX7_init_91 : decode cX7_init 91 = .ok (.new 48, 3) := by decide +kernel
theorem dX7_init_94 : decode cX7_init 94 = .ok (.dup, 1) := by decide +kernel
theorem dX7_init_95 : decode cX7_init 95 = .ok (.invokespecial 50, 3) := by decide +kernel
theorem dX7_init_98 : decode cX7_init 98 = .ok (.putfield 51, 3) := by decide +kernel
theorem dX7_init_101 : decode cX7_init 101 = .ok (.aload_n 0, 1) := by decide +kernel
theorem dX7_init_102 : decode cX7_init 102 = .ok (.new 55, 3) := by decide +kernel
theorem dX7_init_105 : decode cX7_init 105 = .ok (.dup, 1) := by decide +kernel
theorem dX7_init_106 : decode cX7_init 106 = .ok (.invokespecial 57, 3) := by decide +kernel
theorem dX7_init_109 : decode cX7_init 109 = .ok (.putfield 58, 3) := by decide +kernel
theorem dX7_init_112 : decode cX7_init 112 = .ok (.aload_n 0, 1) := by decide +kernel
theorem dX7_init_113 : decode cX7_init 113 = .ok (.new 62, 3) := by decide +kernel
theorem dX7_init_116 : decode cX7_init 116 = .ok (.dup, 1) := by decide +kernel
theorem dX7_init_117 : decode cX7_init 117 = .ok (.invokespecial 64, 3) := by decide +kernel
theorem dX7_init_120 : decode cX7_init 120 = .ok (.putfield 65, 3) := by decide +kernel
theorem dX7_init_123 : decode cX7_init 123 = .ok (.aload_n 0, 1) := by decide +kernel
theorem dX7_init_124 : decode cX7_init 124 = .ok (.iconst 1, 1) := by decide +kernel
theorem dX7_init_125 : decode cX7_init 125 = .ok (.putfield 69, 3) := by decide +kernel
theorem dX7_init_128 : decode cX7_init 128 = .ok (.aload_n 0, 1) := by decide +kernel
theorem dX7_init_129 : decode cX7_init 129 = .ok (.iconst 1, 1) := by decide +kernel
theorem dX7_init_130 : decode cX7_init 130 = .ok (.putfield 73, 3) := by decide +kernel
theorem dX7_init_133 : decode cX7_init 133 = .ok (.return_, 1) := by decide +kernel
theorem dX7_type_0 : decode cX7_type 0 = .ok (.iload_n 1, 1) := by decide +kernel
theorem dX7_type_1 : decode cX7_type 1 = .ok (.ifCond .lt 10, 3) := by decide +kernel
theorem dX7_type_4 : decode cX7_type 4 = .ok (.iload_n 1, 1) := by decide +kernel
theorem dX7_type_5 : decode cX7_type 5 = .ok (.sipush 255, 3) := by decide +kernel
theorem dX7_type_8 : decode cX7_type 8 = .ok (.if_icmp .le 5, 3) := by decide +kernel
theorem dX7_type_11 : decode cX7_type 11 = .ok (.iconst (-1), 1) := by decide +kernel
theorem dX7_type_12 : decode cX7_type 12 = .ok (.ireturn, 1) := by decide +kernel
theorem dX7_type_13 : decode cX7_type 13 = .ok (.aload_n 0, 1) := by decide +kernel
theorem dX7_type_14 : decode cX7_type 14 = .ok (.getfield 14, 3) := by decide +kernel
theorem dX7_type_17 : decode cX7_type 17 = .ok (.iload_n 1, 1) := by decide +kernel
theorem dX7_type_18 : decode cX7_type 18 = .ok (.invokevirtual 76, 3) := by decide +kernel
theorem dX7_type_21 : decode cX7_type 21 = .ok (.ifCond .eq 13, 3) := by decide +kernel
theorem dX7_type_24 : decode cX7_type 24 = .ok (.aload_n 0, 1) := by decide +kernel
theorem dX7_type_25 : decode cX7_type 25 = .ok (.getfield 14, 3) := by decide +kernel
theorem dX7_type_28 : decode cX7_type 28 = .ok (.invokevirtual 80, 3) := by decide +kernel
theorem dX7_type_31 : decode cX7_type 31 = .ok (.goto 5, 3) := by decide +kernel
theorem dX7_type_34 : decode cX7_type 34 = .ok (.bipush (-3), 2) := by decide +kernel
theorem dX7_type_36 : decode cX7_type 36 = .ok (.ireturn, 1) := by decide +kernel
theorem dX7_clear_0 : decode cX7_clear 0 = .ok (.aload_n 0, 1) := by decide +kernel
theorem dX7_clear_1 : decode cX7_clear 1 = .ok (.getfield 14, 3) := by decide +kernel
theorem dX7_clear_4 : decode cX7_clear 4 = .ok (.invokevirtual 80, 3) := by decide +kernel
theorem dX7_clear_7 : decode cX7_clear 7 = .ok (.istore_n 1, 1) := by decide +kernel
theorem dX7_clear_8 : decode cX7_clear 8 = .ok (.aload_n 0, 1) := by decide +kernel
theorem dX7_clear_9 : decode cX7_clear 9 = .ok (.getfield 14, 3) := by decide +kernel
theorem dX7_clear_12 : decode cX7_clear 12 = .ok (.invokevirtual 84, 3) := by decide +kernel
theorem dX7_clear_15 : decode cX7_clear 15 = .ok (.iload_n 1, 1) := by decide +kernel
theorem dX7_clear_16 : decode cX7_clear 16 = .ok (.ireturn, 1) := by decide +kernel
theorem dX7_words_0 : decode cX7_words 0 = .ok (.aload_n 0, 1) := by decide +kernel
theorem dX7_words_1 : decode cX7_words 1 = .ok (.getfield 14, 3) := by decide +kernel
theorem dX7_words_4 : decode cX7_words 4 = .ok (.invokestatic 87, 3) := by decide +kernel
theorem dX7_words_7 : decode cX7_words 7 = .ok (.istore_n 1, 1) := by decide +kernel
theorem dX7_words_8 : decode cX7_words 8 = .ok (.iload_n 1, 1) := by decide +kernel
theorem dX7_words_9 : decode cX7_words 9 = .ok (.ifCond .lt 8, 3) := by decide +kernel
theorem dX7_words_12 : decode cX7_words 12 = .ok (.bipush (-10), 2) := by decide +kernel
theorem dX7_words_14 : decode cX7_words 14 = .ok (.iload_n 1, 1) := by decide +kernel
theorem dX7_words_15 : decode cX7_words 15 = .ok (.isub, 1) := by decide +kernel
theorem dX7_words_16 : decode cX7_words 16 = .ok (.ireturn, 1) := by decide +kernel
theorem dX7_words_17 : decode cX7_words 17 = .ok (.aload_n 0, 1) := by decide +kernel
theorem dX7_words_18 : decode cX7_words 18 = .ok (.getfield 21, 3) := by decide +kernel
theorem dX7_words_21 : decode cX7_words 21 = .ok (.aload_n 0, 1) := by decide +kernel
theorem dX7_words_22 : decode cX7_words 22 = .ok (.getfield 14, 3) := by decide +kernel
theorem dX7_words_25 : decode cX7_words 25 = .ok (.invokevirtual 91, 3) := by decide +kernel
theorem dX7_words_28 : decode cX7_words 28 = .ok (.aload_n 0, 1) := by decide +kernel
theorem dX7_words_29 : decode cX7_words 29 = .ok (.getfield 14, 3) := by decide +kernel
theorem dX7_words_32 : decode cX7_words 32 = .ok (.invokevirtual 84, 3) := by decide +kernel
theorem dX7_words_35 : decode cX7_words 35 = .ok (.aload_n 0, 1) := by decide +kernel
theorem dX7_words_36 : decode cX7_words 36 = .ok (.getfield 28, 3) := by decide +kernel
theorem dX7_words_39 : decode cX7_words 39 = .ok (.invokevirtual 95, 3) := by decide +kernel
theorem dX7_words_42 : decode cX7_words 42 = .ok (.aload_n 0, 1) := by decide +kernel
theorem dX7_words_43 : decode cX7_words 43 = .ok (.getfield 32, 3) := by decide +kernel
theorem dX7_words_46 : decode cX7_words 46 = .ok (.invokevirtual 84, 3) := by decide +kernel
theorem dX7_words_49 : decode cX7_words 49 = .ok (.aload_n 0, 1) := by decide +kernel
theorem dX7_words_50 : decode cX7_words 50 = .ok (.getfield 35, 3) := by decide +kernel
theorem dX7_words_53 : decode cX7_words 53 = .ok (.invokevirtual 84, 3) := by decide +kernel
theorem dX7_words_56 : decode cX7_words 56 = .ok (.aload_n 0, 1) := by decide +kernel
theorem dX7_words_57 : decode cX7_words 57 = .ok (.getfield 38, 3) := by decide +kernel
theorem dX7_words_60 : decode cX7_words 60 = .ok (.invokevirtual 84, 3) := by decide +kernel
theorem dX7_words_63 : decode cX7_words 63 = .ok (.aload_n 0, 1) := by decide +kernel
theorem dX7_words_64 : decode cX7_words 64 = .ok (.iconst 1, 1) := by decide +kernel
theorem dX7_words_65 : decode cX7_words 65 = .ok (.putfield 69, 3) := by decide +kernel
theorem dX7_words_68 : decode cX7_words 68 = .ok (.aload_n 0, 1) := by decide +kernel
theorem dX7_words_69 : decode cX7_words 69 = .ok (.iconst 1, 1) := by decide +kernel
theorem dX7_words_70 : decode cX7_words 70 = .ok (.putfield 73, 3) := by decide +kernel
theorem dX7_words_73 : decode cX7_words 73 = .ok (.aload_n 0, 1) := by decide +kernel
theorem dX7_words_74 : decode cX7_words 74 = .ok (.getfield 21, 3) := by decide +kernel
theorem dX7_words_77 : decode cX7_words 77 = .ok (.invokevirtual 98, 3) := by decide +kernel
theorem dX7_words_80 : decode cX7_words 80 = .ok (.ireturn, 1) := by decide +kernel
theorem dX7_word_0 : decode cX7_word 0 = .ok (.iload_n 1, 1) := by decide +kernel
theorem dX7_word_1 : decode cX7_word 1 = .ok (.ifCond .lt 19, 3) := by decide +kernel
theorem dX7_word_4 : decode cX7_word 4 = .ok (.iload_n 1, 1) := by decide +kernel
theorem dX7_word_5 : decode cX7_word 5 = .ok (.aload_n 0, 1) := by decide +kernel
theorem dX7_word_6 : decode cX7_word 6 = .ok (.getfield 21, 3) := by decide +kernel
theorem dX7_word_9 : decode cX7_word 9 = .ok (.invokevirtual 98, 3) := by decide +kernel
theorem dX7_word_12 : decode cX7_word 12 = .ok (.if_icmp .ge 8, 3) := by decide +kernel
theorem dX7_word_15 : decode cX7_word 15 = .ok (.iload_n 2, 1) := by decide +kernel
theorem dX7_word_16 : decode cX7_word 16 = .ok (.iconst (-1), 1) := by decide +kernel
theorem dX7_word_17 : decode cX7_word 17 = .ok (.if_icmp .ge 5, 3) := by decide +kernel
theorem dX7_word_20 : decode cX7_word 20 = .ok (.iconst (-1), 1) := by decide +kernel
theorem dX7_word_21 : decode cX7_word 21 = .ok (.ireturn, 1) := by decide +kernel
theorem dX7_word_22 : decode cX7_word 22 = .ok (.iload_n 2, 1) := by decide +kernel
theorem dX7_word_23 : decode cX7_word 23 = .ok (.iconst (-1), 1) := by decide +kernel
theorem dX7_word_24 : decode cX7_word 24 = .ok (.if_icmp .ne 12, 3) := by decide +kernel
theorem dX7_word_27 : decode cX7_word 27 = .ok (.aload_n 0, 1) := by decide +kernel
theorem dX7_word_28 : decode cX7_word 28 = .ok (.getfield 21, 3) := by decide +kernel
theorem dX7_word_31 : decode cX7_word 31 = .ok (.iload_n 1, 1) := by decide +kernel
theorem dX7_word_32 : decode cX7_word 32 = .ok (.invokevirtual 101, 3) := by decide +kernel
theorem dX7_word_35 : decode cX7_word 35 = .ok (.ireturn, 1) := by decide +kernel
theorem dX7_word_36 : decode cX7_word 36 = .ok (.iload_n 2, 1) := by decide +kernel
theorem dX7_word_37 : decode cX7_word 37 = .ok (.aload_n 0, 1) := by decide +kernel
theorem dX7_word_38 : decode cX7_word 38 = .ok (.getfield 21, 3) := by decide +kernel
theorem dX7_word_41 : decode cX7_word 41 = .ok (.iload_n 1, 1) := by decide +kernel
theorem dX7_word_42 : decode cX7_word 42 = .ok (.invokevirtual 101, 3) := by decide +kernel
theorem dX7_word_45 : decode cX7_word 45 = .ok (.if_icmp .ge 15, 3) := by decide +kernel
theorem dX7_word_48 : decode cX7_word 48 = .ok (.aload_n 0, 1) := by decide +kernel
theorem dX7_word_49 : decode cX7_word 49 = .ok (.getfield 21, 3) := by decide +kernel
theorem dX7_word_52 : decode cX7_word 52 = .ok (.iload_n 1, 1) := by decide +kernel
theorem dX7_word_53 : decode cX7_word 53 = .ok (.iload_n 2, 1) := by decide +kernel
theorem dX7_word_54 : decode cX7_word 54 = .ok (.invokevirtual 105, 3) := by decide +kernel
theorem dX7_word_57 : decode cX7_word 57 = .ok (.goto 5, 3) := by decide +kernel
theorem dX7_word_60 : decode cX7_word 60 = .ok (.bipush (-9), 2) := by decide +kernel
theorem dX7_word_62 : decode cX7_word 62 = .ok (.ireturn, 1) := by decide +kernel
theorem dX7_different_0 : decode cX7_different 0 = .ok (.iload_n 1, 1) := by decide +kernel
theorem dX7_different_1 : decode cX7_different 1 = .ok (.ifCond .lt 12, 3) := by decide +kernel
theorem dX7_different_4 : decode cX7_different 4 = .ok (.iload_n 2, 1) := by decide +kernel
theorem dX7_different_5 : decode cX7_different 5 = .ok (.ifCond .lt 8, 3) := by decide +kernel
theorem dX7_different_8 : decode cX7_different 8 = .ok (.iload_n 2, 1) := by decide +kernel
theorem dX7_different_9 : decode cX7_different 9 = .ok (.iconst 1, 1) := by decide +kernel
theorem dX7_different_10 : decode cX7_different 10 = .ok (.if_icmp .le 5, 3) := by decide +kernel
theorem dX7_different_13 : decode cX7_different 13 = .ok (.iconst (-1), 1) := by decide +kernel
theorem dX7_different_14 : decode cX7_different 14 = .ok (.ireturn, 1) := by decide +kernel
theorem dX7_different_15 : decode cX7_different 15 = .ok (.iload_n 1, 1) := by decide +kernel
theorem dX7_different_16 : decode cX7_different 16 = .ok (.aload_n 0, 1) := by decide +kernel
theorem dX7_different_17 : decode cX7_different 17 = .ok (.getfield 21, 3) := by decide +kernel
theorem dX7_different_20 : decode cX7_different 20 = .ok (.invokevirtual 109, 3) := by decide +kernel
theorem dX7_different_23 : decode cX7_different 23 = .ok (.if_icmp .lt 6, 3) := by decide +kernel
theorem dX7_different_26 : decode cX7_different 26 = .ok (.bipush (-9), 2) := by decide +kernel
theorem dX7_different_28 : decode cX7_different 28 = .ok (.ireturn, 1) := by decide +kernel
theorem dX7_different_29 : decode cX7_different 29 = .ok (.iload_n 2, 1) := by decide +kernel
theorem dX7_different_30 : decode cX7_different 30 = .ok (.ifCond .ne 14, 3) := by decide +kernel
theorem dX7_different_33 : decode cX7_different 33 = .ok (.aload_n 0, 1) := by decide +kernel
theorem dX7_different_34 : decode cX7_different 34 = .ok (.getfield 21, 3) := by decide +kernel
theorem dX7_different_37 : decode cX7_different 37 = .ok (.iload_n 1, 1) := by decide +kernel
theorem dX7_different_38 : decode cX7_different 38 = .ok (.invokevirtual 112, 3) := by decide +kernel
theorem dX7_different_41 : decode cX7_different 41 = .ok (.goto 11, 3) := by decide +kernel
theorem dX7_different_44 : decode cX7_different 44 = .ok (.aload_n 0, 1) := by decide +kernel
theorem dX7_different_45 : decode cX7_different 45 = .ok (.getfield 21, 3) := by decide +kernel
theorem dX7_different_48 : decode cX7_different 48 = .ok (.iload_n 1, 1) := by decide +kernel
theorem dX7_different_49 : decode cX7_different 49 = .ok (.invokevirtual 115, 3) := by decide +kernel
theorem dX7_different_52 : decode cX7_different 52 = .ok (.ireturn, 1) := by decide +kernel
theorem dX7_place_0 : decode cX7_place 0 = .ok (.aload_n 0, 1) := by decide +kernel
theorem dX7_place_1 : decode cX7_place 1 = .ok (.iload_n 1, 1) := by decide +kernel
theorem dX7_place_2 : decode cX7_place 2 = .ok (.invokevirtual 118, 3) := by decide +kernel
theorem dX7_place_5 : decode cX7_place 5 = .ok (.ifCond .ne 5, 3) := by decide +kernel
theorem dX7_place_8 : decode cX7_place 8 = .ok (.iconst (-1), 1) := by decide +kernel
theorem dX7_place_9 : decode cX7_place 9 = .ok (.ireturn, 1) := by decide +kernel
theorem dX7_place_10 : decode cX7_place 10 = .ok (.iload_n 2, 1) := by decide +kernel
theorem dX7_place_11 : decode cX7_place 11 = .ok (.tableswitch 60 0 2 #[25, 34, 43], 25) := by decide +kernel
theorem dX7_place_36 : decode cX7_place 36 = .ok (.aload_n 0, 1) := by decide +kernel
theorem dX7_place_37 : decode cX7_place 37 = .ok (.getfield 21, 3) := by decide +kernel
theorem dX7_place_40 : decode cX7_place 40 = .ok (.iload_n 1, 1) := by decide +kernel
theorem dX7_place_41 : decode cX7_place 41 = .ok (.invokevirtual 121, 3) := by decide +kernel
theorem dX7_place_44 : decode cX7_place 44 = .ok (.ireturn, 1) := by decide +kernel
theorem dX7_place_45 : decode cX7_place 45 = .ok (.aload_n 0, 1) := by decide +kernel
theorem dX7_place_46 : decode cX7_place 46 = .ok (.getfield 21, 3) := by decide +kernel
theorem dX7_place_49 : decode cX7_place 49 = .ok (.iload_n 1, 1) := by decide +kernel
theorem dX7_place_50 : decode cX7_place 50 = .ok (.invokevirtual 124, 3) := by decide +kernel
theorem dX7_place_53 : decode cX7_place 53 = .ok (.ireturn, 1) := by decide +kernel
theorem dX7_place_54 : decode cX7_place 54 = .ok (.aload_n 0, 1) := by decide +kernel
theorem dX7_place_55 : decode cX7_place 55 = .ok (.getfield 21, 3) := by decide +kernel
theorem dX7_place_58 : decode cX7_place 58 = .ok (.iload_n 1, 1) := by decide +kernel
theorem dX7_place_59 : decode cX7_place 59 = .ok (.invokevirtual 127, 3) := by decide +kernel
theorem dX7_place_62 : decode cX7_place 62 = .ok (.ifCond .eq 7, 3) := by decide +kernel
theorem dX7_place_65 : decode cX7_place 65 = .ok (.iconst 1, 1) := by decide +kernel
theorem dX7_place_66 : decode cX7_place 66 = .ok (.goto 4, 3) := by decide +kernel
theorem dX7_place_69 : decode cX7_place 69 = .ok (.iconst 0, 1) := by decide +kernel
theorem dX7_place_70 : decode cX7_place 70 = .ok (.ireturn, 1) := by decide +kernel
theorem dX7_place_71 : decode cX7_place 71 = .ok (.iconst (-1), 1) := by decide +kernel
theorem dX7_place_72 : decode cX7_place 72 = .ok (.ireturn, 1) := by decide +kernel
theorem dX7_wide_0 : decode cX7_wide 0 = .ok (.iload_n 1, 1) := by decide +kernel
theorem dX7_wide_1 : decode cX7_wide 1 = .ok (.invokestatic 130, 3) := by decide +kernel
theorem dX7_wide_4 : decode cX7_wide 4 = .ok (.istore_n 3, 1) := by decide +kernel
theorem dX7_wide_5 : decode cX7_wide 5 = .ok (.iload_n 3, 1) := by decide +kernel
theorem dX7_wide_6 : decode cX7_wide 6 = .ok (.ifCond .lt 13, 3) := by decide +kernel
theorem dX7_wide_9 : decode cX7_wide 9 = .ok (.iload_n 2, 1) := by decide +kernel
theorem dX7_wide_10 : decode cX7_wide 10 = .ok (.ifCond .lt 9, 3) := by decide +kernel
theorem dX7_wide_13 : decode cX7_wide 13 = .ok (.iload_n 2, 1) := by decide +kernel
theorem dX7_wide_14 : decode cX7_wide 14 = .ok (.bipush 9, 2) := by decide +kernel
theorem dX7_wide_16 : decode cX7_wide 16 = .ok (.if_icmp .le 5, 3) := by decide +kernel
theorem dX7_wide_19 : decode cX7_wide 19 = .ok (.iconst (-1), 1) := by decide +kernel
theorem dX7_wide_20 : decode cX7_wide 20 = .ok (.ireturn, 1) := by decide +kernel
theorem dX7_wide_21 : decode cX7_wide 21 = .ok (.aload_n 0, 1) := by decide +kernel
theorem dX7_wide_22 : decode cX7_wide 22 = .ok (.iload_n 3, 1) := by decide +kernel
theorem dX7_wide_23 : decode cX7_wide 23 = .ok (.iload_n 2, 1) := by decide +kernel
theorem dX7_wide_24 : decode cX7_wide 24 = .ok (.invokevirtual 133, 3) := by decide +kernel
theorem dX7_wide_27 : decode cX7_wide 27 = .ok (.ireturn, 1) := by decide +kernel
theorem dX7_hangs_0 : decode cX7_hangs 0 = .ok (.iload_n 1, 1) := by decide +kernel
theorem dX7_hangs_1 : decode cX7_hangs 1 = .ok (.invokestatic 136, 3) := by decide +kernel
theorem dX7_hangs_4 : decode cX7_hangs 4 = .ok (.istore_n 3, 1) := by decide +kernel
theorem dX7_hangs_5 : decode cX7_hangs 5 = .ok (.iload_n 3, 1) := by decide +kernel
theorem dX7_hangs_6 : decode cX7_hangs 6 = .ok (.ifCond .lt 13, 3) := by decide +kernel
theorem dX7_hangs_9 : decode cX7_hangs 9 = .ok (.iload_n 2, 1) := by decide +kernel
theorem dX7_hangs_10 : decode cX7_hangs 10 = .ok (.ifCond .lt 9, 3) := by decide +kernel
theorem dX7_hangs_13 : decode cX7_hangs 13 = .ok (.iload_n 2, 1) := by decide +kernel
theorem dX7_hangs_14 : decode cX7_hangs 14 = .ok (.bipush 10, 2) := by decide +kernel
theorem dX7_hangs_16 : decode cX7_hangs 16 = .ok (.if_icmp .le 5, 3) := by decide +kernel
theorem dX7_hangs_19 : decode cX7_hangs 19 = .ok (.iconst (-1), 1) := by decide +kernel
theorem dX7_hangs_20 : decode cX7_hangs 20 = .ok (.ireturn, 1) := by decide +kernel
theorem dX7_hangs_21 : decode cX7_hangs 21 = .ok (.aload_n 0, 1) := by decide +kernel
theorem dX7_hangs_22 : decode cX7_hangs 22 = .ok (.iload_n 3, 1) := by decide +kernel
theorem dX7_hangs_23 : decode cX7_hangs 23 = .ok (.iload_n 2, 1) := by decide +kernel
theorem dX7_hangs_24 : decode cX7_hangs 24 = .ok (.invokevirtual 133, 3) := by decide +kernel
theorem dX7_hangs_27 : decode cX7_hangs 27 = .ok (.ireturn, 1) := by decide +kernel
theorem dX7_sets_0 : decode cX7_sets 0 = .ok (.iload_n 1, 1) := by decide +kernel
theorem dX7_sets_1 : decode cX7_sets 1 = .ok (.ifCond .lt 19, 3) := by decide +kernel
theorem dX7_sets_4 : decode cX7_sets 4 = .ok (.iload_n 1, 1) := by decide +kernel
theorem dX7_sets_5 : decode cX7_sets 5 = .ok (.getstatic 139, 3) := by decide +kernel
theorem dX7_sets_8 : decode cX7_sets 8 = .ok (.arraylength, 1) := by decide +kernel
theorem dX7_sets_9 : decode cX7_sets 9 = .ok (.if_icmp .ge 11, 3) := by decide +kernel
theorem dX7_sets_12 : decode cX7_sets 12 = .ok (.iload_n 1, 1) := by decide +kernel
theorem dX7_sets_13 : decode cX7_sets 13 = .ok (.getstatic 143, 3) := by decide +kernel
theorem dX7_sets_16 : decode cX7_sets 16 = .ok (.arraylength, 1) := by decide +kernel
theorem dX7_sets_17 : decode cX7_sets 17 = .ok (.if_icmp .lt 5, 3) := by decide +kernel
theorem dX7_sets_20 : decode cX7_sets 20 = .ok (.iconst (-1), 1) := by decide +kernel
theorem dX7_sets_21 : decode cX7_sets 21 = .ok (.ireturn, 1) := by decide +kernel
theorem dX7_sets_22 : decode cX7_sets 22 = .ok (.iload_n 2, 1) := by decide +kernel
theorem dX7_sets_23 : decode cX7_sets 23 = .ok (.getstatic 139, 3) := by decide +kernel
theorem dX7_sets_26 : decode cX7_sets 26 = .ok (.iload_n 1, 1) := by decide +kernel
theorem dX7_sets_27 : decode cX7_sets 27 = .ok (.iaload, 1) := by decide +kernel
theorem dX7_sets_28 : decode cX7_sets 28 = .ok (.if_icmp .lt 12, 3) := by decide +kernel
theorem dX7_sets_31 : decode cX7_sets 31 = .ok (.iload_n 2, 1) := by decide +kernel
theorem dX7_sets_32 : decode cX7_sets 32 = .ok (.getstatic 143, 3) := by decide +kernel
theorem dX7_sets_35 : decode cX7_sets 35 = .ok (.iload_n 1, 1) := by decide +kernel
theorem dX7_sets_36 : decode cX7_sets 36 = .ok (.iaload, 1) := by decide +kernel
theorem dX7_sets_37 : decode cX7_sets 37 = .ok (.if_icmp .le 5, 3) := by decide +kernel
theorem dX7_sets_40 : decode cX7_sets 40 = .ok (.iconst (-1), 1) := by decide +kernel
theorem dX7_sets_41 : decode cX7_sets 41 = .ok (.ireturn, 1) := by decide +kernel
theorem dX7_sets_42 : decode cX7_sets 42 = .ok (.aload_n 0, 1) := by decide +kernel
theorem dX7_sets_43 : decode cX7_sets 43 = .ok (.bipush 34, 2) := by decide +kernel
theorem dX7_sets_45 : decode cX7_sets 45 = .ok (.iload_n 1, 1) := by decide +kernel
theorem dX7_sets_46 : decode cX7_sets 46 = .ok (.iadd, 1) := by decide +kernel
theorem dX7_sets_47 : decode cX7_sets 47 = .ok (.iload_n 2, 1) := by decide +kernel
theorem dX7_sets_48 : decode cX7_sets 48 = .ok (.invokevirtual 133, 3) := by decide +kernel
theorem dX7_sets_51 : decode cX7_sets 51 = .ok (.ireturn, 1) := by decide +kernel
theorem dX7_undo_0 : decode cX7_undo 0 = .ok (.aload_n 0, 1) := by decide +kernel
theorem dX7_undo_1 : decode cX7_undo 1 = .ok (.getfield 28, 3) := by decide +kernel
theorem dX7_undo_4 : decode cX7_undo 4 = .ok (.invokevirtual 146, 3) := by decide +kernel
theorem dX7_undo_7 : decode cX7_undo 7 = .ok (.ifCond .ne 6, 3) := by decide +kernel
theorem dX7_undo_10 : decode cX7_undo 10 = .ok (.bipush (-2), 2) := by decide +kernel
theorem dX7_undo_12 : decode cX7_undo 12 = .ok (.ireturn, 1) := by decide +kernel
theorem dX7_undo_13 : decode cX7_undo 13 = .ok (.aload_n 0, 1) := by decide +kernel
theorem dX7_undo_14 : decode cX7_undo 14 = .ok (.aload_n 0, 1) := by decide +kernel
theorem dX7_undo_15 : decode cX7_undo 15 = .ok (.getfield 28, 3) := by decide +kernel
theorem dX7_undo_18 : decode cX7_undo 18 = .ok (.invokevirtual 149, 3) := by decide +kernel
theorem dX7_undo_21 : decode cX7_undo 21 = .ok (.invokevirtual 152, 3) := by decide +kernel
theorem dX7_undo_24 : decode cX7_undo 24 = .ok (.aload_n 0, 1) := by decide +kernel
theorem dX7_undo_25 : decode cX7_undo 25 = .ok (.getfield 28, 3) := by decide +kernel
theorem dX7_undo_28 : decode cX7_undo 28 = .ok (.invokevirtual 146, 3) := by decide +kernel
theorem dX7_undo_31 : decode cX7_undo 31 = .ok (.ireturn, 1) := by decide +kernel
theorem dX7_page_0 : decode cX7_page 0 = .ok (.iload_n 1, 1) := by decide +kernel
theorem dX7_page_1 : decode cX7_page 1 = .ok (.ifCond .lt 8, 3) := by decide +kernel
theorem dX7_page_4 : decode cX7_page 4 = .ok (.iload_n 1, 1) := by decide +kernel
theorem dX7_page_5 : decode cX7_page 5 = .ok (.iconst 5, 1) := by decide +kernel
theorem dX7_page_6 : decode cX7_page 6 = .ok (.if_icmp .le 5, 3) := by decide +kernel
theorem dX7_page_9 : decode cX7_page 9 = .ok (.iconst (-1), 1) := by decide +kernel
theorem dX7_page_10 : decode cX7_page 10 = .ok (.ireturn, 1) := by decide +kernel
theorem dX7_page_11 : decode cX7_page 11 = .ok (.aload_n 0, 1) := by decide +kernel
theorem dX7_page_12 : decode cX7_page 12 = .ok (.invokevirtual 155, 3) := by decide +kernel
theorem dX7_page_15 : decode cX7_page 15 = .ok (.aload_n 0, 1) := by decide +kernel
theorem dX7_page_16 : decode cX7_page 16 = .ok (.getfield 58, 3) := by decide +kernel
theorem dX7_page_19 : decode cX7_page 19 = .ok (.invokevirtual 158, 3) := by decide +kernel
theorem dX7_page_22 : decode cX7_page 22 = .ok (.ifCond .ne 6, 3) := by decide +kernel
theorem dX7_page_25 : decode cX7_page 25 = .ok (.bipush (-9), 2) := by decide +kernel
theorem dX7_page_27 : decode cX7_page 27 = .ok (.ireturn, 1) := by decide +kernel
theorem dX7_page_28 : decode cX7_page 28 = .ok (.iload_n 1, 1) := by decide +kernel
theorem dX7_page_29 : decode cX7_page 29 = .ok (.tableswitch 83 0 4 #[35, 43, 51, 63, 75], 35) := by decide +kernel
theorem dX7_page_64 : decode cX7_page 64 = .ok (.aload_n 0, 1) := by decide +kernel
theorem dX7_page_65 : decode cX7_page 65 = .ok (.getfield 58, 3) := by decide +kernel
theorem dX7_page_68 : decode cX7_page 68 = .ok (.invokevirtual 162, 3) := by decide +kernel
theorem dX7_page_71 : decode cX7_page 71 = .ok (.ireturn, 1) := by decide +kernel
theorem dX7_page_72 : decode cX7_page 72 = .ok (.aload_n 0, 1) := by decide +kernel
theorem dX7_page_73 : decode cX7_page 73 = .ok (.getfield 58, 3) := by decide +kernel
theorem dX7_page_76 : decode cX7_page 76 = .ok (.invokevirtual 165, 3) := by decide +kernel
theorem dX7_page_79 : decode cX7_page 79 = .ok (.ireturn, 1) := by decide +kernel
theorem dX7_page_80 : decode cX7_page 80 = .ok (.aload_n 0, 1) := by decide +kernel
theorem dX7_page_81 : decode cX7_page 81 = .ok (.getfield 58, 3) := by decide +kernel
theorem dX7_page_84 : decode cX7_page 84 = .ok (.aload_n 0, 1) := by decide +kernel
theorem dX7_page_85 : decode cX7_page 85 = .ok (.getfield 44, 3) := by decide +kernel
theorem dX7_page_88 : decode cX7_page 88 = .ok (.invokevirtual 168, 3) := by decide +kernel
theorem dX7_page_91 : decode cX7_page 91 = .ok (.ireturn, 1) := by decide +kernel
theorem dX7_page_92 : decode cX7_page 92 = .ok (.aload_n 0, 1) := by decide +kernel
theorem dX7_page_93 : decode cX7_page 93 = .ok (.getfield 58, 3) := by decide +kernel
theorem dX7_page_96 : decode cX7_page 96 = .ok (.aload_n 0, 1) := by decide +kernel
theorem dX7_page_97 : decode cX7_page 97 = .ok (.getfield 44, 3) := by decide +kernel
theorem dX7_page_100 : decode cX7_page 100 = .ok (.invokevirtual 172, 3) := by decide +kernel
theorem dX7_page_103 : decode cX7_page 103 = .ok (.ireturn, 1) := by decide +kernel
theorem dX7_page_104 : decode cX7_page 104 = .ok (.aload_n 0, 1) := by decide +kernel
theorem dX7_page_105 : decode cX7_page 105 = .ok (.getfield 58, 3) := by decide +kernel
theorem dX7_page_108 : decode cX7_page 108 = .ok (.invokevirtual 175, 3) := by decide +kernel
theorem dX7_page_111 : decode cX7_page 111 = .ok (.ireturn, 1) := by decide +kernel
theorem dX7_page_112 : decode cX7_page 112 = .ok (.aload_n 0, 1) := by decide +kernel
theorem dX7_page_113 : decode cX7_page 113 = .ok (.getfield 58, 3) := by decide +kernel
theorem dX7_page_116 : decode cX7_page 116 = .ok (.invokevirtual 178, 3) := by decide +kernel
theorem dX7_page_119 : decode cX7_page 119 = .ok (.ireturn, 1) := by decide +kernel
theorem dX7_line_0 : decode cX7_line 0 = .ok (.iload_n 1, 1) := by decide +kernel
theorem dX7_line_1 : decode cX7_line 1 = .ok (.ifCond .lt 13, 3) := by decide +kernel
theorem dX7_line_4 : decode cX7_line 4 = .ok (.iload_n 2, 1) := by decide +kernel
theorem dX7_line_5 : decode cX7_line 5 = .ok (.ifCond .lt 9, 3) := by decide +kernel
theorem dX7_line_8 : decode cX7_line 8 = .ok (.iload_n 2, 1) := by decide +kernel
theorem dX7_line_9 : decode cX7_line 9 = .ok (.bipush 6, 2) := by decide +kernel
theorem dX7_line_11 : decode cX7_line 11 = .ok (.if_icmp .le 5, 3) := by decide +kernel
theorem dX7_line_14 : decode cX7_line 14 = .ok (.iconst (-1), 1) := by decide +kernel
theorem dX7_line_15 : decode cX7_line 15 = .ok (.ireturn, 1) := by decide +kernel
theorem dX7_line_16 : decode cX7_line 16 = .ok (.aload_n 0, 1) := by decide +kernel
theorem dX7_line_17 : decode cX7_line 17 = .ok (.invokevirtual 155, 3) := by decide +kernel
theorem dX7_line_20 : decode cX7_line 20 = .ok (.aload_n 0, 1) := by decide +kernel
theorem dX7_line_21 : decode cX7_line 21 = .ok (.getfield 58, 3) := by decide +kernel
theorem dX7_line_24 : decode cX7_line 24 = .ok (.invokevirtual 158, 3) := by decide +kernel
theorem dX7_line_27 : decode cX7_line 27 = .ok (.ifCond .ne 6, 3) := by decide +kernel
theorem dX7_line_30 : decode cX7_line 30 = .ok (.bipush (-9), 2) := by decide +kernel
theorem dX7_line_32 : decode cX7_line 32 = .ok (.ireturn, 1) := by decide +kernel
theorem dX7_line_33 : decode cX7_line 33 = .ok (.iload_n 1, 1) := by decide +kernel
theorem dX7_line_34 : decode cX7_line 34 = .ok (.aload_n 0, 1) := by decide +kernel
theorem dX7_line_35 : decode cX7_line 35 = .ok (.getfield 58, 3) := by decide +kernel
theorem dX7_line_38 : decode cX7_line 38 = .ok (.invokevirtual 165, 3) := by decide +kernel
theorem dX7_line_41 : decode cX7_line 41 = .ok (.if_icmp .lt 5, 3) := by decide +kernel
theorem dX7_line_44 : decode cX7_line 44 = .ok (.iconst (-1), 1) := by decide +kernel
theorem dX7_line_45 : decode cX7_line 45 = .ok (.ireturn, 1) := by decide +kernel
theorem dX7_line_46 : decode cX7_line 46 = .ok (.aload_n 0, 1) := by decide +kernel
theorem dX7_line_47 : decode cX7_line 47 = .ok (.getfield 58, 3) := by decide +kernel
theorem dX7_line_50 : decode cX7_line 50 = .ok (.iload_n 1, 1) := by decide +kernel
theorem dX7_line_51 : decode cX7_line 51 = .ok (.invokevirtual 181, 3) := by decide +kernel
theorem dX7_line_54 : decode cX7_line 54 = .ok (.istore_n 3, 1) := by decide +kernel
theorem dX7_line_55 : decode cX7_line 55 = .ok (.aload_n 0, 1) := by decide +kernel
theorem dX7_line_56 : decode cX7_line 56 = .ok (.getfield 58, 3) := by decide +kernel
theorem dX7_line_59 : decode cX7_line 59 = .ok (.iload_n 1, 1) := by decide +kernel
theorem dX7_line_60 : decode cX7_line 60 = .ok (.invokevirtual 184, 3) := by decide +kernel
theorem dX7_line_63 : decode cX7_line 63 = .ok (.istore 4, 2) := by decide +kernel
theorem dX7_line_65 : decode cX7_line 65 = .ok (.iload_n 2, 1) := by decide +kernel
theorem dX7_line_66 : decode cX7_line 66 = .ok (.tableswitch 95 0 5 #[38, 41, 52, 62, 73, 84], 38) := by decide +kernel
theorem dX7_line_104 : decode cX7_line 104 = .ok (.iload 4, 2) := by decide +kernel
theorem dX7_line_106 : decode cX7_line 106 = .ok (.ireturn, 1) := by decide +kernel
theorem dX7_line_107 : decode cX7_line 107 = .ok (.aload_n 0, 1) := by decide +kernel
theorem dX7_line_108 : decode cX7_line 108 = .ok (.getfield 44, 3) := by decide +kernel
theorem dX7_line_111 : decode cX7_line 111 = .ok (.iload_n 3, 1) := by decide +kernel
theorem dX7_line_112 : decode cX7_line 112 = .ok (.iload 4, 2) := by decide +kernel
theorem dX7_line_114 : decode cX7_line 114 = .ok (.invokevirtual 187, 3) := by decide +kernel
theorem dX7_line_117 : decode cX7_line 117 = .ok (.ireturn, 1) := by decide +kernel
theorem dX7_line_118 : decode cX7_line 118 = .ok (.aload_n 0, 1) := by decide +kernel
theorem dX7_line_119 : decode cX7_line 119 = .ok (.getfield 44, 3) := by decide +kernel
theorem dX7_line_122 : decode cX7_line 122 = .ok (.iload 4, 2) := by decide +kernel
theorem dX7_line_124 : decode cX7_line 124 = .ok (.invokevirtual 190, 3) := by decide +kernel
theorem dX7_line_127 : decode cX7_line 127 = .ok (.ireturn, 1) := by decide +kernel
theorem dX7_line_128 : decode cX7_line 128 = .ok (.aload_n 0, 1) := by decide +kernel
theorem dX7_line_129 : decode cX7_line 129 = .ok (.getfield 44, 3) := by decide +kernel
theorem dX7_line_132 : decode cX7_line 132 = .ok (.iload_n 3, 1) := by decide +kernel
theorem dX7_line_133 : decode cX7_line 133 = .ok (.iload 4, 2) := by decide +kernel
theorem dX7_line_135 : decode cX7_line 135 = .ok (.invokevirtual 193, 3) := by decide +kernel
theorem dX7_line_138 : decode cX7_line 138 = .ok (.ireturn, 1) := by decide +kernel
theorem dX7_line_139 : decode cX7_line 139 = .ok (.aload_n 0, 1) := by decide +kernel
theorem dX7_line_140 : decode cX7_line 140 = .ok (.getfield 44, 3) := by decide +kernel
theorem dX7_line_143 : decode cX7_line 143 = .ok (.iload_n 3, 1) := by decide +kernel
theorem dX7_line_144 : decode cX7_line 144 = .ok (.iload 4, 2) := by decide +kernel
theorem dX7_line_146 : decode cX7_line 146 = .ok (.invokevirtual 196, 3) := by decide +kernel
theorem dX7_line_149 : decode cX7_line 149 = .ok (.ireturn, 1) := by decide +kernel
theorem dX7_line_150 : decode cX7_line 150 = .ok (.aload_n 0, 1) := by decide +kernel
theorem dX7_line_151 : decode cX7_line 151 = .ok (.getfield 44, 3) := by decide +kernel
theorem dX7_line_154 : decode cX7_line 154 = .ok (.iload_n 3, 1) := by decide +kernel
theorem dX7_line_155 : decode cX7_line 155 = .ok (.iload 4, 2) := by decide +kernel
theorem dX7_line_157 : decode cX7_line 157 = .ok (.invokevirtual 198, 3) := by decide +kernel
theorem dX7_line_160 : decode cX7_line 160 = .ok (.ireturn, 1) := by decide +kernel
theorem dX7_line_161 : decode cX7_line 161 = .ok (.aload_n 0, 1) := by decide +kernel
theorem dX7_line_162 : decode cX7_line 162 = .ok (.getfield 44, 3) := by decide +kernel
theorem dX7_line_165 : decode cX7_line 165 = .ok (.iload_n 3, 1) := by decide +kernel
theorem dX7_line_166 : decode cX7_line 166 = .ok (.iload 4, 2) := by decide +kernel
theorem dX7_line_168 : decode cX7_line 168 = .ok (.invokevirtual 187, 3) := by decide +kernel
theorem dX7_line_171 : decode cX7_line 171 = .ok (.aload_n 0, 1) := by decide +kernel
theorem dX7_line_172 : decode cX7_line 172 = .ok (.getfield 44, 3) := by decide +kernel
theorem dX7_line_175 : decode cX7_line 175 = .ok (.iload_n 3, 1) := by decide +kernel
theorem dX7_line_176 : decode cX7_line 176 = .ok (.iload 4, 2) := by decide +kernel
theorem dX7_line_178 : decode cX7_line 178 = .ok (.invokevirtual 201, 3) := by decide +kernel
theorem dX7_line_181 : decode cX7_line 181 = .ok (.iadd, 1) := by decide +kernel
theorem dX7_line_182 : decode cX7_line 182 = .ok (.ireturn, 1) := by decide +kernel
theorem dX7_blank_0 : decode cX7_blank 0 = .ok (.iload_n 1, 1) := by decide +kernel
theorem dX7_blank_1 : decode cX7_blank 1 = .ok (.ifCond .lt 16, 3) := by decide +kernel
theorem dX7_blank_4 : decode cX7_blank 4 = .ok (.iload_n 2, 1) := by decide +kernel
theorem dX7_blank_5 : decode cX7_blank 5 = .ok (.ifCond .lt 12, 3) := by decide +kernel
theorem dX7_blank_8 : decode cX7_blank 8 = .ok (.iload_n 3, 1) := by decide +kernel
theorem dX7_blank_9 : decode cX7_blank 9 = .ok (.ifCond .lt 8, 3) := by decide +kernel
theorem dX7_blank_12 : decode cX7_blank 12 = .ok (.iload_n 3, 1) := by decide +kernel
theorem dX7_blank_13 : decode cX7_blank 13 = .ok (.iconst 3, 1) := by decide +kernel
theorem dX7_blank_14 : decode cX7_blank 14 = .ok (.if_icmp .le 5, 3) := by decide +kernel
theorem dX7_blank_17 : decode cX7_blank 17 = .ok (.iconst (-1), 1) := by decide +kernel
theorem dX7_blank_18 : decode cX7_blank 18 = .ok (.ireturn, 1) := by decide +kernel
theorem dX7_blank_19 : decode cX7_blank 19 = .ok (.aload_n 0, 1) := by decide +kernel
theorem dX7_blank_20 : decode cX7_blank 20 = .ok (.invokevirtual 155, 3) := by decide +kernel
theorem dX7_blank_23 : decode cX7_blank 23 = .ok (.aload_n 0, 1) := by decide +kernel
theorem dX7_blank_24 : decode cX7_blank 24 = .ok (.getfield 58, 3) := by decide +kernel
theorem dX7_blank_27 : decode cX7_blank 27 = .ok (.invokevirtual 158, 3) := by decide +kernel
theorem dX7_blank_30 : decode cX7_blank 30 = .ok (.ifCond .ne 6, 3) := by decide +kernel
theorem dX7_blank_33 : decode cX7_blank 33 = .ok (.bipush (-9), 2) := by decide +kernel
theorem dX7_blank_35 : decode cX7_blank 35 = .ok (.ireturn, 1) := by decide +kernel
theorem dX7_blank_36 : decode cX7_blank 36 = .ok (.iload_n 1, 1) := by decide +kernel
theorem dX7_blank_37 : decode cX7_blank 37 = .ok (.aload_n 0, 1) := by decide +kernel
theorem dX7_blank_38 : decode cX7_blank 38 = .ok (.getfield 58, 3) := by decide +kernel
theorem dX7_blank_41 : decode cX7_blank 41 = .ok (.invokevirtual 165, 3) := by decide +kernel
theorem dX7_blank_44 : decode cX7_blank 44 = .ok (.if_icmp .lt 5, 3) := by decide +kernel
theorem dX7_blank_47 : decode cX7_blank 47 = .ok (.iconst (-1), 1) := by decide +kernel
theorem dX7_blank_48 : decode cX7_blank 48 = .ok (.ireturn, 1) := by decide +kernel
theorem dX7_blank_49 : decode cX7_blank 49 = .ok (.iload_n 2, 1) := by decide +kernel
theorem dX7_blank_50 : decode cX7_blank 50 = .ok (.aload_n 0, 1) := by decide +kernel
theorem dX7_blank_51 : decode cX7_blank 51 = .ok (.getfield 58, 3) := by decide +kernel
theorem dX7_blank_54 : decode cX7_blank 54 = .ok (.iload_n 1, 1) := by decide +kernel
theorem dX7_blank_55 : decode cX7_blank 55 = .ok (.invokevirtual 204, 3) := by decide +kernel
theorem dX7_blank_58 : decode cX7_blank 58 = .ok (.if_icmp .lt 6, 3) := by decide +kernel
theorem dX7_blank_61 : decode cX7_blank 61 = .ok (.bipush (-9), 2) := by decide +kernel
theorem dX7_blank_63 : decode cX7_blank 63 = .ok (.ireturn, 1) := by decide +kernel
theorem dX7_blank_64 : decode cX7_blank 64 = .ok (.aload_n 0, 1) := by decide +kernel
theorem dX7_blank_65 : decode cX7_blank 65 = .ok (.getfield 58, 3) := by decide +kernel
theorem dX7_blank_68 : decode cX7_blank 68 = .ok (.iload_n 1, 1) := by decide +kernel
theorem dX7_blank_69 : decode cX7_blank 69 = .ok (.iload_n 2, 1) := by decide +kernel
theorem dX7_blank_70 : decode cX7_blank 70 = .ok (.iload_n 3, 1) := by decide +kernel
theorem dX7_blank_71 : decode cX7_blank 71 = .ok (.invokevirtual 207, 3) := by decide +kernel
theorem dX7_blank_74 : decode cX7_blank 74 = .ok (.ireturn, 1) := by decide +kernel
theorem dX7_leftOf_0 : decode cX7_leftOf 0 = .ok (.iload_n 1, 1) := by decide +kernel
theorem dX7_leftOf_1 : decode cX7_leftOf 1 = .ok (.iconst (-1), 1) := by decide +kernel
theorem dX7_leftOf_2 : decode cX7_leftOf 2 = .ok (.if_icmp .lt 16, 3) := by decide +kernel
theorem dX7_leftOf_5 : decode cX7_leftOf 5 = .ok (.iload_n 2, 1) := by decide +kernel
theorem dX7_leftOf_6 : decode cX7_leftOf 6 = .ok (.iload_n 1, 1) := by decide +kernel
theorem dX7_leftOf_7 : decode cX7_leftOf 7 = .ok (.if_icmp .le 11, 3) := by decide +kernel
theorem dX7_leftOf_10 : decode cX7_leftOf 10 = .ok (.aload_n 0, 1) := by decide +kernel
theorem dX7_leftOf_11 : decode cX7_leftOf 11 = .ok (.iload_n 2, 1) := by decide +kernel
theorem dX7_leftOf_12 : decode cX7_leftOf 12 = .ok (.invokevirtual 118, 3) := by decide +kernel
theorem dX7_leftOf_15 : decode cX7_leftOf 15 = .ok (.ifCond .ne 6, 3) := by decide +kernel
theorem dX7_leftOf_18 : decode cX7_leftOf 18 = .ok (.ldc 211, 2) := by decide +kernel
theorem dX7_leftOf_20 : decode cX7_leftOf 20 = .ok (.ireturn, 1) := by decide +kernel
theorem dX7_leftOf_21 : decode cX7_leftOf 21 = .ok (.aload_n 0, 1) := by decide +kernel
theorem dX7_leftOf_22 : decode cX7_leftOf 22 = .ok (.invokevirtual 155, 3) := by decide +kernel
theorem dX7_leftOf_25 : decode cX7_leftOf 25 = .ok (.aload_n 0, 1) := by decide +kernel
theorem dX7_leftOf_26 : decode cX7_leftOf 26 = .ok (.getfield 44, 3) := by decide +kernel
theorem dX7_leftOf_29 : decode cX7_leftOf 29 = .ok (.iload_n 1, 1) := by decide +kernel
theorem dX7_leftOf_30 : decode cX7_leftOf 30 = .ok (.iload_n 2, 1) := by decide +kernel
theorem dX7_leftOf_31 : decode cX7_leftOf 31 = .ok (.invokevirtual 193, 3) := by decide +kernel
theorem dX7_leftOf_34 : decode cX7_leftOf 34 = .ok (.ireturn, 1) := by decide +kernel
theorem dX7_puts_0 : decode cX7_puts 0 = .ok (.aload_n 0, 1) := by decide +kernel
theorem dX7_puts_1 : decode cX7_puts 1 = .ok (.iload_n 1, 1) := by decide +kernel
theorem dX7_puts_2 : decode cX7_puts 2 = .ok (.invokevirtual 118, 3) := by decide +kernel
theorem dX7_puts_5 : decode cX7_puts 5 = .ok (.ifCond .eq 11, 3) := by decide +kernel
theorem dX7_puts_8 : decode cX7_puts 8 = .ok (.iload_n 1, 1) := by decide +kernel
theorem dX7_puts_9 : decode cX7_puts 9 = .ok (.aload_n 0, 1) := by decide +kernel
theorem dX7_puts_10 : decode cX7_puts 10 = .ok (.invokevirtual 212, 3) := by decide +kernel
theorem dX7_puts_13 : decode cX7_puts 13 = .ok (.if_icmp .gt 5, 3) := by decide +kernel
theorem dX7_puts_16 : decode cX7_puts 16 = .ok (.iconst (-1), 1) := by decide +kernel
theorem dX7_puts_17 : decode cX7_puts 17 = .ok (.ireturn, 1) := by decide +kernel
theorem dX7_puts_18 : decode cX7_puts 18 = .ok (.aload_n 0, 1) := by decide +kernel
theorem dX7_puts_19 : decode cX7_puts 19 = .ok (.getfield 32, 3) := by decide +kernel
theorem dX7_puts_22 : decode cX7_puts 22 = .ok (.iload_n 1, 1) := by decide +kernel
theorem dX7_puts_23 : decode cX7_puts 23 = .ok (.invokevirtual 76, 3) := by decide +kernel
theorem dX7_puts_26 : decode cX7_puts 26 = .ok (.pop, 1) := by decide +kernel
theorem dX7_puts_27 : decode cX7_puts 27 = .ok (.aload_n 0, 1) := by decide +kernel
theorem dX7_puts_28 : decode cX7_puts 28 = .ok (.getfield 32, 3) := by decide +kernel
theorem dX7_puts_31 : decode cX7_puts 31 = .ok (.invokevirtual 80, 3) := by decide +kernel
theorem dX7_puts_34 : decode cX7_puts 34 = .ok (.ireturn, 1) := by decide +kernel
theorem dX7_takes_0 : decode cX7_takes 0 = .ok (.aload_n 0, 1) := by decide +kernel
theorem dX7_takes_1 : decode cX7_takes 1 = .ok (.getfield 32, 3) := by decide +kernel
theorem dX7_takes_4 : decode cX7_takes 4 = .ok (.invokevirtual 80, 3) := by decide +kernel
theorem dX7_takes_7 : decode cX7_takes 7 = .ok (.ifCond .ne 6, 3) := by decide +kernel
theorem dX7_takes_10 : decode cX7_takes 10 = .ok (.bipush (-2), 2) := by decide +kernel
theorem dX7_takes_12 : decode cX7_takes 12 = .ok (.ireturn, 1) := by decide +kernel
theorem dX7_takes_13 : decode cX7_takes 13 = .ok (.aload_n 0, 1) := by decide +kernel
theorem dX7_takes_14 : decode cX7_takes 14 = .ok (.invokevirtual 212, 3) := by decide +kernel
theorem dX7_takes_17 : decode cX7_takes 17 = .ok (.istore_n 1, 1) := by decide +kernel
theorem dX7_takes_18 : decode cX7_takes 18 = .ok (.aload_n 0, 1) := by decide +kernel
theorem dX7_takes_19 : decode cX7_takes 19 = .ok (.getfield 32, 3) := by decide +kernel
theorem dX7_takes_22 : decode cX7_takes 22 = .ok (.invokevirtual 215, 3) := by decide +kernel
theorem dX7_takes_25 : decode cX7_takes 25 = .ok (.iload_n 1, 1) := by decide +kernel
theorem dX7_takes_26 : decode cX7_takes 26 = .ok (.ireturn, 1) := by decide +kernel
theorem dX7_judged_0 : decode cX7_judged 0 = .ok (.iload_n 1, 1) := by decide +kernel
theorem dX7_judged_1 : decode cX7_judged 1 = .ok (.ifCond .lt 8, 3) := by decide +kernel
theorem dX7_judged_4 : decode cX7_judged 4 = .ok (.iload_n 1, 1) := by decide +kernel
theorem dX7_judged_5 : decode cX7_judged 5 = .ok (.iconst 2, 1) := by decide +kernel
theorem dX7_judged_6 : decode cX7_judged 6 = .ok (.if_icmp .le 5, 3) := by decide +kernel
theorem dX7_judged_9 : decode cX7_judged 9 = .ok (.iconst (-1), 1) := by decide +kernel
theorem dX7_judged_10 : decode cX7_judged 10 = .ok (.ireturn, 1) := by decide +kernel
theorem dX7_judged_11 : decode cX7_judged 11 = .ok (.aload_n 0, 1) := by decide +kernel
theorem dX7_judged_12 : decode cX7_judged 12 = .ok (.invokevirtual 155, 3) := by decide +kernel
theorem dX7_judged_15 : decode cX7_judged 15 = .ok (.aload_n 0, 1) := by decide +kernel
theorem dX7_judged_16 : decode cX7_judged 16 = .ok (.invokevirtual 218, 3) := by decide +kernel
theorem dX7_judged_19 : decode cX7_judged 19 = .ok (.istore_n 2, 1) := by decide +kernel
theorem dX7_judged_20 : decode cX7_judged 20 = .ok (.iload_n 2, 1) := by decide +kernel
theorem dX7_judged_21 : decode cX7_judged 21 = .ok (.ifCond .ge 7, 3) := by decide +kernel
theorem dX7_judged_24 : decode cX7_judged 24 = .ok (.iconst 1, 1) := by decide +kernel
theorem dX7_judged_25 : decode cX7_judged 25 = .ok (.goto 4, 3) := by decide +kernel
theorem dX7_judged_28 : decode cX7_judged 28 = .ok (.iconst 0, 1) := by decide +kernel
theorem dX7_judged_29 : decode cX7_judged 29 = .ok (.istore_n 3, 1) := by decide +kernel
theorem dX7_judged_30 : decode cX7_judged 30 = .ok (.iload_n 1, 1) := by decide +kernel
theorem dX7_judged_31 : decode cX7_judged 31 = .ok (.ifCond .ne 28, 3) := by decide +kernel
theorem dX7_judged_34 : decode cX7_judged 34 = .ok (.iload_n 3, 1) := by decide +kernel
theorem dX7_judged_35 : decode cX7_judged 35 = .ok (.ifCond .eq 7, 3) := by decide +kernel
theorem dX7_judged_38 : decode cX7_judged 38 = .ok (.iconst 0, 1) := by decide +kernel
theorem dX7_judged_39 : decode cX7_judged 39 = .ok (.goto 19, 3) := by decide +kernel
theorem dX7_judged_42 : decode cX7_judged 42 = .ok (.iload_n 2, 1) := by decide +kernel
theorem dX7_judged_43 : decode cX7_judged 43 = .ok (.aload_n 0, 1) := by decide +kernel
theorem dX7_judged_44 : decode cX7_judged 44 = .ok (.getfield 32, 3) := by decide +kernel
theorem dX7_judged_47 : decode cX7_judged 47 = .ok (.invokevirtual 80, 3) := by decide +kernel
theorem dX7_judged_50 : decode cX7_judged 50 = .ok (.if_icmp .ge 7, 3) := by decide +kernel
theorem dX7_judged_53 : decode cX7_judged 53 = .ok (.iconst 1, 1) := by decide +kernel
theorem dX7_judged_54 : decode cX7_judged 54 = .ok (.goto 4, 3) := by decide +kernel
theorem dX7_judged_57 : decode cX7_judged 57 = .ok (.iconst 2, 1) := by decide +kernel
theorem dX7_judged_58 : decode cX7_judged 58 = .ok (.ireturn, 1) := by decide +kernel
theorem dX7_judged_59 : decode cX7_judged 59 = .ok (.iload_n 1, 1) := by decide +kernel
theorem dX7_judged_60 : decode cX7_judged 60 = .ok (.iconst 1, 1) := by decide +kernel
theorem dX7_judged_61 : decode cX7_judged 61 = .ok (.if_icmp .ne 14, 3) := by decide +kernel
theorem dX7_judged_64 : decode cX7_judged 64 = .ok (.iload_n 3, 1) := by decide +kernel
theorem dX7_judged_65 : decode cX7_judged 65 = .ok (.ifCond .eq 8, 3) := by decide +kernel
theorem dX7_judged_68 : decode cX7_judged 68 = .ok (.bipush (-9), 2) := by decide +kernel
theorem dX7_judged_70 : decode cX7_judged 70 = .ok (.goto 4, 3) := by decide +kernel
theorem dX7_judged_73 : decode cX7_judged 73 = .ok (.iload_n 2, 1) := by decide +kernel
theorem dX7_judged_74 : decode cX7_judged 74 = .ok (.ireturn, 1) := by decide +kernel
theorem dX7_judged_75 : decode cX7_judged 75 = .ok (.iload_n 3, 1) := by decide +kernel
theorem dX7_judged_76 : decode cX7_judged 76 = .ok (.ifCond .eq 18, 3) := by decide +kernel
theorem dX7_judged_79 : decode cX7_judged 79 = .ok (.aload_n 0, 1) := by decide +kernel
theorem dX7_judged_80 : decode cX7_judged 80 = .ok (.invokevirtual 221, 3) := by decide +kernel
theorem dX7_judged_83 : decode cX7_judged 83 = .ok (.aload_n 0, 1) := by decide +kernel
theorem dX7_judged_84 : decode cX7_judged 84 = .ok (.getfield 58, 3) := by decide +kernel
theorem dX7_judged_87 : decode cX7_judged 87 = .ok (.invokevirtual 162, 3) := by decide +kernel
theorem dX7_judged_90 : decode cX7_judged 90 = .ok (.isub, 1) := by decide +kernel
theorem dX7_judged_91 : decode cX7_judged 91 = .ok (.goto 5, 3) := by decide +kernel
theorem dX7_judged_94 : decode cX7_judged 94 = .ok (.bipush (-9), 2) := by decide +kernel
theorem dX7_judged_96 : decode cX7_judged 96 = .ok (.ireturn, 1) := by decide +kernel
theorem dX7_alike_0 : decode cX7_alike 0 = .ok (.iload_n 1, 1) := by decide +kernel
theorem dX7_alike_1 : decode cX7_alike 1 = .ok (.ifCond .lt 8, 3) := by decide +kernel
theorem dX7_alike_4 : decode cX7_alike 4 = .ok (.iload_n 1, 1) := by decide +kernel
theorem dX7_alike_5 : decode cX7_alike 5 = .ok (.iconst 2, 1) := by decide +kernel
theorem dX7_alike_6 : decode cX7_alike 6 = .ok (.if_icmp .le 5, 3) := by decide +kernel
theorem dX7_alike_9 : decode cX7_alike 9 = .ok (.iconst (-1), 1) := by decide +kernel
theorem dX7_alike_10 : decode cX7_alike 10 = .ok (.ireturn, 1) := by decide +kernel
theorem dX7_alike_11 : decode cX7_alike 11 = .ok (.aload_n 0, 1) := by decide +kernel
theorem dX7_alike_12 : decode cX7_alike 12 = .ok (.invokevirtual 155, 3) := by decide +kernel
theorem dX7_alike_15 : decode cX7_alike 15 = .ok (.aload_n 0, 1) := by decide +kernel
theorem dX7_alike_16 : decode cX7_alike 16 = .ok (.getfield 58, 3) := by decide +kernel
theorem dX7_alike_19 : decode cX7_alike 19 = .ok (.invokevirtual 158, 3) := by decide +kernel
theorem dX7_alike_22 : decode cX7_alike 22 = .ok (.ifCond .ne 6, 3) := by decide +kernel
theorem dX7_alike_25 : decode cX7_alike 25 = .ok (.bipush (-9), 2) := by decide +kernel
theorem dX7_alike_27 : decode cX7_alike 27 = .ok (.ireturn, 1) := by decide +kernel
theorem dX7_alike_28 : decode cX7_alike 28 = .ok (.aload_n 0, 1) := by decide +kernel
theorem dX7_alike_29 : decode cX7_alike 29 = .ok (.invokevirtual 224, 3) := by decide +kernel
theorem dX7_alike_32 : decode cX7_alike 32 = .ok (.aload_n 0, 1) := by decide +kernel
theorem dX7_alike_33 : decode cX7_alike 33 = .ok (.getfield 65, 3) := by decide +kernel
theorem dX7_alike_36 : decode cX7_alike 36 = .ok (.aload_n 0, 1) := by decide +kernel
theorem dX7_alike_37 : decode cX7_alike 37 = .ok (.getfield 28, 3) := by decide +kernel
theorem dX7_alike_40 : decode cX7_alike 40 = .ok (.bipush 35, 2) := by decide +kernel
theorem dX7_alike_42 : decode cX7_alike 42 = .ok (.invokevirtual 227, 3) := by decide +kernel
theorem dX7_alike_45 : decode cX7_alike 45 = .ok (.invokevirtual 230, 3) := by decide +kernel
theorem dX7_alike_48 : decode cX7_alike 48 = .ok (.aload_n 0, 1) := by decide +kernel
theorem dX7_alike_49 : decode cX7_alike 49 = .ok (.getfield 65, 3) := by decide +kernel
theorem dX7_alike_52 : decode cX7_alike 52 = .ok (.iload_n 1, 1) := by decide +kernel
theorem dX7_alike_53 : decode cX7_alike 53 = .ok (.invokevirtual 233, 3) := by decide +kernel
theorem dX7_alike_56 : decode cX7_alike 56 = .ok (.ireturn, 1) := by decide +kernel
theorem dX7_sees_0 : decode cX7_sees 0 = .ok (.iload_n 1, 1) := by decide +kernel
theorem dX7_sees_1 : decode cX7_sees 1 = .ok (.ifCond .lt 23, 3) := by decide +kernel
theorem dX7_sees_4 : decode cX7_sees 4 = .ok (.iload_n 1, 1) := by decide +kernel
theorem dX7_sees_5 : decode cX7_sees 5 = .ok (.aload_n 0, 1) := by decide +kernel
theorem dX7_sees_6 : decode cX7_sees 6 = .ok (.getfield 21, 3) := by decide +kernel
theorem dX7_sees_9 : decode cX7_sees 9 = .ok (.invokevirtual 98, 3) := by decide +kernel
theorem dX7_sees_12 : decode cX7_sees 12 = .ok (.if_icmp .ge 12, 3) := by decide +kernel
theorem dX7_sees_15 : decode cX7_sees 15 = .ok (.iload_n 2, 1) := by decide +kernel
theorem dX7_sees_16 : decode cX7_sees 16 = .ok (.ifCond .lt 8, 3) := by decide +kernel
theorem dX7_sees_19 : decode cX7_sees 19 = .ok (.iload_n 2, 1) := by decide +kernel
theorem dX7_sees_20 : decode cX7_sees 20 = .ok (.iconst 1, 1) := by decide +kernel
theorem dX7_sees_21 : decode cX7_sees 21 = .ok (.if_icmp .le 5, 3) := by decide +kernel
theorem dX7_sees_24 : decode cX7_sees 24 = .ok (.iconst (-1), 1) := by decide +kernel
theorem dX7_sees_25 : decode cX7_sees 25 = .ok (.ireturn, 1) := by decide +kernel
theorem dX7_sees_26 : decode cX7_sees 26 = .ok (.aload_n 0, 1) := by decide +kernel
theorem dX7_sees_27 : decode cX7_sees 27 = .ok (.getfield 35, 3) := by decide +kernel
theorem dX7_sees_30 : decode cX7_sees 30 = .ok (.invokevirtual 80, 3) := by decide +kernel
theorem dX7_sees_33 : decode cX7_sees 33 = .ok (.bipush 6, 2) := by decide +kernel
theorem dX7_sees_35 : decode cX7_sees 35 = .ok (.if_icmp .lt 6, 3) := by decide +kernel
theorem dX7_sees_38 : decode cX7_sees 38 = .ok (.bipush (-3), 2) := by decide +kernel
theorem dX7_sees_40 : decode cX7_sees 40 = .ok (.ireturn, 1) := by decide +kernel
theorem dX7_sees_41 : decode cX7_sees 41 = .ok (.aload_n 0, 1) := by decide +kernel
theorem dX7_sees_42 : decode cX7_sees 42 = .ok (.getfield 35, 3) := by decide +kernel
theorem dX7_sees_45 : decode cX7_sees 45 = .ok (.iload_n 1, 1) := by decide +kernel
theorem dX7_sees_46 : decode cX7_sees 46 = .ok (.invokevirtual 76, 3) := by decide +kernel
theorem dX7_sees_49 : decode cX7_sees 49 = .ok (.pop, 1) := by decide +kernel
theorem dX7_sees_50 : decode cX7_sees 50 = .ok (.aload_n 0, 1) := by decide +kernel
theorem dX7_sees_51 : decode cX7_sees 51 = .ok (.getfield 38, 3) := by decide +kernel
theorem dX7_sees_54 : decode cX7_sees 54 = .ok (.iload_n 2, 1) := by decide +kernel
theorem dX7_sees_55 : decode cX7_sees 55 = .ok (.invokevirtual 76, 3) := by decide +kernel
theorem dX7_sees_58 : decode cX7_sees 58 = .ok (.pop, 1) := by decide +kernel
theorem dX7_sees_59 : decode cX7_sees 59 = .ok (.aload_n 0, 1) := by decide +kernel
theorem dX7_sees_60 : decode cX7_sees 60 = .ok (.getfield 35, 3) := by decide +kernel
theorem dX7_sees_63 : decode cX7_sees 63 = .ok (.invokevirtual 80, 3) := by decide +kernel
theorem dX7_sees_66 : decode cX7_sees 66 = .ok (.ireturn, 1) := by decide +kernel
theorem dX7_forget_0 : decode cX7_forget 0 = .ok (.aload_n 0, 1) := by decide +kernel
theorem dX7_forget_1 : decode cX7_forget 1 = .ok (.getfield 35, 3) := by decide +kernel
theorem dX7_forget_4 : decode cX7_forget 4 = .ok (.invokevirtual 80, 3) := by decide +kernel
theorem dX7_forget_7 : decode cX7_forget 7 = .ok (.istore_n 1, 1) := by decide +kernel
theorem dX7_forget_8 : decode cX7_forget 8 = .ok (.aload_n 0, 1) := by decide +kernel
theorem dX7_forget_9 : decode cX7_forget 9 = .ok (.getfield 35, 3) := by decide +kernel
theorem dX7_forget_12 : decode cX7_forget 12 = .ok (.invokevirtual 84, 3) := by decide +kernel
theorem dX7_forget_15 : decode cX7_forget 15 = .ok (.aload_n 0, 1) := by decide +kernel
theorem dX7_forget_16 : decode cX7_forget 16 = .ok (.getfield 38, 3) := by decide +kernel
theorem dX7_forget_19 : decode cX7_forget 19 = .ok (.invokevirtual 84, 3) := by decide +kernel
theorem dX7_forget_22 : decode cX7_forget 22 = .ok (.iload_n 1, 1) := by decide +kernel
theorem dX7_forget_23 : decode cX7_forget 23 = .ok (.ireturn, 1) := by decide +kernel
theorem dX7_unseen_0 : decode cX7_unseen 0 = .ok (.iload_n 1, 1) := by decide +kernel
theorem dX7_unseen_1 : decode cX7_unseen 1 = .ok (.ifCond .lt 8, 3) := by decide +kernel
theorem dX7_unseen_4 : decode cX7_unseen 4 = .ok (.iload_n 1, 1) := by decide +kernel
theorem dX7_unseen_5 : decode cX7_unseen 5 = .ok (.iconst 2, 1) := by decide +kernel
theorem dX7_unseen_6 : decode cX7_unseen 6 = .ok (.if_icmp .le 5, 3) := by decide +kernel
theorem dX7_unseen_9 : decode cX7_unseen 9 = .ok (.iconst (-1), 1) := by decide +kernel
theorem dX7_unseen_10 : decode cX7_unseen 10 = .ok (.ireturn, 1) := by decide +kernel
theorem dX7_unseen_11 : decode cX7_unseen 11 = .ok (.aload_n 0, 1) := by decide +kernel
theorem dX7_unseen_12 : decode cX7_unseen 12 = .ok (.invokevirtual 155, 3) := by decide +kernel
theorem dX7_unseen_15 : decode cX7_unseen 15 = .ok (.aload_n 0, 1) := by decide +kernel
theorem dX7_unseen_16 : decode cX7_unseen 16 = .ok (.invokevirtual 224, 3) := by decide +kernel
theorem dX7_unseen_19 : decode cX7_unseen 19 = .ok (.aload_n 0, 1) := by decide +kernel
theorem dX7_unseen_20 : decode cX7_unseen 20 = .ok (.getfield 65, 3) := by decide +kernel
theorem dX7_unseen_23 : decode cX7_unseen 23 = .ok (.aload_n 0, 1) := by decide +kernel
theorem dX7_unseen_24 : decode cX7_unseen 24 = .ok (.getfield 21, 3) := by decide +kernel
theorem dX7_unseen_27 : decode cX7_unseen 27 = .ok (.aload_n 0, 1) := by decide +kernel
theorem dX7_unseen_28 : decode cX7_unseen 28 = .ok (.getfield 35, 3) := by decide +kernel
theorem dX7_unseen_31 : decode cX7_unseen 31 = .ok (.aload_n 0, 1) := by decide +kernel
theorem dX7_unseen_32 : decode cX7_unseen 32 = .ok (.getfield 38, 3) := by decide +kernel
theorem dX7_unseen_35 : decode cX7_unseen 35 = .ok (.invokevirtual 236, 3) := by decide +kernel
theorem dX7_unseen_38 : decode cX7_unseen 38 = .ok (.aload_n 0, 1) := by decide +kernel
theorem dX7_unseen_39 : decode cX7_unseen 39 = .ok (.getfield 65, 3) := by decide +kernel
theorem dX7_unseen_42 : decode cX7_unseen 42 = .ok (.iload_n 1, 1) := by decide +kernel
theorem dX7_unseen_43 : decode cX7_unseen 43 = .ok (.invokevirtual 233, 3) := by decide +kernel
theorem dX7_unseen_46 : decode cX7_unseen 46 = .ok (.ireturn, 1) := by decide +kernel
theorem dX7_keep_0 : decode cX7_keep 0 = .ok (.iload_n 1, 1) := by decide +kernel
theorem dX7_keep_1 : decode cX7_keep 1 = .ok (.ifCond .lt 8, 3) := by decide +kernel
theorem dX7_keep_4 : decode cX7_keep 4 = .ok (.iload_n 1, 1) := by decide +kernel
theorem dX7_keep_5 : decode cX7_keep 5 = .ok (.iconst 2, 1) := by decide +kernel
theorem dX7_keep_6 : decode cX7_keep 6 = .ok (.if_icmp .lt 5, 3) := by decide +kernel
theorem dX7_keep_9 : decode cX7_keep 9 = .ok (.iconst (-1), 1) := by decide +kernel
theorem dX7_keep_10 : decode cX7_keep 10 = .ok (.ireturn, 1) := by decide +kernel
theorem dX7_keep_11 : decode cX7_keep 11 = .ok (.aload_n 0, 1) := by decide +kernel
theorem dX7_keep_12 : decode cX7_keep 12 = .ok (.getfield 28, 3) := by decide +kernel
theorem dX7_keep_15 : decode cX7_keep 15 = .ok (.iload_n 1, 1) := by decide +kernel
theorem dX7_keep_16 : decode cX7_keep 16 = .ok (.invokevirtual 240, 3) := by decide +kernel
theorem dX7_keep_19 : decode cX7_keep 19 = .ok (.aload_n 0, 1) := by decide +kernel
theorem dX7_keep_20 : decode cX7_keep 20 = .ok (.getfield 28, 3) := by decide +kernel
theorem dX7_keep_23 : decode cX7_keep 23 = .ok (.bipush 35, 2) := by decide +kernel
theorem dX7_keep_25 : decode cX7_keep 25 = .ok (.invokevirtual 227, 3) := by decide +kernel
theorem dX7_keep_28 : decode cX7_keep 28 = .ok (.ireturn, 1) := by decide +kernel
theorem dX7_back_0 : decode cX7_back 0 = .ok (.iload_n 1, 1) := by decide +kernel
theorem dX7_back_1 : decode cX7_back 1 = .ok (.ifCond .lt 8, 3) := by decide +kernel
theorem dX7_back_4 : decode cX7_back 4 = .ok (.iload_n 1, 1) := by decide +kernel
theorem dX7_back_5 : decode cX7_back 5 = .ok (.iconst 2, 1) := by decide +kernel
theorem dX7_back_6 : decode cX7_back 6 = .ok (.if_icmp .lt 5, 3) := by decide +kernel
theorem dX7_back_9 : decode cX7_back 9 = .ok (.iconst (-1), 1) := by decide +kernel
theorem dX7_back_10 : decode cX7_back 10 = .ok (.ireturn, 1) := by decide +kernel
theorem dX7_back_11 : decode cX7_back 11 = .ok (.aload_n 0, 1) := by decide +kernel
theorem dX7_back_12 : decode cX7_back 12 = .ok (.getfield 28, 3) := by decide +kernel
theorem dX7_back_15 : decode cX7_back 15 = .ok (.iload_n 1, 1) := by decide +kernel
theorem dX7_back_16 : decode cX7_back 16 = .ok (.invokevirtual 243, 3) := by decide +kernel
theorem dX7_back_19 : decode cX7_back 19 = .ok (.ifCond .ne 6, 3) := by decide +kernel
theorem dX7_back_22 : decode cX7_back 22 = .ok (.bipush (-2), 2) := by decide +kernel
theorem dX7_back_24 : decode cX7_back 24 = .ok (.ireturn, 1) := by decide +kernel
theorem dX7_back_25 : decode cX7_back 25 = .ok (.aload_n 0, 1) := by decide +kernel
theorem dX7_back_26 : decode cX7_back 26 = .ok (.getfield 28, 3) := by decide +kernel
theorem dX7_back_29 : decode cX7_back 29 = .ok (.iload_n 1, 1) := by decide +kernel
theorem dX7_back_30 : decode cX7_back 30 = .ok (.invokevirtual 246, 3) := by decide +kernel
theorem dX7_back_33 : decode cX7_back 33 = .ok (.aload_n 0, 1) := by decide +kernel
theorem dX7_back_34 : decode cX7_back 34 = .ok (.iconst 1, 1) := by decide +kernel
theorem dX7_back_35 : decode cX7_back 35 = .ok (.putfield 69, 3) := by decide +kernel
theorem dX7_back_38 : decode cX7_back 38 = .ok (.aload_n 0, 1) := by decide +kernel
theorem dX7_back_39 : decode cX7_back 39 = .ok (.iconst 1, 1) := by decide +kernel
theorem dX7_back_40 : decode cX7_back 40 = .ok (.putfield 73, 3) := by decide +kernel
theorem dX7_back_43 : decode cX7_back 43 = .ok (.aload_n 0, 1) := by decide +kernel
theorem dX7_back_44 : decode cX7_back 44 = .ok (.getfield 28, 3) := by decide +kernel
theorem dX7_back_47 : decode cX7_back 47 = .ok (.bipush 35, 2) := by decide +kernel
theorem dX7_back_49 : decode cX7_back 49 = .ok (.invokevirtual 227, 3) := by decide +kernel
theorem dX7_back_52 : decode cX7_back 52 = .ok (.ireturn, 1) := by decide +kernel
theorem dX7_count_0 : decode cX7_count 0 = .ok (.iload_n 1, 1) := by decide +kernel
theorem dX7_count_1 : decode cX7_count 1 = .ok (.tableswitch 155 0 10 #[59, 67, 75, 85, 95, 105, 115, 123, 131, 139, 147], 59) := by decide +kernel
theorem dX7_count_60 : decode cX7_count 60 = .ok (.aload_n 0, 1) := by decide +kernel
theorem dX7_count_61 : decode cX7_count 61 = .ok (.getfield 21, 3) := by decide +kernel
theorem dX7_count_64 : decode cX7_count 64 = .ok (.invokevirtual 98, 3) := by decide +kernel
theorem dX7_count_67 : decode cX7_count 67 = .ok (.ireturn, 1) := by decide +kernel
theorem dX7_count_68 : decode cX7_count 68 = .ok (.aload_n 0, 1) := by decide +kernel
theorem dX7_count_69 : decode cX7_count 69 = .ok (.getfield 21, 3) := by decide +kernel
theorem dX7_count_72 : decode cX7_count 72 = .ok (.invokevirtual 249, 3) := by decide +kernel
theorem dX7_count_75 : decode cX7_count 75 = .ok (.ireturn, 1) := by decide +kernel
theorem dX7_count_76 : decode cX7_count 76 = .ok (.aload_n 0, 1) := by decide +kernel
theorem dX7_count_77 : decode cX7_count 77 = .ok (.getfield 28, 3) := by decide +kernel
theorem dX7_count_80 : decode cX7_count 80 = .ok (.bipush 34, 2) := by decide +kernel
theorem dX7_count_82 : decode cX7_count 82 = .ok (.invokevirtual 227, 3) := by decide +kernel
theorem dX7_count_85 : decode cX7_count 85 = .ok (.ireturn, 1) := by decide +kernel
theorem dX7_count_86 : decode cX7_count 86 = .ok (.aload_n 0, 1) := by decide +kernel
theorem dX7_count_87 : decode cX7_count 87 = .ok (.getfield 28, 3) := by decide +kernel
theorem dX7_count_90 : decode cX7_count 90 = .ok (.bipush 35, 2) := by decide +kernel
theorem dX7_count_92 : decode cX7_count 92 = .ok (.invokevirtual 227, 3) := by decide +kernel
theorem dX7_count_95 : decode cX7_count 95 = .ok (.ireturn, 1) := by decide +kernel
theorem dX7_count_96 : decode cX7_count 96 = .ok (.aload_n 0, 1) := by decide +kernel
theorem dX7_count_97 : decode cX7_count 97 = .ok (.getfield 28, 3) := by decide +kernel
theorem dX7_count_100 : decode cX7_count 100 = .ok (.bipush 36, 2) := by decide +kernel
theorem dX7_count_102 : decode cX7_count 102 = .ok (.invokevirtual 227, 3) := by decide +kernel
theorem dX7_count_105 : decode cX7_count 105 = .ok (.ireturn, 1) := by decide +kernel
theorem dX7_count_106 : decode cX7_count 106 = .ok (.aload_n 0, 1) := by decide +kernel
theorem dX7_count_107 : decode cX7_count 107 = .ok (.getfield 28, 3) := by decide +kernel
theorem dX7_count_110 : decode cX7_count 110 = .ok (.bipush 37, 2) := by decide +kernel
theorem dX7_count_112 : decode cX7_count 112 = .ok (.invokevirtual 227, 3) := by decide +kernel
theorem dX7_count_115 : decode cX7_count 115 = .ok (.ireturn, 1) := by decide +kernel
theorem dX7_count_116 : decode cX7_count 116 = .ok (.aload_n 0, 1) := by decide +kernel
theorem dX7_count_117 : decode cX7_count 117 = .ok (.getfield 32, 3) := by decide +kernel
theorem dX7_count_120 : decode cX7_count 120 = .ok (.invokevirtual 80, 3) := by decide +kernel
theorem dX7_count_123 : decode cX7_count 123 = .ok (.ireturn, 1) := by decide +kernel
theorem dX7_count_124 : decode cX7_count 124 = .ok (.aload_n 0, 1) := by decide +kernel
theorem dX7_count_125 : decode cX7_count 125 = .ok (.getfield 35, 3) := by decide +kernel
theorem dX7_count_128 : decode cX7_count 128 = .ok (.invokevirtual 80, 3) := by decide +kernel
theorem dX7_count_131 : decode cX7_count 131 = .ok (.ireturn, 1) := by decide +kernel
theorem dX7_count_132 : decode cX7_count 132 = .ok (.aload_n 0, 1) := by decide +kernel
theorem dX7_count_133 : decode cX7_count 133 = .ok (.getfield 14, 3) := by decide +kernel
theorem dX7_count_136 : decode cX7_count 136 = .ok (.invokevirtual 80, 3) := by decide +kernel
theorem dX7_count_139 : decode cX7_count 139 = .ok (.ireturn, 1) := by decide +kernel
theorem dX7_count_140 : decode cX7_count 140 = .ok (.aload_n 0, 1) := by decide +kernel
theorem dX7_count_141 : decode cX7_count 141 = .ok (.getfield 28, 3) := by decide +kernel
theorem dX7_count_144 : decode cX7_count 144 = .ok (.invokevirtual 146, 3) := by decide +kernel
theorem dX7_count_147 : decode cX7_count 147 = .ok (.ireturn, 1) := by decide +kernel
theorem dX7_count_148 : decode cX7_count 148 = .ok (.aload_n 0, 1) := by decide +kernel
theorem dX7_count_149 : decode cX7_count 149 = .ok (.getfield 21, 3) := by decide +kernel
theorem dX7_count_152 : decode cX7_count 152 = .ok (.invokevirtual 109, 3) := by decide +kernel
theorem dX7_count_155 : decode cX7_count 155 = .ok (.ireturn, 1) := by decide +kernel
theorem dX7_count_156 : decode cX7_count 156 = .ok (.iconst (-1), 1) := by decide +kernel
theorem dX7_count_157 : decode cX7_count 157 = .ok (.ireturn, 1) := by decide +kernel
theorem dX7_isPlace_0 : decode cX7_isPlace 0 = .ok (.iload_n 1, 1) := by decide +kernel
theorem dX7_isPlace_1 : decode cX7_isPlace 1 = .ok (.ifCond .lt 18, 3) := by decide +kernel
theorem dX7_isPlace_4 : decode cX7_isPlace 4 = .ok (.iload_n 1, 1) := by decide +kernel
theorem dX7_isPlace_5 : decode cX7_isPlace 5 = .ok (.aload_n 0, 1) := by decide +kernel
theorem dX7_isPlace_6 : decode cX7_isPlace 6 = .ok (.getfield 21, 3) := by decide +kernel
theorem dX7_isPlace_9 : decode cX7_isPlace 9 = .ok (.invokevirtual 249, 3) := by decide +kernel
theorem dX7_isPlace_12 : decode cX7_isPlace 12 = .ok (.if_icmp .ge 7, 3) := by decide +kernel
theorem dX7_isPlace_15 : decode cX7_isPlace 15 = .ok (.iconst 1, 1) := by decide +kernel
theorem dX7_isPlace_16 : decode cX7_isPlace 16 = .ok (.goto 4, 3) := by decide +kernel
theorem dX7_isPlace_19 : decode cX7_isPlace 19 = .ok (.iconst 0, 1) := by decide +kernel
theorem dX7_isPlace_20 : decode cX7_isPlace 20 = .ok (.ireturn, 1) := by decide +kernel
theorem dX7_lastOfDraft_0 : decode cX7_lastOfDraft 0 = .ok (.aload_n 0, 1) := by decide +kernel
theorem dX7_lastOfDraft_1 : decode cX7_lastOfDraft 1 = .ok (.getfield 32, 3) := by decide +kernel
theorem dX7_lastOfDraft_4 : decode cX7_lastOfDraft 4 = .ok (.invokevirtual 80, 3) := by decide +kernel
theorem dX7_lastOfDraft_7 : decode cX7_lastOfDraft 7 = .ok (.ifCond .ne 7, 3) := by decide +kernel
theorem dX7_lastOfDraft_10 : decode cX7_lastOfDraft 10 = .ok (.iconst (-1), 1) := by decide +kernel
theorem dX7_lastOfDraft_11 : decode cX7_lastOfDraft 11 = .ok (.goto 19, 3) := by decide +kernel
theorem dX7_lastOfDraft_14 : decode cX7_lastOfDraft 14 = .ok (.aload_n 0, 1) := by decide +kernel
theorem dX7_lastOfDraft_15 : decode cX7_lastOfDraft 15 = .ok (.getfield 32, 3) := by decide +kernel
theorem dX7_lastOfDraft_18 : decode cX7_lastOfDraft 18 = .ok (.aload_n 0, 1) := by decide +kernel
theorem dX7_lastOfDraft_19 : decode cX7_lastOfDraft 19 = .ok (.getfield 32, 3) := by decide +kernel
theorem dX7_lastOfDraft_22 : decode cX7_lastOfDraft 22 = .ok (.invokevirtual 80, 3) := by decide +kernel
theorem dX7_lastOfDraft_25 : decode cX7_lastOfDraft 25 = .ok (.iconst 1, 1) := by decide +kernel
theorem dX7_lastOfDraft_26 : decode cX7_lastOfDraft 26 = .ok (.isub, 1) := by decide +kernel
theorem dX7_lastOfDraft_27 : decode cX7_lastOfDraft 27 = .ok (.invokevirtual 252, 3) := by decide +kernel
theorem dX7_lastOfDraft_30 : decode cX7_lastOfDraft 30 = .ok (.ireturn, 1) := by decide +kernel
theorem dX7_change_0 : decode cX7_change 0 = .ok (.aload_n 0, 1) := by decide +kernel
theorem dX7_change_1 : decode cX7_change 1 = .ok (.getfield 28, 3) := by decide +kernel
theorem dX7_change_4 : decode cX7_change 4 = .ok (.iload_n 1, 1) := by decide +kernel
theorem dX7_change_5 : decode cX7_change 5 = .ok (.invokevirtual 227, 3) := by decide +kernel
theorem dX7_change_8 : decode cX7_change 8 = .ok (.istore_n 3, 1) := by decide +kernel
theorem dX7_change_9 : decode cX7_change 9 = .ok (.iload_n 3, 1) := by decide +kernel
theorem dX7_change_10 : decode cX7_change 10 = .ok (.iload_n 2, 1) := by decide +kernel
theorem dX7_change_11 : decode cX7_change 11 = .ok (.if_icmp .ne 6, 3) := by decide +kernel
theorem dX7_change_14 : decode cX7_change 14 = .ok (.bipush (-2), 2) := by decide +kernel
theorem dX7_change_16 : decode cX7_change 16 = .ok (.ireturn, 1) := by decide +kernel
theorem dX7_change_17 : decode cX7_change 17 = .ok (.aload_n 0, 1) := by decide +kernel
theorem dX7_change_18 : decode cX7_change 18 = .ok (.getfield 28, 3) := by decide +kernel
theorem dX7_change_21 : decode cX7_change 21 = .ok (.iload_n 1, 1) := by decide +kernel
theorem dX7_change_22 : decode cX7_change 22 = .ok (.iload_n 2, 1) := by decide +kernel
theorem dX7_change_23 : decode cX7_change 23 = .ok (.invokevirtual 253, 3) := by decide +kernel
theorem dX7_change_26 : decode cX7_change 26 = .ok (.aload_n 0, 1) := by decide +kernel
theorem dX7_change_27 : decode cX7_change 27 = .ok (.iload_n 1, 1) := by decide +kernel
theorem dX7_change_28 : decode cX7_change 28 = .ok (.invokevirtual 152, 3) := by decide +kernel
theorem dX7_change_31 : decode cX7_change 31 = .ok (.iload_n 3, 1) := by decide +kernel
theorem dX7_change_32 : decode cX7_change 32 = .ok (.ireturn, 1) := by decide +kernel
theorem dX7_markStale_0 : decode cX7_markStale 0 = .ok (.aload_n 0, 1) := by decide +kernel
theorem dX7_markStale_1 : decode cX7_markStale 1 = .ok (.iconst 1, 1) := by decide +kernel
theorem dX7_markStale_2 : decode cX7_markStale 2 = .ok (.putfield 69, 3) := by decide +kernel
theorem dX7_markStale_5 : decode cX7_markStale 5 = .ok (.iload_n 1, 1) := by decide +kernel
theorem dX7_markStale_6 : decode cX7_markStale 6 = .ok (.bipush 35, 2) := by decide +kernel
theorem dX7_markStale_8 : decode cX7_markStale 8 = .ok (.if_icmp .eq 8, 3) := by decide +kernel
theorem dX7_markStale_11 : decode cX7_markStale 11 = .ok (.aload_n 0, 1) := by decide +kernel
theorem dX7_markStale_12 : decode cX7_markStale 12 = .ok (.iconst 1, 1) := by decide +kernel
theorem dX7_markStale_13 : decode cX7_markStale 13 = .ok (.putfield 73, 3) := by decide +kernel
theorem dX7_markStale_16 : decode cX7_markStale 16 = .ok (.return_, 1) := by decide +kernel
theorem dX7_freshen_0 : decode cX7_freshen 0 = .ok (.aload_n 0, 1) := by decide +kernel
theorem dX7_freshen_1 : decode cX7_freshen 1 = .ok (.getfield 69, 3) := by decide +kernel
theorem dX7_freshen_4 : decode cX7_freshen 4 = .ok (.ifCond .eq 58, 3) := by decide +kernel
theorem dX7_freshen_7 : decode cX7_freshen 7 = .ok (.aload_n 0, 1) := by decide +kernel
theorem dX7_freshen_8 : decode cX7_freshen 8 = .ok (.getfield 44, 3) := by decide +kernel
theorem dX7_freshen_11 : decode cX7_freshen 11 = .ok (.aload_n 0, 1) := by decide +kernel
theorem dX7_freshen_12 : decode cX7_freshen 12 = .ok (.getfield 21, 3) := by decide +kernel
theorem dX7_freshen_15 : decode cX7_freshen 15 = .ok (.aload_n 0, 1) := by decide +kernel
theorem dX7_freshen_16 : decode cX7_freshen 16 = .ok (.getfield 28, 3) := by decide +kernel
theorem dX7_freshen_19 : decode cX7_freshen 19 = .ok (.invokevirtual 256, 3) := by decide +kernel
theorem dX7_freshen_22 : decode cX7_freshen 22 = .ok (.aload_n 0, 1) := by decide +kernel
theorem dX7_freshen_23 : decode cX7_freshen 23 = .ok (.getfield 51, 3) := by decide +kernel
theorem dX7_freshen_26 : decode cX7_freshen 26 = .ok (.aload_n 0, 1) := by decide +kernel
theorem dX7_freshen_27 : decode cX7_freshen 27 = .ok (.getfield 44, 3) := by decide +kernel
theorem dX7_freshen_30 : decode cX7_freshen 30 = .ok (.aload_n 0, 1) := by decide +kernel
theorem dX7_freshen_31 : decode cX7_freshen 31 = .ok (.getfield 28, 3) := by decide +kernel
theorem dX7_freshen_34 : decode cX7_freshen 34 = .ok (.bipush 35, 2) := by decide +kernel
theorem dX7_freshen_36 : decode cX7_freshen 36 = .ok (.invokevirtual 227, 3) := by decide +kernel
theorem dX7_freshen_39 : decode cX7_freshen 39 = .ok (.invokevirtual 260, 3) := by decide +kernel
theorem dX7_freshen_42 : decode cX7_freshen 42 = .ok (.aload_n 0, 1) := by decide +kernel
theorem dX7_freshen_43 : decode cX7_freshen 43 = .ok (.getfield 58, 3) := by decide +kernel
theorem dX7_freshen_46 : decode cX7_freshen 46 = .ok (.aload_n 0, 1) := by decide +kernel
theorem dX7_freshen_47 : decode cX7_freshen 47 = .ok (.getfield 44, 3) := by decide +kernel
theorem dX7_freshen_50 : decode cX7_freshen 50 = .ok (.aload_n 0, 1) := by decide +kernel
theorem dX7_freshen_51 : decode cX7_freshen 51 = .ok (.getfield 51, 3) := by decide +kernel
theorem dX7_freshen_54 : decode cX7_freshen 54 = .ok (.invokevirtual 264, 3) := by decide +kernel
theorem dX7_freshen_57 : decode cX7_freshen 57 = .ok (.aload_n 0, 1) := by decide +kernel
theorem dX7_freshen_58 : decode cX7_freshen 58 = .ok (.iconst 0, 1) := by decide +kernel
theorem dX7_freshen_59 : decode cX7_freshen 59 = .ok (.putfield 69, 3) := by decide +kernel
theorem dX7_freshen_62 : decode cX7_freshen 62 = .ok (.return_, 1) := by decide +kernel
theorem dX7_freshenSurvey_0 : decode cX7_freshenSurvey 0 = .ok (.aload_n 0, 1) := by decide +kernel
theorem dX7_freshenSurvey_1 : decode cX7_freshenSurvey 1 = .ok (.getfield 73, 3) := by decide +kernel
theorem dX7_freshenSurvey_4 : decode cX7_freshenSurvey 4 = .ok (.ifCond .eq 23, 3) := by decide +kernel
theorem dX7_freshenSurvey_7 : decode cX7_freshenSurvey 7 = .ok (.aload_n 0, 1) := by decide +kernel
theorem dX7_freshenSurvey_8 : decode cX7_freshenSurvey 8 = .ok (.getfield 65, 3) := by decide +kernel
theorem dX7_freshenSurvey_11 : decode cX7_freshenSurvey 11 = .ok (.aload_n 0, 1) := by decide +kernel
theorem dX7_freshenSurvey_12 : decode cX7_freshenSurvey 12 = .ok (.getfield 44, 3) := by decide +kernel
theorem dX7_freshenSurvey_15 : decode cX7_freshenSurvey 15 = .ok (.aload_n 0, 1) := by decide +kernel
theorem dX7_freshenSurvey_16 : decode cX7_freshenSurvey 16 = .ok (.getfield 51, 3) := by decide +kernel
theorem dX7_freshenSurvey_19 : decode cX7_freshenSurvey 19 = .ok (.invokevirtual 268, 3) := by decide +kernel
theorem dX7_freshenSurvey_22 : decode cX7_freshenSurvey 22 = .ok (.aload_n 0, 1) := by decide +kernel
theorem dX7_freshenSurvey_23 : decode cX7_freshenSurvey 23 = .ok (.iconst 0, 1) := by decide +kernel
theorem dX7_freshenSurvey_24 : decode cX7_freshenSurvey 24 = .ok (.putfield 73, 3) := by decide +kernel
theorem dX7_freshenSurvey_27 : decode cX7_freshenSurvey 27 = .ok (.return_, 1) := by decide +kernel
theorem dX7_firstWrongLine_0 : decode cX7_firstWrongLine 0 = .ok (.iconst (-1), 1) := by decide +kernel
theorem dX7_firstWrongLine_1 : decode cX7_firstWrongLine 1 = .ok (.istore_n 1, 1) := by decide +kernel
theorem dX7_firstWrongLine_2 : decode cX7_firstWrongLine 2 = .ok (.iconst 0, 1) := by decide +kernel
theorem dX7_firstWrongLine_3 : decode cX7_firstWrongLine 3 = .ok (.istore_n 2, 1) := by decide +kernel
theorem dX7_firstWrongLine_4 : decode cX7_firstWrongLine 4 = .ok (.iload_n 2, 1) := by decide +kernel
theorem dX7_firstWrongLine_5 : decode cX7_firstWrongLine 5 = .ok (.aload_n 0, 1) := by decide +kernel
theorem dX7_firstWrongLine_6 : decode cX7_firstWrongLine 6 = .ok (.getfield 32, 3) := by decide +kernel
theorem dX7_firstWrongLine_9 : decode cX7_firstWrongLine 9 = .ok (.invokevirtual 80, 3) := by decide +kernel
theorem dX7_firstWrongLine_12 : decode cX7_firstWrongLine 12 = .ok (.if_icmp .ge 34, 3) := by decide +kernel
theorem dX7_firstWrongLine_15 : decode cX7_firstWrongLine 15 = .ok (.aload_n 0, 1) := by decide +kernel
theorem dX7_firstWrongLine_16 : decode cX7_firstWrongLine 16 = .ok (.getfield 32, 3) := by decide +kernel
theorem dX7_firstWrongLine_19 : decode cX7_firstWrongLine 19 = .ok (.iload_n 2, 1) := by decide +kernel
theorem dX7_firstWrongLine_20 : decode cX7_firstWrongLine 20 = .ok (.invokevirtual 252, 3) := by decide +kernel
theorem dX7_firstWrongLine_23 : decode cX7_firstWrongLine 23 = .ok (.istore_n 3, 1) := by decide +kernel
theorem dX7_firstWrongLine_24 : decode cX7_firstWrongLine 24 = .ok (.aload_n 0, 1) := by decide +kernel
theorem dX7_firstWrongLine_25 : decode cX7_firstWrongLine 25 = .ok (.getfield 44, 3) := by decide +kernel
theorem dX7_firstWrongLine_28 : decode cX7_firstWrongLine 28 = .ok (.iload_n 1, 1) := by decide +kernel
theorem dX7_firstWrongLine_29 : decode cX7_firstWrongLine 29 = .ok (.iload_n 3, 1) := by decide +kernel
theorem dX7_firstWrongLine_30 : decode cX7_firstWrongLine 30 = .ok (.invokevirtual 193, 3) := by decide +kernel
theorem dX7_firstWrongLine_33 : decode cX7_firstWrongLine 33 = .ok (.ifCond .ge 5, 3) := by decide +kernel
theorem dX7_firstWrongLine_36 : decode cX7_firstWrongLine 36 = .ok (.iload_n 2, 1) := by decide +kernel
theorem dX7_firstWrongLine_37 : decode cX7_firstWrongLine 37 = .ok (.ireturn, 1) := by decide +kernel
theorem dX7_firstWrongLine_38 : decode cX7_firstWrongLine 38 = .ok (.iload_n 3, 1) := by decide +kernel
theorem dX7_firstWrongLine_39 : decode cX7_firstWrongLine 39 = .ok (.istore_n 1, 1) := by decide +kernel
theorem dX7_firstWrongLine_40 : decode cX7_firstWrongLine 40 = .ok (.iinc 2 1, 3) := by decide +kernel
theorem dX7_firstWrongLine_43 : decode cX7_firstWrongLine 43 = .ok (.goto (-39), 3) := by decide +kernel
theorem dX7_firstWrongLine_46 : decode cX7_firstWrongLine 46 = .ok (.iload_n 1, 1) := by decide +kernel
theorem dX7_firstWrongLine_47 : decode cX7_firstWrongLine 47 = .ok (.aload_n 0, 1) := by decide +kernel
theorem dX7_firstWrongLine_48 : decode cX7_firstWrongLine 48 = .ok (.getfield 21, 3) := by decide +kernel
theorem dX7_firstWrongLine_51 : decode cX7_firstWrongLine 51 = .ok (.invokevirtual 249, 3) := by decide +kernel
theorem dX7_firstWrongLine_54 : decode cX7_firstWrongLine 54 = .ok (.iconst 1, 1) := by decide +kernel
theorem dX7_firstWrongLine_55 : decode cX7_firstWrongLine 55 = .ok (.isub, 1) := by decide +kernel
theorem dX7_firstWrongLine_56 : decode cX7_firstWrongLine 56 = .ok (.if_icmp .ne 7, 3) := by decide +kernel
theorem dX7_firstWrongLine_59 : decode cX7_firstWrongLine 59 = .ok (.iconst (-1), 1) := by decide +kernel
theorem dX7_firstWrongLine_60 : decode cX7_firstWrongLine 60 = .ok (.goto 10, 3) := by decide +kernel
theorem dX7_firstWrongLine_63 : decode cX7_firstWrongLine 63 = .ok (.aload_n 0, 1) := by decide +kernel
theorem dX7_firstWrongLine_64 : decode cX7_firstWrongLine 64 = .ok (.getfield 32, 3) := by decide +kernel
theorem dX7_firstWrongLine_67 : decode cX7_firstWrongLine 67 = .ok (.invokevirtual 80, 3) := by decide +kernel
theorem dX7_firstWrongLine_70 : decode cX7_firstWrongLine 70 = .ok (.ireturn, 1) := by decide +kernel
theorem dX7_costOfDraft_0 : decode cX7_costOfDraft 0 = .ok (.iconst 0, 1) := by decide +kernel
theorem dX7_costOfDraft_1 : decode cX7_costOfDraft 1 = .ok (.istore_n 1, 1) := by decide +kernel
theorem dX7_costOfDraft_2 : decode cX7_costOfDraft 2 = .ok (.iconst (-1), 1) := by decide +kernel
theorem dX7_costOfDraft_3 : decode cX7_costOfDraft 3 = .ok (.istore_n 2, 1) := by decide +kernel
theorem dX7_costOfDraft_4 : decode cX7_costOfDraft 4 = .ok (.iconst 0, 1) := by decide +kernel
theorem dX7_costOfDraft_5 : decode cX7_costOfDraft 5 = .ok (.istore_n 3, 1) := by decide +kernel
theorem dX7_costOfDraft_6 : decode cX7_costOfDraft 6 = .ok (.iload_n 3, 1) := by decide +kernel
theorem dX7_costOfDraft_7 : decode cX7_costOfDraft 7 = .ok (.aload_n 0, 1) := by decide +kernel
theorem dX7_costOfDraft_8 : decode cX7_costOfDraft 8 = .ok (.getfield 32, 3) := by decide +kernel
theorem dX7_costOfDraft_11 : decode cX7_costOfDraft 11 = .ok (.invokevirtual 80, 3) := by decide +kernel
theorem dX7_costOfDraft_14 : decode cX7_costOfDraft 14 = .ok (.if_icmp .ge 35, 3) := by decide +kernel
theorem dX7_costOfDraft_17 : decode cX7_costOfDraft 17 = .ok (.aload_n 0, 1) := by decide +kernel
theorem dX7_costOfDraft_18 : decode cX7_costOfDraft 18 = .ok (.getfield 32, 3) := by decide +kernel
theorem dX7_costOfDraft_21 : decode cX7_costOfDraft 21 = .ok (.iload_n 3, 1) := by decide +kernel
theorem dX7_costOfDraft_22 : decode cX7_costOfDraft 22 = .ok (.invokevirtual 252, 3) := by decide +kernel
theorem dX7_costOfDraft_25 : decode cX7_costOfDraft 25 = .ok (.istore 4, 2) := by decide +kernel
theorem dX7_costOfDraft_27 : decode cX7_costOfDraft 27 = .ok (.iload_n 1, 1) := by decide +kernel
theorem dX7_costOfDraft_28 : decode cX7_costOfDraft 28 = .ok (.aload_n 0, 1) := by decide +kernel
theorem dX7_costOfDraft_29 : decode cX7_costOfDraft 29 = .ok (.getfield 44, 3) := by decide +kernel
theorem dX7_costOfDraft_32 : decode cX7_costOfDraft 32 = .ok (.iload_n 2, 1) := by decide +kernel
theorem dX7_costOfDraft_33 : decode cX7_costOfDraft 33 = .ok (.iload 4, 2) := by decide +kernel
theorem dX7_costOfDraft_35 : decode cX7_costOfDraft 35 = .ok (.invokevirtual 196, 3) := by decide +kernel
theorem dX7_costOfDraft_38 : decode cX7_costOfDraft 38 = .ok (.iadd, 1) := by decide +kernel
theorem dX7_costOfDraft_39 : decode cX7_costOfDraft 39 = .ok (.istore_n 1, 1) := by decide +kernel
theorem dX7_costOfDraft_40 : decode cX7_costOfDraft 40 = .ok (.iload 4, 2) := by decide +kernel
theorem dX7_costOfDraft_42 : decode cX7_costOfDraft 42 = .ok (.istore_n 2, 1) := by decide +kernel
theorem dX7_costOfDraft_43 : decode cX7_costOfDraft 43 = .ok (.iinc 3 1, 3) := by decide +kernel
theorem dX7_costOfDraft_46 : decode cX7_costOfDraft 46 = .ok (.goto (-40), 3) := by decide +kernel
theorem dX7_costOfDraft_49 : decode cX7_costOfDraft 49 = .ok (.iload_n 1, 1) := by decide +kernel
theorem dX7_costOfDraft_50 : decode cX7_costOfDraft 50 = .ok (.ireturn, 1) := by decide +kernel
theorem dX7_isLetter_0 : decode cX7_isLetter 0 = .ok (.iload_n 0, 1) := by decide +kernel
theorem dX7_isLetter_1 : decode cX7_isLetter 1 = .ok (.bipush 97, 2) := by decide +kernel
theorem dX7_isLetter_3 : decode cX7_isLetter 3 = .ok (.if_icmp .lt 13, 3) := by decide +kernel
theorem dX7_isLetter_6 : decode cX7_isLetter 6 = .ok (.iload_n 0, 1) := by decide +kernel
theorem dX7_isLetter_7 : decode cX7_isLetter 7 = .ok (.bipush 122, 2) := by decide +kernel
theorem dX7_isLetter_9 : decode cX7_isLetter 9 = .ok (.if_icmp .gt 7, 3) := by decide +kernel
theorem dX7_isLetter_12 : decode cX7_isLetter 12 = .ok (.iconst 1, 1) := by decide +kernel
theorem dX7_isLetter_13 : decode cX7_isLetter 13 = .ok (.goto 4, 3) := by decide +kernel
theorem dX7_isLetter_16 : decode cX7_isLetter 16 = .ok (.iconst 0, 1) := by decide +kernel
theorem dX7_isLetter_17 : decode cX7_isLetter 17 = .ok (.ireturn, 1) := by decide +kernel
theorem dX7_markNumber_0 : decode cX7_markNumber 0 = .ok (.iload_n 0, 1) := by decide +kernel
theorem dX7_markNumber_1 : decode cX7_markNumber 1 = .ok (.tableswitch 55 39 46 #[53, 55, 55, 55, 55, 49, 51, 47], 47) := by decide +kernel
theorem dX7_markNumber_48 : decode cX7_markNumber 48 = .ok (.iconst 0, 1) := by decide +kernel
theorem dX7_markNumber_49 : decode cX7_markNumber 49 = .ok (.ireturn, 1) := by decide +kernel
theorem dX7_markNumber_50 : decode cX7_markNumber 50 = .ok (.iconst 1, 1) := by decide +kernel
theorem dX7_markNumber_51 : decode cX7_markNumber 51 = .ok (.ireturn, 1) := by decide +kernel
theorem dX7_markNumber_52 : decode cX7_markNumber 52 = .ok (.iconst 2, 1) := by decide +kernel
theorem dX7_markNumber_53 : decode cX7_markNumber 53 = .ok (.ireturn, 1) := by decide +kernel
theorem dX7_markNumber_54 : decode cX7_markNumber 54 = .ok (.iconst 3, 1) := by decide +kernel
theorem dX7_markNumber_55 : decode cX7_markNumber 55 = .ok (.ireturn, 1) := by decide +kernel
theorem dX7_markNumber_56 : decode cX7_markNumber 56 = .ok (.iconst (-1), 1) := by decide +kernel
theorem dX7_markNumber_57 : decode cX7_markNumber 57 = .ok (.ireturn, 1) := by decide +kernel
theorem dX7_widthSlot_0 : decode cX7_widthSlot 0 = .ok (.iload_n 0, 1) := by decide +kernel
theorem dX7_widthSlot_1 : decode cX7_widthSlot 1 = .ok (.invokestatic 271, 3) := by decide +kernel
theorem dX7_widthSlot_4 : decode cX7_widthSlot 4 = .ok (.ifCond .eq 8, 3) := by decide +kernel
theorem dX7_widthSlot_7 : decode cX7_widthSlot 7 = .ok (.iload_n 0, 1) := by decide +kernel
theorem dX7_widthSlot_8 : decode cX7_widthSlot 8 = .ok (.bipush 97, 2) := by decide +kernel
theorem dX7_widthSlot_10 : decode cX7_widthSlot 10 = .ok (.isub, 1) := by decide +kernel
theorem dX7_widthSlot_11 : decode cX7_widthSlot 11 = .ok (.ireturn, 1) := by decide +kernel
theorem dX7_widthSlot_12 : decode cX7_widthSlot 12 = .ok (.iload_n 0, 1) := by decide +kernel
theorem dX7_widthSlot_13 : decode cX7_widthSlot 13 = .ok (.invokestatic 274, 3) := by decide +kernel
theorem dX7_widthSlot_16 : decode cX7_widthSlot 16 = .ok (.istore_n 1, 1) := by decide +kernel
theorem dX7_widthSlot_17 : decode cX7_widthSlot 17 = .ok (.iload_n 1, 1) := by decide +kernel
theorem dX7_widthSlot_18 : decode cX7_widthSlot 18 = .ok (.ifCond .ge 7, 3) := by decide +kernel
theorem dX7_widthSlot_21 : decode cX7_widthSlot 21 = .ok (.iconst (-1), 1) := by decide +kernel
theorem dX7_widthSlot_22 : decode cX7_widthSlot 22 = .ok (.goto 7, 3) := by decide +kernel
theorem dX7_widthSlot_25 : decode cX7_widthSlot 25 = .ok (.bipush 26, 2) := by decide +kernel
theorem dX7_widthSlot_27 : decode cX7_widthSlot 27 = .ok (.iload_n 1, 1) := by decide +kernel
theorem dX7_widthSlot_28 : decode cX7_widthSlot 28 = .ok (.iadd, 1) := by decide +kernel
theorem dX7_widthSlot_29 : decode cX7_widthSlot 29 = .ok (.ireturn, 1) := by decide +kernel
theorem dX7_hangSlot_0 : decode cX7_hangSlot 0 = .ok (.iload_n 0, 1) := by decide +kernel
theorem dX7_hangSlot_1 : decode cX7_hangSlot 1 = .ok (.invokestatic 274, 3) := by decide +kernel
theorem dX7_hangSlot_4 : decode cX7_hangSlot 4 = .ok (.istore_n 1, 1) := by decide +kernel
theorem dX7_hangSlot_5 : decode cX7_hangSlot 5 = .ok (.iload_n 1, 1) := by decide +kernel
theorem dX7_hangSlot_6 : decode cX7_hangSlot 6 = .ok (.ifCond .ge 7, 3) := by decide +kernel
theorem dX7_hangSlot_9 : decode cX7_hangSlot 9 = .ok (.iconst (-1), 1) := by decide +kernel
theorem dX7_hangSlot_10 : decode cX7_hangSlot 10 = .ok (.goto 7, 3) := by decide +kernel
theorem dX7_hangSlot_13 : decode cX7_hangSlot 13 = .ok (.bipush 30, 2) := by decide +kernel
theorem dX7_hangSlot_15 : decode cX7_hangSlot 15 = .ok (.iload_n 1, 1) := by decide +kernel
theorem dX7_hangSlot_16 : decode cX7_hangSlot 16 = .ok (.iadd, 1) := by decide +kernel
theorem dX7_hangSlot_17 : decode cX7_hangSlot 17 = .ok (.ireturn, 1) := by decide +kernel
theorem dX7_isPlainSign_0 : decode cX7_isPlainSign 0 = .ok (.iload_n 0, 1) := by decide +kernel
theorem dX7_isPlainSign_1 : decode cX7_isPlainSign 1 = .ok (.invokestatic 130, 3) := by decide +kernel
theorem dX7_isPlainSign_4 : decode cX7_isPlainSign 4 = .ok (.ifCond .lt 7, 3) := by decide +kernel
theorem dX7_isPlainSign_7 : decode cX7_isPlainSign 7 = .ok (.iconst 1, 1) := by decide +kernel
theorem dX7_isPlainSign_8 : decode cX7_isPlainSign 8 = .ok (.goto 4, 3) := by decide +kernel
theorem dX7_isPlainSign_11 : decode cX7_isPlainSign 11 = .ok (.iconst 0, 1) := by decide +kernel
theorem dX7_isPlainSign_12 : decode cX7_isPlainSign 12 = .ok (.ireturn, 1) := by decide +kernel
theorem dX7_faultOf_0 : decode cX7_faultOf 0 = .ok (.iconst 0, 1) := by decide +kernel
theorem dX7_faultOf_1 : decode cX7_faultOf 1 = .ok (.istore_n 1, 1) := by decide +kernel
theorem dX7_faultOf_2 : decode cX7_faultOf 2 = .ok (.iconst 0, 1) := by decide +kernel
theorem dX7_faultOf_3 : decode cX7_faultOf 3 = .ok (.istore_n 2, 1) := by decide +kernel
theorem dX7_faultOf_4 : decode cX7_faultOf 4 = .ok (.iconst 0, 1) := by decide +kernel
theorem dX7_faultOf_5 : decode cX7_faultOf 5 = .ok (.istore_n 3, 1) := by decide +kernel
theorem dX7_faultOf_6 : decode cX7_faultOf 6 = .ok (.iload_n 3, 1) := by decide +kernel
theorem dX7_faultOf_7 : decode cX7_faultOf 7 = .ok (.aload_n 0, 1) := by decide +kernel
theorem dX7_faultOf_8 : decode cX7_faultOf 8 = .ok (.invokevirtual 80, 3) := by decide +kernel
theorem dX7_faultOf_11 : decode cX7_faultOf 11 = .ok (.if_icmp .ge 85, 3) := by decide +kernel
theorem dX7_faultOf_14 : decode cX7_faultOf 14 = .ok (.aload_n 0, 1) := by decide +kernel
theorem dX7_faultOf_15 : decode cX7_faultOf 15 = .ok (.iload_n 3, 1) := by decide +kernel
theorem dX7_faultOf_16 : decode cX7_faultOf 16 = .ok (.invokevirtual 252, 3) := by decide +kernel
theorem dX7_faultOf_19 : decode cX7_faultOf 19 = .ok (.istore 4, 2) := by decide +kernel
theorem dX7_faultOf_21 : decode cX7_faultOf 21 = .ok (.iload 4, 2) := by decide +kernel
theorem dX7_faultOf_23 : decode cX7_faultOf 23 = .ok (.bipush 32, 2) := by decide +kernel
theorem dX7_faultOf_25 : decode cX7_faultOf 25 = .ok (.if_icmp .ne 8, 3) := by decide +kernel
theorem dX7_faultOf_28 : decode cX7_faultOf 28 = .ok (.iconst 0, 1) := by decide +kernel
theorem dX7_faultOf_29 : decode cX7_faultOf 29 = .ok (.istore_n 2, 1) := by decide +kernel
theorem dX7_faultOf_30 : decode cX7_faultOf 30 = .ok (.goto 60, 3) := by decide +kernel
theorem dX7_faultOf_33 : decode cX7_faultOf 33 = .ok (.iload 4, 2) := by decide +kernel
theorem dX7_faultOf_35 : decode cX7_faultOf 35 = .ok (.bipush 47, 2) := by decide +kernel
theorem dX7_faultOf_37 : decode cX7_faultOf 37 = .ok (.if_icmp .ne 14, 3) := by decide +kernel
theorem dX7_faultOf_40 : decode cX7_faultOf 40 = .ok (.aload_n 0, 1) := by decide +kernel
theorem dX7_faultOf_41 : decode cX7_faultOf 41 = .ok (.iload_n 3, 1) := by decide +kernel
theorem dX7_faultOf_42 : decode cX7_faultOf 42 = .ok (.invokestatic 277, 3) := by decide +kernel
theorem dX7_faultOf_45 : decode cX7_faultOf 45 = .ok (.ifCond .ne 16, 3) := by decide +kernel
theorem dX7_faultOf_48 : decode cX7_faultOf 48 = .ok (.goto 11, 3) := by decide +kernel
theorem dX7_faultOf_51 : decode cX7_faultOf 51 = .ok (.iload 4, 2) := by decide +kernel
theorem dX7_faultOf_53 : decode cX7_faultOf 53 = .ok (.invokestatic 281, 3) := by decide +kernel
theorem dX7_faultOf_56 : decode cX7_faultOf 56 = .ok (.ifCond .ne 5, 3) := by decide +kernel
theorem dX7_faultOf_59 : decode cX7_faultOf 59 = .ok (.iload_n 3, 1) := by decide +kernel
theorem dX7_faultOf_60 : decode cX7_faultOf 60 = .ok (.ireturn, 1) := by decide +kernel
theorem dX7_faultOf_61 : decode cX7_faultOf 61 = .ok (.iload_n 1, 1) := by decide +kernel
theorem dX7_faultOf_62 : decode cX7_faultOf 62 = .ok (.iload_n 2, 1) := by decide +kernel
theorem dX7_faultOf_63 : decode cX7_faultOf 63 = .ok (.ifCond .ne 7, 3) := by decide +kernel
theorem dX7_faultOf_66 : decode cX7_faultOf 66 = .ok (.iconst 1, 1) := by decide +kernel
theorem dX7_faultOf_67 : decode cX7_faultOf 67 = .ok (.goto 4, 3) := by decide +kernel
theorem dX7_faultOf_70 : decode cX7_faultOf 70 = .ok (.iconst 0, 1) := by decide +kernel
theorem dX7_faultOf_71 : decode cX7_faultOf 71 = .ok (.iadd, 1) := by decide +kernel
theorem dX7_faultOf_72 : decode cX7_faultOf 72 = .ok (.istore_n 1, 1) := by decide +kernel
theorem dX7_faultOf_73 : decode cX7_faultOf 73 = .ok (.iinc 2 1, 3) := by decide +kernel
theorem dX7_faultOf_76 : decode cX7_faultOf 76 = .ok (.iload_n 2, 1) := by decide +kernel
theorem dX7_faultOf_77 : decode cX7_faultOf 77 = .ok (.bipush 16, 2) := by decide +kernel
theorem dX7_faultOf_79 : decode cX7_faultOf 79 = .ok (.if_icmp .gt 9, 3) := by decide +kernel
theorem dX7_faultOf_82 : decode cX7_faultOf 82 = .ok (.iload_n 1, 1) := by decide +kernel
theorem dX7_faultOf_83 : decode cX7_faultOf 83 = .ok (.bipush 30, 2) := by decide +kernel
theorem dX7_faultOf_85 : decode cX7_faultOf 85 = .ok (.if_icmp .le 5, 3) := by decide +kernel
theorem dX7_faultOf_88 : decode cX7_faultOf 88 = .ok (.iload_n 3, 1) := by decide +kernel
theorem dX7_faultOf_89 : decode cX7_faultOf 89 = .ok (.ireturn, 1) := by decide +kernel
theorem dX7_faultOf_90 : decode cX7_faultOf 90 = .ok (.iinc 3 1, 3) := by decide +kernel
theorem dX7_faultOf_93 : decode cX7_faultOf 93 = .ok (.goto (-87), 3) := by decide +kernel
theorem dX7_faultOf_96 : decode cX7_faultOf 96 = .ok (.iconst (-1), 1) := by decide +kernel
theorem dX7_faultOf_97 : decode cX7_faultOf 97 = .ok (.ireturn, 1) := by decide +kernel
theorem dX7_isBetweenSigns_0 : decode cX7_isBetweenSigns 0 = .ok (.iload_n 1, 1) := by decide +kernel
theorem dX7_isBetweenSigns_1 : decode cX7_isBetweenSigns 1 = .ok (.ifCond .le 43, 3) := by decide +kernel
theorem dX7_isBetweenSigns_4 : decode cX7_isBetweenSigns 4 = .ok (.iload_n 1, 1) := by decide +kernel
theorem dX7_isBetweenSigns_5 : decode cX7_isBetweenSigns 5 = .ok (.iconst 1, 1) := by decide +kernel
theorem dX7_isBetweenSigns_6 : decode cX7_isBetweenSigns 6 = .ok (.iadd, 1) := by decide +kernel
theorem dX7_isBetweenSigns_7 : decode cX7_isBetweenSigns 7 = .ok (.aload_n 0, 1) := by decide +kernel
theorem dX7_isBetweenSigns_8 : decode cX7_isBetweenSigns 8 = .ok (.invokevirtual 80, 3) := by decide +kernel
theorem dX7_isBetweenSigns_11 : decode cX7_isBetweenSigns 11 = .ok (.if_icmp .ge 33, 3) := by decide +kernel
theorem dX7_isBetweenSigns_14 : decode cX7_isBetweenSigns 14 = .ok (.aload_n 0, 1) := by decide +kernel
theorem dX7_isBetweenSigns_15 : decode cX7_isBetweenSigns 15 = .ok (.iload_n 1, 1) := by decide +kernel
theorem dX7_isBetweenSigns_16 : decode cX7_isBetweenSigns 16 = .ok (.iconst 1, 1) := by decide +kernel
theorem dX7_isBetweenSigns_17 : decode cX7_isBetweenSigns 17 = .ok (.isub, 1) := by decide +kernel
theorem dX7_isBetweenSigns_18 : decode cX7_isBetweenSigns 18 = .ok (.invokevirtual 252, 3) := by decide +kernel
theorem dX7_isBetweenSigns_21 : decode cX7_isBetweenSigns 21 = .ok (.invokestatic 281, 3) := by decide +kernel
theorem dX7_isBetweenSigns_24 : decode cX7_isBetweenSigns 24 = .ok (.ifCond .eq 20, 3) := by decide +kernel
theorem dX7_isBetweenSigns_27 : decode cX7_isBetweenSigns 27 = .ok (.aload_n 0, 1) := by decide +kernel
theorem dX7_isBetweenSigns_28 : decode cX7_isBetweenSigns 28 = .ok (.iload_n 1, 1) := by decide +kernel
theorem dX7_isBetweenSigns_29 : decode cX7_isBetweenSigns 29 = .ok (.iconst 1, 1) := by decide +kernel
theorem dX7_isBetweenSigns_30 : decode cX7_isBetweenSigns 30 = .ok (.iadd, 1) := by decide +kernel
theorem dX7_isBetweenSigns_31 : decode cX7_isBetweenSigns 31 = .ok (.invokevirtual 252, 3) := by decide +kernel
theorem dX7_isBetweenSigns_34 : decode cX7_isBetweenSigns 34 = .ok (.invokestatic 281, 3) := by decide +kernel
theorem dX7_isBetweenSigns_37 : decode cX7_isBetweenSigns 37 = .ok (.ifCond .eq 7, 3) := by decide +kernel
theorem dX7_isBetweenSigns_40 : decode cX7_isBetweenSigns 40 = .ok (.iconst 1, 1) := by decide +kernel
theorem dX7_isBetweenSigns_41 : decode cX7_isBetweenSigns 41 = .ok (.goto 4, 3) := by decide +kernel
theorem dX7_isBetweenSigns_44 : decode cX7_isBetweenSigns 44 = .ok (.iconst 0, 1) := by decide +kernel
theorem dX7_isBetweenSigns_45 : decode cX7_isBetweenSigns 45 = .ok (.ireturn, 1) := by decide +kernel
theorem dX8_in_0 : decode cX8_in 0 = .ok (.iload_n 0, 1) := by decide +kernel
theorem dX8_in_1 : decode cX8_in 1 = .ok (.iload_n 1, 1) := by decide +kernel
theorem dX8_in_2 : decode cX8_in 2 = .ok (.if_icmp .lt 12, 3) := by decide +kernel
theorem dX8_in_5 : decode cX8_in 5 = .ok (.iload_n 0, 1) := by decide +kernel
theorem dX8_in_6 : decode cX8_in 6 = .ok (.iload_n 2, 1) := by decide +kernel
theorem dX8_in_7 : decode cX8_in 7 = .ok (.if_icmp .gt 7, 3) := by decide +kernel
theorem dX8_in_10 : decode cX8_in 10 = .ok (.iconst 1, 1) := by decide +kernel
theorem dX8_in_11 : decode cX8_in 11 = .ok (.goto 4, 3) := by decide +kernel
theorem dX8_in_14 : decode cX8_in 14 = .ok (.iconst 0, 1) := by decide +kernel
theorem dX8_in_15 : decode cX8_in 15 = .ok (.ireturn, 1) := by decide +kernel
theorem dX8_init_0 : decode cX8_init 0 = .ok (.aload_n 0, 1) := by decide +kernel
theorem dX8_init_1 : decode cX8_init 1 = .ok (.invokespecial 1, 3) := by decide +kernel
theorem dX8_init_4 : decode cX8_init 4 = .ok (.aload_n 0, 1) := by decide +kernel
theorem dX8_init_5 : decode cX8_init 5 = .ok (.sipush 200, 3) := by decide +kernel
theorem dX8_init_8 : decode cX8_init 8 = .ok (.newarray .int, 2) := by decide +kernel
theorem dX8_init_10 : decode cX8_init 10 = .ok (.putfield 7, 3) := by decide +kernel
theorem dX8_init_13 : decode cX8_init 13 = .ok (.aload_n 0, 1) := by decide +kernel
theorem dX8_init_14 : decode cX8_init 14 = .ok (.sipush 200, 3) := by decide +kernel
theorem dX8_init_17 : decode cX8_init 17 = .ok (.newarray .int, 2) := by decide +kernel
theorem dX8_init_19 : decode cX8_init 19 = .ok (.putfield 13, 3) := by decide +kernel
theorem dX8_init_22 : decode cX8_init 22 = .ok (.aload_n 0, 1) := by decide +kernel
theorem dX8_init_23 : decode cX8_init 23 = .ok (.bipush 30, 2) := by decide +kernel
theorem dX8_init_25 : decode cX8_init 25 = .ok (.newarray .int, 2) := by decide +kernel
theorem dX8_init_27 : decode cX8_init 27 = .ok (.putfield 16, 3) := by decide +kernel
theorem dX8_init_30 : decode cX8_init 30 = .ok (.aload_n 0, 1) := by decide +kernel
theorem dX8_init_31 : decode cX8_init 31 = .ok (.bipush 30, 2) := by decide +kernel
theorem dX8_init_33 : decode cX8_init 33 = .ok (.newarray .int, 2) := by decide +kernel
theorem dX8_init_35 : decode cX8_init 35 = .ok (.putfield 19, 3) := by decide +kernel
theorem dX8_init_38 : decode cX8_init 38 = .ok (.aload_n 0, 1) := by decide +kernel
theorem dX8_init_39 : decode cX8_init 39 = .ok (.bipush 104, 2) := by decide +kernel
theorem dX8_init_41 : decode cX8_init 41 = .ok (.newarray .int, 2) := by decide +kernel
theorem dX8_init_43 : decode cX8_init 43 = .ok (.putfield 22, 3) := by decide +kernel
theorem dX8_init_46 : decode cX8_init 46 = .ok (.aload_n 0, 1) := by decide +kernel
theorem dX8_init_47 : decode cX8_init 47 = .ok (.bipush 104, 2) := by decide +kernel
theorem dX8_init_49 : decode cX8_init 49 = .ok (.newarray .int, 2) := by decide +kernel
theorem dX8_init_51 : decode cX8_init 51 = .ok (.putfield 25, 3) := by decide +kernel
theorem dX8_init_54 : decode cX8_init 54 = .ok (.aload_n 0, 1) := by decide +kernel
theorem dX8_init_55 : decode cX8_init 55 = .ok (.bipush 104, 2) := by decide +kernel
theorem dX8_init_57 : decode cX8_init 57 = .ok (.newarray .boolean, 2) := by decide +kernel
theorem dX8_init_59 : decode cX8_init 59 = .ok (.putfield 28, 3) := by decide +kernel
theorem dX8_init_62 : decode cX8_init 62 = .ok (.aload_n 0, 1) := by decide +kernel
theorem dX8_init_63 : decode cX8_init 63 = .ok (.bipush 38, 2) := by decide +kernel
theorem dX8_init_65 : decode cX8_init 65 = .ok (.newarray .int, 2) := by decide +kernel
theorem dX8_init_67 : decode cX8_init 67 = .ok (.putfield 32, 3) := by decide +kernel
theorem dX8_init_70 : decode cX8_init 70 = .ok (.aload_n 0, 1) := by decide +kernel
theorem dX8_init_71 : decode cX8_init 71 = .ok (.sipush 380, 3) := by decide +kernel
end
section
theorem dX8_init_74 : decode cX8_init 74 = .ok (.newarray .int, 2) := by decide +kernel
theorem dX8_init_76 : decode cX8_init 76 = .ok (.putfield 35, 3) := by decide +kernel
theorem dX8_init_79 : decode cX8_init 79 = .ok (.aload_n 0, 1) := by decide +kernel
theorem dX8_init_80 : decode cX8_init 80 = .ok (.iconst 2, 1) := by decide +kernel
theorem dX8_init_81 : decode cX8_init 81 = .ok (.newarray .boolean, 2) := by decide +kernel
theorem dX8_init_83 : decode cX8_init 83 = .ok (.putfield 38, 3) := by decide +kernel
theorem dX8_init_86 : decode cX8_init 86 = .ok (.aload_n 0, 1) := by decide +kernel
theorem dX8_init_87 : decode cX8_init 87 = .ok (.bipush 76, 2) := by decide +kernel
theorem dX8_init_89 : decode cX8_init 89 = .ok (.newarray .int, 2) := by decide +kernel
theorem dX8_init_91 : decode cX8_init 91 = .ok (.putfield 41, 3) := by decide +kernel
theorem dX8_init_94 : decode cX8_init 94 = .ok (.aload_n 0, 1) := by decide +kernel
theorem dX8_init_95 : decode cX8_init 95 = .ok (.bipush 104, 2) := by decide +kernel
theorem dX8_init_97 : decode cX8_init 97 = .ok (.newarray .int, 2) := by decide +kernel
theorem dX8_init_99 : decode cX8_init 99 = .ok (.putfield 44, 3) := by decide +kernel
theorem dX8_init_102 : decode cX8_init 102 = .ok (.aload_n 0, 1) := by decide +kernel
theorem dX8_init_103 : decode cX8_init 103 = .ok (.bipush 6, 2) := by decide +kernel
theorem dX8_init_105 : decode cX8_init 105 = .ok (.newarray .int, 2) := by decide +kernel
theorem dX8_init_107 : decode cX8_init 107 = .ok (.putfield 47, 3) := by decide +kernel
theorem dX8_init_110 : decode cX8_init 110 = .ok (.aload_n 0, 1) := by decide +kernel
theorem dX8_init_111 : decode cX8_init 111 = .ok (.bipush 6, 2) := by decide +kernel
theorem dX8_init_113 : decode cX8_init 113 = .ok (.newarray .int, 2) := by decide +kernel
theorem dX8_init_115 : decode cX8_init 115 = .ok (.putfield 50, 3) := by decide +kernel
theorem dX8_init_118 : decode cX8_init 118 = .ok (.aload_n 0, 1) := by decide +kernel
theorem dX8_init_119 : decode cX8_init 119 = .ok (.sipush 201, 3) := by decide +kernel
theorem dX8_init_122 : decode cX8_init 122 = .ok (.newarray .int, 2) := by decide +kernel
theorem dX8_init_124 : decode cX8_init 124 = .ok (.putfield 53, 3) := by decide +kernel
theorem dX8_init_127 : decode cX8_init 127 = .ok (.aload_n 0, 1) := by decide +kernel
theorem dX8_init_128 : decode cX8_init 128 = .ok (.bipush 105, 2) := by decide +kernel
theorem dX8_init_130 : decode cX8_init 130 = .ok (.newarray .int, 2) := by decide +kernel
theorem dX8_init_132 : decode cX8_init 132 = .ok (.putfield 56, 3) := by decide +kernel
theorem dX8_init_135 : decode cX8_init 135 = .ok (.aload_n 0, 1) := by decide +kernel
theorem dX8_init_136 : decode cX8_init 136 = .ok (.bipush 105, 2) := by decide +kernel
theorem dX8_init_138 : decode cX8_init 138 = .ok (.newarray .int, 2) := by decide +kernel
theorem dX8_init_140 : decode cX8_init 140 = .ok (.putfield 59, 3) := by decide +kernel
theorem dX8_init_143 : decode cX8_init 143 = .ok (.aload_n 0, 1) := by decide +kernel
theorem dX8_init_144 : decode cX8_init 144 = .ok (.bipush 105, 2) := by decide +kernel
theorem dX8_init_146 : decode cX8_init 146 = .ok (.newarray .int, 2) := by decide +kernel
theorem dX8_init_148 : decode cX8_init 148 = .ok (.putfield 62, 3) := by decide +kernel
theorem dX8_init_151 : decode cX8_init 151 = .ok (.aload_n 0, 1) := by decide +kernel
theorem dX8_init_152 : decode cX8_init 152 = .ok (.bipush 104, 2) := by decide +kernel
theorem dX8_init_154 : decode cX8_init 154 = .ok (.newarray .int, 2) := by decide +kernel
theorem dX8_init_156 : decode cX8_init 156 = .ok (.putfield 65, 3) := by decide +kernel
theorem dX8_init_159 : decode cX8_init 159 = .ok (.aload_n 0, 1) := by decide +kernel
theorem dX8_init_160 : decode cX8_init 160 = .ok (.bipush 30, 2) := by decide +kernel
theorem dX8_init_162 : decode cX8_init 162 = .ok (.newarray .int, 2) := by decide +kernel
theorem dX8_init_164 : decode cX8_init 164 = .ok (.putfield 68, 3) := by decide +kernel
theorem dX8_init_167 : decode cX8_init 167 = .ok (.aload_n 0, 1) := by decide +kernel
theorem dX8_init_168 : decode cX8_init 168 = .ok (.bipush 30, 2) := by decide +kernel
theorem dX8_init_170 : decode cX8_init 170 = .ok (.newarray .int, 2) := by decide +kernel
theorem dX8_init_172 : decode cX8_init 172 = .ok (.putfield 71, 3) := by decide +kernel
theorem dX8_init_175 : decode cX8_init 175 = .ok (.aload_n 0, 1) := by decide +kernel
theorem dX8_init_176 : decode cX8_init 176 = .ok (.bipush 30, 2) := by decide +kernel
theorem dX8_init_178 : decode cX8_init 178 = .ok (.newarray .int, 2) := by decide +kernel
theorem dX8_init_180 : decode cX8_init 180 = .ok (.putfield 74, 3) := by decide +kernel
theorem dX8_init_183 : decode cX8_init 183 = .ok (.aload_n 0, 1) := by decide +kernel
theorem dX8_init_184 : decode cX8_init 184 = .ok (.bipush 30, 2) := by decide +kernel
theorem dX8_init_186 : decode cX8_init 186 = .ok (.newarray .int, 2) := by decide +kernel
theorem dX8_init_188 : decode cX8_init 188 = .ok (.putfield 77, 3) := by decide +kernel
theorem dX8_init_191 : decode cX8_init 191 = .ok (.aload_n 0, 1) := by decide +kernel
theorem dX8_init_192 : decode cX8_init 192 = .ok (.bipush 30, 2) := by decide +kernel
theorem dX8_init_194 : decode cX8_init 194 = .ok (.newarray .boolean, 2) := by decide +kernel
theorem dX8_init_196 : decode cX8_init 196 = .ok (.putfield 80, 3) := by decide +kernel
theorem dX8_init_199 : decode cX8_init 199 = .ok (.aload_n 0, 1) := by decide +kernel
theorem dX8_init_200 : decode cX8_init 200 = .ok (.bipush 104, 2) := by decide +kernel
theorem dX8_init_202 : decode cX8_init 202 = .ok (.newarray .int, 2) := by decide +kernel
theorem dX8_init_204 : decode cX8_init 204 = .ok (.putfield 83, 3) := by decide +kernel
theorem dX8_init_207 : decode cX8_init 207 = .ok (.aload_n 0, 1) := by decide +kernel
theorem dX8_init_208 : decode cX8_init 208 = .ok (.invokevirtual 86, 3) := by decide +kernel
theorem dX8_init_211 : decode cX8_init 211 = .ok (.return_, 1) := by decide +kernel
theorem dX8_begins_0 : decode cX8_begins 0 = .ok (.iconst 0, 1) := by decide +kernel
theorem dX8_begins_1 : decode cX8_begins 1 = .ok (.istore_n 1, 1) := by decide +kernel
theorem dX8_begins_2 : decode cX8_begins 2 = .ok (.iload_n 1, 1) := by decide +kernel
theorem dX8_begins_3 : decode cX8_begins 3 = .ok (.bipush 38, 2) := by decide +kernel
theorem dX8_begins_5 : decode cX8_begins 5 = .ok (.if_icmp .ge 36, 3) := by decide +kernel
theorem dX8_begins_8 : decode cX8_begins 8 = .ok (.aload_n 0, 1) := by decide +kernel
theorem dX8_begins_9 : decode cX8_begins 9 = .ok (.getfield 32, 3) := by decide +kernel
theorem dX8_begins_12 : decode cX8_begins 12 = .ok (.iload_n 1, 1) := by decide +kernel
theorem dX8_begins_13 : decode cX8_begins 13 = .ok (.iload_n 1, 1) := by decide +kernel
theorem dX8_begins_14 : decode cX8_begins 14 = .ok (.bipush 26, 2) := by decide +kernel
theorem dX8_begins_16 : decode cX8_begins 16 = .ok (.if_icmp .ge 7, 3) := by decide +kernel
theorem dX8_begins_19 : decode cX8_begins 19 = .ok (.iconst 4, 1) := by decide +kernel
theorem dX8_begins_20 : decode cX8_begins 20 = .ok (.goto 14, 3) := by decide +kernel
theorem dX8_begins_23 : decode cX8_begins 23 = .ok (.iload_n 1, 1) := by decide +kernel
theorem dX8_begins_24 : decode cX8_begins 24 = .ok (.bipush 30, 2) := by decide +kernel
theorem dX8_begins_26 : decode cX8_begins 26 = .ok (.if_icmp .ge 7, 3) := by decide +kernel
theorem dX8_begins_29 : decode cX8_begins 29 = .ok (.iconst 2, 1) := by decide +kernel
theorem dX8_begins_30 : decode cX8_begins 30 = .ok (.goto 4, 3) := by decide +kernel
theorem dX8_begins_33 : decode cX8_begins 33 = .ok (.iconst 0, 1) := by decide +kernel
theorem dX8_begins_34 : decode cX8_begins 34 = .ok (.iastore, 1) := by decide +kernel
theorem dX8_begins_35 : decode cX8_begins 35 = .ok (.iinc 1 1, 3) := by decide +kernel
theorem dX8_begins_38 : decode cX8_begins 38 = .ok (.goto (-36), 3) := by decide +kernel
theorem dX8_begins_41 : decode cX8_begins 41 = .ok (.aload_n 0, 1) := by decide +kernel
theorem dX8_begins_42 : decode cX8_begins 42 = .ok (.getfield 32, 3) := by decide +kernel
theorem dX8_begins_45 : decode cX8_begins 45 = .ok (.bipush 34, 2) := by decide +kernel
theorem dX8_begins_47 : decode cX8_begins 47 = .ok (.iconst 3, 1) := by decide +kernel
theorem dX8_begins_48 : decode cX8_begins 48 = .ok (.iastore, 1) := by decide +kernel
theorem dX8_begins_49 : decode cX8_begins 49 = .ok (.aload_n 0, 1) := by decide +kernel
theorem dX8_begins_50 : decode cX8_begins 50 = .ok (.getfield 32, 3) := by decide +kernel
theorem dX8_begins_53 : decode cX8_begins 53 = .ok (.bipush 35, 2) := by decide +kernel
theorem dX8_begins_55 : decode cX8_begins 55 = .ok (.bipush 60, 2) := by decide +kernel
theorem dX8_begins_57 : decode cX8_begins 57 = .ok (.iastore, 1) := by decide +kernel
theorem dX8_begins_58 : decode cX8_begins 58 = .ok (.aload_n 0, 1) := by decide +kernel
theorem dX8_begins_59 : decode cX8_begins 59 = .ok (.getfield 32, 3) := by decide +kernel
theorem dX8_begins_62 : decode cX8_begins 62 = .ok (.bipush 36, 2) := by decide +kernel
theorem dX8_begins_64 : decode cX8_begins 64 = .ok (.bipush 50, 2) := by decide +kernel
theorem dX8_begins_66 : decode cX8_begins 66 = .ok (.iastore, 1) := by decide +kernel
theorem dX8_begins_67 : decode cX8_begins 67 = .ok (.aload_n 0, 1) := by decide +kernel
theorem dX8_begins_68 : decode cX8_begins 68 = .ok (.getfield 32, 3) := by decide +kernel
theorem dX8_begins_71 : decode cX8_begins 71 = .ok (.bipush 37, 2) := by decide +kernel
theorem dX8_begins_73 : decode cX8_begins 73 = .ok (.bipush 100, 2) := by decide +kernel
theorem dX8_begins_75 : decode cX8_begins 75 = .ok (.iastore, 1) := by decide +kernel
theorem dX8_begins_76 : decode cX8_begins 76 = .ok (.aload_n 0, 1) := by decide +kernel
theorem dX8_begins_77 : decode cX8_begins 77 = .ok (.iconst 0, 1) := by decide +kernel
theorem dX8_begins_78 : decode cX8_begins 78 = .ok (.putfield 89, 3) := by decide +kernel
theorem dX8_begins_81 : decode cX8_begins 81 = .ok (.aload_n 0, 1) := by decide +kernel
theorem dX8_begins_82 : decode cX8_begins 82 = .ok (.iconst 0, 1) := by decide +kernel
theorem dX8_begins_83 : decode cX8_begins 83 = .ok (.putfield 93, 3) := by decide +kernel
theorem dX8_begins_86 : decode cX8_begins 86 = .ok (.aload_n 0, 1) := by decide +kernel
theorem dX8_begins_87 : decode cX8_begins 87 = .ok (.iconst 0, 1) := by decide +kernel
theorem dX8_begins_88 : decode cX8_begins 88 = .ok (.putfield 96, 3) := by decide +kernel
theorem dX8_begins_91 : decode cX8_begins 91 = .ok (.aload_n 0, 1) := by decide +kernel
theorem dX8_begins_92 : decode cX8_begins 92 = .ok (.getfield 38, 3) := by decide +kernel
theorem dX8_begins_95 : decode cX8_begins 95 = .ok (.iconst 0, 1) := by decide +kernel
theorem dX8_begins_96 : decode cX8_begins 96 = .ok (.iconst 0, 1) := by decide +kernel
theorem dX8_begins_97 : decode cX8_begins 97 = .ok (.bastore, 1) := by decide +kernel
theorem dX8_begins_98 : decode cX8_begins 98 = .ok (.aload_n 0, 1) := by decide +kernel
theorem dX8_begins_99 : decode cX8_begins 99 = .ok (.getfield 38, 3) := by decide +kernel
theorem dX8_begins_102 : decode cX8_begins 102 = .ok (.iconst 1, 1) := by decide +kernel
theorem dX8_begins_103 : decode cX8_begins 103 = .ok (.iconst 0, 1) := by decide +kernel
theorem dX8_begins_104 : decode cX8_begins 104 = .ok (.bastore, 1) := by decide +kernel
theorem dX8_begins_105 : decode cX8_begins 105 = .ok (.return_, 1) := by decide +kernel
theorem dX8_type_0 : decode cX8_type 0 = .ok (.iload_n 1, 1) := by decide +kernel
theorem dX8_type_1 : decode cX8_type 1 = .ok (.iconst 0, 1) := by decide +kernel
theorem dX8_type_2 : decode cX8_type 2 = .ok (.sipush 255, 3) := by decide +kernel
theorem dX8_type_5 : decode cX8_type 5 = .ok (.invokestatic 99, 3) := by decide +kernel
theorem dX8_type_8 : decode cX8_type 8 = .ok (.ifCond .ne 5, 3) := by decide +kernel
theorem dX8_type_11 : decode cX8_type 11 = .ok (.iconst (-1), 1) := by decide +kernel
theorem dX8_type_12 : decode cX8_type 12 = .ok (.ireturn, 1) := by decide +kernel
theorem dX8_type_13 : decode cX8_type 13 = .ok (.aload_n 0, 1) := by decide +kernel
theorem dX8_type_14 : decode cX8_type 14 = .ok (.getfield 103, 3) := by decide +kernel
theorem dX8_type_17 : decode cX8_type 17 = .ok (.sipush 200, 3) := by decide +kernel
theorem dX8_type_20 : decode cX8_type 20 = .ok (.if_icmp .ne 6, 3) := by decide +kernel
theorem dX8_type_23 : decode cX8_type 23 = .ok (.bipush (-3), 2) := by decide +kernel
theorem dX8_type_25 : decode cX8_type 25 = .ok (.ireturn, 1) := by decide +kernel
theorem dX8_type_26 : decode cX8_type 26 = .ok (.aload_n 0, 1) := by decide +kernel
theorem dX8_type_27 : decode cX8_type 27 = .ok (.getfield 7, 3) := by decide +kernel
theorem dX8_type_30 : decode cX8_type 30 = .ok (.aload_n 0, 1) := by decide +kernel
theorem dX8_type_31 : decode cX8_type 31 = .ok (.getfield 103, 3) := by decide +kernel
theorem dX8_type_34 : decode cX8_type 34 = .ok (.iload_n 1, 1) := by decide +kernel
theorem dX8_type_35 : decode cX8_type 35 = .ok (.iastore, 1) := by decide +kernel
theorem dX8_type_36 : decode cX8_type 36 = .ok (.aload_n 0, 1) := by decide +kernel
theorem dX8_type_37 : decode cX8_type 37 = .ok (.dup, 1) := by decide +kernel
theorem dX8_type_38 : decode cX8_type 38 = .ok (.getfield 103, 3) := by decide +kernel
theorem dX8_type_41 : decode cX8_type 41 = .ok (.iconst 1, 1) := by decide +kernel
theorem dX8_type_42 : decode cX8_type 42 = .ok (.iadd, 1) := by decide +kernel
theorem dX8_type_43 : decode cX8_type 43 = .ok (.putfield 103, 3) := by decide +kernel
theorem dX8_type_46 : decode cX8_type 46 = .ok (.aload_n 0, 1) := by decide +kernel
theorem dX8_type_47 : decode cX8_type 47 = .ok (.getfield 103, 3) := by decide +kernel
theorem dX8_type_50 : decode cX8_type 50 = .ok (.ireturn, 1) := by decide +kernel
theorem dX8_clear_0 : decode cX8_clear 0 = .ok (.aload_n 0, 1) := by decide +kernel
theorem dX8_clear_1 : decode cX8_clear 1 = .ok (.getfield 103, 3) := by decide +kernel
theorem dX8_clear_4 : decode cX8_clear 4 = .ok (.istore_n 1, 1) := by decide +kernel
theorem dX8_clear_5 : decode cX8_clear 5 = .ok (.aload_n 0, 1) := by decide +kernel
theorem dX8_clear_6 : decode cX8_clear 6 = .ok (.iconst 0, 1) := by decide +kernel
theorem dX8_clear_7 : decode cX8_clear 7 = .ok (.putfield 103, 3) := by decide +kernel
theorem dX8_clear_10 : decode cX8_clear 10 = .ok (.iload_n 1, 1) := by decide +kernel
theorem dX8_clear_11 : decode cX8_clear 11 = .ok (.ireturn, 1) := by decide +kernel
theorem dX8_markOf_0 : decode cX8_markOf 0 = .ok (.iload_n 0, 1) := by decide +kernel
theorem dX8_markOf_1 : decode cX8_markOf 1 = .ok (.bipush 46, 2) := by decide +kernel
theorem dX8_markOf_3 : decode cX8_markOf 3 = .ok (.if_icmp .ne 7, 3) := by decide +kernel
theorem dX8_markOf_6 : decode cX8_markOf 6 = .ok (.iconst 0, 1) := by decide +kernel
theorem dX8_markOf_7 : decode cX8_markOf 7 = .ok (.goto 35, 3) := by decide +kernel
theorem dX8_markOf_10 : decode cX8_markOf 10 = .ok (.iload_n 0, 1) := by decide +kernel
theorem dX8_markOf_11 : decode cX8_markOf 11 = .ok (.bipush 44, 2) := by decide +kernel
theorem dX8_markOf_13 : decode cX8_markOf 13 = .ok (.if_icmp .ne 7, 3) := by decide +kernel
theorem dX8_markOf_16 : decode cX8_markOf 16 = .ok (.iconst 1, 1) := by decide +kernel
theorem dX8_markOf_17 : decode cX8_markOf 17 = .ok (.goto 25, 3) := by decide +kernel
theorem dX8_markOf_20 : decode cX8_markOf 20 = .ok (.iload_n 0, 1) := by decide +kernel
theorem dX8_markOf_21 : decode cX8_markOf 21 = .ok (.bipush 45, 2) := by decide +kernel
theorem dX8_markOf_23 : decode cX8_markOf 23 = .ok (.if_icmp .ne 7, 3) := by decide +kernel
theorem dX8_markOf_26 : decode cX8_markOf 26 = .ok (.iconst 2, 1) := by decide +kernel
theorem dX8_markOf_27 : decode cX8_markOf 27 = .ok (.goto 15, 3) := by decide +kernel
theorem dX8_markOf_30 : decode cX8_markOf 30 = .ok (.iload_n 0, 1) := by decide +kernel
theorem dX8_markOf_31 : decode cX8_markOf 31 = .ok (.bipush 39, 2) := by decide +kernel
theorem dX8_markOf_33 : decode cX8_markOf 33 = .ok (.if_icmp .ne 7, 3) := by decide +kernel
theorem dX8_markOf_36 : decode cX8_markOf 36 = .ok (.iconst 3, 1) := by decide +kernel
theorem dX8_markOf_37 : decode cX8_markOf 37 = .ok (.goto 5, 3) := by decide +kernel
theorem dX8_markOf_40 : decode cX8_markOf 40 = .ok (.bipush (-9), 2) := by decide +kernel
theorem dX8_markOf_42 : decode cX8_markOf 42 = .ok (.ireturn, 1) := by decide +kernel
theorem dX8_isWhole_0 : decode cX8_isWhole 0 = .ok (.iload_n 0, 1) := by decide +kernel
theorem dX8_isWhole_1 : decode cX8_isWhole 1 = .ok (.bipush 97, 2) := by decide +kernel
theorem dX8_isWhole_3 : decode cX8_isWhole 3 = .ok (.bipush 122, 2) := by decide +kernel
theorem dX8_isWhole_5 : decode cX8_isWhole 5 = .ok (.invokestatic 99, 3) := by decide +kernel
theorem dX8_isWhole_8 : decode cX8_isWhole 8 = .ok (.ifCond .ne 12, 3) := by decide +kernel
theorem dX8_isWhole_11 : decode cX8_isWhole 11 = .ok (.iload_n 0, 1) := by decide +kernel
theorem dX8_isWhole_12 : decode cX8_isWhole 12 = .ok (.invokestatic 106, 3) := by decide +kernel
theorem dX8_isWhole_15 : decode cX8_isWhole 15 = .ok (.bipush (-9), 2) := by decide +kernel
theorem dX8_isWhole_17 : decode cX8_isWhole 17 = .ok (.if_icmp .eq 7, 3) := by decide +kernel
theorem dX8_isWhole_20 : decode cX8_isWhole 20 = .ok (.iconst 1, 1) := by decide +kernel
theorem dX8_isWhole_21 : decode cX8_isWhole 21 = .ok (.goto 4, 3) := by decide +kernel
theorem dX8_isWhole_24 : decode cX8_isWhole 24 = .ok (.iconst 0, 1) := by decide +kernel
theorem dX8_isWhole_25 : decode cX8_isWhole 25 = .ok (.ireturn, 1) := by decide +kernel
theorem dX8_isWholeAt_0 : decode cX8_isWholeAt 0 = .ok (.iload_n 1, 1) := by decide +kernel
theorem dX8_isWholeAt_1 : decode cX8_isWholeAt 1 = .ok (.iconst 0, 1) := by decide +kernel
theorem dX8_isWholeAt_2 : decode cX8_isWholeAt 2 = .ok (.aload_n 0, 1) := by decide +kernel
theorem dX8_isWholeAt_3 : decode cX8_isWholeAt 3 = .ok (.getfield 103, 3) := by decide +kernel
theorem dX8_isWholeAt_6 : decode cX8_isWholeAt 6 = .ok (.iconst 1, 1) := by decide +kernel
theorem dX8_isWholeAt_7 : decode cX8_isWholeAt 7 = .ok (.isub, 1) := by decide +kernel
theorem dX8_isWholeAt_8 : decode cX8_isWholeAt 8 = .ok (.invokestatic 99, 3) := by decide +kernel
theorem dX8_isWholeAt_11 : decode cX8_isWholeAt 11 = .ok (.ifCond .eq 19, 3) := by decide +kernel
theorem dX8_isWholeAt_14 : decode cX8_isWholeAt 14 = .ok (.aload_n 0, 1) := by decide +kernel
theorem dX8_isWholeAt_15 : decode cX8_isWholeAt 15 = .ok (.getfield 7, 3) := by decide +kernel
theorem dX8_isWholeAt_18 : decode cX8_isWholeAt 18 = .ok (.iload_n 1, 1) := by decide +kernel
theorem dX8_isWholeAt_19 : decode cX8_isWholeAt 19 = .ok (.iaload, 1) := by decide +kernel
theorem dX8_isWholeAt_20 : decode cX8_isWholeAt 20 = .ok (.invokestatic 110, 3) := by decide +kernel
theorem dX8_isWholeAt_23 : decode cX8_isWholeAt 23 = .ok (.ifCond .eq 7, 3) := by decide +kernel
theorem dX8_isWholeAt_26 : decode cX8_isWholeAt 26 = .ok (.iconst 1, 1) := by decide +kernel
theorem dX8_isWholeAt_27 : decode cX8_isWholeAt 27 = .ok (.goto 4, 3) := by decide +kernel
theorem dX8_isWholeAt_30 : decode cX8_isWholeAt 30 = .ok (.iconst 0, 1) := by decide +kernel
theorem dX8_isWholeAt_31 : decode cX8_isWholeAt 31 = .ok (.ireturn, 1) := by decide +kernel
theorem dX8_fault_0 : decode cX8_fault 0 = .ok (.iconst 0, 1) := by decide +kernel
theorem dX8_fault_1 : decode cX8_fault 1 = .ok (.istore_n 1, 1) := by decide +kernel
theorem dX8_fault_2 : decode cX8_fault 2 = .ok (.iconst 0, 1) := by decide +kernel
theorem dX8_fault_3 : decode cX8_fault 3 = .ok (.istore_n 2, 1) := by decide +kernel
theorem dX8_fault_4 : decode cX8_fault 4 = .ok (.iconst 0, 1) := by decide +kernel
theorem dX8_fault_5 : decode cX8_fault 5 = .ok (.istore_n 3, 1) := by decide +kernel
theorem dX8_fault_6 : decode cX8_fault 6 = .ok (.iload_n 3, 1) := by decide +kernel
theorem dX8_fault_7 : decode cX8_fault 7 = .ok (.aload_n 0, 1) := by decide +kernel
theorem dX8_fault_8 : decode cX8_fault 8 = .ok (.getfield 103, 3) := by decide +kernel
theorem dX8_fault_11 : decode cX8_fault 11 = .ok (.if_icmp .ge 121, 3) := by decide +kernel
theorem dX8_fault_14 : decode cX8_fault 14 = .ok (.aload_n 0, 1) := by decide +kernel
theorem dX8_fault_15 : decode cX8_fault 15 = .ok (.getfield 7, 3) := by decide +kernel
theorem dX8_fault_18 : decode cX8_fault 18 = .ok (.iload_n 3, 1) := by decide +kernel
theorem dX8_fault_19 : decode cX8_fault 19 = .ok (.iaload, 1) := by decide +kernel
theorem dX8_fault_20 : decode cX8_fault 20 = .ok (.istore 4, 2) := by decide +kernel
theorem dX8_fault_22 : decode cX8_fault 22 = .ok (.iload 4, 2) := by decide +kernel
theorem dX8_fault_24 : decode cX8_fault 24 = .ok (.bipush 47, 2) := by decide +kernel
theorem dX8_fault_26 : decode cX8_fault 26 = .ok (.if_icmp .ne 27, 3) := by decide +kernel
theorem dX8_fault_29 : decode cX8_fault 29 = .ok (.aload_n 0, 1) := by decide +kernel
theorem dX8_fault_30 : decode cX8_fault 30 = .ok (.iload_n 3, 1) := by decide +kernel
theorem dX8_fault_31 : decode cX8_fault 31 = .ok (.iconst 1, 1) := by decide +kernel
theorem dX8_fault_32 : decode cX8_fault 32 = .ok (.isub, 1) := by decide +kernel
theorem dX8_fault_33 : decode cX8_fault 33 = .ok (.invokevirtual 114, 3) := by decide +kernel
theorem dX8_fault_36 : decode cX8_fault 36 = .ok (.ifCond .eq 17, 3) := by decide +kernel
theorem dX8_fault_39 : decode cX8_fault 39 = .ok (.aload_n 0, 1) := by decide +kernel
theorem dX8_fault_40 : decode cX8_fault 40 = .ok (.iload_n 3, 1) := by decide +kernel
theorem dX8_fault_41 : decode cX8_fault 41 = .ok (.iconst 1, 1) := by decide +kernel
theorem dX8_fault_42 : decode cX8_fault 42 = .ok (.iadd, 1) := by decide +kernel
theorem dX8_fault_43 : decode cX8_fault 43 = .ok (.invokevirtual 114, 3) := by decide +kernel
theorem dX8_fault_46 : decode cX8_fault 46 = .ok (.ifCond .eq 7, 3) := by decide +kernel
theorem dX8_fault_49 : decode cX8_fault 49 = .ok (.iconst 1, 1) := by decide +kernel
theorem dX8_fault_50 : decode cX8_fault 50 = .ok (.goto 4, 3) := by decide +kernel
theorem dX8_fault_53 : decode cX8_fault 53 = .ok (.iconst 0, 1) := by decide +kernel
theorem dX8_fault_54 : decode cX8_fault 54 = .ok (.istore 5, 2) := by decide +kernel
theorem dX8_fault_56 : decode cX8_fault 56 = .ok (.iload 4, 2) := by decide +kernel
theorem dX8_fault_58 : decode cX8_fault 58 = .ok (.bipush 32, 2) := by decide +kernel
theorem dX8_fault_60 : decode cX8_fault 60 = .ok (.if_icmp .eq 18, 3) := by decide +kernel
theorem dX8_fault_63 : decode cX8_fault 63 = .ok (.iload 4, 2) := by decide +kernel
theorem dX8_fault_65 : decode cX8_fault 65 = .ok (.invokestatic 110, 3) := by decide +kernel
theorem dX8_fault_68 : decode cX8_fault 68 = .ok (.ifCond .ne 10, 3) := by decide +kernel
theorem dX8_fault_71 : decode cX8_fault 71 = .ok (.iload 5, 2) := by decide +kernel
theorem dX8_fault_73 : decode cX8_fault 73 = .ok (.ifCond .ne 5, 3) := by decide +kernel
theorem dX8_fault_76 : decode cX8_fault 76 = .ok (.iload_n 3, 1) := by decide +kernel
theorem dX8_fault_77 : decode cX8_fault 77 = .ok (.ireturn, 1) := by decide +kernel
theorem dX8_fault_78 : decode cX8_fault 78 = .ok (.iload_n 1, 1) := by decide +kernel
theorem dX8_fault_79 : decode cX8_fault 79 = .ok (.iload 4, 2) := by decide +kernel
theorem dX8_fault_81 : decode cX8_fault 81 = .ok (.bipush 32, 2) := by decide +kernel
theorem dX8_fault_83 : decode cX8_fault 83 = .ok (.if_icmp .eq 11, 3) := by decide +kernel
theorem dX8_fault_86 : decode cX8_fault 86 = .ok (.iload_n 2, 1) := by decide +kernel
theorem dX8_fault_87 : decode cX8_fault 87 = .ok (.ifCond .ne 7, 3) := by decide +kernel
theorem dX8_fault_90 : decode cX8_fault 90 = .ok (.iconst 1, 1) := by decide +kernel
theorem dX8_fault_91 : decode cX8_fault 91 = .ok (.goto 4, 3) := by decide +kernel
theorem dX8_fault_94 : decode cX8_fault 94 = .ok (.iconst 0, 1) := by decide +kernel
theorem dX8_fault_95 : decode cX8_fault 95 = .ok (.iadd, 1) := by decide +kernel
theorem dX8_fault_96 : decode cX8_fault 96 = .ok (.istore_n 1, 1) := by decide +kernel
theorem dX8_fault_97 : decode cX8_fault 97 = .ok (.iload 4, 2) := by decide +kernel
theorem dX8_fault_99 : decode cX8_fault 99 = .ok (.bipush 32, 2) := by decide +kernel
theorem dX8_fault_101 : decode cX8_fault 101 = .ok (.if_icmp .ne 7, 3) := by decide +kernel
theorem dX8_fault_104 : decode cX8_fault 104 = .ok (.iconst 0, 1) := by decide +kernel
theorem dX8_fault_105 : decode cX8_fault 105 = .ok (.goto 6, 3) := by decide +kernel
theorem dX8_fault_108 : decode cX8_fault 108 = .ok (.iload_n 2, 1) := by decide +kernel
theorem dX8_fault_109 : decode cX8_fault 109 = .ok (.iconst 1, 1) := by decide +kernel
theorem dX8_fault_110 : decode cX8_fault 110 = .ok (.iadd, 1) := by decide +kernel
theorem dX8_fault_111 : decode cX8_fault 111 = .ok (.istore_n 2, 1) := by decide +kernel
theorem dX8_fault_112 : decode cX8_fault 112 = .ok (.iload_n 2, 1) := by decide +kernel
theorem dX8_fault_113 : decode cX8_fault 113 = .ok (.bipush 16, 2) := by decide +kernel
theorem dX8_fault_115 : decode cX8_fault 115 = .ok (.if_icmp .gt 9, 3) := by decide +kernel
theorem dX8_fault_118 : decode cX8_fault 118 = .ok (.iload_n 1, 1) := by decide +kernel
theorem dX8_fault_119 : decode cX8_fault 119 = .ok (.bipush 30, 2) := by decide +kernel
theorem dX8_fault_121 : decode cX8_fault 121 = .ok (.if_icmp .le 5, 3) := by decide +kernel
theorem dX8_fault_124 : decode cX8_fault 124 = .ok (.iload_n 3, 1) := by decide +kernel
theorem dX8_fault_125 : decode cX8_fault 125 = .ok (.ireturn, 1) := by decide +kernel
theorem dX8_fault_126 : decode cX8_fault 126 = .ok (.iinc 3 1, 3) := by decide +kernel
theorem dX8_fault_129 : decode cX8_fault 129 = .ok (.goto (-123), 3) := by decide +kernel
theorem dX8_fault_132 : decode cX8_fault 132 = .ok (.bipush (-9), 2) := by decide +kernel
theorem dX8_fault_134 : decode cX8_fault 134 = .ok (.ireturn, 1) := by decide +kernel
theorem dX8_laysPlace_0 : decode cX8_laysPlace 0 = .ok (.aload_n 0, 1) := by decide +kernel
theorem dX8_laysPlace_1 : decode cX8_laysPlace 1 = .ok (.getfield 22, 3) := by decide +kernel
theorem dX8_laysPlace_4 : decode cX8_laysPlace 4 = .ok (.aload_n 0, 1) := by decide +kernel
theorem dX8_laysPlace_5 : decode cX8_laysPlace 5 = .ok (.getfield 117, 3) := by decide +kernel
theorem dX8_laysPlace_8 : decode cX8_laysPlace 8 = .ok (.iload_n 1, 1) := by decide +kernel
theorem dX8_laysPlace_9 : decode cX8_laysPlace 9 = .ok (.iastore, 1) := by decide +kernel
theorem dX8_laysPlace_10 : decode cX8_laysPlace 10 = .ok (.aload_n 0, 1) := by decide +kernel
theorem dX8_laysPlace_11 : decode cX8_laysPlace 11 = .ok (.getfield 25, 3) := by decide +kernel
theorem dX8_laysPlace_14 : decode cX8_laysPlace 14 = .ok (.aload_n 0, 1) := by decide +kernel
theorem dX8_laysPlace_15 : decode cX8_laysPlace 15 = .ok (.getfield 117, 3) := by decide +kernel
theorem dX8_laysPlace_18 : decode cX8_laysPlace 18 = .ok (.iload_n 2, 1) := by decide +kernel
theorem dX8_laysPlace_19 : decode cX8_laysPlace 19 = .ok (.iastore, 1) := by decide +kernel
theorem dX8_laysPlace_20 : decode cX8_laysPlace 20 = .ok (.aload_n 0, 1) := by decide +kernel
theorem dX8_laysPlace_21 : decode cX8_laysPlace 21 = .ok (.getfield 28, 3) := by decide +kernel
theorem dX8_laysPlace_24 : decode cX8_laysPlace 24 = .ok (.aload_n 0, 1) := by decide +kernel
theorem dX8_laysPlace_25 : decode cX8_laysPlace 25 = .ok (.getfield 117, 3) := by decide +kernel
theorem dX8_laysPlace_28 : decode cX8_laysPlace 28 = .ok (.iload_n 3, 1) := by decide +kernel
theorem dX8_laysPlace_29 : decode cX8_laysPlace 29 = .ok (.bastore, 1) := by decide +kernel
theorem dX8_laysPlace_30 : decode cX8_laysPlace 30 = .ok (.aload_n 0, 1) := by decide +kernel
theorem dX8_laysPlace_31 : decode cX8_laysPlace 31 = .ok (.dup, 1) := by decide +kernel
theorem dX8_laysPlace_32 : decode cX8_laysPlace 32 = .ok (.getfield 117, 3) := by decide +kernel
theorem dX8_laysPlace_35 : decode cX8_laysPlace 35 = .ok (.iconst 1, 1) := by decide +kernel
theorem dX8_laysPlace_36 : decode cX8_laysPlace 36 = .ok (.iadd, 1) := by decide +kernel
theorem dX8_laysPlace_37 : decode cX8_laysPlace 37 = .ok (.putfield 117, 3) := by decide +kernel
theorem dX8_laysPlace_40 : decode cX8_laysPlace 40 = .ok (.return_, 1) := by decide +kernel
theorem dX8_words_0 : decode cX8_words 0 = .ok (.aload_n 0, 1) := by decide +kernel
theorem dX8_words_1 : decode cX8_words 1 = .ok (.invokevirtual 120, 3) := by decide +kernel
theorem dX8_words_4 : decode cX8_words 4 = .ok (.istore_n 1, 1) := by decide +kernel
theorem dX8_words_5 : decode cX8_words 5 = .ok (.iload_n 1, 1) := by decide +kernel
theorem dX8_words_6 : decode cX8_words 6 = .ok (.bipush (-9), 2) := by decide +kernel
theorem dX8_words_8 : decode cX8_words 8 = .ok (.if_icmp .eq 8, 3) := by decide +kernel
theorem dX8_words_11 : decode cX8_words 11 = .ok (.bipush (-10), 2) := by decide +kernel
theorem dX8_words_13 : decode cX8_words 13 = .ok (.iload_n 1, 1) := by decide +kernel
theorem dX8_words_14 : decode cX8_words 14 = .ok (.isub, 1) := by decide +kernel
theorem dX8_words_15 : decode cX8_words 15 = .ok (.ireturn, 1) := by decide +kernel
theorem dX8_words_16 : decode cX8_words 16 = .ok (.aload_n 0, 1) := by decide +kernel
theorem dX8_words_17 : decode cX8_words 17 = .ok (.aload_n 0, 1) := by decide +kernel
theorem dX8_words_18 : decode cX8_words 18 = .ok (.getfield 103, 3) := by decide +kernel
theorem dX8_words_21 : decode cX8_words 21 = .ok (.putfield 124, 3) := by decide +kernel
theorem dX8_words_24 : decode cX8_words 24 = .ok (.aload_n 0, 1) := by decide +kernel
theorem dX8_words_25 : decode cX8_words 25 = .ok (.iconst 0, 1) := by decide +kernel
theorem dX8_words_26 : decode cX8_words 26 = .ok (.putfield 127, 3) := by decide +kernel
theorem dX8_words_29 : decode cX8_words 29 = .ok (.aload_n 0, 1) := by decide +kernel
theorem dX8_words_30 : decode cX8_words 30 = .ok (.iconst 0, 1) := by decide +kernel
theorem dX8_words_31 : decode cX8_words 31 = .ok (.putfield 117, 3) := by decide +kernel
theorem dX8_words_34 : decode cX8_words 34 = .ok (.iconst 0, 1) := by decide +kernel
theorem dX8_words_35 : decode cX8_words 35 = .ok (.istore_n 2, 1) := by decide +kernel
theorem dX8_words_36 : decode cX8_words 36 = .ok (.iload_n 2, 1) := by decide +kernel
theorem dX8_words_37 : decode cX8_words 37 = .ok (.aload_n 0, 1) := by decide +kernel
theorem dX8_words_38 : decode cX8_words 38 = .ok (.getfield 124, 3) := by decide +kernel
theorem dX8_words_41 : decode cX8_words 41 = .ok (.if_icmp .ge 157, 3) := by decide +kernel
theorem dX8_words_44 : decode cX8_words 44 = .ok (.aload_n 0, 1) := by decide +kernel
theorem dX8_words_45 : decode cX8_words 45 = .ok (.getfield 13, 3) := by decide +kernel
theorem dX8_words_48 : decode cX8_words 48 = .ok (.iload_n 2, 1) := by decide +kernel
theorem dX8_words_49 : decode cX8_words 49 = .ok (.aload_n 0, 1) := by decide +kernel
theorem dX8_words_50 : decode cX8_words 50 = .ok (.getfield 7, 3) := by decide +kernel
theorem dX8_words_53 : decode cX8_words 53 = .ok (.iload_n 2, 1) := by decide +kernel
theorem dX8_words_54 : decode cX8_words 54 = .ok (.iaload, 1) := by decide +kernel
theorem dX8_words_55 : decode cX8_words 55 = .ok (.iastore, 1) := by decide +kernel
theorem dX8_words_56 : decode cX8_words 56 = .ok (.aload_n 0, 1) := by decide +kernel
theorem dX8_words_57 : decode cX8_words 57 = .ok (.getfield 7, 3) := by decide +kernel
theorem dX8_words_60 : decode cX8_words 60 = .ok (.iload_n 2, 1) := by decide +kernel
theorem dX8_words_61 : decode cX8_words 61 = .ok (.iaload, 1) := by decide +kernel
theorem dX8_words_62 : decode cX8_words 62 = .ok (.bipush 32, 2) := by decide +kernel
theorem dX8_words_64 : decode cX8_words 64 = .ok (.if_icmp .eq 7, 3) := by decide +kernel
theorem dX8_words_67 : decode cX8_words 67 = .ok (.iconst 1, 1) := by decide +kernel
theorem dX8_words_68 : decode cX8_words 68 = .ok (.goto 4, 3) := by decide +kernel
theorem dX8_words_71 : decode cX8_words 71 = .ok (.iconst 0, 1) := by decide +kernel
theorem dX8_words_72 : decode cX8_words 72 = .ok (.istore_n 3, 1) := by decide +kernel
theorem dX8_words_73 : decode cX8_words 73 = .ok (.iload_n 3, 1) := by decide +kernel
theorem dX8_words_74 : decode cX8_words 74 = .ok (.ifCond .eq 40, 3) := by decide +kernel
theorem dX8_words_77 : decode cX8_words 77 = .ok (.iload_n 2, 1) := by decide +kernel
theorem dX8_words_78 : decode cX8_words 78 = .ok (.ifCond .eq 16, 3) := by decide +kernel
theorem dX8_words_81 : decode cX8_words 81 = .ok (.aload_n 0, 1) := by decide +kernel
theorem dX8_words_82 : decode cX8_words 82 = .ok (.getfield 7, 3) := by decide +kernel
theorem dX8_words_85 : decode cX8_words 85 = .ok (.iload_n 2, 1) := by decide +kernel
theorem dX8_words_86 : decode cX8_words 86 = .ok (.iconst 1, 1) := by decide +kernel
theorem dX8_words_87 : decode cX8_words 87 = .ok (.isub, 1) := by decide +kernel
theorem dX8_words_88 : decode cX8_words 88 = .ok (.iaload, 1) := by decide +kernel
theorem dX8_words_89 : decode cX8_words 89 = .ok (.bipush 32, 2) := by decide +kernel
theorem dX8_words_91 : decode cX8_words 91 = .ok (.if_icmp .ne 23, 3) := by decide +kernel
theorem dX8_words_94 : decode cX8_words 94 = .ok (.aload_n 0, 1) := by decide +kernel
theorem dX8_words_95 : decode cX8_words 95 = .ok (.getfield 16, 3) := by decide +kernel
theorem dX8_words_98 : decode cX8_words 98 = .ok (.aload_n 0, 1) := by decide +kernel
theorem dX8_words_99 : decode cX8_words 99 = .ok (.getfield 127, 3) := by decide +kernel
theorem dX8_words_102 : decode cX8_words 102 = .ok (.iload_n 2, 1) := by decide +kernel
theorem dX8_words_103 : decode cX8_words 103 = .ok (.iastore, 1) := by decide +kernel
theorem dX8_words_104 : decode cX8_words 104 = .ok (.aload_n 0, 1) := by decide +kernel
theorem dX8_words_105 : decode cX8_words 105 = .ok (.dup, 1) := by decide +kernel
theorem dX8_words_106 : decode cX8_words 106 = .ok (.getfield 127, 3) := by decide +kernel
theorem dX8_words_109 : decode cX8_words 109 = .ok (.iconst 1, 1) := by decide +kernel
theorem dX8_words_110 : decode cX8_words 110 = .ok (.iadd, 1) := by decide +kernel
theorem dX8_words_111 : decode cX8_words 111 = .ok (.putfield 127, 3) := by decide +kernel
theorem dX8_words_114 : decode cX8_words 114 = .ok (.aload_n 0, 1) := by decide +kernel
theorem dX8_words_115 : decode cX8_words 115 = .ok (.getfield 7, 3) := by decide +kernel
theorem dX8_words_118 : decode cX8_words 118 = .ok (.iload_n 2, 1) := by decide +kernel
theorem dX8_words_119 : decode cX8_words 119 = .ok (.iaload, 1) := by decide +kernel
theorem dX8_words_120 : decode cX8_words 120 = .ok (.bipush 47, 2) := by decide +kernel
theorem dX8_words_122 : decode cX8_words 122 = .ok (.if_icmp .ne 15, 3) := by decide +kernel
theorem dX8_words_125 : decode cX8_words 125 = .ok (.aload_n 0, 1) := by decide +kernel
theorem dX8_words_126 : decode cX8_words 126 = .ok (.aload_n 0, 1) := by decide +kernel
theorem dX8_words_127 : decode cX8_words 127 = .ok (.getfield 127, 3) := by decide +kernel
theorem dX8_words_130 : decode cX8_words 130 = .ok (.iconst 1, 1) := by decide +kernel
theorem dX8_words_131 : decode cX8_words 131 = .ok (.isub, 1) := by decide +kernel
theorem dX8_words_132 : decode cX8_words 132 = .ok (.iload_n 2, 1) := by decide +kernel
theorem dX8_words_133 : decode cX8_words 133 = .ok (.iconst 1, 1) := by decide +kernel
theorem dX8_words_134 : decode cX8_words 134 = .ok (.invokevirtual 130, 3) := by decide +kernel
theorem dX8_words_137 : decode cX8_words 137 = .ok (.iload_n 3, 1) := by decide +kernel
theorem dX8_words_138 : decode cX8_words 138 = .ok (.ifCond .eq 54, 3) := by decide +kernel
theorem dX8_words_141 : decode cX8_words 141 = .ok (.iload_n 2, 1) := by decide +kernel
theorem dX8_words_142 : decode cX8_words 142 = .ok (.iconst 1, 1) := by decide +kernel
theorem dX8_words_143 : decode cX8_words 143 = .ok (.iadd, 1) := by decide +kernel
theorem dX8_words_144 : decode cX8_words 144 = .ok (.aload_n 0, 1) := by decide +kernel
theorem dX8_words_145 : decode cX8_words 145 = .ok (.getfield 124, 3) := by decide +kernel
theorem dX8_words_148 : decode cX8_words 148 = .ok (.if_icmp .eq 16, 3) := by decide +kernel
theorem dX8_words_151 : decode cX8_words 151 = .ok (.aload_n 0, 1) := by decide +kernel
theorem dX8_words_152 : decode cX8_words 152 = .ok (.getfield 7, 3) := by decide +kernel
theorem dX8_words_155 : decode cX8_words 155 = .ok (.iload_n 2, 1) := by decide +kernel
theorem dX8_words_156 : decode cX8_words 156 = .ok (.iconst 1, 1) := by decide +kernel
theorem dX8_words_157 : decode cX8_words 157 = .ok (.iadd, 1) := by decide +kernel
theorem dX8_words_158 : decode cX8_words 158 = .ok (.iaload, 1) := by decide +kernel
theorem dX8_words_159 : decode cX8_words 159 = .ok (.bipush 32, 2) := by decide +kernel
theorem dX8_words_161 : decode cX8_words 161 = .ok (.if_icmp .ne 31, 3) := by decide +kernel
theorem dX8_words_164 : decode cX8_words 164 = .ok (.aload_n 0, 1) := by decide +kernel
theorem dX8_words_165 : decode cX8_words 165 = .ok (.getfield 19, 3) := by decide +kernel
theorem dX8_words_168 : decode cX8_words 168 = .ok (.aload_n 0, 1) := by decide +kernel
theorem dX8_words_169 : decode cX8_words 169 = .ok (.getfield 127, 3) := by decide +kernel
theorem dX8_words_172 : decode cX8_words 172 = .ok (.iconst 1, 1) := by decide +kernel
theorem dX8_words_173 : decode cX8_words 173 = .ok (.isub, 1) := by decide +kernel
theorem dX8_words_174 : decode cX8_words 174 = .ok (.iload_n 2, 1) := by decide +kernel
theorem dX8_words_175 : decode cX8_words 175 = .ok (.iconst 1, 1) := by decide +kernel
theorem dX8_words_176 : decode cX8_words 176 = .ok (.iadd, 1) := by decide +kernel
theorem dX8_words_177 : decode cX8_words 177 = .ok (.iastore, 1) := by decide +kernel
theorem dX8_words_178 : decode cX8_words 178 = .ok (.aload_n 0, 1) := by decide +kernel
theorem dX8_words_179 : decode cX8_words 179 = .ok (.aload_n 0, 1) := by decide +kernel
theorem dX8_words_180 : decode cX8_words 180 = .ok (.getfield 127, 3) := by decide +kernel
theorem dX8_words_183 : decode cX8_words 183 = .ok (.iconst 1, 1) := by decide +kernel
theorem dX8_words_184 : decode cX8_words 184 = .ok (.isub, 1) := by decide +kernel
theorem dX8_words_185 : decode cX8_words 185 = .ok (.iload_n 2, 1) := by decide +kernel
theorem dX8_words_186 : decode cX8_words 186 = .ok (.iconst 1, 1) := by decide +kernel
theorem dX8_words_187 : decode cX8_words 187 = .ok (.iadd, 1) := by decide +kernel
theorem dX8_words_188 : decode cX8_words 188 = .ok (.iconst 0, 1) := by decide +kernel
theorem dX8_words_189 : decode cX8_words 189 = .ok (.invokevirtual 130, 3) := by decide +kernel
theorem dX8_words_192 : decode cX8_words 192 = .ok (.iinc 2 1, 3) := by decide +kernel
theorem dX8_words_195 : decode cX8_words 195 = .ok (.goto (-159), 3) := by decide +kernel
theorem dX8_words_198 : decode cX8_words 198 = .ok (.aload_n 0, 1) := by decide +kernel
theorem dX8_words_199 : decode cX8_words 199 = .ok (.iconst 0, 1) := by decide +kernel
theorem dX8_words_200 : decode cX8_words 200 = .ok (.putfield 103, 3) := by decide +kernel
theorem dX8_words_203 : decode cX8_words 203 = .ok (.aload_n 0, 1) := by decide +kernel
theorem dX8_words_204 : decode cX8_words 204 = .ok (.invokevirtual 86, 3) := by decide +kernel
theorem dX8_words_207 : decode cX8_words 207 = .ok (.aload_n 0, 1) := by decide +kernel
theorem dX8_words_208 : decode cX8_words 208 = .ok (.getfield 127, 3) := by decide +kernel
theorem dX8_words_211 : decode cX8_words 211 = .ok (.ireturn, 1) := by decide +kernel
theorem dX8_isWord_0 : decode cX8_isWord 0 = .ok (.iload_n 1, 1) := by decide +kernel
theorem dX8_isWord_1 : decode cX8_isWord 1 = .ok (.iconst 0, 1) := by decide +kernel
theorem dX8_isWord_2 : decode cX8_isWord 2 = .ok (.aload_n 0, 1) := by decide +kernel
theorem dX8_isWord_3 : decode cX8_isWord 3 = .ok (.getfield 127, 3) := by decide +kernel
theorem dX8_isWord_6 : decode cX8_isWord 6 = .ok (.iconst 1, 1) := by decide +kernel
theorem dX8_isWord_7 : decode cX8_isWord 7 = .ok (.isub, 1) := by decide +kernel
theorem dX8_isWord_8 : decode cX8_isWord 8 = .ok (.invokestatic 99, 3) := by decide +kernel
theorem dX8_isWord_11 : decode cX8_isWord 11 = .ok (.ireturn, 1) := by decide +kernel
theorem dX8_word_0 : decode cX8_word 0 = .ok (.aload_n 0, 1) := by decide +kernel
theorem dX8_word_1 : decode cX8_word 1 = .ok (.iload_n 1, 1) := by decide +kernel
theorem dX8_word_2 : decode cX8_word 2 = .ok (.invokevirtual 134, 3) := by decide +kernel
theorem dX8_word_5 : decode cX8_word 5 = .ok (.ifCond .eq 8, 3) := by decide +kernel
theorem dX8_word_8 : decode cX8_word 8 = .ok (.iload_n 2, 1) := by decide +kernel
theorem dX8_word_9 : decode cX8_word 9 = .ok (.iconst (-1), 1) := by decide +kernel
theorem dX8_word_10 : decode cX8_word 10 = .ok (.if_icmp .ge 5, 3) := by decide +kernel
theorem dX8_word_13 : decode cX8_word 13 = .ok (.iconst (-1), 1) := by decide +kernel
theorem dX8_word_14 : decode cX8_word 14 = .ok (.ireturn, 1) := by decide +kernel
theorem dX8_word_15 : decode cX8_word 15 = .ok (.aload_n 0, 1) := by decide +kernel
theorem dX8_word_16 : decode cX8_word 16 = .ok (.getfield 19, 3) := by decide +kernel
theorem dX8_word_19 : decode cX8_word 19 = .ok (.iload_n 1, 1) := by decide +kernel
theorem dX8_word_20 : decode cX8_word 20 = .ok (.iaload, 1) := by decide +kernel
theorem dX8_word_21 : decode cX8_word 21 = .ok (.aload_n 0, 1) := by decide +kernel
theorem dX8_word_22 : decode cX8_word 22 = .ok (.getfield 16, 3) := by decide +kernel
theorem dX8_word_25 : decode cX8_word 25 = .ok (.iload_n 1, 1) := by decide +kernel
theorem dX8_word_26 : decode cX8_word 26 = .ok (.iaload, 1) := by decide +kernel
theorem dX8_word_27 : decode cX8_word 27 = .ok (.isub, 1) := by decide +kernel
theorem dX8_word_28 : decode cX8_word 28 = .ok (.istore_n 3, 1) := by decide +kernel
theorem dX8_word_29 : decode cX8_word 29 = .ok (.iload_n 2, 1) := by decide +kernel
theorem dX8_word_30 : decode cX8_word 30 = .ok (.iconst (-1), 1) := by decide +kernel
theorem dX8_word_31 : decode cX8_word 31 = .ok (.if_icmp .ne 7, 3) := by decide +kernel
theorem dX8_word_34 : decode cX8_word 34 = .ok (.iload_n 3, 1) := by decide +kernel
theorem dX8_word_35 : decode cX8_word 35 = .ok (.goto 26, 3) := by decide +kernel
theorem dX8_word_38 : decode cX8_word 38 = .ok (.iload_n 2, 1) := by decide +kernel
theorem dX8_word_39 : decode cX8_word 39 = .ok (.iload_n 3, 1) := by decide +kernel
theorem dX8_word_40 : decode cX8_word 40 = .ok (.if_icmp .ge 19, 3) := by decide +kernel
theorem dX8_word_43 : decode cX8_word 43 = .ok (.aload_n 0, 1) := by decide +kernel
theorem dX8_word_44 : decode cX8_word 44 = .ok (.getfield 13, 3) := by decide +kernel
theorem dX8_word_47 : decode cX8_word 47 = .ok (.aload_n 0, 1) := by decide +kernel
theorem dX8_word_48 : decode cX8_word 48 = .ok (.getfield 16, 3) := by decide +kernel
theorem dX8_word_51 : decode cX8_word 51 = .ok (.iload_n 1, 1) := by decide +kernel
theorem dX8_word_52 : decode cX8_word 52 = .ok (.iaload, 1) := by decide +kernel
theorem dX8_word_53 : decode cX8_word 53 = .ok (.iload_n 2, 1) := by decide +kernel
theorem dX8_word_54 : decode cX8_word 54 = .ok (.iadd, 1) := by decide +kernel
theorem dX8_word_55 : decode cX8_word 55 = .ok (.iaload, 1) := by decide +kernel
theorem dX8_word_56 : decode cX8_word 56 = .ok (.goto 5, 3) := by decide +kernel
theorem dX8_word_59 : decode cX8_word 59 = .ok (.bipush (-9), 2) := by decide +kernel
theorem dX8_word_61 : decode cX8_word 61 = .ok (.ireturn, 1) := by decide +kernel
theorem dX8_areAlike_0 : decode cX8_areAlike 0 = .ok (.aload_n 0, 1) := by decide +kernel
theorem dX8_areAlike_1 : decode cX8_areAlike 1 = .ok (.getfield 16, 3) := by decide +kernel
theorem dX8_areAlike_4 : decode cX8_areAlike 4 = .ok (.iload_n 1, 1) := by decide +kernel
theorem dX8_areAlike_5 : decode cX8_areAlike 5 = .ok (.iaload, 1) := by decide +kernel
theorem dX8_areAlike_6 : decode cX8_areAlike 6 = .ok (.istore_n 3, 1) := by decide +kernel
theorem dX8_areAlike_7 : decode cX8_areAlike 7 = .ok (.aload_n 0, 1) := by decide +kernel
theorem dX8_areAlike_8 : decode cX8_areAlike 8 = .ok (.getfield 16, 3) := by decide +kernel
theorem dX8_areAlike_11 : decode cX8_areAlike 11 = .ok (.iload_n 2, 1) := by decide +kernel
theorem dX8_areAlike_12 : decode cX8_areAlike 12 = .ok (.iaload, 1) := by decide +kernel
theorem dX8_areAlike_13 : decode cX8_areAlike 13 = .ok (.istore 4, 2) := by decide +kernel
theorem dX8_areAlike_15 : decode cX8_areAlike 15 = .ok (.iload_n 3, 1) := by decide +kernel
theorem dX8_areAlike_16 : decode cX8_areAlike 16 = .ok (.aload_n 0, 1) := by decide +kernel
theorem dX8_areAlike_17 : decode cX8_areAlike 17 = .ok (.getfield 19, 3) := by decide +kernel
theorem dX8_areAlike_20 : decode cX8_areAlike 20 = .ok (.iload_n 1, 1) := by decide +kernel
theorem dX8_areAlike_21 : decode cX8_areAlike 21 = .ok (.iaload, 1) := by decide +kernel
theorem dX8_areAlike_22 : decode cX8_areAlike 22 = .ok (.if_icmp .ge 20, 3) := by decide +kernel
theorem dX8_areAlike_25 : decode cX8_areAlike 25 = .ok (.aload_n 0, 1) := by decide +kernel
theorem dX8_areAlike_26 : decode cX8_areAlike 26 = .ok (.getfield 13, 3) := by decide +kernel
theorem dX8_areAlike_29 : decode cX8_areAlike 29 = .ok (.iload_n 3, 1) := by decide +kernel
theorem dX8_areAlike_30 : decode cX8_areAlike 30 = .ok (.iaload, 1) := by decide +kernel
theorem dX8_areAlike_31 : decode cX8_areAlike 31 = .ok (.bipush 47, 2) := by decide +kernel
theorem dX8_areAlike_33 : decode cX8_areAlike 33 = .ok (.if_icmp .ne 9, 3) := by decide +kernel
theorem dX8_areAlike_36 : decode cX8_areAlike 36 = .ok (.iinc 3 1, 3) := by decide +kernel
theorem dX8_areAlike_39 : decode cX8_areAlike 39 = .ok (.goto (-24), 3) := by decide +kernel
theorem dX8_areAlike_42 : decode cX8_areAlike 42 = .ok (.iload 4, 2) := by decide +kernel
theorem dX8_areAlike_44 : decode cX8_areAlike 44 = .ok (.aload_n 0, 1) := by decide +kernel
theorem dX8_areAlike_45 : decode cX8_areAlike 45 = .ok (.getfield 19, 3) := by decide +kernel
theorem dX8_areAlike_48 : decode cX8_areAlike 48 = .ok (.iload_n 2, 1) := by decide +kernel
theorem dX8_areAlike_49 : decode cX8_areAlike 49 = .ok (.iaload, 1) := by decide +kernel
theorem dX8_areAlike_50 : decode cX8_areAlike 50 = .ok (.if_icmp .ge 21, 3) := by decide +kernel
theorem dX8_areAlike_53 : decode cX8_areAlike 53 = .ok (.aload_n 0, 1) := by decide +kernel
theorem dX8_areAlike_54 : decode cX8_areAlike 54 = .ok (.getfield 13, 3) := by decide +kernel
theorem dX8_areAlike_57 : decode cX8_areAlike 57 = .ok (.iload 4, 2) := by decide +kernel
theorem dX8_areAlike_59 : decode cX8_areAlike 59 = .ok (.iaload, 1) := by decide +kernel
theorem dX8_areAlike_60 : decode cX8_areAlike 60 = .ok (.bipush 47, 2) := by decide +kernel
theorem dX8_areAlike_62 : decode cX8_areAlike 62 = .ok (.if_icmp .ne 9, 3) := by decide +kernel
theorem dX8_areAlike_65 : decode cX8_areAlike 65 = .ok (.iinc 4 1, 3) := by decide +kernel
theorem dX8_areAlike_68 : decode cX8_areAlike 68 = .ok (.goto (-26), 3) := by decide +kernel
theorem dX8_areAlike_71 : decode cX8_areAlike 71 = .ok (.iload_n 3, 1) := by decide +kernel
theorem dX8_areAlike_72 : decode cX8_areAlike 72 = .ok (.aload_n 0, 1) := by decide +kernel
theorem dX8_areAlike_73 : decode cX8_areAlike 73 = .ok (.getfield 19, 3) := by decide +kernel
theorem dX8_areAlike_76 : decode cX8_areAlike 76 = .ok (.iload_n 1, 1) := by decide +kernel
theorem dX8_areAlike_77 : decode cX8_areAlike 77 = .ok (.iaload, 1) := by decide +kernel
theorem dX8_areAlike_78 : decode cX8_areAlike 78 = .ok (.if_icmp .eq 14, 3) := by decide +kernel
theorem dX8_areAlike_81 : decode cX8_areAlike 81 = .ok (.iload 4, 2) := by decide +kernel
theorem dX8_areAlike_83 : decode cX8_areAlike 83 = .ok (.aload_n 0, 1) := by decide +kernel
theorem dX8_areAlike_84 : decode cX8_areAlike 84 = .ok (.getfield 19, 3) := by decide +kernel
theorem dX8_areAlike_87 : decode cX8_areAlike 87 = .ok (.iload_n 2, 1) := by decide +kernel
theorem dX8_areAlike_88 : decode cX8_areAlike 88 = .ok (.iaload, 1) := by decide +kernel
theorem dX8_areAlike_89 : decode cX8_areAlike 89 = .ok (.if_icmp .ne 7, 3) := by decide +kernel
theorem dX8_areAlike_92 : decode cX8_areAlike 92 = .ok (.iconst 1, 1) := by decide +kernel
theorem dX8_areAlike_93 : decode cX8_areAlike 93 = .ok (.goto 4, 3) := by decide +kernel
theorem dX8_areAlike_96 : decode cX8_areAlike 96 = .ok (.iconst 0, 1) := by decide +kernel
theorem dX8_areAlike_97 : decode cX8_areAlike 97 = .ok (.istore 5, 2) := by decide +kernel
theorem dX8_areAlike_99 : decode cX8_areAlike 99 = .ok (.iload 5, 2) := by decide +kernel
theorem dX8_areAlike_101 : decode cX8_areAlike 101 = .ok (.ifCond .ne 19, 3) := by decide +kernel
theorem dX8_areAlike_104 : decode cX8_areAlike 104 = .ok (.aload_n 0, 1) := by decide +kernel
theorem dX8_areAlike_105 : decode cX8_areAlike 105 = .ok (.getfield 13, 3) := by decide +kernel
theorem dX8_areAlike_108 : decode cX8_areAlike 108 = .ok (.iload_n 3, 1) := by decide +kernel
theorem dX8_areAlike_109 : decode cX8_areAlike 109 = .ok (.iaload, 1) := by decide +kernel
theorem dX8_areAlike_110 : decode cX8_areAlike 110 = .ok (.aload_n 0, 1) := by decide +kernel
theorem dX8_areAlike_111 : decode cX8_areAlike 111 = .ok (.getfield 13, 3) := by decide +kernel
theorem dX8_areAlike_114 : decode cX8_areAlike 114 = .ok (.iload 4, 2) := by decide +kernel
theorem dX8_areAlike_116 : decode cX8_areAlike 116 = .ok (.iaload, 1) := by decide +kernel
theorem dX8_areAlike_117 : decode cX8_areAlike 117 = .ok (.if_icmp .eq 30, 3) := by decide +kernel
theorem dX8_areAlike_120 : decode cX8_areAlike 120 = .ok (.iload_n 3, 1) := by decide +kernel
theorem dX8_areAlike_121 : decode cX8_areAlike 121 = .ok (.aload_n 0, 1) := by decide +kernel
theorem dX8_areAlike_122 : decode cX8_areAlike 122 = .ok (.getfield 19, 3) := by decide +kernel
theorem dX8_areAlike_125 : decode cX8_areAlike 125 = .ok (.iload_n 1, 1) := by decide +kernel
theorem dX8_areAlike_126 : decode cX8_areAlike 126 = .ok (.iaload, 1) := by decide +kernel
theorem dX8_areAlike_127 : decode cX8_areAlike 127 = .ok (.if_icmp .ne 18, 3) := by decide +kernel
theorem dX8_areAlike_130 : decode cX8_areAlike 130 = .ok (.iload 4, 2) := by decide +kernel
theorem dX8_areAlike_132 : decode cX8_areAlike 132 = .ok (.aload_n 0, 1) := by decide +kernel
theorem dX8_areAlike_133 : decode cX8_areAlike 133 = .ok (.getfield 19, 3) := by decide +kernel
theorem dX8_areAlike_136 : decode cX8_areAlike 136 = .ok (.iload_n 2, 1) := by decide +kernel
theorem dX8_areAlike_137 : decode cX8_areAlike 137 = .ok (.iaload, 1) := by decide +kernel
theorem dX8_areAlike_138 : decode cX8_areAlike 138 = .ok (.if_icmp .ne 7, 3) := by decide +kernel
theorem dX8_areAlike_141 : decode cX8_areAlike 141 = .ok (.iconst 1, 1) := by decide +kernel
theorem dX8_areAlike_142 : decode cX8_areAlike 142 = .ok (.goto 4, 3) := by decide +kernel
theorem dX8_areAlike_145 : decode cX8_areAlike 145 = .ok (.iconst 0, 1) := by decide +kernel
theorem dX8_areAlike_146 : decode cX8_areAlike 146 = .ok (.ireturn, 1) := by decide +kernel
theorem dX8_areAlike_147 : decode cX8_areAlike 147 = .ok (.iinc 3 1, 3) := by decide +kernel
theorem dX8_areAlike_150 : decode cX8_areAlike 150 = .ok (.iinc 4 1, 3) := by decide +kernel
theorem dX8_areAlike_153 : decode cX8_areAlike 153 = .ok (.goto (-138), 3) := by decide +kernel
theorem dX8_firstLike_0 : decode cX8_firstLike 0 = .ok (.iconst 0, 1) := by decide +kernel
theorem dX8_firstLike_1 : decode cX8_firstLike 1 = .ok (.istore_n 2, 1) := by decide +kernel
theorem dX8_firstLike_2 : decode cX8_firstLike 2 = .ok (.aload_n 0, 1) := by decide +kernel
theorem dX8_firstLike_3 : decode cX8_firstLike 3 = .ok (.iload_n 2, 1) := by decide +kernel
theorem dX8_firstLike_4 : decode cX8_firstLike 4 = .ok (.iload_n 1, 1) := by decide +kernel
theorem dX8_firstLike_5 : decode cX8_firstLike 5 = .ok (.invokevirtual 137, 3) := by decide +kernel
theorem dX8_firstLike_8 : decode cX8_firstLike 8 = .ok (.ifCond .ne 9, 3) := by decide +kernel
theorem dX8_firstLike_11 : decode cX8_firstLike 11 = .ok (.iinc 2 1, 3) := by decide +kernel
theorem dX8_firstLike_14 : decode cX8_firstLike 14 = .ok (.goto (-12), 3) := by decide +kernel
theorem dX8_firstLike_17 : decode cX8_firstLike 17 = .ok (.iload_n 2, 1) := by decide +kernel
theorem dX8_firstLike_18 : decode cX8_firstLike 18 = .ok (.ireturn, 1) := by decide +kernel
theorem dX8_differents_0 : decode cX8_differents 0 = .ok (.iconst 0, 1) := by decide +kernel
theorem dX8_differents_1 : decode cX8_differents 1 = .ok (.istore_n 1, 1) := by decide +kernel
theorem dX8_differents_2 : decode cX8_differents 2 = .ok (.iconst 0, 1) := by decide +kernel
theorem dX8_differents_3 : decode cX8_differents 3 = .ok (.istore_n 2, 1) := by decide +kernel
theorem dX8_differents_4 : decode cX8_differents 4 = .ok (.iload_n 2, 1) := by decide +kernel
theorem dX8_differents_5 : decode cX8_differents 5 = .ok (.aload_n 0, 1) := by decide +kernel
theorem dX8_differents_6 : decode cX8_differents 6 = .ok (.getfield 127, 3) := by decide +kernel
theorem dX8_differents_9 : decode cX8_differents 9 = .ok (.if_icmp .ge 26, 3) := by decide +kernel
theorem dX8_differents_12 : decode cX8_differents 12 = .ok (.iload_n 1, 1) := by decide +kernel
theorem dX8_differents_13 : decode cX8_differents 13 = .ok (.aload_n 0, 1) := by decide +kernel
theorem dX8_differents_14 : decode cX8_differents 14 = .ok (.iload_n 2, 1) := by decide +kernel
theorem dX8_differents_15 : decode cX8_differents 15 = .ok (.invokevirtual 141, 3) := by decide +kernel
theorem dX8_differents_18 : decode cX8_differents 18 = .ok (.iload_n 2, 1) := by decide +kernel
theorem dX8_differents_19 : decode cX8_differents 19 = .ok (.if_icmp .ne 7, 3) := by decide +kernel
theorem dX8_differents_22 : decode cX8_differents 22 = .ok (.iconst 1, 1) := by decide +kernel
theorem dX8_differents_23 : decode cX8_differents 23 = .ok (.goto 4, 3) := by decide +kernel
theorem dX8_differents_26 : decode cX8_differents 26 = .ok (.iconst 0, 1) := by decide +kernel
theorem dX8_differents_27 : decode cX8_differents 27 = .ok (.iadd, 1) := by decide +kernel
theorem dX8_differents_28 : decode cX8_differents 28 = .ok (.istore_n 1, 1) := by decide +kernel
theorem dX8_differents_29 : decode cX8_differents 29 = .ok (.iinc 2 1, 3) := by decide +kernel
theorem dX8_differents_32 : decode cX8_differents 32 = .ok (.goto (-28), 3) := by decide +kernel
theorem dX8_differents_35 : decode cX8_differents 35 = .ok (.iload_n 1, 1) := by decide +kernel
theorem dX8_differents_36 : decode cX8_differents 36 = .ok (.ireturn, 1) := by decide +kernel
theorem dX8_different_0 : decode cX8_different 0 = .ok (.iload_n 1, 1) := by decide +kernel
theorem dX8_different_1 : decode cX8_different 1 = .ok (.ifCond .lt 12, 3) := by decide +kernel
theorem dX8_different_4 : decode cX8_different 4 = .ok (.iload_n 2, 1) := by decide +kernel
theorem dX8_different_5 : decode cX8_different 5 = .ok (.iconst 0, 1) := by decide +kernel
theorem dX8_different_6 : decode cX8_different 6 = .ok (.iconst 1, 1) := by decide +kernel
theorem dX8_different_7 : decode cX8_different 7 = .ok (.invokestatic 99, 3) := by decide +kernel
theorem dX8_different_10 : decode cX8_different 10 = .ok (.ifCond .ne 5, 3) := by decide +kernel
theorem dX8_different_13 : decode cX8_different 13 = .ok (.iconst (-1), 1) := by decide +kernel
theorem dX8_different_14 : decode cX8_different 14 = .ok (.ireturn, 1) := by decide +kernel
theorem dX8_different_15 : decode cX8_different 15 = .ok (.iload_n 1, 1) := by decide +kernel
theorem dX8_different_16 : decode cX8_different 16 = .ok (.istore_n 3, 1) := by decide +kernel
theorem dX8_different_17 : decode cX8_different 17 = .ok (.iconst 0, 1) := by decide +kernel
theorem dX8_different_18 : decode cX8_different 18 = .ok (.istore 4, 2) := by decide +kernel
theorem dX8_different_20 : decode cX8_different 20 = .ok (.iload 4, 2) := by decide +kernel
theorem dX8_different_22 : decode cX8_different 22 = .ok (.aload_n 0, 1) := by decide +kernel
theorem dX8_different_23 : decode cX8_different 23 = .ok (.getfield 127, 3) := by decide +kernel
theorem dX8_different_26 : decode cX8_different 26 = .ok (.if_icmp .ge 82, 3) := by decide +kernel
theorem dX8_different_29 : decode cX8_different 29 = .ok (.aload_n 0, 1) := by decide +kernel
theorem dX8_different_30 : decode cX8_different 30 = .ok (.iload 4, 2) := by decide +kernel
theorem dX8_different_32 : decode cX8_different 32 = .ok (.invokevirtual 141, 3) := by decide +kernel
theorem dX8_different_35 : decode cX8_different 35 = .ok (.iload 4, 2) := by decide +kernel
theorem dX8_different_37 : decode cX8_different 37 = .ok (.if_icmp .ne 65, 3) := by decide +kernel
theorem dX8_different_40 : decode cX8_different 40 = .ok (.iload_n 3, 1) := by decide +kernel
theorem dX8_different_41 : decode cX8_different 41 = .ok (.ifCond .ne 58, 3) := by decide +kernel
theorem dX8_different_44 : decode cX8_different 44 = .ok (.iconst 0, 1) := by decide +kernel
theorem dX8_different_45 : decode cX8_different 45 = .ok (.istore 5, 2) := by decide +kernel
theorem dX8_different_47 : decode cX8_different 47 = .ok (.iload 4, 2) := by decide +kernel
theorem dX8_different_49 : decode cX8_different 49 = .ok (.istore 6, 2) := by decide +kernel
theorem dX8_different_51 : decode cX8_different 51 = .ok (.iload 6, 2) := by decide +kernel
theorem dX8_different_53 : decode cX8_different 53 = .ok (.aload_n 0, 1) := by decide +kernel
theorem dX8_different_54 : decode cX8_different 54 = .ok (.getfield 127, 3) := by decide +kernel
theorem dX8_different_57 : decode cX8_different 57 = .ok (.if_icmp .ge 30, 3) := by decide +kernel
theorem dX8_different_60 : decode cX8_different 60 = .ok (.iload 5, 2) := by decide +kernel
theorem dX8_different_62 : decode cX8_different 62 = .ok (.aload_n 0, 1) := by decide +kernel
theorem dX8_different_63 : decode cX8_different 63 = .ok (.iload 4, 2) := by decide +kernel
theorem dX8_different_65 : decode cX8_different 65 = .ok (.iload 6, 2) := by decide +kernel
theorem dX8_different_67 : decode cX8_different 67 = .ok (.invokevirtual 137, 3) := by decide +kernel
theorem dX8_different_70 : decode cX8_different 70 = .ok (.ifCond .eq 7, 3) := by decide +kernel
theorem dX8_different_73 : decode cX8_different 73 = .ok (.iconst 1, 1) := by decide +kernel
theorem dX8_different_74 : decode cX8_different 74 = .ok (.goto 4, 3) := by decide +kernel
theorem dX8_different_77 : decode cX8_different 77 = .ok (.iconst 0, 1) := by decide +kernel
theorem dX8_different_78 : decode cX8_different 78 = .ok (.iadd, 1) := by decide +kernel
theorem dX8_different_79 : decode cX8_different 79 = .ok (.istore 5, 2) := by decide +kernel
theorem dX8_different_81 : decode cX8_different 81 = .ok (.iinc 6 1, 3) := by decide +kernel
theorem dX8_different_84 : decode cX8_different 84 = .ok (.goto (-33), 3) := by decide +kernel
theorem dX8_different_87 : decode cX8_different 87 = .ok (.iload_n 2, 1) := by decide +kernel
theorem dX8_different_88 : decode cX8_different 88 = .ok (.ifCond .ne 8, 3) := by decide +kernel
theorem dX8_different_91 : decode cX8_different 91 = .ok (.iload 4, 2) := by decide +kernel
theorem dX8_different_93 : decode cX8_different 93 = .ok (.goto 5, 3) := by decide +kernel
theorem dX8_different_96 : decode cX8_different 96 = .ok (.iload 5, 2) := by decide +kernel
theorem dX8_different_98 : decode cX8_different 98 = .ok (.ireturn, 1) := by decide +kernel
theorem dX8_different_99 : decode cX8_different 99 = .ok (.iinc 3 (-1), 3) := by decide +kernel
theorem dX8_different_102 : decode cX8_different 102 = .ok (.iinc 4 1, 3) := by decide +kernel
theorem dX8_different_105 : decode cX8_different 105 = .ok (.goto (-85), 3) := by decide +kernel
theorem dX8_different_108 : decode cX8_different 108 = .ok (.bipush (-9), 2) := by decide +kernel
theorem dX8_different_110 : decode cX8_different 110 = .ok (.ireturn, 1) := by decide +kernel
theorem dX8_isPlace_0 : decode cX8_isPlace 0 = .ok (.iload_n 1, 1) := by decide +kernel
theorem dX8_isPlace_1 : decode cX8_isPlace 1 = .ok (.iconst 0, 1) := by decide +kernel
theorem dX8_isPlace_2 : decode cX8_isPlace 2 = .ok (.aload_n 0, 1) := by decide +kernel
theorem dX8_isPlace_3 : decode cX8_isPlace 3 = .ok (.getfield 117, 3) := by decide +kernel
theorem dX8_isPlace_6 : decode cX8_isPlace 6 = .ok (.iconst 1, 1) := by decide +kernel
theorem dX8_isPlace_7 : decode cX8_isPlace 7 = .ok (.isub, 1) := by decide +kernel
theorem dX8_isPlace_8 : decode cX8_isPlace 8 = .ok (.invokestatic 99, 3) := by decide +kernel
theorem dX8_isPlace_11 : decode cX8_isPlace 11 = .ok (.ireturn, 1) := by decide +kernel
theorem dX8_place_0 : decode cX8_place 0 = .ok (.aload_n 0, 1) := by decide +kernel
theorem dX8_place_1 : decode cX8_place 1 = .ok (.iload_n 1, 1) := by decide +kernel
theorem dX8_place_2 : decode cX8_place 2 = .ok (.invokevirtual 144, 3) := by decide +kernel
theorem dX8_place_5 : decode cX8_place 5 = .ok (.ifCond .eq 12, 3) := by decide +kernel
theorem dX8_place_8 : decode cX8_place 8 = .ok (.iload_n 2, 1) := by decide +kernel
theorem dX8_place_9 : decode cX8_place 9 = .ok (.iconst 0, 1) := by decide +kernel
theorem dX8_place_10 : decode cX8_place 10 = .ok (.iconst 2, 1) := by decide +kernel
theorem dX8_place_11 : decode cX8_place 11 = .ok (.invokestatic 99, 3) := by decide +kernel
theorem dX8_place_14 : decode cX8_place 14 = .ok (.ifCond .ne 5, 3) := by decide +kernel
theorem dX8_place_17 : decode cX8_place 17 = .ok (.iconst (-1), 1) := by decide +kernel
theorem dX8_place_18 : decode cX8_place 18 = .ok (.ireturn, 1) := by decide +kernel
theorem dX8_place_19 : decode cX8_place 19 = .ok (.iconst 0, 1) := by decide +kernel
theorem dX8_place_20 : decode cX8_place 20 = .ok (.istore_n 3, 1) := by decide +kernel
theorem dX8_place_21 : decode cX8_place 21 = .ok (.aload_n 0, 1) := by decide +kernel
theorem dX8_place_22 : decode cX8_place 22 = .ok (.getfield 16, 3) := by decide +kernel
theorem dX8_place_25 : decode cX8_place 25 = .ok (.aload_n 0, 1) := by decide +kernel
theorem dX8_place_26 : decode cX8_place 26 = .ok (.getfield 22, 3) := by decide +kernel
theorem dX8_place_29 : decode cX8_place 29 = .ok (.iload_n 1, 1) := by decide +kernel
theorem dX8_place_30 : decode cX8_place 30 = .ok (.iaload, 1) := by decide +kernel
theorem dX8_place_31 : decode cX8_place 31 = .ok (.iaload, 1) := by decide +kernel
theorem dX8_place_32 : decode cX8_place 32 = .ok (.istore 4, 2) := by decide +kernel
theorem dX8_place_34 : decode cX8_place 34 = .ok (.iload 4, 2) := by decide +kernel
theorem dX8_place_36 : decode cX8_place 36 = .ok (.aload_n 0, 1) := by decide +kernel
theorem dX8_place_37 : decode cX8_place 37 = .ok (.getfield 25, 3) := by decide +kernel
theorem dX8_place_40 : decode cX8_place 40 = .ok (.iload_n 1, 1) := by decide +kernel
theorem dX8_place_41 : decode cX8_place 41 = .ok (.iaload, 1) := by decide +kernel
theorem dX8_place_42 : decode cX8_place 42 = .ok (.if_icmp .ge 29, 3) := by decide +kernel
theorem dX8_place_45 : decode cX8_place 45 = .ok (.iload_n 3, 1) := by decide +kernel
theorem dX8_place_46 : decode cX8_place 46 = .ok (.aload_n 0, 1) := by decide +kernel
theorem dX8_place_47 : decode cX8_place 47 = .ok (.getfield 13, 3) := by decide +kernel
theorem dX8_place_50 : decode cX8_place 50 = .ok (.iload 4, 2) := by decide +kernel
theorem dX8_place_52 : decode cX8_place 52 = .ok (.iaload, 1) := by decide +kernel
theorem dX8_place_53 : decode cX8_place 53 = .ok (.bipush 47, 2) := by decide +kernel
theorem dX8_place_55 : decode cX8_place 55 = .ok (.if_icmp .ne 7, 3) := by decide +kernel
theorem dX8_place_58 : decode cX8_place 58 = .ok (.iconst 0, 1) := by decide +kernel
theorem dX8_place_59 : decode cX8_place 59 = .ok (.goto 4, 3) := by decide +kernel
theorem dX8_place_62 : decode cX8_place 62 = .ok (.iconst 1, 1) := by decide +kernel
theorem dX8_place_63 : decode cX8_place 63 = .ok (.iadd, 1) := by decide +kernel
theorem dX8_place_64 : decode cX8_place 64 = .ok (.istore_n 3, 1) := by decide +kernel
theorem dX8_place_65 : decode cX8_place 65 = .ok (.iinc 4 1, 3) := by decide +kernel
theorem dX8_place_68 : decode cX8_place 68 = .ok (.goto (-34), 3) := by decide +kernel
theorem dX8_place_71 : decode cX8_place 71 = .ok (.iload_n 2, 1) := by decide +kernel
theorem dX8_place_72 : decode cX8_place 72 = .ok (.ifCond .ne 12, 3) := by decide +kernel
theorem dX8_place_75 : decode cX8_place 75 = .ok (.aload_n 0, 1) := by decide +kernel
theorem dX8_place_76 : decode cX8_place 76 = .ok (.getfield 22, 3) := by decide +kernel
theorem dX8_place_79 : decode cX8_place 79 = .ok (.iload_n 1, 1) := by decide +kernel
theorem dX8_place_80 : decode cX8_place 80 = .ok (.iaload, 1) := by decide +kernel
theorem dX8_place_81 : decode cX8_place 81 = .ok (.goto 26, 3) := by decide +kernel
theorem dX8_place_84 : decode cX8_place 84 = .ok (.iload_n 2, 1) := by decide +kernel
theorem dX8_place_85 : decode cX8_place 85 = .ok (.iconst 1, 1) := by decide +kernel
theorem dX8_place_86 : decode cX8_place 86 = .ok (.if_icmp .ne 7, 3) := by decide +kernel
theorem dX8_place_89 : decode cX8_place 89 = .ok (.iload_n 3, 1) := by decide +kernel
theorem dX8_place_90 : decode cX8_place 90 = .ok (.goto 17, 3) := by decide +kernel
theorem dX8_place_93 : decode cX8_place 93 = .ok (.aload_n 0, 1) := by decide +kernel
theorem dX8_place_94 : decode cX8_place 94 = .ok (.getfield 28, 3) := by decide +kernel
theorem dX8_place_97 : decode cX8_place 97 = .ok (.iload_n 1, 1) := by decide +kernel
theorem dX8_place_98 : decode cX8_place 98 = .ok (.baload, 1) := by decide +kernel
theorem dX8_place_99 : decode cX8_place 99 = .ok (.ifCond .eq 7, 3) := by decide +kernel
theorem dX8_place_102 : decode cX8_place 102 = .ok (.iconst 1, 1) := by decide +kernel
theorem dX8_place_103 : decode cX8_place 103 = .ok (.goto 4, 3) := by decide +kernel
theorem dX8_place_106 : decode cX8_place 106 = .ok (.iconst 0, 1) := by decide +kernel
theorem dX8_place_107 : decode cX8_place 107 = .ok (.ireturn, 1) := by decide +kernel
theorem dX8_notes_0 : decode cX8_notes 0 = .ok (.aload_n 0, 1) := by decide +kernel
theorem dX8_notes_1 : decode cX8_notes 1 = .ok (.getfield 89, 3) := by decide +kernel
theorem dX8_notes_4 : decode cX8_notes 4 = .ok (.bipush 10, 2) := by decide +kernel
theorem dX8_notes_6 : decode cX8_notes 6 = .ok (.if_icmp .ne 43, 3) := by decide +kernel
theorem dX8_notes_9 : decode cX8_notes 9 = .ok (.iconst 0, 1) := by decide +kernel
theorem dX8_notes_10 : decode cX8_notes 10 = .ok (.istore_n 1, 1) := by decide +kernel
theorem dX8_notes_11 : decode cX8_notes 11 = .ok (.iload_n 1, 1) := by decide +kernel
theorem dX8_notes_12 : decode cX8_notes 12 = .ok (.sipush 342, 3) := by decide +kernel
theorem dX8_notes_15 : decode cX8_notes 15 = .ok (.if_icmp .ge 24, 3) := by decide +kernel
theorem dX8_notes_18 : decode cX8_notes 18 = .ok (.aload_n 0, 1) := by decide +kernel
theorem dX8_notes_19 : decode cX8_notes 19 = .ok (.getfield 35, 3) := by decide +kernel
theorem dX8_notes_22 : decode cX8_notes 22 = .ok (.iload_n 1, 1) := by decide +kernel
theorem dX8_notes_23 : decode cX8_notes 23 = .ok (.aload_n 0, 1) := by decide +kernel
theorem dX8_notes_24 : decode cX8_notes 24 = .ok (.getfield 35, 3) := by decide +kernel
theorem dX8_notes_27 : decode cX8_notes 27 = .ok (.iload_n 1, 1) := by decide +kernel
theorem dX8_notes_28 : decode cX8_notes 28 = .ok (.bipush 38, 2) := by decide +kernel
theorem dX8_notes_30 : decode cX8_notes 30 = .ok (.iadd, 1) := by decide +kernel
theorem dX8_notes_31 : decode cX8_notes 31 = .ok (.iaload, 1) := by decide +kernel
theorem dX8_notes_32 : decode cX8_notes 32 = .ok (.iastore, 1) := by decide +kernel
theorem dX8_notes_33 : decode cX8_notes 33 = .ok (.iinc 1 1, 3) := by decide +kernel
theorem dX8_notes_36 : decode cX8_notes 36 = .ok (.goto (-25), 3) := by decide +kernel
theorem dX8_notes_39 : decode cX8_notes 39 = .ok (.aload_n 0, 1) := by decide +kernel
theorem dX8_notes_40 : decode cX8_notes 40 = .ok (.dup, 1) := by decide +kernel
theorem dX8_notes_41 : decode cX8_notes 41 = .ok (.getfield 89, 3) := by decide +kernel
theorem dX8_notes_44 : decode cX8_notes 44 = .ok (.iconst 1, 1) := by decide +kernel
theorem dX8_notes_45 : decode cX8_notes 45 = .ok (.isub, 1) := by decide +kernel
theorem dX8_notes_46 : decode cX8_notes 46 = .ok (.putfield 89, 3) := by decide +kernel
theorem dX8_notes_49 : decode cX8_notes 49 = .ok (.iconst 0, 1) := by decide +kernel
theorem dX8_notes_50 : decode cX8_notes 50 = .ok (.istore_n 1, 1) := by decide +kernel
theorem dX8_notes_51 : decode cX8_notes 51 = .ok (.iload_n 1, 1) := by decide +kernel
theorem dX8_notes_52 : decode cX8_notes 52 = .ok (.bipush 38, 2) := by decide +kernel
theorem dX8_notes_54 : decode cX8_notes 54 = .ok (.if_icmp .ge 29, 3) := by decide +kernel
theorem dX8_notes_57 : decode cX8_notes 57 = .ok (.aload_n 0, 1) := by decide +kernel
theorem dX8_notes_58 : decode cX8_notes 58 = .ok (.getfield 35, 3) := by decide +kernel
theorem dX8_notes_61 : decode cX8_notes 61 = .ok (.bipush 38, 2) := by decide +kernel
theorem dX8_notes_63 : decode cX8_notes 63 = .ok (.aload_n 0, 1) := by decide +kernel
theorem dX8_notes_64 : decode cX8_notes 64 = .ok (.getfield 89, 3) := by decide +kernel
theorem dX8_notes_67 : decode cX8_notes 67 = .ok (.imul, 1) := by decide +kernel
theorem dX8_notes_68 : decode cX8_notes 68 = .ok (.iload_n 1, 1) := by decide +kernel
theorem dX8_notes_69 : decode cX8_notes 69 = .ok (.iadd, 1) := by decide +kernel
theorem dX8_notes_70 : decode cX8_notes 70 = .ok (.aload_n 0, 1) := by decide +kernel
theorem dX8_notes_71 : decode cX8_notes 71 = .ok (.getfield 32, 3) := by decide +kernel
theorem dX8_notes_74 : decode cX8_notes 74 = .ok (.iload_n 1, 1) := by decide +kernel
theorem dX8_notes_75 : decode cX8_notes 75 = .ok (.iaload, 1) := by decide +kernel
theorem dX8_notes_76 : decode cX8_notes 76 = .ok (.iastore, 1) := by decide +kernel
theorem dX8_notes_77 : decode cX8_notes 77 = .ok (.iinc 1 1, 3) := by decide +kernel
theorem dX8_notes_80 : decode cX8_notes 80 = .ok (.goto (-29), 3) := by decide +kernel
theorem dX8_notes_83 : decode cX8_notes 83 = .ok (.aload_n 0, 1) := by decide +kernel
theorem dX8_notes_84 : decode cX8_notes 84 = .ok (.dup, 1) := by decide +kernel
theorem dX8_notes_85 : decode cX8_notes 85 = .ok (.getfield 89, 3) := by decide +kernel
theorem dX8_notes_88 : decode cX8_notes 88 = .ok (.iconst 1, 1) := by decide +kernel
theorem dX8_notes_89 : decode cX8_notes 89 = .ok (.iadd, 1) := by decide +kernel
theorem dX8_notes_90 : decode cX8_notes 90 = .ok (.putfield 89, 3) := by decide +kernel
theorem dX8_notes_93 : decode cX8_notes 93 = .ok (.return_, 1) := by decide +kernel
theorem dX8_becomes_0 : decode cX8_becomes 0 = .ok (.aload_n 0, 1) := by decide +kernel
theorem dX8_becomes_1 : decode cX8_becomes 1 = .ok (.getfield 32, 3) := by decide +kernel
theorem dX8_becomes_4 : decode cX8_becomes 4 = .ok (.iload_n 1, 1) := by decide +kernel
theorem dX8_becomes_5 : decode cX8_becomes 5 = .ok (.iaload, 1) := by decide +kernel
theorem dX8_becomes_6 : decode cX8_becomes 6 = .ok (.istore_n 3, 1) := by decide +kernel
theorem dX8_becomes_7 : decode cX8_becomes 7 = .ok (.iload_n 3, 1) := by decide +kernel
theorem dX8_becomes_8 : decode cX8_becomes 8 = .ok (.iload_n 2, 1) := by decide +kernel
theorem dX8_becomes_9 : decode cX8_becomes 9 = .ok (.if_icmp .ne 6, 3) := by decide +kernel
theorem dX8_becomes_12 : decode cX8_becomes 12 = .ok (.bipush (-2), 2) := by decide +kernel
theorem dX8_becomes_14 : decode cX8_becomes 14 = .ok (.ireturn, 1) := by decide +kernel
theorem dX8_becomes_15 : decode cX8_becomes 15 = .ok (.aload_n 0, 1) := by decide +kernel
theorem dX8_becomes_16 : decode cX8_becomes 16 = .ok (.invokevirtual 147, 3) := by decide +kernel
theorem dX8_becomes_19 : decode cX8_becomes 19 = .ok (.aload_n 0, 1) := by decide +kernel
theorem dX8_becomes_20 : decode cX8_becomes 20 = .ok (.getfield 32, 3) := by decide +kernel
theorem dX8_becomes_23 : decode cX8_becomes 23 = .ok (.iload_n 1, 1) := by decide +kernel
theorem dX8_becomes_24 : decode cX8_becomes 24 = .ok (.iload_n 2, 1) := by decide +kernel
theorem dX8_becomes_25 : decode cX8_becomes 25 = .ok (.iastore, 1) := by decide +kernel
theorem dX8_becomes_26 : decode cX8_becomes 26 = .ok (.iload_n 3, 1) := by decide +kernel
theorem dX8_becomes_27 : decode cX8_becomes 27 = .ok (.ireturn, 1) := by decide +kernel
theorem dX8_widthOf_0 : decode cX8_widthOf 0 = .ok (.iload_n 0, 1) := by decide +kernel
theorem dX8_widthOf_1 : decode cX8_widthOf 1 = .ok (.bipush 97, 2) := by decide +kernel
theorem dX8_widthOf_3 : decode cX8_widthOf 3 = .ok (.bipush 122, 2) := by decide +kernel
theorem dX8_widthOf_5 : decode cX8_widthOf 5 = .ok (.invokestatic 99, 3) := by decide +kernel
theorem dX8_widthOf_8 : decode cX8_widthOf 8 = .ok (.ifCond .eq 10, 3) := by decide +kernel
theorem dX8_widthOf_11 : decode cX8_widthOf 11 = .ok (.iload_n 0, 1) := by decide +kernel
theorem dX8_widthOf_12 : decode cX8_widthOf 12 = .ok (.bipush 97, 2) := by decide +kernel
theorem dX8_widthOf_14 : decode cX8_widthOf 14 = .ok (.isub, 1) := by decide +kernel
theorem dX8_widthOf_15 : decode cX8_widthOf 15 = .ok (.goto 10, 3) := by decide +kernel
theorem dX8_widthOf_18 : decode cX8_widthOf 18 = .ok (.bipush 26, 2) := by decide +kernel
theorem dX8_widthOf_20 : decode cX8_widthOf 20 = .ok (.iload_n 0, 1) := by decide +kernel
theorem dX8_widthOf_21 : decode cX8_widthOf 21 = .ok (.invokestatic 106, 3) := by decide +kernel
theorem dX8_widthOf_24 : decode cX8_widthOf 24 = .ok (.iadd, 1) := by decide +kernel
theorem dX8_widthOf_25 : decode cX8_widthOf 25 = .ok (.ireturn, 1) := by decide +kernel
theorem dX8_wide_0 : decode cX8_wide 0 = .ok (.iload_n 1, 1) := by decide +kernel
theorem dX8_wide_1 : decode cX8_wide 1 = .ok (.invokestatic 110, 3) := by decide +kernel
theorem dX8_wide_4 : decode cX8_wide 4 = .ok (.ifCond .eq 25, 3) := by decide +kernel
theorem dX8_wide_7 : decode cX8_wide 7 = .ok (.iload_n 2, 1) := by decide +kernel
theorem dX8_wide_8 : decode cX8_wide 8 = .ok (.iconst 0, 1) := by decide +kernel
theorem dX8_wide_9 : decode cX8_wide 9 = .ok (.bipush 9, 2) := by decide +kernel
theorem dX8_wide_11 : decode cX8_wide 11 = .ok (.invokestatic 99, 3) := by decide +kernel
theorem dX8_wide_14 : decode cX8_wide 14 = .ok (.ifCond .eq 15, 3) := by decide +kernel
theorem dX8_wide_17 : decode cX8_wide 17 = .ok (.aload_n 0, 1) := by decide +kernel
theorem dX8_wide_18 : decode cX8_wide 18 = .ok (.iload_n 1, 1) := by decide +kernel
theorem dX8_wide_19 : decode cX8_wide 19 = .ok (.invokestatic 150, 3) := by decide +kernel
theorem dX8_wide_22 : decode cX8_wide 22 = .ok (.iload_n 2, 1) := by decide +kernel
theorem dX8_wide_23 : decode cX8_wide 23 = .ok (.invokevirtual 153, 3) := by decide +kernel
theorem dX8_wide_26 : decode cX8_wide 26 = .ok (.goto 4, 3) := by decide +kernel
theorem dX8_wide_29 : decode cX8_wide 29 = .ok (.iconst (-1), 1) := by decide +kernel
theorem dX8_wide_30 : decode cX8_wide 30 = .ok (.ireturn, 1) := by decide +kernel
theorem dX8_hangs_0 : decode cX8_hangs 0 = .ok (.iload_n 1, 1) := by decide +kernel
theorem dX8_hangs_1 : decode cX8_hangs 1 = .ok (.invokestatic 106, 3) := by decide +kernel
theorem dX8_hangs_4 : decode cX8_hangs 4 = .ok (.bipush (-9), 2) := by decide +kernel
theorem dX8_hangs_6 : decode cX8_hangs 6 = .ok (.if_icmp .eq 28, 3) := by decide +kernel
theorem dX8_hangs_9 : decode cX8_hangs 9 = .ok (.iload_n 2, 1) := by decide +kernel
theorem dX8_hangs_10 : decode cX8_hangs 10 = .ok (.iconst 0, 1) := by decide +kernel
theorem dX8_hangs_11 : decode cX8_hangs 11 = .ok (.bipush 10, 2) := by decide +kernel
theorem dX8_hangs_13 : decode cX8_hangs 13 = .ok (.invokestatic 99, 3) := by decide +kernel
theorem dX8_hangs_16 : decode cX8_hangs 16 = .ok (.ifCond .eq 18, 3) := by decide +kernel
theorem dX8_hangs_19 : decode cX8_hangs 19 = .ok (.aload_n 0, 1) := by decide +kernel
theorem dX8_hangs_20 : decode cX8_hangs 20 = .ok (.bipush 30, 2) := by decide +kernel
theorem dX8_hangs_22 : decode cX8_hangs 22 = .ok (.iload_n 1, 1) := by decide +kernel
theorem dX8_hangs_23 : decode cX8_hangs 23 = .ok (.invokestatic 106, 3) := by decide +kernel
theorem dX8_hangs_26 : decode cX8_hangs 26 = .ok (.iadd, 1) := by decide +kernel
theorem dX8_hangs_27 : decode cX8_hangs 27 = .ok (.iload_n 2, 1) := by decide +kernel
theorem dX8_hangs_28 : decode cX8_hangs 28 = .ok (.invokevirtual 153, 3) := by decide +kernel
theorem dX8_hangs_31 : decode cX8_hangs 31 = .ok (.goto 4, 3) := by decide +kernel
theorem dX8_hangs_34 : decode cX8_hangs 34 = .ok (.iconst (-1), 1) := by decide +kernel
theorem dX8_hangs_35 : decode cX8_hangs 35 = .ok (.ireturn, 1) := by decide +kernel
theorem dX8_sets_0 : decode cX8_sets 0 = .ok (.iload_n 1, 1) := by decide +kernel
theorem dX8_sets_1 : decode cX8_sets 1 = .ok (.ifCond .ne 13, 3) := by decide +kernel
theorem dX8_sets_4 : decode cX8_sets 4 = .ok (.iload_n 2, 1) := by decide +kernel
theorem dX8_sets_5 : decode cX8_sets 5 = .ok (.iconst 1, 1) := by decide +kernel
theorem dX8_sets_6 : decode cX8_sets 6 = .ok (.bipush 9, 2) := by decide +kernel
theorem dX8_sets_8 : decode cX8_sets 8 = .ok (.invokestatic 99, 3) := by decide +kernel
theorem dX8_sets_11 : decode cX8_sets 11 = .ok (.goto 45, 3) := by decide +kernel
theorem dX8_sets_14 : decode cX8_sets 14 = .ok (.iload_n 1, 1) := by decide +kernel
theorem dX8_sets_15 : decode cX8_sets 15 = .ok (.iconst 1, 1) := by decide +kernel
theorem dX8_sets_16 : decode cX8_sets 16 = .ok (.if_icmp .ne 15, 3) := by decide +kernel
theorem dX8_sets_19 : decode cX8_sets 19 = .ok (.iload_n 2, 1) := by decide +kernel
theorem dX8_sets_20 : decode cX8_sets 20 = .ok (.bipush 10, 2) := by decide +kernel
theorem dX8_sets_22 : decode cX8_sets 22 = .ok (.sipush 200, 3) := by decide +kernel
theorem dX8_sets_25 : decode cX8_sets 25 = .ok (.invokestatic 99, 3) := by decide +kernel
theorem dX8_sets_28 : decode cX8_sets 28 = .ok (.goto 28, 3) := by decide +kernel
theorem dX8_sets_31 : decode cX8_sets 31 = .ok (.iload_n 1, 1) := by decide +kernel
theorem dX8_sets_32 : decode cX8_sets 32 = .ok (.iconst 2, 1) := by decide +kernel
theorem dX8_sets_33 : decode cX8_sets 33 = .ok (.iconst 3, 1) := by decide +kernel
theorem dX8_sets_34 : decode cX8_sets 34 = .ok (.invokestatic 99, 3) := by decide +kernel
theorem dX8_sets_37 : decode cX8_sets 37 = .ok (.ifCond .eq 18, 3) := by decide +kernel
theorem dX8_sets_40 : decode cX8_sets 40 = .ok (.iload_n 2, 1) := by decide +kernel
theorem dX8_sets_41 : decode cX8_sets 41 = .ok (.iconst 0, 1) := by decide +kernel
theorem dX8_sets_42 : decode cX8_sets 42 = .ok (.sipush 999, 3) := by decide +kernel
theorem dX8_sets_45 : decode cX8_sets 45 = .ok (.invokestatic 99, 3) := by decide +kernel
theorem dX8_sets_48 : decode cX8_sets 48 = .ok (.ifCond .eq 7, 3) := by decide +kernel
theorem dX8_sets_51 : decode cX8_sets 51 = .ok (.iconst 1, 1) := by decide +kernel
theorem dX8_sets_52 : decode cX8_sets 52 = .ok (.goto 4, 3) := by decide +kernel
theorem dX8_sets_55 : decode cX8_sets 55 = .ok (.iconst 0, 1) := by decide +kernel
theorem dX8_sets_56 : decode cX8_sets 56 = .ok (.istore_n 3, 1) := by decide +kernel
theorem dX8_sets_57 : decode cX8_sets 57 = .ok (.iload_n 3, 1) := by decide +kernel
theorem dX8_sets_58 : decode cX8_sets 58 = .ok (.ifCond .eq 15, 3) := by decide +kernel
theorem dX8_sets_61 : decode cX8_sets 61 = .ok (.aload_n 0, 1) := by decide +kernel
theorem dX8_sets_62 : decode cX8_sets 62 = .ok (.bipush 34, 2) := by decide +kernel
theorem dX8_sets_64 : decode cX8_sets 64 = .ok (.iload_n 1, 1) := by decide +kernel
theorem dX8_sets_65 : decode cX8_sets 65 = .ok (.iadd, 1) := by decide +kernel
theorem dX8_sets_66 : decode cX8_sets 66 = .ok (.iload_n 2, 1) := by decide +kernel
theorem dX8_sets_67 : decode cX8_sets 67 = .ok (.invokevirtual 153, 3) := by decide +kernel
theorem dX8_sets_70 : decode cX8_sets 70 = .ok (.goto 4, 3) := by decide +kernel
theorem dX8_sets_73 : decode cX8_sets 73 = .ok (.iconst (-1), 1) := by decide +kernel
theorem dX8_sets_74 : decode cX8_sets 74 = .ok (.ireturn, 1) := by decide +kernel
theorem dX8_undo_0 : decode cX8_undo 0 = .ok (.aload_n 0, 1) := by decide +kernel
theorem dX8_undo_1 : decode cX8_undo 1 = .ok (.getfield 89, 3) := by decide +kernel
theorem dX8_undo_4 : decode cX8_undo 4 = .ok (.ifCond .ne 6, 3) := by decide +kernel
theorem dX8_undo_7 : decode cX8_undo 7 = .ok (.bipush (-2), 2) := by decide +kernel
theorem dX8_undo_9 : decode cX8_undo 9 = .ok (.ireturn, 1) := by decide +kernel
theorem dX8_undo_10 : decode cX8_undo 10 = .ok (.aload_n 0, 1) := by decide +kernel
theorem dX8_undo_11 : decode cX8_undo 11 = .ok (.dup, 1) := by decide +kernel
theorem dX8_undo_12 : decode cX8_undo 12 = .ok (.getfield 89, 3) := by decide +kernel
theorem dX8_undo_15 : decode cX8_undo 15 = .ok (.iconst 1, 1) := by decide +kernel
theorem dX8_undo_16 : decode cX8_undo 16 = .ok (.isub, 1) := by decide +kernel
theorem dX8_undo_17 : decode cX8_undo 17 = .ok (.putfield 89, 3) := by decide +kernel
theorem dX8_undo_20 : decode cX8_undo 20 = .ok (.iconst 0, 1) := by decide +kernel
theorem dX8_undo_21 : decode cX8_undo 21 = .ok (.istore_n 1, 1) := by decide +kernel
theorem dX8_undo_22 : decode cX8_undo 22 = .ok (.iload_n 1, 1) := by decide +kernel
theorem dX8_undo_23 : decode cX8_undo 23 = .ok (.bipush 38, 2) := by decide +kernel
theorem dX8_undo_25 : decode cX8_undo 25 = .ok (.if_icmp .ge 29, 3) := by decide +kernel
theorem dX8_undo_28 : decode cX8_undo 28 = .ok (.aload_n 0, 1) := by decide +kernel
theorem dX8_undo_29 : decode cX8_undo 29 = .ok (.getfield 32, 3) := by decide +kernel
theorem dX8_undo_32 : decode cX8_undo 32 = .ok (.iload_n 1, 1) := by decide +kernel
theorem dX8_undo_33 : decode cX8_undo 33 = .ok (.aload_n 0, 1) := by decide +kernel
theorem dX8_undo_34 : decode cX8_undo 34 = .ok (.getfield 35, 3) := by decide +kernel
theorem dX8_undo_37 : decode cX8_undo 37 = .ok (.bipush 38, 2) := by decide +kernel
theorem dX8_undo_39 : decode cX8_undo 39 = .ok (.aload_n 0, 1) := by decide +kernel
theorem dX8_undo_40 : decode cX8_undo 40 = .ok (.getfield 89, 3) := by decide +kernel
theorem dX8_undo_43 : decode cX8_undo 43 = .ok (.imul, 1) := by decide +kernel
theorem dX8_undo_44 : decode cX8_undo 44 = .ok (.iload_n 1, 1) := by decide +kernel
theorem dX8_undo_45 : decode cX8_undo 45 = .ok (.iadd, 1) := by decide +kernel
theorem dX8_undo_46 : decode cX8_undo 46 = .ok (.iaload, 1) := by decide +kernel
theorem dX8_undo_47 : decode cX8_undo 47 = .ok (.iastore, 1) := by decide +kernel
theorem dX8_undo_48 : decode cX8_undo 48 = .ok (.iinc 1 1, 3) := by decide +kernel
theorem dX8_undo_51 : decode cX8_undo 51 = .ok (.goto (-29), 3) := by decide +kernel
theorem dX8_undo_54 : decode cX8_undo 54 = .ok (.aload_n 0, 1) := by decide +kernel
theorem dX8_undo_55 : decode cX8_undo 55 = .ok (.getfield 89, 3) := by decide +kernel
theorem dX8_undo_58 : decode cX8_undo 58 = .ok (.ireturn, 1) := by decide +kernel
theorem dX8_sums_0 : decode cX8_sums 0 = .ok (.aload_n 0, 1) := by decide +kernel
theorem dX8_sums_1 : decode cX8_sums 1 = .ok (.getfield 53, 3) := by decide +kernel
theorem dX8_sums_4 : decode cX8_sums 4 = .ok (.iconst 0, 1) := by decide +kernel
theorem dX8_sums_5 : decode cX8_sums 5 = .ok (.iconst 0, 1) := by decide +kernel
theorem dX8_sums_6 : decode cX8_sums 6 = .ok (.iastore, 1) := by decide +kernel
theorem dX8_sums_7 : decode cX8_sums 7 = .ok (.iconst 0, 1) := by decide +kernel
theorem dX8_sums_8 : decode cX8_sums 8 = .ok (.istore_n 1, 1) := by decide +kernel
theorem dX8_sums_9 : decode cX8_sums 9 = .ok (.iload_n 1, 1) := by decide +kernel
theorem dX8_sums_10 : decode cX8_sums 10 = .ok (.aload_n 0, 1) := by decide +kernel
theorem dX8_sums_11 : decode cX8_sums 11 = .ok (.getfield 124, 3) := by decide +kernel
theorem dX8_sums_14 : decode cX8_sums 14 = .ok (.if_icmp .ge 64, 3) := by decide +kernel
theorem dX8_sums_17 : decode cX8_sums 17 = .ok (.aload_n 0, 1) := by decide +kernel
theorem dX8_sums_18 : decode cX8_sums 18 = .ok (.getfield 53, 3) := by decide +kernel
theorem dX8_sums_21 : decode cX8_sums 21 = .ok (.iload_n 1, 1) := by decide +kernel
theorem dX8_sums_22 : decode cX8_sums 22 = .ok (.iconst 1, 1) := by decide +kernel
theorem dX8_sums_23 : decode cX8_sums 23 = .ok (.iadd, 1) := by decide +kernel
theorem dX8_sums_24 : decode cX8_sums 24 = .ok (.aload_n 0, 1) := by decide +kernel
theorem dX8_sums_25 : decode cX8_sums 25 = .ok (.getfield 53, 3) := by decide +kernel
theorem dX8_sums_28 : decode cX8_sums 28 = .ok (.iload_n 1, 1) := by decide +kernel
theorem dX8_sums_29 : decode cX8_sums 29 = .ok (.iaload, 1) := by decide +kernel
theorem dX8_sums_30 : decode cX8_sums 30 = .ok (.aload_n 0, 1) := by decide +kernel
theorem dX8_sums_31 : decode cX8_sums 31 = .ok (.getfield 13, 3) := by decide +kernel
theorem dX8_sums_34 : decode cX8_sums 34 = .ok (.iload_n 1, 1) := by decide +kernel
theorem dX8_sums_35 : decode cX8_sums 35 = .ok (.iaload, 1) := by decide +kernel
theorem dX8_sums_36 : decode cX8_sums 36 = .ok (.bipush 32, 2) := by decide +kernel
theorem dX8_sums_38 : decode cX8_sums 38 = .ok (.if_icmp .eq 14, 3) := by decide +kernel
theorem dX8_sums_41 : decode cX8_sums 41 = .ok (.aload_n 0, 1) := by decide +kernel
theorem dX8_sums_42 : decode cX8_sums 42 = .ok (.getfield 13, 3) := by decide +kernel
theorem dX8_sums_45 : decode cX8_sums 45 = .ok (.iload_n 1, 1) := by decide +kernel
theorem dX8_sums_46 : decode cX8_sums 46 = .ok (.iaload, 1) := by decide +kernel
theorem dX8_sums_47 : decode cX8_sums 47 = .ok (.bipush 47, 2) := by decide +kernel
theorem dX8_sums_49 : decode cX8_sums 49 = .ok (.if_icmp .ne 7, 3) := by decide +kernel
theorem dX8_sums_52 : decode cX8_sums 52 = .ok (.iconst 0, 1) := by decide +kernel
theorem dX8_sums_53 : decode cX8_sums 53 = .ok (.goto 17, 3) := by decide +kernel
theorem dX8_sums_56 : decode cX8_sums 56 = .ok (.aload_n 0, 1) := by decide +kernel
theorem dX8_sums_57 : decode cX8_sums 57 = .ok (.getfield 32, 3) := by decide +kernel
theorem dX8_sums_60 : decode cX8_sums 60 = .ok (.aload_n 0, 1) := by decide +kernel
theorem dX8_sums_61 : decode cX8_sums 61 = .ok (.getfield 13, 3) := by decide +kernel
theorem dX8_sums_64 : decode cX8_sums 64 = .ok (.iload_n 1, 1) := by decide +kernel
theorem dX8_sums_65 : decode cX8_sums 65 = .ok (.iaload, 1) := by decide +kernel
theorem dX8_sums_66 : decode cX8_sums 66 = .ok (.invokestatic 150, 3) := by decide +kernel
theorem dX8_sums_69 : decode cX8_sums 69 = .ok (.iaload, 1) := by decide +kernel
theorem dX8_sums_70 : decode cX8_sums 70 = .ok (.iadd, 1) := by decide +kernel
theorem dX8_sums_71 : decode cX8_sums 71 = .ok (.iastore, 1) := by decide +kernel
theorem dX8_sums_72 : decode cX8_sums 72 = .ok (.iinc 1 1, 3) := by decide +kernel
theorem dX8_sums_75 : decode cX8_sums 75 = .ok (.goto (-66), 3) := by decide +kernel
theorem dX8_sums_78 : decode cX8_sums 78 = .ok (.return_, 1) := by decide +kernel
theorem dX8_firstWord_0 : decode cX8_firstWord 0 = .ok (.iload_n 1, 1) := by decide +kernel
theorem dX8_firstWord_1 : decode cX8_firstWord 1 = .ok (.ifCond .ge 7, 3) := by decide +kernel
theorem dX8_firstWord_4 : decode cX8_firstWord 4 = .ok (.iconst 0, 1) := by decide +kernel
theorem dX8_firstWord_5 : decode cX8_firstWord 5 = .ok (.goto 29, 3) := by decide +kernel
theorem dX8_firstWord_8 : decode cX8_firstWord 8 = .ok (.aload_n 0, 1) := by decide +kernel
theorem dX8_firstWord_9 : decode cX8_firstWord 9 = .ok (.getfield 28, 3) := by decide +kernel
theorem dX8_firstWord_12 : decode cX8_firstWord 12 = .ok (.iload_n 1, 1) := by decide +kernel
theorem dX8_firstWord_13 : decode cX8_firstWord 13 = .ok (.baload, 1) := by decide +kernel
theorem dX8_firstWord_14 : decode cX8_firstWord 14 = .ok (.ifCond .eq 12, 3) := by decide +kernel
theorem dX8_firstWord_17 : decode cX8_firstWord 17 = .ok (.aload_n 0, 1) := by decide +kernel
theorem dX8_firstWord_18 : decode cX8_firstWord 18 = .ok (.getfield 22, 3) := by decide +kernel
theorem dX8_firstWord_21 : decode cX8_firstWord 21 = .ok (.iload_n 1, 1) := by decide +kernel
theorem dX8_firstWord_22 : decode cX8_firstWord 22 = .ok (.iaload, 1) := by decide +kernel
theorem dX8_firstWord_23 : decode cX8_firstWord 23 = .ok (.goto 11, 3) := by decide +kernel
theorem dX8_firstWord_26 : decode cX8_firstWord 26 = .ok (.aload_n 0, 1) := by decide +kernel
theorem dX8_firstWord_27 : decode cX8_firstWord 27 = .ok (.getfield 22, 3) := by decide +kernel
theorem dX8_firstWord_30 : decode cX8_firstWord 30 = .ok (.iload_n 1, 1) := by decide +kernel
theorem dX8_firstWord_31 : decode cX8_firstWord 31 = .ok (.iaload, 1) := by decide +kernel
theorem dX8_firstWord_32 : decode cX8_firstWord 32 = .ok (.iconst 1, 1) := by decide +kernel
theorem dX8_firstWord_33 : decode cX8_firstWord 33 = .ok (.iadd, 1) := by decide +kernel
theorem dX8_firstWord_34 : decode cX8_firstWord 34 = .ok (.ireturn, 1) := by decide +kernel
theorem dX8_firstLetter_0 : decode cX8_firstLetter 0 = .ok (.iload_n 1, 1) := by decide +kernel
theorem dX8_firstLetter_1 : decode cX8_firstLetter 1 = .ok (.ifCond .lt 23, 3) := by decide +kernel
theorem dX8_firstLetter_4 : decode cX8_firstLetter 4 = .ok (.aload_n 0, 1) := by decide +kernel
theorem dX8_firstLetter_5 : decode cX8_firstLetter 5 = .ok (.getfield 28, 3) := by decide +kernel
theorem dX8_firstLetter_8 : decode cX8_firstLetter 8 = .ok (.iload_n 1, 1) := by decide +kernel
theorem dX8_firstLetter_9 : decode cX8_firstLetter 9 = .ok (.baload, 1) := by decide +kernel
theorem dX8_firstLetter_10 : decode cX8_firstLetter 10 = .ok (.ifCond .eq 14, 3) := by decide +kernel
theorem dX8_firstLetter_13 : decode cX8_firstLetter 13 = .ok (.aload_n 0, 1) := by decide +kernel
theorem dX8_firstLetter_14 : decode cX8_firstLetter 14 = .ok (.getfield 25, 3) := by decide +kernel
theorem dX8_firstLetter_17 : decode cX8_firstLetter 17 = .ok (.iload_n 1, 1) := by decide +kernel
theorem dX8_firstLetter_18 : decode cX8_firstLetter 18 = .ok (.iaload, 1) := by decide +kernel
theorem dX8_firstLetter_19 : decode cX8_firstLetter 19 = .ok (.iconst 1, 1) := by decide +kernel
theorem dX8_firstLetter_20 : decode cX8_firstLetter 20 = .ok (.iadd, 1) := by decide +kernel
theorem dX8_firstLetter_21 : decode cX8_firstLetter 21 = .ok (.goto 13, 3) := by decide +kernel
theorem dX8_firstLetter_24 : decode cX8_firstLetter 24 = .ok (.aload_n 0, 1) := by decide +kernel
theorem dX8_firstLetter_25 : decode cX8_firstLetter 25 = .ok (.getfield 16, 3) := by decide +kernel
theorem dX8_firstLetter_28 : decode cX8_firstLetter 28 = .ok (.aload_n 0, 1) := by decide +kernel
theorem dX8_firstLetter_29 : decode cX8_firstLetter 29 = .ok (.iload_n 1, 1) := by decide +kernel
theorem dX8_firstLetter_30 : decode cX8_firstLetter 30 = .ok (.invokevirtual 157, 3) := by decide +kernel
theorem dX8_firstLetter_33 : decode cX8_firstLetter 33 = .ok (.iaload, 1) := by decide +kernel
theorem dX8_firstLetter_34 : decode cX8_firstLetter 34 = .ok (.ireturn, 1) := by decide +kernel
theorem dX8_natural_0 : decode cX8_natural 0 = .ok (.aload_n 0, 1) := by decide +kernel
theorem dX8_natural_1 : decode cX8_natural 1 = .ok (.getfield 22, 3) := by decide +kernel
theorem dX8_natural_4 : decode cX8_natural 4 = .ok (.iload_n 2, 1) := by decide +kernel
theorem dX8_natural_5 : decode cX8_natural 5 = .ok (.iaload, 1) := by decide +kernel
theorem dX8_natural_6 : decode cX8_natural 6 = .ok (.aload_n 0, 1) := by decide +kernel
theorem dX8_natural_7 : decode cX8_natural 7 = .ok (.iload_n 1, 1) := by decide +kernel
theorem dX8_natural_8 : decode cX8_natural 8 = .ok (.invokevirtual 157, 3) := by decide +kernel
theorem dX8_natural_11 : decode cX8_natural 11 = .ok (.isub, 1) := by decide +kernel
theorem dX8_natural_12 : decode cX8_natural 12 = .ok (.istore_n 3, 1) := by decide +kernel
theorem dX8_natural_13 : decode cX8_natural 13 = .ok (.aload_n 0, 1) := by decide +kernel
theorem dX8_natural_14 : decode cX8_natural 14 = .ok (.getfield 53, 3) := by decide +kernel
theorem dX8_natural_17 : decode cX8_natural 17 = .ok (.aload_n 0, 1) := by decide +kernel
theorem dX8_natural_18 : decode cX8_natural 18 = .ok (.getfield 25, 3) := by decide +kernel
theorem dX8_natural_21 : decode cX8_natural 21 = .ok (.iload_n 2, 1) := by decide +kernel
theorem dX8_natural_22 : decode cX8_natural 22 = .ok (.iaload, 1) := by decide +kernel
theorem dX8_natural_23 : decode cX8_natural 23 = .ok (.iaload, 1) := by decide +kernel
theorem dX8_natural_24 : decode cX8_natural 24 = .ok (.aload_n 0, 1) := by decide +kernel
theorem dX8_natural_25 : decode cX8_natural 25 = .ok (.getfield 53, 3) := by decide +kernel
theorem dX8_natural_28 : decode cX8_natural 28 = .ok (.aload_n 0, 1) := by decide +kernel
theorem dX8_natural_29 : decode cX8_natural 29 = .ok (.iload_n 1, 1) := by decide +kernel
theorem dX8_natural_30 : decode cX8_natural 30 = .ok (.invokevirtual 160, 3) := by decide +kernel
theorem dX8_natural_33 : decode cX8_natural 33 = .ok (.iaload, 1) := by decide +kernel
theorem dX8_natural_34 : decode cX8_natural 34 = .ok (.isub, 1) := by decide +kernel
theorem dX8_natural_35 : decode cX8_natural 35 = .ok (.aload_n 0, 1) := by decide +kernel
theorem dX8_natural_36 : decode cX8_natural 36 = .ok (.getfield 32, 3) := by decide +kernel
theorem dX8_natural_39 : decode cX8_natural 39 = .ok (.bipush 34, 2) := by decide +kernel
theorem dX8_natural_41 : decode cX8_natural 41 = .ok (.iaload, 1) := by decide +kernel
theorem dX8_natural_42 : decode cX8_natural 42 = .ok (.iload_n 3, 1) := by decide +kernel
theorem dX8_natural_43 : decode cX8_natural 43 = .ok (.imul, 1) := by decide +kernel
theorem dX8_natural_44 : decode cX8_natural 44 = .ok (.iadd, 1) := by decide +kernel
theorem dX8_natural_45 : decode cX8_natural 45 = .ok (.aload_n 0, 1) := by decide +kernel
theorem dX8_natural_46 : decode cX8_natural 46 = .ok (.getfield 28, 3) := by decide +kernel
theorem dX8_natural_49 : decode cX8_natural 49 = .ok (.iload_n 2, 1) := by decide +kernel
theorem dX8_natural_50 : decode cX8_natural 50 = .ok (.baload, 1) := by decide +kernel
theorem dX8_natural_51 : decode cX8_natural 51 = .ok (.ifCond .eq 13, 3) := by decide +kernel
theorem dX8_natural_54 : decode cX8_natural 54 = .ok (.aload_n 0, 1) := by decide +kernel
theorem dX8_natural_55 : decode cX8_natural 55 = .ok (.getfield 32, 3) := by decide +kernel
theorem dX8_natural_58 : decode cX8_natural 58 = .ok (.bipush 28, 2) := by decide +kernel
theorem dX8_natural_60 : decode cX8_natural 60 = .ok (.iaload, 1) := by decide +kernel
theorem dX8_natural_61 : decode cX8_natural 61 = .ok (.goto 4, 3) := by decide +kernel
theorem dX8_natural_64 : decode cX8_natural 64 = .ok (.iconst 0, 1) := by decide +kernel
theorem dX8_natural_65 : decode cX8_natural 65 = .ok (.iadd, 1) := by decide +kernel
theorem dX8_natural_66 : decode cX8_natural 66 = .ok (.ireturn, 1) := by decide +kernel
theorem dX8_hung_0 : decode cX8_hung 0 = .ok (.aload_n 0, 1) := by decide +kernel
theorem dX8_hung_1 : decode cX8_hung 1 = .ok (.getfield 28, 3) := by decide +kernel
theorem dX8_hung_4 : decode cX8_hung 4 = .ok (.iload_n 1, 1) := by decide +kernel
theorem dX8_hung_5 : decode cX8_hung 5 = .ok (.baload, 1) := by decide +kernel
theorem dX8_hung_6 : decode cX8_hung 6 = .ok (.ifCond .eq 7, 3) := by decide +kernel
theorem dX8_hung_9 : decode cX8_hung 9 = .ok (.iconst 2, 1) := by decide +kernel
theorem dX8_hung_10 : decode cX8_hung 10 = .ok (.goto 19, 3) := by decide +kernel
theorem dX8_hung_13 : decode cX8_hung 13 = .ok (.aload_n 0, 1) := by decide +kernel
theorem dX8_hung_14 : decode cX8_hung 14 = .ok (.getfield 13, 3) := by decide +kernel
theorem dX8_hung_17 : decode cX8_hung 17 = .ok (.aload_n 0, 1) := by decide +kernel
theorem dX8_hung_18 : decode cX8_hung 18 = .ok (.getfield 25, 3) := by decide +kernel
theorem dX8_hung_21 : decode cX8_hung 21 = .ok (.iload_n 1, 1) := by decide +kernel
theorem dX8_hung_22 : decode cX8_hung 22 = .ok (.iaload, 1) := by decide +kernel
theorem dX8_hung_23 : decode cX8_hung 23 = .ok (.iconst 1, 1) := by decide +kernel
theorem dX8_hung_24 : decode cX8_hung 24 = .ok (.isub, 1) := by decide +kernel
theorem dX8_hung_25 : decode cX8_hung 25 = .ok (.iaload, 1) := by decide +kernel
theorem dX8_hung_26 : decode cX8_hung 26 = .ok (.invokestatic 106, 3) := by decide +kernel
theorem dX8_hung_29 : decode cX8_hung 29 = .ok (.istore_n 2, 1) := by decide +kernel
theorem dX8_hung_30 : decode cX8_hung 30 = .ok (.iload_n 2, 1) := by decide +kernel
theorem dX8_hung_31 : decode cX8_hung 31 = .ok (.bipush (-9), 2) := by decide +kernel
theorem dX8_hung_33 : decode cX8_hung 33 = .ok (.if_icmp .ne 7, 3) := by decide +kernel
theorem dX8_hung_36 : decode cX8_hung 36 = .ok (.iconst 0, 1) := by decide +kernel
theorem dX8_hung_37 : decode cX8_hung 37 = .ok (.goto 25, 3) := by decide +kernel
theorem dX8_hung_40 : decode cX8_hung 40 = .ok (.aload_n 0, 1) := by decide +kernel
theorem dX8_hung_41 : decode cX8_hung 41 = .ok (.getfield 32, 3) := by decide +kernel
theorem dX8_hung_44 : decode cX8_hung 44 = .ok (.bipush 26, 2) := by decide +kernel
theorem dX8_hung_46 : decode cX8_hung 46 = .ok (.iload_n 2, 1) := by decide +kernel
theorem dX8_hung_47 : decode cX8_hung 47 = .ok (.iadd, 1) := by decide +kernel
theorem dX8_hung_48 : decode cX8_hung 48 = .ok (.iaload, 1) := by decide +kernel
theorem dX8_hung_49 : decode cX8_hung 49 = .ok (.aload_n 0, 1) := by decide +kernel
theorem dX8_hung_50 : decode cX8_hung 50 = .ok (.getfield 32, 3) := by decide +kernel
theorem dX8_hung_53 : decode cX8_hung 53 = .ok (.bipush 30, 2) := by decide +kernel
theorem dX8_hung_55 : decode cX8_hung 55 = .ok (.iload_n 2, 1) := by decide +kernel
theorem dX8_hung_56 : decode cX8_hung 56 = .ok (.iadd, 1) := by decide +kernel
theorem dX8_hung_57 : decode cX8_hung 57 = .ok (.iaload, 1) := by decide +kernel
theorem dX8_hung_58 : decode cX8_hung 58 = .ok (.imul, 1) := by decide +kernel
theorem dX8_hung_59 : decode cX8_hung 59 = .ok (.bipush 10, 2) := by decide +kernel
theorem dX8_hung_61 : decode cX8_hung 61 = .ok (.idiv, 1) := by decide +kernel
theorem dX8_hung_62 : decode cX8_hung 62 = .ok (.ireturn, 1) := by decide +kernel
theorem dX8_left_0 : decode cX8_left 0 = .ok (.iload_n 3, 1) := by decide +kernel
theorem dX8_left_1 : decode cX8_left 1 = .ok (.aload_n 0, 1) := by decide +kernel
theorem dX8_left_2 : decode cX8_left 2 = .ok (.iload_n 2, 1) := by decide +kernel
theorem dX8_left_3 : decode cX8_left 3 = .ok (.invokevirtual 163, 3) := by decide +kernel
theorem dX8_left_6 : decode cX8_left 6 = .ok (.iadd, 1) := by decide +kernel
theorem dX8_left_7 : decode cX8_left 7 = .ok (.aload_n 0, 1) := by decide +kernel
theorem dX8_left_8 : decode cX8_left 8 = .ok (.iload_n 1, 1) := by decide +kernel
theorem dX8_left_9 : decode cX8_left 9 = .ok (.iload_n 2, 1) := by decide +kernel
theorem dX8_left_10 : decode cX8_left 10 = .ok (.invokevirtual 166, 3) := by decide +kernel
theorem dX8_left_13 : decode cX8_left 13 = .ok (.isub, 1) := by decide +kernel
theorem dX8_left_14 : decode cX8_left 14 = .ok (.ireturn, 1) := by decide +kernel
theorem dX8_costOf_0 : decode cX8_costOf 0 = .ok (.iload_n 2, 1) := by decide +kernel
theorem dX8_costOf_1 : decode cX8_costOf 1 = .ok (.aload_n 0, 1) := by decide +kernel
theorem dX8_costOf_2 : decode cX8_costOf 2 = .ok (.getfield 117, 3) := by decide +kernel
theorem dX8_costOf_5 : decode cX8_costOf 5 = .ok (.iconst 1, 1) := by decide +kernel
theorem dX8_costOf_6 : decode cX8_costOf 6 = .ok (.isub, 1) := by decide +kernel
theorem dX8_costOf_7 : decode cX8_costOf 7 = .ok (.if_icmp .ne 7, 3) := by decide +kernel
theorem dX8_costOf_10 : decode cX8_costOf 10 = .ok (.iconst 0, 1) := by decide +kernel
theorem dX8_costOf_11 : decode cX8_costOf 11 = .ok (.goto 6, 3) := by decide +kernel
theorem dX8_costOf_14 : decode cX8_costOf 14 = .ok (.iload_n 3, 1) := by decide +kernel
theorem dX8_costOf_15 : decode cX8_costOf 15 = .ok (.iload_n 3, 1) := by decide +kernel
theorem dX8_costOf_16 : decode cX8_costOf 16 = .ok (.imul, 1) := by decide +kernel
theorem dX8_costOf_17 : decode cX8_costOf 17 = .ok (.istore 4, 2) := by decide +kernel
theorem dX8_costOf_19 : decode cX8_costOf 19 = .ok (.iload 4, 2) := by decide +kernel
theorem dX8_costOf_21 : decode cX8_costOf 21 = .ok (.aload_n 0, 1) := by decide +kernel
theorem dX8_costOf_22 : decode cX8_costOf 22 = .ok (.getfield 28, 3) := by decide +kernel
theorem dX8_costOf_25 : decode cX8_costOf 25 = .ok (.iload_n 2, 1) := by decide +kernel
theorem dX8_costOf_26 : decode cX8_costOf 26 = .ok (.baload, 1) := by decide +kernel
theorem dX8_costOf_27 : decode cX8_costOf 27 = .ok (.ifCond .eq 13, 3) := by decide +kernel
theorem dX8_costOf_30 : decode cX8_costOf 30 = .ok (.aload_n 0, 1) := by decide +kernel
theorem dX8_costOf_31 : decode cX8_costOf 31 = .ok (.getfield 32, 3) := by decide +kernel
theorem dX8_costOf_34 : decode cX8_costOf 34 = .ok (.bipush 36, 2) := by decide +kernel
theorem dX8_costOf_36 : decode cX8_costOf 36 = .ok (.iaload, 1) := by decide +kernel
theorem dX8_costOf_37 : decode cX8_costOf 37 = .ok (.goto 4, 3) := by decide +kernel
theorem dX8_costOf_40 : decode cX8_costOf 40 = .ok (.iconst 0, 1) := by decide +kernel
theorem dX8_costOf_41 : decode cX8_costOf 41 = .ok (.iadd, 1) := by decide +kernel
theorem dX8_costOf_42 : decode cX8_costOf 42 = .ok (.istore 4, 2) := by decide +kernel
theorem dX8_costOf_44 : decode cX8_costOf 44 = .ok (.iload 4, 2) := by decide +kernel
theorem dX8_costOf_46 : decode cX8_costOf 46 = .ok (.aload_n 0, 1) := by decide +kernel
theorem dX8_costOf_47 : decode cX8_costOf 47 = .ok (.getfield 28, 3) := by decide +kernel
theorem dX8_costOf_50 : decode cX8_costOf 50 = .ok (.iload_n 2, 1) := by decide +kernel
theorem dX8_costOf_51 : decode cX8_costOf 51 = .ok (.baload, 1) := by decide +kernel
theorem dX8_costOf_52 : decode cX8_costOf 52 = .ok (.ifCond .eq 26, 3) := by decide +kernel
theorem dX8_costOf_55 : decode cX8_costOf 55 = .ok (.iload_n 1, 1) := by decide +kernel
theorem dX8_costOf_56 : decode cX8_costOf 56 = .ok (.ifCond .lt 22, 3) := by decide +kernel
theorem dX8_costOf_59 : decode cX8_costOf 59 = .ok (.aload_n 0, 1) := by decide +kernel
theorem dX8_costOf_60 : decode cX8_costOf 60 = .ok (.getfield 28, 3) := by decide +kernel
theorem dX8_costOf_63 : decode cX8_costOf 63 = .ok (.iload_n 1, 1) := by decide +kernel
theorem dX8_costOf_64 : decode cX8_costOf 64 = .ok (.baload, 1) := by decide +kernel
theorem dX8_costOf_65 : decode cX8_costOf 65 = .ok (.ifCond .eq 13, 3) := by decide +kernel
theorem dX8_costOf_68 : decode cX8_costOf 68 = .ok (.aload_n 0, 1) := by decide +kernel
theorem dX8_costOf_69 : decode cX8_costOf 69 = .ok (.getfield 32, 3) := by decide +kernel
theorem dX8_costOf_72 : decode cX8_costOf 72 = .ok (.bipush 37, 2) := by decide +kernel
theorem dX8_costOf_74 : decode cX8_costOf 74 = .ok (.iaload, 1) := by decide +kernel
theorem dX8_costOf_75 : decode cX8_costOf 75 = .ok (.goto 4, 3) := by decide +kernel
theorem dX8_costOf_78 : decode cX8_costOf 78 = .ok (.iconst 0, 1) := by decide +kernel
theorem dX8_costOf_79 : decode cX8_costOf 79 = .ok (.iadd, 1) := by decide +kernel
theorem dX8_costOf_80 : decode cX8_costOf 80 = .ok (.ireturn, 1) := by decide +kernel
theorem dX8_looksFrom_0 : decode cX8_looksFrom 0 = .ok (.aload_n 0, 1) := by decide +kernel
theorem dX8_looksFrom_1 : decode cX8_looksFrom 1 = .ok (.getfield 56, 3) := by decide +kernel
theorem dX8_looksFrom_4 : decode cX8_looksFrom 4 = .ok (.iload_n 1, 1) := by decide +kernel
theorem dX8_looksFrom_5 : decode cX8_looksFrom 5 = .ok (.iconst 1, 1) := by decide +kernel
theorem dX8_looksFrom_6 : decode cX8_looksFrom 6 = .ok (.iadd, 1) := by decide +kernel
theorem dX8_looksFrom_7 : decode cX8_looksFrom 7 = .ok (.bipush (-9), 2) := by decide +kernel
theorem dX8_looksFrom_9 : decode cX8_looksFrom 9 = .ok (.iastore, 1) := by decide +kernel
theorem dX8_looksFrom_10 : decode cX8_looksFrom 10 = .ok (.iload_n 1, 1) := by decide +kernel
theorem dX8_looksFrom_11 : decode cX8_looksFrom 11 = .ok (.iconst 1, 1) := by decide +kernel
theorem dX8_looksFrom_12 : decode cX8_looksFrom 12 = .ok (.iadd, 1) := by decide +kernel
theorem dX8_looksFrom_13 : decode cX8_looksFrom 13 = .ok (.istore_n 3, 1) := by decide +kernel
theorem dX8_looksFrom_14 : decode cX8_looksFrom 14 = .ok (.iload_n 3, 1) := by decide +kernel
theorem dX8_looksFrom_15 : decode cX8_looksFrom 15 = .ok (.aload_n 0, 1) := by decide +kernel
theorem dX8_looksFrom_16 : decode cX8_looksFrom 16 = .ok (.getfield 117, 3) := by decide +kernel
theorem dX8_looksFrom_19 : decode cX8_looksFrom 19 = .ok (.if_icmp .ge 160, 3) := by decide +kernel
theorem dX8_looksFrom_22 : decode cX8_looksFrom 22 = .ok (.aload_n 0, 1) := by decide +kernel
theorem dX8_looksFrom_23 : decode cX8_looksFrom 23 = .ok (.iload_n 1, 1) := by decide +kernel
theorem dX8_looksFrom_24 : decode cX8_looksFrom 24 = .ok (.iload_n 3, 1) := by decide +kernel
theorem dX8_looksFrom_25 : decode cX8_looksFrom 25 = .ok (.iload_n 2, 1) := by decide +kernel
theorem dX8_looksFrom_26 : decode cX8_looksFrom 26 = .ok (.invokevirtual 169, 3) := by decide +kernel
theorem dX8_looksFrom_29 : decode cX8_looksFrom 29 = .ok (.istore 4, 2) := by decide +kernel
theorem dX8_looksFrom_31 : decode cX8_looksFrom 31 = .ok (.iload 4, 2) := by decide +kernel
theorem dX8_looksFrom_33 : decode cX8_looksFrom 33 = .ok (.ifCond .lt 140, 3) := by decide +kernel
theorem dX8_looksFrom_36 : decode cX8_looksFrom 36 = .ok (.aload_n 0, 1) := by decide +kernel
theorem dX8_looksFrom_37 : decode cX8_looksFrom 37 = .ok (.getfield 56, 3) := by decide +kernel
theorem dX8_looksFrom_40 : decode cX8_looksFrom 40 = .ok (.iload_n 3, 1) := by decide +kernel
theorem dX8_looksFrom_41 : decode cX8_looksFrom 41 = .ok (.iconst 1, 1) := by decide +kernel
theorem dX8_looksFrom_42 : decode cX8_looksFrom 42 = .ok (.iadd, 1) := by decide +kernel
theorem dX8_looksFrom_43 : decode cX8_looksFrom 43 = .ok (.iaload, 1) := by decide +kernel
theorem dX8_looksFrom_44 : decode cX8_looksFrom 44 = .ok (.bipush (-9), 2) := by decide +kernel
theorem dX8_looksFrom_46 : decode cX8_looksFrom 46 = .ok (.if_icmp .eq 127, 3) := by decide +kernel
theorem dX8_looksFrom_49 : decode cX8_looksFrom 49 = .ok (.aload_n 0, 1) := by decide +kernel
theorem dX8_looksFrom_50 : decode cX8_looksFrom 50 = .ok (.iload_n 1, 1) := by decide +kernel
theorem dX8_looksFrom_51 : decode cX8_looksFrom 51 = .ok (.iload_n 3, 1) := by decide +kernel
theorem dX8_looksFrom_52 : decode cX8_looksFrom 52 = .ok (.iload 4, 2) := by decide +kernel
theorem dX8_looksFrom_54 : decode cX8_looksFrom 54 = .ok (.invokevirtual 173, 3) := by decide +kernel
theorem dX8_looksFrom_57 : decode cX8_looksFrom 57 = .ok (.aload_n 0, 1) := by decide +kernel
theorem dX8_looksFrom_58 : decode cX8_looksFrom 58 = .ok (.getfield 56, 3) := by decide +kernel
theorem dX8_looksFrom_61 : decode cX8_looksFrom 61 = .ok (.iload_n 3, 1) := by decide +kernel
theorem dX8_looksFrom_62 : decode cX8_looksFrom 62 = .ok (.iconst 1, 1) := by decide +kernel
theorem dX8_looksFrom_63 : decode cX8_looksFrom 63 = .ok (.iadd, 1) := by decide +kernel
theorem dX8_looksFrom_64 : decode cX8_looksFrom 64 = .ok (.iaload, 1) := by decide +kernel
theorem dX8_looksFrom_65 : decode cX8_looksFrom 65 = .ok (.iadd, 1) := by decide +kernel
theorem dX8_looksFrom_66 : decode cX8_looksFrom 66 = .ok (.istore 5, 2) := by decide +kernel
theorem dX8_looksFrom_68 : decode cX8_looksFrom 68 = .ok (.aload_n 0, 1) := by decide +kernel
theorem dX8_looksFrom_69 : decode cX8_looksFrom 69 = .ok (.getfield 59, 3) := by decide +kernel
theorem dX8_looksFrom_72 : decode cX8_looksFrom 72 = .ok (.iload_n 3, 1) := by decide +kernel
theorem dX8_looksFrom_73 : decode cX8_looksFrom 73 = .ok (.iconst 1, 1) := by decide +kernel
theorem dX8_looksFrom_74 : decode cX8_looksFrom 74 = .ok (.iadd, 1) := by decide +kernel
theorem dX8_looksFrom_75 : decode cX8_looksFrom 75 = .ok (.iaload, 1) := by decide +kernel
theorem dX8_looksFrom_76 : decode cX8_looksFrom 76 = .ok (.iconst 1, 1) := by decide +kernel
theorem dX8_looksFrom_77 : decode cX8_looksFrom 77 = .ok (.iadd, 1) := by decide +kernel
theorem dX8_looksFrom_78 : decode cX8_looksFrom 78 = .ok (.istore 6, 2) := by decide +kernel
theorem dX8_looksFrom_80 : decode cX8_looksFrom 80 = .ok (.aload_n 0, 1) := by decide +kernel
theorem dX8_looksFrom_81 : decode cX8_looksFrom 81 = .ok (.getfield 56, 3) := by decide +kernel
theorem dX8_looksFrom_84 : decode cX8_looksFrom 84 = .ok (.iload_n 1, 1) := by decide +kernel
theorem dX8_looksFrom_85 : decode cX8_looksFrom 85 = .ok (.iconst 1, 1) := by decide +kernel
theorem dX8_looksFrom_86 : decode cX8_looksFrom 86 = .ok (.iadd, 1) := by decide +kernel
theorem dX8_looksFrom_87 : decode cX8_looksFrom 87 = .ok (.iaload, 1) := by decide +kernel
theorem dX8_looksFrom_88 : decode cX8_looksFrom 88 = .ok (.bipush (-9), 2) := by decide +kernel
theorem dX8_looksFrom_90 : decode cX8_looksFrom 90 = .ok (.if_icmp .eq 42, 3) := by decide +kernel
theorem dX8_looksFrom_93 : decode cX8_looksFrom 93 = .ok (.iload 5, 2) := by decide +kernel
theorem dX8_looksFrom_95 : decode cX8_looksFrom 95 = .ok (.aload_n 0, 1) := by decide +kernel
theorem dX8_looksFrom_96 : decode cX8_looksFrom 96 = .ok (.getfield 56, 3) := by decide +kernel
theorem dX8_looksFrom_99 : decode cX8_looksFrom 99 = .ok (.iload_n 1, 1) := by decide +kernel
theorem dX8_looksFrom_100 : decode cX8_looksFrom 100 = .ok (.iconst 1, 1) := by decide +kernel
theorem dX8_looksFrom_101 : decode cX8_looksFrom 101 = .ok (.iadd, 1) := by decide +kernel
theorem dX8_looksFrom_102 : decode cX8_looksFrom 102 = .ok (.iaload, 1) := by decide +kernel
theorem dX8_looksFrom_103 : decode cX8_looksFrom 103 = .ok (.if_icmp .lt 29, 3) := by decide +kernel
theorem dX8_looksFrom_106 : decode cX8_looksFrom 106 = .ok (.iload 5, 2) := by decide +kernel
theorem dX8_looksFrom_108 : decode cX8_looksFrom 108 = .ok (.aload_n 0, 1) := by decide +kernel
theorem dX8_looksFrom_109 : decode cX8_looksFrom 109 = .ok (.getfield 56, 3) := by decide +kernel
theorem dX8_looksFrom_112 : decode cX8_looksFrom 112 = .ok (.iload_n 1, 1) := by decide +kernel
theorem dX8_looksFrom_113 : decode cX8_looksFrom 113 = .ok (.iconst 1, 1) := by decide +kernel
theorem dX8_looksFrom_114 : decode cX8_looksFrom 114 = .ok (.iadd, 1) := by decide +kernel
theorem dX8_looksFrom_115 : decode cX8_looksFrom 115 = .ok (.iaload, 1) := by decide +kernel
theorem dX8_looksFrom_116 : decode cX8_looksFrom 116 = .ok (.if_icmp .ne 20, 3) := by decide +kernel
theorem dX8_looksFrom_119 : decode cX8_looksFrom 119 = .ok (.iload 6, 2) := by decide +kernel
theorem dX8_looksFrom_121 : decode cX8_looksFrom 121 = .ok (.aload_n 0, 1) := by decide +kernel
theorem dX8_looksFrom_122 : decode cX8_looksFrom 122 = .ok (.getfield 59, 3) := by decide +kernel
theorem dX8_looksFrom_125 : decode cX8_looksFrom 125 = .ok (.iload_n 1, 1) := by decide +kernel
theorem dX8_looksFrom_126 : decode cX8_looksFrom 126 = .ok (.iconst 1, 1) := by decide +kernel
theorem dX8_looksFrom_127 : decode cX8_looksFrom 127 = .ok (.iadd, 1) := by decide +kernel
theorem dX8_looksFrom_128 : decode cX8_looksFrom 128 = .ok (.iaload, 1) := by decide +kernel
theorem dX8_looksFrom_129 : decode cX8_looksFrom 129 = .ok (.if_icmp .gt 7, 3) := by decide +kernel
theorem dX8_looksFrom_132 : decode cX8_looksFrom 132 = .ok (.iconst 1, 1) := by decide +kernel
theorem dX8_looksFrom_133 : decode cX8_looksFrom 133 = .ok (.goto 4, 3) := by decide +kernel
theorem dX8_looksFrom_136 : decode cX8_looksFrom 136 = .ok (.iconst 0, 1) := by decide +kernel
theorem dX8_looksFrom_137 : decode cX8_looksFrom 137 = .ok (.istore 7, 2) := by decide +kernel
theorem dX8_looksFrom_139 : decode cX8_looksFrom 139 = .ok (.iload 7, 2) := by decide +kernel
theorem dX8_looksFrom_141 : decode cX8_looksFrom 141 = .ok (.ifCond .eq 32, 3) := by decide +kernel
theorem dX8_looksFrom_144 : decode cX8_looksFrom 144 = .ok (.aload_n 0, 1) := by decide +kernel
theorem dX8_looksFrom_145 : decode cX8_looksFrom 145 = .ok (.getfield 56, 3) := by decide +kernel
theorem dX8_looksFrom_148 : decode cX8_looksFrom 148 = .ok (.iload_n 1, 1) := by decide +kernel
theorem dX8_looksFrom_149 : decode cX8_looksFrom 149 = .ok (.iconst 1, 1) := by decide +kernel
theorem dX8_looksFrom_150 : decode cX8_looksFrom 150 = .ok (.iadd, 1) := by decide +kernel
theorem dX8_looksFrom_151 : decode cX8_looksFrom 151 = .ok (.iload 5, 2) := by decide +kernel
theorem dX8_looksFrom_153 : decode cX8_looksFrom 153 = .ok (.iastore, 1) := by decide +kernel
theorem dX8_looksFrom_154 : decode cX8_looksFrom 154 = .ok (.aload_n 0, 1) := by decide +kernel
theorem dX8_looksFrom_155 : decode cX8_looksFrom 155 = .ok (.getfield 59, 3) := by decide +kernel
theorem dX8_looksFrom_158 : decode cX8_looksFrom 158 = .ok (.iload_n 1, 1) := by decide +kernel
theorem dX8_looksFrom_159 : decode cX8_looksFrom 159 = .ok (.iconst 1, 1) := by decide +kernel
theorem dX8_looksFrom_160 : decode cX8_looksFrom 160 = .ok (.iadd, 1) := by decide +kernel
theorem dX8_looksFrom_161 : decode cX8_looksFrom 161 = .ok (.iload 6, 2) := by decide +kernel
theorem dX8_looksFrom_163 : decode cX8_looksFrom 163 = .ok (.iastore, 1) := by decide +kernel
theorem dX8_looksFrom_164 : decode cX8_looksFrom 164 = .ok (.aload_n 0, 1) := by decide +kernel
theorem dX8_looksFrom_165 : decode cX8_looksFrom 165 = .ok (.getfield 62, 3) := by decide +kernel
theorem dX8_looksFrom_168 : decode cX8_looksFrom 168 = .ok (.iload_n 1, 1) := by decide +kernel
theorem dX8_looksFrom_169 : decode cX8_looksFrom 169 = .ok (.iconst 1, 1) := by decide +kernel
theorem dX8_looksFrom_170 : decode cX8_looksFrom 170 = .ok (.iadd, 1) := by decide +kernel
theorem dX8_looksFrom_171 : decode cX8_looksFrom 171 = .ok (.iload_n 3, 1) := by decide +kernel
theorem dX8_looksFrom_172 : decode cX8_looksFrom 172 = .ok (.iastore, 1) := by decide +kernel
theorem dX8_looksFrom_173 : decode cX8_looksFrom 173 = .ok (.iinc 3 1, 3) := by decide +kernel
theorem dX8_looksFrom_176 : decode cX8_looksFrom 176 = .ok (.goto (-162), 3) := by decide +kernel
theorem dX8_looksFrom_179 : decode cX8_looksFrom 179 = .ok (.return_, 1) := by decide +kernel
theorem dX8_laysPage_0 : decode cX8_laysPage 0 = .ok (.aload_n 0, 1) := by decide +kernel
theorem dX8_laysPage_1 : decode cX8_laysPage 1 = .ok (.invokevirtual 176, 3) := by decide +kernel
theorem dX8_laysPage_4 : decode cX8_laysPage 4 = .ok (.aload_n 0, 1) := by decide +kernel
theorem dX8_laysPage_5 : decode cX8_laysPage 5 = .ok (.getfield 56, 3) := by decide +kernel
theorem dX8_laysPage_8 : decode cX8_laysPage 8 = .ok (.aload_n 0, 1) := by decide +kernel
theorem dX8_laysPage_9 : decode cX8_laysPage 9 = .ok (.getfield 117, 3) := by decide +kernel
theorem dX8_laysPage_12 : decode cX8_laysPage 12 = .ok (.iconst 0, 1) := by decide +kernel
theorem dX8_laysPage_13 : decode cX8_laysPage 13 = .ok (.iastore, 1) := by decide +kernel
theorem dX8_laysPage_14 : decode cX8_laysPage 14 = .ok (.aload_n 0, 1) := by decide +kernel
theorem dX8_laysPage_15 : decode cX8_laysPage 15 = .ok (.getfield 59, 3) := by decide +kernel
theorem dX8_laysPage_18 : decode cX8_laysPage 18 = .ok (.aload_n 0, 1) := by decide +kernel
theorem dX8_laysPage_19 : decode cX8_laysPage 19 = .ok (.getfield 117, 3) := by decide +kernel
theorem dX8_laysPage_22 : decode cX8_laysPage 22 = .ok (.iconst 0, 1) := by decide +kernel
theorem dX8_laysPage_23 : decode cX8_laysPage 23 = .ok (.iastore, 1) := by decide +kernel
theorem dX8_laysPage_24 : decode cX8_laysPage 24 = .ok (.aload_n 0, 1) := by decide +kernel
theorem dX8_laysPage_25 : decode cX8_laysPage 25 = .ok (.getfield 117, 3) := by decide +kernel
theorem dX8_laysPage_28 : decode cX8_laysPage 28 = .ok (.iconst 2, 1) := by decide +kernel
theorem dX8_laysPage_29 : decode cX8_laysPage 29 = .ok (.isub, 1) := by decide +kernel
theorem dX8_laysPage_30 : decode cX8_laysPage 30 = .ok (.istore_n 2, 1) := by decide +kernel
theorem dX8_laysPage_31 : decode cX8_laysPage 31 = .ok (.iload_n 2, 1) := by decide +kernel
theorem dX8_laysPage_32 : decode cX8_laysPage 32 = .ok (.iconst (-1), 1) := by decide +kernel
theorem dX8_laysPage_33 : decode cX8_laysPage 33 = .ok (.if_icmp .lt 15, 3) := by decide +kernel
theorem dX8_laysPage_36 : decode cX8_laysPage 36 = .ok (.aload_n 0, 1) := by decide +kernel
theorem dX8_laysPage_37 : decode cX8_laysPage 37 = .ok (.iload_n 2, 1) := by decide +kernel
theorem dX8_laysPage_38 : decode cX8_laysPage 38 = .ok (.iload_n 1, 1) := by decide +kernel
theorem dX8_laysPage_39 : decode cX8_laysPage 39 = .ok (.invokevirtual 179, 3) := by decide +kernel
theorem dX8_laysPage_42 : decode cX8_laysPage 42 = .ok (.iinc 2 (-1), 3) := by decide +kernel
theorem dX8_laysPage_45 : decode cX8_laysPage 45 = .ok (.goto (-14), 3) := by decide +kernel
theorem dX8_laysPage_48 : decode cX8_laysPage 48 = .ok (.aload_n 0, 1) := by decide +kernel
theorem dX8_laysPage_49 : decode cX8_laysPage 49 = .ok (.iconst 0, 1) := by decide +kernel
theorem dX8_laysPage_50 : decode cX8_laysPage 50 = .ok (.putfield 183, 3) := by decide +kernel
theorem dX8_laysPage_53 : decode cX8_laysPage 53 = .ok (.aload_n 0, 1) := by decide +kernel
theorem dX8_laysPage_54 : decode cX8_laysPage 54 = .ok (.getfield 56, 3) := by decide +kernel
theorem dX8_laysPage_57 : decode cX8_laysPage 57 = .ok (.iconst 0, 1) := by decide +kernel
theorem dX8_laysPage_58 : decode cX8_laysPage 58 = .ok (.iaload, 1) := by decide +kernel
theorem dX8_laysPage_59 : decode cX8_laysPage 59 = .ok (.bipush (-9), 2) := by decide +kernel
theorem dX8_laysPage_61 : decode cX8_laysPage 61 = .ok (.if_icmp .ne 5, 3) := by decide +kernel
theorem dX8_laysPage_64 : decode cX8_laysPage 64 = .ok (.iconst 0, 1) := by decide +kernel
theorem dX8_laysPage_65 : decode cX8_laysPage 65 = .ok (.ireturn, 1) := by decide +kernel
theorem dX8_laysPage_66 : decode cX8_laysPage 66 = .ok (.iconst (-1), 1) := by decide +kernel
theorem dX8_laysPage_67 : decode cX8_laysPage 67 = .ok (.istore_n 2, 1) := by decide +kernel
theorem dX8_laysPage_68 : decode cX8_laysPage 68 = .ok (.iload_n 2, 1) := by decide +kernel
theorem dX8_laysPage_69 : decode cX8_laysPage 69 = .ok (.aload_n 0, 1) := by decide +kernel
theorem dX8_laysPage_70 : decode cX8_laysPage 70 = .ok (.getfield 117, 3) := by decide +kernel
theorem dX8_laysPage_73 : decode cX8_laysPage 73 = .ok (.iconst 1, 1) := by decide +kernel
theorem dX8_laysPage_74 : decode cX8_laysPage 74 = .ok (.isub, 1) := by decide +kernel
theorem dX8_laysPage_75 : decode cX8_laysPage 75 = .ok (.if_icmp .ge 35, 3) := by decide +kernel
theorem dX8_laysPage_78 : decode cX8_laysPage 78 = .ok (.aload_n 0, 1) := by decide +kernel
theorem dX8_laysPage_79 : decode cX8_laysPage 79 = .ok (.getfield 62, 3) := by decide +kernel
theorem dX8_laysPage_82 : decode cX8_laysPage 82 = .ok (.iload_n 2, 1) := by decide +kernel
theorem dX8_laysPage_83 : decode cX8_laysPage 83 = .ok (.iconst 1, 1) := by decide +kernel
theorem dX8_laysPage_84 : decode cX8_laysPage 84 = .ok (.iadd, 1) := by decide +kernel
theorem dX8_laysPage_85 : decode cX8_laysPage 85 = .ok (.iaload, 1) := by decide +kernel
theorem dX8_laysPage_86 : decode cX8_laysPage 86 = .ok (.istore_n 2, 1) := by decide +kernel
theorem dX8_laysPage_87 : decode cX8_laysPage 87 = .ok (.aload_n 0, 1) := by decide +kernel
theorem dX8_laysPage_88 : decode cX8_laysPage 88 = .ok (.getfield 65, 3) := by decide +kernel
theorem dX8_laysPage_91 : decode cX8_laysPage 91 = .ok (.aload_n 0, 1) := by decide +kernel
theorem dX8_laysPage_92 : decode cX8_laysPage 92 = .ok (.getfield 183, 3) := by decide +kernel
theorem dX8_laysPage_95 : decode cX8_laysPage 95 = .ok (.iload_n 2, 1) := by decide +kernel
theorem dX8_laysPage_96 : decode cX8_laysPage 96 = .ok (.iastore, 1) := by decide +kernel
theorem dX8_laysPage_97 : decode cX8_laysPage 97 = .ok (.aload_n 0, 1) := by decide +kernel
theorem dX8_laysPage_98 : decode cX8_laysPage 98 = .ok (.dup, 1) := by decide +kernel
theorem dX8_laysPage_99 : decode cX8_laysPage 99 = .ok (.getfield 183, 3) := by decide +kernel
theorem dX8_laysPage_102 : decode cX8_laysPage 102 = .ok (.iconst 1, 1) := by decide +kernel
theorem dX8_laysPage_103 : decode cX8_laysPage 103 = .ok (.iadd, 1) := by decide +kernel
theorem dX8_laysPage_104 : decode cX8_laysPage 104 = .ok (.putfield 183, 3) := by decide +kernel
theorem dX8_laysPage_107 : decode cX8_laysPage 107 = .ok (.goto (-39), 3) := by decide +kernel
theorem dX8_laysPage_110 : decode cX8_laysPage 110 = .ok (.iconst 1, 1) := by decide +kernel
theorem dX8_laysPage_111 : decode cX8_laysPage 111 = .ok (.ireturn, 1) := by decide +kernel
theorem dX8_before_0 : decode cX8_before 0 = .ok (.iload_n 1, 1) := by decide +kernel
theorem dX8_before_1 : decode cX8_before 1 = .ok (.ifCond .ne 7, 3) := by decide +kernel
theorem dX8_before_4 : decode cX8_before 4 = .ok (.iconst (-1), 1) := by decide +kernel
theorem dX8_before_5 : decode cX8_before 5 = .ok (.goto 11, 3) := by decide +kernel
theorem dX8_before_8 : decode cX8_before 8 = .ok (.aload_n 0, 1) := by decide +kernel
theorem dX8_before_9 : decode cX8_before 9 = .ok (.getfield 65, 3) := by decide +kernel
theorem dX8_before_12 : decode cX8_before 12 = .ok (.iload_n 1, 1) := by decide +kernel
theorem dX8_before_13 : decode cX8_before 13 = .ok (.iconst 1, 1) := by decide +kernel
theorem dX8_before_14 : decode cX8_before 14 = .ok (.isub, 1) := by decide +kernel
theorem dX8_before_15 : decode cX8_before 15 = .ok (.iaload, 1) := by decide +kernel
theorem dX8_before_16 : decode cX8_before 16 = .ok (.ireturn, 1) := by decide +kernel
theorem dX8_blanksOf_0 : decode cX8_blanksOf 0 = .ok (.aload_n 0, 1) := by decide +kernel
theorem dX8_blanksOf_1 : decode cX8_blanksOf 1 = .ok (.getfield 22, 3) := by decide +kernel
theorem dX8_blanksOf_4 : decode cX8_blanksOf 4 = .ok (.aload_n 0, 1) := by decide +kernel
theorem dX8_blanksOf_5 : decode cX8_blanksOf 5 = .ok (.getfield 65, 3) := by decide +kernel
theorem dX8_blanksOf_8 : decode cX8_blanksOf 8 = .ok (.iload_n 1, 1) := by decide +kernel
theorem dX8_blanksOf_9 : decode cX8_blanksOf 9 = .ok (.iaload, 1) := by decide +kernel
theorem dX8_blanksOf_10 : decode cX8_blanksOf 10 = .ok (.iaload, 1) := by decide +kernel
theorem dX8_blanksOf_11 : decode cX8_blanksOf 11 = .ok (.aload_n 0, 1) := by decide +kernel
theorem dX8_blanksOf_12 : decode cX8_blanksOf 12 = .ok (.aload_n 0, 1) := by decide +kernel
theorem dX8_blanksOf_13 : decode cX8_blanksOf 13 = .ok (.iload_n 1, 1) := by decide +kernel
theorem dX8_blanksOf_14 : decode cX8_blanksOf 14 = .ok (.invokevirtual 186, 3) := by decide +kernel
theorem dX8_blanksOf_17 : decode cX8_blanksOf 17 = .ok (.invokevirtual 157, 3) := by decide +kernel
theorem dX8_blanksOf_20 : decode cX8_blanksOf 20 = .ok (.isub, 1) := by decide +kernel
theorem dX8_blanksOf_21 : decode cX8_blanksOf 21 = .ok (.ireturn, 1) := by decide +kernel
theorem dX8_leftIn_0 : decode cX8_leftIn 0 = .ok (.aload_n 0, 1) := by decide +kernel
theorem dX8_leftIn_1 : decode cX8_leftIn 1 = .ok (.aload_n 0, 1) := by decide +kernel
theorem dX8_leftIn_2 : decode cX8_leftIn 2 = .ok (.iload_n 1, 1) := by decide +kernel
theorem dX8_leftIn_3 : decode cX8_leftIn 3 = .ok (.invokevirtual 186, 3) := by decide +kernel
theorem dX8_leftIn_6 : decode cX8_leftIn 6 = .ok (.aload_n 0, 1) := by decide +kernel
theorem dX8_leftIn_7 : decode cX8_leftIn 7 = .ok (.getfield 65, 3) := by decide +kernel
theorem dX8_leftIn_10 : decode cX8_leftIn 10 = .ok (.iload_n 1, 1) := by decide +kernel
theorem dX8_leftIn_11 : decode cX8_leftIn 11 = .ok (.iaload, 1) := by decide +kernel
theorem dX8_leftIn_12 : decode cX8_leftIn 12 = .ok (.aload_n 0, 1) := by decide +kernel
theorem dX8_leftIn_13 : decode cX8_leftIn 13 = .ok (.getfield 32, 3) := by decide +kernel
theorem dX8_leftIn_16 : decode cX8_leftIn 16 = .ok (.bipush 35, 2) := by decide +kernel
theorem dX8_leftIn_18 : decode cX8_leftIn 18 = .ok (.iaload, 1) := by decide +kernel
theorem dX8_leftIn_19 : decode cX8_leftIn 19 = .ok (.invokevirtual 169, 3) := by decide +kernel
theorem dX8_leftIn_22 : decode cX8_leftIn 22 = .ok (.ireturn, 1) := by decide +kernel
theorem dX8_isGiving_0 : decode cX8_isGiving 0 = .ok (.iload_n 1, 1) := by decide +kernel
theorem dX8_isGiving_1 : decode cX8_isGiving 1 = .ok (.aload_n 0, 1) := by decide +kernel
theorem dX8_isGiving_2 : decode cX8_isGiving 2 = .ok (.getfield 183, 3) := by decide +kernel
theorem dX8_isGiving_5 : decode cX8_isGiving 5 = .ok (.iconst 1, 1) := by decide +kernel
theorem dX8_isGiving_6 : decode cX8_isGiving 6 = .ok (.isub, 1) := by decide +kernel
theorem dX8_isGiving_7 : decode cX8_isGiving 7 = .ok (.if_icmp .ge 15, 3) := by decide +kernel
theorem dX8_isGiving_10 : decode cX8_isGiving 10 = .ok (.aload_n 0, 1) := by decide +kernel
theorem dX8_isGiving_11 : decode cX8_isGiving 11 = .ok (.iload_n 1, 1) := by decide +kernel
theorem dX8_isGiving_12 : decode cX8_isGiving 12 = .ok (.invokevirtual 189, 3) := by decide +kernel
theorem dX8_isGiving_15 : decode cX8_isGiving 15 = .ok (.ifCond .le 7, 3) := by decide +kernel
theorem dX8_isGiving_18 : decode cX8_isGiving 18 = .ok (.iconst 1, 1) := by decide +kernel
theorem dX8_isGiving_19 : decode cX8_isGiving 19 = .ok (.goto 4, 3) := by decide +kernel
theorem dX8_isGiving_22 : decode cX8_isGiving 22 = .ok (.iconst 0, 1) := by decide +kernel
theorem dX8_isGiving_23 : decode cX8_isGiving 23 = .ok (.ireturn, 1) := by decide +kernel
theorem dX8_endOf_0 : decode cX8_endOf 0 = .ok (.aload_n 0, 1) := by decide +kernel
theorem dX8_endOf_1 : decode cX8_endOf 1 = .ok (.aload_n 0, 1) := by decide +kernel
theorem dX8_endOf_2 : decode cX8_endOf 2 = .ok (.iload_n 1, 1) := by decide +kernel
theorem dX8_endOf_3 : decode cX8_endOf 3 = .ok (.invokevirtual 186, 3) := by decide +kernel
theorem dX8_endOf_6 : decode cX8_endOf 6 = .ok (.aload_n 0, 1) := by decide +kernel
theorem dX8_endOf_7 : decode cX8_endOf 7 = .ok (.getfield 65, 3) := by decide +kernel
theorem dX8_endOf_10 : decode cX8_endOf 10 = .ok (.iload_n 1, 1) := by decide +kernel
theorem dX8_endOf_11 : decode cX8_endOf 11 = .ok (.iaload, 1) := by decide +kernel
theorem dX8_endOf_12 : decode cX8_endOf 12 = .ok (.invokevirtual 166, 3) := by decide +kernel
theorem dX8_endOf_15 : decode cX8_endOf 15 = .ok (.aload_n 0, 1) := by decide +kernel
theorem dX8_endOf_16 : decode cX8_endOf 16 = .ok (.iload_n 1, 1) := by decide +kernel
theorem dX8_endOf_17 : decode cX8_endOf 17 = .ok (.invokevirtual 192, 3) := by decide +kernel
theorem dX8_endOf_20 : decode cX8_endOf 20 = .ok (.ifCond .eq 11, 3) := by decide +kernel
theorem dX8_endOf_23 : decode cX8_endOf 23 = .ok (.aload_n 0, 1) := by decide +kernel
theorem dX8_endOf_24 : decode cX8_endOf 24 = .ok (.iload_n 1, 1) := by decide +kernel
theorem dX8_endOf_25 : decode cX8_endOf 25 = .ok (.invokevirtual 195, 3) := by decide +kernel
theorem dX8_endOf_28 : decode cX8_endOf 28 = .ok (.goto 4, 3) := by decide +kernel
theorem dX8_endOf_31 : decode cX8_endOf 31 = .ok (.iconst 0, 1) := by decide +kernel
theorem dX8_endOf_32 : decode cX8_endOf 32 = .ok (.iadd, 1) := by decide +kernel
theorem dX8_endOf_33 : decode cX8_endOf 33 = .ok (.ireturn, 1) := by decide +kernel
theorem dX8_laysBlanks_0 : decode cX8_laysBlanks 0 = .ok (.aload_n 0, 1) := by decide +kernel
theorem dX8_laysBlanks_1 : decode cX8_laysBlanks 1 = .ok (.iconst 0, 1) := by decide +kernel
theorem dX8_laysBlanks_2 : decode cX8_laysBlanks 2 = .ok (.putfield 198, 3) := by decide +kernel
theorem dX8_laysBlanks_5 : decode cX8_laysBlanks 5 = .ok (.iconst 0, 1) := by decide +kernel
theorem dX8_laysBlanks_6 : decode cX8_laysBlanks 6 = .ok (.istore_n 1, 1) := by decide +kernel
theorem dX8_laysBlanks_7 : decode cX8_laysBlanks 7 = .ok (.iload_n 1, 1) := by decide +kernel
theorem dX8_laysBlanks_8 : decode cX8_laysBlanks 8 = .ok (.aload_n 0, 1) := by decide +kernel
theorem dX8_laysBlanks_9 : decode cX8_laysBlanks 9 = .ok (.getfield 183, 3) := by decide +kernel
theorem dX8_laysBlanks_12 : decode cX8_laysBlanks 12 = .ok (.if_icmp .ge 223, 3) := by decide +kernel
theorem dX8_laysBlanks_15 : decode cX8_laysBlanks 15 = .ok (.aload_n 0, 1) := by decide +kernel
theorem dX8_laysBlanks_16 : decode cX8_laysBlanks 16 = .ok (.iload_n 1, 1) := by decide +kernel
theorem dX8_laysBlanks_17 : decode cX8_laysBlanks 17 = .ok (.invokevirtual 189, 3) := by decide +kernel
theorem dX8_laysBlanks_20 : decode cX8_laysBlanks 20 = .ok (.istore_n 2, 1) := by decide +kernel
theorem dX8_laysBlanks_21 : decode cX8_laysBlanks 21 = .ok (.aload_n 0, 1) := by decide +kernel
theorem dX8_laysBlanks_22 : decode cX8_laysBlanks 22 = .ok (.iload_n 1, 1) := by decide +kernel
theorem dX8_laysBlanks_23 : decode cX8_laysBlanks 23 = .ok (.invokevirtual 192, 3) := by decide +kernel
theorem dX8_laysBlanks_26 : decode cX8_laysBlanks 26 = .ok (.ifCond .eq 13, 3) := by decide +kernel
theorem dX8_laysBlanks_29 : decode cX8_laysBlanks 29 = .ok (.aload_n 0, 1) := by decide +kernel
theorem dX8_laysBlanks_30 : decode cX8_laysBlanks 30 = .ok (.iload_n 1, 1) := by decide +kernel
theorem dX8_laysBlanks_31 : decode cX8_laysBlanks 31 = .ok (.invokevirtual 195, 3) := by decide +kernel
theorem dX8_laysBlanks_34 : decode cX8_laysBlanks 34 = .ok (.iload_n 2, 1) := by decide +kernel
theorem dX8_laysBlanks_35 : decode cX8_laysBlanks 35 = .ok (.idiv, 1) := by decide +kernel
theorem dX8_laysBlanks_36 : decode cX8_laysBlanks 36 = .ok (.goto 4, 3) := by decide +kernel
theorem dX8_laysBlanks_39 : decode cX8_laysBlanks 39 = .ok (.iconst 0, 1) := by decide +kernel
theorem dX8_laysBlanks_40 : decode cX8_laysBlanks 40 = .ok (.istore_n 3, 1) := by decide +kernel
theorem dX8_laysBlanks_41 : decode cX8_laysBlanks 41 = .ok (.aload_n 0, 1) := by decide +kernel
theorem dX8_laysBlanks_42 : decode cX8_laysBlanks 42 = .ok (.iload_n 1, 1) := by decide +kernel
theorem dX8_laysBlanks_43 : decode cX8_laysBlanks 43 = .ok (.invokevirtual 192, 3) := by decide +kernel
theorem dX8_laysBlanks_46 : decode cX8_laysBlanks 46 = .ok (.ifCond .eq 13, 3) := by decide +kernel
theorem dX8_laysBlanks_49 : decode cX8_laysBlanks 49 = .ok (.aload_n 0, 1) := by decide +kernel
theorem dX8_laysBlanks_50 : decode cX8_laysBlanks 50 = .ok (.iload_n 1, 1) := by decide +kernel
theorem dX8_laysBlanks_51 : decode cX8_laysBlanks 51 = .ok (.invokevirtual 195, 3) := by decide +kernel
theorem dX8_laysBlanks_54 : decode cX8_laysBlanks 54 = .ok (.iload_n 2, 1) := by decide +kernel
theorem dX8_laysBlanks_55 : decode cX8_laysBlanks 55 = .ok (.irem, 1) := by decide +kernel
theorem dX8_laysBlanks_56 : decode cX8_laysBlanks 56 = .ok (.goto 4, 3) := by decide +kernel
theorem dX8_laysBlanks_59 : decode cX8_laysBlanks 59 = .ok (.iconst 0, 1) := by decide +kernel
theorem dX8_laysBlanks_60 : decode cX8_laysBlanks 60 = .ok (.istore 4, 2) := by decide +kernel
theorem dX8_laysBlanks_62 : decode cX8_laysBlanks 62 = .ok (.aload_n 0, 1) := by decide +kernel
theorem dX8_laysBlanks_63 : decode cX8_laysBlanks 63 = .ok (.aload_n 0, 1) := by decide +kernel
theorem dX8_laysBlanks_64 : decode cX8_laysBlanks 64 = .ok (.iload_n 1, 1) := by decide +kernel
theorem dX8_laysBlanks_65 : decode cX8_laysBlanks 65 = .ok (.invokevirtual 186, 3) := by decide +kernel
theorem dX8_laysBlanks_68 : decode cX8_laysBlanks 68 = .ok (.invokevirtual 157, 3) := by decide +kernel
theorem dX8_laysBlanks_71 : decode cX8_laysBlanks 71 = .ok (.istore 5, 2) := by decide +kernel
theorem dX8_laysBlanks_73 : decode cX8_laysBlanks 73 = .ok (.aload_n 0, 1) := by decide +kernel
theorem dX8_laysBlanks_74 : decode cX8_laysBlanks 74 = .ok (.getfield 53, 3) := by decide +kernel
theorem dX8_laysBlanks_77 : decode cX8_laysBlanks 77 = .ok (.aload_n 0, 1) := by decide +kernel
theorem dX8_laysBlanks_78 : decode cX8_laysBlanks 78 = .ok (.getfield 19, 3) := by decide +kernel
theorem dX8_laysBlanks_81 : decode cX8_laysBlanks 81 = .ok (.iload 5, 2) := by decide +kernel
theorem dX8_laysBlanks_83 : decode cX8_laysBlanks 83 = .ok (.iaload, 1) := by decide +kernel
theorem dX8_laysBlanks_84 : decode cX8_laysBlanks 84 = .ok (.iaload, 1) := by decide +kernel
theorem dX8_laysBlanks_85 : decode cX8_laysBlanks 85 = .ok (.aload_n 0, 1) := by decide +kernel
theorem dX8_laysBlanks_86 : decode cX8_laysBlanks 86 = .ok (.getfield 53, 3) := by decide +kernel
theorem dX8_laysBlanks_89 : decode cX8_laysBlanks 89 = .ok (.aload_n 0, 1) := by decide +kernel
theorem dX8_laysBlanks_90 : decode cX8_laysBlanks 90 = .ok (.aload_n 0, 1) := by decide +kernel
theorem dX8_laysBlanks_91 : decode cX8_laysBlanks 91 = .ok (.iload_n 1, 1) := by decide +kernel
theorem dX8_laysBlanks_92 : decode cX8_laysBlanks 92 = .ok (.invokevirtual 186, 3) := by decide +kernel
theorem dX8_laysBlanks_95 : decode cX8_laysBlanks 95 = .ok (.invokevirtual 160, 3) := by decide +kernel
theorem dX8_laysBlanks_98 : decode cX8_laysBlanks 98 = .ok (.iaload, 1) := by decide +kernel
theorem dX8_laysBlanks_99 : decode cX8_laysBlanks 99 = .ok (.isub, 1) := by decide +kernel
theorem dX8_laysBlanks_100 : decode cX8_laysBlanks 100 = .ok (.istore 6, 2) := by decide +kernel
theorem dX8_laysBlanks_102 : decode cX8_laysBlanks 102 = .ok (.iconst 0, 1) := by decide +kernel
theorem dX8_laysBlanks_103 : decode cX8_laysBlanks 103 = .ok (.istore 7, 2) := by decide +kernel
theorem dX8_laysBlanks_105 : decode cX8_laysBlanks 105 = .ok (.iload 7, 2) := by decide +kernel
theorem dX8_laysBlanks_107 : decode cX8_laysBlanks 107 = .ok (.iload_n 2, 1) := by decide +kernel
theorem dX8_laysBlanks_108 : decode cX8_laysBlanks 108 = .ok (.if_icmp .ge 121, 3) := by decide +kernel
theorem dX8_laysBlanks_111 : decode cX8_laysBlanks 111 = .ok (.aload_n 0, 1) := by decide +kernel
theorem dX8_laysBlanks_112 : decode cX8_laysBlanks 112 = .ok (.getfield 68, 3) := by decide +kernel
theorem dX8_laysBlanks_115 : decode cX8_laysBlanks 115 = .ok (.aload_n 0, 1) := by decide +kernel
theorem dX8_laysBlanks_116 : decode cX8_laysBlanks 116 = .ok (.getfield 198, 3) := by decide +kernel
theorem dX8_laysBlanks_119 : decode cX8_laysBlanks 119 = .ok (.iload_n 1, 1) := by decide +kernel
theorem dX8_laysBlanks_120 : decode cX8_laysBlanks 120 = .ok (.iastore, 1) := by decide +kernel
theorem dX8_laysBlanks_121 : decode cX8_laysBlanks 121 = .ok (.aload_n 0, 1) := by decide +kernel
theorem dX8_laysBlanks_122 : decode cX8_laysBlanks 122 = .ok (.getfield 71, 3) := by decide +kernel
theorem dX8_laysBlanks_125 : decode cX8_laysBlanks 125 = .ok (.aload_n 0, 1) := by decide +kernel
theorem dX8_laysBlanks_126 : decode cX8_laysBlanks 126 = .ok (.getfield 198, 3) := by decide +kernel
theorem dX8_laysBlanks_129 : decode cX8_laysBlanks 129 = .ok (.iload 6, 2) := by decide +kernel
theorem dX8_laysBlanks_131 : decode cX8_laysBlanks 131 = .ok (.iastore, 1) := by decide +kernel
theorem dX8_laysBlanks_132 : decode cX8_laysBlanks 132 = .ok (.aload_n 0, 1) := by decide +kernel
theorem dX8_laysBlanks_133 : decode cX8_laysBlanks 133 = .ok (.getfield 74, 3) := by decide +kernel
theorem dX8_laysBlanks_136 : decode cX8_laysBlanks 136 = .ok (.aload_n 0, 1) := by decide +kernel
theorem dX8_laysBlanks_137 : decode cX8_laysBlanks 137 = .ok (.getfield 198, 3) := by decide +kernel
theorem dX8_laysBlanks_140 : decode cX8_laysBlanks 140 = .ok (.iload 6, 2) := by decide +kernel
theorem dX8_laysBlanks_142 : decode cX8_laysBlanks 142 = .ok (.aload_n 0, 1) := by decide +kernel
theorem dX8_laysBlanks_143 : decode cX8_laysBlanks 143 = .ok (.getfield 32, 3) := by decide +kernel
theorem dX8_laysBlanks_146 : decode cX8_laysBlanks 146 = .ok (.bipush 34, 2) := by decide +kernel
theorem dX8_laysBlanks_148 : decode cX8_laysBlanks 148 = .ok (.iaload, 1) := by decide +kernel
theorem dX8_laysBlanks_149 : decode cX8_laysBlanks 149 = .ok (.iadd, 1) := by decide +kernel
theorem dX8_laysBlanks_150 : decode cX8_laysBlanks 150 = .ok (.iload_n 3, 1) := by decide +kernel
theorem dX8_laysBlanks_151 : decode cX8_laysBlanks 151 = .ok (.iadd, 1) := by decide +kernel
theorem dX8_laysBlanks_152 : decode cX8_laysBlanks 152 = .ok (.iload 7, 2) := by decide +kernel
theorem dX8_laysBlanks_154 : decode cX8_laysBlanks 154 = .ok (.iload 4, 2) := by decide +kernel
theorem dX8_laysBlanks_156 : decode cX8_laysBlanks 156 = .ok (.if_icmp .ge 7, 3) := by decide +kernel
theorem dX8_laysBlanks_159 : decode cX8_laysBlanks 159 = .ok (.iconst 1, 1) := by decide +kernel
theorem dX8_laysBlanks_160 : decode cX8_laysBlanks 160 = .ok (.goto 4, 3) := by decide +kernel
theorem dX8_laysBlanks_163 : decode cX8_laysBlanks 163 = .ok (.iconst 0, 1) := by decide +kernel
theorem dX8_laysBlanks_164 : decode cX8_laysBlanks 164 = .ok (.iadd, 1) := by decide +kernel
theorem dX8_laysBlanks_165 : decode cX8_laysBlanks 165 = .ok (.iastore, 1) := by decide +kernel
theorem dX8_laysBlanks_166 : decode cX8_laysBlanks 166 = .ok (.aload_n 0, 1) := by decide +kernel
theorem dX8_laysBlanks_167 : decode cX8_laysBlanks 167 = .ok (.getfield 74, 3) := by decide +kernel
theorem dX8_laysBlanks_170 : decode cX8_laysBlanks 170 = .ok (.aload_n 0, 1) := by decide +kernel
theorem dX8_laysBlanks_171 : decode cX8_laysBlanks 171 = .ok (.getfield 198, 3) := by decide +kernel
theorem dX8_laysBlanks_174 : decode cX8_laysBlanks 174 = .ok (.iaload, 1) := by decide +kernel
theorem dX8_laysBlanks_175 : decode cX8_laysBlanks 175 = .ok (.aload_n 0, 1) := by decide +kernel
theorem dX8_laysBlanks_176 : decode cX8_laysBlanks 176 = .ok (.getfield 53, 3) := by decide +kernel
theorem dX8_laysBlanks_179 : decode cX8_laysBlanks 179 = .ok (.aload_n 0, 1) := by decide +kernel
theorem dX8_laysBlanks_180 : decode cX8_laysBlanks 180 = .ok (.getfield 19, 3) := by decide +kernel
theorem dX8_laysBlanks_183 : decode cX8_laysBlanks 183 = .ok (.iload 5, 2) := by decide +kernel
theorem dX8_laysBlanks_185 : decode cX8_laysBlanks 185 = .ok (.iload 7, 2) := by decide +kernel
theorem dX8_laysBlanks_187 : decode cX8_laysBlanks 187 = .ok (.iadd, 1) := by decide +kernel
theorem dX8_laysBlanks_188 : decode cX8_laysBlanks 188 = .ok (.iconst 1, 1) := by decide +kernel
theorem dX8_laysBlanks_189 : decode cX8_laysBlanks 189 = .ok (.iadd, 1) := by decide +kernel
theorem dX8_laysBlanks_190 : decode cX8_laysBlanks 190 = .ok (.iaload, 1) := by decide +kernel
theorem dX8_laysBlanks_191 : decode cX8_laysBlanks 191 = .ok (.iaload, 1) := by decide +kernel
theorem dX8_laysBlanks_192 : decode cX8_laysBlanks 192 = .ok (.iadd, 1) := by decide +kernel
theorem dX8_laysBlanks_193 : decode cX8_laysBlanks 193 = .ok (.aload_n 0, 1) := by decide +kernel
theorem dX8_laysBlanks_194 : decode cX8_laysBlanks 194 = .ok (.getfield 53, 3) := by decide +kernel
theorem dX8_laysBlanks_197 : decode cX8_laysBlanks 197 = .ok (.aload_n 0, 1) := by decide +kernel
theorem dX8_laysBlanks_198 : decode cX8_laysBlanks 198 = .ok (.getfield 16, 3) := by decide +kernel
theorem dX8_laysBlanks_201 : decode cX8_laysBlanks 201 = .ok (.iload 5, 2) := by decide +kernel
theorem dX8_laysBlanks_203 : decode cX8_laysBlanks 203 = .ok (.iload 7, 2) := by decide +kernel
theorem dX8_laysBlanks_205 : decode cX8_laysBlanks 205 = .ok (.iadd, 1) := by decide +kernel
theorem dX8_laysBlanks_206 : decode cX8_laysBlanks 206 = .ok (.iconst 1, 1) := by decide +kernel
theorem dX8_laysBlanks_207 : decode cX8_laysBlanks 207 = .ok (.iadd, 1) := by decide +kernel
theorem dX8_laysBlanks_208 : decode cX8_laysBlanks 208 = .ok (.iaload, 1) := by decide +kernel
theorem dX8_laysBlanks_209 : decode cX8_laysBlanks 209 = .ok (.iaload, 1) := by decide +kernel
theorem dX8_laysBlanks_210 : decode cX8_laysBlanks 210 = .ok (.isub, 1) := by decide +kernel
theorem dX8_laysBlanks_211 : decode cX8_laysBlanks 211 = .ok (.istore 6, 2) := by decide +kernel
theorem dX8_laysBlanks_213 : decode cX8_laysBlanks 213 = .ok (.aload_n 0, 1) := by decide +kernel
theorem dX8_laysBlanks_214 : decode cX8_laysBlanks 214 = .ok (.dup, 1) := by decide +kernel
theorem dX8_laysBlanks_215 : decode cX8_laysBlanks 215 = .ok (.getfield 198, 3) := by decide +kernel
theorem dX8_laysBlanks_218 : decode cX8_laysBlanks 218 = .ok (.iconst 1, 1) := by decide +kernel
theorem dX8_laysBlanks_219 : decode cX8_laysBlanks 219 = .ok (.iadd, 1) := by decide +kernel
theorem dX8_laysBlanks_220 : decode cX8_laysBlanks 220 = .ok (.putfield 198, 3) := by decide +kernel
theorem dX8_laysBlanks_223 : decode cX8_laysBlanks 223 = .ok (.iinc 7 1, 3) := by decide +kernel
theorem dX8_laysBlanks_226 : decode cX8_laysBlanks 226 = .ok (.goto (-121), 3) := by decide +kernel
theorem dX8_laysBlanks_229 : decode cX8_laysBlanks 229 = .ok (.iinc 1 1, 3) := by decide +kernel
theorem dX8_laysBlanks_232 : decode cX8_laysBlanks 232 = .ok (.goto (-225), 3) := by decide +kernel
theorem dX8_laysBlanks_235 : decode cX8_laysBlanks 235 = .ok (.aload_n 0, 1) := by decide +kernel
theorem dX8_laysBlanks_236 : decode cX8_laysBlanks 236 = .ok (.invokevirtual 201, 3) := by decide +kernel
theorem dX8_laysBlanks_239 : decode cX8_laysBlanks 239 = .ok (.return_, 1) := by decide +kernel
theorem dX8_areCommon_0 : decode cX8_areCommon 0 = .ok (.aload_n 0, 1) := by decide +kernel
theorem dX8_areCommon_1 : decode cX8_areCommon 1 = .ok (.getfield 71, 3) := by decide +kernel
theorem dX8_areCommon_4 : decode cX8_areCommon 4 = .ok (.iload_n 1, 1) := by decide +kernel
theorem dX8_areCommon_5 : decode cX8_areCommon 5 = .ok (.iaload, 1) := by decide +kernel
theorem dX8_areCommon_6 : decode cX8_areCommon 6 = .ok (.aload_n 0, 1) := by decide +kernel
theorem dX8_areCommon_7 : decode cX8_areCommon 7 = .ok (.getfield 71, 3) := by decide +kernel
theorem dX8_areCommon_10 : decode cX8_areCommon 10 = .ok (.iload_n 2, 1) := by decide +kernel
theorem dX8_areCommon_11 : decode cX8_areCommon 11 = .ok (.iaload, 1) := by decide +kernel
theorem dX8_areCommon_12 : decode cX8_areCommon 12 = .ok (.if_icmp .le 12, 3) := by decide +kernel
theorem dX8_areCommon_15 : decode cX8_areCommon 15 = .ok (.aload_n 0, 1) := by decide +kernel
theorem dX8_areCommon_16 : decode cX8_areCommon 16 = .ok (.getfield 71, 3) := by decide +kernel
theorem dX8_areCommon_19 : decode cX8_areCommon 19 = .ok (.iload_n 1, 1) := by decide +kernel
theorem dX8_areCommon_20 : decode cX8_areCommon 20 = .ok (.iaload, 1) := by decide +kernel
theorem dX8_areCommon_21 : decode cX8_areCommon 21 = .ok (.goto 9, 3) := by decide +kernel
theorem dX8_areCommon_24 : decode cX8_areCommon 24 = .ok (.aload_n 0, 1) := by decide +kernel
theorem dX8_areCommon_25 : decode cX8_areCommon 25 = .ok (.getfield 71, 3) := by decide +kernel
theorem dX8_areCommon_28 : decode cX8_areCommon 28 = .ok (.iload_n 2, 1) := by decide +kernel
theorem dX8_areCommon_29 : decode cX8_areCommon 29 = .ok (.iaload, 1) := by decide +kernel
theorem dX8_areCommon_30 : decode cX8_areCommon 30 = .ok (.istore_n 3, 1) := by decide +kernel
theorem dX8_areCommon_31 : decode cX8_areCommon 31 = .ok (.aload_n 0, 1) := by decide +kernel
theorem dX8_areCommon_32 : decode cX8_areCommon 32 = .ok (.getfield 74, 3) := by decide +kernel
theorem dX8_areCommon_35 : decode cX8_areCommon 35 = .ok (.iload_n 1, 1) := by decide +kernel
theorem dX8_areCommon_36 : decode cX8_areCommon 36 = .ok (.iaload, 1) := by decide +kernel
theorem dX8_areCommon_37 : decode cX8_areCommon 37 = .ok (.aload_n 0, 1) := by decide +kernel
theorem dX8_areCommon_38 : decode cX8_areCommon 38 = .ok (.getfield 74, 3) := by decide +kernel
theorem dX8_areCommon_41 : decode cX8_areCommon 41 = .ok (.iload_n 2, 1) := by decide +kernel
theorem dX8_areCommon_42 : decode cX8_areCommon 42 = .ok (.iaload, 1) := by decide +kernel
theorem dX8_areCommon_43 : decode cX8_areCommon 43 = .ok (.if_icmp .ge 12, 3) := by decide +kernel
theorem dX8_areCommon_46 : decode cX8_areCommon 46 = .ok (.aload_n 0, 1) := by decide +kernel
theorem dX8_areCommon_47 : decode cX8_areCommon 47 = .ok (.getfield 74, 3) := by decide +kernel
theorem dX8_areCommon_50 : decode cX8_areCommon 50 = .ok (.iload_n 1, 1) := by decide +kernel
theorem dX8_areCommon_51 : decode cX8_areCommon 51 = .ok (.iaload, 1) := by decide +kernel
theorem dX8_areCommon_52 : decode cX8_areCommon 52 = .ok (.goto 9, 3) := by decide +kernel
theorem dX8_areCommon_55 : decode cX8_areCommon 55 = .ok (.aload_n 0, 1) := by decide +kernel
theorem dX8_areCommon_56 : decode cX8_areCommon 56 = .ok (.getfield 74, 3) := by decide +kernel
theorem dX8_areCommon_59 : decode cX8_areCommon 59 = .ok (.iload_n 2, 1) := by decide +kernel
theorem dX8_areCommon_60 : decode cX8_areCommon 60 = .ok (.iaload, 1) := by decide +kernel
theorem dX8_areCommon_61 : decode cX8_areCommon 61 = .ok (.istore 4, 2) := by decide +kernel
end
section
theorem dX8_areCommon_63 : decode cX8_areCommon 63 = .ok (.iload_n 3, 1) := by decide +kernel
theorem dX8_areCommon_64 : decode cX8_areCommon 64 = .ok (.iload 4, 2) := by decide +kernel
theorem dX8_areCommon_66 : decode cX8_areCommon 66 = .ok (.if_icmp .ge 7, 3) := by decide +kernel
theorem dX8_areCommon_69 : decode cX8_areCommon 69 = .ok (.iconst 1, 1) := by decide +kernel
theorem dX8_areCommon_70 : decode cX8_areCommon 70 = .ok (.goto 4, 3) := by decide +kernel
theorem dX8_areCommon_73 : decode cX8_areCommon 73 = .ok (.iconst 0, 1) := by decide +kernel
theorem dX8_areCommon_74 : decode cX8_areCommon 74 = .ok (.ireturn, 1) := by decide +kernel
theorem dX8_rivers_0 : decode cX8_rivers 0 = .ok (.aload_n 0, 1) := by decide +kernel
theorem dX8_rivers_1 : decode cX8_rivers 1 = .ok (.getfield 198, 3) := by decide +kernel
theorem dX8_rivers_4 : decode cX8_rivers 4 = .ok (.iconst 1, 1) := by decide +kernel
theorem dX8_rivers_5 : decode cX8_rivers 5 = .ok (.isub, 1) := by decide +kernel
theorem dX8_rivers_6 : decode cX8_rivers 6 = .ok (.istore_n 1, 1) := by decide +kernel
theorem dX8_rivers_7 : decode cX8_rivers 7 = .ok (.iload_n 1, 1) := by decide +kernel
theorem dX8_rivers_8 : decode cX8_rivers 8 = .ok (.ifCond .lt 97, 3) := by decide +kernel
theorem dX8_rivers_11 : decode cX8_rivers 11 = .ok (.iconst 0, 1) := by decide +kernel
theorem dX8_rivers_12 : decode cX8_rivers 12 = .ok (.istore_n 2, 1) := by decide +kernel
theorem dX8_rivers_13 : decode cX8_rivers 13 = .ok (.iload_n 1, 1) := by decide +kernel
theorem dX8_rivers_14 : decode cX8_rivers 14 = .ok (.iconst 1, 1) := by decide +kernel
theorem dX8_rivers_15 : decode cX8_rivers 15 = .ok (.iadd, 1) := by decide +kernel
theorem dX8_rivers_16 : decode cX8_rivers 16 = .ok (.istore_n 3, 1) := by decide +kernel
theorem dX8_rivers_17 : decode cX8_rivers 17 = .ok (.iload_n 3, 1) := by decide +kernel
theorem dX8_rivers_18 : decode cX8_rivers 18 = .ok (.aload_n 0, 1) := by decide +kernel
theorem dX8_rivers_19 : decode cX8_rivers 19 = .ok (.getfield 198, 3) := by decide +kernel
theorem dX8_rivers_22 : decode cX8_rivers 22 = .ok (.if_icmp .ge 68, 3) := by decide +kernel
theorem dX8_rivers_25 : decode cX8_rivers 25 = .ok (.aload_n 0, 1) := by decide +kernel
theorem dX8_rivers_26 : decode cX8_rivers 26 = .ok (.getfield 68, 3) := by decide +kernel
theorem dX8_rivers_29 : decode cX8_rivers 29 = .ok (.iload_n 3, 1) := by decide +kernel
theorem dX8_rivers_30 : decode cX8_rivers 30 = .ok (.iaload, 1) := by decide +kernel
theorem dX8_rivers_31 : decode cX8_rivers 31 = .ok (.aload_n 0, 1) := by decide +kernel
theorem dX8_rivers_32 : decode cX8_rivers 32 = .ok (.getfield 68, 3) := by decide +kernel
theorem dX8_rivers_35 : decode cX8_rivers 35 = .ok (.iload_n 1, 1) := by decide +kernel
theorem dX8_rivers_36 : decode cX8_rivers 36 = .ok (.iaload, 1) := by decide +kernel
theorem dX8_rivers_37 : decode cX8_rivers 37 = .ok (.iconst 1, 1) := by decide +kernel
theorem dX8_rivers_38 : decode cX8_rivers 38 = .ok (.iadd, 1) := by decide +kernel
theorem dX8_rivers_39 : decode cX8_rivers 39 = .ok (.if_icmp .ne 16, 3) := by decide +kernel
theorem dX8_rivers_42 : decode cX8_rivers 42 = .ok (.aload_n 0, 1) := by decide +kernel
theorem dX8_rivers_43 : decode cX8_rivers 43 = .ok (.iload_n 1, 1) := by decide +kernel
theorem dX8_rivers_44 : decode cX8_rivers 44 = .ok (.iload_n 3, 1) := by decide +kernel
theorem dX8_rivers_45 : decode cX8_rivers 45 = .ok (.invokevirtual 204, 3) := by decide +kernel
theorem dX8_rivers_48 : decode cX8_rivers 48 = .ok (.ifCond .eq 7, 3) := by decide +kernel
theorem dX8_rivers_51 : decode cX8_rivers 51 = .ok (.iconst 1, 1) := by decide +kernel
theorem dX8_rivers_52 : decode cX8_rivers 52 = .ok (.goto 4, 3) := by decide +kernel
theorem dX8_rivers_55 : decode cX8_rivers 55 = .ok (.iconst 0, 1) := by decide +kernel
theorem dX8_rivers_56 : decode cX8_rivers 56 = .ok (.istore 4, 2) := by decide +kernel
theorem dX8_rivers_58 : decode cX8_rivers 58 = .ok (.iload 4, 2) := by decide +kernel
theorem dX8_rivers_60 : decode cX8_rivers 60 = .ok (.ifCond .eq 22, 3) := by decide +kernel
theorem dX8_rivers_63 : decode cX8_rivers 63 = .ok (.aload_n 0, 1) := by decide +kernel
theorem dX8_rivers_64 : decode cX8_rivers 64 = .ok (.getfield 77, 3) := by decide +kernel
theorem dX8_rivers_67 : decode cX8_rivers 67 = .ok (.iload_n 3, 1) := by decide +kernel
theorem dX8_rivers_68 : decode cX8_rivers 68 = .ok (.iaload, 1) := by decide +kernel
theorem dX8_rivers_69 : decode cX8_rivers 69 = .ok (.iload_n 2, 1) := by decide +kernel
theorem dX8_rivers_70 : decode cX8_rivers 70 = .ok (.if_icmp .le 12, 3) := by decide +kernel
theorem dX8_rivers_73 : decode cX8_rivers 73 = .ok (.aload_n 0, 1) := by decide +kernel
theorem dX8_rivers_74 : decode cX8_rivers 74 = .ok (.getfield 77, 3) := by decide +kernel
theorem dX8_rivers_77 : decode cX8_rivers 77 = .ok (.iload_n 3, 1) := by decide +kernel
theorem dX8_rivers_78 : decode cX8_rivers 78 = .ok (.iaload, 1) := by decide +kernel
theorem dX8_rivers_79 : decode cX8_rivers 79 = .ok (.goto 4, 3) := by decide +kernel
theorem dX8_rivers_82 : decode cX8_rivers 82 = .ok (.iload_n 2, 1) := by decide +kernel
theorem dX8_rivers_83 : decode cX8_rivers 83 = .ok (.istore_n 2, 1) := by decide +kernel
theorem dX8_rivers_84 : decode cX8_rivers 84 = .ok (.iinc 3 1, 3) := by decide +kernel
theorem dX8_rivers_87 : decode cX8_rivers 87 = .ok (.goto (-70), 3) := by decide +kernel
theorem dX8_rivers_90 : decode cX8_rivers 90 = .ok (.aload_n 0, 1) := by decide +kernel
theorem dX8_rivers_91 : decode cX8_rivers 91 = .ok (.getfield 77, 3) := by decide +kernel
theorem dX8_rivers_94 : decode cX8_rivers 94 = .ok (.iload_n 1, 1) := by decide +kernel
theorem dX8_rivers_95 : decode cX8_rivers 95 = .ok (.iload_n 2, 1) := by decide +kernel
theorem dX8_rivers_96 : decode cX8_rivers 96 = .ok (.iconst 1, 1) := by decide +kernel
theorem dX8_rivers_97 : decode cX8_rivers 97 = .ok (.iadd, 1) := by decide +kernel
theorem dX8_rivers_98 : decode cX8_rivers 98 = .ok (.iastore, 1) := by decide +kernel
theorem dX8_rivers_99 : decode cX8_rivers 99 = .ok (.iinc 1 (-1), 3) := by decide +kernel
theorem dX8_rivers_102 : decode cX8_rivers 102 = .ok (.goto (-95), 3) := by decide +kernel
theorem dX8_rivers_105 : decode cX8_rivers 105 = .ok (.iconst 0, 1) := by decide +kernel
theorem dX8_rivers_106 : decode cX8_rivers 106 = .ok (.istore_n 1, 1) := by decide +kernel
theorem dX8_rivers_107 : decode cX8_rivers 107 = .ok (.iload_n 1, 1) := by decide +kernel
theorem dX8_rivers_108 : decode cX8_rivers 108 = .ok (.aload_n 0, 1) := by decide +kernel
theorem dX8_rivers_109 : decode cX8_rivers 109 = .ok (.getfield 198, 3) := by decide +kernel
theorem dX8_rivers_112 : decode cX8_rivers 112 = .ok (.if_icmp .ge 89, 3) := by decide +kernel
theorem dX8_rivers_115 : decode cX8_rivers 115 = .ok (.aload_n 0, 1) := by decide +kernel
theorem dX8_rivers_116 : decode cX8_rivers 116 = .ok (.getfield 80, 3) := by decide +kernel
theorem dX8_rivers_119 : decode cX8_rivers 119 = .ok (.iload_n 1, 1) := by decide +kernel
theorem dX8_rivers_120 : decode cX8_rivers 120 = .ok (.aload_n 0, 1) := by decide +kernel
theorem dX8_rivers_121 : decode cX8_rivers 121 = .ok (.getfield 77, 3) := by decide +kernel
theorem dX8_rivers_124 : decode cX8_rivers 124 = .ok (.iload_n 1, 1) := by decide +kernel
theorem dX8_rivers_125 : decode cX8_rivers 125 = .ok (.iaload, 1) := by decide +kernel
theorem dX8_rivers_126 : decode cX8_rivers 126 = .ok (.iconst 2, 1) := by decide +kernel
theorem dX8_rivers_127 : decode cX8_rivers 127 = .ok (.if_icmp .le 7, 3) := by decide +kernel
theorem dX8_rivers_130 : decode cX8_rivers 130 = .ok (.iconst 1, 1) := by decide +kernel
theorem dX8_rivers_131 : decode cX8_rivers 131 = .ok (.goto 4, 3) := by decide +kernel
theorem dX8_rivers_134 : decode cX8_rivers 134 = .ok (.iconst 0, 1) := by decide +kernel
theorem dX8_rivers_135 : decode cX8_rivers 135 = .ok (.bastore, 1) := by decide +kernel
theorem dX8_rivers_136 : decode cX8_rivers 136 = .ok (.iconst 0, 1) := by decide +kernel
theorem dX8_rivers_137 : decode cX8_rivers 137 = .ok (.istore_n 2, 1) := by decide +kernel
theorem dX8_rivers_138 : decode cX8_rivers 138 = .ok (.iload_n 2, 1) := by decide +kernel
theorem dX8_rivers_139 : decode cX8_rivers 139 = .ok (.iload_n 1, 1) := by decide +kernel
theorem dX8_rivers_140 : decode cX8_rivers 140 = .ok (.if_icmp .ge 55, 3) := by decide +kernel
theorem dX8_rivers_143 : decode cX8_rivers 143 = .ok (.aload_n 0, 1) := by decide +kernel
theorem dX8_rivers_144 : decode cX8_rivers 144 = .ok (.getfield 80, 3) := by decide +kernel
theorem dX8_rivers_147 : decode cX8_rivers 147 = .ok (.iload_n 1, 1) := by decide +kernel
theorem dX8_rivers_148 : decode cX8_rivers 148 = .ok (.aload_n 0, 1) := by decide +kernel
theorem dX8_rivers_149 : decode cX8_rivers 149 = .ok (.getfield 80, 3) := by decide +kernel
theorem dX8_rivers_152 : decode cX8_rivers 152 = .ok (.iload_n 1, 1) := by decide +kernel
theorem dX8_rivers_153 : decode cX8_rivers 153 = .ok (.baload, 1) := by decide +kernel
theorem dX8_rivers_154 : decode cX8_rivers 154 = .ok (.ifCond .eq 33, 3) := by decide +kernel
theorem dX8_rivers_157 : decode cX8_rivers 157 = .ok (.aload_n 0, 1) := by decide +kernel
theorem dX8_rivers_158 : decode cX8_rivers 158 = .ok (.getfield 68, 3) := by decide +kernel
theorem dX8_rivers_161 : decode cX8_rivers 161 = .ok (.iload_n 2, 1) := by decide +kernel
theorem dX8_rivers_162 : decode cX8_rivers 162 = .ok (.iaload, 1) := by decide +kernel
theorem dX8_rivers_163 : decode cX8_rivers 163 = .ok (.aload_n 0, 1) := by decide +kernel
theorem dX8_rivers_164 : decode cX8_rivers 164 = .ok (.getfield 68, 3) := by decide +kernel
theorem dX8_rivers_167 : decode cX8_rivers 167 = .ok (.iload_n 1, 1) := by decide +kernel
theorem dX8_rivers_168 : decode cX8_rivers 168 = .ok (.iaload, 1) := by decide +kernel
theorem dX8_rivers_169 : decode cX8_rivers 169 = .ok (.iconst 1, 1) := by decide +kernel
theorem dX8_rivers_170 : decode cX8_rivers 170 = .ok (.isub, 1) := by decide +kernel
theorem dX8_rivers_171 : decode cX8_rivers 171 = .ok (.if_icmp .ne 12, 3) := by decide +kernel
theorem dX8_rivers_174 : decode cX8_rivers 174 = .ok (.aload_n 0, 1) := by decide +kernel
theorem dX8_rivers_175 : decode cX8_rivers 175 = .ok (.iload_n 1, 1) := by decide +kernel
theorem dX8_rivers_176 : decode cX8_rivers 176 = .ok (.iload_n 2, 1) := by decide +kernel
theorem dX8_rivers_177 : decode cX8_rivers 177 = .ok (.invokevirtual 204, 3) := by decide +kernel
theorem dX8_rivers_180 : decode cX8_rivers 180 = .ok (.ifCond .ne 7, 3) := by decide +kernel
theorem dX8_rivers_183 : decode cX8_rivers 183 = .ok (.iconst 1, 1) := by decide +kernel
theorem dX8_rivers_184 : decode cX8_rivers 184 = .ok (.goto 4, 3) := by decide +kernel
theorem dX8_rivers_187 : decode cX8_rivers 187 = .ok (.iconst 0, 1) := by decide +kernel
theorem dX8_rivers_188 : decode cX8_rivers 188 = .ok (.bastore, 1) := by decide +kernel
theorem dX8_rivers_189 : decode cX8_rivers 189 = .ok (.iinc 2 1, 3) := by decide +kernel
theorem dX8_rivers_192 : decode cX8_rivers 192 = .ok (.goto (-54), 3) := by decide +kernel
theorem dX8_rivers_195 : decode cX8_rivers 195 = .ok (.iinc 1 1, 3) := by decide +kernel
theorem dX8_rivers_198 : decode cX8_rivers 198 = .ok (.goto (-91), 3) := by decide +kernel
theorem dX8_rivers_201 : decode cX8_rivers 201 = .ok (.return_, 1) := by decide +kernel
theorem dX8_rough_0 : decode cX8_rough 0 = .ok (.iconst 0, 1) := by decide +kernel
theorem dX8_rough_1 : decode cX8_rough 1 = .ok (.istore_n 1, 1) := by decide +kernel
theorem dX8_rough_2 : decode cX8_rough 2 = .ok (.iconst 0, 1) := by decide +kernel
theorem dX8_rough_3 : decode cX8_rough 3 = .ok (.istore_n 2, 1) := by decide +kernel
theorem dX8_rough_4 : decode cX8_rough 4 = .ok (.iload_n 2, 1) := by decide +kernel
theorem dX8_rough_5 : decode cX8_rough 5 = .ok (.aload_n 0, 1) := by decide +kernel
theorem dX8_rough_6 : decode cX8_rough 6 = .ok (.getfield 183, 3) := by decide +kernel
theorem dX8_rough_9 : decode cX8_rough 9 = .ok (.iconst 1, 1) := by decide +kernel
theorem dX8_rough_10 : decode cX8_rough 10 = .ok (.isub, 1) := by decide +kernel
theorem dX8_rough_11 : decode cX8_rough 11 = .ok (.if_icmp .ge 47, 3) := by decide +kernel
theorem dX8_rough_14 : decode cX8_rough 14 = .ok (.aload_n 0, 1) := by decide +kernel
theorem dX8_rough_15 : decode cX8_rough 15 = .ok (.iload_n 2, 1) := by decide +kernel
theorem dX8_rough_16 : decode cX8_rough 16 = .ok (.invokevirtual 207, 3) := by decide +kernel
theorem dX8_rough_19 : decode cX8_rough 19 = .ok (.aload_n 0, 1) := by decide +kernel
theorem dX8_rough_20 : decode cX8_rough 20 = .ok (.getfield 32, 3) := by decide +kernel
theorem dX8_rough_23 : decode cX8_rough 23 = .ok (.bipush 35, 2) := by decide +kernel
theorem dX8_rough_25 : decode cX8_rough 25 = .ok (.iaload, 1) := by decide +kernel
theorem dX8_rough_26 : decode cX8_rough 26 = .ok (.isub, 1) := by decide +kernel
theorem dX8_rough_27 : decode cX8_rough 27 = .ok (.aload_n 0, 1) := by decide +kernel
theorem dX8_rough_28 : decode cX8_rough 28 = .ok (.aload_n 0, 1) := by decide +kernel
theorem dX8_rough_29 : decode cX8_rough 29 = .ok (.getfield 65, 3) := by decide +kernel
theorem dX8_rough_32 : decode cX8_rough 32 = .ok (.iload_n 2, 1) := by decide +kernel
theorem dX8_rough_33 : decode cX8_rough 33 = .ok (.iaload, 1) := by decide +kernel
theorem dX8_rough_34 : decode cX8_rough 34 = .ok (.invokevirtual 163, 3) := by decide +kernel
theorem dX8_rough_37 : decode cX8_rough 37 = .ok (.isub, 1) := by decide +kernel
theorem dX8_rough_38 : decode cX8_rough 38 = .ok (.istore_n 3, 1) := by decide +kernel
theorem dX8_rough_39 : decode cX8_rough 39 = .ok (.iload_n 1, 1) := by decide +kernel
theorem dX8_rough_40 : decode cX8_rough 40 = .ok (.iload_n 3, 1) := by decide +kernel
theorem dX8_rough_41 : decode cX8_rough 41 = .ok (.ifCond .ge 8, 3) := by decide +kernel
theorem dX8_rough_44 : decode cX8_rough 44 = .ok (.iload_n 3, 1) := by decide +kernel
theorem dX8_rough_45 : decode cX8_rough 45 = .ok (.ineg, 1) := by decide +kernel
theorem dX8_rough_46 : decode cX8_rough 46 = .ok (.goto 4, 3) := by decide +kernel
theorem dX8_rough_49 : decode cX8_rough 49 = .ok (.iload_n 3, 1) := by decide +kernel
theorem dX8_rough_50 : decode cX8_rough 50 = .ok (.iadd, 1) := by decide +kernel
theorem dX8_rough_51 : decode cX8_rough 51 = .ok (.istore_n 1, 1) := by decide +kernel
theorem dX8_rough_52 : decode cX8_rough 52 = .ok (.iinc 2 1, 3) := by decide +kernel
theorem dX8_rough_55 : decode cX8_rough 55 = .ok (.goto (-51), 3) := by decide +kernel
theorem dX8_rough_58 : decode cX8_rough 58 = .ok (.iload_n 1, 1) := by decide +kernel
theorem dX8_rough_59 : decode cX8_rough 59 = .ok (.ireturn, 1) := by decide +kernel
theorem dX8_page_0 : decode cX8_page 0 = .ok (.iload_n 1, 1) := by decide +kernel
theorem dX8_page_1 : decode cX8_page 1 = .ok (.iconst 0, 1) := by decide +kernel
theorem dX8_page_2 : decode cX8_page 2 = .ok (.iconst 5, 1) := by decide +kernel
theorem dX8_page_3 : decode cX8_page 3 = .ok (.invokestatic 99, 3) := by decide +kernel
theorem dX8_page_6 : decode cX8_page 6 = .ok (.ifCond .ne 5, 3) := by decide +kernel
theorem dX8_page_9 : decode cX8_page 9 = .ok (.iconst (-1), 1) := by decide +kernel
theorem dX8_page_10 : decode cX8_page 10 = .ok (.ireturn, 1) := by decide +kernel
theorem dX8_page_11 : decode cX8_page 11 = .ok (.aload_n 0, 1) := by decide +kernel
theorem dX8_page_12 : decode cX8_page 12 = .ok (.aload_n 0, 1) := by decide +kernel
theorem dX8_page_13 : decode cX8_page 13 = .ok (.getfield 32, 3) := by decide +kernel
theorem dX8_page_16 : decode cX8_page 16 = .ok (.bipush 35, 2) := by decide +kernel
theorem dX8_page_18 : decode cX8_page 18 = .ok (.iaload, 1) := by decide +kernel
theorem dX8_page_19 : decode cX8_page 19 = .ok (.invokevirtual 210, 3) := by decide +kernel
theorem dX8_page_22 : decode cX8_page 22 = .ok (.ifCond .ne 6, 3) := by decide +kernel
theorem dX8_page_25 : decode cX8_page 25 = .ok (.bipush (-9), 2) := by decide +kernel
theorem dX8_page_27 : decode cX8_page 27 = .ok (.ireturn, 1) := by decide +kernel
theorem dX8_page_28 : decode cX8_page 28 = .ok (.iload_n 1, 1) := by decide +kernel
theorem dX8_page_29 : decode cX8_page 29 = .ok (.iconst 2, 1) := by decide +kernel
theorem dX8_page_30 : decode cX8_page 30 = .ok (.if_icmp .ge 21, 3) := by decide +kernel
theorem dX8_page_33 : decode cX8_page 33 = .ok (.iload_n 1, 1) := by decide +kernel
theorem dX8_page_34 : decode cX8_page 34 = .ok (.ifCond .ne 12, 3) := by decide +kernel
theorem dX8_page_37 : decode cX8_page 37 = .ok (.aload_n 0, 1) := by decide +kernel
theorem dX8_page_38 : decode cX8_page 38 = .ok (.getfield 56, 3) := by decide +kernel
theorem dX8_page_41 : decode cX8_page 41 = .ok (.iconst 0, 1) := by decide +kernel
theorem dX8_page_42 : decode cX8_page 42 = .ok (.iaload, 1) := by decide +kernel
theorem dX8_page_43 : decode cX8_page 43 = .ok (.goto 7, 3) := by decide +kernel
theorem dX8_page_46 : decode cX8_page 46 = .ok (.aload_n 0, 1) := by decide +kernel
theorem dX8_page_47 : decode cX8_page 47 = .ok (.getfield 183, 3) := by decide +kernel
theorem dX8_page_50 : decode cX8_page 50 = .ok (.ireturn, 1) := by decide +kernel
theorem dX8_page_51 : decode cX8_page 51 = .ok (.iload_n 1, 1) := by decide +kernel
theorem dX8_page_52 : decode cX8_page 52 = .ok (.iconst 3, 1) := by decide +kernel
theorem dX8_page_53 : decode cX8_page 53 = .ok (.if_icmp .ne 8, 3) := by decide +kernel
theorem dX8_page_56 : decode cX8_page 56 = .ok (.aload_n 0, 1) := by decide +kernel
theorem dX8_page_57 : decode cX8_page 57 = .ok (.invokevirtual 213, 3) := by decide +kernel
theorem dX8_page_60 : decode cX8_page 60 = .ok (.ireturn, 1) := by decide +kernel
theorem dX8_page_61 : decode cX8_page 61 = .ok (.aload_n 0, 1) := by decide +kernel
theorem dX8_page_62 : decode cX8_page 62 = .ok (.invokevirtual 216, 3) := by decide +kernel
theorem dX8_page_65 : decode cX8_page 65 = .ok (.iconst 0, 1) := by decide +kernel
theorem dX8_page_66 : decode cX8_page 66 = .ok (.istore_n 2, 1) := by decide +kernel
theorem dX8_page_67 : decode cX8_page 67 = .ok (.iconst 0, 1) := by decide +kernel
theorem dX8_page_68 : decode cX8_page 68 = .ok (.istore_n 3, 1) := by decide +kernel
theorem dX8_page_69 : decode cX8_page 69 = .ok (.iload_n 3, 1) := by decide +kernel
theorem dX8_page_70 : decode cX8_page 70 = .ok (.aload_n 0, 1) := by decide +kernel
theorem dX8_page_71 : decode cX8_page 71 = .ok (.getfield 183, 3) := by decide +kernel
theorem dX8_page_74 : decode cX8_page 74 = .ok (.if_icmp .ge 31, 3) := by decide +kernel
theorem dX8_page_77 : decode cX8_page 77 = .ok (.iload_n 2, 1) := by decide +kernel
theorem dX8_page_78 : decode cX8_page 78 = .ok (.aload_n 0, 1) := by decide +kernel
theorem dX8_page_79 : decode cX8_page 79 = .ok (.getfield 28, 3) := by decide +kernel
theorem dX8_page_82 : decode cX8_page 82 = .ok (.aload_n 0, 1) := by decide +kernel
theorem dX8_page_83 : decode cX8_page 83 = .ok (.getfield 65, 3) := by decide +kernel
theorem dX8_page_86 : decode cX8_page 86 = .ok (.iload_n 3, 1) := by decide +kernel
theorem dX8_page_87 : decode cX8_page 87 = .ok (.iaload, 1) := by decide +kernel
theorem dX8_page_88 : decode cX8_page 88 = .ok (.baload, 1) := by decide +kernel
theorem dX8_page_89 : decode cX8_page 89 = .ok (.ifCond .eq 7, 3) := by decide +kernel
theorem dX8_page_92 : decode cX8_page 92 = .ok (.iconst 1, 1) := by decide +kernel
theorem dX8_page_93 : decode cX8_page 93 = .ok (.goto 4, 3) := by decide +kernel
theorem dX8_page_96 : decode cX8_page 96 = .ok (.iconst 0, 1) := by decide +kernel
theorem dX8_page_97 : decode cX8_page 97 = .ok (.iadd, 1) := by decide +kernel
theorem dX8_page_98 : decode cX8_page 98 = .ok (.istore_n 2, 1) := by decide +kernel
theorem dX8_page_99 : decode cX8_page 99 = .ok (.iinc 3 1, 3) := by decide +kernel
theorem dX8_page_102 : decode cX8_page 102 = .ok (.goto (-33), 3) := by decide +kernel
theorem dX8_page_105 : decode cX8_page 105 = .ok (.iconst 0, 1) := by decide +kernel
theorem dX8_page_106 : decode cX8_page 106 = .ok (.istore_n 3, 1) := by decide +kernel
theorem dX8_page_107 : decode cX8_page 107 = .ok (.iconst 0, 1) := by decide +kernel
theorem dX8_page_108 : decode cX8_page 108 = .ok (.istore 4, 2) := by decide +kernel
theorem dX8_page_110 : decode cX8_page 110 = .ok (.iconst 0, 1) := by decide +kernel
theorem dX8_page_111 : decode cX8_page 111 = .ok (.istore 5, 2) := by decide +kernel
theorem dX8_page_113 : decode cX8_page 113 = .ok (.iload 5, 2) := by decide +kernel
theorem dX8_page_115 : decode cX8_page 115 = .ok (.aload_n 0, 1) := by decide +kernel
theorem dX8_page_116 : decode cX8_page 116 = .ok (.getfield 198, 3) := by decide +kernel
theorem dX8_page_119 : decode cX8_page 119 = .ok (.if_icmp .ge 53, 3) := by decide +kernel
theorem dX8_page_122 : decode cX8_page 122 = .ok (.iload_n 3, 1) := by decide +kernel
theorem dX8_page_123 : decode cX8_page 123 = .ok (.aload_n 0, 1) := by decide +kernel
theorem dX8_page_124 : decode cX8_page 124 = .ok (.getfield 80, 3) := by decide +kernel
theorem dX8_page_127 : decode cX8_page 127 = .ok (.iload 5, 2) := by decide +kernel
theorem dX8_page_129 : decode cX8_page 129 = .ok (.baload, 1) := by decide +kernel
theorem dX8_page_130 : decode cX8_page 130 = .ok (.ifCond .eq 7, 3) := by decide +kernel
theorem dX8_page_133 : decode cX8_page 133 = .ok (.iconst 1, 1) := by decide +kernel
theorem dX8_page_134 : decode cX8_page 134 = .ok (.goto 4, 3) := by decide +kernel
theorem dX8_page_137 : decode cX8_page 137 = .ok (.iconst 0, 1) := by decide +kernel
theorem dX8_page_138 : decode cX8_page 138 = .ok (.iadd, 1) := by decide +kernel
theorem dX8_page_139 : decode cX8_page 139 = .ok (.istore_n 3, 1) := by decide +kernel
theorem dX8_page_140 : decode cX8_page 140 = .ok (.aload_n 0, 1) := by decide +kernel
theorem dX8_page_141 : decode cX8_page 141 = .ok (.getfield 77, 3) := by decide +kernel
theorem dX8_page_144 : decode cX8_page 144 = .ok (.iload 5, 2) := by decide +kernel
theorem dX8_page_146 : decode cX8_page 146 = .ok (.iaload, 1) := by decide +kernel
theorem dX8_page_147 : decode cX8_page 147 = .ok (.iload 4, 2) := by decide +kernel
theorem dX8_page_149 : decode cX8_page 149 = .ok (.if_icmp .le 13, 3) := by decide +kernel
theorem dX8_page_152 : decode cX8_page 152 = .ok (.aload_n 0, 1) := by decide +kernel
theorem dX8_page_153 : decode cX8_page 153 = .ok (.getfield 77, 3) := by decide +kernel
theorem dX8_page_156 : decode cX8_page 156 = .ok (.iload 5, 2) := by decide +kernel
theorem dX8_page_158 : decode cX8_page 158 = .ok (.iaload, 1) := by decide +kernel
theorem dX8_page_159 : decode cX8_page 159 = .ok (.goto 5, 3) := by decide +kernel
theorem dX8_page_162 : decode cX8_page 162 = .ok (.iload 4, 2) := by decide +kernel
theorem dX8_page_164 : decode cX8_page 164 = .ok (.istore 4, 2) := by decide +kernel
theorem dX8_page_166 : decode cX8_page 166 = .ok (.iinc 5 1, 3) := by decide +kernel
theorem dX8_page_169 : decode cX8_page 169 = .ok (.goto (-56), 3) := by decide +kernel
theorem dX8_page_172 : decode cX8_page 172 = .ok (.iload_n 1, 1) := by decide +kernel
theorem dX8_page_173 : decode cX8_page 173 = .ok (.iconst 2, 1) := by decide +kernel
theorem dX8_page_174 : decode cX8_page 174 = .ok (.if_icmp .ne 7, 3) := by decide +kernel
theorem dX8_page_177 : decode cX8_page 177 = .ok (.iload_n 2, 1) := by decide +kernel
theorem dX8_page_178 : decode cX8_page 178 = .ok (.goto 14, 3) := by decide +kernel
theorem dX8_page_181 : decode cX8_page 181 = .ok (.iload_n 1, 1) := by decide +kernel
theorem dX8_page_182 : decode cX8_page 182 = .ok (.iconst 4, 1) := by decide +kernel
theorem dX8_page_183 : decode cX8_page 183 = .ok (.if_icmp .ne 7, 3) := by decide +kernel
theorem dX8_page_186 : decode cX8_page 186 = .ok (.iload_n 3, 1) := by decide +kernel
theorem dX8_page_187 : decode cX8_page 187 = .ok (.goto 5, 3) := by decide +kernel
theorem dX8_page_190 : decode cX8_page 190 = .ok (.iload 4, 2) := by decide +kernel
theorem dX8_page_192 : decode cX8_page 192 = .ok (.ireturn, 1) := by decide +kernel
theorem dX8_line_0 : decode cX8_line 0 = .ok (.iload_n 1, 1) := by decide +kernel
theorem dX8_line_1 : decode cX8_line 1 = .ok (.ifCond .lt 13, 3) := by decide +kernel
theorem dX8_line_4 : decode cX8_line 4 = .ok (.iload_n 2, 1) := by decide +kernel
theorem dX8_line_5 : decode cX8_line 5 = .ok (.iconst 0, 1) := by decide +kernel
theorem dX8_line_6 : decode cX8_line 6 = .ok (.bipush 6, 2) := by decide +kernel
theorem dX8_line_8 : decode cX8_line 8 = .ok (.invokestatic 99, 3) := by decide +kernel
theorem dX8_line_11 : decode cX8_line 11 = .ok (.ifCond .ne 5, 3) := by decide +kernel
theorem dX8_line_14 : decode cX8_line 14 = .ok (.iconst (-1), 1) := by decide +kernel
theorem dX8_line_15 : decode cX8_line 15 = .ok (.ireturn, 1) := by decide +kernel
theorem dX8_line_16 : decode cX8_line 16 = .ok (.aload_n 0, 1) := by decide +kernel
theorem dX8_line_17 : decode cX8_line 17 = .ok (.aload_n 0, 1) := by decide +kernel
theorem dX8_line_18 : decode cX8_line 18 = .ok (.getfield 32, 3) := by decide +kernel
theorem dX8_line_21 : decode cX8_line 21 = .ok (.bipush 35, 2) := by decide +kernel
theorem dX8_line_23 : decode cX8_line 23 = .ok (.iaload, 1) := by decide +kernel
theorem dX8_line_24 : decode cX8_line 24 = .ok (.invokevirtual 210, 3) := by decide +kernel
theorem dX8_line_27 : decode cX8_line 27 = .ok (.ifCond .ne 6, 3) := by decide +kernel
theorem dX8_line_30 : decode cX8_line 30 = .ok (.bipush (-9), 2) := by decide +kernel
theorem dX8_line_32 : decode cX8_line 32 = .ok (.ireturn, 1) := by decide +kernel
theorem dX8_line_33 : decode cX8_line 33 = .ok (.iload_n 1, 1) := by decide +kernel
theorem dX8_line_34 : decode cX8_line 34 = .ok (.aload_n 0, 1) := by decide +kernel
theorem dX8_line_35 : decode cX8_line 35 = .ok (.getfield 183, 3) := by decide +kernel
theorem dX8_line_38 : decode cX8_line 38 = .ok (.if_icmp .lt 5, 3) := by decide +kernel
theorem dX8_line_41 : decode cX8_line 41 = .ok (.iconst (-1), 1) := by decide +kernel
theorem dX8_line_42 : decode cX8_line 42 = .ok (.ireturn, 1) := by decide +kernel
theorem dX8_line_43 : decode cX8_line 43 = .ok (.iload_n 2, 1) := by decide +kernel
theorem dX8_line_44 : decode cX8_line 44 = .ok (.tableswitch 107 0 5 #[40, 47, 63, 74, 80, 101], 40) := by decide +kernel
theorem dX8_line_84 : decode cX8_line 84 = .ok (.aload_n 0, 1) := by decide +kernel
theorem dX8_line_85 : decode cX8_line 85 = .ok (.getfield 65, 3) := by decide +kernel
theorem dX8_line_88 : decode cX8_line 88 = .ok (.iload_n 1, 1) := by decide +kernel
theorem dX8_line_89 : decode cX8_line 89 = .ok (.iaload, 1) := by decide +kernel
theorem dX8_line_90 : decode cX8_line 90 = .ok (.ireturn, 1) := by decide +kernel
theorem dX8_line_91 : decode cX8_line 91 = .ok (.aload_n 0, 1) := by decide +kernel
theorem dX8_line_92 : decode cX8_line 92 = .ok (.aload_n 0, 1) := by decide +kernel
theorem dX8_line_93 : decode cX8_line 93 = .ok (.iload_n 1, 1) := by decide +kernel
theorem dX8_line_94 : decode cX8_line 94 = .ok (.invokevirtual 186, 3) := by decide +kernel
theorem dX8_line_97 : decode cX8_line 97 = .ok (.aload_n 0, 1) := by decide +kernel
theorem dX8_line_98 : decode cX8_line 98 = .ok (.getfield 65, 3) := by decide +kernel
theorem dX8_line_101 : decode cX8_line 101 = .ok (.iload_n 1, 1) := by decide +kernel
theorem dX8_line_102 : decode cX8_line 102 = .ok (.iaload, 1) := by decide +kernel
theorem dX8_line_103 : decode cX8_line 103 = .ok (.invokevirtual 166, 3) := by decide +kernel
theorem dX8_line_106 : decode cX8_line 106 = .ok (.ireturn, 1) := by decide +kernel
theorem dX8_line_107 : decode cX8_line 107 = .ok (.aload_n 0, 1) := by decide +kernel
theorem dX8_line_108 : decode cX8_line 108 = .ok (.aload_n 0, 1) := by decide +kernel
theorem dX8_line_109 : decode cX8_line 109 = .ok (.getfield 65, 3) := by decide +kernel
theorem dX8_line_112 : decode cX8_line 112 = .ok (.iload_n 1, 1) := by decide +kernel
theorem dX8_line_113 : decode cX8_line 113 = .ok (.iaload, 1) := by decide +kernel
theorem dX8_line_114 : decode cX8_line 114 = .ok (.invokevirtual 163, 3) := by decide +kernel
theorem dX8_line_117 : decode cX8_line 117 = .ok (.ireturn, 1) := by decide +kernel
theorem dX8_line_118 : decode cX8_line 118 = .ok (.aload_n 0, 1) := by decide +kernel
theorem dX8_line_119 : decode cX8_line 119 = .ok (.iload_n 1, 1) := by decide +kernel
theorem dX8_line_120 : decode cX8_line 120 = .ok (.invokevirtual 195, 3) := by decide +kernel
theorem dX8_line_123 : decode cX8_line 123 = .ok (.ireturn, 1) := by decide +kernel
theorem dX8_line_124 : decode cX8_line 124 = .ok (.aload_n 0, 1) := by decide +kernel
theorem dX8_line_125 : decode cX8_line 125 = .ok (.aload_n 0, 1) := by decide +kernel
theorem dX8_line_126 : decode cX8_line 126 = .ok (.iload_n 1, 1) := by decide +kernel
theorem dX8_line_127 : decode cX8_line 127 = .ok (.invokevirtual 186, 3) := by decide +kernel
theorem dX8_line_130 : decode cX8_line 130 = .ok (.aload_n 0, 1) := by decide +kernel
theorem dX8_line_131 : decode cX8_line 131 = .ok (.getfield 65, 3) := by decide +kernel
theorem dX8_line_134 : decode cX8_line 134 = .ok (.iload_n 1, 1) := by decide +kernel
theorem dX8_line_135 : decode cX8_line 135 = .ok (.iaload, 1) := by decide +kernel
theorem dX8_line_136 : decode cX8_line 136 = .ok (.aload_n 0, 1) := by decide +kernel
theorem dX8_line_137 : decode cX8_line 137 = .ok (.iload_n 1, 1) := by decide +kernel
theorem dX8_line_138 : decode cX8_line 138 = .ok (.invokevirtual 195, 3) := by decide +kernel
theorem dX8_line_141 : decode cX8_line 141 = .ok (.invokevirtual 173, 3) := by decide +kernel
theorem dX8_line_144 : decode cX8_line 144 = .ok (.ireturn, 1) := by decide +kernel
theorem dX8_line_145 : decode cX8_line 145 = .ok (.aload_n 0, 1) := by decide +kernel
theorem dX8_line_146 : decode cX8_line 146 = .ok (.iload_n 1, 1) := by decide +kernel
theorem dX8_line_147 : decode cX8_line 147 = .ok (.invokevirtual 189, 3) := by decide +kernel
theorem dX8_line_150 : decode cX8_line 150 = .ok (.ireturn, 1) := by decide +kernel
theorem dX8_line_151 : decode cX8_line 151 = .ok (.aload_n 0, 1) := by decide +kernel
theorem dX8_line_152 : decode cX8_line 152 = .ok (.iload_n 1, 1) := by decide +kernel
theorem dX8_line_153 : decode cX8_line 153 = .ok (.invokevirtual 207, 3) := by decide +kernel
theorem dX8_line_156 : decode cX8_line 156 = .ok (.ireturn, 1) := by decide +kernel
theorem dX8_blank_0 : decode cX8_blank 0 = .ok (.iload_n 1, 1) := by decide +kernel
theorem dX8_blank_1 : decode cX8_blank 1 = .ok (.ifCond .lt 16, 3) := by decide +kernel
theorem dX8_blank_4 : decode cX8_blank 4 = .ok (.iload_n 2, 1) := by decide +kernel
theorem dX8_blank_5 : decode cX8_blank 5 = .ok (.ifCond .lt 12, 3) := by decide +kernel
theorem dX8_blank_8 : decode cX8_blank 8 = .ok (.iload_n 3, 1) := by decide +kernel
theorem dX8_blank_9 : decode cX8_blank 9 = .ok (.iconst 0, 1) := by decide +kernel
theorem dX8_blank_10 : decode cX8_blank 10 = .ok (.iconst 3, 1) := by decide +kernel
theorem dX8_blank_11 : decode cX8_blank 11 = .ok (.invokestatic 99, 3) := by decide +kernel
theorem dX8_blank_14 : decode cX8_blank 14 = .ok (.ifCond .ne 5, 3) := by decide +kernel
theorem dX8_blank_17 : decode cX8_blank 17 = .ok (.iconst (-1), 1) := by decide +kernel
theorem dX8_blank_18 : decode cX8_blank 18 = .ok (.ireturn, 1) := by decide +kernel
theorem dX8_blank_19 : decode cX8_blank 19 = .ok (.aload_n 0, 1) := by decide +kernel
theorem dX8_blank_20 : decode cX8_blank 20 = .ok (.aload_n 0, 1) := by decide +kernel
theorem dX8_blank_21 : decode cX8_blank 21 = .ok (.getfield 32, 3) := by decide +kernel
theorem dX8_blank_24 : decode cX8_blank 24 = .ok (.bipush 35, 2) := by decide +kernel
theorem dX8_blank_26 : decode cX8_blank 26 = .ok (.iaload, 1) := by decide +kernel
theorem dX8_blank_27 : decode cX8_blank 27 = .ok (.invokevirtual 210, 3) := by decide +kernel
theorem dX8_blank_30 : decode cX8_blank 30 = .ok (.ifCond .ne 6, 3) := by decide +kernel
theorem dX8_blank_33 : decode cX8_blank 33 = .ok (.bipush (-9), 2) := by decide +kernel
theorem dX8_blank_35 : decode cX8_blank 35 = .ok (.ireturn, 1) := by decide +kernel
theorem dX8_blank_36 : decode cX8_blank 36 = .ok (.iload_n 1, 1) := by decide +kernel
theorem dX8_blank_37 : decode cX8_blank 37 = .ok (.aload_n 0, 1) := by decide +kernel
theorem dX8_blank_38 : decode cX8_blank 38 = .ok (.getfield 183, 3) := by decide +kernel
theorem dX8_blank_41 : decode cX8_blank 41 = .ok (.if_icmp .lt 5, 3) := by decide +kernel
theorem dX8_blank_44 : decode cX8_blank 44 = .ok (.iconst (-1), 1) := by decide +kernel
theorem dX8_blank_45 : decode cX8_blank 45 = .ok (.ireturn, 1) := by decide +kernel
theorem dX8_blank_46 : decode cX8_blank 46 = .ok (.iload_n 2, 1) := by decide +kernel
theorem dX8_blank_47 : decode cX8_blank 47 = .ok (.aload_n 0, 1) := by decide +kernel
theorem dX8_blank_48 : decode cX8_blank 48 = .ok (.iload_n 1, 1) := by decide +kernel
theorem dX8_blank_49 : decode cX8_blank 49 = .ok (.invokevirtual 189, 3) := by decide +kernel
theorem dX8_blank_52 : decode cX8_blank 52 = .ok (.if_icmp .lt 6, 3) := by decide +kernel
theorem dX8_blank_55 : decode cX8_blank 55 = .ok (.bipush (-9), 2) := by decide +kernel
theorem dX8_blank_57 : decode cX8_blank 57 = .ok (.ireturn, 1) := by decide +kernel
theorem dX8_blank_58 : decode cX8_blank 58 = .ok (.aload_n 0, 1) := by decide +kernel
theorem dX8_blank_59 : decode cX8_blank 59 = .ok (.invokevirtual 216, 3) := by decide +kernel
theorem dX8_blank_62 : decode cX8_blank 62 = .ok (.iload_n 2, 1) := by decide +kernel
theorem dX8_blank_63 : decode cX8_blank 63 = .ok (.istore 4, 2) := by decide +kernel
theorem dX8_blank_65 : decode cX8_blank 65 = .ok (.aload_n 0, 1) := by decide +kernel
theorem dX8_blank_66 : decode cX8_blank 66 = .ok (.getfield 68, 3) := by decide +kernel
theorem dX8_blank_69 : decode cX8_blank 69 = .ok (.iload 4, 2) := by decide +kernel
theorem dX8_blank_71 : decode cX8_blank 71 = .ok (.iload_n 2, 1) := by decide +kernel
theorem dX8_blank_72 : decode cX8_blank 72 = .ok (.isub, 1) := by decide +kernel
theorem dX8_blank_73 : decode cX8_blank 73 = .ok (.iaload, 1) := by decide +kernel
theorem dX8_blank_74 : decode cX8_blank 74 = .ok (.iload_n 1, 1) := by decide +kernel
theorem dX8_blank_75 : decode cX8_blank 75 = .ok (.if_icmp .eq 9, 3) := by decide +kernel
theorem dX8_blank_78 : decode cX8_blank 78 = .ok (.iinc 4 1, 3) := by decide +kernel
theorem dX8_blank_81 : decode cX8_blank 81 = .ok (.goto (-16), 3) := by decide +kernel
theorem dX8_blank_84 : decode cX8_blank 84 = .ok (.iload_n 3, 1) := by decide +kernel
theorem dX8_blank_85 : decode cX8_blank 85 = .ok (.ifCond .ne 13, 3) := by decide +kernel
theorem dX8_blank_88 : decode cX8_blank 88 = .ok (.aload_n 0, 1) := by decide +kernel
theorem dX8_blank_89 : decode cX8_blank 89 = .ok (.getfield 71, 3) := by decide +kernel
theorem dX8_blank_92 : decode cX8_blank 92 = .ok (.iload 4, 2) := by decide +kernel
theorem dX8_blank_94 : decode cX8_blank 94 = .ok (.iaload, 1) := by decide +kernel
theorem dX8_blank_95 : decode cX8_blank 95 = .ok (.goto 48, 3) := by decide +kernel
theorem dX8_blank_98 : decode cX8_blank 98 = .ok (.iload_n 3, 1) := by decide +kernel
theorem dX8_blank_99 : decode cX8_blank 99 = .ok (.iconst 1, 1) := by decide +kernel
theorem dX8_blank_100 : decode cX8_blank 100 = .ok (.if_icmp .ne 13, 3) := by decide +kernel
theorem dX8_blank_103 : decode cX8_blank 103 = .ok (.aload_n 0, 1) := by decide +kernel
theorem dX8_blank_104 : decode cX8_blank 104 = .ok (.getfield 74, 3) := by decide +kernel
theorem dX8_blank_107 : decode cX8_blank 107 = .ok (.iload 4, 2) := by decide +kernel
theorem dX8_blank_109 : decode cX8_blank 109 = .ok (.iaload, 1) := by decide +kernel
theorem dX8_blank_110 : decode cX8_blank 110 = .ok (.goto 33, 3) := by decide +kernel
theorem dX8_blank_113 : decode cX8_blank 113 = .ok (.iload_n 3, 1) := by decide +kernel
theorem dX8_blank_114 : decode cX8_blank 114 = .ok (.iconst 2, 1) := by decide +kernel
theorem dX8_blank_115 : decode cX8_blank 115 = .ok (.if_icmp .ne 13, 3) := by decide +kernel
theorem dX8_blank_118 : decode cX8_blank 118 = .ok (.aload_n 0, 1) := by decide +kernel
theorem dX8_blank_119 : decode cX8_blank 119 = .ok (.getfield 77, 3) := by decide +kernel
theorem dX8_blank_122 : decode cX8_blank 122 = .ok (.iload 4, 2) := by decide +kernel
theorem dX8_blank_124 : decode cX8_blank 124 = .ok (.iaload, 1) := by decide +kernel
theorem dX8_blank_125 : decode cX8_blank 125 = .ok (.goto 18, 3) := by decide +kernel
theorem dX8_blank_128 : decode cX8_blank 128 = .ok (.aload_n 0, 1) := by decide +kernel
theorem dX8_blank_129 : decode cX8_blank 129 = .ok (.getfield 80, 3) := by decide +kernel
theorem dX8_blank_132 : decode cX8_blank 132 = .ok (.iload 4, 2) := by decide +kernel
theorem dX8_blank_134 : decode cX8_blank 134 = .ok (.baload, 1) := by decide +kernel
theorem dX8_blank_135 : decode cX8_blank 135 = .ok (.ifCond .eq 7, 3) := by decide +kernel
theorem dX8_blank_138 : decode cX8_blank 138 = .ok (.iconst 1, 1) := by decide +kernel
theorem dX8_blank_139 : decode cX8_blank 139 = .ok (.goto 4, 3) := by decide +kernel
theorem dX8_blank_142 : decode cX8_blank 142 = .ok (.iconst 0, 1) := by decide +kernel
theorem dX8_blank_143 : decode cX8_blank 143 = .ok (.ireturn, 1) := by decide +kernel
theorem dX8_leftOf_0 : decode cX8_leftOf 0 = .ok (.aload_n 0, 1) := by decide +kernel
theorem dX8_leftOf_1 : decode cX8_leftOf 1 = .ok (.iload_n 2, 1) := by decide +kernel
theorem dX8_leftOf_2 : decode cX8_leftOf 2 = .ok (.invokevirtual 144, 3) := by decide +kernel
theorem dX8_leftOf_5 : decode cX8_leftOf 5 = .ok (.ifCond .eq 14, 3) := by decide +kernel
theorem dX8_leftOf_8 : decode cX8_leftOf 8 = .ok (.iload_n 1, 1) := by decide +kernel
theorem dX8_leftOf_9 : decode cX8_leftOf 9 = .ok (.iconst (-1), 1) := by decide +kernel
theorem dX8_leftOf_10 : decode cX8_leftOf 10 = .ok (.iload_n 2, 1) := by decide +kernel
theorem dX8_leftOf_11 : decode cX8_leftOf 11 = .ok (.iconst 1, 1) := by decide +kernel
theorem dX8_leftOf_12 : decode cX8_leftOf 12 = .ok (.isub, 1) := by decide +kernel
theorem dX8_leftOf_13 : decode cX8_leftOf 13 = .ok (.invokestatic 99, 3) := by decide +kernel
theorem dX8_leftOf_16 : decode cX8_leftOf 16 = .ok (.ifCond .ne 6, 3) := by decide +kernel
theorem dX8_leftOf_19 : decode cX8_leftOf 19 = .ok (.ldc 219, 2) := by decide +kernel
theorem dX8_leftOf_21 : decode cX8_leftOf 21 = .ok (.ireturn, 1) := by decide +kernel
theorem dX8_leftOf_22 : decode cX8_leftOf 22 = .ok (.aload_n 0, 1) := by decide +kernel
theorem dX8_leftOf_23 : decode cX8_leftOf 23 = .ok (.invokevirtual 176, 3) := by decide +kernel
theorem dX8_leftOf_26 : decode cX8_leftOf 26 = .ok (.aload_n 0, 1) := by decide +kernel
theorem dX8_leftOf_27 : decode cX8_leftOf 27 = .ok (.iload_n 1, 1) := by decide +kernel
theorem dX8_leftOf_28 : decode cX8_leftOf 28 = .ok (.iload_n 2, 1) := by decide +kernel
theorem dX8_leftOf_29 : decode cX8_leftOf 29 = .ok (.aload_n 0, 1) := by decide +kernel
theorem dX8_leftOf_30 : decode cX8_leftOf 30 = .ok (.getfield 32, 3) := by decide +kernel
theorem dX8_leftOf_33 : decode cX8_leftOf 33 = .ok (.bipush 35, 2) := by decide +kernel
theorem dX8_leftOf_35 : decode cX8_leftOf 35 = .ok (.iaload, 1) := by decide +kernel
theorem dX8_leftOf_36 : decode cX8_leftOf 36 = .ok (.invokevirtual 169, 3) := by decide +kernel
theorem dX8_leftOf_39 : decode cX8_leftOf 39 = .ok (.ireturn, 1) := by decide +kernel
theorem dX8_puts_0 : decode cX8_puts 0 = .ok (.aload_n 0, 1) := by decide +kernel
theorem dX8_puts_1 : decode cX8_puts 1 = .ok (.iload_n 1, 1) := by decide +kernel
theorem dX8_puts_2 : decode cX8_puts 2 = .ok (.invokevirtual 144, 3) := by decide +kernel
theorem dX8_puts_5 : decode cX8_puts 5 = .ok (.ifCond .eq 25, 3) := by decide +kernel
theorem dX8_puts_8 : decode cX8_puts 8 = .ok (.aload_n 0, 1) := by decide +kernel
theorem dX8_puts_9 : decode cX8_puts 9 = .ok (.getfield 93, 3) := by decide +kernel
theorem dX8_puts_12 : decode cX8_puts 12 = .ok (.ifCond .le 20, 3) := by decide +kernel
theorem dX8_puts_15 : decode cX8_puts 15 = .ok (.iload_n 1, 1) := by decide +kernel
theorem dX8_puts_16 : decode cX8_puts 16 = .ok (.aload_n 0, 1) := by decide +kernel
theorem dX8_puts_17 : decode cX8_puts 17 = .ok (.getfield 44, 3) := by decide +kernel
theorem dX8_puts_20 : decode cX8_puts 20 = .ok (.aload_n 0, 1) := by decide +kernel
theorem dX8_puts_21 : decode cX8_puts 21 = .ok (.getfield 93, 3) := by decide +kernel
theorem dX8_puts_24 : decode cX8_puts 24 = .ok (.iconst 1, 1) := by decide +kernel
theorem dX8_puts_25 : decode cX8_puts 25 = .ok (.isub, 1) := by decide +kernel
theorem dX8_puts_26 : decode cX8_puts 26 = .ok (.iaload, 1) := by decide +kernel
theorem dX8_puts_27 : decode cX8_puts 27 = .ok (.if_icmp .gt 5, 3) := by decide +kernel
theorem dX8_puts_30 : decode cX8_puts 30 = .ok (.iconst (-1), 1) := by decide +kernel
theorem dX8_puts_31 : decode cX8_puts 31 = .ok (.ireturn, 1) := by decide +kernel
theorem dX8_puts_32 : decode cX8_puts 32 = .ok (.aload_n 0, 1) := by decide +kernel
theorem dX8_puts_33 : decode cX8_puts 33 = .ok (.getfield 44, 3) := by decide +kernel
theorem dX8_puts_36 : decode cX8_puts 36 = .ok (.aload_n 0, 1) := by decide +kernel
theorem dX8_puts_37 : decode cX8_puts 37 = .ok (.getfield 93, 3) := by decide +kernel
theorem dX8_puts_40 : decode cX8_puts 40 = .ok (.iload_n 1, 1) := by decide +kernel
theorem dX8_puts_41 : decode cX8_puts 41 = .ok (.iastore, 1) := by decide +kernel
theorem dX8_puts_42 : decode cX8_puts 42 = .ok (.aload_n 0, 1) := by decide +kernel
theorem dX8_puts_43 : decode cX8_puts 43 = .ok (.dup, 1) := by decide +kernel
theorem dX8_puts_44 : decode cX8_puts 44 = .ok (.getfield 93, 3) := by decide +kernel
theorem dX8_puts_47 : decode cX8_puts 47 = .ok (.iconst 1, 1) := by decide +kernel
theorem dX8_puts_48 : decode cX8_puts 48 = .ok (.iadd, 1) := by decide +kernel
theorem dX8_puts_49 : decode cX8_puts 49 = .ok (.putfield 93, 3) := by decide +kernel
theorem dX8_puts_52 : decode cX8_puts 52 = .ok (.aload_n 0, 1) := by decide +kernel
theorem dX8_puts_53 : decode cX8_puts 53 = .ok (.getfield 93, 3) := by decide +kernel
theorem dX8_puts_56 : decode cX8_puts 56 = .ok (.ireturn, 1) := by decide +kernel
theorem dX8_takes_0 : decode cX8_takes 0 = .ok (.aload_n 0, 1) := by decide +kernel
theorem dX8_takes_1 : decode cX8_takes 1 = .ok (.getfield 93, 3) := by decide +kernel
theorem dX8_takes_4 : decode cX8_takes 4 = .ok (.ifCond .ne 6, 3) := by decide +kernel
theorem dX8_takes_7 : decode cX8_takes 7 = .ok (.bipush (-2), 2) := by decide +kernel
theorem dX8_takes_9 : decode cX8_takes 9 = .ok (.ireturn, 1) := by decide +kernel
theorem dX8_takes_10 : decode cX8_takes 10 = .ok (.aload_n 0, 1) := by decide +kernel
theorem dX8_takes_11 : decode cX8_takes 11 = .ok (.dup, 1) := by decide +kernel
theorem dX8_takes_12 : decode cX8_takes 12 = .ok (.getfield 93, 3) := by decide +kernel
theorem dX8_takes_15 : decode cX8_takes 15 = .ok (.iconst 1, 1) := by decide +kernel
theorem dX8_takes_16 : decode cX8_takes 16 = .ok (.isub, 1) := by decide +kernel
theorem dX8_takes_17 : decode cX8_takes 17 = .ok (.putfield 93, 3) := by decide +kernel
theorem dX8_takes_20 : decode cX8_takes 20 = .ok (.aload_n 0, 1) := by decide +kernel
theorem dX8_takes_21 : decode cX8_takes 21 = .ok (.getfield 44, 3) := by decide +kernel
theorem dX8_takes_24 : decode cX8_takes 24 = .ok (.aload_n 0, 1) := by decide +kernel
theorem dX8_takes_25 : decode cX8_takes 25 = .ok (.getfield 93, 3) := by decide +kernel
theorem dX8_takes_28 : decode cX8_takes 28 = .ok (.iaload, 1) := by decide +kernel
theorem dX8_takes_29 : decode cX8_takes 29 = .ok (.ireturn, 1) := by decide +kernel
theorem dX8_judged_0 : decode cX8_judged 0 = .ok (.iload_n 1, 1) := by decide +kernel
theorem dX8_judged_1 : decode cX8_judged 1 = .ok (.iconst 0, 1) := by decide +kernel
theorem dX8_judged_2 : decode cX8_judged 2 = .ok (.iconst 2, 1) := by decide +kernel
theorem dX8_judged_3 : decode cX8_judged 3 = .ok (.invokestatic 99, 3) := by decide +kernel
theorem dX8_judged_6 : decode cX8_judged 6 = .ok (.ifCond .ne 5, 3) := by decide +kernel
theorem dX8_judged_9 : decode cX8_judged 9 = .ok (.iconst (-1), 1) := by decide +kernel
theorem dX8_judged_10 : decode cX8_judged 10 = .ok (.ireturn, 1) := by decide +kernel
theorem dX8_judged_11 : decode cX8_judged 11 = .ok (.aload_n 0, 1) := by decide +kernel
theorem dX8_judged_12 : decode cX8_judged 12 = .ok (.invokevirtual 176, 3) := by decide +kernel
theorem dX8_judged_15 : decode cX8_judged 15 = .ok (.iconst 0, 1) := by decide +kernel
theorem dX8_judged_16 : decode cX8_judged 16 = .ok (.istore_n 2, 1) := by decide +kernel
theorem dX8_judged_17 : decode cX8_judged 17 = .ok (.iconst (-1), 1) := by decide +kernel
theorem dX8_judged_18 : decode cX8_judged 18 = .ok (.istore_n 3, 1) := by decide +kernel
theorem dX8_judged_19 : decode cX8_judged 19 = .ok (.iconst 0, 1) := by decide +kernel
theorem dX8_judged_20 : decode cX8_judged 20 = .ok (.istore 4, 2) := by decide +kernel
theorem dX8_judged_22 : decode cX8_judged 22 = .ok (.iload 4, 2) := by decide +kernel
theorem dX8_judged_24 : decode cX8_judged 24 = .ok (.aload_n 0, 1) := by decide +kernel
theorem dX8_judged_25 : decode cX8_judged 25 = .ok (.getfield 93, 3) := by decide +kernel
theorem dX8_judged_28 : decode cX8_judged 28 = .ok (.if_icmp .ge 81, 3) := by decide +kernel
theorem dX8_judged_31 : decode cX8_judged 31 = .ok (.aload_n 0, 1) := by decide +kernel
theorem dX8_judged_32 : decode cX8_judged 32 = .ok (.iload_n 3, 1) := by decide +kernel
theorem dX8_judged_33 : decode cX8_judged 33 = .ok (.aload_n 0, 1) := by decide +kernel
theorem dX8_judged_34 : decode cX8_judged 34 = .ok (.getfield 44, 3) := by decide +kernel
theorem dX8_judged_37 : decode cX8_judged 37 = .ok (.iload 4, 2) := by decide +kernel
theorem dX8_judged_39 : decode cX8_judged 39 = .ok (.iaload, 1) := by decide +kernel
theorem dX8_judged_40 : decode cX8_judged 40 = .ok (.aload_n 0, 1) := by decide +kernel
theorem dX8_judged_41 : decode cX8_judged 41 = .ok (.getfield 32, 3) := by decide +kernel
theorem dX8_judged_44 : decode cX8_judged 44 = .ok (.bipush 35, 2) := by decide +kernel
theorem dX8_judged_46 : decode cX8_judged 46 = .ok (.iaload, 1) := by decide +kernel
theorem dX8_judged_47 : decode cX8_judged 47 = .ok (.invokevirtual 169, 3) := by decide +kernel
theorem dX8_judged_50 : decode cX8_judged 50 = .ok (.istore 5, 2) := by decide +kernel
theorem dX8_judged_52 : decode cX8_judged 52 = .ok (.iload 5, 2) := by decide +kernel
theorem dX8_judged_54 : decode cX8_judged 54 = .ok (.ifCond .ge 24, 3) := by decide +kernel
theorem dX8_judged_57 : decode cX8_judged 57 = .ok (.iload_n 1, 1) := by decide +kernel
theorem dX8_judged_58 : decode cX8_judged 58 = .ok (.ifCond .ne 7, 3) := by decide +kernel
theorem dX8_judged_61 : decode cX8_judged 61 = .ok (.iconst 1, 1) := by decide +kernel
theorem dX8_judged_62 : decode cX8_judged 62 = .ok (.goto 15, 3) := by decide +kernel
theorem dX8_judged_65 : decode cX8_judged 65 = .ok (.iload_n 1, 1) := by decide +kernel
theorem dX8_judged_66 : decode cX8_judged 66 = .ok (.iconst 1, 1) := by decide +kernel
theorem dX8_judged_67 : decode cX8_judged 67 = .ok (.if_icmp .ne 8, 3) := by decide +kernel
theorem dX8_judged_70 : decode cX8_judged 70 = .ok (.iload 4, 2) := by decide +kernel
theorem dX8_judged_72 : decode cX8_judged 72 = .ok (.goto 5, 3) := by decide +kernel
theorem dX8_judged_75 : decode cX8_judged 75 = .ok (.bipush (-9), 2) := by decide +kernel
theorem dX8_judged_77 : decode cX8_judged 77 = .ok (.ireturn, 1) := by decide +kernel
theorem dX8_judged_78 : decode cX8_judged 78 = .ok (.iload_n 2, 1) := by decide +kernel
theorem dX8_judged_79 : decode cX8_judged 79 = .ok (.aload_n 0, 1) := by decide +kernel
theorem dX8_judged_80 : decode cX8_judged 80 = .ok (.iload_n 3, 1) := by decide +kernel
theorem dX8_judged_81 : decode cX8_judged 81 = .ok (.aload_n 0, 1) := by decide +kernel
theorem dX8_judged_82 : decode cX8_judged 82 = .ok (.getfield 44, 3) := by decide +kernel
theorem dX8_judged_85 : decode cX8_judged 85 = .ok (.iload 4, 2) := by decide +kernel
theorem dX8_judged_87 : decode cX8_judged 87 = .ok (.iaload, 1) := by decide +kernel
theorem dX8_judged_88 : decode cX8_judged 88 = .ok (.iload 5, 2) := by decide +kernel
theorem dX8_judged_90 : decode cX8_judged 90 = .ok (.invokevirtual 173, 3) := by decide +kernel
theorem dX8_judged_93 : decode cX8_judged 93 = .ok (.iadd, 1) := by decide +kernel
theorem dX8_judged_94 : decode cX8_judged 94 = .ok (.istore_n 2, 1) := by decide +kernel
theorem dX8_judged_95 : decode cX8_judged 95 = .ok (.aload_n 0, 1) := by decide +kernel
theorem dX8_judged_96 : decode cX8_judged 96 = .ok (.getfield 44, 3) := by decide +kernel
theorem dX8_judged_99 : decode cX8_judged 99 = .ok (.iload 4, 2) := by decide +kernel
theorem dX8_judged_101 : decode cX8_judged 101 = .ok (.iaload, 1) := by decide +kernel
theorem dX8_judged_102 : decode cX8_judged 102 = .ok (.istore_n 3, 1) := by decide +kernel
theorem dX8_judged_103 : decode cX8_judged 103 = .ok (.iinc 4 1, 3) := by decide +kernel
theorem dX8_judged_106 : decode cX8_judged 106 = .ok (.goto (-84), 3) := by decide +kernel
theorem dX8_judged_109 : decode cX8_judged 109 = .ok (.iload_n 3, 1) := by decide +kernel
theorem dX8_judged_110 : decode cX8_judged 110 = .ok (.aload_n 0, 1) := by decide +kernel
theorem dX8_judged_111 : decode cX8_judged 111 = .ok (.getfield 117, 3) := by decide +kernel
theorem dX8_judged_114 : decode cX8_judged 114 = .ok (.iconst 1, 1) := by decide +kernel
theorem dX8_judged_115 : decode cX8_judged 115 = .ok (.isub, 1) := by decide +kernel
theorem dX8_judged_116 : decode cX8_judged 116 = .ok (.if_icmp .ge 26, 3) := by decide +kernel
theorem dX8_judged_119 : decode cX8_judged 119 = .ok (.iload_n 1, 1) := by decide +kernel
theorem dX8_judged_120 : decode cX8_judged 120 = .ok (.ifCond .ne 7, 3) := by decide +kernel
theorem dX8_judged_123 : decode cX8_judged 123 = .ok (.iconst 2, 1) := by decide +kernel
theorem dX8_judged_124 : decode cX8_judged 124 = .ok (.goto 17, 3) := by decide +kernel
theorem dX8_judged_127 : decode cX8_judged 127 = .ok (.iload_n 1, 1) := by decide +kernel
theorem dX8_judged_128 : decode cX8_judged 128 = .ok (.iconst 1, 1) := by decide +kernel
theorem dX8_judged_129 : decode cX8_judged 129 = .ok (.if_icmp .ne 10, 3) := by decide +kernel
theorem dX8_judged_132 : decode cX8_judged 132 = .ok (.aload_n 0, 1) := by decide +kernel
theorem dX8_judged_133 : decode cX8_judged 133 = .ok (.getfield 93, 3) := by decide +kernel
theorem dX8_judged_136 : decode cX8_judged 136 = .ok (.goto 5, 3) := by decide +kernel
theorem dX8_judged_139 : decode cX8_judged 139 = .ok (.bipush (-9), 2) := by decide +kernel
theorem dX8_judged_141 : decode cX8_judged 141 = .ok (.ireturn, 1) := by decide +kernel
theorem dX8_judged_142 : decode cX8_judged 142 = .ok (.aload_n 0, 1) := by decide +kernel
theorem dX8_judged_143 : decode cX8_judged 143 = .ok (.aload_n 0, 1) := by decide +kernel
theorem dX8_judged_144 : decode cX8_judged 144 = .ok (.getfield 32, 3) := by decide +kernel
theorem dX8_judged_147 : decode cX8_judged 147 = .ok (.bipush 35, 2) := by decide +kernel
theorem dX8_judged_149 : decode cX8_judged 149 = .ok (.iaload, 1) := by decide +kernel
theorem dX8_judged_150 : decode cX8_judged 150 = .ok (.invokevirtual 210, 3) := by decide +kernel
theorem dX8_judged_153 : decode cX8_judged 153 = .ok (.pop, 1) := by decide +kernel
theorem dX8_judged_154 : decode cX8_judged 154 = .ok (.iload_n 1, 1) := by decide +kernel
theorem dX8_judged_155 : decode cX8_judged 155 = .ok (.ifCond .ne 7, 3) := by decide +kernel
theorem dX8_judged_158 : decode cX8_judged 158 = .ok (.iconst 0, 1) := by decide +kernel
theorem dX8_judged_159 : decode cX8_judged 159 = .ok (.goto 21, 3) := by decide +kernel
theorem dX8_judged_162 : decode cX8_judged 162 = .ok (.iload_n 1, 1) := by decide +kernel
theorem dX8_judged_163 : decode cX8_judged 163 = .ok (.iconst 1, 1) := by decide +kernel
theorem dX8_judged_164 : decode cX8_judged 164 = .ok (.if_icmp .ne 8, 3) := by decide +kernel
theorem dX8_judged_167 : decode cX8_judged 167 = .ok (.bipush (-9), 2) := by decide +kernel
theorem dX8_judged_169 : decode cX8_judged 169 = .ok (.goto 11, 3) := by decide +kernel
theorem dX8_judged_172 : decode cX8_judged 172 = .ok (.iload_n 2, 1) := by decide +kernel
theorem dX8_judged_173 : decode cX8_judged 173 = .ok (.aload_n 0, 1) := by decide +kernel
theorem dX8_judged_174 : decode cX8_judged 174 = .ok (.getfield 56, 3) := by decide +kernel
theorem dX8_judged_177 : decode cX8_judged 177 = .ok (.iconst 0, 1) := by decide +kernel
theorem dX8_judged_178 : decode cX8_judged 178 = .ok (.iaload, 1) := by decide +kernel
theorem dX8_judged_179 : decode cX8_judged 179 = .ok (.isub, 1) := by decide +kernel
theorem dX8_judged_180 : decode cX8_judged 180 = .ok (.ireturn, 1) := by decide +kernel
theorem dX8_finds_0 : decode cX8_finds 0 = .ok (.aload_n 0, 1) := by decide +kernel
theorem dX8_finds_1 : decode cX8_finds 1 = .ok (.aload_n 0, 1) := by decide +kernel
theorem dX8_finds_2 : decode cX8_finds 2 = .ok (.getfield 220, 3) := by decide +kernel
theorem dX8_finds_5 : decode cX8_finds 5 = .ok (.ifCond .ne 7, 3) := by decide +kernel
theorem dX8_finds_8 : decode cX8_finds 8 = .ok (.iload_n 1, 1) := by decide +kernel
theorem dX8_finds_9 : decode cX8_finds 9 = .ok (.goto 7, 3) := by decide +kernel
theorem dX8_finds_12 : decode cX8_finds 12 = .ok (.aload_n 0, 1) := by decide +kernel
theorem dX8_finds_13 : decode cX8_finds 13 = .ok (.getfield 223, 3) := by decide +kernel
theorem dX8_finds_16 : decode cX8_finds 16 = .ok (.putfield 223, 3) := by decide +kernel
theorem dX8_finds_19 : decode cX8_finds 19 = .ok (.aload_n 0, 1) := by decide +kernel
theorem dX8_finds_20 : decode cX8_finds 20 = .ok (.iload_n 1, 1) := by decide +kernel
theorem dX8_finds_21 : decode cX8_finds 21 = .ok (.putfield 226, 3) := by decide +kernel
theorem dX8_finds_24 : decode cX8_finds 24 = .ok (.aload_n 0, 1) := by decide +kernel
theorem dX8_finds_25 : decode cX8_finds 25 = .ok (.dup, 1) := by decide +kernel
theorem dX8_finds_26 : decode cX8_finds 26 = .ok (.getfield 220, 3) := by decide +kernel
theorem dX8_finds_29 : decode cX8_finds 29 = .ok (.iconst 1, 1) := by decide +kernel
theorem dX8_finds_30 : decode cX8_finds 30 = .ok (.iadd, 1) := by decide +kernel
theorem dX8_finds_31 : decode cX8_finds 31 = .ok (.putfield 220, 3) := by decide +kernel
theorem dX8_finds_34 : decode cX8_finds 34 = .ok (.return_, 1) := by decide +kernel
theorem dX8_found_0 : decode cX8_found 0 = .ok (.iload_n 1, 1) := by decide +kernel
theorem dX8_found_1 : decode cX8_found 1 = .ok (.ifCond .ne 10, 3) := by decide +kernel
theorem dX8_found_4 : decode cX8_found 4 = .ok (.aload_n 0, 1) := by decide +kernel
theorem dX8_found_5 : decode cX8_found 5 = .ok (.getfield 220, 3) := by decide +kernel
theorem dX8_found_8 : decode cX8_found 8 = .ok (.goto 31, 3) := by decide +kernel
theorem dX8_found_11 : decode cX8_found 11 = .ok (.aload_n 0, 1) := by decide +kernel
theorem dX8_found_12 : decode cX8_found 12 = .ok (.getfield 220, 3) := by decide +kernel
theorem dX8_found_15 : decode cX8_found 15 = .ok (.ifCond .ne 8, 3) := by decide +kernel
theorem dX8_found_18 : decode cX8_found 18 = .ok (.bipush (-9), 2) := by decide +kernel
theorem dX8_found_20 : decode cX8_found 20 = .ok (.goto 19, 3) := by decide +kernel
theorem dX8_found_23 : decode cX8_found 23 = .ok (.iload_n 1, 1) := by decide +kernel
theorem dX8_found_24 : decode cX8_found 24 = .ok (.iconst 1, 1) := by decide +kernel
theorem dX8_found_25 : decode cX8_found 25 = .ok (.if_icmp .ne 10, 3) := by decide +kernel
theorem dX8_found_28 : decode cX8_found 28 = .ok (.aload_n 0, 1) := by decide +kernel
theorem dX8_found_29 : decode cX8_found 29 = .ok (.getfield 223, 3) := by decide +kernel
theorem dX8_found_32 : decode cX8_found 32 = .ok (.goto 7, 3) := by decide +kernel
theorem dX8_found_35 : decode cX8_found 35 = .ok (.aload_n 0, 1) := by decide +kernel
theorem dX8_found_36 : decode cX8_found 36 = .ok (.getfield 226, 3) := by decide +kernel
theorem dX8_found_39 : decode cX8_found 39 = .ok (.ireturn, 1) := by decide +kernel
theorem dX8_alike_0 : decode cX8_alike 0 = .ok (.iload_n 1, 1) := by decide +kernel
theorem dX8_alike_1 : decode cX8_alike 1 = .ok (.iconst 0, 1) := by decide +kernel
theorem dX8_alike_2 : decode cX8_alike 2 = .ok (.iconst 2, 1) := by decide +kernel
theorem dX8_alike_3 : decode cX8_alike 3 = .ok (.invokestatic 99, 3) := by decide +kernel
theorem dX8_alike_6 : decode cX8_alike 6 = .ok (.ifCond .ne 5, 3) := by decide +kernel
theorem dX8_alike_9 : decode cX8_alike 9 = .ok (.iconst (-1), 1) := by decide +kernel
theorem dX8_alike_10 : decode cX8_alike 10 = .ok (.ireturn, 1) := by decide +kernel
theorem dX8_alike_11 : decode cX8_alike 11 = .ok (.aload_n 0, 1) := by decide +kernel
theorem dX8_alike_12 : decode cX8_alike 12 = .ok (.aload_n 0, 1) := by decide +kernel
theorem dX8_alike_13 : decode cX8_alike 13 = .ok (.getfield 32, 3) := by decide +kernel
theorem dX8_alike_16 : decode cX8_alike 16 = .ok (.bipush 35, 2) := by decide +kernel
theorem dX8_alike_18 : decode cX8_alike 18 = .ok (.iaload, 1) := by decide +kernel
theorem dX8_alike_19 : decode cX8_alike 19 = .ok (.invokevirtual 210, 3) := by decide +kernel
theorem dX8_alike_22 : decode cX8_alike 22 = .ok (.ifCond .ne 6, 3) := by decide +kernel
theorem dX8_alike_25 : decode cX8_alike 25 = .ok (.bipush (-9), 2) := by decide +kernel
theorem dX8_alike_27 : decode cX8_alike 27 = .ok (.ireturn, 1) := by decide +kernel
theorem dX8_alike_28 : decode cX8_alike 28 = .ok (.aload_n 0, 1) := by decide +kernel
theorem dX8_alike_29 : decode cX8_alike 29 = .ok (.getfield 183, 3) := by decide +kernel
theorem dX8_alike_32 : decode cX8_alike 32 = .ok (.istore_n 2, 1) := by decide +kernel
theorem dX8_alike_33 : decode cX8_alike 33 = .ok (.iconst 0, 1) := by decide +kernel
theorem dX8_alike_34 : decode cX8_alike 34 = .ok (.istore_n 3, 1) := by decide +kernel
theorem dX8_alike_35 : decode cX8_alike 35 = .ok (.iload_n 3, 1) := by decide +kernel
theorem dX8_alike_36 : decode cX8_alike 36 = .ok (.iload_n 2, 1) := by decide +kernel
theorem dX8_alike_37 : decode cX8_alike 37 = .ok (.if_icmp .ge 21, 3) := by decide +kernel
theorem dX8_alike_40 : decode cX8_alike 40 = .ok (.aload_n 0, 1) := by decide +kernel
theorem dX8_alike_41 : decode cX8_alike 41 = .ok (.getfield 83, 3) := by decide +kernel
theorem dX8_alike_44 : decode cX8_alike 44 = .ok (.iload_n 3, 1) := by decide +kernel
theorem dX8_alike_45 : decode cX8_alike 45 = .ok (.aload_n 0, 1) := by decide +kernel
theorem dX8_alike_46 : decode cX8_alike 46 = .ok (.getfield 65, 3) := by decide +kernel
theorem dX8_alike_49 : decode cX8_alike 49 = .ok (.iload_n 3, 1) := by decide +kernel
theorem dX8_alike_50 : decode cX8_alike 50 = .ok (.iaload, 1) := by decide +kernel
theorem dX8_alike_51 : decode cX8_alike 51 = .ok (.iastore, 1) := by decide +kernel
theorem dX8_alike_52 : decode cX8_alike 52 = .ok (.iinc 3 1, 3) := by decide +kernel
theorem dX8_alike_55 : decode cX8_alike 55 = .ok (.goto (-20), 3) := by decide +kernel
theorem dX8_alike_58 : decode cX8_alike 58 = .ok (.aload_n 0, 1) := by decide +kernel
theorem dX8_alike_59 : decode cX8_alike 59 = .ok (.iconst 0, 1) := by decide +kernel
theorem dX8_alike_60 : decode cX8_alike 60 = .ok (.putfield 220, 3) := by decide +kernel
theorem dX8_alike_63 : decode cX8_alike 63 = .ok (.bipush 10, 2) := by decide +kernel
theorem dX8_alike_65 : decode cX8_alike 65 = .ok (.istore_n 3, 1) := by decide +kernel
theorem dX8_alike_66 : decode cX8_alike 66 = .ok (.iload_n 3, 1) := by decide +kernel
theorem dX8_alike_67 : decode cX8_alike 67 = .ok (.sipush 200, 3) := by decide +kernel
theorem dX8_alike_70 : decode cX8_alike 70 = .ok (.if_icmp .gt 86, 3) := by decide +kernel
theorem dX8_alike_73 : decode cX8_alike 73 = .ok (.aload_n 0, 1) := by decide +kernel
theorem dX8_alike_74 : decode cX8_alike 74 = .ok (.iload_n 3, 1) := by decide +kernel
theorem dX8_alike_75 : decode cX8_alike 75 = .ok (.invokevirtual 210, 3) := by decide +kernel
theorem dX8_alike_78 : decode cX8_alike 78 = .ok (.ifCond .eq 15, 3) := by decide +kernel
theorem dX8_alike_81 : decode cX8_alike 81 = .ok (.aload_n 0, 1) := by decide +kernel
theorem dX8_alike_82 : decode cX8_alike 82 = .ok (.getfield 183, 3) := by decide +kernel
theorem dX8_alike_85 : decode cX8_alike 85 = .ok (.iload_n 2, 1) := by decide +kernel
theorem dX8_alike_86 : decode cX8_alike 86 = .ok (.if_icmp .ne 7, 3) := by decide +kernel
theorem dX8_alike_89 : decode cX8_alike 89 = .ok (.iconst 1, 1) := by decide +kernel
theorem dX8_alike_90 : decode cX8_alike 90 = .ok (.goto 4, 3) := by decide +kernel
theorem dX8_alike_93 : decode cX8_alike 93 = .ok (.iconst 0, 1) := by decide +kernel
theorem dX8_alike_94 : decode cX8_alike 94 = .ok (.istore 4, 2) := by decide +kernel
theorem dX8_alike_96 : decode cX8_alike 96 = .ok (.iconst 0, 1) := by decide +kernel
theorem dX8_alike_97 : decode cX8_alike 97 = .ok (.istore 5, 2) := by decide +kernel
theorem dX8_alike_99 : decode cX8_alike 99 = .ok (.iload 5, 2) := by decide +kernel
theorem dX8_alike_101 : decode cX8_alike 101 = .ok (.iload_n 2, 1) := by decide +kernel
theorem dX8_alike_102 : decode cX8_alike 102 = .ok (.if_icmp .ge 38, 3) := by decide +kernel
theorem dX8_alike_105 : decode cX8_alike 105 = .ok (.iload 4, 2) := by decide +kernel
theorem dX8_alike_107 : decode cX8_alike 107 = .ok (.ifCond .eq 33, 3) := by decide +kernel
theorem dX8_alike_110 : decode cX8_alike 110 = .ok (.aload_n 0, 1) := by decide +kernel
theorem dX8_alike_111 : decode cX8_alike 111 = .ok (.getfield 65, 3) := by decide +kernel
theorem dX8_alike_114 : decode cX8_alike 114 = .ok (.iload 5, 2) := by decide +kernel
theorem dX8_alike_116 : decode cX8_alike 116 = .ok (.iaload, 1) := by decide +kernel
theorem dX8_alike_117 : decode cX8_alike 117 = .ok (.aload_n 0, 1) := by decide +kernel
theorem dX8_alike_118 : decode cX8_alike 118 = .ok (.getfield 83, 3) := by decide +kernel
theorem dX8_alike_121 : decode cX8_alike 121 = .ok (.iload 5, 2) := by decide +kernel
theorem dX8_alike_123 : decode cX8_alike 123 = .ok (.iaload, 1) := by decide +kernel
theorem dX8_alike_124 : decode cX8_alike 124 = .ok (.if_icmp .ne 7, 3) := by decide +kernel
theorem dX8_alike_127 : decode cX8_alike 127 = .ok (.iconst 1, 1) := by decide +kernel
theorem dX8_alike_128 : decode cX8_alike 128 = .ok (.goto 4, 3) := by decide +kernel
theorem dX8_alike_131 : decode cX8_alike 131 = .ok (.iconst 0, 1) := by decide +kernel
theorem dX8_alike_132 : decode cX8_alike 132 = .ok (.istore 4, 2) := by decide +kernel
theorem dX8_alike_134 : decode cX8_alike 134 = .ok (.iinc 5 1, 3) := by decide +kernel
theorem dX8_alike_137 : decode cX8_alike 137 = .ok (.goto (-38), 3) := by decide +kernel
theorem dX8_alike_140 : decode cX8_alike 140 = .ok (.iload 4, 2) := by decide +kernel
theorem dX8_alike_142 : decode cX8_alike 142 = .ok (.ifCond .eq 8, 3) := by decide +kernel
theorem dX8_alike_145 : decode cX8_alike 145 = .ok (.aload_n 0, 1) := by decide +kernel
theorem dX8_alike_146 : decode cX8_alike 146 = .ok (.iload_n 3, 1) := by decide +kernel
theorem dX8_alike_147 : decode cX8_alike 147 = .ok (.invokevirtual 229, 3) := by decide +kernel
theorem dX8_alike_150 : decode cX8_alike 150 = .ok (.iinc 3 1, 3) := by decide +kernel
theorem dX8_alike_153 : decode cX8_alike 153 = .ok (.goto (-87), 3) := by decide +kernel
theorem dX8_alike_156 : decode cX8_alike 156 = .ok (.aload_n 0, 1) := by decide +kernel
theorem dX8_alike_157 : decode cX8_alike 157 = .ok (.iload_n 1, 1) := by decide +kernel
theorem dX8_alike_158 : decode cX8_alike 158 = .ok (.invokevirtual 233, 3) := by decide +kernel
theorem dX8_alike_161 : decode cX8_alike 161 = .ok (.ireturn, 1) := by decide +kernel
theorem dX8_sees_0 : decode cX8_sees 0 = .ok (.aload_n 0, 1) := by decide +kernel
theorem dX8_sees_1 : decode cX8_sees 1 = .ok (.iload_n 1, 1) := by decide +kernel
theorem dX8_sees_2 : decode cX8_sees 2 = .ok (.invokevirtual 134, 3) := by decide +kernel
theorem dX8_sees_5 : decode cX8_sees 5 = .ok (.ifCond .eq 12, 3) := by decide +kernel
theorem dX8_sees_8 : decode cX8_sees 8 = .ok (.iload_n 2, 1) := by decide +kernel
theorem dX8_sees_9 : decode cX8_sees 9 = .ok (.iconst 0, 1) := by decide +kernel
theorem dX8_sees_10 : decode cX8_sees 10 = .ok (.iconst 1, 1) := by decide +kernel
theorem dX8_sees_11 : decode cX8_sees 11 = .ok (.invokestatic 99, 3) := by decide +kernel
theorem dX8_sees_14 : decode cX8_sees 14 = .ok (.ifCond .ne 5, 3) := by decide +kernel
theorem dX8_sees_17 : decode cX8_sees 17 = .ok (.iconst (-1), 1) := by decide +kernel
theorem dX8_sees_18 : decode cX8_sees 18 = .ok (.ireturn, 1) := by decide +kernel
theorem dX8_sees_19 : decode cX8_sees 19 = .ok (.aload_n 0, 1) := by decide +kernel
theorem dX8_sees_20 : decode cX8_sees 20 = .ok (.getfield 96, 3) := by decide +kernel
theorem dX8_sees_23 : decode cX8_sees 23 = .ok (.bipush 6, 2) := by decide +kernel
theorem dX8_sees_25 : decode cX8_sees 25 = .ok (.if_icmp .ne 6, 3) := by decide +kernel
theorem dX8_sees_28 : decode cX8_sees 28 = .ok (.bipush (-3), 2) := by decide +kernel
theorem dX8_sees_30 : decode cX8_sees 30 = .ok (.ireturn, 1) := by decide +kernel
theorem dX8_sees_31 : decode cX8_sees 31 = .ok (.aload_n 0, 1) := by decide +kernel
theorem dX8_sees_32 : decode cX8_sees 32 = .ok (.getfield 47, 3) := by decide +kernel
theorem dX8_sees_35 : decode cX8_sees 35 = .ok (.aload_n 0, 1) := by decide +kernel
theorem dX8_sees_36 : decode cX8_sees 36 = .ok (.getfield 96, 3) := by decide +kernel
theorem dX8_sees_39 : decode cX8_sees 39 = .ok (.iload_n 1, 1) := by decide +kernel
theorem dX8_sees_40 : decode cX8_sees 40 = .ok (.iastore, 1) := by decide +kernel
theorem dX8_sees_41 : decode cX8_sees 41 = .ok (.aload_n 0, 1) := by decide +kernel
theorem dX8_sees_42 : decode cX8_sees 42 = .ok (.getfield 50, 3) := by decide +kernel
theorem dX8_sees_45 : decode cX8_sees 45 = .ok (.aload_n 0, 1) := by decide +kernel
theorem dX8_sees_46 : decode cX8_sees 46 = .ok (.getfield 96, 3) := by decide +kernel
theorem dX8_sees_49 : decode cX8_sees 49 = .ok (.iload_n 2, 1) := by decide +kernel
theorem dX8_sees_50 : decode cX8_sees 50 = .ok (.iastore, 1) := by decide +kernel
theorem dX8_sees_51 : decode cX8_sees 51 = .ok (.aload_n 0, 1) := by decide +kernel
theorem dX8_sees_52 : decode cX8_sees 52 = .ok (.dup, 1) := by decide +kernel
theorem dX8_sees_53 : decode cX8_sees 53 = .ok (.getfield 96, 3) := by decide +kernel
theorem dX8_sees_56 : decode cX8_sees 56 = .ok (.iconst 1, 1) := by decide +kernel
theorem dX8_sees_57 : decode cX8_sees 57 = .ok (.iadd, 1) := by decide +kernel
theorem dX8_sees_58 : decode cX8_sees 58 = .ok (.putfield 96, 3) := by decide +kernel
theorem dX8_sees_61 : decode cX8_sees 61 = .ok (.aload_n 0, 1) := by decide +kernel
theorem dX8_sees_62 : decode cX8_sees 62 = .ok (.getfield 96, 3) := by decide +kernel
theorem dX8_sees_65 : decode cX8_sees 65 = .ok (.ireturn, 1) := by decide +kernel
theorem dX8_forget_0 : decode cX8_forget 0 = .ok (.aload_n 0, 1) := by decide +kernel
theorem dX8_forget_1 : decode cX8_forget 1 = .ok (.getfield 96, 3) := by decide +kernel
theorem dX8_forget_4 : decode cX8_forget 4 = .ok (.istore_n 1, 1) := by decide +kernel
theorem dX8_forget_5 : decode cX8_forget 5 = .ok (.aload_n 0, 1) := by decide +kernel
theorem dX8_forget_6 : decode cX8_forget 6 = .ok (.iconst 0, 1) := by decide +kernel
theorem dX8_forget_7 : decode cX8_forget 7 = .ok (.putfield 96, 3) := by decide +kernel
theorem dX8_forget_10 : decode cX8_forget 10 = .ok (.iload_n 1, 1) := by decide +kernel
theorem dX8_forget_11 : decode cX8_forget 11 = .ok (.ireturn, 1) := by decide +kernel
theorem dX8_isBegun_0 : decode cX8_isBegun 0 = .ok (.iconst 0, 1) := by decide +kernel
theorem dX8_isBegun_1 : decode cX8_isBegun 1 = .ok (.istore_n 2, 1) := by decide +kernel
theorem dX8_isBegun_2 : decode cX8_isBegun 2 = .ok (.iconst 0, 1) := by decide +kernel
theorem dX8_isBegun_3 : decode cX8_isBegun 3 = .ok (.istore_n 3, 1) := by decide +kernel
theorem dX8_isBegun_4 : decode cX8_isBegun 4 = .ok (.iload_n 3, 1) := by decide +kernel
theorem dX8_isBegun_5 : decode cX8_isBegun 5 = .ok (.aload_n 0, 1) := by decide +kernel
theorem dX8_isBegun_6 : decode cX8_isBegun 6 = .ok (.getfield 183, 3) := by decide +kernel
theorem dX8_isBegun_9 : decode cX8_isBegun 9 = .ok (.if_icmp .ge 37, 3) := by decide +kernel
theorem dX8_isBegun_12 : decode cX8_isBegun 12 = .ok (.iload_n 2, 1) := by decide +kernel
theorem dX8_isBegun_13 : decode cX8_isBegun 13 = .ok (.ifCond .ne 21, 3) := by decide +kernel
theorem dX8_isBegun_16 : decode cX8_isBegun 16 = .ok (.aload_n 0, 1) := by decide +kernel
theorem dX8_isBegun_17 : decode cX8_isBegun 17 = .ok (.aload_n 0, 1) := by decide +kernel
theorem dX8_isBegun_18 : decode cX8_isBegun 18 = .ok (.iload_n 3, 1) := by decide +kernel
theorem dX8_isBegun_19 : decode cX8_isBegun 19 = .ok (.invokevirtual 186, 3) := by decide +kernel
theorem dX8_isBegun_22 : decode cX8_isBegun 22 = .ok (.invokevirtual 160, 3) := by decide +kernel
theorem dX8_isBegun_25 : decode cX8_isBegun 25 = .ok (.aload_n 0, 1) := by decide +kernel
theorem dX8_isBegun_26 : decode cX8_isBegun 26 = .ok (.getfield 16, 3) := by decide +kernel
theorem dX8_isBegun_29 : decode cX8_isBegun 29 = .ok (.iload_n 1, 1) := by decide +kernel
theorem dX8_isBegun_30 : decode cX8_isBegun 30 = .ok (.iaload, 1) := by decide +kernel
theorem dX8_isBegun_31 : decode cX8_isBegun 31 = .ok (.if_icmp .ne 7, 3) := by decide +kernel
theorem dX8_isBegun_34 : decode cX8_isBegun 34 = .ok (.iconst 1, 1) := by decide +kernel
theorem dX8_isBegun_35 : decode cX8_isBegun 35 = .ok (.goto 4, 3) := by decide +kernel
theorem dX8_isBegun_38 : decode cX8_isBegun 38 = .ok (.iconst 0, 1) := by decide +kernel
theorem dX8_isBegun_39 : decode cX8_isBegun 39 = .ok (.istore_n 2, 1) := by decide +kernel
theorem dX8_isBegun_40 : decode cX8_isBegun 40 = .ok (.iinc 3 1, 3) := by decide +kernel
theorem dX8_isBegun_43 : decode cX8_isBegun 43 = .ok (.goto (-39), 3) := by decide +kernel
theorem dX8_isBegun_46 : decode cX8_isBegun 46 = .ok (.iload_n 2, 1) := by decide +kernel
theorem dX8_isBegun_47 : decode cX8_isBegun 47 = .ok (.ireturn, 1) := by decide +kernel
theorem dX8_unseen_0 : decode cX8_unseen 0 = .ok (.iload_n 1, 1) := by decide +kernel
theorem dX8_unseen_1 : decode cX8_unseen 1 = .ok (.iconst 0, 1) := by decide +kernel
theorem dX8_unseen_2 : decode cX8_unseen 2 = .ok (.iconst 2, 1) := by decide +kernel
theorem dX8_unseen_3 : decode cX8_unseen 3 = .ok (.invokestatic 99, 3) := by decide +kernel
theorem dX8_unseen_6 : decode cX8_unseen 6 = .ok (.ifCond .ne 5, 3) := by decide +kernel
theorem dX8_unseen_9 : decode cX8_unseen 9 = .ok (.iconst (-1), 1) := by decide +kernel
theorem dX8_unseen_10 : decode cX8_unseen 10 = .ok (.ireturn, 1) := by decide +kernel
theorem dX8_unseen_11 : decode cX8_unseen 11 = .ok (.aload_n 0, 1) := by decide +kernel
theorem dX8_unseen_12 : decode cX8_unseen 12 = .ok (.iconst 0, 1) := by decide +kernel
theorem dX8_unseen_13 : decode cX8_unseen 13 = .ok (.putfield 220, 3) := by decide +kernel
theorem dX8_unseen_16 : decode cX8_unseen 16 = .ok (.bipush 10, 2) := by decide +kernel
theorem dX8_unseen_18 : decode cX8_unseen 18 = .ok (.istore_n 2, 1) := by decide +kernel
theorem dX8_unseen_19 : decode cX8_unseen 19 = .ok (.iload_n 2, 1) := by decide +kernel
theorem dX8_unseen_20 : decode cX8_unseen 20 = .ok (.sipush 200, 3) := by decide +kernel
theorem dX8_unseen_23 : decode cX8_unseen 23 = .ok (.if_icmp .gt 82, 3) := by decide +kernel
theorem dX8_unseen_26 : decode cX8_unseen 26 = .ok (.aload_n 0, 1) := by decide +kernel
theorem dX8_unseen_27 : decode cX8_unseen 27 = .ok (.iload_n 2, 1) := by decide +kernel
theorem dX8_unseen_28 : decode cX8_unseen 28 = .ok (.invokevirtual 210, 3) := by decide +kernel
theorem dX8_unseen_31 : decode cX8_unseen 31 = .ok (.istore_n 3, 1) := by decide +kernel
theorem dX8_unseen_32 : decode cX8_unseen 32 = .ok (.iconst 0, 1) := by decide +kernel
theorem dX8_unseen_33 : decode cX8_unseen 33 = .ok (.istore 4, 2) := by decide +kernel
theorem dX8_unseen_35 : decode cX8_unseen 35 = .ok (.iload 4, 2) := by decide +kernel
theorem dX8_unseen_37 : decode cX8_unseen 37 = .ok (.aload_n 0, 1) := by decide +kernel
theorem dX8_unseen_38 : decode cX8_unseen 38 = .ok (.getfield 96, 3) := by decide +kernel
theorem dX8_unseen_41 : decode cX8_unseen 41 = .ok (.if_icmp .ge 49, 3) := by decide +kernel
theorem dX8_unseen_44 : decode cX8_unseen 44 = .ok (.iload_n 3, 1) := by decide +kernel
theorem dX8_unseen_45 : decode cX8_unseen 45 = .ok (.ifCond .eq 45, 3) := by decide +kernel
theorem dX8_unseen_48 : decode cX8_unseen 48 = .ok (.aload_n 0, 1) := by decide +kernel
theorem dX8_unseen_49 : decode cX8_unseen 49 = .ok (.aload_n 0, 1) := by decide +kernel
theorem dX8_unseen_50 : decode cX8_unseen 50 = .ok (.getfield 47, 3) := by decide +kernel
theorem dX8_unseen_53 : decode cX8_unseen 53 = .ok (.iload 4, 2) := by decide +kernel
theorem dX8_unseen_55 : decode cX8_unseen 55 = .ok (.iaload, 1) := by decide +kernel
theorem dX8_unseen_56 : decode cX8_unseen 56 = .ok (.invokevirtual 236, 3) := by decide +kernel
theorem dX8_unseen_59 : decode cX8_unseen 59 = .ok (.aload_n 0, 1) := by decide +kernel
theorem dX8_unseen_60 : decode cX8_unseen 60 = .ok (.getfield 50, 3) := by decide +kernel
theorem dX8_unseen_63 : decode cX8_unseen 63 = .ok (.iload 4, 2) := by decide +kernel
theorem dX8_unseen_65 : decode cX8_unseen 65 = .ok (.iaload, 1) := by decide +kernel
theorem dX8_unseen_66 : decode cX8_unseen 66 = .ok (.iconst 1, 1) := by decide +kernel
theorem dX8_unseen_67 : decode cX8_unseen 67 = .ok (.if_icmp .ne 7, 3) := by decide +kernel
theorem dX8_unseen_70 : decode cX8_unseen 70 = .ok (.iconst 1, 1) := by decide +kernel
theorem dX8_unseen_71 : decode cX8_unseen 71 = .ok (.goto 4, 3) := by decide +kernel
theorem dX8_unseen_74 : decode cX8_unseen 74 = .ok (.iconst 0, 1) := by decide +kernel
theorem dX8_unseen_75 : decode cX8_unseen 75 = .ok (.if_icmp .ne 7, 3) := by decide +kernel
theorem dX8_unseen_78 : decode cX8_unseen 78 = .ok (.iconst 1, 1) := by decide +kernel
theorem dX8_unseen_79 : decode cX8_unseen 79 = .ok (.goto 4, 3) := by decide +kernel
theorem dX8_unseen_82 : decode cX8_unseen 82 = .ok (.iconst 0, 1) := by decide +kernel
theorem dX8_unseen_83 : decode cX8_unseen 83 = .ok (.istore_n 3, 1) := by decide +kernel
theorem dX8_unseen_84 : decode cX8_unseen 84 = .ok (.iinc 4 1, 3) := by decide +kernel
theorem dX8_unseen_87 : decode cX8_unseen 87 = .ok (.goto (-52), 3) := by decide +kernel
theorem dX8_unseen_90 : decode cX8_unseen 90 = .ok (.iload_n 3, 1) := by decide +kernel
theorem dX8_unseen_91 : decode cX8_unseen 91 = .ok (.ifCond .eq 8, 3) := by decide +kernel
theorem dX8_unseen_94 : decode cX8_unseen 94 = .ok (.aload_n 0, 1) := by decide +kernel
theorem dX8_unseen_95 : decode cX8_unseen 95 = .ok (.iload_n 2, 1) := by decide +kernel
theorem dX8_unseen_96 : decode cX8_unseen 96 = .ok (.invokevirtual 229, 3) := by decide +kernel
theorem dX8_unseen_99 : decode cX8_unseen 99 = .ok (.iinc 2 1, 3) := by decide +kernel
theorem dX8_unseen_102 : decode cX8_unseen 102 = .ok (.goto (-83), 3) := by decide +kernel
theorem dX8_unseen_105 : decode cX8_unseen 105 = .ok (.aload_n 0, 1) := by decide +kernel
theorem dX8_unseen_106 : decode cX8_unseen 106 = .ok (.iload_n 1, 1) := by decide +kernel
theorem dX8_unseen_107 : decode cX8_unseen 107 = .ok (.invokevirtual 233, 3) := by decide +kernel
theorem dX8_unseen_110 : decode cX8_unseen 110 = .ok (.ireturn, 1) := by decide +kernel
theorem dX8_keep_0 : decode cX8_keep 0 = .ok (.iload_n 1, 1) := by decide +kernel
theorem dX8_keep_1 : decode cX8_keep 1 = .ok (.iconst 0, 1) := by decide +kernel
theorem dX8_keep_2 : decode cX8_keep 2 = .ok (.iconst 1, 1) := by decide +kernel
theorem dX8_keep_3 : decode cX8_keep 3 = .ok (.invokestatic 99, 3) := by decide +kernel
theorem dX8_keep_6 : decode cX8_keep 6 = .ok (.ifCond .ne 5, 3) := by decide +kernel
theorem dX8_keep_9 : decode cX8_keep 9 = .ok (.iconst (-1), 1) := by decide +kernel
theorem dX8_keep_10 : decode cX8_keep 10 = .ok (.ireturn, 1) := by decide +kernel
theorem dX8_keep_11 : decode cX8_keep 11 = .ok (.iconst 0, 1) := by decide +kernel
theorem dX8_keep_12 : decode cX8_keep 12 = .ok (.istore_n 2, 1) := by decide +kernel
theorem dX8_keep_13 : decode cX8_keep 13 = .ok (.iload_n 2, 1) := by decide +kernel
theorem dX8_keep_14 : decode cX8_keep 14 = .ok (.bipush 38, 2) := by decide +kernel
theorem dX8_keep_16 : decode cX8_keep 16 = .ok (.if_icmp .ge 26, 3) := by decide +kernel
theorem dX8_keep_19 : decode cX8_keep 19 = .ok (.aload_n 0, 1) := by decide +kernel
theorem dX8_keep_20 : decode cX8_keep 20 = .ok (.getfield 41, 3) := by decide +kernel
theorem dX8_keep_23 : decode cX8_keep 23 = .ok (.bipush 38, 2) := by decide +kernel
theorem dX8_keep_25 : decode cX8_keep 25 = .ok (.iload_n 1, 1) := by decide +kernel
theorem dX8_keep_26 : decode cX8_keep 26 = .ok (.imul, 1) := by decide +kernel
theorem dX8_keep_27 : decode cX8_keep 27 = .ok (.iload_n 2, 1) := by decide +kernel
theorem dX8_keep_28 : decode cX8_keep 28 = .ok (.iadd, 1) := by decide +kernel
theorem dX8_keep_29 : decode cX8_keep 29 = .ok (.aload_n 0, 1) := by decide +kernel
theorem dX8_keep_30 : decode cX8_keep 30 = .ok (.getfield 32, 3) := by decide +kernel
theorem dX8_keep_33 : decode cX8_keep 33 = .ok (.iload_n 2, 1) := by decide +kernel
theorem dX8_keep_34 : decode cX8_keep 34 = .ok (.iaload, 1) := by decide +kernel
theorem dX8_keep_35 : decode cX8_keep 35 = .ok (.iastore, 1) := by decide +kernel
theorem dX8_keep_36 : decode cX8_keep 36 = .ok (.iinc 2 1, 3) := by decide +kernel
theorem dX8_keep_39 : decode cX8_keep 39 = .ok (.goto (-26), 3) := by decide +kernel
theorem dX8_keep_42 : decode cX8_keep 42 = .ok (.aload_n 0, 1) := by decide +kernel
theorem dX8_keep_43 : decode cX8_keep 43 = .ok (.getfield 38, 3) := by decide +kernel
theorem dX8_keep_46 : decode cX8_keep 46 = .ok (.iload_n 1, 1) := by decide +kernel
theorem dX8_keep_47 : decode cX8_keep 47 = .ok (.iconst 1, 1) := by decide +kernel
theorem dX8_keep_48 : decode cX8_keep 48 = .ok (.bastore, 1) := by decide +kernel
theorem dX8_keep_49 : decode cX8_keep 49 = .ok (.aload_n 0, 1) := by decide +kernel
theorem dX8_keep_50 : decode cX8_keep 50 = .ok (.getfield 32, 3) := by decide +kernel
theorem dX8_keep_53 : decode cX8_keep 53 = .ok (.bipush 35, 2) := by decide +kernel
theorem dX8_keep_55 : decode cX8_keep 55 = .ok (.iaload, 1) := by decide +kernel
theorem dX8_keep_56 : decode cX8_keep 56 = .ok (.ireturn, 1) := by decide +kernel
theorem dX8_back_0 : decode cX8_back 0 = .ok (.iload_n 1, 1) := by decide +kernel
theorem dX8_back_1 : decode cX8_back 1 = .ok (.iconst 0, 1) := by decide +kernel
theorem dX8_back_2 : decode cX8_back 2 = .ok (.iconst 1, 1) := by decide +kernel
theorem dX8_back_3 : decode cX8_back 3 = .ok (.invokestatic 99, 3) := by decide +kernel
theorem dX8_back_6 : decode cX8_back 6 = .ok (.ifCond .ne 5, 3) := by decide +kernel
theorem dX8_back_9 : decode cX8_back 9 = .ok (.iconst (-1), 1) := by decide +kernel
theorem dX8_back_10 : decode cX8_back 10 = .ok (.ireturn, 1) := by decide +kernel
theorem dX8_back_11 : decode cX8_back 11 = .ok (.aload_n 0, 1) := by decide +kernel
theorem dX8_back_12 : decode cX8_back 12 = .ok (.getfield 38, 3) := by decide +kernel
theorem dX8_back_15 : decode cX8_back 15 = .ok (.iload_n 1, 1) := by decide +kernel
theorem dX8_back_16 : decode cX8_back 16 = .ok (.baload, 1) := by decide +kernel
theorem dX8_back_17 : decode cX8_back 17 = .ok (.ifCond .ne 6, 3) := by decide +kernel
theorem dX8_back_20 : decode cX8_back 20 = .ok (.bipush (-2), 2) := by decide +kernel
theorem dX8_back_22 : decode cX8_back 22 = .ok (.ireturn, 1) := by decide +kernel
theorem dX8_back_23 : decode cX8_back 23 = .ok (.iconst 0, 1) := by decide +kernel
theorem dX8_back_24 : decode cX8_back 24 = .ok (.istore_n 2, 1) := by decide +kernel
theorem dX8_back_25 : decode cX8_back 25 = .ok (.iload_n 2, 1) := by decide +kernel
theorem dX8_back_26 : decode cX8_back 26 = .ok (.bipush 38, 2) := by decide +kernel
theorem dX8_back_28 : decode cX8_back 28 = .ok (.if_icmp .ge 26, 3) := by decide +kernel
theorem dX8_back_31 : decode cX8_back 31 = .ok (.aload_n 0, 1) := by decide +kernel
theorem dX8_back_32 : decode cX8_back 32 = .ok (.getfield 32, 3) := by decide +kernel
theorem dX8_back_35 : decode cX8_back 35 = .ok (.iload_n 2, 1) := by decide +kernel
theorem dX8_back_36 : decode cX8_back 36 = .ok (.aload_n 0, 1) := by decide +kernel
theorem dX8_back_37 : decode cX8_back 37 = .ok (.getfield 41, 3) := by decide +kernel
theorem dX8_back_40 : decode cX8_back 40 = .ok (.bipush 38, 2) := by decide +kernel
theorem dX8_back_42 : decode cX8_back 42 = .ok (.iload_n 1, 1) := by decide +kernel
theorem dX8_back_43 : decode cX8_back 43 = .ok (.imul, 1) := by decide +kernel
theorem dX8_back_44 : decode cX8_back 44 = .ok (.iload_n 2, 1) := by decide +kernel
theorem dX8_back_45 : decode cX8_back 45 = .ok (.iadd, 1) := by decide +kernel
theorem dX8_back_46 : decode cX8_back 46 = .ok (.iaload, 1) := by decide +kernel
theorem dX8_back_47 : decode cX8_back 47 = .ok (.iastore, 1) := by decide +kernel
theorem dX8_back_48 : decode cX8_back 48 = .ok (.iinc 2 1, 3) := by decide +kernel
theorem dX8_back_51 : decode cX8_back 51 = .ok (.goto (-26), 3) := by decide +kernel
theorem dX8_back_54 : decode cX8_back 54 = .ok (.aload_n 0, 1) := by decide +kernel
theorem dX8_back_55 : decode cX8_back 55 = .ok (.iconst 0, 1) := by decide +kernel
theorem dX8_back_56 : decode cX8_back 56 = .ok (.putfield 89, 3) := by decide +kernel
theorem dX8_back_59 : decode cX8_back 59 = .ok (.aload_n 0, 1) := by decide +kernel
theorem dX8_back_60 : decode cX8_back 60 = .ok (.getfield 32, 3) := by decide +kernel
theorem dX8_back_63 : decode cX8_back 63 = .ok (.bipush 35, 2) := by decide +kernel
theorem dX8_back_65 : decode cX8_back 65 = .ok (.iaload, 1) := by decide +kernel
theorem dX8_back_66 : decode cX8_back 66 = .ok (.ireturn, 1) := by decide +kernel
theorem dX8_count_0 : decode cX8_count 0 = .ok (.iload_n 1, 1) := by decide +kernel
theorem dX8_count_1 : decode cX8_count 1 = .ok (.tableswitch 106 0 10 #[59, 64, 69, 69, 69, 69, 81, 86, 91, 96, 101], 59) := by decide +kernel
theorem dX8_count_60 : decode cX8_count 60 = .ok (.aload_n 0, 1) := by decide +kernel
theorem dX8_count_61 : decode cX8_count 61 = .ok (.getfield 127, 3) := by decide +kernel
theorem dX8_count_64 : decode cX8_count 64 = .ok (.ireturn, 1) := by decide +kernel
theorem dX8_count_65 : decode cX8_count 65 = .ok (.aload_n 0, 1) := by decide +kernel
theorem dX8_count_66 : decode cX8_count 66 = .ok (.getfield 117, 3) := by decide +kernel
theorem dX8_count_69 : decode cX8_count 69 = .ok (.ireturn, 1) := by decide +kernel
theorem dX8_count_70 : decode cX8_count 70 = .ok (.aload_n 0, 1) := by decide +kernel
theorem dX8_count_71 : decode cX8_count 71 = .ok (.getfield 32, 3) := by decide +kernel
theorem dX8_count_74 : decode cX8_count 74 = .ok (.bipush 34, 2) := by decide +kernel
theorem dX8_count_76 : decode cX8_count 76 = .ok (.iload_n 1, 1) := by decide +kernel
theorem dX8_count_77 : decode cX8_count 77 = .ok (.iadd, 1) := by decide +kernel
theorem dX8_count_78 : decode cX8_count 78 = .ok (.iconst 2, 1) := by decide +kernel
theorem dX8_count_79 : decode cX8_count 79 = .ok (.isub, 1) := by decide +kernel
theorem dX8_count_80 : decode cX8_count 80 = .ok (.iaload, 1) := by decide +kernel
theorem dX8_count_81 : decode cX8_count 81 = .ok (.ireturn, 1) := by decide +kernel
theorem dX8_count_82 : decode cX8_count 82 = .ok (.aload_n 0, 1) := by decide +kernel
theorem dX8_count_83 : decode cX8_count 83 = .ok (.getfield 93, 3) := by decide +kernel
theorem dX8_count_86 : decode cX8_count 86 = .ok (.ireturn, 1) := by decide +kernel
theorem dX8_count_87 : decode cX8_count 87 = .ok (.aload_n 0, 1) := by decide +kernel
theorem dX8_count_88 : decode cX8_count 88 = .ok (.getfield 96, 3) := by decide +kernel
theorem dX8_count_91 : decode cX8_count 91 = .ok (.ireturn, 1) := by decide +kernel
theorem dX8_count_92 : decode cX8_count 92 = .ok (.aload_n 0, 1) := by decide +kernel
theorem dX8_count_93 : decode cX8_count 93 = .ok (.getfield 103, 3) := by decide +kernel
theorem dX8_count_96 : decode cX8_count 96 = .ok (.ireturn, 1) := by decide +kernel
theorem dX8_count_97 : decode cX8_count 97 = .ok (.aload_n 0, 1) := by decide +kernel
theorem dX8_count_98 : decode cX8_count 98 = .ok (.getfield 89, 3) := by decide +kernel
theorem dX8_count_101 : decode cX8_count 101 = .ok (.ireturn, 1) := by decide +kernel
theorem dX8_count_102 : decode cX8_count 102 = .ok (.aload_n 0, 1) := by decide +kernel
theorem dX8_count_103 : decode cX8_count 103 = .ok (.invokevirtual 239, 3) := by decide +kernel
theorem dX8_count_106 : decode cX8_count 106 = .ok (.ireturn, 1) := by decide +kernel
theorem dX8_count_107 : decode cX8_count 107 = .ok (.iconst (-1), 1) := by decide +kernel
theorem dX8_count_108 : decode cX8_count 108 = .ok (.ireturn, 1) := by decide +kernel
theorem dL_law_0 : decode cL_law 0 = .ok (.new 7, 3) := by decide +kernel
theorem dL_law_3 : decode cL_law 3 = .ok (.dup, 1) := by decide +kernel
theorem dL_law_4 : decode cL_law 4 = .ok (.invokespecial 9, 3) := by decide +kernel
theorem dL_law_7 : decode cL_law 7 = .ok (.astore_n 1, 1) := by decide +kernel
theorem dL_law_8 : decode cL_law 8 = .ok (.new 10, 3) := by decide +kernel
theorem dL_law_11 : decode cL_law 11 = .ok (.dup, 1) := by decide +kernel
theorem dL_law_12 : decode cL_law 12 = .ok (.invokespecial 12, 3) := by decide +kernel
theorem dL_law_15 : decode cL_law 15 = .ok (.astore_n 2, 1) := by decide +kernel
theorem dL_law_16 : decode cL_law 16 = .ok (.iconst 0, 1) := by decide +kernel
theorem dL_law_17 : decode cL_law 17 = .ok (.istore_n 3, 1) := by decide +kernel
theorem dL_law_18 : decode cL_law 18 = .ok (.iload_n 3, 1) := by decide +kernel
theorem dL_law_19 : decode cL_law 19 = .ok (.aload_n 0, 1) := by decide +kernel
theorem dL_law_20 : decode cL_law 20 = .ok (.arraylength, 1) := by decide +kernel
theorem dL_law_21 : decode cL_law 21 = .ok (.iconst 4, 1) := by decide +kernel
theorem dL_law_22 : decode cL_law 22 = .ok (.isub, 1) := by decide +kernel
theorem dL_law_23 : decode cL_law 23 = .ok (.if_icmp .gt 739, 3) := by decide +kernel
theorem dL_law_26 : decode cL_law 26 = .ok (.aload_n 0, 1) := by decide +kernel
theorem dL_law_27 : decode cL_law 27 = .ok (.iload_n 3, 1) := by decide +kernel
theorem dL_law_28 : decode cL_law 28 = .ok (.iaload, 1) := by decide +kernel
theorem dL_law_29 : decode cL_law 29 = .ok (.bipush 31, 2) := by decide +kernel
theorem dL_law_31 : decode cL_law 31 = .ok (.iand, 1) := by decide +kernel
theorem dL_law_32 : decode cL_law 32 = .ok (.tableswitch 724 0 23 #[112, 135, 148, 161, 194, 227, 260, 293, 326, 359, 372, 395, 428, 471, 504, 527, 540, 563, 586, 619, 632, 655, 678, 701], 112) := by decide +kernel
theorem dL_law_144 : decode cL_law 144 = .ok (.aload_n 1, 1) := by decide +kernel
theorem dL_law_145 : decode cL_law 145 = .ok (.aload_n 0, 1) := by decide +kernel
theorem dL_law_146 : decode cL_law 146 = .ok (.iload_n 3, 1) := by decide +kernel
theorem dL_law_147 : decode cL_law 147 = .ok (.iconst 1, 1) := by decide +kernel
theorem dL_law_148 : decode cL_law 148 = .ok (.iadd, 1) := by decide +kernel
theorem dL_law_149 : decode cL_law 149 = .ok (.iaload, 1) := by decide +kernel
theorem dL_law_150 : decode cL_law 150 = .ok (.invokevirtual 13, 3) := by decide +kernel
theorem dL_law_153 : decode cL_law 153 = .ok (.aload_n 2, 1) := by decide +kernel
theorem dL_law_154 : decode cL_law 154 = .ok (.aload_n 0, 1) := by decide +kernel
theorem dL_law_155 : decode cL_law 155 = .ok (.iload_n 3, 1) := by decide +kernel
theorem dL_law_156 : decode cL_law 156 = .ok (.iconst 1, 1) := by decide +kernel
theorem dL_law_157 : decode cL_law 157 = .ok (.iadd, 1) := by decide +kernel
theorem dL_law_158 : decode cL_law 158 = .ok (.iaload, 1) := by decide +kernel
theorem dL_law_159 : decode cL_law 159 = .ok (.invokevirtual 17, 3) := by decide +kernel
theorem dL_law_162 : decode cL_law 162 = .ok (.if_icmp .eq 594, 3) := by decide +kernel
theorem dL_law_165 : decode cL_law 165 = .ok (.iconst 0, 1) := by decide +kernel
theorem dL_law_166 : decode cL_law 166 = .ok (.ireturn, 1) := by decide +kernel
theorem dL_law_167 : decode cL_law 167 = .ok (.aload_n 1, 1) := by decide +kernel
theorem dL_law_168 : decode cL_law 168 = .ok (.invokevirtual 18, 3) := by decide +kernel
theorem dL_law_171 : decode cL_law 171 = .ok (.aload_n 2, 1) := by decide +kernel
theorem dL_law_172 : decode cL_law 172 = .ok (.invokevirtual 22, 3) := by decide +kernel
theorem dL_law_175 : decode cL_law 175 = .ok (.if_icmp .eq 581, 3) := by decide +kernel
theorem dL_law_178 : decode cL_law 178 = .ok (.iconst 0, 1) := by decide +kernel
theorem dL_law_179 : decode cL_law 179 = .ok (.ireturn, 1) := by decide +kernel
theorem dL_law_180 : decode cL_law 180 = .ok (.aload_n 1, 1) := by decide +kernel
theorem dL_law_181 : decode cL_law 181 = .ok (.invokevirtual 23, 3) := by decide +kernel
theorem dL_law_184 : decode cL_law 184 = .ok (.aload_n 2, 1) := by decide +kernel
theorem dL_law_185 : decode cL_law 185 = .ok (.invokevirtual 26, 3) := by decide +kernel
theorem dL_law_188 : decode cL_law 188 = .ok (.if_icmp .eq 568, 3) := by decide +kernel
theorem dL_law_191 : decode cL_law 191 = .ok (.iconst 0, 1) := by decide +kernel
theorem dL_law_192 : decode cL_law 192 = .ok (.ireturn, 1) := by decide +kernel
theorem dL_law_193 : decode cL_law 193 = .ok (.aload_n 1, 1) := by decide +kernel
theorem dL_law_194 : decode cL_law 194 = .ok (.aload_n 0, 1) := by decide +kernel
theorem dL_law_195 : decode cL_law 195 = .ok (.iload_n 3, 1) := by decide +kernel
theorem dL_law_196 : decode cL_law 196 = .ok (.iconst 1, 1) := by decide +kernel
theorem dL_law_197 : decode cL_law 197 = .ok (.iadd, 1) := by decide +kernel
theorem dL_law_198 : decode cL_law 198 = .ok (.iaload, 1) := by decide +kernel
theorem dL_law_199 : decode cL_law 199 = .ok (.aload_n 0, 1) := by decide +kernel
theorem dL_law_200 : decode cL_law 200 = .ok (.iload_n 3, 1) := by decide +kernel
theorem dL_law_201 : decode cL_law 201 = .ok (.iconst 2, 1) := by decide +kernel
theorem dL_law_202 : decode cL_law 202 = .ok (.iadd, 1) := by decide +kernel
theorem dL_law_203 : decode cL_law 203 = .ok (.iaload, 1) := by decide +kernel
theorem dL_law_204 : decode cL_law 204 = .ok (.invokevirtual 27, 3) := by decide +kernel
theorem dL_law_207 : decode cL_law 207 = .ok (.aload_n 2, 1) := by decide +kernel
theorem dL_law_208 : decode cL_law 208 = .ok (.aload_n 0, 1) := by decide +kernel
theorem dL_law_209 : decode cL_law 209 = .ok (.iload_n 3, 1) := by decide +kernel
theorem dL_law_210 : decode cL_law 210 = .ok (.iconst 1, 1) := by decide +kernel
theorem dL_law_211 : decode cL_law 211 = .ok (.iadd, 1) := by decide +kernel
theorem dL_law_212 : decode cL_law 212 = .ok (.iaload, 1) := by decide +kernel
theorem dL_law_213 : decode cL_law 213 = .ok (.aload_n 0, 1) := by decide +kernel
theorem dL_law_214 : decode cL_law 214 = .ok (.iload_n 3, 1) := by decide +kernel
theorem dL_law_215 : decode cL_law 215 = .ok (.iconst 2, 1) := by decide +kernel
theorem dL_law_216 : decode cL_law 216 = .ok (.iadd, 1) := by decide +kernel
theorem dL_law_217 : decode cL_law 217 = .ok (.iaload, 1) := by decide +kernel
theorem dL_law_218 : decode cL_law 218 = .ok (.invokevirtual 31, 3) := by decide +kernel
theorem dL_law_221 : decode cL_law 221 = .ok (.if_icmp .eq 535, 3) := by decide +kernel
theorem dL_law_224 : decode cL_law 224 = .ok (.iconst 0, 1) := by decide +kernel
theorem dL_law_225 : decode cL_law 225 = .ok (.ireturn, 1) := by decide +kernel
theorem dL_law_226 : decode cL_law 226 = .ok (.aload_n 1, 1) := by decide +kernel
theorem dL_law_227 : decode cL_law 227 = .ok (.aload_n 0, 1) := by decide +kernel
theorem dL_law_228 : decode cL_law 228 = .ok (.iload_n 3, 1) := by decide +kernel
theorem dL_law_229 : decode cL_law 229 = .ok (.iconst 1, 1) := by decide +kernel
theorem dL_law_230 : decode cL_law 230 = .ok (.iadd, 1) := by decide +kernel
theorem dL_law_231 : decode cL_law 231 = .ok (.iaload, 1) := by decide +kernel
theorem dL_law_232 : decode cL_law 232 = .ok (.aload_n 0, 1) := by decide +kernel
theorem dL_law_233 : decode cL_law 233 = .ok (.iload_n 3, 1) := by decide +kernel
theorem dL_law_234 : decode cL_law 234 = .ok (.iconst 2, 1) := by decide +kernel
theorem dL_law_235 : decode cL_law 235 = .ok (.iadd, 1) := by decide +kernel
theorem dL_law_236 : decode cL_law 236 = .ok (.iaload, 1) := by decide +kernel
theorem dL_law_237 : decode cL_law 237 = .ok (.invokevirtual 32, 3) := by decide +kernel
theorem dL_law_240 : decode cL_law 240 = .ok (.aload_n 2, 1) := by decide +kernel
theorem dL_law_241 : decode cL_law 241 = .ok (.aload_n 0, 1) := by decide +kernel
theorem dL_law_242 : decode cL_law 242 = .ok (.iload_n 3, 1) := by decide +kernel
theorem dL_law_243 : decode cL_law 243 = .ok (.iconst 1, 1) := by decide +kernel
theorem dL_law_244 : decode cL_law 244 = .ok (.iadd, 1) := by decide +kernel
theorem dL_law_245 : decode cL_law 245 = .ok (.iaload, 1) := by decide +kernel
theorem dL_law_246 : decode cL_law 246 = .ok (.aload_n 0, 1) := by decide +kernel
theorem dL_law_247 : decode cL_law 247 = .ok (.iload_n 3, 1) := by decide +kernel
theorem dL_law_248 : decode cL_law 248 = .ok (.iconst 2, 1) := by decide +kernel
theorem dL_law_249 : decode cL_law 249 = .ok (.iadd, 1) := by decide +kernel
theorem dL_law_250 : decode cL_law 250 = .ok (.iaload, 1) := by decide +kernel
theorem dL_law_251 : decode cL_law 251 = .ok (.invokevirtual 35, 3) := by decide +kernel
theorem dL_law_254 : decode cL_law 254 = .ok (.if_icmp .eq 502, 3) := by decide +kernel
theorem dL_law_257 : decode cL_law 257 = .ok (.iconst 0, 1) := by decide +kernel
theorem dL_law_258 : decode cL_law 258 = .ok (.ireturn, 1) := by decide +kernel
theorem dL_law_259 : decode cL_law 259 = .ok (.aload_n 1, 1) := by decide +kernel
theorem dL_law_260 : decode cL_law 260 = .ok (.aload_n 0, 1) := by decide +kernel
theorem dL_law_261 : decode cL_law 261 = .ok (.iload_n 3, 1) := by decide +kernel
theorem dL_law_262 : decode cL_law 262 = .ok (.iconst 1, 1) := by decide +kernel
theorem dL_law_263 : decode cL_law 263 = .ok (.iadd, 1) := by decide +kernel
theorem dL_law_264 : decode cL_law 264 = .ok (.iaload, 1) := by decide +kernel
theorem dL_law_265 : decode cL_law 265 = .ok (.aload_n 0, 1) := by decide +kernel
theorem dL_law_266 : decode cL_law 266 = .ok (.iload_n 3, 1) := by decide +kernel
theorem dL_law_267 : decode cL_law 267 = .ok (.iconst 2, 1) := by decide +kernel
theorem dL_law_268 : decode cL_law 268 = .ok (.iadd, 1) := by decide +kernel
theorem dL_law_269 : decode cL_law 269 = .ok (.iaload, 1) := by decide +kernel
theorem dL_law_270 : decode cL_law 270 = .ok (.invokevirtual 36, 3) := by decide +kernel
theorem dL_law_273 : decode cL_law 273 = .ok (.aload_n 2, 1) := by decide +kernel
theorem dL_law_274 : decode cL_law 274 = .ok (.aload_n 0, 1) := by decide +kernel
theorem dL_law_275 : decode cL_law 275 = .ok (.iload_n 3, 1) := by decide +kernel
theorem dL_law_276 : decode cL_law 276 = .ok (.iconst 1, 1) := by decide +kernel
theorem dL_law_277 : decode cL_law 277 = .ok (.iadd, 1) := by decide +kernel
theorem dL_law_278 : decode cL_law 278 = .ok (.iaload, 1) := by decide +kernel
theorem dL_law_279 : decode cL_law 279 = .ok (.aload_n 0, 1) := by decide +kernel
theorem dL_law_280 : decode cL_law 280 = .ok (.iload_n 3, 1) := by decide +kernel
theorem dL_law_281 : decode cL_law 281 = .ok (.iconst 2, 1) := by decide +kernel
theorem dL_law_282 : decode cL_law 282 = .ok (.iadd, 1) := by decide +kernel
theorem dL_law_283 : decode cL_law 283 = .ok (.iaload, 1) := by decide +kernel
theorem dL_law_284 : decode cL_law 284 = .ok (.invokevirtual 39, 3) := by decide +kernel
theorem dL_law_287 : decode cL_law 287 = .ok (.if_icmp .eq 469, 3) := by decide +kernel
theorem dL_law_290 : decode cL_law 290 = .ok (.iconst 0, 1) := by decide +kernel
theorem dL_law_291 : decode cL_law 291 = .ok (.ireturn, 1) := by decide +kernel
theorem dL_law_292 : decode cL_law 292 = .ok (.aload_n 1, 1) := by decide +kernel
theorem dL_law_293 : decode cL_law 293 = .ok (.aload_n 0, 1) := by decide +kernel
theorem dL_law_294 : decode cL_law 294 = .ok (.iload_n 3, 1) := by decide +kernel
theorem dL_law_295 : decode cL_law 295 = .ok (.iconst 1, 1) := by decide +kernel
theorem dL_law_296 : decode cL_law 296 = .ok (.iadd, 1) := by decide +kernel
theorem dL_law_297 : decode cL_law 297 = .ok (.iaload, 1) := by decide +kernel
theorem dL_law_298 : decode cL_law 298 = .ok (.aload_n 0, 1) := by decide +kernel
theorem dL_law_299 : decode cL_law 299 = .ok (.iload_n 3, 1) := by decide +kernel
theorem dL_law_300 : decode cL_law 300 = .ok (.iconst 2, 1) := by decide +kernel
theorem dL_law_301 : decode cL_law 301 = .ok (.iadd, 1) := by decide +kernel
theorem dL_law_302 : decode cL_law 302 = .ok (.iaload, 1) := by decide +kernel
theorem dL_law_303 : decode cL_law 303 = .ok (.invokevirtual 40, 3) := by decide +kernel
theorem dL_law_306 : decode cL_law 306 = .ok (.aload_n 2, 1) := by decide +kernel
theorem dL_law_307 : decode cL_law 307 = .ok (.aload_n 0, 1) := by decide +kernel
theorem dL_law_308 : decode cL_law 308 = .ok (.iload_n 3, 1) := by decide +kernel
theorem dL_law_309 : decode cL_law 309 = .ok (.iconst 1, 1) := by decide +kernel
theorem dL_law_310 : decode cL_law 310 = .ok (.iadd, 1) := by decide +kernel
theorem dL_law_311 : decode cL_law 311 = .ok (.iaload, 1) := by decide +kernel
theorem dL_law_312 : decode cL_law 312 = .ok (.aload_n 0, 1) := by decide +kernel
theorem dL_law_313 : decode cL_law 313 = .ok (.iload_n 3, 1) := by decide +kernel
theorem dL_law_314 : decode cL_law 314 = .ok (.iconst 2, 1) := by decide +kernel
theorem dL_law_315 : decode cL_law 315 = .ok (.iadd, 1) := by decide +kernel
theorem dL_law_316 : decode cL_law 316 = .ok (.iaload, 1) := by decide +kernel
theorem dL_law_317 : decode cL_law 317 = .ok (.invokevirtual 43, 3) := by decide +kernel
theorem dL_law_320 : decode cL_law 320 = .ok (.if_icmp .eq 436, 3) := by decide +kernel
theorem dL_law_323 : decode cL_law 323 = .ok (.iconst 0, 1) := by decide +kernel
theorem dL_law_324 : decode cL_law 324 = .ok (.ireturn, 1) := by decide +kernel
theorem dL_law_325 : decode cL_law 325 = .ok (.aload_n 1, 1) := by decide +kernel
theorem dL_law_326 : decode cL_law 326 = .ok (.aload_n 0, 1) := by decide +kernel
theorem dL_law_327 : decode cL_law 327 = .ok (.iload_n 3, 1) := by decide +kernel
theorem dL_law_328 : decode cL_law 328 = .ok (.iconst 1, 1) := by decide +kernel
theorem dL_law_329 : decode cL_law 329 = .ok (.iadd, 1) := by decide +kernel
theorem dL_law_330 : decode cL_law 330 = .ok (.iaload, 1) := by decide +kernel
theorem dL_law_331 : decode cL_law 331 = .ok (.aload_n 0, 1) := by decide +kernel
theorem dL_law_332 : decode cL_law 332 = .ok (.iload_n 3, 1) := by decide +kernel
theorem dL_law_333 : decode cL_law 333 = .ok (.iconst 2, 1) := by decide +kernel
theorem dL_law_334 : decode cL_law 334 = .ok (.iadd, 1) := by decide +kernel
theorem dL_law_335 : decode cL_law 335 = .ok (.iaload, 1) := by decide +kernel
theorem dL_law_336 : decode cL_law 336 = .ok (.invokevirtual 44, 3) := by decide +kernel
theorem dL_law_339 : decode cL_law 339 = .ok (.aload_n 2, 1) := by decide +kernel
theorem dL_law_340 : decode cL_law 340 = .ok (.aload_n 0, 1) := by decide +kernel
theorem dL_law_341 : decode cL_law 341 = .ok (.iload_n 3, 1) := by decide +kernel
theorem dL_law_342 : decode cL_law 342 = .ok (.iconst 1, 1) := by decide +kernel
theorem dL_law_343 : decode cL_law 343 = .ok (.iadd, 1) := by decide +kernel
theorem dL_law_344 : decode cL_law 344 = .ok (.iaload, 1) := by decide +kernel
theorem dL_law_345 : decode cL_law 345 = .ok (.aload_n 0, 1) := by decide +kernel
theorem dL_law_346 : decode cL_law 346 = .ok (.iload_n 3, 1) := by decide +kernel
theorem dL_law_347 : decode cL_law 347 = .ok (.iconst 2, 1) := by decide +kernel
theorem dL_law_348 : decode cL_law 348 = .ok (.iadd, 1) := by decide +kernel
theorem dL_law_349 : decode cL_law 349 = .ok (.iaload, 1) := by decide +kernel
theorem dL_law_350 : decode cL_law 350 = .ok (.invokevirtual 47, 3) := by decide +kernel
theorem dL_law_353 : decode cL_law 353 = .ok (.if_icmp .eq 403, 3) := by decide +kernel
theorem dL_law_356 : decode cL_law 356 = .ok (.iconst 0, 1) := by decide +kernel
theorem dL_law_357 : decode cL_law 357 = .ok (.ireturn, 1) := by decide +kernel
theorem dL_law_358 : decode cL_law 358 = .ok (.aload_n 1, 1) := by decide +kernel
theorem dL_law_359 : decode cL_law 359 = .ok (.aload_n 0, 1) := by decide +kernel
theorem dL_law_360 : decode cL_law 360 = .ok (.iload_n 3, 1) := by decide +kernel
theorem dL_law_361 : decode cL_law 361 = .ok (.iconst 1, 1) := by decide +kernel
theorem dL_law_362 : decode cL_law 362 = .ok (.iadd, 1) := by decide +kernel
theorem dL_law_363 : decode cL_law 363 = .ok (.iaload, 1) := by decide +kernel
theorem dL_law_364 : decode cL_law 364 = .ok (.aload_n 0, 1) := by decide +kernel
theorem dL_law_365 : decode cL_law 365 = .ok (.iload_n 3, 1) := by decide +kernel
theorem dL_law_366 : decode cL_law 366 = .ok (.iconst 2, 1) := by decide +kernel
theorem dL_law_367 : decode cL_law 367 = .ok (.iadd, 1) := by decide +kernel
theorem dL_law_368 : decode cL_law 368 = .ok (.iaload, 1) := by decide +kernel
theorem dL_law_369 : decode cL_law 369 = .ok (.invokevirtual 48, 3) := by decide +kernel
theorem dL_law_372 : decode cL_law 372 = .ok (.aload_n 2, 1) := by decide +kernel
theorem dL_law_373 : decode cL_law 373 = .ok (.aload_n 0, 1) := by decide +kernel
theorem dL_law_374 : decode cL_law 374 = .ok (.iload_n 3, 1) := by decide +kernel
theorem dL_law_375 : decode cL_law 375 = .ok (.iconst 1, 1) := by decide +kernel
theorem dL_law_376 : decode cL_law 376 = .ok (.iadd, 1) := by decide +kernel
theorem dL_law_377 : decode cL_law 377 = .ok (.iaload, 1) := by decide +kernel
theorem dL_law_378 : decode cL_law 378 = .ok (.aload_n 0, 1) := by decide +kernel
theorem dL_law_379 : decode cL_law 379 = .ok (.iload_n 3, 1) := by decide +kernel
theorem dL_law_380 : decode cL_law 380 = .ok (.iconst 2, 1) := by decide +kernel
theorem dL_law_381 : decode cL_law 381 = .ok (.iadd, 1) := by decide +kernel
theorem dL_law_382 : decode cL_law 382 = .ok (.iaload, 1) := by decide +kernel
theorem dL_law_383 : decode cL_law 383 = .ok (.invokevirtual 51, 3) := by decide +kernel
theorem dL_law_386 : decode cL_law 386 = .ok (.if_icmp .eq 370, 3) := by decide +kernel
theorem dL_law_389 : decode cL_law 389 = .ok (.iconst 0, 1) := by decide +kernel
theorem dL_law_390 : decode cL_law 390 = .ok (.ireturn, 1) := by decide +kernel
theorem dL_law_391 : decode cL_law 391 = .ok (.aload_n 1, 1) := by decide +kernel
theorem dL_law_392 : decode cL_law 392 = .ok (.invokevirtual 52, 3) := by decide +kernel
theorem dL_law_395 : decode cL_law 395 = .ok (.aload_n 2, 1) := by decide +kernel
theorem dL_law_396 : decode cL_law 396 = .ok (.invokevirtual 55, 3) := by decide +kernel
theorem dL_law_399 : decode cL_law 399 = .ok (.if_icmp .eq 357, 3) := by decide +kernel
theorem dL_law_402 : decode cL_law 402 = .ok (.iconst 0, 1) := by decide +kernel
theorem dL_law_403 : decode cL_law 403 = .ok (.ireturn, 1) := by decide +kernel
theorem dL_law_404 : decode cL_law 404 = .ok (.aload_n 1, 1) := by decide +kernel
theorem dL_law_405 : decode cL_law 405 = .ok (.aload_n 0, 1) := by decide +kernel
theorem dL_law_406 : decode cL_law 406 = .ok (.iload_n 3, 1) := by decide +kernel
theorem dL_law_407 : decode cL_law 407 = .ok (.iconst 1, 1) := by decide +kernel
theorem dL_law_408 : decode cL_law 408 = .ok (.iadd, 1) := by decide +kernel
theorem dL_law_409 : decode cL_law 409 = .ok (.iaload, 1) := by decide +kernel
theorem dL_law_410 : decode cL_law 410 = .ok (.invokevirtual 56, 3) := by decide +kernel
theorem dL_law_413 : decode cL_law 413 = .ok (.aload_n 2, 1) := by decide +kernel
theorem dL_law_414 : decode cL_law 414 = .ok (.aload_n 0, 1) := by decide +kernel
theorem dL_law_415 : decode cL_law 415 = .ok (.iload_n 3, 1) := by decide +kernel
theorem dL_law_416 : decode cL_law 416 = .ok (.iconst 1, 1) := by decide +kernel
theorem dL_law_417 : decode cL_law 417 = .ok (.iadd, 1) := by decide +kernel
theorem dL_law_418 : decode cL_law 418 = .ok (.iaload, 1) := by decide +kernel
theorem dL_law_419 : decode cL_law 419 = .ok (.invokevirtual 59, 3) := by decide +kernel
theorem dL_law_422 : decode cL_law 422 = .ok (.if_icmp .eq 334, 3) := by decide +kernel
theorem dL_law_425 : decode cL_law 425 = .ok (.iconst 0, 1) := by decide +kernel
theorem dL_law_426 : decode cL_law 426 = .ok (.ireturn, 1) := by decide +kernel
theorem dL_law_427 : decode cL_law 427 = .ok (.aload_n 1, 1) := by decide +kernel
theorem dL_law_428 : decode cL_law 428 = .ok (.aload_n 0, 1) := by decide +kernel
theorem dL_law_429 : decode cL_law 429 = .ok (.iload_n 3, 1) := by decide +kernel
theorem dL_law_430 : decode cL_law 430 = .ok (.iconst 1, 1) := by decide +kernel
theorem dL_law_431 : decode cL_law 431 = .ok (.iadd, 1) := by decide +kernel
theorem dL_law_432 : decode cL_law 432 = .ok (.iaload, 1) := by decide +kernel
theorem dL_law_433 : decode cL_law 433 = .ok (.aload_n 0, 1) := by decide +kernel
theorem dL_law_434 : decode cL_law 434 = .ok (.iload_n 3, 1) := by decide +kernel
theorem dL_law_435 : decode cL_law 435 = .ok (.iconst 2, 1) := by decide +kernel
theorem dL_law_436 : decode cL_law 436 = .ok (.iadd, 1) := by decide +kernel
theorem dL_law_437 : decode cL_law 437 = .ok (.iaload, 1) := by decide +kernel
theorem dL_law_438 : decode cL_law 438 = .ok (.invokevirtual 60, 3) := by decide +kernel
theorem dL_law_441 : decode cL_law 441 = .ok (.aload_n 2, 1) := by decide +kernel
theorem dL_law_442 : decode cL_law 442 = .ok (.aload_n 0, 1) := by decide +kernel
theorem dL_law_443 : decode cL_law 443 = .ok (.iload_n 3, 1) := by decide +kernel
theorem dL_law_444 : decode cL_law 444 = .ok (.iconst 1, 1) := by decide +kernel
theorem dL_law_445 : decode cL_law 445 = .ok (.iadd, 1) := by decide +kernel
theorem dL_law_446 : decode cL_law 446 = .ok (.iaload, 1) := by decide +kernel
theorem dL_law_447 : decode cL_law 447 = .ok (.aload_n 0, 1) := by decide +kernel
theorem dL_law_448 : decode cL_law 448 = .ok (.iload_n 3, 1) := by decide +kernel
theorem dL_law_449 : decode cL_law 449 = .ok (.iconst 2, 1) := by decide +kernel
theorem dL_law_450 : decode cL_law 450 = .ok (.iadd, 1) := by decide +kernel
theorem dL_law_451 : decode cL_law 451 = .ok (.iaload, 1) := by decide +kernel
theorem dL_law_452 : decode cL_law 452 = .ok (.invokevirtual 63, 3) := by decide +kernel
theorem dL_law_455 : decode cL_law 455 = .ok (.if_icmp .eq 301, 3) := by decide +kernel
theorem dL_law_458 : decode cL_law 458 = .ok (.iconst 0, 1) := by decide +kernel
theorem dL_law_459 : decode cL_law 459 = .ok (.ireturn, 1) := by decide +kernel
theorem dL_law_460 : decode cL_law 460 = .ok (.aload_n 1, 1) := by decide +kernel
theorem dL_law_461 : decode cL_law 461 = .ok (.aload_n 0, 1) := by decide +kernel
theorem dL_law_462 : decode cL_law 462 = .ok (.iload_n 3, 1) := by decide +kernel
theorem dL_law_463 : decode cL_law 463 = .ok (.iconst 1, 1) := by decide +kernel
theorem dL_law_464 : decode cL_law 464 = .ok (.iadd, 1) := by decide +kernel
theorem dL_law_465 : decode cL_law 465 = .ok (.iaload, 1) := by decide +kernel
theorem dL_law_466 : decode cL_law 466 = .ok (.aload_n 0, 1) := by decide +kernel
theorem dL_law_467 : decode cL_law 467 = .ok (.iload_n 3, 1) := by decide +kernel
theorem dL_law_468 : decode cL_law 468 = .ok (.iconst 2, 1) := by decide +kernel
theorem dL_law_469 : decode cL_law 469 = .ok (.iadd, 1) := by decide +kernel
theorem dL_law_470 : decode cL_law 470 = .ok (.iaload, 1) := by decide +kernel
theorem dL_law_471 : decode cL_law 471 = .ok (.aload_n 0, 1) := by decide +kernel
theorem dL_law_472 : decode cL_law 472 = .ok (.iload_n 3, 1) := by decide +kernel
theorem dL_law_473 : decode cL_law 473 = .ok (.iconst 3, 1) := by decide +kernel
theorem dL_law_474 : decode cL_law 474 = .ok (.iadd, 1) := by decide +kernel
theorem dL_law_475 : decode cL_law 475 = .ok (.iaload, 1) := by decide +kernel
theorem dL_law_476 : decode cL_law 476 = .ok (.invokevirtual 64, 3) := by decide +kernel
theorem dL_law_479 : decode cL_law 479 = .ok (.aload_n 2, 1) := by decide +kernel
theorem dL_law_480 : decode cL_law 480 = .ok (.aload_n 0, 1) := by decide +kernel
theorem dL_law_481 : decode cL_law 481 = .ok (.iload_n 3, 1) := by decide +kernel
theorem dL_law_482 : decode cL_law 482 = .ok (.iconst 1, 1) := by decide +kernel
theorem dL_law_483 : decode cL_law 483 = .ok (.iadd, 1) := by decide +kernel
theorem dL_law_484 : decode cL_law 484 = .ok (.iaload, 1) := by decide +kernel
theorem dL_law_485 : decode cL_law 485 = .ok (.aload_n 0, 1) := by decide +kernel
theorem dL_law_486 : decode cL_law 486 = .ok (.iload_n 3, 1) := by decide +kernel
theorem dL_law_487 : decode cL_law 487 = .ok (.iconst 2, 1) := by decide +kernel
theorem dL_law_488 : decode cL_law 488 = .ok (.iadd, 1) := by decide +kernel
theorem dL_law_489 : decode cL_law 489 = .ok (.iaload, 1) := by decide +kernel
theorem dL_law_490 : decode cL_law 490 = .ok (.aload_n 0, 1) := by decide +kernel
theorem dL_law_491 : decode cL_law 491 = .ok (.iload_n 3, 1) := by decide +kernel
theorem dL_law_492 : decode cL_law 492 = .ok (.iconst 3, 1) := by decide +kernel
theorem dL_law_493 : decode cL_law 493 = .ok (.iadd, 1) := by decide +kernel
theorem dL_law_494 : decode cL_law 494 = .ok (.iaload, 1) := by decide +kernel
theorem dL_law_495 : decode cL_law 495 = .ok (.invokevirtual 68, 3) := by decide +kernel
theorem dL_law_498 : decode cL_law 498 = .ok (.if_icmp .eq 258, 3) := by decide +kernel
theorem dL_law_501 : decode cL_law 501 = .ok (.iconst 0, 1) := by decide +kernel
theorem dL_law_502 : decode cL_law 502 = .ok (.ireturn, 1) := by decide +kernel
theorem dL_law_503 : decode cL_law 503 = .ok (.aload_n 1, 1) := by decide +kernel
theorem dL_law_504 : decode cL_law 504 = .ok (.aload_n 0, 1) := by decide +kernel
theorem dL_law_505 : decode cL_law 505 = .ok (.iload_n 3, 1) := by decide +kernel
theorem dL_law_506 : decode cL_law 506 = .ok (.iconst 1, 1) := by decide +kernel
theorem dL_law_507 : decode cL_law 507 = .ok (.iadd, 1) := by decide +kernel
theorem dL_law_508 : decode cL_law 508 = .ok (.iaload, 1) := by decide +kernel
theorem dL_law_509 : decode cL_law 509 = .ok (.aload_n 0, 1) := by decide +kernel
theorem dL_law_510 : decode cL_law 510 = .ok (.iload_n 3, 1) := by decide +kernel
theorem dL_law_511 : decode cL_law 511 = .ok (.iconst 2, 1) := by decide +kernel
theorem dL_law_512 : decode cL_law 512 = .ok (.iadd, 1) := by decide +kernel
theorem dL_law_513 : decode cL_law 513 = .ok (.iaload, 1) := by decide +kernel
theorem dL_law_514 : decode cL_law 514 = .ok (.invokevirtual 69, 3) := by decide +kernel
theorem dL_law_517 : decode cL_law 517 = .ok (.aload_n 2, 1) := by decide +kernel
theorem dL_law_518 : decode cL_law 518 = .ok (.aload_n 0, 1) := by decide +kernel
theorem dL_law_519 : decode cL_law 519 = .ok (.iload_n 3, 1) := by decide +kernel
theorem dL_law_520 : decode cL_law 520 = .ok (.iconst 1, 1) := by decide +kernel
theorem dL_law_521 : decode cL_law 521 = .ok (.iadd, 1) := by decide +kernel
theorem dL_law_522 : decode cL_law 522 = .ok (.iaload, 1) := by decide +kernel
theorem dL_law_523 : decode cL_law 523 = .ok (.aload_n 0, 1) := by decide +kernel
theorem dL_law_524 : decode cL_law 524 = .ok (.iload_n 3, 1) := by decide +kernel
theorem dL_law_525 : decode cL_law 525 = .ok (.iconst 2, 1) := by decide +kernel
theorem dL_law_526 : decode cL_law 526 = .ok (.iadd, 1) := by decide +kernel
theorem dL_law_527 : decode cL_law 527 = .ok (.iaload, 1) := by decide +kernel
theorem dL_law_528 : decode cL_law 528 = .ok (.invokevirtual 72, 3) := by decide +kernel
theorem dL_law_531 : decode cL_law 531 = .ok (.if_icmp .eq 225, 3) := by decide +kernel
theorem dL_law_534 : decode cL_law 534 = .ok (.iconst 0, 1) := by decide +kernel
theorem dL_law_535 : decode cL_law 535 = .ok (.ireturn, 1) := by decide +kernel
theorem dL_law_536 : decode cL_law 536 = .ok (.aload_n 1, 1) := by decide +kernel
theorem dL_law_537 : decode cL_law 537 = .ok (.aload_n 0, 1) := by decide +kernel
theorem dL_law_538 : decode cL_law 538 = .ok (.iload_n 3, 1) := by decide +kernel
theorem dL_law_539 : decode cL_law 539 = .ok (.iconst 1, 1) := by decide +kernel
theorem dL_law_540 : decode cL_law 540 = .ok (.iadd, 1) := by decide +kernel
theorem dL_law_541 : decode cL_law 541 = .ok (.iaload, 1) := by decide +kernel
theorem dL_law_542 : decode cL_law 542 = .ok (.invokevirtual 73, 3) := by decide +kernel
theorem dL_law_545 : decode cL_law 545 = .ok (.aload_n 2, 1) := by decide +kernel
theorem dL_law_546 : decode cL_law 546 = .ok (.aload_n 0, 1) := by decide +kernel
theorem dL_law_547 : decode cL_law 547 = .ok (.iload_n 3, 1) := by decide +kernel
theorem dL_law_548 : decode cL_law 548 = .ok (.iconst 1, 1) := by decide +kernel
theorem dL_law_549 : decode cL_law 549 = .ok (.iadd, 1) := by decide +kernel
theorem dL_law_550 : decode cL_law 550 = .ok (.iaload, 1) := by decide +kernel
theorem dL_law_551 : decode cL_law 551 = .ok (.invokevirtual 76, 3) := by decide +kernel
theorem dL_law_554 : decode cL_law 554 = .ok (.if_icmp .eq 202, 3) := by decide +kernel
theorem dL_law_557 : decode cL_law 557 = .ok (.iconst 0, 1) := by decide +kernel
theorem dL_law_558 : decode cL_law 558 = .ok (.ireturn, 1) := by decide +kernel
theorem dL_law_559 : decode cL_law 559 = .ok (.aload_n 1, 1) := by decide +kernel
theorem dL_law_560 : decode cL_law 560 = .ok (.invokevirtual 77, 3) := by decide +kernel
theorem dL_law_563 : decode cL_law 563 = .ok (.aload_n 2, 1) := by decide +kernel
theorem dL_law_564 : decode cL_law 564 = .ok (.invokevirtual 80, 3) := by decide +kernel
theorem dL_law_567 : decode cL_law 567 = .ok (.if_icmp .eq 189, 3) := by decide +kernel
theorem dL_law_570 : decode cL_law 570 = .ok (.iconst 0, 1) := by decide +kernel
theorem dL_law_571 : decode cL_law 571 = .ok (.ireturn, 1) := by decide +kernel
theorem dL_law_572 : decode cL_law 572 = .ok (.aload_n 1, 1) := by decide +kernel
theorem dL_law_573 : decode cL_law 573 = .ok (.aload_n 0, 1) := by decide +kernel
theorem dL_law_574 : decode cL_law 574 = .ok (.iload_n 3, 1) := by decide +kernel
theorem dL_law_575 : decode cL_law 575 = .ok (.iconst 1, 1) := by decide +kernel
theorem dL_law_576 : decode cL_law 576 = .ok (.iadd, 1) := by decide +kernel
theorem dL_law_577 : decode cL_law 577 = .ok (.iaload, 1) := by decide +kernel
theorem dL_law_578 : decode cL_law 578 = .ok (.invokevirtual 81, 3) := by decide +kernel
theorem dL_law_581 : decode cL_law 581 = .ok (.aload_n 2, 1) := by decide +kernel
theorem dL_law_582 : decode cL_law 582 = .ok (.aload_n 0, 1) := by decide +kernel
theorem dL_law_583 : decode cL_law 583 = .ok (.iload_n 3, 1) := by decide +kernel
theorem dL_law_584 : decode cL_law 584 = .ok (.iconst 1, 1) := by decide +kernel
theorem dL_law_585 : decode cL_law 585 = .ok (.iadd, 1) := by decide +kernel
theorem dL_law_586 : decode cL_law 586 = .ok (.iaload, 1) := by decide +kernel
theorem dL_law_587 : decode cL_law 587 = .ok (.invokevirtual 84, 3) := by decide +kernel
theorem dL_law_590 : decode cL_law 590 = .ok (.if_icmp .eq 166, 3) := by decide +kernel
theorem dL_law_593 : decode cL_law 593 = .ok (.iconst 0, 1) := by decide +kernel
theorem dL_law_594 : decode cL_law 594 = .ok (.ireturn, 1) := by decide +kernel
theorem dL_law_595 : decode cL_law 595 = .ok (.aload_n 1, 1) := by decide +kernel
theorem dL_law_596 : decode cL_law 596 = .ok (.aload_n 0, 1) := by decide +kernel
theorem dL_law_597 : decode cL_law 597 = .ok (.iload_n 3, 1) := by decide +kernel
theorem dL_law_598 : decode cL_law 598 = .ok (.iconst 1, 1) := by decide +kernel
theorem dL_law_599 : decode cL_law 599 = .ok (.iadd, 1) := by decide +kernel
theorem dL_law_600 : decode cL_law 600 = .ok (.iaload, 1) := by decide +kernel
theorem dL_law_601 : decode cL_law 601 = .ok (.invokevirtual 85, 3) := by decide +kernel
theorem dL_law_604 : decode cL_law 604 = .ok (.aload_n 2, 1) := by decide +kernel
theorem dL_law_605 : decode cL_law 605 = .ok (.aload_n 0, 1) := by decide +kernel
theorem dL_law_606 : decode cL_law 606 = .ok (.iload_n 3, 1) := by decide +kernel
theorem dL_law_607 : decode cL_law 607 = .ok (.iconst 1, 1) := by decide +kernel
theorem dL_law_608 : decode cL_law 608 = .ok (.iadd, 1) := by decide +kernel
theorem dL_law_609 : decode cL_law 609 = .ok (.iaload, 1) := by decide +kernel
theorem dL_law_610 : decode cL_law 610 = .ok (.invokevirtual 88, 3) := by decide +kernel
theorem dL_law_613 : decode cL_law 613 = .ok (.if_icmp .eq 143, 3) := by decide +kernel
theorem dL_law_616 : decode cL_law 616 = .ok (.iconst 0, 1) := by decide +kernel
theorem dL_law_617 : decode cL_law 617 = .ok (.ireturn, 1) := by decide +kernel
theorem dL_law_618 : decode cL_law 618 = .ok (.aload_n 1, 1) := by decide +kernel
theorem dL_law_619 : decode cL_law 619 = .ok (.aload_n 0, 1) := by decide +kernel
theorem dL_law_620 : decode cL_law 620 = .ok (.iload_n 3, 1) := by decide +kernel
theorem dL_law_621 : decode cL_law 621 = .ok (.iconst 1, 1) := by decide +kernel
theorem dL_law_622 : decode cL_law 622 = .ok (.iadd, 1) := by decide +kernel
theorem dL_law_623 : decode cL_law 623 = .ok (.iaload, 1) := by decide +kernel
theorem dL_law_624 : decode cL_law 624 = .ok (.aload_n 0, 1) := by decide +kernel
theorem dL_law_625 : decode cL_law 625 = .ok (.iload_n 3, 1) := by decide +kernel
theorem dL_law_626 : decode cL_law 626 = .ok (.iconst 2, 1) := by decide +kernel
theorem dL_law_627 : decode cL_law 627 = .ok (.iadd, 1) := by decide +kernel
theorem dL_law_628 : decode cL_law 628 = .ok (.iaload, 1) := by decide +kernel
theorem dL_law_629 : decode cL_law 629 = .ok (.invokevirtual 89, 3) := by decide +kernel
theorem dL_law_632 : decode cL_law 632 = .ok (.aload_n 2, 1) := by decide +kernel
theorem dL_law_633 : decode cL_law 633 = .ok (.aload_n 0, 1) := by decide +kernel
theorem dL_law_634 : decode cL_law 634 = .ok (.iload_n 3, 1) := by decide +kernel
theorem dL_law_635 : decode cL_law 635 = .ok (.iconst 1, 1) := by decide +kernel
theorem dL_law_636 : decode cL_law 636 = .ok (.iadd, 1) := by decide +kernel
theorem dL_law_637 : decode cL_law 637 = .ok (.iaload, 1) := by decide +kernel
theorem dL_law_638 : decode cL_law 638 = .ok (.aload_n 0, 1) := by decide +kernel
theorem dL_law_639 : decode cL_law 639 = .ok (.iload_n 3, 1) := by decide +kernel
theorem dL_law_640 : decode cL_law 640 = .ok (.iconst 2, 1) := by decide +kernel
theorem dL_law_641 : decode cL_law 641 = .ok (.iadd, 1) := by decide +kernel
theorem dL_law_642 : decode cL_law 642 = .ok (.iaload, 1) := by decide +kernel
theorem dL_law_643 : decode cL_law 643 = .ok (.invokevirtual 92, 3) := by decide +kernel
theorem dL_law_646 : decode cL_law 646 = .ok (.if_icmp .eq 110, 3) := by decide +kernel
theorem dL_law_649 : decode cL_law 649 = .ok (.iconst 0, 1) := by decide +kernel
theorem dL_law_650 : decode cL_law 650 = .ok (.ireturn, 1) := by decide +kernel
theorem dL_law_651 : decode cL_law 651 = .ok (.aload_n 1, 1) := by decide +kernel
theorem dL_law_652 : decode cL_law 652 = .ok (.invokevirtual 93, 3) := by decide +kernel
theorem dL_law_655 : decode cL_law 655 = .ok (.aload_n 2, 1) := by decide +kernel
theorem dL_law_656 : decode cL_law 656 = .ok (.invokevirtual 96, 3) := by decide +kernel
theorem dL_law_659 : decode cL_law 659 = .ok (.if_icmp .eq 97, 3) := by decide +kernel
theorem dL_law_662 : decode cL_law 662 = .ok (.iconst 0, 1) := by decide +kernel
theorem dL_law_663 : decode cL_law 663 = .ok (.ireturn, 1) := by decide +kernel
theorem dL_law_664 : decode cL_law 664 = .ok (.aload_n 1, 1) := by decide +kernel
theorem dL_law_665 : decode cL_law 665 = .ok (.aload_n 0, 1) := by decide +kernel
theorem dL_law_666 : decode cL_law 666 = .ok (.iload_n 3, 1) := by decide +kernel
theorem dL_law_667 : decode cL_law 667 = .ok (.iconst 1, 1) := by decide +kernel
theorem dL_law_668 : decode cL_law 668 = .ok (.iadd, 1) := by decide +kernel
theorem dL_law_669 : decode cL_law 669 = .ok (.iaload, 1) := by decide +kernel
theorem dL_law_670 : decode cL_law 670 = .ok (.invokevirtual 97, 3) := by decide +kernel
theorem dL_law_673 : decode cL_law 673 = .ok (.aload_n 2, 1) := by decide +kernel
theorem dL_law_674 : decode cL_law 674 = .ok (.aload_n 0, 1) := by decide +kernel
theorem dL_law_675 : decode cL_law 675 = .ok (.iload_n 3, 1) := by decide +kernel
theorem dL_law_676 : decode cL_law 676 = .ok (.iconst 1, 1) := by decide +kernel
theorem dL_law_677 : decode cL_law 677 = .ok (.iadd, 1) := by decide +kernel
theorem dL_law_678 : decode cL_law 678 = .ok (.iaload, 1) := by decide +kernel
theorem dL_law_679 : decode cL_law 679 = .ok (.invokevirtual 100, 3) := by decide +kernel
theorem dL_law_682 : decode cL_law 682 = .ok (.if_icmp .eq 74, 3) := by decide +kernel
theorem dL_law_685 : decode cL_law 685 = .ok (.iconst 0, 1) := by decide +kernel
theorem dL_law_686 : decode cL_law 686 = .ok (.ireturn, 1) := by decide +kernel
theorem dL_law_687 : decode cL_law 687 = .ok (.aload_n 1, 1) := by decide +kernel
theorem dL_law_688 : decode cL_law 688 = .ok (.aload_n 0, 1) := by decide +kernel
theorem dL_law_689 : decode cL_law 689 = .ok (.iload_n 3, 1) := by decide +kernel
theorem dL_law_690 : decode cL_law 690 = .ok (.iconst 1, 1) := by decide +kernel
theorem dL_law_691 : decode cL_law 691 = .ok (.iadd, 1) := by decide +kernel
theorem dL_law_692 : decode cL_law 692 = .ok (.iaload, 1) := by decide +kernel
theorem dL_law_693 : decode cL_law 693 = .ok (.invokevirtual 101, 3) := by decide +kernel
theorem dL_law_696 : decode cL_law 696 = .ok (.aload_n 2, 1) := by decide +kernel
theorem dL_law_697 : decode cL_law 697 = .ok (.aload_n 0, 1) := by decide +kernel
theorem dL_law_698 : decode cL_law 698 = .ok (.iload_n 3, 1) := by decide +kernel
theorem dL_law_699 : decode cL_law 699 = .ok (.iconst 1, 1) := by decide +kernel
theorem dL_law_700 : decode cL_law 700 = .ok (.iadd, 1) := by decide +kernel
theorem dL_law_701 : decode cL_law 701 = .ok (.iaload, 1) := by decide +kernel
theorem dL_law_702 : decode cL_law 702 = .ok (.invokevirtual 104, 3) := by decide +kernel
theorem dL_law_705 : decode cL_law 705 = .ok (.if_icmp .eq 51, 3) := by decide +kernel
theorem dL_law_708 : decode cL_law 708 = .ok (.iconst 0, 1) := by decide +kernel
theorem dL_law_709 : decode cL_law 709 = .ok (.ireturn, 1) := by decide +kernel
theorem dL_law_710 : decode cL_law 710 = .ok (.aload_n 1, 1) := by decide +kernel
theorem dL_law_711 : decode cL_law 711 = .ok (.aload_n 0, 1) := by decide +kernel
theorem dL_law_712 : decode cL_law 712 = .ok (.iload_n 3, 1) := by decide +kernel
theorem dL_law_713 : decode cL_law 713 = .ok (.iconst 1, 1) := by decide +kernel
theorem dL_law_714 : decode cL_law 714 = .ok (.iadd, 1) := by decide +kernel
theorem dL_law_715 : decode cL_law 715 = .ok (.iaload, 1) := by decide +kernel
theorem dL_law_716 : decode cL_law 716 = .ok (.invokevirtual 105, 3) := by decide +kernel
theorem dL_law_719 : decode cL_law 719 = .ok (.aload_n 2, 1) := by decide +kernel
theorem dL_law_720 : decode cL_law 720 = .ok (.aload_n 0, 1) := by decide +kernel
theorem dL_law_721 : decode cL_law 721 = .ok (.iload_n 3, 1) := by decide +kernel
theorem dL_law_722 : decode cL_law 722 = .ok (.iconst 1, 1) := by decide +kernel
theorem dL_law_723 : decode cL_law 723 = .ok (.iadd, 1) := by decide +kernel
theorem dL_law_724 : decode cL_law 724 = .ok (.iaload, 1) := by decide +kernel
theorem dL_law_725 : decode cL_law 725 = .ok (.invokevirtual 108, 3) := by decide +kernel
theorem dL_law_728 : decode cL_law 728 = .ok (.if_icmp .eq 28, 3) := by decide +kernel
theorem dL_law_731 : decode cL_law 731 = .ok (.iconst 0, 1) := by decide +kernel
theorem dL_law_732 : decode cL_law 732 = .ok (.ireturn, 1) := by decide +kernel
theorem dL_law_733 : decode cL_law 733 = .ok (.aload_n 1, 1) := by decide +kernel
theorem dL_law_734 : decode cL_law 734 = .ok (.aload_n 0, 1) := by decide +kernel
theorem dL_law_735 : decode cL_law 735 = .ok (.iload_n 3, 1) := by decide +kernel
theorem dL_law_736 : decode cL_law 736 = .ok (.iconst 1, 1) := by decide +kernel
theorem dL_law_737 : decode cL_law 737 = .ok (.iadd, 1) := by decide +kernel
theorem dL_law_738 : decode cL_law 738 = .ok (.iaload, 1) := by decide +kernel
theorem dL_law_739 : decode cL_law 739 = .ok (.invokevirtual 109, 3) := by decide +kernel
theorem dL_law_742 : decode cL_law 742 = .ok (.aload_n 2, 1) := by decide +kernel
theorem dL_law_743 : decode cL_law 743 = .ok (.aload_n 0, 1) := by decide +kernel
theorem dL_law_744 : decode cL_law 744 = .ok (.iload_n 3, 1) := by decide +kernel
theorem dL_law_745 : decode cL_law 745 = .ok (.iconst 1, 1) := by decide +kernel
theorem dL_law_746 : decode cL_law 746 = .ok (.iadd, 1) := by decide +kernel
theorem dL_law_747 : decode cL_law 747 = .ok (.iaload, 1) := by decide +kernel
theorem dL_law_748 : decode cL_law 748 = .ok (.invokevirtual 112, 3) := by decide +kernel
theorem dL_law_751 : decode cL_law 751 = .ok (.if_icmp .eq 5, 3) := by decide +kernel
theorem dL_law_754 : decode cL_law 754 = .ok (.iconst 0, 1) := by decide +kernel
theorem dL_law_755 : decode cL_law 755 = .ok (.ireturn, 1) := by decide +kernel
theorem dL_law_756 : decode cL_law 756 = .ok (.iinc 3 4, 3) := by decide +kernel
theorem dL_law_759 : decode cL_law 759 = .ok (.goto (-741), 3) := by decide +kernel
theorem dL_law_762 : decode cL_law 762 = .ok (.iconst 1, 1) := by decide +kernel
theorem dL_law_763 : decode cL_law 763 = .ok (.ireturn, 1) := by decide +kernel
end
section
theorem hw_1_0 : Cond.initialized RL ∈ hm_W := hm_m1 0 (by decide +kernel) rfl
theorem hw_1_1 : Cond.initialized RX7 ∈ hm_W := hm_m1 1 (by decide +kernel) rfl
theorem hw_1_2 : Cond.initialized RX2 ∈ hm_W := hm_m1 2 (by decide +kernel) rfl
theorem hw_1_3 : Cond.initialized "java/lang/Math" ∈ hm_W := hm_m1 3 (by decide +kernel) rfl
theorem hw_1_4 : Cond.initialized RX3 ∈ hm_W := hm_m1 4 (by decide +kernel) rfl
theorem hw_1_5 : Cond.initialized RX4 ∈ hm_W := hm_m1 5 (by decide +kernel) rfl
theorem hw_1_6 : Cond.initialized RX1 ∈ hm_W := hm_m1 6 (by decide +kernel) rfl
theorem hw_1_7 : Cond.initialized RX0 ∈ hm_W := hm_m1 7 (by decide +kernel) rfl
theorem hw_1_8 : Cond.initialized RX5 ∈ hm_W := hm_m1 8 (by decide +kernel) rfl
theorem hw_1_9 : Cond.initialized RX6 ∈ hm_W := hm_m1 9 (by decide +kernel) rfl
theorem hw_1_10 : Cond.initialized RX8 ∈ hm_W := hm_m1 10 (by decide +kernel) rfl
theorem hw_1_11 : Cond.initialized "java/lang/System" ∈ hm_W := hm_m1 11 (by decide +kernel) rfl
theorem hw_1_12 : Cond.classLink RL 7 RX7 ∈ hm_W := hm_m1 12 (by decide +kernel) rfl
theorem hw_1_13 : Cond.instantiable RX7 12 ∈ hm_W := hm_m1 13 (by decide +kernel) rfl
theorem hw_1_14 : Cond.methodLink RL 9 yX7_init ∈ hm_W := hm_m1 14 (by decide +kernel) rfl
theorem hw_1_15 : Cond.instanceMethod yX7_init ∈ hm_W := hm_m1 15 (by decide +kernel) rfl
theorem hw_1_16 : Cond.code yX7_init cX7_init 1 none ∈ hm_W := hm_m1 16 rfl rfl
theorem hw_1_17 : Cond.methodLink RX7 3 objectInit ∈ hm_W := hm_m1 17 (by decide +kernel) rfl
theorem hw_1_18 : Cond.instanceMethod objectInit ∈ hm_W := hm_m1 18 (by decide +kernel) rfl
theorem hw_1_19 : Cond.code objectInit ⟨#[0xb1]⟩ 1 none ∈ hm_W := hm_m1 19 rfl rfl
theorem hw_1_20 : Cond.classLink RX7 9 RX2 ∈ hm_W := hm_m1 20 (by decide +kernel) rfl
theorem hw_1_21 : Cond.instantiable RX2 2 ∈ hm_W := hm_m1 21 (by decide +kernel) rfl
theorem hw_1_22 : Cond.methodLink RX7 11 yX2_init ∈ hm_W := hm_m1 22 (by decide +kernel) rfl
theorem hw_1_23 : Cond.instanceMethod yX2_init ∈ hm_W := hm_m1 23 (by decide +kernel) rfl
theorem hw_1_24 : Cond.code yX2_init cX2_init 2 none ∈ hm_W := hm_m1 24 rfl rfl
theorem hw_1_25 : Cond.methodLink RX2 1 objectInit ∈ hm_W := hm_m1 25 (by decide +kernel) rfl
theorem hw_1_26 : Cond.methodLink RX2 7 Lib.Math.max.name ∈ hm_W := hm_m1 26 (by decide +kernel) rfl
theorem hw_1_27 : Cond.static Lib.Math.max.name ∈ hm_W := hm_m1 27 (by decide +kernel) rfl
theorem hw_1_28 : Cond.code Lib.Math.max.name Lib.Math.max.code 2 (some .int) ∈ hm_W := hm_m1 28 rfl rfl
theorem hw_1_29 : Cond.fieldLink RX2 13 "HungMargins$Row" "items" "[I" ∈ hm_W := hm_m1 29 (by decide +kernel) rfl
theorem hw_1_30 : Cond.fieldLink RX2 19 "HungMargins$Row" "size" "I" ∈ hm_W := hm_m1 30 (by decide +kernel) rfl
theorem hw_1_36 : Cond.arrayClass .int ∈ hm_W := hm_m1 36 (by decide +kernel) rfl
theorem hw_1_37 : Cond.classLink RX7 18 RX3 ∈ hm_W := hm_m1 37 (by decide +kernel) rfl
theorem hw_1_38 : Cond.instantiable RX3 10 ∈ hm_W := hm_m1 38 (by decide +kernel) rfl
theorem hw_1_40 : Cond.instanceMethod yX3_init ∈ hm_W := hm_m1 40 (by decide +kernel) rfl
theorem hw_1_41 : Cond.code yX3_init cX3_init 1 none ∈ hm_W := hm_m1 41 rfl rfl
theorem hw_1_42 : Cond.methodLink RX3 3 objectInit ∈ hm_W := hm_m1 42 (by decide +kernel) rfl
theorem hw_1_43 : Cond.classLink RX3 9 RX2 ∈ hm_W := hm_m1 43 (by decide +kernel) rfl
theorem hw_1_44 : Cond.methodLink RX3 11 yX2_init ∈ hm_W := hm_m1 44 (by decide +kernel) rfl
theorem hw_1_45 : Cond.fieldLink RX3 14 "HungMargins$Script" "signs" "LHungMargins$Row;" ∈ hm_W := hm_m1 45 (by decide +kernel) rfl
theorem hw_1_46 : Cond.fieldLink RX3 20 "HungMargins$Script" "signEnds" "LHungMargins$Row;" ∈ hm_W := hm_m1 46 (by decide +kernel) rfl
theorem hw_1_47 : Cond.fieldLink RX3 23 "HungMargins$Script" "plain" "LHungMargins$Row;" ∈ hm_W := hm_m1 47 (by decide +kernel) rfl
theorem hw_1_48 : Cond.fieldLink RX3 26 "HungMargins$Script" "plainEnds" "LHungMargins$Row;" ∈ hm_W := hm_m1 48 (by decide +kernel) rfl
theorem hw_1_49 : Cond.fieldLink RX3 29 "HungMargins$Script" "lastPlaces" "LHungMargins$Row;" ∈ hm_W := hm_m1 49 (by decide +kernel) rfl
theorem hw_1_50 : Cond.fieldLink RX3 32 "HungMargins$Script" "spelledAs" "LHungMargins$Row;" ∈ hm_W := hm_m1 50 (by decide +kernel) rfl
theorem hw_1_51 : Cond.fieldLink RX3 35 "HungMargins$Script" "firsts" "LHungMargins$Row;" ∈ hm_W := hm_m1 51 (by decide +kernel) rfl
theorem hw_1_52 : Cond.fieldLink RX3 38 "HungMargins$Script" "placeWords" "LHungMargins$Row;" ∈ hm_W := hm_m1 52 (by decide +kernel) rfl
theorem hw_1_53 : Cond.fieldLink RX3 41 "HungMargins$Script" "placePlain" "LHungMargins$Row;" ∈ hm_W := hm_m1 53 (by decide +kernel) rfl
theorem hw_1_54 : Cond.fieldLink RX3 44 "HungMargins$Script" "placeSlashes" "LHungMargins$Row;" ∈ hm_W := hm_m1 54 (by decide +kernel) rfl
theorem hw_1_76 : Cond.classLink RX7 25 RX4 ∈ hm_W := hm_m1 76 (by decide +kernel) rfl
theorem hw_1_77 : Cond.instantiable RX4 5 ∈ hm_W := hm_m1 77 (by decide +kernel) rfl
theorem hw_1_78 : Cond.methodLink RX7 27 yX4_init ∈ hm_W := hm_m1 78 (by decide +kernel) rfl
theorem hw_1_79 : Cond.instanceMethod yX4_init ∈ hm_W := hm_m1 79 (by decide +kernel) rfl
theorem hw_1_80 : Cond.code yX4_init cX4_init 1 none ∈ hm_W := hm_m1 80 rfl rfl
theorem hw_1_81 : Cond.methodLink RX4 3 objectInit ∈ hm_W := hm_m1 81 (by decide +kernel) rfl
theorem hw_1_82 : Cond.classLink RX4 15 RX2 ∈ hm_W := hm_m1 82 (by decide +kernel) rfl
theorem hw_1_83 : Cond.methodLink RX4 17 yX2_init ∈ hm_W := hm_m1 83 (by decide +kernel) rfl
theorem hw_1_84 : Cond.methodLink RX4 34 yX4_begin ∈ hm_W := hm_m1 84 (by decide +kernel) rfl
theorem hw_1_85 : Cond.instanceMethod yX4_begin ∈ hm_W := hm_m1 85 (by decide +kernel) rfl
theorem hw_1_86 : Cond.selects RX4 yX4_begin yX4_begin ∈ hm_W := hm_m1 86 (by decide +kernel) rfl
theorem hw_1_87 : Cond.code yX4_begin cX4_begin 2 none ∈ hm_W := hm_m1 87 rfl rfl
theorem hw_1_88 : Cond.methodLink RX4 37 yX4_store ∈ hm_W := hm_m1 88 (by decide +kernel) rfl
theorem hw_1_90 : Cond.instanceMethod yX4_store ∈ hm_W := hm_m1 90 (by decide +kernel) rfl
theorem hw_1_91 : Cond.code yX4_store cX4_store 3 none ∈ hm_W := hm_m1 91 rfl rfl
theorem hw_1_94 : Cond.methodLink RX4 44 yX4_loseUndone ∈ hm_W := hm_m1 94 (by decide +kernel) rfl
theorem hw_1_96 : Cond.instanceMethod yX4_loseUndone ∈ hm_W := hm_m1 96 (by decide +kernel) rfl
theorem hw_1_97 : Cond.code yX4_loseUndone cX4_loseUndone 1 none ∈ hm_W := hm_m1 97 rfl rfl
theorem hw_1_98 : Cond.methodLink RX4 47 yX2_empty ∈ hm_W := hm_m1 98 (by decide +kernel) rfl
theorem hw_1_99 : Cond.instanceMethod yX2_empty ∈ hm_W := hm_m1 99 (by decide +kernel) rfl
theorem hw_1_100 : Cond.selects RX2 yX2_empty yX2_empty ∈ hm_W := hm_m1 100 (by decide +kernel) rfl
theorem hw_1_101 : Cond.code yX2_empty cX2_empty 1 none ∈ hm_W := hm_m1 101 rfl rfl
theorem hw_1_102 : Cond.fieldLink RX4 9 "HungMargins$Settings" "values" "[I" ∈ hm_W := hm_m1 102 (by decide +kernel) rfl
theorem hw_1_103 : Cond.fieldLink RX4 20 "HungMargins$Settings" "undoSlots" "LHungMargins$Row;" ∈ hm_W := hm_m1 103 (by decide +kernel) rfl
theorem hw_1_104 : Cond.fieldLink RX4 24 "HungMargins$Settings" "undoValues" "LHungMargins$Row;" ∈ hm_W := hm_m1 104 (by decide +kernel) rfl
theorem hw_1_105 : Cond.fieldLink RX4 27 "HungMargins$Settings" "images" "[I" ∈ hm_W := hm_m1 105 (by decide +kernel) rfl
theorem hw_1_106 : Cond.fieldLink RX4 30 "HungMargins$Settings" "kept" "[Z" ∈ hm_W := hm_m1 106 (by decide +kernel) rfl
theorem hw_1_118 : Cond.arrayClass .boolean ∈ hm_W := hm_m1 118 (by decide +kernel) rfl
theorem hw_1_119 : Cond.classLink RX7 41 RX1 ∈ hm_W := hm_m1 119 (by decide +kernel) rfl
theorem hw_1_120 : Cond.instantiable RX1 9 ∈ hm_W := hm_m1 120 (by decide +kernel) rfl
theorem hw_1_122 : Cond.instanceMethod yX1_init ∈ hm_W := hm_m1 122 (by decide +kernel) rfl
theorem hw_1_123 : Cond.code yX1_init cX1_init 1 none ∈ hm_W := hm_m1 123 rfl rfl
theorem hw_1_124 : Cond.methodLink RX1 3 objectInit ∈ hm_W := hm_m1 124 (by decide +kernel) rfl
theorem hw_1_125 : Cond.classLink RX1 9 RX2 ∈ hm_W := hm_m1 125 (by decide +kernel) rfl
theorem hw_1_126 : Cond.methodLink RX1 11 yX2_init ∈ hm_W := hm_m1 126 (by decide +kernel) rfl
theorem hw_1_127 : Cond.fieldLink RX1 14 "HungMargins$Lengths" "ends" "LHungMargins$Row;" ∈ hm_W := hm_m1 127 (by decide +kernel) rfl
theorem hw_1_128 : Cond.fieldLink RX1 20 "HungMargins$Lengths" "hung" "LHungMargins$Row;" ∈ hm_W := hm_m1 128 (by decide +kernel) rfl
theorem hw_1_129 : Cond.fieldLink RX1 23 "HungMargins$Lengths" "slashes" "LHungMargins$Row;" ∈ hm_W := hm_m1 129 (by decide +kernel) rfl
theorem hw_1_130 : Cond.fieldLink RX1 26 "HungMargins$Lengths" "inWord" "LHungMargins$Row;" ∈ hm_W := hm_m1 130 (by decide +kernel) rfl
theorem hw_1_131 : Cond.fieldLink RX1 29 "HungMargins$Lengths" "begins" "LHungMargins$Row;" ∈ hm_W := hm_m1 131 (by decide +kernel) rfl
theorem hw_1_132 : Cond.fieldLink RX1 38 "HungMargins$Lengths" "gap" "I" ∈ hm_W := hm_m1 132 (by decide +kernel) rfl
theorem hw_1_133 : Cond.fieldLink RX1 42 "HungMargins$Lengths" "measure" "I" ∈ hm_W := hm_m1 133 (by decide +kernel) rfl
theorem hw_1_134 : Cond.fieldLink RX1 45 "HungMargins$Lengths" "parted" "I" ∈ hm_W := hm_m1 134 (by decide +kernel) rfl
theorem hw_1_135 : Cond.fieldLink RX1 48 "HungMargins$Lengths" "again" "I" ∈ hm_W := hm_m1 135 (by decide +kernel) rfl
theorem hw_1_155 : Cond.classLink RX7 48 RX0 ∈ hm_W := hm_m1 155 (by decide +kernel) rfl
theorem hw_1_156 : Cond.instantiable RX0 3 ∈ hm_W := hm_m1 156 (by decide +kernel) rfl
theorem hw_1_158 : Cond.instanceMethod yX0_init ∈ hm_W := hm_m1 158 (by decide +kernel) rfl
theorem hw_1_159 : Cond.code yX0_init cX0_init 1 none ∈ hm_W := hm_m1 159 rfl rfl
theorem hw_1_160 : Cond.methodLink RX0 3 objectInit ∈ hm_W := hm_m1 160 (by decide +kernel) rfl
theorem hw_1_161 : Cond.fieldLink RX0 9 "HungMargins$Breaker" "costs" "[I" ∈ hm_W := hm_m1 161 (by decide +kernel) rfl
theorem hw_1_162 : Cond.fieldLink RX0 15 "HungMargins$Breaker" "lineCounts" "[I" ∈ hm_W := hm_m1 162 (by decide +kernel) rfl
theorem hw_1_163 : Cond.fieldLink RX0 18 "HungMargins$Breaker" "nextEnds" "[I" ∈ hm_W := hm_m1 163 (by decide +kernel) rfl
theorem hw_1_171 : Cond.classLink RX7 55 RX5 ∈ hm_W := hm_m1 171 (by decide +kernel) rfl
theorem hw_1_172 : Cond.instantiable RX5 8 ∈ hm_W := hm_m1 172 (by decide +kernel) rfl
theorem hw_1_174 : Cond.instanceMethod yX5_init ∈ hm_W := hm_m1 174 (by decide +kernel) rfl
theorem hw_1_175 : Cond.code yX5_init cX5_init 1 none ∈ hm_W := hm_m1 175 rfl rfl
theorem hw_1_176 : Cond.methodLink RX5 3 objectInit ∈ hm_W := hm_m1 176 (by decide +kernel) rfl
theorem hw_1_177 : Cond.classLink RX5 9 RX2 ∈ hm_W := hm_m1 177 (by decide +kernel) rfl
theorem hw_1_178 : Cond.methodLink RX5 11 yX2_init ∈ hm_W := hm_m1 178 (by decide +kernel) rfl
theorem hw_1_179 : Cond.fieldLink RX5 14 "HungMargins$Sheet" "ends" "LHungMargins$Row;" ∈ hm_W := hm_m1 179 (by decide +kernel) rfl
theorem hw_1_180 : Cond.fieldLink RX5 20 "HungMargins$Sheet" "firstBlanks" "LHungMargins$Row;" ∈ hm_W := hm_m1 180 (by decide +kernel) rfl
theorem hw_1_181 : Cond.fieldLink RX5 23 "HungMargins$Sheet" "blankBegins" "LHungMargins$Row;" ∈ hm_W := hm_m1 181 (by decide +kernel) rfl
theorem hw_1_182 : Cond.fieldLink RX5 26 "HungMargins$Sheet" "blankEnds" "LHungMargins$Row;" ∈ hm_W := hm_m1 182 (by decide +kernel) rfl
theorem hw_1_183 : Cond.fieldLink RX5 29 "HungMargins$Sheet" "longs" "LHungMargins$Row;" ∈ hm_W := hm_m1 183 (by decide +kernel) rfl
theorem hw_1_184 : Cond.fieldLink RX5 32 "HungMargins$Sheet" "springs" "LHungMargins$Row;" ∈ hm_W := hm_m1 184 (by decide +kernel) rfl
theorem hw_1_185 : Cond.fieldLink RX5 44 "HungMargins$Sheet" "there" "Z" ∈ hm_W := hm_m1 185 (by decide +kernel) rfl
theorem hw_1_186 : Cond.fieldLink RX5 52 "HungMargins$Sheet" "cost" "I" ∈ hm_W := hm_m1 186 (by decide +kernel) rfl
theorem hw_1_204 : Cond.classLink RX7 62 RX6 ∈ hm_W := hm_m1 204 (by decide +kernel) rfl
theorem hw_1_205 : Cond.instantiable RX6 3 ∈ hm_W := hm_m1 205 (by decide +kernel) rfl
theorem hw_1_207 : Cond.instanceMethod yX6_init ∈ hm_W := hm_m1 207 (by decide +kernel) rfl
theorem hw_1_208 : Cond.code yX6_init cX6_init 1 none ∈ hm_W := hm_m1 208 rfl rfl
theorem hw_1_209 : Cond.methodLink RX6 3 objectInit ∈ hm_W := hm_m1 209 (by decide +kernel) rfl
theorem hw_1_210 : Cond.fieldLink RX6 9 "HungMargins$Survey" "there" "[Z" ∈ hm_W := hm_m1 210 (by decide +kernel) rfl
theorem hw_1_211 : Cond.fieldLink RX6 15 "HungMargins$Survey" "ends" "[J" ∈ hm_W := hm_m1 211 (by decide +kernel) rfl
theorem hw_1_212 : Cond.fieldLink RX6 19 "HungMargins$Survey" "picks" "[Z" ∈ hm_W := hm_m1 212 (by decide +kernel) rfl
theorem hw_1_220 : Cond.arrayClass .long ∈ hm_W := hm_m1 220 (by decide +kernel) rfl
theorem hw_1_221 : Cond.fieldLink RX7 14 "HungMargins" "text" "LHungMargins$Row;" ∈ hm_W := hm_m1 221 (by decide +kernel) rfl
theorem hw_1_222 : Cond.fieldLink RX7 21 "HungMargins" "script" "LHungMargins$Script;" ∈ hm_W := hm_m1 222 (by decide +kernel) rfl
theorem hw_1_223 : Cond.fieldLink RX7 28 "HungMargins" "settings" "LHungMargins$Settings;" ∈ hm_W := hm_m1 223 (by decide +kernel) rfl
theorem hw_1_224 : Cond.fieldLink RX7 32 "HungMargins" "draft" "LHungMargins$Row;" ∈ hm_W := hm_m1 224 (by decide +kernel) rfl
theorem hw_1_225 : Cond.fieldLink RX7 35 "HungMargins" "seenWords" "LHungMargins$Row;" ∈ hm_W := hm_m1 225 (by decide +kernel) rfl
theorem hw_1_226 : Cond.fieldLink RX7 38 "HungMargins" "seenBegins" "LHungMargins$Row;" ∈ hm_W := hm_m1 226 (by decide +kernel) rfl
theorem hw_1_227 : Cond.fieldLink RX7 44 "HungMargins" "lengths" "LHungMargins$Lengths;" ∈ hm_W := hm_m1 227 (by decide +kernel) rfl
theorem hw_1_228 : Cond.fieldLink RX7 51 "HungMargins" "breaker" "LHungMargins$Breaker;" ∈ hm_W := hm_m1 228 (by decide +kernel) rfl
theorem hw_1_229 : Cond.fieldLink RX7 58 "HungMargins" "sheet" "LHungMargins$Sheet;" ∈ hm_W := hm_m1 229 (by decide +kernel) rfl
theorem hw_1_230 : Cond.fieldLink RX7 65 "HungMargins" "survey" "LHungMargins$Survey;" ∈ hm_W := hm_m1 230 (by decide +kernel) rfl
theorem hw_1_231 : Cond.fieldLink RX7 69 "HungMargins" "sheetStale" "Z" ∈ hm_W := hm_m1 231 (by decide +kernel) rfl
theorem hw_1_232 : Cond.fieldLink RX7 73 "HungMargins" "surveyStale" "Z" ∈ hm_W := hm_m1 232 (by decide +kernel) rfl
theorem hw_2_18 : Cond.methodLink RL 13 yX7_type ∈ hm_W := hm_m2 18 (by decide +kernel) rfl
theorem hw_2_19 : Cond.instanceMethod yX7_type ∈ hm_W := hm_m2 19 (by decide +kernel) rfl
theorem hw_2_20 : Cond.selects RX7 yX7_type yX7_type ∈ hm_W := hm_m2 20 (by decide +kernel) rfl
theorem hw_2_21 : Cond.code yX7_type cX7_type 2 (some .int) ∈ hm_W := hm_m2 21 rfl rfl
theorem hw_2_22 : Cond.methodLink RX7 76 yX2_add ∈ hm_W := hm_m2 22 (by decide +kernel) rfl
theorem hw_2_23 : Cond.instanceMethod yX2_add ∈ hm_W := hm_m2 23 (by decide +kernel) rfl
theorem hw_2_24 : Cond.selects RX2 yX2_add yX2_add ∈ hm_W := hm_m2 24 (by decide +kernel) rfl
theorem hw_2_25 : Cond.code yX2_add cX2_add 2 (some .boolean) ∈ hm_W := hm_m2 25 rfl rfl
theorem hw_2_26 : Cond.methodLink RX7 80 yX2_size ∈ hm_W := hm_m2 26 (by decide +kernel) rfl
theorem hw_2_27 : Cond.instanceMethod yX2_size ∈ hm_W := hm_m2 27 (by decide +kernel) rfl
theorem hw_2_28 : Cond.selects RX2 yX2_size yX2_size ∈ hm_W := hm_m2 28 (by decide +kernel) rfl
theorem hw_2_29 : Cond.code yX2_size cX2_size 1 (some .int) ∈ hm_W := hm_m2 29 rfl rfl
theorem hw_2_30 : Cond.methodLink RL 18 yX7_clear ∈ hm_W := hm_m2 30 (by decide +kernel) rfl
theorem hw_2_31 : Cond.instanceMethod yX7_clear ∈ hm_W := hm_m2 31 (by decide +kernel) rfl
theorem hw_2_32 : Cond.selects RX7 yX7_clear yX7_clear ∈ hm_W := hm_m2 32 (by decide +kernel) rfl
theorem hw_2_33 : Cond.code yX7_clear cX7_clear 2 (some .int) ∈ hm_W := hm_m2 33 rfl rfl
theorem hw_2_34 : Cond.methodLink RX7 84 yX2_empty ∈ hm_W := hm_m2 34 (by decide +kernel) rfl
theorem hw_2_35 : Cond.methodLink RL 23 yX7_words ∈ hm_W := hm_m2 35 (by decide +kernel) rfl
theorem hw_2_36 : Cond.instanceMethod yX7_words ∈ hm_W := hm_m2 36 (by decide +kernel) rfl
theorem hw_2_37 : Cond.selects RX7 yX7_words yX7_words ∈ hm_W := hm_m2 37 (by decide +kernel) rfl
theorem hw_2_38 : Cond.code yX7_words cX7_words 2 (some .int) ∈ hm_W := hm_m2 38 rfl rfl
theorem hw_2_39 : Cond.methodLink RX7 87 yX7_faultOf ∈ hm_W := hm_m2 39 (by decide +kernel) rfl
theorem hw_2_40 : Cond.static yX7_faultOf ∈ hm_W := hm_m2 40 (by decide +kernel) rfl
theorem hw_2_41 : Cond.code yX7_faultOf cX7_faultOf 5 (some .int) ∈ hm_W := hm_m2 41 rfl rfl
theorem hw_2_42 : Cond.methodLink RX7 252 yX2_get ∈ hm_W := hm_m2 42 (by decide +kernel) rfl
theorem hw_2_43 : Cond.instanceMethod yX2_get ∈ hm_W := hm_m2 43 (by decide +kernel) rfl
theorem hw_2_44 : Cond.selects RX2 yX2_get yX2_get ∈ hm_W := hm_m2 44 (by decide +kernel) rfl
theorem hw_2_45 : Cond.code yX2_get cX2_get 2 (some .int) ∈ hm_W := hm_m2 45 rfl rfl
theorem hw_2_46 : Cond.methodLink RX7 277 yX7_isBetweenSigns ∈ hm_W := hm_m2 46 (by decide +kernel) rfl
theorem hw_2_47 : Cond.static yX7_isBetweenSigns ∈ hm_W := hm_m2 47 (by decide +kernel) rfl
theorem hw_2_48 : Cond.code yX7_isBetweenSigns cX7_isBetweenSigns 2 (some .boolean) ∈ hm_W := hm_m2 48 rfl rfl
theorem hw_2_49 : Cond.methodLink RX7 281 yX7_isPlainSign ∈ hm_W := hm_m2 49 (by decide +kernel) rfl
theorem hw_2_50 : Cond.static yX7_isPlainSign ∈ hm_W := hm_m2 50 (by decide +kernel) rfl
theorem hw_2_51 : Cond.code yX7_isPlainSign cX7_isPlainSign 1 (some .boolean) ∈ hm_W := hm_m2 51 rfl rfl
theorem hw_2_52 : Cond.methodLink RX7 130 yX7_widthSlot ∈ hm_W := hm_m2 52 (by decide +kernel) rfl
theorem hw_2_53 : Cond.static yX7_widthSlot ∈ hm_W := hm_m2 53 (by decide +kernel) rfl
theorem hw_2_54 : Cond.code yX7_widthSlot cX7_widthSlot 2 (some .int) ∈ hm_W := hm_m2 54 rfl rfl
theorem hw_2_55 : Cond.methodLink RX7 271 yX7_isLetter ∈ hm_W := hm_m2 55 (by decide +kernel) rfl
theorem hw_2_56 : Cond.static yX7_isLetter ∈ hm_W := hm_m2 56 (by decide +kernel) rfl
theorem hw_2_57 : Cond.code yX7_isLetter cX7_isLetter 1 (some .boolean) ∈ hm_W := hm_m2 57 rfl rfl
theorem hw_2_58 : Cond.methodLink RX7 274 yX7_markNumber ∈ hm_W := hm_m2 58 (by decide +kernel) rfl
theorem hw_2_59 : Cond.static yX7_markNumber ∈ hm_W := hm_m2 59 (by decide +kernel) rfl
theorem hw_2_60 : Cond.code yX7_markNumber cX7_markNumber 1 (some .int) ∈ hm_W := hm_m2 60 rfl rfl
theorem hw_2_61 : Cond.methodLink RX7 91 yX3_read ∈ hm_W := hm_m2 61 (by decide +kernel) rfl
theorem hw_2_62 : Cond.instanceMethod yX3_read ∈ hm_W := hm_m2 62 (by decide +kernel) rfl
theorem hw_2_63 : Cond.selects RX3 yX3_read yX3_read ∈ hm_W := hm_m2 63 (by decide +kernel) rfl
theorem hw_2_64 : Cond.code yX3_read cX3_read 4 none ∈ hm_W := hm_m2 64 rfl rfl
theorem hw_2_65 : Cond.methodLink RX3 47 yX3_forgetAll ∈ hm_W := hm_m2 65 (by decide +kernel) rfl
theorem hw_2_67 : Cond.instanceMethod yX3_forgetAll ∈ hm_W := hm_m2 67 (by decide +kernel) rfl
theorem hw_2_68 : Cond.code yX3_forgetAll cX3_forgetAll 1 none ∈ hm_W := hm_m2 68 rfl rfl
theorem hw_2_69 : Cond.methodLink RX3 68 yX2_empty ∈ hm_W := hm_m2 69 (by decide +kernel) rfl
theorem hw_2_70 : Cond.methodLink RX3 50 yX2_size ∈ hm_W := hm_m2 70 (by decide +kernel) rfl
theorem hw_2_71 : Cond.methodLink RX3 54 yX2_get ∈ hm_W := hm_m2 71 (by decide +kernel) rfl
theorem hw_2_72 : Cond.methodLink RX3 58 yX2_add ∈ hm_W := hm_m2 72 (by decide +kernel) rfl
theorem hw_2_73 : Cond.methodLink RX3 62 yX3_addPlace ∈ hm_W := hm_m2 73 (by decide +kernel) rfl
theorem hw_2_75 : Cond.instanceMethod yX3_addPlace ∈ hm_W := hm_m2 75 (by decide +kernel) rfl
theorem hw_2_76 : Cond.code yX3_addPlace cX3_addPlace 3 none ∈ hm_W := hm_m2 76 rfl rfl
theorem hw_2_77 : Cond.methodLink RX3 71 yX3_wordCount ∈ hm_W := hm_m2 77 (by decide +kernel) rfl
theorem hw_2_78 : Cond.instanceMethod yX3_wordCount ∈ hm_W := hm_m2 78 (by decide +kernel) rfl
theorem hw_2_79 : Cond.selects RX3 yX3_wordCount yX3_wordCount ∈ hm_W := hm_m2 79 (by decide +kernel) rfl
theorem hw_2_80 : Cond.code yX3_wordCount cX3_wordCount 1 (some .int) ∈ hm_W := hm_m2 80 rfl rfl
theorem hw_2_81 : Cond.methodLink RX3 74 yX3_startOf ∈ hm_W := hm_m2 81 (by decide +kernel) rfl
theorem hw_2_82 : Cond.static yX3_startOf ∈ hm_W := hm_m2 82 (by decide +kernel) rfl
theorem hw_2_83 : Cond.code yX3_startOf cX3_startOf 2 (some .int) ∈ hm_W := hm_m2 83 rfl rfl
theorem hw_2_84 : Cond.methodLink RX3 65 yX3_endWord ∈ hm_W := hm_m2 84 (by decide +kernel) rfl
theorem hw_2_86 : Cond.instanceMethod yX3_endWord ∈ hm_W := hm_m2 86 (by decide +kernel) rfl
theorem hw_2_87 : Cond.code yX3_endWord cX3_endWord 3 none ∈ hm_W := hm_m2 87 rfl rfl
theorem hw_2_88 : Cond.methodLink RX3 78 yX3_placeCount ∈ hm_W := hm_m2 88 (by decide +kernel) rfl
theorem hw_2_89 : Cond.instanceMethod yX3_placeCount ∈ hm_W := hm_m2 89 (by decide +kernel) rfl
theorem hw_2_90 : Cond.selects RX3 yX3_placeCount yX3_placeCount ∈ hm_W := hm_m2 90 (by decide +kernel) rfl
theorem hw_2_91 : Cond.code yX3_placeCount cX3_placeCount 1 (some .int) ∈ hm_W := hm_m2 91 rfl rfl
theorem hw_2_92 : Cond.methodLink RX3 81 yX3_firstLike ∈ hm_W := hm_m2 92 (by decide +kernel) rfl
theorem hw_2_94 : Cond.instanceMethod yX3_firstLike ∈ hm_W := hm_m2 94 (by decide +kernel) rfl
theorem hw_2_95 : Cond.code yX3_firstLike cX3_firstLike 3 (some .int) ∈ hm_W := hm_m2 95 rfl rfl
theorem hw_2_96 : Cond.methodLink RX3 84 yX3_areSpelledAlike ∈ hm_W := hm_m2 96 (by decide +kernel) rfl
theorem hw_2_98 : Cond.instanceMethod yX3_areSpelledAlike ∈ hm_W := hm_m2 98 (by decide +kernel) rfl
theorem hw_2_99 : Cond.code yX3_areSpelledAlike cX3_areSpelledAlike 7 (some .boolean) ∈ hm_W := hm_m2 99 rfl rfl
theorem hw_2_100 : Cond.methodLink RX7 95 yX4_begin ∈ hm_W := hm_m2 100 (by decide +kernel) rfl
theorem hw_2_101 : Cond.methodLink RX7 98 yX3_wordCount ∈ hm_W := hm_m2 101 (by decide +kernel) rfl
theorem hw_2_102 : Cond.methodLink RL 27 yX7_word ∈ hm_W := hm_m2 102 (by decide +kernel) rfl
theorem hw_2_103 : Cond.instanceMethod yX7_word ∈ hm_W := hm_m2 103 (by decide +kernel) rfl
theorem hw_2_104 : Cond.selects RX7 yX7_word yX7_word ∈ hm_W := hm_m2 104 (by decide +kernel) rfl
theorem hw_2_105 : Cond.code yX7_word cX7_word 3 (some .int) ∈ hm_W := hm_m2 105 rfl rfl
theorem hw_2_106 : Cond.methodLink RX7 101 yX3_signCount ∈ hm_W := hm_m2 106 (by decide +kernel) rfl
theorem hw_2_107 : Cond.instanceMethod yX3_signCount ∈ hm_W := hm_m2 107 (by decide +kernel) rfl
theorem hw_2_108 : Cond.selects RX3 yX3_signCount yX3_signCount ∈ hm_W := hm_m2 108 (by decide +kernel) rfl
theorem hw_2_109 : Cond.code yX3_signCount cX3_signCount 2 (some .int) ∈ hm_W := hm_m2 109 rfl rfl
theorem hw_2_110 : Cond.methodLink RX7 105 yX3_signOf ∈ hm_W := hm_m2 110 (by decide +kernel) rfl
theorem hw_2_111 : Cond.instanceMethod yX3_signOf ∈ hm_W := hm_m2 111 (by decide +kernel) rfl
theorem hw_2_112 : Cond.selects RX3 yX3_signOf yX3_signOf ∈ hm_W := hm_m2 112 (by decide +kernel) rfl
theorem hw_2_113 : Cond.code yX3_signOf cX3_signOf 3 (some .int) ∈ hm_W := hm_m2 113 rfl rfl
theorem hw_2_114 : Cond.methodLink RL 32 yX7_different ∈ hm_W := hm_m2 114 (by decide +kernel) rfl
theorem hw_2_115 : Cond.instanceMethod yX7_different ∈ hm_W := hm_m2 115 (by decide +kernel) rfl
theorem hw_2_116 : Cond.selects RX7 yX7_different yX7_different ∈ hm_W := hm_m2 116 (by decide +kernel) rfl
theorem hw_2_117 : Cond.code yX7_different cX7_different 3 (some .int) ∈ hm_W := hm_m2 117 rfl rfl
theorem hw_2_118 : Cond.methodLink RX7 109 yX3_spellings ∈ hm_W := hm_m2 118 (by decide +kernel) rfl
theorem hw_2_119 : Cond.instanceMethod yX3_spellings ∈ hm_W := hm_m2 119 (by decide +kernel) rfl
theorem hw_2_120 : Cond.selects RX3 yX3_spellings yX3_spellings ∈ hm_W := hm_m2 120 (by decide +kernel) rfl
theorem hw_2_121 : Cond.code yX3_spellings cX3_spellings 1 (some .int) ∈ hm_W := hm_m2 121 rfl rfl
theorem hw_2_122 : Cond.methodLink RX7 112 yX3_firstSpelled ∈ hm_W := hm_m2 122 (by decide +kernel) rfl
theorem hw_2_123 : Cond.instanceMethod yX3_firstSpelled ∈ hm_W := hm_m2 123 (by decide +kernel) rfl
theorem hw_2_124 : Cond.selects RX3 yX3_firstSpelled yX3_firstSpelled ∈ hm_W := hm_m2 124 (by decide +kernel) rfl
theorem hw_2_125 : Cond.code yX3_firstSpelled cX3_firstSpelled 2 (some .int) ∈ hm_W := hm_m2 125 rfl rfl
theorem hw_2_126 : Cond.methodLink RX7 115 yX3_timesSpelled ∈ hm_W := hm_m2 126 (by decide +kernel) rfl
theorem hw_2_127 : Cond.instanceMethod yX3_timesSpelled ∈ hm_W := hm_m2 127 (by decide +kernel) rfl
theorem hw_2_128 : Cond.selects RX3 yX3_timesSpelled yX3_timesSpelled ∈ hm_W := hm_m2 128 (by decide +kernel) rfl
theorem hw_2_129 : Cond.code yX3_timesSpelled cX3_timesSpelled 4 (some .int) ∈ hm_W := hm_m2 129 rfl rfl
theorem hw_2_130 : Cond.methodLink RL 36 yX7_place ∈ hm_W := hm_m2 130 (by decide +kernel) rfl
theorem hw_2_131 : Cond.instanceMethod yX7_place ∈ hm_W := hm_m2 131 (by decide +kernel) rfl
theorem hw_2_132 : Cond.selects RX7 yX7_place yX7_place ∈ hm_W := hm_m2 132 (by decide +kernel) rfl
theorem hw_2_133 : Cond.code yX7_place cX7_place 3 (some .int) ∈ hm_W := hm_m2 133 rfl rfl
theorem hw_2_134 : Cond.methodLink RX7 118 yX7_isPlace ∈ hm_W := hm_m2 134 (by decide +kernel) rfl
theorem hw_2_136 : Cond.instanceMethod yX7_isPlace ∈ hm_W := hm_m2 136 (by decide +kernel) rfl
theorem hw_2_137 : Cond.code yX7_isPlace cX7_isPlace 2 (some .boolean) ∈ hm_W := hm_m2 137 rfl rfl
theorem hw_2_138 : Cond.methodLink RX7 249 yX3_placeCount ∈ hm_W := hm_m2 138 (by decide +kernel) rfl
theorem hw_2_139 : Cond.methodLink RX7 121 yX3_wordAt ∈ hm_W := hm_m2 139 (by decide +kernel) rfl
theorem hw_2_140 : Cond.instanceMethod yX3_wordAt ∈ hm_W := hm_m2 140 (by decide +kernel) rfl
theorem hw_2_141 : Cond.selects RX3 yX3_wordAt yX3_wordAt ∈ hm_W := hm_m2 141 (by decide +kernel) rfl
theorem hw_2_142 : Cond.code yX3_wordAt cX3_wordAt 2 (some .int) ∈ hm_W := hm_m2 142 rfl rfl
theorem hw_2_143 : Cond.methodLink RX7 124 yX3_plainAhead ∈ hm_W := hm_m2 143 (by decide +kernel) rfl
theorem hw_2_144 : Cond.instanceMethod yX3_plainAhead ∈ hm_W := hm_m2 144 (by decide +kernel) rfl
theorem hw_2_145 : Cond.selects RX3 yX3_plainAhead yX3_plainAhead ∈ hm_W := hm_m2 145 (by decide +kernel) rfl
theorem hw_2_146 : Cond.code yX3_plainAhead cX3_plainAhead 2 (some .int) ∈ hm_W := hm_m2 146 rfl rfl
theorem hw_2_147 : Cond.methodLink RX7 127 yX3_isSlashAt ∈ hm_W := hm_m2 147 (by decide +kernel) rfl
theorem hw_2_148 : Cond.instanceMethod yX3_isSlashAt ∈ hm_W := hm_m2 148 (by decide +kernel) rfl
theorem hw_2_149 : Cond.selects RX3 yX3_isSlashAt yX3_isSlashAt ∈ hm_W := hm_m2 149 (by decide +kernel) rfl
theorem hw_2_150 : Cond.code yX3_isSlashAt cX3_isSlashAt 2 (some .boolean) ∈ hm_W := hm_m2 150 rfl rfl
theorem hw_2_151 : Cond.methodLink RL 40 yX7_wide ∈ hm_W := hm_m2 151 (by decide +kernel) rfl
theorem hw_2_152 : Cond.instanceMethod yX7_wide ∈ hm_W := hm_m2 152 (by decide +kernel) rfl
theorem hw_2_153 : Cond.selects RX7 yX7_wide yX7_wide ∈ hm_W := hm_m2 153 (by decide +kernel) rfl
theorem hw_2_154 : Cond.code yX7_wide cX7_wide 4 (some .int) ∈ hm_W := hm_m2 154 rfl rfl
theorem hw_2_155 : Cond.methodLink RX7 133 yX7_change ∈ hm_W := hm_m2 155 (by decide +kernel) rfl
theorem hw_2_157 : Cond.instanceMethod yX7_change ∈ hm_W := hm_m2 157 (by decide +kernel) rfl
theorem hw_2_158 : Cond.code yX7_change cX7_change 4 (some .int) ∈ hm_W := hm_m2 158 rfl rfl
theorem hw_2_159 : Cond.methodLink RX7 227 yX4_get ∈ hm_W := hm_m2 159 (by decide +kernel) rfl
theorem hw_2_160 : Cond.instanceMethod yX4_get ∈ hm_W := hm_m2 160 (by decide +kernel) rfl
theorem hw_2_161 : Cond.selects RX4 yX4_get yX4_get ∈ hm_W := hm_m2 161 (by decide +kernel) rfl
theorem hw_2_162 : Cond.code yX4_get cX4_get 2 (some .int) ∈ hm_W := hm_m2 162 rfl rfl
theorem hw_2_163 : Cond.methodLink RX7 253 yX4_change ∈ hm_W := hm_m2 163 (by decide +kernel) rfl
theorem hw_2_164 : Cond.instanceMethod yX4_change ∈ hm_W := hm_m2 164 (by decide +kernel) rfl
theorem hw_2_165 : Cond.selects RX4 yX4_change yX4_change ∈ hm_W := hm_m2 165 (by decide +kernel) rfl
theorem hw_2_166 : Cond.code yX4_change cX4_change 3 none ∈ hm_W := hm_m2 166 rfl rfl
theorem hw_2_167 : Cond.methodLink RX4 60 yX2_size ∈ hm_W := hm_m2 167 (by decide +kernel) rfl
theorem hw_2_168 : Cond.methodLink RX4 64 yX2_dropFirst ∈ hm_W := hm_m2 168 (by decide +kernel) rfl
theorem hw_2_169 : Cond.instanceMethod yX2_dropFirst ∈ hm_W := hm_m2 169 (by decide +kernel) rfl
theorem hw_2_170 : Cond.selects RX2 yX2_dropFirst yX2_dropFirst ∈ hm_W := hm_m2 170 (by decide +kernel) rfl
theorem hw_2_171 : Cond.code yX2_dropFirst cX2_dropFirst 2 none ∈ hm_W := hm_m2 171 rfl rfl
theorem hw_2_172 : Cond.methodLink RX2 23 yX2_get ∈ hm_W := hm_m2 172 (by decide +kernel) rfl
theorem hw_2_173 : Cond.methodLink RX2 27 yX2_set ∈ hm_W := hm_m2 173 (by decide +kernel) rfl
theorem hw_2_174 : Cond.instanceMethod yX2_set ∈ hm_W := hm_m2 174 (by decide +kernel) rfl
theorem hw_2_175 : Cond.selects RX2 yX2_set yX2_set ∈ hm_W := hm_m2 175 (by decide +kernel) rfl
theorem hw_2_176 : Cond.code yX2_set cX2_set 3 none ∈ hm_W := hm_m2 176 rfl rfl
theorem hw_2_177 : Cond.methodLink RX2 31 yX2_drop ∈ hm_W := hm_m2 177 (by decide +kernel) rfl
theorem hw_2_178 : Cond.instanceMethod yX2_drop ∈ hm_W := hm_m2 178 (by decide +kernel) rfl
theorem hw_2_179 : Cond.selects RX2 yX2_drop yX2_drop ∈ hm_W := hm_m2 179 (by decide +kernel) rfl
theorem hw_2_180 : Cond.code yX2_drop cX2_drop 1 none ∈ hm_W := hm_m2 180 rfl rfl
theorem hw_2_181 : Cond.methodLink RX4 67 yX2_add ∈ hm_W := hm_m2 181 (by decide +kernel) rfl
theorem hw_2_182 : Cond.methodLink RX4 54 yX4_get ∈ hm_W := hm_m2 182 (by decide +kernel) rfl
theorem hw_2_183 : Cond.methodLink RX7 152 yX7_markStale ∈ hm_W := hm_m2 183 (by decide +kernel) rfl
theorem hw_2_185 : Cond.instanceMethod yX7_markStale ∈ hm_W := hm_m2 185 (by decide +kernel) rfl
theorem hw_2_186 : Cond.code yX7_markStale cX7_markStale 2 none ∈ hm_W := hm_m2 186 rfl rfl
theorem hw_2_187 : Cond.methodLink RL 44 yX7_hangs ∈ hm_W := hm_m2 187 (by decide +kernel) rfl
theorem hw_2_188 : Cond.instanceMethod yX7_hangs ∈ hm_W := hm_m2 188 (by decide +kernel) rfl
theorem hw_2_189 : Cond.selects RX7 yX7_hangs yX7_hangs ∈ hm_W := hm_m2 189 (by decide +kernel) rfl
theorem hw_2_190 : Cond.code yX7_hangs cX7_hangs 4 (some .int) ∈ hm_W := hm_m2 190 rfl rfl
theorem hw_2_191 : Cond.methodLink RX7 136 yX7_hangSlot ∈ hm_W := hm_m2 191 (by decide +kernel) rfl
theorem hw_2_192 : Cond.static yX7_hangSlot ∈ hm_W := hm_m2 192 (by decide +kernel) rfl
theorem hw_2_193 : Cond.code yX7_hangSlot cX7_hangSlot 2 (some .int) ∈ hm_W := hm_m2 193 rfl rfl
theorem hw_2_194 : Cond.methodLink RL 48 yX7_sets ∈ hm_W := hm_m2 194 (by decide +kernel) rfl
theorem hw_2_195 : Cond.instanceMethod yX7_sets ∈ hm_W := hm_m2 195 (by decide +kernel) rfl
theorem hw_2_196 : Cond.selects RX7 yX7_sets yX7_sets ∈ hm_W := hm_m2 196 (by decide +kernel) rfl
theorem hw_2_197 : Cond.code yX7_sets cX7_sets 3 (some .int) ∈ hm_W := hm_m2 197 rfl rfl
theorem hw_2_198 : Cond.fieldLink RX7 139 "HungMargins" "LEAST_SET" "[I" ∈ hm_W := hm_m2 198 (by decide +kernel) rfl
theorem hw_2_200 : Cond.fieldLink RX7 143 "HungMargins" "GREATEST_SET" "[I" ∈ hm_W := hm_m2 200 (by decide +kernel) rfl
theorem hw_2_202 : Cond.methodLink RL 52 yX7_undo ∈ hm_W := hm_m2 202 (by decide +kernel) rfl
theorem hw_2_203 : Cond.instanceMethod yX7_undo ∈ hm_W := hm_m2 203 (by decide +kernel) rfl
theorem hw_2_204 : Cond.selects RX7 yX7_undo yX7_undo ∈ hm_W := hm_m2 204 (by decide +kernel) rfl
theorem hw_2_205 : Cond.code yX7_undo cX7_undo 1 (some .int) ∈ hm_W := hm_m2 205 rfl rfl
theorem hw_2_206 : Cond.methodLink RX7 146 yX4_undoable ∈ hm_W := hm_m2 206 (by decide +kernel) rfl
theorem hw_2_207 : Cond.instanceMethod yX4_undoable ∈ hm_W := hm_m2 207 (by decide +kernel) rfl
theorem hw_2_208 : Cond.selects RX4 yX4_undoable yX4_undoable ∈ hm_W := hm_m2 208 (by decide +kernel) rfl
theorem hw_2_209 : Cond.code yX4_undoable cX4_undoable 1 (some .int) ∈ hm_W := hm_m2 209 rfl rfl
theorem hw_2_210 : Cond.methodLink RX7 149 yX4_takeBack ∈ hm_W := hm_m2 210 (by decide +kernel) rfl
theorem hw_2_211 : Cond.instanceMethod yX4_takeBack ∈ hm_W := hm_m2 211 (by decide +kernel) rfl
theorem hw_2_212 : Cond.selects RX4 yX4_takeBack yX4_takeBack ∈ hm_W := hm_m2 212 (by decide +kernel) rfl
theorem hw_2_213 : Cond.code yX4_takeBack cX4_takeBack 3 (some .int) ∈ hm_W := hm_m2 213 rfl rfl
theorem hw_2_214 : Cond.methodLink RX4 71 yX2_get ∈ hm_W := hm_m2 214 (by decide +kernel) rfl
theorem hw_2_215 : Cond.methodLink RX4 72 yX2_drop ∈ hm_W := hm_m2 215 (by decide +kernel) rfl
theorem hw_2_216 : Cond.methodLink RL 56 yX7_page ∈ hm_W := hm_m2 216 (by decide +kernel) rfl
theorem hw_2_217 : Cond.instanceMethod yX7_page ∈ hm_W := hm_m2 217 (by decide +kernel) rfl
theorem hw_2_218 : Cond.selects RX7 yX7_page yX7_page ∈ hm_W := hm_m2 218 (by decide +kernel) rfl
theorem hw_2_219 : Cond.code yX7_page cX7_page 2 (some .int) ∈ hm_W := hm_m2 219 rfl rfl
theorem hw_2_220 : Cond.methodLink RX7 155 yX7_freshen ∈ hm_W := hm_m2 220 (by decide +kernel) rfl
theorem hw_2_222 : Cond.instanceMethod yX7_freshen ∈ hm_W := hm_m2 222 (by decide +kernel) rfl
theorem hw_2_223 : Cond.code yX7_freshen cX7_freshen 1 none ∈ hm_W := hm_m2 223 rfl rfl
theorem hw_2_224 : Cond.methodLink RX7 256 yX1_take ∈ hm_W := hm_m2 224 (by decide +kernel) rfl
theorem hw_2_225 : Cond.instanceMethod yX1_take ∈ hm_W := hm_m2 225 (by decide +kernel) rfl
theorem hw_2_226 : Cond.selects RX1 yX1_take yX1_take ∈ hm_W := hm_m2 226 (by decide +kernel) rfl
theorem hw_2_227 : Cond.code yX1_take cX1_take 5 none ∈ hm_W := hm_m2 227 rfl rfl
theorem hw_2_228 : Cond.methodLink RX1 32 yX4_get ∈ hm_W := hm_m2 228 (by decide +kernel) rfl
theorem hw_2_229 : Cond.methodLink RX1 51 yX2_empty ∈ hm_W := hm_m2 229 (by decide +kernel) rfl
theorem hw_2_230 : Cond.methodLink RX1 54 yX2_add ∈ hm_W := hm_m2 230 (by decide +kernel) rfl
theorem hw_2_231 : Cond.methodLink RX1 58 yX3_wordCount ∈ hm_W := hm_m2 231 (by decide +kernel) rfl
theorem hw_2_232 : Cond.methodLink RX1 64 yX1_takeWord ∈ hm_W := hm_m2 232 (by decide +kernel) rfl
theorem hw_2_234 : Cond.instanceMethod yX1_takeWord ∈ hm_W := hm_m2 234 (by decide +kernel) rfl
theorem hw_2_235 : Cond.code yX1_takeWord cX1_takeWord 8 (some .int) ∈ hm_W := hm_m2 235 rfl rfl
theorem hw_2_236 : Cond.methodLink RX1 68 yX3_signCount ∈ hm_W := hm_m2 236 (by decide +kernel) rfl
theorem hw_2_237 : Cond.methodLink RX1 71 yX3_signOf ∈ hm_W := hm_m2 237 (by decide +kernel) rfl
theorem hw_2_238 : Cond.methodLink RX1 75 yX4_widthOf ∈ hm_W := hm_m2 238 (by decide +kernel) rfl
theorem hw_2_239 : Cond.instanceMethod yX4_widthOf ∈ hm_W := hm_m2 239 (by decide +kernel) rfl
theorem hw_3_0 : Cond.selects RX4 yX4_widthOf yX4_widthOf ∈ hm_W := hm_m3 0 (by decide +kernel) rfl
theorem hw_3_1 : Cond.code yX4_widthOf cX4_widthOf 2 (some .int) ∈ hm_W := hm_m3 1 rfl rfl
theorem hw_3_3 : Cond.methodLink RX1 78 yX4_hungOf ∈ hm_W := hm_m3 3 (by decide +kernel) rfl
theorem hw_3_4 : Cond.instanceMethod yX4_hungOf ∈ hm_W := hm_m3 4 (by decide +kernel) rfl
theorem hw_3_5 : Cond.selects RX4 yX4_hungOf yX4_hungOf ∈ hm_W := hm_m3 5 (by decide +kernel) rfl
theorem hw_3_6 : Cond.code yX4_hungOf cX4_hungOf 2 (some .int) ∈ hm_W := hm_m3 6 rfl rfl
theorem hw_3_8 : Cond.methodLink RX1 81 yX1_addPlace ∈ hm_W := hm_m3 8 (by decide +kernel) rfl
theorem hw_3_10 : Cond.instanceMethod yX1_addPlace ∈ hm_W := hm_m3 10 (by decide +kernel) rfl
theorem hw_3_11 : Cond.code yX1_addPlace cX1_addPlace 6 none ∈ hm_W := hm_m3 11 rfl rfl
theorem hw_3_12 : Cond.methodLink RX7 260 yX0_solve ∈ hm_W := hm_m3 12 (by decide +kernel) rfl
theorem hw_3_13 : Cond.instanceMethod yX0_solve ∈ hm_W := hm_m3 13 (by decide +kernel) rfl
theorem hw_3_14 : Cond.selects RX0 yX0_solve yX0_solve ∈ hm_W := hm_m3 14 (by decide +kernel) rfl
theorem hw_3_15 : Cond.code yX0_solve cX0_solve 5 none ∈ hm_W := hm_m3 15 rfl rfl
theorem hw_3_16 : Cond.methodLink RX0 21 yX1_places ∈ hm_W := hm_m3 16 (by decide +kernel) rfl
theorem hw_3_17 : Cond.instanceMethod yX1_places ∈ hm_W := hm_m3 17 (by decide +kernel) rfl
theorem hw_3_18 : Cond.selects RX1 yX1_places yX1_places ∈ hm_W := hm_m3 18 (by decide +kernel) rfl
theorem hw_3_19 : Cond.code yX1_places cX1_places 1 (some .int) ∈ hm_W := hm_m3 19 rfl rfl
theorem hw_3_20 : Cond.methodLink RX1 85 yX2_size ∈ hm_W := hm_m3 20 (by decide +kernel) rfl
theorem hw_3_21 : Cond.methodLink RX0 27 Lib.Math.min.name ∈ hm_W := hm_m3 21 (by decide +kernel) rfl
theorem hw_3_22 : Cond.static Lib.Math.min.name ∈ hm_W := hm_m3 22 (by decide +kernel) rfl
theorem hw_3_23 : Cond.code Lib.Math.min.name Lib.Math.min.code 2 (some .int) ∈ hm_W := hm_m3 23 rfl rfl
theorem hw_3_24 : Cond.methodLink RX0 33 Lib.Math.max.name ∈ hm_W := hm_m3 24 (by decide +kernel) rfl
theorem hw_3_25 : Cond.methodLink RX0 36 yX0_chooseEnd ∈ hm_W := hm_m3 25 (by decide +kernel) rfl
theorem hw_3_27 : Cond.instanceMethod yX0_chooseEnd ∈ hm_W := hm_m3 27 (by decide +kernel) rfl
theorem hw_3_28 : Cond.code yX0_chooseEnd cX0_chooseEnd 13 none ∈ hm_W := hm_m3 28 rfl rfl
theorem hw_3_29 : Cond.methodLink RX0 40 yX1_beginBehind ∈ hm_W := hm_m3 29 (by decide +kernel) rfl
theorem hw_3_30 : Cond.instanceMethod yX1_beginBehind ∈ hm_W := hm_m3 30 (by decide +kernel) rfl
theorem hw_3_31 : Cond.selects RX1 yX1_beginBehind yX1_beginBehind ∈ hm_W := hm_m3 31 (by decide +kernel) rfl
theorem hw_3_32 : Cond.code yX1_beginBehind cX1_beginBehind 2 (some .int) ∈ hm_W := hm_m3 32 rfl rfl
theorem hw_3_33 : Cond.methodLink RX1 88 yX2_get ∈ hm_W := hm_m3 33 (by decide +kernel) rfl
theorem hw_3_34 : Cond.methodLink RX0 44 yX1_leftBy ∈ hm_W := hm_m3 34 (by decide +kernel) rfl
theorem hw_3_35 : Cond.instanceMethod yX1_leftBy ∈ hm_W := hm_m3 35 (by decide +kernel) rfl
theorem hw_3_36 : Cond.selects RX1 yX1_leftBy yX1_leftBy ∈ hm_W := hm_m3 36 (by decide +kernel) rfl
theorem hw_3_37 : Cond.code yX1_leftBy cX1_leftBy 4 (some .int) ∈ hm_W := hm_m3 37 rfl rfl
theorem hw_3_38 : Cond.methodLink RX0 48 yX1_costBy ∈ hm_W := hm_m3 38 (by decide +kernel) rfl
theorem hw_3_39 : Cond.instanceMethod yX1_costBy ∈ hm_W := hm_m3 39 (by decide +kernel) rfl
theorem hw_3_40 : Cond.selects RX1 yX1_costBy yX1_costBy ∈ hm_W := hm_m3 40 (by decide +kernel) rfl
theorem hw_3_41 : Cond.code yX1_costBy cX1_costBy 5 (some .int) ∈ hm_W := hm_m3 41 rfl rfl
theorem hw_3_42 : Cond.methodLink RX7 264 yX5_lay ∈ hm_W := hm_m3 42 (by decide +kernel) rfl
theorem hw_3_43 : Cond.instanceMethod yX5_lay ∈ hm_W := hm_m3 43 (by decide +kernel) rfl
theorem hw_3_44 : Cond.selects RX5 yX5_lay yX5_lay ∈ hm_W := hm_m3 44 (by decide +kernel) rfl
theorem hw_3_45 : Cond.code yX5_lay cX5_lay 6 none ∈ hm_W := hm_m3 45 rfl rfl
theorem hw_3_46 : Cond.methodLink RX5 35 yX2_empty ∈ hm_W := hm_m3 46 (by decide +kernel) rfl
theorem hw_3_47 : Cond.methodLink RX5 38 yX0_hasPage ∈ hm_W := hm_m3 47 (by decide +kernel) rfl
theorem hw_3_48 : Cond.instanceMethod yX0_hasPage ∈ hm_W := hm_m3 48 (by decide +kernel) rfl
theorem hw_3_49 : Cond.selects RX0 yX0_hasPage yX0_hasPage ∈ hm_W := hm_m3 49 (by decide +kernel) rfl
theorem hw_3_50 : Cond.code yX0_hasPage cX0_hasPage 1 (some .boolean) ∈ hm_W := hm_m3 50 rfl rfl
theorem hw_3_51 : Cond.methodLink RX5 48 yX0_cost ∈ hm_W := hm_m3 51 (by decide +kernel) rfl
theorem hw_3_52 : Cond.instanceMethod yX0_cost ∈ hm_W := hm_m3 52 (by decide +kernel) rfl
theorem hw_3_53 : Cond.selects RX0 yX0_cost yX0_cost ∈ hm_W := hm_m3 53 (by decide +kernel) rfl
theorem hw_3_54 : Cond.code yX0_cost cX0_cost 1 (some .int) ∈ hm_W := hm_m3 54 rfl rfl
theorem hw_3_55 : Cond.methodLink RX5 55 yX2_add ∈ hm_W := hm_m3 55 (by decide +kernel) rfl
theorem hw_3_56 : Cond.methodLink RX5 59 yX0_lineCount ∈ hm_W := hm_m3 56 (by decide +kernel) rfl
theorem hw_3_57 : Cond.instanceMethod yX0_lineCount ∈ hm_W := hm_m3 57 (by decide +kernel) rfl
theorem hw_3_58 : Cond.selects RX0 yX0_lineCount yX0_lineCount ∈ hm_W := hm_m3 58 (by decide +kernel) rfl
theorem hw_3_59 : Cond.code yX0_lineCount cX0_lineCount 1 (some .int) ∈ hm_W := hm_m3 59 rfl rfl
theorem hw_3_60 : Cond.methodLink RX5 62 yX0_endBehind ∈ hm_W := hm_m3 60 (by decide +kernel) rfl
theorem hw_3_61 : Cond.instanceMethod yX0_endBehind ∈ hm_W := hm_m3 61 (by decide +kernel) rfl
theorem hw_3_62 : Cond.selects RX0 yX0_endBehind yX0_endBehind ∈ hm_W := hm_m3 62 (by decide +kernel) rfl
theorem hw_3_63 : Cond.code yX0_endBehind cX0_endBehind 3 (some .int) ∈ hm_W := hm_m3 63 rfl rfl
theorem hw_3_64 : Cond.methodLink RX5 66 yX5_setLine ∈ hm_W := hm_m3 64 (by decide +kernel) rfl
theorem hw_3_66 : Cond.instanceMethod yX5_setLine ∈ hm_W := hm_m3 66 (by decide +kernel) rfl
theorem hw_3_67 : Cond.code yX5_setLine cX5_setLine 10 none ∈ hm_W := hm_m3 67 rfl rfl
theorem hw_3_68 : Cond.methodLink RX5 76 yX1_blanks ∈ hm_W := hm_m3 68 (by decide +kernel) rfl
theorem hw_3_69 : Cond.instanceMethod yX1_blanks ∈ hm_W := hm_m3 69 (by decide +kernel) rfl
theorem hw_3_70 : Cond.selects RX1 yX1_blanks yX1_blanks ∈ hm_W := hm_m3 70 (by decide +kernel) rfl
theorem hw_3_71 : Cond.code yX1_blanks cX1_blanks 3 (some .int) ∈ hm_W := hm_m3 71 rfl rfl
theorem hw_3_72 : Cond.methodLink RX5 82 yX1_spread ∈ hm_W := hm_m3 72 (by decide +kernel) rfl
theorem hw_3_73 : Cond.instanceMethod yX1_spread ∈ hm_W := hm_m3 73 (by decide +kernel) rfl
theorem hw_3_74 : Cond.selects RX1 yX1_spread yX1_spread ∈ hm_W := hm_m3 74 (by decide +kernel) rfl
theorem hw_3_75 : Cond.code yX1_spread cX1_spread 3 (some .int) ∈ hm_W := hm_m3 75 rfl rfl
theorem hw_3_76 : Cond.methodLink RX1 99 yX1_places ∈ hm_W := hm_m3 76 (by decide +kernel) rfl
theorem hw_3_77 : Cond.methodLink RX1 102 yX1_blanks ∈ hm_W := hm_m3 77 (by decide +kernel) rfl
theorem hw_3_78 : Cond.methodLink RX1 89 yX1_leftBy ∈ hm_W := hm_m3 78 (by decide +kernel) rfl
theorem hw_3_79 : Cond.methodLink RX5 85 yX1_isSlashAt ∈ hm_W := hm_m3 79 (by decide +kernel) rfl
theorem hw_3_80 : Cond.instanceMethod yX1_isSlashAt ∈ hm_W := hm_m3 80 (by decide +kernel) rfl
theorem hw_3_81 : Cond.selects RX1 yX1_isSlashAt yX1_isSlashAt ∈ hm_W := hm_m3 81 (by decide +kernel) rfl
theorem hw_3_82 : Cond.code yX1_isSlashAt cX1_isSlashAt 2 (some .boolean) ∈ hm_W := hm_m3 82 rfl rfl
theorem hw_3_83 : Cond.methodLink RX5 88 yX1_natural ∈ hm_W := hm_m3 83 (by decide +kernel) rfl
theorem hw_3_84 : Cond.instanceMethod yX1_natural ∈ hm_W := hm_m3 84 (by decide +kernel) rfl
theorem hw_3_85 : Cond.selects RX1 yX1_natural yX1_natural ∈ hm_W := hm_m3 85 (by decide +kernel) rfl
theorem hw_3_86 : Cond.code yX1_natural cX1_natural 3 (some .int) ∈ hm_W := hm_m3 86 rfl rfl
theorem hw_3_87 : Cond.methodLink RX5 91 Lib.Math.min.name ∈ hm_W := hm_m3 87 (by decide +kernel) rfl
theorem hw_3_88 : Cond.methodLink RX5 96 yX1_gap ∈ hm_W := hm_m3 88 (by decide +kernel) rfl
theorem hw_3_89 : Cond.instanceMethod yX1_gap ∈ hm_W := hm_m3 89 (by decide +kernel) rfl
theorem hw_3_90 : Cond.selects RX1 yX1_gap yX1_gap ∈ hm_W := hm_m3 90 (by decide +kernel) rfl
theorem hw_3_91 : Cond.code yX1_gap cX1_gap 1 (some .int) ∈ hm_W := hm_m3 91 rfl rfl
theorem hw_3_92 : Cond.methodLink RX5 99 yX5_addBlank ∈ hm_W := hm_m3 92 (by decide +kernel) rfl
theorem hw_3_94 : Cond.instanceMethod yX5_addBlank ∈ hm_W := hm_m3 94 (by decide +kernel) rfl
theorem hw_3_95 : Cond.code yX5_addBlank cX5_addBlank 3 none ∈ hm_W := hm_m3 95 rfl rfl
theorem hw_3_96 : Cond.methodLink RX5 70 yX2_size ∈ hm_W := hm_m3 96 (by decide +kernel) rfl
theorem hw_3_97 : Cond.methodLink RX5 73 yX5_measureRivers ∈ hm_W := hm_m3 97 (by decide +kernel) rfl
theorem hw_3_99 : Cond.instanceMethod yX5_measureRivers ∈ hm_W := hm_m3 99 (by decide +kernel) rfl
theorem hw_3_100 : Cond.code yX5_measureRivers cX5_measureRivers 4 none ∈ hm_W := hm_m3 100 rfl rfl
theorem hw_3_101 : Cond.methodLink RX5 103 yX5_lineCount ∈ hm_W := hm_m3 101 (by decide +kernel) rfl
theorem hw_3_102 : Cond.instanceMethod yX5_lineCount ∈ hm_W := hm_m3 102 (by decide +kernel) rfl
theorem hw_3_103 : Cond.selects RX5 yX5_lineCount yX5_lineCount ∈ hm_W := hm_m3 103 (by decide +kernel) rfl
theorem hw_3_104 : Cond.code yX5_lineCount cX5_lineCount 1 (some .int) ∈ hm_W := hm_m3 104 rfl rfl
theorem hw_3_105 : Cond.methodLink RX5 104 yX2_get ∈ hm_W := hm_m3 105 (by decide +kernel) rfl
theorem hw_3_106 : Cond.methodLink RX5 107 yX5_longestMet ∈ hm_W := hm_m3 106 (by decide +kernel) rfl
theorem hw_3_108 : Cond.instanceMethod yX5_longestMet ∈ hm_W := hm_m3 108 (by decide +kernel) rfl
theorem hw_3_109 : Cond.code yX5_longestMet cX5_longestMet 5 (some .int) ∈ hm_W := hm_m3 109 rfl rfl
theorem hw_3_110 : Cond.methodLink RX5 117 yX5_meet ∈ hm_W := hm_m3 110 (by decide +kernel) rfl
theorem hw_3_112 : Cond.instanceMethod yX5_meet ∈ hm_W := hm_m3 112 (by decide +kernel) rfl
theorem hw_3_113 : Cond.code yX5_meet cX5_meet 3 (some .boolean) ∈ hm_W := hm_m3 113 rfl rfl
theorem hw_3_114 : Cond.methodLink RX5 120 Lib.Math.max.name ∈ hm_W := hm_m3 114 (by decide +kernel) rfl
theorem hw_3_115 : Cond.methodLink RX5 110 yX2_set ∈ hm_W := hm_m3 115 (by decide +kernel) rfl
theorem hw_3_116 : Cond.methodLink RX5 113 yX5_meetsAny ∈ hm_W := hm_m3 116 (by decide +kernel) rfl
theorem hw_3_118 : Cond.instanceMethod yX5_meetsAny ∈ hm_W := hm_m3 118 (by decide +kernel) rfl
theorem hw_3_119 : Cond.code yX5_meetsAny cX5_meetsAny 4 (some .boolean) ∈ hm_W := hm_m3 119 rfl rfl
theorem hw_3_120 : Cond.methodLink RX7 158 yX5_isThere ∈ hm_W := hm_m3 120 (by decide +kernel) rfl
theorem hw_3_121 : Cond.instanceMethod yX5_isThere ∈ hm_W := hm_m3 121 (by decide +kernel) rfl
theorem hw_3_122 : Cond.selects RX5 yX5_isThere yX5_isThere ∈ hm_W := hm_m3 122 (by decide +kernel) rfl
theorem hw_3_123 : Cond.code yX5_isThere cX5_isThere 1 (some .boolean) ∈ hm_W := hm_m3 123 rfl rfl
theorem hw_3_124 : Cond.methodLink RX7 162 yX5_cost ∈ hm_W := hm_m3 124 (by decide +kernel) rfl
theorem hw_3_125 : Cond.instanceMethod yX5_cost ∈ hm_W := hm_m3 125 (by decide +kernel) rfl
theorem hw_3_126 : Cond.selects RX5 yX5_cost yX5_cost ∈ hm_W := hm_m3 126 (by decide +kernel) rfl
theorem hw_3_127 : Cond.code yX5_cost cX5_cost 1 (some .int) ∈ hm_W := hm_m3 127 rfl rfl
theorem hw_3_128 : Cond.methodLink RX7 165 yX5_lineCount ∈ hm_W := hm_m3 128 (by decide +kernel) rfl
theorem hw_3_129 : Cond.methodLink RX7 168 yX5_slashEnds ∈ hm_W := hm_m3 129 (by decide +kernel) rfl
theorem hw_3_130 : Cond.instanceMethod yX5_slashEnds ∈ hm_W := hm_m3 130 (by decide +kernel) rfl
theorem hw_3_131 : Cond.selects RX5 yX5_slashEnds yX5_slashEnds ∈ hm_W := hm_m3 131 (by decide +kernel) rfl
theorem hw_3_132 : Cond.code yX5_slashEnds cX5_slashEnds 4 (some .int) ∈ hm_W := hm_m3 132 rfl rfl
theorem hw_3_133 : Cond.methodLink RX7 172 yX5_rough ∈ hm_W := hm_m3 133 (by decide +kernel) rfl
theorem hw_3_134 : Cond.instanceMethod yX5_rough ∈ hm_W := hm_m3 134 (by decide +kernel) rfl
theorem hw_3_135 : Cond.selects RX5 yX5_rough yX5_rough ∈ hm_W := hm_m3 135 (by decide +kernel) rfl
theorem hw_3_136 : Cond.code yX5_rough cX5_rough 4 (some .int) ∈ hm_W := hm_m3 136 rfl rfl
theorem hw_3_137 : Cond.methodLink RX5 123 yX5_startOf ∈ hm_W := hm_m3 137 (by decide +kernel) rfl
theorem hw_3_138 : Cond.instanceMethod yX5_startOf ∈ hm_W := hm_m3 138 (by decide +kernel) rfl
theorem hw_3_139 : Cond.selects RX5 yX5_startOf yX5_startOf ∈ hm_W := hm_m3 139 (by decide +kernel) rfl
theorem hw_3_140 : Cond.code yX5_startOf cX5_startOf 2 (some .int) ∈ hm_W := hm_m3 140 rfl rfl
theorem hw_3_141 : Cond.methodLink RX5 126 yX5_endOf ∈ hm_W := hm_m3 141 (by decide +kernel) rfl
theorem hw_3_142 : Cond.instanceMethod yX5_endOf ∈ hm_W := hm_m3 142 (by decide +kernel) rfl
theorem hw_3_143 : Cond.selects RX5 yX5_endOf yX5_endOf ∈ hm_W := hm_m3 143 (by decide +kernel) rfl
theorem hw_3_144 : Cond.code yX5_endOf cX5_endOf 2 (some .int) ∈ hm_W := hm_m3 144 rfl rfl
theorem hw_3_145 : Cond.methodLink RX5 129 yX1_left ∈ hm_W := hm_m3 145 (by decide +kernel) rfl
theorem hw_3_146 : Cond.instanceMethod yX1_left ∈ hm_W := hm_m3 146 (by decide +kernel) rfl
theorem hw_3_147 : Cond.selects RX1 yX1_left yX1_left ∈ hm_W := hm_m3 147 (by decide +kernel) rfl
theorem hw_3_148 : Cond.code yX1_left cX1_left 3 (some .int) ∈ hm_W := hm_m3 148 rfl rfl
theorem hw_3_149 : Cond.methodLink RX7 175 yX5_springs ∈ hm_W := hm_m3 149 (by decide +kernel) rfl
theorem hw_3_150 : Cond.instanceMethod yX5_springs ∈ hm_W := hm_m3 150 (by decide +kernel) rfl
theorem hw_3_151 : Cond.selects RX5 yX5_springs yX5_springs ∈ hm_W := hm_m3 151 (by decide +kernel) rfl
theorem hw_3_152 : Cond.code yX5_springs cX5_springs 3 (some .int) ∈ hm_W := hm_m3 152 rfl rfl
theorem hw_3_153 : Cond.methodLink RX7 178 yX5_longest ∈ hm_W := hm_m3 153 (by decide +kernel) rfl
theorem hw_3_154 : Cond.instanceMethod yX5_longest ∈ hm_W := hm_m3 154 (by decide +kernel) rfl
theorem hw_3_155 : Cond.selects RX5 yX5_longest yX5_longest ∈ hm_W := hm_m3 155 (by decide +kernel) rfl
theorem hw_3_156 : Cond.code yX5_longest cX5_longest 3 (some .int) ∈ hm_W := hm_m3 156 rfl rfl
theorem hw_3_157 : Cond.methodLink RL 60 yX7_line ∈ hm_W := hm_m3 157 (by decide +kernel) rfl
theorem hw_3_158 : Cond.instanceMethod yX7_line ∈ hm_W := hm_m3 158 (by decide +kernel) rfl
theorem hw_3_159 : Cond.selects RX7 yX7_line yX7_line ∈ hm_W := hm_m3 159 (by decide +kernel) rfl
theorem hw_3_160 : Cond.code yX7_line cX7_line 5 (some .int) ∈ hm_W := hm_m3 160 rfl rfl
theorem hw_3_161 : Cond.methodLink RX7 181 yX5_startOf ∈ hm_W := hm_m3 161 (by decide +kernel) rfl
theorem hw_3_162 : Cond.methodLink RX7 184 yX5_endOf ∈ hm_W := hm_m3 162 (by decide +kernel) rfl
theorem hw_3_163 : Cond.methodLink RX7 187 yX1_natural ∈ hm_W := hm_m3 163 (by decide +kernel) rfl
theorem hw_3_164 : Cond.methodLink RX7 190 yX1_hungAt ∈ hm_W := hm_m3 164 (by decide +kernel) rfl
theorem hw_3_165 : Cond.instanceMethod yX1_hungAt ∈ hm_W := hm_m3 165 (by decide +kernel) rfl
theorem hw_3_166 : Cond.selects RX1 yX1_hungAt yX1_hungAt ∈ hm_W := hm_m3 166 (by decide +kernel) rfl
theorem hw_3_167 : Cond.code yX1_hungAt cX1_hungAt 2 (some .int) ∈ hm_W := hm_m3 167 rfl rfl
theorem hw_3_168 : Cond.methodLink RX7 193 yX1_left ∈ hm_W := hm_m3 168 (by decide +kernel) rfl
theorem hw_3_169 : Cond.methodLink RX7 196 yX1_cost ∈ hm_W := hm_m3 169 (by decide +kernel) rfl
theorem hw_3_170 : Cond.instanceMethod yX1_cost ∈ hm_W := hm_m3 170 (by decide +kernel) rfl
theorem hw_3_171 : Cond.selects RX1 yX1_cost yX1_cost ∈ hm_W := hm_m3 171 (by decide +kernel) rfl
theorem hw_3_172 : Cond.code yX1_cost cX1_cost 3 (some .int) ∈ hm_W := hm_m3 172 rfl rfl
theorem hw_3_173 : Cond.methodLink RX1 93 yX1_left ∈ hm_W := hm_m3 173 (by decide +kernel) rfl
theorem hw_3_174 : Cond.methodLink RX1 96 yX1_costBy ∈ hm_W := hm_m3 174 (by decide +kernel) rfl
theorem hw_3_175 : Cond.methodLink RX7 198 yX1_blanks ∈ hm_W := hm_m3 175 (by decide +kernel) rfl
theorem hw_3_176 : Cond.methodLink RX7 201 yX1_spread ∈ hm_W := hm_m3 176 (by decide +kernel) rfl
theorem hw_3_177 : Cond.methodLink RL 64 yX7_blank ∈ hm_W := hm_m3 177 (by decide +kernel) rfl
theorem hw_3_178 : Cond.instanceMethod yX7_blank ∈ hm_W := hm_m3 178 (by decide +kernel) rfl
theorem hw_3_179 : Cond.selects RX7 yX7_blank yX7_blank ∈ hm_W := hm_m3 179 (by decide +kernel) rfl
theorem hw_3_180 : Cond.code yX7_blank cX7_blank 4 (some .int) ∈ hm_W := hm_m3 180 rfl rfl
theorem hw_3_181 : Cond.methodLink RX7 204 yX5_blankCount ∈ hm_W := hm_m3 181 (by decide +kernel) rfl
theorem hw_3_182 : Cond.instanceMethod yX5_blankCount ∈ hm_W := hm_m3 182 (by decide +kernel) rfl
theorem hw_3_183 : Cond.selects RX5 yX5_blankCount yX5_blankCount ∈ hm_W := hm_m3 183 (by decide +kernel) rfl
theorem hw_3_184 : Cond.code yX5_blankCount cX5_blankCount 2 (some .int) ∈ hm_W := hm_m3 184 rfl rfl
theorem hw_3_185 : Cond.methodLink RX7 207 yX5_blankOf ∈ hm_W := hm_m3 185 (by decide +kernel) rfl
theorem hw_3_186 : Cond.instanceMethod yX5_blankOf ∈ hm_W := hm_m3 186 (by decide +kernel) rfl
theorem hw_3_187 : Cond.selects RX5 yX5_blankOf yX5_blankOf ∈ hm_W := hm_m3 187 (by decide +kernel) rfl
theorem hw_3_188 : Cond.code yX5_blankOf cX5_blankOf 5 (some .int) ∈ hm_W := hm_m3 188 rfl rfl
theorem hw_3_189 : Cond.methodLink RL 69 yX7_leftOf ∈ hm_W := hm_m3 189 (by decide +kernel) rfl
theorem hw_3_190 : Cond.instanceMethod yX7_leftOf ∈ hm_W := hm_m3 190 (by decide +kernel) rfl
theorem hw_3_191 : Cond.selects RX7 yX7_leftOf yX7_leftOf ∈ hm_W := hm_m3 191 (by decide +kernel) rfl
theorem hw_3_192 : Cond.code yX7_leftOf cX7_leftOf 3 (some .int) ∈ hm_W := hm_m3 192 rfl rfl
theorem hw_3_193 : Cond.constant RX7 211 (-1000000) ∈ hm_W := hm_m3 193 (by decide +kernel) rfl
theorem hw_3_194 : Cond.methodLink RL 73 yX7_puts ∈ hm_W := hm_m3 194 (by decide +kernel) rfl
theorem hw_3_195 : Cond.instanceMethod yX7_puts ∈ hm_W := hm_m3 195 (by decide +kernel) rfl
theorem hw_3_196 : Cond.selects RX7 yX7_puts yX7_puts ∈ hm_W := hm_m3 196 (by decide +kernel) rfl
theorem hw_3_197 : Cond.code yX7_puts cX7_puts 2 (some .int) ∈ hm_W := hm_m3 197 rfl rfl
theorem hw_3_198 : Cond.methodLink RX7 212 yX7_lastOfDraft ∈ hm_W := hm_m3 198 (by decide +kernel) rfl
theorem hw_3_200 : Cond.instanceMethod yX7_lastOfDraft ∈ hm_W := hm_m3 200 (by decide +kernel) rfl
theorem hw_3_201 : Cond.code yX7_lastOfDraft cX7_lastOfDraft 1 (some .int) ∈ hm_W := hm_m3 201 rfl rfl
theorem hw_3_202 : Cond.methodLink RL 77 yX7_takes ∈ hm_W := hm_m3 202 (by decide +kernel) rfl
theorem hw_3_203 : Cond.instanceMethod yX7_takes ∈ hm_W := hm_m3 203 (by decide +kernel) rfl
theorem hw_3_204 : Cond.selects RX7 yX7_takes yX7_takes ∈ hm_W := hm_m3 204 (by decide +kernel) rfl
theorem hw_3_205 : Cond.code yX7_takes cX7_takes 2 (some .int) ∈ hm_W := hm_m3 205 rfl rfl
theorem hw_3_206 : Cond.methodLink RX7 215 yX2_drop ∈ hm_W := hm_m3 206 (by decide +kernel) rfl
theorem hw_3_207 : Cond.methodLink RL 81 yX7_judged ∈ hm_W := hm_m3 207 (by decide +kernel) rfl
theorem hw_3_208 : Cond.instanceMethod yX7_judged ∈ hm_W := hm_m3 208 (by decide +kernel) rfl
theorem hw_3_209 : Cond.selects RX7 yX7_judged yX7_judged ∈ hm_W := hm_m3 209 (by decide +kernel) rfl
theorem hw_3_210 : Cond.code yX7_judged cX7_judged 4 (some .int) ∈ hm_W := hm_m3 210 rfl rfl
theorem hw_3_211 : Cond.methodLink RX7 218 yX7_firstWrongLine ∈ hm_W := hm_m3 211 (by decide +kernel) rfl
theorem hw_3_213 : Cond.instanceMethod yX7_firstWrongLine ∈ hm_W := hm_m3 213 (by decide +kernel) rfl
theorem hw_3_214 : Cond.code yX7_firstWrongLine cX7_firstWrongLine 4 (some .int) ∈ hm_W := hm_m3 214 rfl rfl
theorem hw_3_215 : Cond.methodLink RX7 221 yX7_costOfDraft ∈ hm_W := hm_m3 215 (by decide +kernel) rfl
theorem hw_3_217 : Cond.instanceMethod yX7_costOfDraft ∈ hm_W := hm_m3 217 (by decide +kernel) rfl
theorem hw_3_218 : Cond.code yX7_costOfDraft cX7_costOfDraft 5 (some .int) ∈ hm_W := hm_m3 218 rfl rfl
theorem hw_3_219 : Cond.methodLink RL 85 yX7_alike ∈ hm_W := hm_m3 219 (by decide +kernel) rfl
theorem hw_3_220 : Cond.instanceMethod yX7_alike ∈ hm_W := hm_m3 220 (by decide +kernel) rfl
theorem hw_3_221 : Cond.selects RX7 yX7_alike yX7_alike ∈ hm_W := hm_m3 221 (by decide +kernel) rfl
theorem hw_3_222 : Cond.code yX7_alike cX7_alike 2 (some .int) ∈ hm_W := hm_m3 222 rfl rfl
theorem hw_3_223 : Cond.methodLink RX7 224 yX7_freshenSurvey ∈ hm_W := hm_m3 223 (by decide +kernel) rfl
theorem hw_3_225 : Cond.instanceMethod yX7_freshenSurvey ∈ hm_W := hm_m3 225 (by decide +kernel) rfl
theorem hw_3_226 : Cond.code yX7_freshenSurvey cX7_freshenSurvey 1 none ∈ hm_W := hm_m3 226 rfl rfl
theorem hw_3_227 : Cond.methodLink RX7 268 yX6_goThrough ∈ hm_W := hm_m3 227 (by decide +kernel) rfl
theorem hw_3_228 : Cond.instanceMethod yX6_goThrough ∈ hm_W := hm_m3 228 (by decide +kernel) rfl
theorem hw_3_229 : Cond.selects RX6 yX6_goThrough yX6_goThrough ∈ hm_W := hm_m3 229 (by decide +kernel) rfl
theorem hw_3_230 : Cond.code yX6_goThrough cX6_goThrough 4 none ∈ hm_W := hm_m3 230 rfl rfl
theorem hw_3_231 : Cond.methodLink RX6 22 yX0_solve ∈ hm_W := hm_m3 231 (by decide +kernel) rfl
theorem hw_3_232 : Cond.methodLink RX6 28 yX0_hasPage ∈ hm_W := hm_m3 232 (by decide +kernel) rfl
theorem hw_3_233 : Cond.methodLink RX6 32 yX6_note ∈ hm_W := hm_m3 233 (by decide +kernel) rfl
theorem hw_3_235 : Cond.instanceMethod yX6_note ∈ hm_W := hm_m3 235 (by decide +kernel) rfl
theorem hw_3_236 : Cond.code yX6_note cX6_note 9 none ∈ hm_W := hm_m3 236 rfl rfl
theorem hw_3_237 : Cond.methodLink RX6 36 yX0_lineCount ∈ hm_W := hm_m3 237 (by decide +kernel) rfl
theorem hw_3_238 : Cond.methodLink RX6 40 yX0_endBehind ∈ hm_W := hm_m3 238 (by decide +kernel) rfl
theorem hw_3_239 : Cond.methodLink RX7 230 yX6_pickAlike ∈ hm_W := hm_m3 239 (by decide +kernel) rfl
theorem hw_4_0 : Cond.instanceMethod yX6_pickAlike ∈ hm_W := hm_m4 0 (by decide +kernel) rfl
theorem hw_4_1 : Cond.selects RX6 yX6_pickAlike yX6_pickAlike ∈ hm_W := hm_m4 1 (by decide +kernel) rfl
theorem hw_4_2 : Cond.code yX6_pickAlike cX6_pickAlike 4 none ∈ hm_W := hm_m4 2 rfl rfl
theorem hw_4_3 : Cond.methodLink RX6 44 Lib.Math.min.name ∈ hm_W := hm_m4 3 (by decide +kernel) rfl
theorem hw_4_4 : Cond.methodLink RX6 50 Lib.Math.max.name ∈ hm_W := hm_m4 4 (by decide +kernel) rfl
theorem hw_4_5 : Cond.methodLink RX7 233 yX6_picked ∈ hm_W := hm_m4 5 (by decide +kernel) rfl
theorem hw_4_6 : Cond.instanceMethod yX6_picked ∈ hm_W := hm_m4 6 (by decide +kernel) rfl
theorem hw_4_7 : Cond.selects RX6 yX6_picked yX6_picked ∈ hm_W := hm_m4 7 (by decide +kernel) rfl
theorem hw_4_8 : Cond.code yX6_picked cX6_picked 6 (some .int) ∈ hm_W := hm_m4 8 rfl rfl
theorem hw_4_9 : Cond.methodLink RL 89 yX7_sees ∈ hm_W := hm_m4 9 (by decide +kernel) rfl
theorem hw_4_10 : Cond.instanceMethod yX7_sees ∈ hm_W := hm_m4 10 (by decide +kernel) rfl
theorem hw_4_11 : Cond.selects RX7 yX7_sees yX7_sees ∈ hm_W := hm_m4 11 (by decide +kernel) rfl
theorem hw_4_12 : Cond.code yX7_sees cX7_sees 3 (some .int) ∈ hm_W := hm_m4 12 rfl rfl
theorem hw_4_13 : Cond.methodLink RL 93 yX7_forget ∈ hm_W := hm_m4 13 (by decide +kernel) rfl
theorem hw_4_14 : Cond.instanceMethod yX7_forget ∈ hm_W := hm_m4 14 (by decide +kernel) rfl
theorem hw_4_15 : Cond.selects RX7 yX7_forget yX7_forget ∈ hm_W := hm_m4 15 (by decide +kernel) rfl
theorem hw_4_16 : Cond.code yX7_forget cX7_forget 2 (some .int) ∈ hm_W := hm_m4 16 rfl rfl
theorem hw_4_17 : Cond.methodLink RL 97 yX7_unseen ∈ hm_W := hm_m4 17 (by decide +kernel) rfl
theorem hw_4_18 : Cond.instanceMethod yX7_unseen ∈ hm_W := hm_m4 18 (by decide +kernel) rfl
theorem hw_4_19 : Cond.selects RX7 yX7_unseen yX7_unseen ∈ hm_W := hm_m4 19 (by decide +kernel) rfl
theorem hw_4_20 : Cond.code yX7_unseen cX7_unseen 2 (some .int) ∈ hm_W := hm_m4 20 rfl rfl
theorem hw_4_21 : Cond.methodLink RX7 236 yX6_pickSeen ∈ hm_W := hm_m4 21 (by decide +kernel) rfl
theorem hw_4_22 : Cond.instanceMethod yX6_pickSeen ∈ hm_W := hm_m4 22 (by decide +kernel) rfl
theorem hw_4_23 : Cond.selects RX6 yX6_pickSeen yX6_pickSeen ∈ hm_W := hm_m4 23 (by decide +kernel) rfl
theorem hw_4_24 : Cond.code yX6_pickSeen cX6_pickSeen 7 none ∈ hm_W := hm_m4 24 rfl rfl
theorem hw_4_25 : Cond.methodLink RX6 53 yX2_size ∈ hm_W := hm_m4 25 (by decide +kernel) rfl
theorem hw_4_26 : Cond.methodLink RX6 58 yX2_get ∈ hm_W := hm_m4 26 (by decide +kernel) rfl
theorem hw_4_27 : Cond.methodLink RX6 61 yX6_beginsLine ∈ hm_W := hm_m4 27 (by decide +kernel) rfl
theorem hw_4_29 : Cond.instanceMethod yX6_beginsLine ∈ hm_W := hm_m4 29 (by decide +kernel) rfl
theorem hw_4_30 : Cond.code yX6_beginsLine cX6_beginsLine 4 (some .boolean) ∈ hm_W := hm_m4 30 rfl rfl
theorem hw_4_31 : Cond.methodLink RX6 65 yX3_lastPlaceOf ∈ hm_W := hm_m4 31 (by decide +kernel) rfl
theorem hw_4_32 : Cond.instanceMethod yX3_lastPlaceOf ∈ hm_W := hm_m4 32 (by decide +kernel) rfl
theorem hw_4_33 : Cond.selects RX3 yX3_lastPlaceOf yX3_lastPlaceOf ∈ hm_W := hm_m4 33 (by decide +kernel) rfl
theorem hw_4_34 : Cond.code yX3_lastPlaceOf cX3_lastPlaceOf 2 (some .int) ∈ hm_W := hm_m4 34 rfl rfl
theorem hw_4_35 : Cond.methodLink RX6 70 yX6_endsAt ∈ hm_W := hm_m4 35 (by decide +kernel) rfl
theorem hw_4_37 : Cond.instanceMethod yX6_endsAt ∈ hm_W := hm_m4 37 (by decide +kernel) rfl
theorem hw_4_38 : Cond.code yX6_endsAt cX6_endsAt 3 (some .boolean) ∈ hm_W := hm_m4 38 rfl rfl
theorem hw_4_39 : Cond.methodLink RL 101 yX7_keep ∈ hm_W := hm_m4 39 (by decide +kernel) rfl
theorem hw_4_40 : Cond.instanceMethod yX7_keep ∈ hm_W := hm_m4 40 (by decide +kernel) rfl
theorem hw_4_41 : Cond.selects RX7 yX7_keep yX7_keep ∈ hm_W := hm_m4 41 (by decide +kernel) rfl
theorem hw_4_42 : Cond.code yX7_keep cX7_keep 2 (some .int) ∈ hm_W := hm_m4 42 rfl rfl
theorem hw_4_43 : Cond.methodLink RX7 240 yX4_copyTo ∈ hm_W := hm_m4 43 (by decide +kernel) rfl
theorem hw_4_44 : Cond.instanceMethod yX4_copyTo ∈ hm_W := hm_m4 44 (by decide +kernel) rfl
theorem hw_4_45 : Cond.selects RX4 yX4_copyTo yX4_copyTo ∈ hm_W := hm_m4 45 (by decide +kernel) rfl
theorem hw_4_46 : Cond.code yX4_copyTo cX4_copyTo 2 none ∈ hm_W := hm_m4 46 rfl rfl
theorem hw_4_47 : Cond.methodLink RX4 75 arraycopyName ∈ hm_W := hm_m4 47 (by decide +kernel) rfl
theorem hw_4_48 : Cond.static arraycopyName ∈ hm_W := hm_m4 48 (by decide +kernel) rfl
theorem hw_4_49 : Cond.native arraycopyName ∈ hm_W := hm_m4 49 (by decide +kernel) rfl
theorem hw_4_50 : Cond.methodLink RL 105 yX7_back ∈ hm_W := hm_m4 50 (by decide +kernel) rfl
theorem hw_4_51 : Cond.instanceMethod yX7_back ∈ hm_W := hm_m4 51 (by decide +kernel) rfl
theorem hw_4_52 : Cond.selects RX7 yX7_back yX7_back ∈ hm_W := hm_m4 52 (by decide +kernel) rfl
theorem hw_4_53 : Cond.code yX7_back cX7_back 2 (some .int) ∈ hm_W := hm_m4 53 rfl rfl
theorem hw_4_54 : Cond.methodLink RX7 243 yX4_has ∈ hm_W := hm_m4 54 (by decide +kernel) rfl
theorem hw_4_55 : Cond.instanceMethod yX4_has ∈ hm_W := hm_m4 55 (by decide +kernel) rfl
theorem hw_4_56 : Cond.selects RX4 yX4_has yX4_has ∈ hm_W := hm_m4 56 (by decide +kernel) rfl
theorem hw_4_57 : Cond.code yX4_has cX4_has 2 (some .boolean) ∈ hm_W := hm_m4 57 rfl rfl
theorem hw_4_58 : Cond.methodLink RX7 246 yX4_copyFrom ∈ hm_W := hm_m4 58 (by decide +kernel) rfl
theorem hw_4_59 : Cond.instanceMethod yX4_copyFrom ∈ hm_W := hm_m4 59 (by decide +kernel) rfl
theorem hw_4_60 : Cond.selects RX4 yX4_copyFrom yX4_copyFrom ∈ hm_W := hm_m4 60 (by decide +kernel) rfl
theorem hw_4_61 : Cond.code yX4_copyFrom cX4_copyFrom 2 none ∈ hm_W := hm_m4 61 rfl rfl
theorem hw_4_62 : Cond.methodLink RX4 81 yX4_has ∈ hm_W := hm_m4 62 (by decide +kernel) rfl
theorem hw_4_63 : Cond.methodLink RL 109 yX7_count ∈ hm_W := hm_m4 63 (by decide +kernel) rfl
theorem hw_4_64 : Cond.instanceMethod yX7_count ∈ hm_W := hm_m4 64 (by decide +kernel) rfl
theorem hw_4_65 : Cond.selects RX7 yX7_count yX7_count ∈ hm_W := hm_m4 65 (by decide +kernel) rfl
theorem hw_4_66 : Cond.code yX7_count cX7_count 2 (some .int) ∈ hm_W := hm_m4 66 rfl rfl
theorem hw_4_67 : Cond.classLink RL 10 RX8 ∈ hm_W := hm_m4 67 (by decide +kernel) rfl
theorem hw_4_68 : Cond.instantiable RX8 37 ∈ hm_W := hm_m4 68 (by decide +kernel) rfl
theorem hw_4_69 : Cond.methodLink RL 12 yX8_init ∈ hm_W := hm_m4 69 (by decide +kernel) rfl
theorem hw_4_70 : Cond.instanceMethod yX8_init ∈ hm_W := hm_m4 70 (by decide +kernel) rfl
theorem hw_4_71 : Cond.code yX8_init cX8_init 1 none ∈ hm_W := hm_m4 71 rfl rfl
theorem hw_4_72 : Cond.methodLink RX8 1 objectInit ∈ hm_W := hm_m4 72 (by decide +kernel) rfl
theorem hw_4_73 : Cond.methodLink RX8 86 yX8_begins ∈ hm_W := hm_m4 73 (by decide +kernel) rfl
theorem hw_4_75 : Cond.instanceMethod yX8_begins ∈ hm_W := hm_m4 75 (by decide +kernel) rfl
theorem hw_4_76 : Cond.code yX8_begins cX8_begins 2 none ∈ hm_W := hm_m4 76 rfl rfl
theorem hw_4_77 : Cond.fieldLink RX8 103 "HungMarginsModel" "letters" "I" ∈ hm_W := hm_m4 77 (by decide +kernel) rfl
theorem hw_4_78 : Cond.fieldLink RX8 7 "HungMarginsModel" "text" "[I" ∈ hm_W := hm_m4 78 (by decide +kernel) rfl
theorem hw_4_79 : Cond.fieldLink RX8 124 "HungMarginsModel" "size" "I" ∈ hm_W := hm_m4 79 (by decide +kernel) rfl
theorem hw_4_80 : Cond.fieldLink RX8 13 "HungMarginsModel" "row" "[I" ∈ hm_W := hm_m4 80 (by decide +kernel) rfl
theorem hw_4_81 : Cond.fieldLink RX8 127 "HungMarginsModel" "words" "I" ∈ hm_W := hm_m4 81 (by decide +kernel) rfl
theorem hw_4_82 : Cond.fieldLink RX8 16 "HungMarginsModel" "start" "[I" ∈ hm_W := hm_m4 82 (by decide +kernel) rfl
theorem hw_4_83 : Cond.fieldLink RX8 19 "HungMarginsModel" "end" "[I" ∈ hm_W := hm_m4 83 (by decide +kernel) rfl
theorem hw_4_84 : Cond.fieldLink RX8 117 "HungMarginsModel" "places" "I" ∈ hm_W := hm_m4 84 (by decide +kernel) rfl
theorem hw_4_85 : Cond.fieldLink RX8 22 "HungMarginsModel" "placeWord" "[I" ∈ hm_W := hm_m4 85 (by decide +kernel) rfl
theorem hw_4_86 : Cond.fieldLink RX8 25 "HungMarginsModel" "placeAt" "[I" ∈ hm_W := hm_m4 86 (by decide +kernel) rfl
theorem hw_4_87 : Cond.fieldLink RX8 28 "HungMarginsModel" "isParted" "[Z" ∈ hm_W := hm_m4 87 (by decide +kernel) rfl
theorem hw_4_88 : Cond.fieldLink RX8 32 "HungMarginsModel" "s" "[I" ∈ hm_W := hm_m4 88 (by decide +kernel) rfl
theorem hw_4_89 : Cond.fieldLink RX8 89 "HungMarginsModel" "undos" "I" ∈ hm_W := hm_m4 89 (by decide +kernel) rfl
theorem hw_4_90 : Cond.fieldLink RX8 35 "HungMarginsModel" "past" "[I" ∈ hm_W := hm_m4 90 (by decide +kernel) rfl
theorem hw_4_91 : Cond.fieldLink RX8 38 "HungMarginsModel" "isKept" "[Z" ∈ hm_W := hm_m4 91 (by decide +kernel) rfl
theorem hw_4_92 : Cond.fieldLink RX8 41 "HungMarginsModel" "kept" "[I" ∈ hm_W := hm_m4 92 (by decide +kernel) rfl
theorem hw_4_93 : Cond.fieldLink RX8 93 "HungMarginsModel" "drafted" "I" ∈ hm_W := hm_m4 93 (by decide +kernel) rfl
theorem hw_4_94 : Cond.fieldLink RX8 44 "HungMarginsModel" "draft" "[I" ∈ hm_W := hm_m4 94 (by decide +kernel) rfl
theorem hw_4_95 : Cond.fieldLink RX8 96 "HungMarginsModel" "seen" "I" ∈ hm_W := hm_m4 95 (by decide +kernel) rfl
theorem hw_4_96 : Cond.fieldLink RX8 47 "HungMarginsModel" "seenWord" "[I" ∈ hm_W := hm_m4 96 (by decide +kernel) rfl
theorem hw_4_97 : Cond.fieldLink RX8 50 "HungMarginsModel" "seenIs" "[I" ∈ hm_W := hm_m4 97 (by decide +kernel) rfl
theorem hw_4_98 : Cond.fieldLink RX8 53 "HungMarginsModel" "wide" "[I" ∈ hm_W := hm_m4 98 (by decide +kernel) rfl
theorem hw_4_99 : Cond.fieldLink RX8 56 "HungMarginsModel" "toPay" "[I" ∈ hm_W := hm_m4 99 (by decide +kernel) rfl
theorem hw_4_100 : Cond.fieldLink RX8 59 "HungMarginsModel" "toGo" "[I" ∈ hm_W := hm_m4 100 (by decide +kernel) rfl
theorem hw_4_101 : Cond.fieldLink RX8 62 "HungMarginsModel" "then" "[I" ∈ hm_W := hm_m4 101 (by decide +kernel) rfl
theorem hw_4_102 : Cond.fieldLink RX8 183 "HungMarginsModel" "lines" "I" ∈ hm_W := hm_m4 102 (by decide +kernel) rfl
theorem hw_4_103 : Cond.fieldLink RX8 65 "HungMarginsModel" "ends" "[I" ∈ hm_W := hm_m4 103 (by decide +kernel) rfl
theorem hw_4_104 : Cond.fieldLink RX8 198 "HungMarginsModel" "blanks" "I" ∈ hm_W := hm_m4 104 (by decide +kernel) rfl
theorem hw_4_105 : Cond.fieldLink RX8 68 "HungMarginsModel" "blankLine" "[I" ∈ hm_W := hm_m4 105 (by decide +kernel) rfl
theorem hw_4_106 : Cond.fieldLink RX8 71 "HungMarginsModel" "blankFrom" "[I" ∈ hm_W := hm_m4 106 (by decide +kernel) rfl
theorem hw_4_107 : Cond.fieldLink RX8 74 "HungMarginsModel" "blankTo" "[I" ∈ hm_W := hm_m4 107 (by decide +kernel) rfl
theorem hw_4_108 : Cond.fieldLink RX8 77 "HungMarginsModel" "blankLong" "[I" ∈ hm_W := hm_m4 108 (by decide +kernel) rfl
theorem hw_4_109 : Cond.fieldLink RX8 80 "HungMarginsModel" "isSpring" "[Z" ∈ hm_W := hm_m4 109 (by decide +kernel) rfl
theorem hw_4_110 : Cond.fieldLink RX8 220 "HungMarginsModel" "goodMany" "I" ∈ hm_W := hm_m4 110 (by decide +kernel) rfl
theorem hw_4_111 : Cond.fieldLink RX8 223 "HungMarginsModel" "goodLeast" "I" ∈ hm_W := hm_m4 111 (by decide +kernel) rfl
theorem hw_4_112 : Cond.fieldLink RX8 226 "HungMarginsModel" "goodMost" "I" ∈ hm_W := hm_m4 112 (by decide +kernel) rfl
theorem hw_4_113 : Cond.fieldLink RX8 83 "HungMarginsModel" "now" "[I" ∈ hm_W := hm_m4 113 (by decide +kernel) rfl
theorem hw_4_189 : Cond.methodLink RL 17 yX8_type ∈ hm_W := hm_m4 189 (by decide +kernel) rfl
theorem hw_4_190 : Cond.instanceMethod yX8_type ∈ hm_W := hm_m4 190 (by decide +kernel) rfl
theorem hw_4_191 : Cond.selects RX8 yX8_type yX8_type ∈ hm_W := hm_m4 191 (by decide +kernel) rfl
theorem hw_4_192 : Cond.code yX8_type cX8_type 2 (some .int) ∈ hm_W := hm_m4 192 rfl rfl
theorem hw_4_193 : Cond.methodLink RX8 99 yX8_in ∈ hm_W := hm_m4 193 (by decide +kernel) rfl
theorem hw_4_194 : Cond.static yX8_in ∈ hm_W := hm_m4 194 (by decide +kernel) rfl
theorem hw_4_195 : Cond.code yX8_in cX8_in 3 (some .boolean) ∈ hm_W := hm_m4 195 rfl rfl
theorem hw_4_196 : Cond.methodLink RL 22 yX8_clear ∈ hm_W := hm_m4 196 (by decide +kernel) rfl
theorem hw_4_197 : Cond.instanceMethod yX8_clear ∈ hm_W := hm_m4 197 (by decide +kernel) rfl
theorem hw_4_198 : Cond.selects RX8 yX8_clear yX8_clear ∈ hm_W := hm_m4 198 (by decide +kernel) rfl
theorem hw_4_199 : Cond.code yX8_clear cX8_clear 2 (some .int) ∈ hm_W := hm_m4 199 rfl rfl
theorem hw_4_200 : Cond.methodLink RL 26 yX8_words ∈ hm_W := hm_m4 200 (by decide +kernel) rfl
theorem hw_4_201 : Cond.instanceMethod yX8_words ∈ hm_W := hm_m4 201 (by decide +kernel) rfl
theorem hw_4_202 : Cond.selects RX8 yX8_words yX8_words ∈ hm_W := hm_m4 202 (by decide +kernel) rfl
theorem hw_4_203 : Cond.code yX8_words cX8_words 4 (some .int) ∈ hm_W := hm_m4 203 rfl rfl
theorem hw_4_204 : Cond.methodLink RX8 120 yX8_fault ∈ hm_W := hm_m4 204 (by decide +kernel) rfl
theorem hw_4_206 : Cond.instanceMethod yX8_fault ∈ hm_W := hm_m4 206 (by decide +kernel) rfl
theorem hw_4_207 : Cond.code yX8_fault cX8_fault 6 (some .int) ∈ hm_W := hm_m4 207 rfl rfl
theorem hw_4_208 : Cond.methodLink RX8 114 yX8_isWholeAt ∈ hm_W := hm_m4 208 (by decide +kernel) rfl
theorem hw_4_210 : Cond.instanceMethod yX8_isWholeAt ∈ hm_W := hm_m4 210 (by decide +kernel) rfl
theorem hw_4_211 : Cond.code yX8_isWholeAt cX8_isWholeAt 2 (some .boolean) ∈ hm_W := hm_m4 211 rfl rfl
theorem hw_4_212 : Cond.methodLink RX8 110 yX8_isWhole ∈ hm_W := hm_m4 212 (by decide +kernel) rfl
theorem hw_4_213 : Cond.static yX8_isWhole ∈ hm_W := hm_m4 213 (by decide +kernel) rfl
theorem hw_4_214 : Cond.code yX8_isWhole cX8_isWhole 1 (some .boolean) ∈ hm_W := hm_m4 214 rfl rfl
theorem hw_4_215 : Cond.methodLink RX8 106 yX8_markOf ∈ hm_W := hm_m4 215 (by decide +kernel) rfl
theorem hw_4_216 : Cond.static yX8_markOf ∈ hm_W := hm_m4 216 (by decide +kernel) rfl
theorem hw_4_217 : Cond.code yX8_markOf cX8_markOf 1 (some .int) ∈ hm_W := hm_m4 217 rfl rfl
theorem hw_4_218 : Cond.methodLink RX8 130 yX8_laysPlace ∈ hm_W := hm_m4 218 (by decide +kernel) rfl
theorem hw_4_220 : Cond.instanceMethod yX8_laysPlace ∈ hm_W := hm_m4 220 (by decide +kernel) rfl
theorem hw_4_221 : Cond.code yX8_laysPlace cX8_laysPlace 4 none ∈ hm_W := hm_m4 221 rfl rfl
theorem hw_4_222 : Cond.methodLink RL 31 yX8_word ∈ hm_W := hm_m4 222 (by decide +kernel) rfl
theorem hw_4_223 : Cond.instanceMethod yX8_word ∈ hm_W := hm_m4 223 (by decide +kernel) rfl
theorem hw_4_224 : Cond.selects RX8 yX8_word yX8_word ∈ hm_W := hm_m4 224 (by decide +kernel) rfl
theorem hw_4_225 : Cond.code yX8_word cX8_word 4 (some .int) ∈ hm_W := hm_m4 225 rfl rfl
theorem hw_4_226 : Cond.methodLink RX8 134 yX8_isWord ∈ hm_W := hm_m4 226 (by decide +kernel) rfl
theorem hw_4_228 : Cond.instanceMethod yX8_isWord ∈ hm_W := hm_m4 228 (by decide +kernel) rfl
theorem hw_4_229 : Cond.code yX8_isWord cX8_isWord 2 (some .boolean) ∈ hm_W := hm_m4 229 rfl rfl
theorem hw_4_230 : Cond.methodLink RL 35 yX8_different ∈ hm_W := hm_m4 230 (by decide +kernel) rfl
theorem hw_4_231 : Cond.instanceMethod yX8_different ∈ hm_W := hm_m4 231 (by decide +kernel) rfl
theorem hw_4_232 : Cond.selects RX8 yX8_different yX8_different ∈ hm_W := hm_m4 232 (by decide +kernel) rfl
theorem hw_4_233 : Cond.code yX8_different cX8_different 7 (some .int) ∈ hm_W := hm_m4 233 rfl rfl
theorem hw_4_234 : Cond.methodLink RX8 141 yX8_firstLike ∈ hm_W := hm_m4 234 (by decide +kernel) rfl
theorem hw_4_236 : Cond.instanceMethod yX8_firstLike ∈ hm_W := hm_m4 236 (by decide +kernel) rfl
theorem hw_4_237 : Cond.code yX8_firstLike cX8_firstLike 3 (some .int) ∈ hm_W := hm_m4 237 rfl rfl
theorem hw_4_238 : Cond.methodLink RX8 137 yX8_areAlike ∈ hm_W := hm_m4 238 (by decide +kernel) rfl
theorem hw_5_0 : Cond.instanceMethod yX8_areAlike ∈ hm_W := hm_m5 0 (by decide +kernel) rfl
theorem hw_5_1 : Cond.code yX8_areAlike cX8_areAlike 6 (some .boolean) ∈ hm_W := hm_m5 1 rfl rfl
theorem hw_5_2 : Cond.methodLink RL 39 yX8_place ∈ hm_W := hm_m5 2 (by decide +kernel) rfl
theorem hw_5_3 : Cond.instanceMethod yX8_place ∈ hm_W := hm_m5 3 (by decide +kernel) rfl
theorem hw_5_4 : Cond.selects RX8 yX8_place yX8_place ∈ hm_W := hm_m5 4 (by decide +kernel) rfl
theorem hw_5_5 : Cond.code yX8_place cX8_place 5 (some .int) ∈ hm_W := hm_m5 5 rfl rfl
theorem hw_5_6 : Cond.methodLink RX8 144 yX8_isPlace ∈ hm_W := hm_m5 6 (by decide +kernel) rfl
theorem hw_5_8 : Cond.instanceMethod yX8_isPlace ∈ hm_W := hm_m5 8 (by decide +kernel) rfl
theorem hw_5_9 : Cond.code yX8_isPlace cX8_isPlace 2 (some .boolean) ∈ hm_W := hm_m5 9 rfl rfl
theorem hw_5_10 : Cond.methodLink RL 43 yX8_wide ∈ hm_W := hm_m5 10 (by decide +kernel) rfl
theorem hw_5_11 : Cond.instanceMethod yX8_wide ∈ hm_W := hm_m5 11 (by decide +kernel) rfl
theorem hw_5_12 : Cond.selects RX8 yX8_wide yX8_wide ∈ hm_W := hm_m5 12 (by decide +kernel) rfl
theorem hw_5_13 : Cond.code yX8_wide cX8_wide 3 (some .int) ∈ hm_W := hm_m5 13 rfl rfl
theorem hw_5_14 : Cond.methodLink RX8 150 yX8_widthOf ∈ hm_W := hm_m5 14 (by decide +kernel) rfl
theorem hw_5_15 : Cond.static yX8_widthOf ∈ hm_W := hm_m5 15 (by decide +kernel) rfl
theorem hw_5_16 : Cond.code yX8_widthOf cX8_widthOf 1 (some .int) ∈ hm_W := hm_m5 16 rfl rfl
theorem hw_5_17 : Cond.methodLink RX8 153 yX8_becomes ∈ hm_W := hm_m5 17 (by decide +kernel) rfl
theorem hw_5_19 : Cond.instanceMethod yX8_becomes ∈ hm_W := hm_m5 19 (by decide +kernel) rfl
theorem hw_5_20 : Cond.code yX8_becomes cX8_becomes 4 (some .int) ∈ hm_W := hm_m5 20 rfl rfl
theorem hw_5_21 : Cond.methodLink RX8 147 yX8_notes ∈ hm_W := hm_m5 21 (by decide +kernel) rfl
theorem hw_5_23 : Cond.instanceMethod yX8_notes ∈ hm_W := hm_m5 23 (by decide +kernel) rfl
theorem hw_5_24 : Cond.code yX8_notes cX8_notes 2 none ∈ hm_W := hm_m5 24 rfl rfl
theorem hw_5_25 : Cond.methodLink RL 47 yX8_hangs ∈ hm_W := hm_m5 25 (by decide +kernel) rfl
theorem hw_5_26 : Cond.instanceMethod yX8_hangs ∈ hm_W := hm_m5 26 (by decide +kernel) rfl
theorem hw_5_27 : Cond.selects RX8 yX8_hangs yX8_hangs ∈ hm_W := hm_m5 27 (by decide +kernel) rfl
theorem hw_5_28 : Cond.code yX8_hangs cX8_hangs 3 (some .int) ∈ hm_W := hm_m5 28 rfl rfl
theorem hw_5_29 : Cond.methodLink RL 51 yX8_sets ∈ hm_W := hm_m5 29 (by decide +kernel) rfl
theorem hw_5_30 : Cond.instanceMethod yX8_sets ∈ hm_W := hm_m5 30 (by decide +kernel) rfl
theorem hw_5_31 : Cond.selects RX8 yX8_sets yX8_sets ∈ hm_W := hm_m5 31 (by decide +kernel) rfl
theorem hw_5_32 : Cond.code yX8_sets cX8_sets 4 (some .int) ∈ hm_W := hm_m5 32 rfl rfl
theorem hw_5_33 : Cond.methodLink RL 55 yX8_undo ∈ hm_W := hm_m5 33 (by decide +kernel) rfl
theorem hw_5_34 : Cond.instanceMethod yX8_undo ∈ hm_W := hm_m5 34 (by decide +kernel) rfl
theorem hw_5_35 : Cond.selects RX8 yX8_undo yX8_undo ∈ hm_W := hm_m5 35 (by decide +kernel) rfl
theorem hw_5_36 : Cond.code yX8_undo cX8_undo 2 (some .int) ∈ hm_W := hm_m5 36 rfl rfl
theorem hw_5_37 : Cond.methodLink RL 59 yX8_page ∈ hm_W := hm_m5 37 (by decide +kernel) rfl
theorem hw_5_38 : Cond.instanceMethod yX8_page ∈ hm_W := hm_m5 38 (by decide +kernel) rfl
theorem hw_5_39 : Cond.selects RX8 yX8_page yX8_page ∈ hm_W := hm_m5 39 (by decide +kernel) rfl
theorem hw_5_40 : Cond.code yX8_page cX8_page 6 (some .int) ∈ hm_W := hm_m5 40 rfl rfl
theorem hw_5_41 : Cond.methodLink RX8 210 yX8_laysPage ∈ hm_W := hm_m5 41 (by decide +kernel) rfl
theorem hw_5_43 : Cond.instanceMethod yX8_laysPage ∈ hm_W := hm_m5 43 (by decide +kernel) rfl
theorem hw_5_44 : Cond.code yX8_laysPage cX8_laysPage 3 (some .boolean) ∈ hm_W := hm_m5 44 rfl rfl
theorem hw_5_45 : Cond.methodLink RX8 176 yX8_sums ∈ hm_W := hm_m5 45 (by decide +kernel) rfl
theorem hw_5_47 : Cond.instanceMethod yX8_sums ∈ hm_W := hm_m5 47 (by decide +kernel) rfl
theorem hw_5_48 : Cond.code yX8_sums cX8_sums 2 none ∈ hm_W := hm_m5 48 rfl rfl
theorem hw_5_49 : Cond.methodLink RX8 179 yX8_looksFrom ∈ hm_W := hm_m5 49 (by decide +kernel) rfl
theorem hw_5_51 : Cond.instanceMethod yX8_looksFrom ∈ hm_W := hm_m5 51 (by decide +kernel) rfl
theorem hw_5_52 : Cond.code yX8_looksFrom cX8_looksFrom 8 none ∈ hm_W := hm_m5 52 rfl rfl
theorem hw_5_53 : Cond.methodLink RX8 169 yX8_left ∈ hm_W := hm_m5 53 (by decide +kernel) rfl
theorem hw_5_55 : Cond.instanceMethod yX8_left ∈ hm_W := hm_m5 55 (by decide +kernel) rfl
theorem hw_5_56 : Cond.code yX8_left cX8_left 4 (some .int) ∈ hm_W := hm_m5 56 rfl rfl
theorem hw_5_57 : Cond.methodLink RX8 163 yX8_hung ∈ hm_W := hm_m5 57 (by decide +kernel) rfl
theorem hw_5_59 : Cond.instanceMethod yX8_hung ∈ hm_W := hm_m5 59 (by decide +kernel) rfl
theorem hw_5_60 : Cond.code yX8_hung cX8_hung 3 (some .int) ∈ hm_W := hm_m5 60 rfl rfl
theorem hw_5_61 : Cond.methodLink RX8 166 yX8_natural ∈ hm_W := hm_m5 61 (by decide +kernel) rfl
theorem hw_5_63 : Cond.instanceMethod yX8_natural ∈ hm_W := hm_m5 63 (by decide +kernel) rfl
theorem hw_5_64 : Cond.code yX8_natural cX8_natural 4 (some .int) ∈ hm_W := hm_m5 64 rfl rfl
theorem hw_5_65 : Cond.methodLink RX8 157 yX8_firstWord ∈ hm_W := hm_m5 65 (by decide +kernel) rfl
theorem hw_5_67 : Cond.instanceMethod yX8_firstWord ∈ hm_W := hm_m5 67 (by decide +kernel) rfl
theorem hw_5_68 : Cond.code yX8_firstWord cX8_firstWord 2 (some .int) ∈ hm_W := hm_m5 68 rfl rfl
theorem hw_5_69 : Cond.methodLink RX8 160 yX8_firstLetter ∈ hm_W := hm_m5 69 (by decide +kernel) rfl
theorem hw_5_71 : Cond.instanceMethod yX8_firstLetter ∈ hm_W := hm_m5 71 (by decide +kernel) rfl
theorem hw_5_72 : Cond.code yX8_firstLetter cX8_firstLetter 2 (some .int) ∈ hm_W := hm_m5 72 rfl rfl
theorem hw_5_73 : Cond.methodLink RX8 173 yX8_costOf ∈ hm_W := hm_m5 73 (by decide +kernel) rfl
theorem hw_5_75 : Cond.instanceMethod yX8_costOf ∈ hm_W := hm_m5 75 (by decide +kernel) rfl
theorem hw_5_76 : Cond.code yX8_costOf cX8_costOf 5 (some .int) ∈ hm_W := hm_m5 76 rfl rfl
theorem hw_5_77 : Cond.methodLink RX8 213 yX8_rough ∈ hm_W := hm_m5 77 (by decide +kernel) rfl
theorem hw_5_79 : Cond.instanceMethod yX8_rough ∈ hm_W := hm_m5 79 (by decide +kernel) rfl
theorem hw_5_80 : Cond.code yX8_rough cX8_rough 4 (some .int) ∈ hm_W := hm_m5 80 rfl rfl
theorem hw_5_81 : Cond.methodLink RX8 207 yX8_endOf ∈ hm_W := hm_m5 81 (by decide +kernel) rfl
theorem hw_5_83 : Cond.instanceMethod yX8_endOf ∈ hm_W := hm_m5 83 (by decide +kernel) rfl
theorem hw_5_84 : Cond.code yX8_endOf cX8_endOf 2 (some .int) ∈ hm_W := hm_m5 84 rfl rfl
theorem hw_5_85 : Cond.methodLink RX8 186 yX8_before ∈ hm_W := hm_m5 85 (by decide +kernel) rfl
theorem hw_5_87 : Cond.instanceMethod yX8_before ∈ hm_W := hm_m5 87 (by decide +kernel) rfl
theorem hw_5_88 : Cond.code yX8_before cX8_before 2 (some .int) ∈ hm_W := hm_m5 88 rfl rfl
theorem hw_5_89 : Cond.methodLink RX8 192 yX8_isGiving ∈ hm_W := hm_m5 89 (by decide +kernel) rfl
theorem hw_5_91 : Cond.instanceMethod yX8_isGiving ∈ hm_W := hm_m5 91 (by decide +kernel) rfl
theorem hw_5_92 : Cond.code yX8_isGiving cX8_isGiving 2 (some .boolean) ∈ hm_W := hm_m5 92 rfl rfl
theorem hw_5_93 : Cond.methodLink RX8 189 yX8_blanksOf ∈ hm_W := hm_m5 93 (by decide +kernel) rfl
theorem hw_5_95 : Cond.instanceMethod yX8_blanksOf ∈ hm_W := hm_m5 95 (by decide +kernel) rfl
theorem hw_5_96 : Cond.code yX8_blanksOf cX8_blanksOf 2 (some .int) ∈ hm_W := hm_m5 96 rfl rfl
theorem hw_5_97 : Cond.methodLink RX8 195 yX8_leftIn ∈ hm_W := hm_m5 97 (by decide +kernel) rfl
theorem hw_5_99 : Cond.instanceMethod yX8_leftIn ∈ hm_W := hm_m5 99 (by decide +kernel) rfl
theorem hw_5_100 : Cond.code yX8_leftIn cX8_leftIn 2 (some .int) ∈ hm_W := hm_m5 100 rfl rfl
theorem hw_5_101 : Cond.methodLink RX8 216 yX8_laysBlanks ∈ hm_W := hm_m5 101 (by decide +kernel) rfl
theorem hw_5_103 : Cond.instanceMethod yX8_laysBlanks ∈ hm_W := hm_m5 103 (by decide +kernel) rfl
theorem hw_5_104 : Cond.code yX8_laysBlanks cX8_laysBlanks 8 none ∈ hm_W := hm_m5 104 rfl rfl
theorem hw_5_105 : Cond.methodLink RX8 201 yX8_rivers ∈ hm_W := hm_m5 105 (by decide +kernel) rfl
theorem hw_5_107 : Cond.instanceMethod yX8_rivers ∈ hm_W := hm_m5 107 (by decide +kernel) rfl
theorem hw_5_108 : Cond.code yX8_rivers cX8_rivers 5 none ∈ hm_W := hm_m5 108 rfl rfl
theorem hw_5_109 : Cond.methodLink RX8 204 yX8_areCommon ∈ hm_W := hm_m5 109 (by decide +kernel) rfl
theorem hw_5_111 : Cond.instanceMethod yX8_areCommon ∈ hm_W := hm_m5 111 (by decide +kernel) rfl
theorem hw_5_112 : Cond.code yX8_areCommon cX8_areCommon 5 (some .boolean) ∈ hm_W := hm_m5 112 rfl rfl
theorem hw_5_113 : Cond.methodLink RL 63 yX8_line ∈ hm_W := hm_m5 113 (by decide +kernel) rfl
theorem hw_5_114 : Cond.instanceMethod yX8_line ∈ hm_W := hm_m5 114 (by decide +kernel) rfl
theorem hw_5_115 : Cond.selects RX8 yX8_line yX8_line ∈ hm_W := hm_m5 115 (by decide +kernel) rfl
theorem hw_5_116 : Cond.code yX8_line cX8_line 3 (some .int) ∈ hm_W := hm_m5 116 rfl rfl
theorem hw_5_117 : Cond.methodLink RL 68 yX8_blank ∈ hm_W := hm_m5 117 (by decide +kernel) rfl
theorem hw_5_118 : Cond.instanceMethod yX8_blank ∈ hm_W := hm_m5 118 (by decide +kernel) rfl
theorem hw_5_119 : Cond.selects RX8 yX8_blank yX8_blank ∈ hm_W := hm_m5 119 (by decide +kernel) rfl
theorem hw_5_120 : Cond.code yX8_blank cX8_blank 5 (some .int) ∈ hm_W := hm_m5 120 rfl rfl
theorem hw_5_121 : Cond.methodLink RL 72 yX8_leftOf ∈ hm_W := hm_m5 121 (by decide +kernel) rfl
theorem hw_5_122 : Cond.instanceMethod yX8_leftOf ∈ hm_W := hm_m5 122 (by decide +kernel) rfl
theorem hw_5_123 : Cond.selects RX8 yX8_leftOf yX8_leftOf ∈ hm_W := hm_m5 123 (by decide +kernel) rfl
theorem hw_5_124 : Cond.code yX8_leftOf cX8_leftOf 3 (some .int) ∈ hm_W := hm_m5 124 rfl rfl
theorem hw_5_125 : Cond.constant RX8 219 (-1000000) ∈ hm_W := hm_m5 125 (by decide +kernel) rfl
theorem hw_5_126 : Cond.methodLink RL 76 yX8_puts ∈ hm_W := hm_m5 126 (by decide +kernel) rfl
theorem hw_5_127 : Cond.instanceMethod yX8_puts ∈ hm_W := hm_m5 127 (by decide +kernel) rfl
theorem hw_5_128 : Cond.selects RX8 yX8_puts yX8_puts ∈ hm_W := hm_m5 128 (by decide +kernel) rfl
theorem hw_5_129 : Cond.code yX8_puts cX8_puts 2 (some .int) ∈ hm_W := hm_m5 129 rfl rfl
theorem hw_5_130 : Cond.methodLink RL 80 yX8_takes ∈ hm_W := hm_m5 130 (by decide +kernel) rfl
theorem hw_5_131 : Cond.instanceMethod yX8_takes ∈ hm_W := hm_m5 131 (by decide +kernel) rfl
theorem hw_5_132 : Cond.selects RX8 yX8_takes yX8_takes ∈ hm_W := hm_m5 132 (by decide +kernel) rfl
theorem hw_5_133 : Cond.code yX8_takes cX8_takes 1 (some .int) ∈ hm_W := hm_m5 133 rfl rfl
theorem hw_5_134 : Cond.methodLink RL 84 yX8_judged ∈ hm_W := hm_m5 134 (by decide +kernel) rfl
theorem hw_5_135 : Cond.instanceMethod yX8_judged ∈ hm_W := hm_m5 135 (by decide +kernel) rfl
theorem hw_5_136 : Cond.selects RX8 yX8_judged yX8_judged ∈ hm_W := hm_m5 136 (by decide +kernel) rfl
theorem hw_5_137 : Cond.code yX8_judged cX8_judged 6 (some .int) ∈ hm_W := hm_m5 137 rfl rfl
theorem hw_5_138 : Cond.methodLink RL 88 yX8_alike ∈ hm_W := hm_m5 138 (by decide +kernel) rfl
theorem hw_5_139 : Cond.instanceMethod yX8_alike ∈ hm_W := hm_m5 139 (by decide +kernel) rfl
theorem hw_5_140 : Cond.selects RX8 yX8_alike yX8_alike ∈ hm_W := hm_m5 140 (by decide +kernel) rfl
theorem hw_5_141 : Cond.code yX8_alike cX8_alike 6 (some .int) ∈ hm_W := hm_m5 141 rfl rfl
theorem hw_5_142 : Cond.methodLink RX8 229 yX8_finds ∈ hm_W := hm_m5 142 (by decide +kernel) rfl
theorem hw_5_144 : Cond.instanceMethod yX8_finds ∈ hm_W := hm_m5 144 (by decide +kernel) rfl
theorem hw_5_145 : Cond.code yX8_finds cX8_finds 2 none ∈ hm_W := hm_m5 145 rfl rfl
theorem hw_5_146 : Cond.methodLink RX8 233 yX8_found ∈ hm_W := hm_m5 146 (by decide +kernel) rfl
theorem hw_5_148 : Cond.instanceMethod yX8_found ∈ hm_W := hm_m5 148 (by decide +kernel) rfl
theorem hw_5_149 : Cond.code yX8_found cX8_found 2 (some .int) ∈ hm_W := hm_m5 149 rfl rfl
theorem hw_5_150 : Cond.methodLink RL 92 yX8_sees ∈ hm_W := hm_m5 150 (by decide +kernel) rfl
theorem hw_5_151 : Cond.instanceMethod yX8_sees ∈ hm_W := hm_m5 151 (by decide +kernel) rfl
theorem hw_5_152 : Cond.selects RX8 yX8_sees yX8_sees ∈ hm_W := hm_m5 152 (by decide +kernel) rfl
theorem hw_5_153 : Cond.code yX8_sees cX8_sees 3 (some .int) ∈ hm_W := hm_m5 153 rfl rfl
theorem hw_5_154 : Cond.methodLink RL 96 yX8_forget ∈ hm_W := hm_m5 154 (by decide +kernel) rfl
theorem hw_5_155 : Cond.instanceMethod yX8_forget ∈ hm_W := hm_m5 155 (by decide +kernel) rfl
theorem hw_5_156 : Cond.selects RX8 yX8_forget yX8_forget ∈ hm_W := hm_m5 156 (by decide +kernel) rfl
theorem hw_5_157 : Cond.code yX8_forget cX8_forget 2 (some .int) ∈ hm_W := hm_m5 157 rfl rfl
theorem hw_5_158 : Cond.methodLink RL 100 yX8_unseen ∈ hm_W := hm_m5 158 (by decide +kernel) rfl
theorem hw_5_159 : Cond.instanceMethod yX8_unseen ∈ hm_W := hm_m5 159 (by decide +kernel) rfl
theorem hw_5_160 : Cond.selects RX8 yX8_unseen yX8_unseen ∈ hm_W := hm_m5 160 (by decide +kernel) rfl
theorem hw_5_161 : Cond.code yX8_unseen cX8_unseen 5 (some .int) ∈ hm_W := hm_m5 161 rfl rfl
theorem hw_5_162 : Cond.methodLink RX8 236 yX8_isBegun ∈ hm_W := hm_m5 162 (by decide +kernel) rfl
theorem hw_5_164 : Cond.instanceMethod yX8_isBegun ∈ hm_W := hm_m5 164 (by decide +kernel) rfl
theorem hw_5_165 : Cond.code yX8_isBegun cX8_isBegun 4 (some .boolean) ∈ hm_W := hm_m5 165 rfl rfl
theorem hw_5_166 : Cond.methodLink RL 104 yX8_keep ∈ hm_W := hm_m5 166 (by decide +kernel) rfl
theorem hw_5_167 : Cond.instanceMethod yX8_keep ∈ hm_W := hm_m5 167 (by decide +kernel) rfl
theorem hw_5_168 : Cond.selects RX8 yX8_keep yX8_keep ∈ hm_W := hm_m5 168 (by decide +kernel) rfl
theorem hw_5_169 : Cond.code yX8_keep cX8_keep 3 (some .int) ∈ hm_W := hm_m5 169 rfl rfl
theorem hw_5_170 : Cond.methodLink RL 108 yX8_back ∈ hm_W := hm_m5 170 (by decide +kernel) rfl
theorem hw_5_171 : Cond.instanceMethod yX8_back ∈ hm_W := hm_m5 171 (by decide +kernel) rfl
theorem hw_5_172 : Cond.selects RX8 yX8_back yX8_back ∈ hm_W := hm_m5 172 (by decide +kernel) rfl
theorem hw_5_173 : Cond.code yX8_back cX8_back 3 (some .int) ∈ hm_W := hm_m5 173 rfl rfl
theorem hw_5_174 : Cond.methodLink RL 112 yX8_count ∈ hm_W := hm_m5 174 (by decide +kernel) rfl
theorem hw_5_175 : Cond.instanceMethod yX8_count ∈ hm_W := hm_m5 175 (by decide +kernel) rfl
theorem hw_5_176 : Cond.selects RX8 yX8_count yX8_count ∈ hm_W := hm_m5 176 (by decide +kernel) rfl
theorem hw_5_177 : Cond.code yX8_count cX8_count 2 (some .int) ∈ hm_W := hm_m5 177 rfl rfl
theorem hw_5_178 : Cond.methodLink RX8 239 yX8_differents ∈ hm_W := hm_m5 178 (by decide +kernel) rfl
theorem hw_5_180 : Cond.instanceMethod yX8_differents ∈ hm_W := hm_m5 180 (by decide +kernel) rfl
theorem hw_5_181 : Cond.code yX8_differents cX8_differents 3 (some .int) ∈ hm_W := hm_m5 181 rfl rfl
theorem hw_p_0 : Cond.selects RX4 yX4_store yX4_store ∈ hm_W := hm_ps 0 (q := (yX4_store, _)) rfl rfl rfl
theorem hw_p_1 : Cond.selects RX4 yX4_loseUndone yX4_loseUndone ∈ hm_W := hm_ps 1 (q := (yX4_loseUndone, _)) rfl rfl rfl
theorem hw_p_2 : Cond.selects RX3 yX3_forgetAll yX3_forgetAll ∈ hm_W := hm_ps 2 (q := (yX3_forgetAll, _)) rfl rfl rfl
theorem hw_p_3 : Cond.selects RX3 yX3_addPlace yX3_addPlace ∈ hm_W := hm_ps 3 (q := (yX3_addPlace, _)) rfl rfl rfl
theorem hw_p_4 : Cond.selects RX3 yX3_endWord yX3_endWord ∈ hm_W := hm_ps 4 (q := (yX3_endWord, _)) rfl rfl rfl
theorem hw_p_5 : Cond.selects RX3 yX3_firstLike yX3_firstLike ∈ hm_W := hm_ps 5 (q := (yX3_firstLike, _)) rfl rfl rfl
theorem hw_p_6 : Cond.selects RX3 yX3_areSpelledAlike yX3_areSpelledAlike ∈ hm_W := hm_ps 6 (q := (yX3_areSpelledAlike, _)) rfl rfl rfl
theorem hw_p_7 : Cond.selects RX7 yX7_isPlace yX7_isPlace ∈ hm_W := hm_ps 7 (q := (yX7_isPlace, _)) rfl rfl rfl
theorem hw_p_8 : Cond.selects RX7 yX7_change yX7_change ∈ hm_W := hm_ps 8 (q := (yX7_change, _)) rfl rfl rfl
theorem hw_p_9 : Cond.selects RX7 yX7_markStale yX7_markStale ∈ hm_W := hm_ps 9 (q := (yX7_markStale, _)) rfl rfl rfl
theorem hw_p_10 : Cond.selects RX7 yX7_freshen yX7_freshen ∈ hm_W := hm_ps 10 (q := (yX7_freshen, _)) rfl rfl rfl
theorem hw_p_11 : Cond.selects RX1 yX1_takeWord yX1_takeWord ∈ hm_W := hm_ps 11 (q := (yX1_takeWord, _)) rfl rfl rfl
theorem hw_p_12 : Cond.selects RX1 yX1_addPlace yX1_addPlace ∈ hm_W := hm_ps 12 (q := (yX1_addPlace, _)) rfl rfl rfl
theorem hw_p_13 : Cond.selects RX0 yX0_chooseEnd yX0_chooseEnd ∈ hm_W := hm_ps 13 (q := (yX0_chooseEnd, _)) rfl rfl rfl
theorem hw_p_14 : Cond.selects RX5 yX5_setLine yX5_setLine ∈ hm_W := hm_ps 14 (q := (yX5_setLine, _)) rfl rfl rfl
theorem hw_p_15 : Cond.selects RX5 yX5_addBlank yX5_addBlank ∈ hm_W := hm_ps 15 (q := (yX5_addBlank, _)) rfl rfl rfl
theorem hw_p_16 : Cond.selects RX5 yX5_measureRivers yX5_measureRivers ∈ hm_W := hm_ps 16 (q := (yX5_measureRivers, _)) rfl rfl rfl
theorem hw_p_17 : Cond.selects RX5 yX5_longestMet yX5_longestMet ∈ hm_W := hm_ps 17 (q := (yX5_longestMet, _)) rfl rfl rfl
theorem hw_p_18 : Cond.selects RX5 yX5_meet yX5_meet ∈ hm_W := hm_ps 18 (q := (yX5_meet, _)) rfl rfl rfl
theorem hw_p_19 : Cond.selects RX5 yX5_meetsAny yX5_meetsAny ∈ hm_W := hm_ps 19 (q := (yX5_meetsAny, _)) rfl rfl rfl
theorem hw_p_20 : Cond.selects RX7 yX7_lastOfDraft yX7_lastOfDraft ∈ hm_W := hm_ps 20 (q := (yX7_lastOfDraft, _)) rfl rfl rfl
theorem hw_p_21 : Cond.selects RX7 yX7_firstWrongLine yX7_firstWrongLine ∈ hm_W := hm_ps 21 (q := (yX7_firstWrongLine, _)) rfl rfl rfl
theorem hw_p_22 : Cond.selects RX7 yX7_costOfDraft yX7_costOfDraft ∈ hm_W := hm_ps 22 (q := (yX7_costOfDraft, _)) rfl rfl rfl
theorem hw_p_23 : Cond.selects RX7 yX7_freshenSurvey yX7_freshenSurvey ∈ hm_W := hm_ps 23 (q := (yX7_freshenSurvey, _)) rfl rfl rfl
theorem hw_p_24 : Cond.selects RX6 yX6_note yX6_note ∈ hm_W := hm_ps 24 (q := (yX6_note, _)) rfl rfl rfl
theorem hw_p_25 : Cond.selects RX6 yX6_beginsLine yX6_beginsLine ∈ hm_W := hm_ps 25 (q := (yX6_beginsLine, _)) rfl rfl rfl
theorem hw_p_26 : Cond.selects RX6 yX6_endsAt yX6_endsAt ∈ hm_W := hm_ps 26 (q := (yX6_endsAt, _)) rfl rfl rfl
theorem hw_p_27 : Cond.selects RX8 yX8_begins yX8_begins ∈ hm_W := hm_ps 27 (q := (yX8_begins, _)) rfl rfl rfl
theorem hw_p_28 : Cond.selects RX8 yX8_fault yX8_fault ∈ hm_W := hm_ps 28 (q := (yX8_fault, _)) rfl rfl rfl
theorem hw_p_29 : Cond.selects RX8 yX8_isWholeAt yX8_isWholeAt ∈ hm_W := hm_ps 29 (q := (yX8_isWholeAt, _)) rfl rfl rfl
theorem hw_p_30 : Cond.selects RX8 yX8_laysPlace yX8_laysPlace ∈ hm_W := hm_ps 30 (q := (yX8_laysPlace, _)) rfl rfl rfl
theorem hw_p_31 : Cond.selects RX8 yX8_isWord yX8_isWord ∈ hm_W := hm_ps 31 (q := (yX8_isWord, _)) rfl rfl rfl
theorem hw_p_32 : Cond.selects RX8 yX8_firstLike yX8_firstLike ∈ hm_W := hm_ps 32 (q := (yX8_firstLike, _)) rfl rfl rfl
theorem hw_p_33 : Cond.selects RX8 yX8_areAlike yX8_areAlike ∈ hm_W := hm_ps 33 (q := (yX8_areAlike, _)) rfl rfl rfl
theorem hw_p_34 : Cond.selects RX8 yX8_isPlace yX8_isPlace ∈ hm_W := hm_ps 34 (q := (yX8_isPlace, _)) rfl rfl rfl
theorem hw_p_35 : Cond.selects RX8 yX8_becomes yX8_becomes ∈ hm_W := hm_ps 35 (q := (yX8_becomes, _)) rfl rfl rfl
theorem hw_p_36 : Cond.selects RX8 yX8_notes yX8_notes ∈ hm_W := hm_ps 36 (q := (yX8_notes, _)) rfl rfl rfl
theorem hw_p_37 : Cond.selects RX8 yX8_laysPage yX8_laysPage ∈ hm_W := hm_ps 37 (q := (yX8_laysPage, _)) rfl rfl rfl
theorem hw_p_38 : Cond.selects RX8 yX8_sums yX8_sums ∈ hm_W := hm_ps 38 (q := (yX8_sums, _)) rfl rfl rfl
theorem hw_p_39 : Cond.selects RX8 yX8_looksFrom yX8_looksFrom ∈ hm_W := hm_ps 39 (q := (yX8_looksFrom, _)) rfl rfl rfl
theorem hw_p_40 : Cond.selects RX8 yX8_left yX8_left ∈ hm_W := hm_ps 40 (q := (yX8_left, _)) rfl rfl rfl
theorem hw_p_41 : Cond.selects RX8 yX8_hung yX8_hung ∈ hm_W := hm_ps 41 (q := (yX8_hung, _)) rfl rfl rfl
theorem hw_p_42 : Cond.selects RX8 yX8_natural yX8_natural ∈ hm_W := hm_ps 42 (q := (yX8_natural, _)) rfl rfl rfl
theorem hw_p_43 : Cond.selects RX8 yX8_firstWord yX8_firstWord ∈ hm_W := hm_ps 43 (q := (yX8_firstWord, _)) rfl rfl rfl
theorem hw_p_44 : Cond.selects RX8 yX8_firstLetter yX8_firstLetter ∈ hm_W := hm_ps 44 (q := (yX8_firstLetter, _)) rfl rfl rfl
theorem hw_p_45 : Cond.selects RX8 yX8_costOf yX8_costOf ∈ hm_W := hm_ps 45 (q := (yX8_costOf, _)) rfl rfl rfl
theorem hw_p_46 : Cond.selects RX8 yX8_rough yX8_rough ∈ hm_W := hm_ps 46 (q := (yX8_rough, _)) rfl rfl rfl
theorem hw_p_47 : Cond.selects RX8 yX8_endOf yX8_endOf ∈ hm_W := hm_ps 47 (q := (yX8_endOf, _)) rfl rfl rfl
theorem hw_p_48 : Cond.selects RX8 yX8_before yX8_before ∈ hm_W := hm_ps 48 (q := (yX8_before, _)) rfl rfl rfl
theorem hw_p_49 : Cond.selects RX8 yX8_isGiving yX8_isGiving ∈ hm_W := hm_ps 49 (q := (yX8_isGiving, _)) rfl rfl rfl
theorem hw_p_50 : Cond.selects RX8 yX8_blanksOf yX8_blanksOf ∈ hm_W := hm_ps 50 (q := (yX8_blanksOf, _)) rfl rfl rfl
theorem hw_p_51 : Cond.selects RX8 yX8_leftIn yX8_leftIn ∈ hm_W := hm_ps 51 (q := (yX8_leftIn, _)) rfl rfl rfl
theorem hw_p_52 : Cond.selects RX8 yX8_laysBlanks yX8_laysBlanks ∈ hm_W := hm_ps 52 (q := (yX8_laysBlanks, _)) rfl rfl rfl
theorem hw_p_53 : Cond.selects RX8 yX8_rivers yX8_rivers ∈ hm_W := hm_ps 53 (q := (yX8_rivers, _)) rfl rfl rfl
theorem hw_p_54 : Cond.selects RX8 yX8_areCommon yX8_areCommon ∈ hm_W := hm_ps 54 (q := (yX8_areCommon, _)) rfl rfl rfl
theorem hw_p_55 : Cond.selects RX8 yX8_finds yX8_finds ∈ hm_W := hm_ps 55 (q := (yX8_finds, _)) rfl rfl rfl
theorem hw_p_56 : Cond.selects RX8 yX8_found yX8_found ∈ hm_W := hm_ps 56 (q := (yX8_found, _)) rfl rfl rfl
theorem hw_p_57 : Cond.selects RX8 yX8_isBegun yX8_isBegun ∈ hm_W := hm_ps 57 (q := (yX8_isBegun, _)) rfl rfl rfl
theorem hw_p_58 : Cond.selects RX8 yX8_differents yX8_differents ∈ hm_W := hm_ps 58 (q := (yX8_differents, _)) rfl rfl rfl
theorem hl_X0_0 : u_lay RX0 TX0 0 ∈ hm_W := hm_m1 164 (by decide +kernel) (by decide +kernel)
theorem hl_X0_1 : u_lay RX0 TX0 1 ∈ hm_W := hm_m1 166 (by decide +kernel) (by decide +kernel)
theorem hl_X0_2 : u_lay RX0 TX0 2 ∈ hm_W := hm_m1 168 (by decide +kernel) (by decide +kernel)
theorem hm_inX0 : ∀ w ∈ u_ws RX0 TX0 3, w ∈ hm_W := by
  show ∀ w ∈ [u_lay RX0 TX0 0, u_lay RX0 TX0 1, u_lay RX0 TX0 2], w ∈ hm_W
  exact List.forall_mem_cons.mpr ⟨hl_X0_0, List.forall_mem_cons.mpr ⟨hl_X0_1, List.forall_mem_cons.mpr ⟨hl_X0_2, fun _ h => absurd h List.not_mem_nil⟩⟩⟩
theorem hl_X1_0 : u_lay RX1 TX1 0 ∈ hm_W := hm_m1 136 (by decide +kernel) (by decide +kernel)
theorem hl_X1_1 : u_lay RX1 TX1 1 ∈ hm_W := hm_m1 138 (by decide +kernel) (by decide +kernel)
theorem hl_X1_2 : u_lay RX1 TX1 2 ∈ hm_W := hm_m1 140 (by decide +kernel) (by decide +kernel)
theorem hl_X1_3 : u_lay RX1 TX1 3 ∈ hm_W := hm_m1 142 (by decide +kernel) (by decide +kernel)
theorem hl_X1_4 : u_lay RX1 TX1 4 ∈ hm_W := hm_m1 144 (by decide +kernel) (by decide +kernel)
theorem hl_X1_5 : u_lay RX1 TX1 5 ∈ hm_W := hm_m1 146 (by decide +kernel) (by decide +kernel)
theorem hl_X1_6 : u_lay RX1 TX1 6 ∈ hm_W := hm_m1 148 (by decide +kernel) (by decide +kernel)
theorem hl_X1_7 : u_lay RX1 TX1 7 ∈ hm_W := hm_m1 150 (by decide +kernel) (by decide +kernel)
theorem hl_X1_8 : u_lay RX1 TX1 8 ∈ hm_W := hm_m1 152 (by decide +kernel) (by decide +kernel)
theorem hm_inX1 : ∀ w ∈ u_ws RX1 TX1 9, w ∈ hm_W := by
  show ∀ w ∈ [u_lay RX1 TX1 0, u_lay RX1 TX1 1, u_lay RX1 TX1 2, u_lay RX1 TX1 3, u_lay RX1 TX1 4, u_lay RX1 TX1 5, u_lay RX1 TX1 6, u_lay RX1 TX1 7, u_lay RX1 TX1 8], w ∈ hm_W
  exact List.forall_mem_cons.mpr ⟨hl_X1_0, List.forall_mem_cons.mpr ⟨hl_X1_1, List.forall_mem_cons.mpr ⟨hl_X1_2, List.forall_mem_cons.mpr ⟨hl_X1_3, List.forall_mem_cons.mpr ⟨hl_X1_4, List.forall_mem_cons.mpr ⟨hl_X1_5, List.forall_mem_cons.mpr ⟨hl_X1_6, List.forall_mem_cons.mpr ⟨hl_X1_7, List.forall_mem_cons.mpr ⟨hl_X1_8, fun _ h => absurd h List.not_mem_nil⟩⟩⟩⟩⟩⟩⟩⟩⟩
theorem hl_X2_0 : u_lay RX2 TX2 0 ∈ hm_W := hm_m1 31 (by decide +kernel) (by decide +kernel)
theorem hl_X2_1 : u_lay RX2 TX2 1 ∈ hm_W := hm_m1 33 (by decide +kernel) (by decide +kernel)
theorem hm_inX2 : ∀ w ∈ u_ws RX2 TX2 2, w ∈ hm_W := by
  show ∀ w ∈ [u_lay RX2 TX2 0, u_lay RX2 TX2 1], w ∈ hm_W
  exact List.forall_mem_cons.mpr ⟨hl_X2_0, List.forall_mem_cons.mpr ⟨hl_X2_1, fun _ h => absurd h List.not_mem_nil⟩⟩
theorem hl_X3_0 : u_lay RX3 TX3 0 ∈ hm_W := hm_m1 55 (by decide +kernel) (by decide +kernel)
theorem hl_X3_1 : u_lay RX3 TX3 1 ∈ hm_W := hm_m1 57 (by decide +kernel) (by decide +kernel)
theorem hl_X3_2 : u_lay RX3 TX3 2 ∈ hm_W := hm_m1 59 (by decide +kernel) (by decide +kernel)
theorem hl_X3_3 : u_lay RX3 TX3 3 ∈ hm_W := hm_m1 61 (by decide +kernel) (by decide +kernel)
theorem hl_X3_4 : u_lay RX3 TX3 4 ∈ hm_W := hm_m1 63 (by decide +kernel) (by decide +kernel)
theorem hl_X3_5 : u_lay RX3 TX3 5 ∈ hm_W := hm_m1 65 (by decide +kernel) (by decide +kernel)
theorem hl_X3_6 : u_lay RX3 TX3 6 ∈ hm_W := hm_m1 67 (by decide +kernel) (by decide +kernel)
theorem hl_X3_7 : u_lay RX3 TX3 7 ∈ hm_W := hm_m1 69 (by decide +kernel) (by decide +kernel)
theorem hl_X3_8 : u_lay RX3 TX3 8 ∈ hm_W := hm_m1 71 (by decide +kernel) (by decide +kernel)
theorem hl_X3_9 : u_lay RX3 TX3 9 ∈ hm_W := hm_m1 73 (by decide +kernel) (by decide +kernel)
theorem hm_inX3 : ∀ w ∈ u_ws RX3 TX3 10, w ∈ hm_W := by
  show ∀ w ∈ [u_lay RX3 TX3 0, u_lay RX3 TX3 1, u_lay RX3 TX3 2, u_lay RX3 TX3 3, u_lay RX3 TX3 4, u_lay RX3 TX3 5, u_lay RX3 TX3 6, u_lay RX3 TX3 7, u_lay RX3 TX3 8, u_lay RX3 TX3 9], w ∈ hm_W
  exact List.forall_mem_cons.mpr ⟨hl_X3_0, List.forall_mem_cons.mpr ⟨hl_X3_1, List.forall_mem_cons.mpr ⟨hl_X3_2, List.forall_mem_cons.mpr ⟨hl_X3_3, List.forall_mem_cons.mpr ⟨hl_X3_4, List.forall_mem_cons.mpr ⟨hl_X3_5, List.forall_mem_cons.mpr ⟨hl_X3_6, List.forall_mem_cons.mpr ⟨hl_X3_7, List.forall_mem_cons.mpr ⟨hl_X3_8, List.forall_mem_cons.mpr ⟨hl_X3_9, fun _ h => absurd h List.not_mem_nil⟩⟩⟩⟩⟩⟩⟩⟩⟩⟩
theorem hl_X4_0 : u_lay RX4 TX4 0 ∈ hm_W := hm_m1 107 (by decide +kernel) (by decide +kernel)
theorem hl_X4_1 : u_lay RX4 TX4 1 ∈ hm_W := hm_m1 109 (by decide +kernel) (by decide +kernel)
theorem hl_X4_2 : u_lay RX4 TX4 2 ∈ hm_W := hm_m1 111 (by decide +kernel) (by decide +kernel)
theorem hl_X4_3 : u_lay RX4 TX4 3 ∈ hm_W := hm_m1 113 (by decide +kernel) (by decide +kernel)
theorem hl_X4_4 : u_lay RX4 TX4 4 ∈ hm_W := hm_m1 115 (by decide +kernel) (by decide +kernel)
theorem hm_inX4 : ∀ w ∈ u_ws RX4 TX4 5, w ∈ hm_W := by
  show ∀ w ∈ [u_lay RX4 TX4 0, u_lay RX4 TX4 1, u_lay RX4 TX4 2, u_lay RX4 TX4 3, u_lay RX4 TX4 4], w ∈ hm_W
  exact List.forall_mem_cons.mpr ⟨hl_X4_0, List.forall_mem_cons.mpr ⟨hl_X4_1, List.forall_mem_cons.mpr ⟨hl_X4_2, List.forall_mem_cons.mpr ⟨hl_X4_3, List.forall_mem_cons.mpr ⟨hl_X4_4, fun _ h => absurd h List.not_mem_nil⟩⟩⟩⟩⟩
theorem hl_X5_0 : u_lay RX5 TX5 0 ∈ hm_W := hm_m1 187 (by decide +kernel) (by decide +kernel)
theorem hl_X5_1 : u_lay RX5 TX5 1 ∈ hm_W := hm_m1 189 (by decide +kernel) (by decide +kernel)
theorem hl_X5_2 : u_lay RX5 TX5 2 ∈ hm_W := hm_m1 191 (by decide +kernel) (by decide +kernel)
theorem hl_X5_3 : u_lay RX5 TX5 3 ∈ hm_W := hm_m1 193 (by decide +kernel) (by decide +kernel)
theorem hl_X5_4 : u_lay RX5 TX5 4 ∈ hm_W := hm_m1 195 (by decide +kernel) (by decide +kernel)
theorem hl_X5_5 : u_lay RX5 TX5 5 ∈ hm_W := hm_m1 197 (by decide +kernel) (by decide +kernel)
theorem hl_X5_6 : u_lay RX5 TX5 6 ∈ hm_W := hm_m1 199 (by decide +kernel) (by decide +kernel)
theorem hl_X5_7 : u_lay RX5 TX5 7 ∈ hm_W := hm_m1 201 (by decide +kernel) (by decide +kernel)
theorem hm_inX5 : ∀ w ∈ u_ws RX5 TX5 8, w ∈ hm_W := by
  show ∀ w ∈ [u_lay RX5 TX5 0, u_lay RX5 TX5 1, u_lay RX5 TX5 2, u_lay RX5 TX5 3, u_lay RX5 TX5 4, u_lay RX5 TX5 5, u_lay RX5 TX5 6, u_lay RX5 TX5 7], w ∈ hm_W
  exact List.forall_mem_cons.mpr ⟨hl_X5_0, List.forall_mem_cons.mpr ⟨hl_X5_1, List.forall_mem_cons.mpr ⟨hl_X5_2, List.forall_mem_cons.mpr ⟨hl_X5_3, List.forall_mem_cons.mpr ⟨hl_X5_4, List.forall_mem_cons.mpr ⟨hl_X5_5, List.forall_mem_cons.mpr ⟨hl_X5_6, List.forall_mem_cons.mpr ⟨hl_X5_7, fun _ h => absurd h List.not_mem_nil⟩⟩⟩⟩⟩⟩⟩⟩
theorem hl_X6_0 : u_lay RX6 TX6 0 ∈ hm_W := hm_m1 213 (by decide +kernel) (by decide +kernel)
theorem hl_X6_1 : u_lay RX6 TX6 1 ∈ hm_W := hm_m1 215 (by decide +kernel) (by decide +kernel)
theorem hl_X6_2 : u_lay RX6 TX6 2 ∈ hm_W := hm_m1 217 (by decide +kernel) (by decide +kernel)
theorem hm_inX6 : ∀ w ∈ u_ws RX6 TX6 3, w ∈ hm_W := by
  show ∀ w ∈ [u_lay RX6 TX6 0, u_lay RX6 TX6 1, u_lay RX6 TX6 2], w ∈ hm_W
  exact List.forall_mem_cons.mpr ⟨hl_X6_0, List.forall_mem_cons.mpr ⟨hl_X6_1, List.forall_mem_cons.mpr ⟨hl_X6_2, fun _ h => absurd h List.not_mem_nil⟩⟩⟩
theorem hl_X7_0 : u_lay RX7 TX7 0 ∈ hm_W := hm_m1 233 (by decide +kernel) (by decide +kernel)
theorem hl_X7_1 : u_lay RX7 TX7 1 ∈ hm_W := hm_m1 235 (by decide +kernel) (by decide +kernel)
theorem hl_X7_2 : u_lay RX7 TX7 2 ∈ hm_W := hm_m1 237 (by decide +kernel) (by decide +kernel)
theorem hl_X7_3 : u_lay RX7 TX7 3 ∈ hm_W := hm_m1 239 (by decide +kernel) (by decide +kernel)
theorem hl_X7_4 : u_lay RX7 TX7 4 ∈ hm_W := hm_m2 1 (by decide +kernel) (by decide +kernel)
theorem hl_X7_5 : u_lay RX7 TX7 5 ∈ hm_W := hm_m2 3 (by decide +kernel) (by decide +kernel)
theorem hl_X7_6 : u_lay RX7 TX7 6 ∈ hm_W := hm_m2 5 (by decide +kernel) (by decide +kernel)
theorem hl_X7_7 : u_lay RX7 TX7 7 ∈ hm_W := hm_m2 7 (by decide +kernel) (by decide +kernel)
theorem hl_X7_8 : u_lay RX7 TX7 8 ∈ hm_W := hm_m2 9 (by decide +kernel) (by decide +kernel)
theorem hl_X7_9 : u_lay RX7 TX7 9 ∈ hm_W := hm_m2 11 (by decide +kernel) (by decide +kernel)
theorem hl_X7_10 : u_lay RX7 TX7 10 ∈ hm_W := hm_m2 13 (by decide +kernel) (by decide +kernel)
theorem hl_X7_11 : u_lay RX7 TX7 11 ∈ hm_W := hm_m2 15 (by decide +kernel) (by decide +kernel)
theorem hm_inX7 : ∀ w ∈ u_ws RX7 TX7 12, w ∈ hm_W := by
  show ∀ w ∈ [u_lay RX7 TX7 0, u_lay RX7 TX7 1, u_lay RX7 TX7 2, u_lay RX7 TX7 3, u_lay RX7 TX7 4, u_lay RX7 TX7 5, u_lay RX7 TX7 6, u_lay RX7 TX7 7, u_lay RX7 TX7 8, u_lay RX7 TX7 9, u_lay RX7 TX7 10, u_lay RX7 TX7 11], w ∈ hm_W
  exact List.forall_mem_cons.mpr ⟨hl_X7_0, List.forall_mem_cons.mpr ⟨hl_X7_1, List.forall_mem_cons.mpr ⟨hl_X7_2, List.forall_mem_cons.mpr ⟨hl_X7_3, List.forall_mem_cons.mpr ⟨hl_X7_4, List.forall_mem_cons.mpr ⟨hl_X7_5, List.forall_mem_cons.mpr ⟨hl_X7_6, List.forall_mem_cons.mpr ⟨hl_X7_7, List.forall_mem_cons.mpr ⟨hl_X7_8, List.forall_mem_cons.mpr ⟨hl_X7_9, List.forall_mem_cons.mpr ⟨hl_X7_10, List.forall_mem_cons.mpr ⟨hl_X7_11, fun _ h => absurd h List.not_mem_nil⟩⟩⟩⟩⟩⟩⟩⟩⟩⟩⟩⟩
theorem hl_X8_0 : u_lay RX8 TX8 0 ∈ hm_W := hm_m4 114 (by decide +kernel) (by decide +kernel)
theorem hl_X8_1 : u_lay RX8 TX8 1 ∈ hm_W := hm_m4 116 (by decide +kernel) (by decide +kernel)
theorem hl_X8_2 : u_lay RX8 TX8 2 ∈ hm_W := hm_m4 118 (by decide +kernel) (by decide +kernel)
theorem hl_X8_3 : u_lay RX8 TX8 3 ∈ hm_W := hm_m4 120 (by decide +kernel) (by decide +kernel)
theorem hl_X8_4 : u_lay RX8 TX8 4 ∈ hm_W := hm_m4 122 (by decide +kernel) (by decide +kernel)
theorem hl_X8_5 : u_lay RX8 TX8 5 ∈ hm_W := hm_m4 124 (by decide +kernel) (by decide +kernel)
theorem hl_X8_6 : u_lay RX8 TX8 6 ∈ hm_W := hm_m4 126 (by decide +kernel) (by decide +kernel)
theorem hl_X8_7 : u_lay RX8 TX8 7 ∈ hm_W := hm_m4 128 (by decide +kernel) (by decide +kernel)
theorem hl_X8_8 : u_lay RX8 TX8 8 ∈ hm_W := hm_m4 130 (by decide +kernel) (by decide +kernel)
theorem hl_X8_9 : u_lay RX8 TX8 9 ∈ hm_W := hm_m4 132 (by decide +kernel) (by decide +kernel)
theorem hl_X8_10 : u_lay RX8 TX8 10 ∈ hm_W := hm_m4 134 (by decide +kernel) (by decide +kernel)
theorem hl_X8_11 : u_lay RX8 TX8 11 ∈ hm_W := hm_m4 136 (by decide +kernel) (by decide +kernel)
theorem hl_X8_12 : u_lay RX8 TX8 12 ∈ hm_W := hm_m4 138 (by decide +kernel) (by decide +kernel)
theorem hl_X8_13 : u_lay RX8 TX8 13 ∈ hm_W := hm_m4 140 (by decide +kernel) (by decide +kernel)
theorem hl_X8_14 : u_lay RX8 TX8 14 ∈ hm_W := hm_m4 142 (by decide +kernel) (by decide +kernel)
theorem hl_X8_15 : u_lay RX8 TX8 15 ∈ hm_W := hm_m4 144 (by decide +kernel) (by decide +kernel)
theorem hl_X8_16 : u_lay RX8 TX8 16 ∈ hm_W := hm_m4 146 (by decide +kernel) (by decide +kernel)
theorem hl_X8_17 : u_lay RX8 TX8 17 ∈ hm_W := hm_m4 148 (by decide +kernel) (by decide +kernel)
theorem hl_X8_18 : u_lay RX8 TX8 18 ∈ hm_W := hm_m4 150 (by decide +kernel) (by decide +kernel)
theorem hl_X8_19 : u_lay RX8 TX8 19 ∈ hm_W := hm_m4 152 (by decide +kernel) (by decide +kernel)
theorem hl_X8_20 : u_lay RX8 TX8 20 ∈ hm_W := hm_m4 154 (by decide +kernel) (by decide +kernel)
theorem hl_X8_21 : u_lay RX8 TX8 21 ∈ hm_W := hm_m4 156 (by decide +kernel) (by decide +kernel)
theorem hl_X8_22 : u_lay RX8 TX8 22 ∈ hm_W := hm_m4 158 (by decide +kernel) (by decide +kernel)
theorem hl_X8_23 : u_lay RX8 TX8 23 ∈ hm_W := hm_m4 160 (by decide +kernel) (by decide +kernel)
theorem hl_X8_24 : u_lay RX8 TX8 24 ∈ hm_W := hm_m4 162 (by decide +kernel) (by decide +kernel)
theorem hl_X8_25 : u_lay RX8 TX8 25 ∈ hm_W := hm_m4 164 (by decide +kernel) (by decide +kernel)
theorem hl_X8_26 : u_lay RX8 TX8 26 ∈ hm_W := hm_m4 166 (by decide +kernel) (by decide +kernel)
theorem hl_X8_27 : u_lay RX8 TX8 27 ∈ hm_W := hm_m4 168 (by decide +kernel) (by decide +kernel)
theorem hl_X8_28 : u_lay RX8 TX8 28 ∈ hm_W := hm_m4 170 (by decide +kernel) (by decide +kernel)
theorem hl_X8_29 : u_lay RX8 TX8 29 ∈ hm_W := hm_m4 172 (by decide +kernel) (by decide +kernel)
theorem hl_X8_30 : u_lay RX8 TX8 30 ∈ hm_W := hm_m4 174 (by decide +kernel) (by decide +kernel)
theorem hl_X8_31 : u_lay RX8 TX8 31 ∈ hm_W := hm_m4 176 (by decide +kernel) (by decide +kernel)
theorem hl_X8_32 : u_lay RX8 TX8 32 ∈ hm_W := hm_m4 178 (by decide +kernel) (by decide +kernel)
theorem hl_X8_33 : u_lay RX8 TX8 33 ∈ hm_W := hm_m4 180 (by decide +kernel) (by decide +kernel)
theorem hl_X8_34 : u_lay RX8 TX8 34 ∈ hm_W := hm_m4 182 (by decide +kernel) (by decide +kernel)
theorem hl_X8_35 : u_lay RX8 TX8 35 ∈ hm_W := hm_m4 184 (by decide +kernel) (by decide +kernel)
theorem hl_X8_36 : u_lay RX8 TX8 36 ∈ hm_W := hm_m4 186 (by decide +kernel) (by decide +kernel)
theorem hm_inX8 : ∀ w ∈ u_ws RX8 TX8 37, w ∈ hm_W := by
  show ∀ w ∈ [u_lay RX8 TX8 0, u_lay RX8 TX8 1, u_lay RX8 TX8 2, u_lay RX8 TX8 3, u_lay RX8 TX8 4, u_lay RX8 TX8 5, u_lay RX8 TX8 6, u_lay RX8 TX8 7, u_lay RX8 TX8 8, u_lay RX8 TX8 9, u_lay RX8 TX8 10, u_lay RX8 TX8 11, u_lay RX8 TX8 12, u_lay RX8 TX8 13, u_lay RX8 TX8 14, u_lay RX8 TX8 15, u_lay RX8 TX8 16, u_lay RX8 TX8 17, u_lay RX8 TX8 18, u_lay RX8 TX8 19, u_lay RX8 TX8 20, u_lay RX8 TX8 21, u_lay RX8 TX8 22, u_lay RX8 TX8 23, u_lay RX8 TX8 24, u_lay RX8 TX8 25, u_lay RX8 TX8 26, u_lay RX8 TX8 27, u_lay RX8 TX8 28, u_lay RX8 TX8 29, u_lay RX8 TX8 30, u_lay RX8 TX8 31, u_lay RX8 TX8 32, u_lay RX8 TX8 33, u_lay RX8 TX8 34, u_lay RX8 TX8 35, u_lay RX8 TX8 36], w ∈ hm_W
  exact List.forall_mem_cons.mpr ⟨hl_X8_0, List.forall_mem_cons.mpr ⟨hl_X8_1, List.forall_mem_cons.mpr ⟨hl_X8_2, List.forall_mem_cons.mpr ⟨hl_X8_3, List.forall_mem_cons.mpr ⟨hl_X8_4, List.forall_mem_cons.mpr ⟨hl_X8_5, List.forall_mem_cons.mpr ⟨hl_X8_6, List.forall_mem_cons.mpr ⟨hl_X8_7, List.forall_mem_cons.mpr ⟨hl_X8_8, List.forall_mem_cons.mpr ⟨hl_X8_9, List.forall_mem_cons.mpr ⟨hl_X8_10, List.forall_mem_cons.mpr ⟨hl_X8_11, List.forall_mem_cons.mpr ⟨hl_X8_12, List.forall_mem_cons.mpr ⟨hl_X8_13, List.forall_mem_cons.mpr ⟨hl_X8_14, List.forall_mem_cons.mpr ⟨hl_X8_15, List.forall_mem_cons.mpr ⟨hl_X8_16, List.forall_mem_cons.mpr ⟨hl_X8_17, List.forall_mem_cons.mpr ⟨hl_X8_18, List.forall_mem_cons.mpr ⟨hl_X8_19, List.forall_mem_cons.mpr ⟨hl_X8_20, List.forall_mem_cons.mpr ⟨hl_X8_21, List.forall_mem_cons.mpr ⟨hl_X8_22, List.forall_mem_cons.mpr ⟨hl_X8_23, List.forall_mem_cons.mpr ⟨hl_X8_24, List.forall_mem_cons.mpr ⟨hl_X8_25, List.forall_mem_cons.mpr ⟨hl_X8_26, List.forall_mem_cons.mpr ⟨hl_X8_27, List.forall_mem_cons.mpr ⟨hl_X8_28, List.forall_mem_cons.mpr ⟨hl_X8_29, List.forall_mem_cons.mpr ⟨hl_X8_30, List.forall_mem_cons.mpr ⟨hl_X8_31, List.forall_mem_cons.mpr ⟨hl_X8_32, List.forall_mem_cons.mpr ⟨hl_X8_33, List.forall_mem_cons.mpr ⟨hl_X8_34, List.forall_mem_cons.mpr ⟨hl_X8_35, List.forall_mem_cons.mpr ⟨hl_X8_36, fun _ h => absurd h List.not_mem_nil⟩⟩⟩⟩⟩⟩⟩⟩⟩⟩⟩⟩⟩⟩⟩⟩⟩⟩⟩⟩⟩⟩⟩⟩⟩⟩⟩⟩⟩⟩⟩⟩⟩⟩⟩⟩⟩
end
section
/-! the base: worlds as lists of blocks, one bundle of facts, contracts that fix the answer and the new world, calls by blocks -/
def hm_up {α : Type} (f : Nat → α) (k : Nat) (v : α) : Nat → α := fun j => bif Nat.beq j k then v else f j
abbrev hm_SR : Type := Int32 × (Nat → Int32)
abbrev hm_G : Type := va_G × ClassId × ClassId × ClassId
abbrev hm_ty (g : hm_G) : List (ClassId × FieldType) := [(g.2.1, .int), (g.2.2.1, .long), (g.2.2.2, .boolean)]
def hm_sx0 : Nat → Int32 := fun k => match k with
  | 0 => 1
  | 1 => 10
  | 2 => 0
  | _ => 0
def hm_sx1 : Nat → Int32 := fun k => match k with
  | 0 => 9
  | 1 => 200
  | 2 => 999
  | _ => 999
def hm_sx2 : Nat → Int32 := fun k => match k with
  | 0 => 3
  | 1 => 60
  | 2 => 50
  | _ => 100
/-- a static array of four ints, that is not among the cells that may change -/
def hm_Z (n : String) (xs : Nat → Int32) (t : Nat) (A : Nat → Prop) (U : State) (H : Heap) : Prop := va_Z RX7 n "[I" (.ref t) A U H ∧ va_X t 4 xs U H ∧ t < H.size ∧ ¬ A t
def hm_N (U : State) : Prop := va_Nw (.methodLinkNest RX4 50 yX7_widthSlot RX7) U ∧ va_Nw (.methodLinkNest RX4 57 yX7_hangSlot RX7) U ∧ va_Nw (.fieldLinkNest RX4 41 RX7 "FIRST_SET" "[I" RX7) U ∧ va_Nw (.methodLinkNest RX7 20 yX3_init RX7) U ∧ va_Nw (.methodLinkNest RX7 43 yX1_init RX7) U ∧ va_Nw (.methodLinkNest RX7 50 yX0_init RX7) U ∧ va_Nw (.methodLinkNest RX7 57 yX5_init RX7) U ∧ va_Nw (.methodLinkNest RX7 64 yX6_init RX7) U
def hm_E (A : Nat → Prop) (U : State) (H : Heap) : Prop := hm_N U ∧ ∃ t0 t1 t2 : Nat, hm_Z "LEAST_SET" hm_sx0 t0 A U H ∧ hm_Z "GREATEST_SET" hm_sx1 t1 A U H ∧ hm_Z "FIRST_SET" hm_sx2 t2 A U H
theorem hm_N.warm {s U : State} (hW : s.WarmedH U.vm) (h : hm_N s) : hm_N U := ⟨va_Nw.warmM hW h.1, va_Nw.warmM hW h.2.1, va_Nw.warmF hW h.2.2.1, va_Nw.warmM hW h.2.2.2.1, va_Nw.warmM hW h.2.2.2.2.1, va_Nw.warmM hW h.2.2.2.2.2.1, va_Nw.warmM hW h.2.2.2.2.2.2.1, va_Nw.warmM hW h.2.2.2.2.2.2.2⟩
theorem hm_N.same {s U : State} (e : s.vm = U.vm) (h : hm_N s) : hm_N U := ⟨va_Nw.same rfl e h.1, va_Nw.same rfl e h.2.1, va_Nw.same rfl e h.2.2.1, va_Nw.same rfl e h.2.2.2.1, va_Nw.same rfl e h.2.2.2.2.1, va_Nw.same rfl e h.2.2.2.2.2.1, va_Nw.same rfl e h.2.2.2.2.2.2.1, va_Nw.same rfl e h.2.2.2.2.2.2.2⟩
theorem hm_Z.call {n : String} {xs : Nat → Int32} {t : Nat} {A B : Nat → Prop} {s U : State} {H : Heap} {locs : List Loc} (h : hm_Z n xs t A s s.heap) (hS : va_S A s.heap H locs) (hAB : ∀ q, B q → A q) (hU : U.heap = H) (hW : s.WarmedH U.vm) : hm_Z n xs t B U U.heap := by
  obtain ⟨h1, h2, h3, h4⟩ := h
  have hq : ∀ a : Nat, a < s.heap.size → ¬ A a → U.heap[a]? = s.heap[a]? := fun a ha hb => by rw [hU]; exact hS.2.1 a ha hb
  exact ⟨va_Z.narrow (va_Z.moved hW.alike (h1.kept hq)) hAB, va_X.kept (va_X.moved hW.alike h2) (hq t h3 h4), by rw [hU]; exact Nat.lt_of_lt_of_le h3 hS.1, fun hb => h4 (hAB t hb)⟩
theorem hm_E.call {A B : Nat → Prop} {s U : State} {H : Heap} {locs : List Loc} (h : hm_E A s s.heap) (hS : va_S A s.heap H locs) (hAB : ∀ q, B q → A q) (hU : U.heap = H) (hW : s.WarmedH U.vm) : hm_E B U U.heap := by
  obtain ⟨h1, t0, t1, t2, h2, h3, h4⟩ := h
  exact ⟨h1.warm hW, t0, t1, t2, h2.call hS hAB hU hW, h3.call hS hAB hU hW, h4.call hS hAB hU hW⟩
theorem hm_Z.same {n : String} {xs : Nat → Int32} {t : Nat} {A : Nat → Prop} {s U : State} {H : Heap} (e : s.vm.Alike U.vm) (h : hm_Z n xs t A s H) : hm_Z n xs t A U H := ⟨va_Z.moved e h.1, va_X.moved e h.2.1, h.2.2⟩
theorem hm_E.blind {A : Nat → Prop} {U : State} {H : Heap} (h : hm_E A U H) (g : JFrame) (mk : MethodId) (a : Array Value) : hm_E A (U.calling g mk a) H := by
  obtain ⟨h1, t0, t1, t2, h2, h3, h4⟩ := h
  exact ⟨hm_N.same (s := U) (U := U.calling g mk a) rfl h1, t0, t1, t2, hm_Z.same (s := U) (U := U.calling g mk a) (Vm.Alike.refl U.vm) h2, hm_Z.same (s := U) (U := U.calling g mk a) (Vm.Alike.refl U.vm) h3, hm_Z.same (s := U) (U := U.calling g mk a) (Vm.Alike.refl U.vm) h4⟩
/-- where a contract starts -/
def hm_Pr (g : hm_G) (w : va_W) (sz : Nat) (U : State) : Prop := U.heap.size = sz ∧ va_P g.1 vwCl w U.heap ∧ va_K g.1 vwCl (hm_ty g) U ∧ va_D (fun _ => True) w ∧ hm_E (va_A w sz) U U.heap
theorem hm_blind {g : hm_G} {av : List Value} {w : va_W} {sz : Nat} : FrameBlind (va_Pc av (hm_Pr g w sz)) := fun a U g mk q => by
  obtain ⟨q0, q1, qP, qK, qD, qE⟩ := q
  exact ⟨q0, q1, qP, va_K.moved (u := U) (U := U.calling g mk a) (Vm.Alike.refl U.vm) qK, qD, qE.blind g mk a⟩
abbrev hm_Qi (g : hm_G) (A : Nat → Prop) (w' : va_W) (r : Int32) : Array Value → State → Outcome → State → Prop := va_Qi (fun (r' : Int32) (_ : Unit) => r' = r) (fun _ t => va_P g.1 vwCl w' t.heap) A
abbrev hm_Qv (g : hm_G) (A : Nat → Prop) (w' : va_W) : Array Value → State → Outcome → State → Prop := va_Qv (fun (_ : Unit) => True) (fun _ t => va_P g.1 vwCl w' t.heap) A
/-- the contracts: from any heap that holds w, with these arguments: the answer is r, the heap holds w', at the same places; nothing else changes, nothing is made -/
def hm_Mi (l : Launch) (y : MethodName) (ws : List Cond) (rm : Room) (g : hm_G) (av : List Value) (w w' : va_W) (r : Int32) : Prop := w'.map Prod.fst = w.map Prod.fst ∧ ∀ sz : Nat, Met l y ws rm (va_Pc av (hm_Pr g w sz)) (hm_Qi g (va_A w sz) w' r) 0 0 (va_A w sz)
def hm_Mv (l : Launch) (y : MethodName) (ws : List Cond) (rm : Room) (g : hm_G) (av : List Value) (w w' : va_W) : Prop := w'.map Prod.fst = w.map Prod.fst ∧ ∀ sz : Nat, Met l y ws rm (va_Pc av (hm_Pr g w sz)) (hm_Qv g (va_A w sz) w') 0 0 (va_A w sz)
/-- all that is known of the heap in a walk -/
def hm_X (g : hm_G) (A : Nat → Prop) (s : State) (H : Heap) (locs : List Loc) (ws : va_W) : Prop := va_K g.1 vwCl (hm_ty g) s ∧ va_P g.1 vwCl ws H ∧ va_D A ws ∧ va_S A s.heap H locs ∧ (∀ q, s.heap.size ≤ q → A q) ∧ hm_E A s s.heap
theorem hm_X.to {g : hm_G} {A : Nat → Prop} {s : State} {H : Heap} {locs : List Loc} {ws ws' : va_W} (h : hm_X g A s H locs ws) (e : ws = ws') : hm_X g A s H locs ws' := e ▸ h
theorem hm_P_mem {D : va_G} {cl : List vw_C} {ws : va_W} {H : Heap} : va_P D cl ws H ↔ ∀ q ∈ ws, va_at D cl q H := by
  refine ⟨fun h q hq => ?_, fun h k q hk => h q (List.mem_of_getElem? hk)⟩
  obtain ⟨i, hi⟩ := List.getElem?_of_mem hq
  exact h i q hi
theorem hm_D_iff {A : Nat → Prop} {ws : va_W} : va_D A ws ↔ (ws.map Prod.fst).Nodup ∧ ∀ q ∈ ws, A q.1 := by
  constructor
  · intro h
    refine ⟨?_, fun q hq => ?_⟩
    · rw [List.nodup_iff_pairwise_ne, List.pairwise_iff_getElem]
      intro i j hi hj hij e
      rw [List.length_map] at hi hj
      rw [List.getElem_map, List.getElem_map] at e
      have := h.1 i j ws[i] ws[j] (List.getElem?_eq_getElem hi) (List.getElem?_eq_getElem hj) e
      omega
    · obtain ⟨i, hi⟩ := List.getElem?_of_mem hq
      exact h.2 i q hi
  · intro h
    refine ⟨fun i j p q hp hq e => ?_, fun k q hk => h.2 q (List.mem_of_getElem? hk)⟩
    obtain ⟨hi, ei⟩ := List.getElem?_eq_some_iff.mp hp
    obtain ⟨hj, ej⟩ := List.getElem?_eq_some_iff.mp hq
    have hn := List.pairwise_iff_getElem.mp (List.nodup_iff_pairwise_ne.mp h.1)
    rcases Nat.lt_trichotomy i j with hl | hl | hl
    · refine absurd ?_ (hn i j (by rw [List.length_map]; exact hi) (by rw [List.length_map]; exact hj) hl)
      rw [List.getElem_map, List.getElem_map, ei, ej]
      exact e
    · exact hl
    · refine absurd ?_ (hn j i (by rw [List.length_map]; exact hj) (by rw [List.length_map]; exact hi) hl)
      rw [List.getElem_map, List.getElem_map, ei, ej]
      exact e.symm
theorem hm_A_mem {w : va_W} {sz q : Nat} : va_A w sz q ↔ q ∈ w.map Prod.fst ∨ sz ≤ q := by
  constructor
  · rintro (⟨k, e, h⟩ | h)
    · exact Or.inl (List.mem_map.mpr ⟨(q, e), List.mem_of_getElem? h, rfl⟩)
    · exact Or.inr h
  · rintro (h | h)
    · obtain ⟨x, hx, rfl⟩ := List.mem_map.mp h
      obtain ⟨i, hi⟩ := List.getElem?_of_mem hx
      exact Or.inl ⟨i, x.2, hi⟩
    · exact Or.inr h
/-- blocks picked by their numbers -/
theorem hm_pick {bs : List va_W} (js : List Nat) (h : js.isPerm (List.range bs.length) = true) : bs.flatten.Perm (js.map (fun i => bs.getD i [])).flatten := by
  have h1 : js.Perm (List.range bs.length) := List.isPerm_iff.mp h
  have h2 : (List.range bs.length).map (fun i => bs.getD i []) = bs := by
    apply List.ext_getElem
    · simp
    · intro i hi hj
      rw [List.getElem_map, List.getElem_range, List.getD_eq_getElem?_getD, List.getElem?_eq_getElem hj]
      rfl
  have h3 := (h1.map (fun i => bs.getD i [])).flatten
  rw [h2] at h3
  exact h3.symm
theorem hm_cp {bs : List va_W} {wc wr : va_W} (is rs : List Nat) (h : (is ++ rs).isPerm (List.range bs.length) = true) (hc : wc = (is.map (fun i => bs.getD i [])).flatten) (hr : wr = (rs.map (fun i => bs.getD i [])).flatten) : bs.flatten.Perm (wc ++ wr) := by
  have h1 := hm_pick (is ++ rs) h
  rw [List.map_append, List.flatten_append] at h1
  rw [hc, hr]
  exact h1
section HMJ
variable {g : hm_G} {A : Nat → Prop} {s : State} {H H1 : Heap} {locs locs1 : List Loc} {ws ws' wc wc' wr : va_W}
theorem hm_X.cutA (X : hm_X g A s H locs ws) (hp : ws.Perm (wc ++ wr)) : ∀ q, va_A wc H.size q → A q := by
  intro q hq
  rcases hm_A_mem.mp hq with h | h
  · obtain ⟨x, hx, rfl⟩ := List.mem_map.mp h
    exact (hm_D_iff.mp X.2.2.1).2 x (hp.mem_iff.mpr (List.mem_append_left _ hx))
  · exact X.2.2.2.2.1 q (Nat.le_trans X.2.2.2.1.1 h)
theorem hm_X.cutP (X : hm_X g A s H locs ws) (hp : ws.Perm (wc ++ wr)) : va_P g.1 vwCl wc H := hm_P_mem.mpr fun q hq => hm_P_mem.mp X.2.1 q (hp.mem_iff.mpr (List.mem_append_left _ hq))
theorem hm_X.nd (X : hm_X g A s H locs ws) (hp : ws.Perm (wc ++ wr)) : ((wc ++ wr).map Prod.fst).Nodup := (hp.map Prod.fst).nodup (hm_D_iff.mp X.2.2.1).1
theorem hm_X.cutD (X : hm_X g A s H locs ws) (hp : ws.Perm (wc ++ wr)) : va_D (fun _ => True) wc := by
  have h := X.nd hp
  rw [List.map_append, List.nodup_append] at h
  exact hm_D_iff.mpr ⟨h.1, fun _ _ => trivial⟩
theorem hm_X.pre (X : hm_X g A s H locs ws) (hp : ws.Perm (wc ++ wr)) (av : List Value) : PreS s H (va_Pc av (hm_Pr g wc H.size)) av :=
  ⟨hm_blind, fun U hU hW => ⟨rfl, by rw [hU], by rw [hU]; exact X.cutP hp, va_K.moved hW.alike X.1, X.cutD hp, X.2.2.2.2.2.call X.2.2.2.1 (X.cutA hp) hU hW⟩⟩
theorem hm_X.join (X : hm_X g A s H locs ws) (hp : ws.Perm (wc ++ wr)) (hp' : ws'.Perm (wc' ++ wr)) (hadr : wc'.map Prod.fst = wc.map Prod.fst) (hP1 : va_P g.1 vwCl wc' H1) (hk : ∀ q : Nat, q < H.size → ¬ va_A wc H.size q → H1[q]? = H[q]?) (hS : va_S A s.heap H1 locs1) : hm_X g A s H1 locs1 ws' := by
  have hnd := X.nd hp
  refine ⟨X.1, hm_P_mem.mpr fun q hq => ?_, hm_D_iff.mpr ⟨?_, fun q hq => ?_⟩, hS, X.2.2.2.2.1, X.2.2.2.2.2⟩
  · rcases List.mem_append.mp (hp'.mem_iff.mp hq) with h | h
    · exact hm_P_mem.mp hP1 q h
    · have hat := hm_P_mem.mp X.2.1 q (hp.mem_iff.mpr (List.mem_append_right _ h))
      refine hat.kept (hk q.1 hat.lt fun hA => ?_)
      rcases hm_A_mem.mp hA with h1 | h1
      · rw [List.map_append, List.nodup_append] at hnd
        exact hnd.2.2 q.1 h1 q.1 (List.mem_map.mpr ⟨q, h, rfl⟩) rfl
      · exact absurd hat.lt (by omega)
  · refine (hp'.map Prod.fst).nodup_iff.mpr ?_
    rw [List.map_append, hadr, ← List.map_append]
    exact hnd
  · rcases List.mem_append.mp (hp'.mem_iff.mp hq) with h | h
    · have h1 : q.1 ∈ wc.map Prod.fst := by rw [← hadr]; exact List.mem_map.mpr ⟨q, h, rfl⟩
      obtain ⟨x, hx, e⟩ := List.mem_map.mp h1
      rw [← e]
      exact (hm_D_iff.mp X.2.2.1).2 x (hp.mem_iff.mpr (List.mem_append_left _ hx))
    · exact (hm_D_iff.mp X.2.2.1).2 q (hp.mem_iff.mpr (List.mem_append_right _ h))
end HMJ
/-- the words of a method that is called -/
def hm_Mw (y : MethodName) (bytes : ByteArray) (maxL : Nat) (ret : Option FieldType) (C : String) (n : Nat) : Prop := Cond.code y bytes maxL ret ∈ hm_W ∧ Cond.initialized C ∈ hm_W ∧ Cond.instanceMethod y ∈ hm_W ∧ Cond.selects C y y ∈ hm_W ∧ (y.cls = C ∧ y.cls ≠ "java/lang/invoke/MethodHandle" ∧ y.cls ≠ "java/lang/invoke/VarHandle" ∧ (parseMethodDescriptor y.desc).map (fun d => d.parameters.length) = some n)
def hm_Ms (y : MethodName) (bytes : ByteArray) (maxL : Nat) (ret : Option FieldType) (C : String) (n : Nat) : Prop := Cond.code y bytes maxL ret ∈ hm_W ∧ Cond.initialized C ∈ hm_W ∧ Cond.static y ∈ hm_W ∧ (y.cls = C ∧ y.cls ≠ "java/lang/invoke/MethodHandle" ∧ y.cls ≠ "java/lang/invoke/VarHandle" ∧ (parseMethodDescriptor y.desc).map (fun d => d.parameters.length) = some n)
theorem hm_gin {Ts : List Cond} (hT : ∀ w ∈ hm_W, w ∈ Ts) {c : Cond} (h : c ∈ hm_W) : GoodIn Ts (c :: hm_W) := fun w hw => by
  have h1 : w ∈ hm_W := by
    rcases List.mem_cons.mp hw with e | e
    · rw [e]; exact h
    · exact e
  exact ⟨hT w h1, hm_Wgood w h1⟩
section HMC
variable {p : Program} {l : Launch} {e : Env} {R : Room} {s : State} {m : MethodId} {args : Array Value} {below : List Frame} {meth : Method} {c : Code} {H : Heap} {locs : List Loc} {cells slots : Nat} {Q : State → Prop}
variable {cc bytes : ByteArray} {nL maxL index n pc : Nat} {own C : String} {y : MethodName} {ret : Option FieldType} {rm : Room} {b : Addr} {As rest st0 : List Value} {ls : Array Slot} {g : hm_G} {A : Nat → Prop} {ws ws' wc wc' wr : va_W} {r : Int32}
theorem hm_cw (S : CallFix p m c cc nL s args hm_W own) (M : hm_Mw y bytes maxL ret C n) (hl : Cond.methodLink own index y ∈ hm_W) (hrc : rm.cells = 0) (hrs : rm.slots = 0) (hR : rm.frames + 1 ≤ R.frames ∧ 8 + (maxL + 11) + rm.locals ≤ R.locals) : CallW R s args own C index y bytes maxL ret (Cond.code y bytes maxL ret :: hm_W) rm 0 0 n := by
  obtain ⟨h1, h2, h3, h4, hC, hd⟩ := M
  obtain ⟨-, -, -, -, hts⟩ := S
  subst hC
  exact ⟨callB_of n hts (hm_gin (fun _ h => h) h1) rfl hrc hrs (hts _ h2) (hts _ hl) hd hR, hts _ h3, hts _ h4⟩
theorem hm_cs (S : CallFix p m c cc nL s args hm_W own) (M : hm_Ms y bytes maxL ret C n) (hl : Cond.methodLink own index y ∈ hm_W) (hrc : rm.cells = 0) (hrs : rm.slots = 0) (hR : rm.frames + 1 ≤ R.frames ∧ 8 + (maxL + 11) + rm.locals ≤ R.locals) : CallB R s args own index y bytes maxL ret (Cond.code y bytes maxL ret :: hm_W) rm 0 0 n ∧ (Cond.static y).before args s = true := by
  obtain ⟨h1, h2, h3, hC, hd⟩ := M
  obtain ⟨-, -, -, -, hts⟩ := S
  subst hC
  exact ⟨callB_of n hts (hm_gin (fun _ h => h) h1) rfl hrc hrs (hts _ h2) (hts _ hl) hd hR, hts _ h3⟩
/-- a call of a method of an object whose cell is the first of its world: an int answer -/
theorem hm_vi (S : CallFix p m c cc nL s args hm_W own) (X : hm_X g A s H locs ws) (M : hm_Mw y bytes maxL ret C n) (hl : Cond.methodLink own index y ∈ hm_W) (hM : hm_Mi l y (Cond.code y bytes maxL ret :: hm_W) rm g (.ref b :: As) wc wc' r) (hp : ws.Perm (wc ++ wr)) (hp' : ws'.Perm (wc' ++ wr))
    {ci : Nat} {q9 : vw_C} {fs : List Value} (hc : vwCl[ci]? = some q9) (he : wc[0]? = some (b, .inr (ci, fs))) (hq : q9.1 = C) (hR : rm.cells = 0 ∧ rm.slots = 0 ∧ rm.frames + 1 ≤ R.frames ∧ 8 + (maxL + 11) + rm.locals ≤ R.locals) (hn : As.length = n) (hls : ls.size = nL) (hst : st0 = As.reverse ++ .ref b :: rest) (hW : (rest.map fun v => v.category).sum ≤ 8) (hdg : decode cc pc = .ok (.invokevirtual index, 3)) (hf : cells ≤ R.cells ∧ slots ≤ R.slots)
    (kk : ∀ (H1 : Heap) (locs1 : List Loc), hm_X g A s H1 locs1 ws' → W p l e R s m args below meth c H1 locs1 cells slots Q (F0 m (pc + 3) ls (.int r :: rest))) : W p l e R s m args below meth c H locs cells slots Q (F0 m pc ls st0) := by
  subst hq
  have hpre := X.pre hp (.ref b :: As)
  refine va_calli (va_runV S (hM.2 H.size) (hm_cw S M hl hR.1 hR.2.1 hR.2.2) ⟨hpre.1, va_recv X.1 (X.cutP hp) hc he, hpre.2⟩ rfl hn hls hst (lv_room hW) hdg hf) X.2.2.2.1 (fun q _ h => X.cutA hp q h) (X.cutA hp) (fun r' u t H1 locs1 ht hvm hr hB hz hk hS => ?_)
  subst hr
  rw [ht] at hB
  exact kk H1 locs1 (X.join hp hp' hM.1 hB hk hS)
theorem hm_vv (S : CallFix p m c cc nL s args hm_W own) (X : hm_X g A s H locs ws) (M : hm_Mw y bytes maxL ret C n) (hl : Cond.methodLink own index y ∈ hm_W) (hM : hm_Mv l y (Cond.code y bytes maxL ret :: hm_W) rm g (.ref b :: As) wc wc') (hp : ws.Perm (wc ++ wr)) (hp' : ws'.Perm (wc' ++ wr))
    {ci : Nat} {q9 : vw_C} {fs : List Value} (hc : vwCl[ci]? = some q9) (he : wc[0]? = some (b, .inr (ci, fs))) (hq : q9.1 = C) (hR : rm.cells = 0 ∧ rm.slots = 0 ∧ rm.frames + 1 ≤ R.frames ∧ 8 + (maxL + 11) + rm.locals ≤ R.locals) (hn : As.length = n) (hls : ls.size = nL) (hst : st0 = As.reverse ++ .ref b :: rest) (hW : (rest.map fun v => v.category).sum ≤ 8) (hdg : decode cc pc = .ok (.invokevirtual index, 3)) (hf : cells ≤ R.cells ∧ slots ≤ R.slots)
    (kk : ∀ (H1 : Heap) (locs1 : List Loc), hm_X g A s H1 locs1 ws' → W p l e R s m args below meth c H1 locs1 cells slots Q (F0 m (pc + 3) ls rest)) : W p l e R s m args below meth c H locs cells slots Q (F0 m pc ls st0) := by
  subst hq
  have hpre := X.pre hp (.ref b :: As)
  refine va_callv (va_runV S (hM.2 H.size) (hm_cw S M hl hR.1 hR.2.1 hR.2.2) ⟨hpre.1, va_recv X.1 (X.cutP hp) hc he, hpre.2⟩ rfl hn hls hst (lv_room hW) hdg hf) X.2.2.2.1 (fun q _ h => X.cutA hp q h) (X.cutA hp) (fun u t H1 locs1 ht hvm hr hB hz hk hS => ?_)
  rw [ht] at hB
  exact kk H1 locs1 (X.join hp hp' hM.1 hB hk hS)
theorem hm_si (S : CallFix p m c cc nL s args hm_W own) (X : hm_X g A s H locs ws) (M : hm_Ms y bytes maxL ret C n) (hl : Cond.methodLink own index y ∈ hm_W) (hM : hm_Mi l y (Cond.code y bytes maxL ret :: hm_W) rm g As wc wc' r) (hp : ws.Perm (wc ++ wr)) (hp' : ws'.Perm (wc' ++ wr))
    (hR : rm.cells = 0 ∧ rm.slots = 0 ∧ rm.frames + 1 ≤ R.frames ∧ 8 + (maxL + 11) + rm.locals ≤ R.locals) (hn : As.length = n) (hls : ls.size = nL) (hst : st0 = As.reverse ++ rest) (hW : (rest.map fun v => v.category).sum ≤ 8) (hdg : decode cc pc = .ok (.invokestatic index, 3)) (hf : cells ≤ R.cells ∧ slots ≤ R.slots)
    (kk : ∀ (H1 : Heap) (locs1 : List Loc), hm_X g A s H1 locs1 ws' → W p l e R s m args below meth c H1 locs1 cells slots Q (F0 m (pc + 3) ls (.int r :: rest))) : W p l e R s m args below meth c H locs cells slots Q (F0 m pc ls st0) := by
  have hpre := X.pre hp As
  refine va_calli (va_runS S (hM.2 H.size) (hm_cs S M hl hR.1 hR.2.1 hR.2.2) hpre rfl hn hls hst (lv_room hW) hdg hf) X.2.2.2.1 (fun q _ h => X.cutA hp q h) (X.cutA hp) (fun r' u t H1 locs1 ht hvm hr hB hz hk hS => ?_)
  subst hr
  rw [ht] at hB
  exact kk H1 locs1 (X.join hp hp' hM.1 hB hk hS)
/-- a nest mate's private static method -/
theorem hm_sni {host : String} (S : CallFix p m c cc nL s args hm_W own) (X : hm_X g A s H locs ws) (M : hm_Ms y bytes maxL ret C n) (hl : va_Nw (.methodLinkNest own index y host) s) (hM : hm_Mi l y (Cond.code y bytes maxL ret :: hm_W) rm g As wc wc' r) (hp : ws.Perm (wc ++ wr)) (hp' : ws'.Perm (wc' ++ wr))
    (hR : rm.cells = 0 ∧ rm.slots = 0 ∧ rm.frames + 1 ≤ R.frames ∧ 8 + (maxL + 11) + rm.locals ≤ R.locals) (hn : As.length = n) (hls : ls.size = nL) (hst : st0 = As.reverse ++ rest) (hW : (rest.map fun v => v.category).sum ≤ 8) (hdg : decode cc pc = .ok (.invokestatic index, 3)) (hf : cells ≤ R.cells ∧ slots ≤ R.slots)
    (kk : ∀ (H1 : Heap) (locs1 : List Loc), hm_X g A s H1 locs1 ws' → W p l e R s m args below meth c H1 locs1 cells slots Q (F0 m (pc + 3) ls (.int r :: rest))) : W p l e R s m args below meth c H locs cells slots Q (F0 m pc ls st0) := by
  have hpre := X.pre hp As
  obtain ⟨h1, h2, h3, hC, hd⟩ := M
  have hts := S.2.2.2.2
  subst hC
  refine va_calli (va_runSN S (hM.2 H.size) ⟨va_cnB n hts (hm_gin (fun _ h => h) h1) rfl hR.1 hR.2.1 hl (hts _ h2) hd hR.2.2, hts _ h3, trivial⟩ hpre rfl hn hls hst (lv_room hW) hdg hf) X.2.2.2.1 (fun q _ h => X.cutA hp q h) (X.cutA hp) (fun r' u t H1 locs1 ht hvm hr hB hz hk hS => ?_)
  subst hr
  rw [ht] at hB
  exact kk H1 locs1 (X.join hp hp' hM.1 hB hk hS)
/-- fields -/
def hm_Fl (own : String) (index ci k : Nat) (C : String) (T : u_T) (N : Nat) : Prop := (∀ w ∈ u_ws C T N, w ∈ hm_W) ∧ vwCl[ci]? = some (C, T, N) ∧ k < N ∧ Cond.fieldLink own index C (T k).2.1 (T k).2.2.1 ∈ hm_W ∧ (T k).1 = C
theorem hm_get {a ci k N : Nat} {T : u_T} {fs : List Value} {v : Value} (S : CallFix p m c cc nL s args hm_W own) (X : hm_X g A s H locs ws) (F : hm_Fl own index ci k C T N) (q0 : Nat) (he : ws[q0]? = some (a, .inr (ci, fs))) (hv : fs[k]? = some v) (hdg : decode cc pc = .ok (.getfield index, 3))
    (kk : W p l e R s m args below meth c H locs cells slots Q (F0 m (pc + 3) ls (v :: rest))) : W p l e R s m args below meth c H locs cells slots Q (F0 m pc ls (.ref a :: rest)) := by
  obtain ⟨f1, f2, f3, f4, f5⟩ := F
  obtain ⟨hx, hb, -, hown, hts⟩ := S
  exact va_get (ref := C) hx hb hts f1 hown X.1 X.2.1 q0 he f2 k f3 (hts _ f4) (fun x h => by rw [f5] at h; exact h) hv hdg kk
def hm_Fp (C : String) (T : u_T) (N k : Nat) (ty : FieldType) : Prop := ∃ ty0 : Nat → FieldType, (∀ k, k < N → parseFieldDescriptor (T k).2.2.1 = some (ty0 k)) ∧ (∀ a, a < N → ∀ b, b < N → a ≠ b → (T a).2.1 ≠ (T b).2.1) ∧ (T k).2.2.2 = false ∧ parseFieldDescriptor (T k).2.2.1 = some ty
theorem hm_put {a ci k N : Nat} {T : u_T} {fs : List Value} {v : Value} {ty : FieldType} (S : CallFix p m c cc nL s args hm_W own) (X : hm_X g A s H locs ws) (F : hm_Fl own index ci k C T N) (G : hm_Fp C T N k ty) (q0 : Nat) (he : ws[q0]? = some (a, .inr (ci, fs))) (hn : narrow ty v = v) (hfit : fits ty v = true) (hl : k < fs.length) (hdg : decode cc pc = .ok (.putfield index, 3))
    (kk : ∀ (H1 : Heap) (locs1 : List Loc), hm_X g A s H1 locs1 (ws.set q0 (a, .inr (ci, fs.set k v))) → W p l e R s m args below meth c H1 locs1 cells slots Q (F0 m (pc + 3) ls rest)) : W p l e R s m args below meth c H locs cells slots Q (F0 m pc ls (v :: .ref a :: rest)) := by
  obtain ⟨f1, f2, f3, f4, f5⟩ := F
  obtain ⟨ty0, g1, g2, g3, g4⟩ := G
  obtain ⟨hx, hb, -, hown, hts⟩ := S
  obtain ⟨hK, hP, hD, hS, hA, hE⟩ := X
  exact va_put (ref := C) hx hb hts f1 ty0 g1 g2 hown hK hP hD hS q0 he f2 k f3 (hts _ f4) (fun x h => by rw [f5] at h; exact h) g3 g4 hn hfit hl hdg (fun H1 locs1 hP hD hS => kk H1 locs1 ⟨hK, hP, hD, hS, hA, hE⟩)
end HMC
/-- an index that is in -/
def hm_ix (i : Int32) (n : Nat) : Bool := !(decide (i < 0)) && !(decide (n ≤ i.toNatClampNeg))
theorem hm_ix_in {i : Int32} {n : Nat} (h : hm_ix i n = true) : vp_in i n := by
  simp only [hm_ix, Bool.and_eq_true, Bool.not_eq_true', decide_eq_false_iff_not] at h
  exact fun z => z.elim h.1 h.2
def hm_rd (n : Nat) (f : Nat → Int32) (i : Int32) : Option Int32 := if hm_ix i n = true then some (f i.toNatClampNeg) else none
def hm_rj (n : Nat) (f : Nat → Int64) (i : Int32) : Option Int64 := if hm_ix i n = true then some (f i.toNatClampNeg) else none
def hm_wr (n : Nat) (f : Nat → Int32) (i v : Int32) : Option (Nat → Int32) := if hm_ix i n = true then some (upd f i.toNatClampNeg v) else none
def hm_wz (n : Nat) (f : Nat → Int32) (i v : Int32) : Option (Nat → Int32) := if hm_ix i n = true ∧ (v = 0 ∨ v = 1) then some (upd f i.toNatClampNeg v) else none
def hm_wj (n : Nat) (f : Nat → Int64) (i : Int32) (v : Int64) : Option (Nat → Int64) := if hm_ix i n = true then some (vp_updL f i.toNatClampNeg v) else none
def hm_dv (x y : Int32) : Option Int32 := if y = 0 then none else some (x / y)
def hm_rm (x y : Int32) : Option Int32 := if y = 0 then none else some (x - x / y * y)
def hm_bl (v : Int32) : Option Int32 := if v = 0 ∨ v = 1 then some v else none
def hm_fu : Nat := 1000000
theorem hm_bd {α β : Type} {x : Option α} {f : α → Option β} {o : β} (h : x.bind f = some o) : ∃ q, x = some q ∧ f q = some o := Option.bind_eq_some_iff.mp h
theorem hm_if {α : Type} {c : Prop} [Decidable c] {a b : Option α} {o : α} (h : (if c then a else b) = some o) (hc : c) : a = some o := by rw [if_pos hc] at h; exact h
theorem hm_nf {α : Type} {c : Prop} [Decidable c] {a b : Option α} {o : α} (h : (if c then a else b) = some o) (hc : ¬ c) : b = some o := by rw [if_neg hc] at h; exact h
theorem hm_rd_s {n : Nat} {f : Nat → Int32} {i x : Int32} (h : hm_rd n f i = some x) : vp_in i n ∧ f i.toNatClampNeg = x := by
  unfold hm_rd at h
  split at h
  · exact ⟨hm_ix_in (by assumption), Option.some.inj h⟩
  · cases h
theorem hm_rj_s {n : Nat} {f : Nat → Int64} {i : Int32} {x : Int64} (h : hm_rj n f i = some x) : vp_in i n ∧ f i.toNatClampNeg = x := by
  unfold hm_rj at h
  split at h
  · exact ⟨hm_ix_in (by assumption), Option.some.inj h⟩
  · cases h
theorem hm_wr_s {n : Nat} {f f' : Nat → Int32} {i x : Int32} (h : hm_wr n f i x = some f') : vp_in i n ∧ upd f i.toNatClampNeg x = f' := by
  unfold hm_wr at h
  split at h
  · exact ⟨hm_ix_in (by assumption), Option.some.inj h⟩
  · cases h
theorem hm_wj_s {n : Nat} {f f' : Nat → Int64} {i : Int32} {x : Int64} (h : hm_wj n f i x = some f') : vp_in i n ∧ vp_updL f i.toNatClampNeg x = f' := by
  unfold hm_wj at h
  split at h
  · exact ⟨hm_ix_in (by assumption), Option.some.inj h⟩
  · cases h
theorem hm_nb {v : Int32} (h : v = 0 ∨ v = 1) : narrow .boolean (.int v) = .int v := by rcases h with rfl | rfl <;> decide +kernel
theorem hm_fb {v : Int32} (h : v = 0 ∨ v = 1) : fits .boolean (.int v) = true := by rcases h with rfl | rfl <;> decide +kernel
theorem hm_vb {v : Int32} (h : v = 0 ∨ v = 1) : vp_nar .boolean v = v := by rcases h with rfl | rfl <;> decide +kernel
theorem hm_wz_s {n : Nat} {f f' : Nat → Int32} {i x : Int32} (h : hm_wz n f i x = some f') : vp_in i n ∧ upd f i.toNatClampNeg (vp_nar .boolean x) = f' := by
  unfold hm_wz at h
  split at h
  · rename_i hc
    exact ⟨hm_ix_in hc.1, by rw [hm_vb hc.2]; exact Option.some.inj h⟩
  · cases h
theorem hm_dv_s {x y z : Int32} (h : hm_dv x y = some z) : ¬ y = 0 ∧ x / y = z := by
  unfold hm_dv at h
  split at h
  · cases h
  · exact ⟨by assumption, Option.some.inj h⟩
theorem hm_rm_s {x y z : Int32} (h : hm_rm x y = some z) : ¬ y = 0 ∧ x - x / y * y = z := by
  unfold hm_rm at h
  split at h
  · cases h
  · exact ⟨by assumption, Option.some.inj h⟩
theorem hm_bl_s {v w : Int32} (h : hm_bl v = some w) : v = w ∧ (w = 0 ∨ w = 1) := by
  unfold hm_bl at h
  split at h
  · cases Option.some.inj h
    exact ⟨rfl, by assumption⟩
  · cases h
section HMR
variable {p : Program} {l : Launch} {e : Env} {R : Room} {s : State} {m : MethodId} {args : Array Value} {below : List Frame} {meth : Method} {c : Code} {H : Heap} {locs : List Loc} {cells slots : Nat} {Q : State → Prop}
variable {cc : ByteArray} {nL pc a n : Nat} {own : String} {rest : List Value} {ls : Array Slot} {g : hm_G} {A : Nat → Prop} {ws w' : va_W} {r : Int32}
theorem hm_iald {f : Nat → Int32} {i x : Int32} (S : CallFix p m c cc nL s args hm_W own) (X : hm_X g A s H locs ws) (h : hm_rd n f i = some x) (q0 : Nat) (ha : ws[q0]? = some (a, .inl (g.2.1, n, .inl f))) (hdg : decode cc pc = .ok (.iaload, 1))
    (kk : W p l e R s m args below meth c H locs cells slots Q (F0 m (pc + 1) ls (.int x :: rest))) : W p l e R s m args below meth c H locs cells slots Q (F0 m pc ls (.int i :: .ref a :: rest)) := by
  obtain ⟨h1, h2⟩ := hm_rd_s h
  subst h2
  exact va_iald S.1 S.2.1 X.1 X.2.1 q0 0 ha rfl h1 hdg kk
theorem hm_zald {f : Nat → Int32} {i x : Int32} (S : CallFix p m c cc nL s args hm_W own) (X : hm_X g A s H locs ws) (h : hm_rd n f i = some x) (q0 : Nat) (ha : ws[q0]? = some (a, .inl (g.2.2.2, n, .inl f))) (hdg : decode cc pc = .ok (.baload, 1))
    (kk : W p l e R s m args below meth c H locs cells slots Q (F0 m (pc + 1) ls (.int x :: rest))) : W p l e R s m args below meth c H locs cells slots Q (F0 m pc ls (.int i :: .ref a :: rest)) := by
  obtain ⟨h1, h2⟩ := hm_rd_s h
  subst h2
  exact va_zald S.1 S.2.1 X.1 X.2.1 q0 2 ha rfl h1 hdg kk
theorem hm_lald {f : Nat → Int64} {i : Int32} {x : Int64} (S : CallFix p m c cc nL s args hm_W own) (X : hm_X g A s H locs ws) (h : hm_rj n f i = some x) (q0 : Nat) (ha : ws[q0]? = some (a, .inl (g.2.2.1, n, .inr (.inl f)))) (hdg : decode cc pc = .ok (.laload, 1))
    (kk : W p l e R s m args below meth c H locs cells slots Q (F0 m (pc + 1) ls (.long x :: rest))) : W p l e R s m args below meth c H locs cells slots Q (F0 m pc ls (.int i :: .ref a :: rest)) := by
  obtain ⟨h1, h2⟩ := hm_rj_s h
  subst h2
  exact va_lald S.1 S.2.1 X.1 X.2.1 q0 1 ha rfl h1 hdg kk
theorem hm_iast {f f' : Nat → Int32} {i x : Int32} (S : CallFix p m c cc nL s args hm_W own) (X : hm_X g A s H locs ws) (h : hm_wr n f i x = some f') (q0 : Nat) (ha : ws[q0]? = some (a, .inl (g.2.1, n, .inl f))) (hdg : decode cc pc = .ok (.iastore, 1))
    (kk : ∀ (H1 : Heap) (locs1 : List Loc), hm_X g A s H1 locs1 (ws.set q0 (a, .inl (g.2.1, n, .inl f'))) → W p l e R s m args below meth c H1 locs1 cells slots Q (F0 m (pc + 1) ls rest)) : W p l e R s m args below meth c H locs cells slots Q (F0 m pc ls (.int x :: .int i :: .ref a :: rest)) := by
  obtain ⟨h1, h2⟩ := hm_wr_s h
  subst h2
  obtain ⟨hK, hP, hD, hS, hA, hE⟩ := X
  exact va_iast S.1 S.2.1 hK hP hD hS q0 0 ha rfl h1 hdg (fun H1 locs1 hP hD hS => kk H1 locs1 ⟨hK, hP, hD, hS, hA, hE⟩)
theorem hm_zast {f f' : Nat → Int32} {i x : Int32} (S : CallFix p m c cc nL s args hm_W own) (X : hm_X g A s H locs ws) (h : hm_wz n f i x = some f') (q0 : Nat) (ha : ws[q0]? = some (a, .inl (g.2.2.2, n, .inl f))) (hdg : decode cc pc = .ok (.bastore, 1))
    (kk : ∀ (H1 : Heap) (locs1 : List Loc), hm_X g A s H1 locs1 (ws.set q0 (a, .inl (g.2.2.2, n, .inl f'))) → W p l e R s m args below meth c H1 locs1 cells slots Q (F0 m (pc + 1) ls rest)) : W p l e R s m args below meth c H locs cells slots Q (F0 m pc ls (.int x :: .int i :: .ref a :: rest)) := by
  obtain ⟨h1, h2⟩ := hm_wz_s h
  subst h2
  obtain ⟨hK, hP, hD, hS, hA, hE⟩ := X
  exact va_zast S.1 S.2.1 hK hP hD hS q0 2 ha rfl h1 hdg (fun H1 locs1 hP hD hS => kk H1 locs1 ⟨hK, hP, hD, hS, hA, hE⟩)
theorem hm_last {f f' : Nat → Int64} {i : Int32} {x : Int64} (S : CallFix p m c cc nL s args hm_W own) (X : hm_X g A s H locs ws) (h : hm_wj n f i x = some f') (q0 : Nat) (ha : ws[q0]? = some (a, .inl (g.2.2.1, n, .inr (.inl f)))) (hdg : decode cc pc = .ok (.lastore, 1))
    (kk : ∀ (H1 : Heap) (locs1 : List Loc), hm_X g A s H1 locs1 (ws.set q0 (a, .inl (g.2.2.1, n, .inr (.inl f')))) → W p l e R s m args below meth c H1 locs1 cells slots Q (F0 m (pc + 1) ls rest)) : W p l e R s m args below meth c H locs cells slots Q (F0 m pc ls (.long x :: .int i :: .ref a :: rest)) := by
  obtain ⟨h1, h2⟩ := hm_wj_s h
  subst h2
  obtain ⟨hK, hP, hD, hS, hA, hE⟩ := X
  exact va_last S.1 S.2.1 hK hP hD hS q0 1 ha rfl h1 hdg (fun H1 locs1 hP hD hS => kk H1 locs1 ⟨hK, hP, hD, hS, hA, hE⟩)
theorem hm_alen {x : vp_A} {cA : ClassId} {ty : FieldType} {v : Int32} (S : CallFix p m c cc nL s args hm_W own) (X : hm_X g A s H locs ws) (q0 t0 : Nat) (ha : ws[q0]? = some (a, .inl (cA, x))) (ht : (hm_ty g)[t0]? = some (cA, ty)) (hv : Int32.ofNat x.1 = v) (hdg : decode cc pc = .ok (.arraylength, 1))
    (kk : W p l e R s m args below meth c H locs cells slots Q (F0 m (pc + 1) ls (.int v :: rest))) : W p l e R s m args below meth c H locs cells slots Q (F0 m pc ls (.ref a :: rest)) := va_alen S.1 S.2.1 X.1 X.2.1 q0 t0 ha ht hv hdg kk
/-- the ends -/
theorem hm_ri {v : Int32} (S : CallFix p m c cc nL s args hm_W own) (hr : meth.sig.returnType = some .int) (hlk : meth.locks = false) (X : hm_X g A s H locs ws) (ew : ws = w') (er : v = r) (hdg : decode cc pc = .ok (.ireturn, 1)) : W p l e R s m args below meth c H locs cells slots (MQ below (hm_Qi g A w' r) args s cells slots A) (F0 m pc ls [.int v]) := by
  subst ew; subst er
  exact W.iret S.1 S.2.1 hr (fun t ht hW => ⟨⟨v, (), rfl, rfl, by dsimp only; rw [ht]; exact X.2.1⟩, X.2.2.2.1.F ht⟩) X.2.2.2.1.2.2 hdg
theorem hm_rz {v : Int32} (S : CallFix p m c cc nL s args hm_W own) (hr : meth.sig.returnType = some .boolean) (hlk : meth.locks = false) (X : hm_X g A s H locs ws) (ew : ws = w') (er : v = r) (h01 : v = 0 ∨ v = 1) (hdg : decode cc pc = .ok (.ireturn, 1)) : W p l e R s m args below meth c H locs cells slots (MQ below (hm_Qi g A w' r) args s cells slots A) (F0 m pc ls [.int v]) := by
  subst ew; subst er
  exact W.zret S.1 S.2.1 hr (hm_nb h01) (fun t ht hW => ⟨⟨v, (), rfl, rfl, by dsimp only; rw [ht]; exact X.2.1⟩, X.2.2.2.1.F ht⟩) X.2.2.2.1.2.2 hdg
theorem hm_rv (S : CallFix p m c cc nL s args hm_W own) (hr : meth.sig.returnType = none) (hlk : meth.locks = false) (X : hm_X g A s H locs ws) (ew : ws = w') (hdg : decode cc pc = .ok (.return_, 1)) : W p l e R s m args below meth c H locs cells slots (MQ below (hm_Qv g A w') args s cells slots A) (F0 m pc ls []) := by
  subst ew
  exact W.vret S.1 S.2.1 hr (fun t ht hW => ⟨⟨(), rfl, trivial, by dsimp only; rw [ht]; exact X.2.1⟩, X.2.2.2.1.F ht⟩) X.2.2.2.1.2.2 hdg
end HMR
section HMO
variable {l : Launch} {y : MethodName} {rm : Room} {g : hm_G} {av : List Value} {w w' : va_W} {r : Int32} {cc : ByteArray} {maxL : Nat} {rt : FieldType} {own : String}
theorem hm_X.start {s : State} (hP : va_P g.1 vwCl w s.heap) (hK : va_K g.1 vwCl (hm_ty g) s) (hD : va_D (fun _ => True) w) (hE : hm_E (va_A w s.heap.size) s s.heap) : hm_X g (va_A w s.heap.size) s s.heap [] w := ⟨hK, hP, hD.self, va_S.rf, fun _ h => Or.inr h, hE⟩
theorem hm_ofi (lv : List (Nat × Value)) (hy : plainName y.cls = true) (hown : y.cls = own) (hlen : (lg_sl av).length ≤ maxL) (hlv : lv_args 0 av = lv) (hadr : w'.map Prod.fst = w.map Prod.fst)
    (body : ∀ (p : Program) (e : Env) (s : State) (m : MethodId) (args : Array Value) (below : List Frame) (meth : Method) (c : Code) (A : Nat → Prop), CallFix p m c cc maxL s args hm_W own → meth.sig.returnType = some rt → meth.locks = false → hm_X g A s s.heap [] w → ∀ ls : Array Slot, lv_has ls maxL lv → W p l e rm s m args below meth c s.heap [] 0 0 (MQ below (hm_Qi g A w' r) args s 0 0 A) (F0 m 0 ls [])) : hm_Mi l y (Cond.code y cc maxL (some rt) :: hm_W) rm g av w w' r := by
  refine ⟨hadr, fun sz => ?_⟩
  refine Met.ofW (cc := cc) (maxL := maxL) (ret := some rt) hy rfl ?_
  intro p e s m args below meth c s₁ B hml hv
  obtain ⟨rfl, hsz, hP, hK, hD, hE⟩ := hv
  subst hsz
  have hts := atoms_spec (ws := Cond.code y cc maxL (some rt) :: hm_W) B.pre
  have hl := lv_entry av (n := maxL) hlen
  rw [lg_entry_eq]
  rw [hlv] at hl
  exact body p e s m av.toArray below meth c _ ⟨B.exec, B.bytes, hml, by rw [← hown]; exact findClass_of_methodNamed B.named, fun w hw => hts w (List.mem_cons_of_mem _ hw)⟩ B.returns B.notSynchronized (hm_X.start hP hK hD hE) _ hl
theorem hm_ofv (lv : List (Nat × Value)) (hy : plainName y.cls = true) (hown : y.cls = own) (hlen : (lg_sl av).length ≤ maxL) (hlv : lv_args 0 av = lv) (hadr : w'.map Prod.fst = w.map Prod.fst)
    (body : ∀ (p : Program) (e : Env) (s : State) (m : MethodId) (args : Array Value) (below : List Frame) (meth : Method) (c : Code) (A : Nat → Prop), CallFix p m c cc maxL s args hm_W own → meth.sig.returnType = none → meth.locks = false → hm_X g A s s.heap [] w → ∀ ls : Array Slot, lv_has ls maxL lv → W p l e rm s m args below meth c s.heap [] 0 0 (MQ below (hm_Qv g A w') args s 0 0 A) (F0 m 0 ls [])) : hm_Mv l y (Cond.code y cc maxL none :: hm_W) rm g av w w' := by
  refine ⟨hadr, fun sz => ?_⟩
  refine Met.ofW (cc := cc) (maxL := maxL) (ret := none) hy rfl ?_
  intro p e s m args below meth c s₁ B hml hv
  obtain ⟨rfl, hsz, hP, hK, hD, hE⟩ := hv
  subst hsz
  have hts := atoms_spec (ws := Cond.code y cc maxL none :: hm_W) B.pre
  have hl := lv_entry av (n := maxL) hlen
  rw [lg_entry_eq]
  rw [hlv] at hl
  exact body p e s m av.toArray below meth c _ ⟨B.exec, B.bytes, hml, by rw [← hown]; exact findClass_of_methodNamed B.named, fun w hw => hts w (List.mem_cons_of_mem _ hw)⟩ B.returns B.notSynchronized (hm_X.start hP hK hD hE) _ hl
end HMO
end
section
theorem hm_bl_z {v w : Int32} (h : hm_bl v = some w) : v = 0 ∨ v = 1 := by
  obtain ⟨e, h1⟩ := hm_bl_s h
  rw [e]
  exact h1
theorem hm_same {w : va_W} : w.Perm (w ++ []) := by rw [List.append_nil]
def hm_cy (n0 : Nat) (f : Nat → Int32) (sp : Int32) (n1 : Nat) (h : Nat → Int32) (dp n : Int32) : Option (Nat → Int32) := if ¬ sp < 0 ∧ ¬ dp < 0 ∧ ¬ n < 0 ∧ sp.toNatClampNeg + n.toNatClampNeg ≤ n0 ∧ dp.toNatClampNeg + n.toNatClampNeg ≤ n1 then some (va_cpy f h sp.toNatClampNeg dp.toNatClampNeg n.toNatClampNeg) else none
theorem hm_cy_s {n0 : Nat} {f : Nat → Int32} {sp : Int32} {n1 : Nat} {h h' : Nat → Int32} {dp n : Int32} (e : hm_cy n0 f sp n1 h dp n = some h') : (¬ sp < 0 ∧ ¬ dp < 0 ∧ ¬ n < 0 ∧ sp.toNatClampNeg + n.toNatClampNeg ≤ n0 ∧ dp.toNatClampNeg + n.toNatClampNeg ≤ n1) ∧ va_cpy f h sp.toNatClampNeg dp.toNatClampNeg n.toNatClampNeg = h' := by
  unfold hm_cy at e
  split at e
  · exact ⟨by assumption, Option.some.inj e⟩
  · cases e
theorem hm_out {x : Int32} (lo hi : Int) (vs : List Int32) (hc : (List.range (hi - lo + 1).toNat).all (fun k => vs.any (fun v => v.toInt == lo + (k : Int))) = true) (h : ∀ v ∈ vs, ¬ x = v) : x.toInt < lo ∨ hi < x.toInt := by
  by_cases h1 : x.toInt < lo
  · exact Or.inl h1
  · by_cases h2 : hi < x.toInt
    · exact Or.inr h2
    · exfalso
      have hk : (x.toInt - lo).toNat < (hi - lo + 1).toNat := by omega
      have h3 := List.all_eq_true.mp hc _ (List.mem_range.mpr hk)
      obtain ⟨v, hv, he⟩ := List.any_eq_true.mp h3
      have he : v.toInt = lo + (((x.toInt - lo).toNat : Nat) : Int) := by simpa using he
      have he : v.toInt = x.toInt := by omega
      exact h v hv (Int32.toInt_inj.mp he.symm)
section HMT
variable {p : Program} {l : Launch} {e : Env} {R : Room} {s : State} {m : MethodId} {args : Array Value} {below : List Frame} {meth : Method} {c : Code} {H : Heap} {locs : List Loc} {cells slots : Nat} {Q : State → Prop}
variable {cc : ByteArray} {nL pc : Nat} {own : String} {rest : List Value} {ls : Array Slot} {g : hm_G} {A : Nat → Prop} {ws : va_W}
theorem hm_idiv {x y z : Int32} (hx : p.tables.exec = Jvm.exec) (hb : c.code = cc) (h : hm_dv x y = some z) (hdg : decode cc pc = .ok (.idiv, 1)) (kk : W p l e R s m args below meth c H locs cells slots Q (F0 m (pc + 1) ls (.int z :: rest))) : W p l e R s m args below meth c H locs cells slots Q (F0 m pc ls (.int y :: .int x :: rest)) := by
  obtain ⟨h1, h2⟩ := hm_dv_s h
  subst h2
  exact lv_idiv hx hb hdg h1 kk
theorem hm_irem {x y z : Int32} (hx : p.tables.exec = Jvm.exec) (hb : c.code = cc) (h : hm_rm x y = some z) (hdg : decode cc pc = .ok (.irem, 1)) (kk : W p l e R s m args below meth c H locs cells slots Q (F0 m (pc + 1) ls (.int z :: rest))) : W p l e R s m args below meth c H locs cells slots Q (F0 m pc ls (.int y :: .int x :: rest)) := by
  obtain ⟨h1, h2⟩ := hm_rm_s h
  subst h2
  exact lv_irem hx hb hdg h1 kk
theorem hm_tabIn {dflt lo hi off k : Int} {offs : Array Int} {len tgt : Nat} {x v : Int32} (hx : p.tables.exec = Jvm.exec) (hb : c.code = cc) (hdg : decode cc pc = .ok (.tableswitch dflt lo hi offs, len)) (hc : x = v) (hv : v.toInt = k) (h1 : ¬ k < lo) (h2 : ¬ hi < k) (ho : offs[(k - lo).toNat]? = some off) (ht : (pc : Int) + off = (tgt : Int)) (kk : W p l e R s m args below meth c H locs cells slots Q (F0 m tgt ls rest)) : W p l e R s m args below meth c H locs cells slots Q (F0 m pc ls (.int x :: rest)) := by
  subst hc
  subst hv
  exact lv_tableIn hx hb hdg h1 h2 ho ht kk
theorem hm_sld {n : String} {xs : Nat → Int32} {t : Nat} {i x : Int32} (hx : p.tables.exec = Jvm.exec) (hb : c.code = cc) (z : hm_Z n xs t A s s.heap) (hS : va_S A s.heap H locs) (h : hm_rd 4 xs i = some x) (hdg : decode cc pc = .ok (.iaload, 1)) (kk : W p l e R s m args below meth c H locs cells slots Q (F0 m (pc + 1) ls (.int x :: rest))) : W p l e R s m args below meth c H locs cells slots Q (F0 m pc ls (.int i :: .ref t :: rest)) := by
  obtain ⟨h1, h2⟩ := hm_rd_s h
  subst h2
  exact va_sld hx hb z.2.1 z.2.2.1 z.2.2.2 hS h1 hdg kk
theorem hm_slen {n : String} {xs : Nat → Int32} {t : Nat} (hx : p.tables.exec = Jvm.exec) (hb : c.code = cc) (z : hm_Z n xs t A s s.heap) (hS : va_S A s.heap H locs) (hdg : decode cc pc = .ok (.arraylength, 1)) (kk : W p l e R s m args below meth c H locs cells slots Q (F0 m (pc + 1) ls (.int 4 :: rest))) : W p l e R s m args below meth c H locs cells slots Q (F0 m pc ls (.ref t :: rest)) := va_slen hx hb z.2.1 z.2.2.1 z.2.2.2 hS hdg kk
theorem hm_mmax {index : Nat} {x y : Int32} (S : CallFix p m c cc nL s args hm_W own) (hls : ls.size = nL) (hl : Cond.methodLink own index Lib.Math.max.name ∈ hm_W) (hf : 1 ≤ R.frames) (hlo : (rest.map fun v => v.category).sum + 13 ≤ R.locals) (hc : cells ≤ R.cells) (hs : slots ≤ R.slots) (hdg : decode cc pc = .ok (.invokestatic index, 3)) (kk : W p l e R s m args below meth c H locs cells slots Q (F0 m (pc + 3) ls (.int (if x < y then y else x) :: rest))) : W p l e R s m args below meth c H locs cells slots Q (F0 m pc ls (.int y :: .int x :: rest)) := by
  obtain ⟨hx, hb, hml, hown, hts⟩ := S
  exact va_mmax hx hb (hml.trans hls.symm) hown (hts _ hl) (hts _ hw_1_27) (hts _ hw_1_3) (hts _ hw_1_28) hf hlo hc hs hdg kk
theorem hm_mmin {index : Nat} {x y : Int32} (S : CallFix p m c cc nL s args hm_W own) (hls : ls.size = nL) (hl : Cond.methodLink own index Lib.Math.min.name ∈ hm_W) (hf : 1 ≤ R.frames) (hlo : (rest.map fun v => v.category).sum + 13 ≤ R.locals) (hc : cells ≤ R.cells) (hs : slots ≤ R.slots) (hdg : decode cc pc = .ok (.invokestatic index, 3)) (kk : W p l e R s m args below meth c H locs cells slots Q (F0 m (pc + 3) ls (.int (if y < x then y else x) :: rest))) : W p l e R s m args below meth c H locs cells slots Q (F0 m pc ls (.int y :: .int x :: rest)) := by
  obtain ⟨hx, hb, hml, hown, hts⟩ := S
  exact va_mmin hx hb (hml.trans hls.symm) hown (hts _ hl) (hts _ hw_3_22) (hts _ hw_1_3) (hts _ hw_3_23) hf hlo hc hs hdg kk
theorem hm_copy {index n0 n1 a0 a : Nat} {f h h' : Nat → Int32} {sp dp n : Int32} (S : CallFix p m c cc nL s args hm_W own) (X : hm_X g A s H locs ws) (hc : hm_cy n0 f sp n1 h dp n = some h') (q0 q1 : Nat) (ha0 : ws[q0]? = some (a0, .inl (g.2.1, n0, .inl f))) (ha1 : ws[q1]? = some (a, .inl (g.2.1, n1, .inl h))) (hls : ls.size = nL) (hl : Cond.methodLink own index arraycopyName ∈ hm_W) (hf : 1 ≤ R.frames) (hlo : (rest.map fun v => v.category).sum + (nativeFrameWords "java/lang/System" "arraycopy" 5 + 11) ≤ R.locals) (hdg : decode cc pc = .ok (.invokestatic index, 3))
    (kk : ∀ (H1 : Heap) (locs1 : List Loc), hm_X g A s H1 locs1 (ws.set q1 (a, .inl (g.2.1, n1, .inl h'))) → W p l e R s m args below meth c H1 locs1 cells slots Q (F0 m (pc + 3) ls rest)) : W p l e R s m args below meth c H locs cells slots Q (F0 m pc ls (.int n :: .int dp :: .ref a :: .int sp :: .ref a0 :: rest)) := by
  obtain ⟨hx, hb, hml, hown, hts⟩ := S
  obtain ⟨⟨h1, h2, h3, h4, h5⟩, h6⟩ := hm_cy_s hc
  subst h6
  obtain ⟨hK, hP, hD, hS, hA, hE⟩ := X
  exact va_copyi hx hb (hml.trans hls.symm) hown (hts _ hl) (hts _ hw_4_49) (hts _ hw_4_48) (hts _ hw_1_11) hK hP hD hS q0 q1 0 0 ha0 ha1 rfl rfl rfl h1 h2 h3 h4 h5 (fun _ _ => rfl) hf hlo hdg (fun H1 locs1 hP hD hS => kk H1 locs1 ⟨hK, hP, hD, hS, hA, hE⟩)
end HMT
end
section
abbrev hm_ci (g : hm_G) (a n : Nat) (f : Nat → Int32) : Nat × va_E := (a, .inl (g.2.1, n, .inl f))
abbrev hm_cz (g : hm_G) (a n : Nat) (f : Nat → Int32) : Nat × va_E := (a, .inl (g.2.2.2, n, .inl f))
abbrev hm_cj (g : hm_G) (a n : Nat) (f : Nat → Int64) : Nat × va_E := (a, .inl (g.2.2.1, n, .inr (.inl f)))
def hm_row (g : hm_G) (h b n : Nat) (r : hm_SR) : va_W := [(h, .inr (2, [.ref b, .int r.1])), hm_ci g b n r.2]
def hm_wSc (g : hm_G) (a : Nat → Nat) (R : Nat → hm_SR) : va_W := [[(a 0, .inr (3, [.ref (a 1), .ref (a 3), .ref (a 5), .ref (a 7), .ref (a 9), .ref (a 11), .ref (a 13), .ref (a 15), .ref (a 17), .ref (a 19)]))], hm_row g (a 1) (a 2) 200 (R 0), hm_row g (a 3) (a 4) 30 (R 1), hm_row g (a 5) (a 6) 200 (R 2), hm_row g (a 7) (a 8) 30 (R 3), hm_row g (a 9) (a 10) 30 (R 4), hm_row g (a 11) (a 12) 30 (R 5), hm_row g (a 13) (a 14) 30 (R 6), hm_row g (a 15) (a 16) 100 (R 7), hm_row g (a 17) (a 18) 100 (R 8), hm_row g (a 19) (a 20) 100 (R 9)].flatten
def hm_wSe (g : hm_G) (a : Nat → Nat) (R : Nat → hm_SR) (A : Nat → Nat → Int32) : va_W := [[(a 0, .inr (4, [.ref (a 1), .ref (a 2), .ref (a 4), .ref (a 6), .ref (a 7)]))], [hm_ci g (a 1) 38 (A 0)], hm_row g (a 2) (a 3) 10 (R 0), hm_row g (a 4) (a 5) 10 (R 1), [hm_ci g (a 6) 76 (A 1)], [hm_cz g (a 7) 2 (A 2)]].flatten
def hm_wLe (g : hm_G) (a : Nat → Nat) (R : Nat → hm_SR) (Z : Nat → Int32) : va_W := [[(a 0, .inr (1, [.ref (a 1), .ref (a 3), .ref (a 5), .ref (a 7), .ref (a 9), .int (Z 0), .int (Z 1), .int (Z 2), .int (Z 3)]))], hm_row g (a 1) (a 2) 100 (R 0), hm_row g (a 3) (a 4) 100 (R 1), hm_row g (a 5) (a 6) 100 (R 2), hm_row g (a 7) (a 8) 100 (R 3), hm_row g (a 9) (a 10) 101 (R 4)].flatten
def hm_wBr (g : hm_G) (a : Nat → Nat) (A : Nat → Nat → Int32) : va_W := [[(a 0, .inr (0, [.ref (a 1), .ref (a 2), .ref (a 3)]))], [hm_ci g (a 1) 101 (A 0)], [hm_ci g (a 2) 101 (A 1)], [hm_ci g (a 3) 101 (A 2)]].flatten
def hm_wSh (g : hm_G) (a : Nat → Nat) (R : Nat → hm_SR) (Z : Nat → Int32) : va_W := [[(a 0, .inr (5, [.ref (a 1), .ref (a 3), .ref (a 5), .ref (a 7), .ref (a 9), .ref (a 11), .int (Z 0), .int (Z 1)]))], hm_row g (a 1) (a 2) 100 (R 0), hm_row g (a 3) (a 4) 101 (R 1), hm_row g (a 5) (a 6) 30 (R 2), hm_row g (a 7) (a 8) 30 (R 3), hm_row g (a 9) (a 10) 30 (R 4), hm_row g (a 11) (a 12) 30 (R 5)].flatten
def hm_wSu (g : hm_G) (a : Nat → Nat) (A : Nat → Nat → Int32) (J : Nat → Nat → Int64) : va_W := [[(a 0, .inr (6, [.ref (a 1), .ref (a 2), .ref (a 3)]))], [hm_cz g (a 1) 191 (A 0)], [hm_cj g (a 2) 382 (J 0)], [hm_cz g (a 3) 191 (A 1)]].flatten
def hm_wMM (g : hm_G) (a : Nat → Nat) (A : Nat → Nat → Int32) (Z : Nat → Int32) : va_W := [(a 0, .inr (8, [.int (Z 0), .ref (a 1), .int (Z 1), .ref (a 2), .int (Z 2), .ref (a 3), .ref (a 4), .int (Z 3), .ref (a 5), .ref (a 6), .ref (a 7), .ref (a 8), .int (Z 4), .ref (a 9), .ref (a 10), .ref (a 11), .int (Z 5), .ref (a 12), .int (Z 6), .ref (a 13), .ref (a 14), .ref (a 15), .ref (a 16), .ref (a 17), .ref (a 18), .int (Z 7), .ref (a 19), .int (Z 8), .ref (a 20), .ref (a 21), .ref (a 22), .ref (a 23), .ref (a 24), .int (Z 9), .int (Z 10), .int (Z 11), .ref (a 25)])), hm_ci g (a 1) 200 (A 0), hm_ci g (a 2) 200 (A 1), hm_ci g (a 3) 30 (A 2), hm_ci g (a 4) 30 (A 3), hm_ci g (a 5) 104 (A 4), hm_ci g (a 6) 104 (A 5), hm_cz g (a 7) 104 (A 6), hm_ci g (a 8) 38 (A 7), hm_ci g (a 9) 380 (A 8), hm_cz g (a 10) 2 (A 9), hm_ci g (a 11) 76 (A 10), hm_ci g (a 12) 104 (A 11), hm_ci g (a 13) 6 (A 12), hm_ci g (a 14) 6 (A 13), hm_ci g (a 15) 201 (A 14), hm_ci g (a 16) 105 (A 15), hm_ci g (a 17) 105 (A 16), hm_ci g (a 18) 105 (A 17), hm_ci g (a 19) 104 (A 18), hm_ci g (a 20) 30 (A 19), hm_ci g (a 21) 30 (A 20), hm_ci g (a 22) 30 (A 21), hm_ci g (a 23) 30 (A 22), hm_cz g (a 24) 30 (A 23), hm_ci g (a 25) 104 (A 24)]
def hm_wHM (g : hm_G) (a : Nat → Nat → Nat) (R : Nat → hm_SR) (Z : Nat → Int32) (ScR : Nat → hm_SR) (SeR : Nat → hm_SR) (SeA : Nat → Nat → Int32) (LeR : Nat → hm_SR) (LeZ : Nat → Int32) (BrA : Nat → Nat → Int32) (ShR : Nat → hm_SR) (ShZ : Nat → Int32) (SuA : Nat → Nat → Int32) (SuJ : Nat → Nat → Int64) : va_W := [[(a 0 0, .inr (7, [.ref (a 1 0), .ref (a 2 0), .ref (a 3 0), .ref (a 4 0), .ref (a 5 0), .ref (a 6 0), .ref (a 7 0), .ref (a 8 0), .ref (a 9 0), .ref (a 10 0), .int (Z 0), .int (Z 1)]))], hm_row g (a 1 0) (a 1 1) 200 (R 0), hm_wSc g (a 2) ScR, hm_wSe g (a 3) SeR SeA, hm_row g (a 4 0) (a 4 1) 100 (R 1), hm_row g (a 5 0) (a 5 1) 6 (R 2), hm_row g (a 6 0) (a 6 1) 6 (R 3), hm_wLe g (a 7) LeR LeZ, hm_wBr g (a 8) BrA, hm_wSh g (a 9) ShR ShZ, hm_wSu g (a 10) SuA SuJ].flatten
theorem hf_X0_15 : hm_Fl RX0 15 0 1 RX0 TX0 3 := ⟨hm_inX0, rfl, by decide, hw_1_162, rfl⟩
theorem hf_X0_18 : hm_Fl RX0 18 0 2 RX0 TX0 3 := ⟨hm_inX0, rfl, by decide, hw_1_163, rfl⟩
theorem hf_X0_9 : hm_Fl RX0 9 0 0 RX0 TX0 3 := ⟨hm_inX0, rfl, by decide, hw_1_161, rfl⟩
theorem hf_X1_14 : hm_Fl RX1 14 1 0 RX1 TX1 9 := ⟨hm_inX1, rfl, by decide, hw_1_127, rfl⟩
theorem hf_X1_20 : hm_Fl RX1 20 1 1 RX1 TX1 9 := ⟨hm_inX1, rfl, by decide, hw_1_128, rfl⟩
theorem hf_X1_23 : hm_Fl RX1 23 1 2 RX1 TX1 9 := ⟨hm_inX1, rfl, by decide, hw_1_129, rfl⟩
theorem hf_X1_26 : hm_Fl RX1 26 1 3 RX1 TX1 9 := ⟨hm_inX1, rfl, by decide, hw_1_130, rfl⟩
theorem hf_X1_29 : hm_Fl RX1 29 1 4 RX1 TX1 9 := ⟨hm_inX1, rfl, by decide, hw_1_131, rfl⟩
theorem hf_X1_38 : hm_Fl RX1 38 1 5 RX1 TX1 9 := ⟨hm_inX1, rfl, by decide, hw_1_132, rfl⟩
theorem hf_X1_42 : hm_Fl RX1 42 1 6 RX1 TX1 9 := ⟨hm_inX1, rfl, by decide, hw_1_133, rfl⟩
theorem hf_X1_45 : hm_Fl RX1 45 1 7 RX1 TX1 9 := ⟨hm_inX1, rfl, by decide, hw_1_134, rfl⟩
theorem hf_X1_48 : hm_Fl RX1 48 1 8 RX1 TX1 9 := ⟨hm_inX1, rfl, by decide, hw_1_135, rfl⟩
theorem hf_X2_13 : hm_Fl RX2 13 2 0 RX2 TX2 2 := ⟨hm_inX2, rfl, by decide, hw_1_29, rfl⟩
theorem hf_X2_19 : hm_Fl RX2 19 2 1 RX2 TX2 2 := ⟨hm_inX2, rfl, by decide, hw_1_30, rfl⟩
theorem hf_X3_14 : hm_Fl RX3 14 3 0 RX3 TX3 10 := ⟨hm_inX3, rfl, by decide, hw_1_45, rfl⟩
theorem hf_X3_20 : hm_Fl RX3 20 3 1 RX3 TX3 10 := ⟨hm_inX3, rfl, by decide, hw_1_46, rfl⟩
theorem hf_X3_23 : hm_Fl RX3 23 3 2 RX3 TX3 10 := ⟨hm_inX3, rfl, by decide, hw_1_47, rfl⟩
theorem hf_X3_26 : hm_Fl RX3 26 3 3 RX3 TX3 10 := ⟨hm_inX3, rfl, by decide, hw_1_48, rfl⟩
theorem hf_X3_29 : hm_Fl RX3 29 3 4 RX3 TX3 10 := ⟨hm_inX3, rfl, by decide, hw_1_49, rfl⟩
theorem hf_X3_32 : hm_Fl RX3 32 3 5 RX3 TX3 10 := ⟨hm_inX3, rfl, by decide, hw_1_50, rfl⟩
theorem hf_X3_35 : hm_Fl RX3 35 3 6 RX3 TX3 10 := ⟨hm_inX3, rfl, by decide, hw_1_51, rfl⟩
theorem hf_X3_38 : hm_Fl RX3 38 3 7 RX3 TX3 10 := ⟨hm_inX3, rfl, by decide, hw_1_52, rfl⟩
theorem hf_X3_41 : hm_Fl RX3 41 3 8 RX3 TX3 10 := ⟨hm_inX3, rfl, by decide, hw_1_53, rfl⟩
theorem hf_X3_44 : hm_Fl RX3 44 3 9 RX3 TX3 10 := ⟨hm_inX3, rfl, by decide, hw_1_54, rfl⟩
theorem hf_X4_20 : hm_Fl RX4 20 4 1 RX4 TX4 5 := ⟨hm_inX4, rfl, by decide, hw_1_103, rfl⟩
theorem hf_X4_24 : hm_Fl RX4 24 4 2 RX4 TX4 5 := ⟨hm_inX4, rfl, by decide, hw_1_104, rfl⟩
theorem hf_X4_27 : hm_Fl RX4 27 4 3 RX4 TX4 5 := ⟨hm_inX4, rfl, by decide, hw_1_105, rfl⟩
theorem hf_X4_30 : hm_Fl RX4 30 4 4 RX4 TX4 5 := ⟨hm_inX4, rfl, by decide, hw_1_106, rfl⟩
theorem hf_X4_9 : hm_Fl RX4 9 4 0 RX4 TX4 5 := ⟨hm_inX4, rfl, by decide, hw_1_102, rfl⟩
theorem hf_X5_14 : hm_Fl RX5 14 5 0 RX5 TX5 8 := ⟨hm_inX5, rfl, by decide, hw_1_179, rfl⟩
theorem hf_X5_20 : hm_Fl RX5 20 5 1 RX5 TX5 8 := ⟨hm_inX5, rfl, by decide, hw_1_180, rfl⟩
theorem hf_X5_23 : hm_Fl RX5 23 5 2 RX5 TX5 8 := ⟨hm_inX5, rfl, by decide, hw_1_181, rfl⟩
theorem hf_X5_26 : hm_Fl RX5 26 5 3 RX5 TX5 8 := ⟨hm_inX5, rfl, by decide, hw_1_182, rfl⟩
theorem hf_X5_29 : hm_Fl RX5 29 5 4 RX5 TX5 8 := ⟨hm_inX5, rfl, by decide, hw_1_183, rfl⟩
theorem hf_X5_32 : hm_Fl RX5 32 5 5 RX5 TX5 8 := ⟨hm_inX5, rfl, by decide, hw_1_184, rfl⟩
theorem hf_X5_44 : hm_Fl RX5 44 5 6 RX5 TX5 8 := ⟨hm_inX5, rfl, by decide, hw_1_185, rfl⟩
theorem hf_X5_52 : hm_Fl RX5 52 5 7 RX5 TX5 8 := ⟨hm_inX5, rfl, by decide, hw_1_186, rfl⟩
theorem hf_X6_15 : hm_Fl RX6 15 6 1 RX6 TX6 3 := ⟨hm_inX6, rfl, by decide, hw_1_211, rfl⟩
theorem hf_X6_19 : hm_Fl RX6 19 6 2 RX6 TX6 3 := ⟨hm_inX6, rfl, by decide, hw_1_212, rfl⟩
theorem hf_X6_9 : hm_Fl RX6 9 6 0 RX6 TX6 3 := ⟨hm_inX6, rfl, by decide, hw_1_210, rfl⟩
theorem hf_X7_14 : hm_Fl RX7 14 7 0 RX7 TX7 12 := ⟨hm_inX7, rfl, by decide, hw_1_221, rfl⟩
theorem hf_X7_21 : hm_Fl RX7 21 7 1 RX7 TX7 12 := ⟨hm_inX7, rfl, by decide, hw_1_222, rfl⟩
theorem hf_X7_28 : hm_Fl RX7 28 7 2 RX7 TX7 12 := ⟨hm_inX7, rfl, by decide, hw_1_223, rfl⟩
theorem hf_X7_32 : hm_Fl RX7 32 7 3 RX7 TX7 12 := ⟨hm_inX7, rfl, by decide, hw_1_224, rfl⟩
theorem hf_X7_35 : hm_Fl RX7 35 7 4 RX7 TX7 12 := ⟨hm_inX7, rfl, by decide, hw_1_225, rfl⟩
theorem hf_X7_38 : hm_Fl RX7 38 7 5 RX7 TX7 12 := ⟨hm_inX7, rfl, by decide, hw_1_226, rfl⟩
theorem hf_X7_44 : hm_Fl RX7 44 7 6 RX7 TX7 12 := ⟨hm_inX7, rfl, by decide, hw_1_227, rfl⟩
theorem hf_X7_51 : hm_Fl RX7 51 7 7 RX7 TX7 12 := ⟨hm_inX7, rfl, by decide, hw_1_228, rfl⟩
theorem hf_X7_58 : hm_Fl RX7 58 7 8 RX7 TX7 12 := ⟨hm_inX7, rfl, by decide, hw_1_229, rfl⟩
theorem hf_X7_65 : hm_Fl RX7 65 7 9 RX7 TX7 12 := ⟨hm_inX7, rfl, by decide, hw_1_230, rfl⟩
theorem hf_X7_69 : hm_Fl RX7 69 7 10 RX7 TX7 12 := ⟨hm_inX7, rfl, by decide, hw_1_231, rfl⟩
theorem hf_X7_73 : hm_Fl RX7 73 7 11 RX7 TX7 12 := ⟨hm_inX7, rfl, by decide, hw_1_232, rfl⟩
theorem hf_X8_103 : hm_Fl RX8 103 8 0 RX8 TX8 37 := ⟨hm_inX8, rfl, by decide, hw_4_77, rfl⟩
theorem hf_X8_117 : hm_Fl RX8 117 8 7 RX8 TX8 37 := ⟨hm_inX8, rfl, by decide, hw_4_84, rfl⟩
theorem hf_X8_124 : hm_Fl RX8 124 8 2 RX8 TX8 37 := ⟨hm_inX8, rfl, by decide, hw_4_79, rfl⟩
theorem hf_X8_127 : hm_Fl RX8 127 8 4 RX8 TX8 37 := ⟨hm_inX8, rfl, by decide, hw_4_81, rfl⟩
theorem hf_X8_13 : hm_Fl RX8 13 8 3 RX8 TX8 37 := ⟨hm_inX8, rfl, by decide, hw_4_80, rfl⟩
theorem hf_X8_16 : hm_Fl RX8 16 8 5 RX8 TX8 37 := ⟨hm_inX8, rfl, by decide, hw_4_82, rfl⟩
theorem hf_X8_183 : hm_Fl RX8 183 8 25 RX8 TX8 37 := ⟨hm_inX8, rfl, by decide, hw_4_102, rfl⟩
theorem hf_X8_19 : hm_Fl RX8 19 8 6 RX8 TX8 37 := ⟨hm_inX8, rfl, by decide, hw_4_83, rfl⟩
theorem hf_X8_198 : hm_Fl RX8 198 8 27 RX8 TX8 37 := ⟨hm_inX8, rfl, by decide, hw_4_104, rfl⟩
theorem hf_X8_22 : hm_Fl RX8 22 8 8 RX8 TX8 37 := ⟨hm_inX8, rfl, by decide, hw_4_85, rfl⟩
theorem hf_X8_220 : hm_Fl RX8 220 8 33 RX8 TX8 37 := ⟨hm_inX8, rfl, by decide, hw_4_110, rfl⟩
theorem hf_X8_223 : hm_Fl RX8 223 8 34 RX8 TX8 37 := ⟨hm_inX8, rfl, by decide, hw_4_111, rfl⟩
theorem hf_X8_226 : hm_Fl RX8 226 8 35 RX8 TX8 37 := ⟨hm_inX8, rfl, by decide, hw_4_112, rfl⟩
theorem hf_X8_25 : hm_Fl RX8 25 8 9 RX8 TX8 37 := ⟨hm_inX8, rfl, by decide, hw_4_86, rfl⟩
theorem hf_X8_28 : hm_Fl RX8 28 8 10 RX8 TX8 37 := ⟨hm_inX8, rfl, by decide, hw_4_87, rfl⟩
theorem hf_X8_32 : hm_Fl RX8 32 8 11 RX8 TX8 37 := ⟨hm_inX8, rfl, by decide, hw_4_88, rfl⟩
theorem hf_X8_35 : hm_Fl RX8 35 8 13 RX8 TX8 37 := ⟨hm_inX8, rfl, by decide, hw_4_90, rfl⟩
theorem hf_X8_38 : hm_Fl RX8 38 8 14 RX8 TX8 37 := ⟨hm_inX8, rfl, by decide, hw_4_91, rfl⟩
theorem hf_X8_41 : hm_Fl RX8 41 8 15 RX8 TX8 37 := ⟨hm_inX8, rfl, by decide, hw_4_92, rfl⟩
theorem hf_X8_44 : hm_Fl RX8 44 8 17 RX8 TX8 37 := ⟨hm_inX8, rfl, by decide, hw_4_94, rfl⟩
theorem hf_X8_47 : hm_Fl RX8 47 8 19 RX8 TX8 37 := ⟨hm_inX8, rfl, by decide, hw_4_96, rfl⟩
theorem hf_X8_50 : hm_Fl RX8 50 8 20 RX8 TX8 37 := ⟨hm_inX8, rfl, by decide, hw_4_97, rfl⟩
theorem hf_X8_53 : hm_Fl RX8 53 8 21 RX8 TX8 37 := ⟨hm_inX8, rfl, by decide, hw_4_98, rfl⟩
theorem hf_X8_56 : hm_Fl RX8 56 8 22 RX8 TX8 37 := ⟨hm_inX8, rfl, by decide, hw_4_99, rfl⟩
theorem hf_X8_59 : hm_Fl RX8 59 8 23 RX8 TX8 37 := ⟨hm_inX8, rfl, by decide, hw_4_100, rfl⟩
theorem hf_X8_62 : hm_Fl RX8 62 8 24 RX8 TX8 37 := ⟨hm_inX8, rfl, by decide, hw_4_101, rfl⟩
theorem hf_X8_65 : hm_Fl RX8 65 8 26 RX8 TX8 37 := ⟨hm_inX8, rfl, by decide, hw_4_103, rfl⟩
theorem hf_X8_68 : hm_Fl RX8 68 8 28 RX8 TX8 37 := ⟨hm_inX8, rfl, by decide, hw_4_105, rfl⟩
theorem hf_X8_7 : hm_Fl RX8 7 8 1 RX8 TX8 37 := ⟨hm_inX8, rfl, by decide, hw_4_78, rfl⟩
theorem hf_X8_71 : hm_Fl RX8 71 8 29 RX8 TX8 37 := ⟨hm_inX8, rfl, by decide, hw_4_106, rfl⟩
theorem hf_X8_74 : hm_Fl RX8 74 8 30 RX8 TX8 37 := ⟨hm_inX8, rfl, by decide, hw_4_107, rfl⟩
theorem hf_X8_77 : hm_Fl RX8 77 8 31 RX8 TX8 37 := ⟨hm_inX8, rfl, by decide, hw_4_108, rfl⟩
theorem hf_X8_80 : hm_Fl RX8 80 8 32 RX8 TX8 37 := ⟨hm_inX8, rfl, by decide, hw_4_109, rfl⟩
theorem hf_X8_83 : hm_Fl RX8 83 8 36 RX8 TX8 37 := ⟨hm_inX8, rfl, by decide, hw_4_113, rfl⟩
theorem hf_X8_89 : hm_Fl RX8 89 8 12 RX8 TX8 37 := ⟨hm_inX8, rfl, by decide, hw_4_89, rfl⟩
theorem hf_X8_93 : hm_Fl RX8 93 8 16 RX8 TX8 37 := ⟨hm_inX8, rfl, by decide, hw_4_93, rfl⟩
theorem hf_X8_96 : hm_Fl RX8 96 8 18 RX8 TX8 37 := ⟨hm_inX8, rfl, by decide, hw_4_95, rfl⟩
theorem hg_X1_again : hm_Fp RX1 TX1 9 8 .int := ⟨tyX1, tyX1_ok, nmX1, rfl, by decide +kernel⟩
theorem hg_X1_gap : hm_Fp RX1 TX1 9 5 .int := ⟨tyX1, tyX1_ok, nmX1, rfl, by decide +kernel⟩
theorem hg_X1_measure : hm_Fp RX1 TX1 9 6 .int := ⟨tyX1, tyX1_ok, nmX1, rfl, by decide +kernel⟩
theorem hg_X1_parted : hm_Fp RX1 TX1 9 7 .int := ⟨tyX1, tyX1_ok, nmX1, rfl, by decide +kernel⟩
theorem hg_X2_size : hm_Fp RX2 TX2 2 1 .int := ⟨tyX2, tyX2_ok, nmX2, rfl, by decide +kernel⟩
theorem hg_X5_cost : hm_Fp RX5 TX5 8 7 .int := ⟨tyX5, tyX5_ok, nmX5, rfl, by decide +kernel⟩
theorem hg_X5_there : hm_Fp RX5 TX5 8 6 .boolean := ⟨tyX5, tyX5_ok, nmX5, rfl, by decide +kernel⟩
theorem hg_X7_sheetStale : hm_Fp RX7 TX7 12 10 .boolean := ⟨tyX7, tyX7_ok, nmX7, rfl, by decide +kernel⟩
theorem hg_X7_surveyStale : hm_Fp RX7 TX7 12 11 .boolean := ⟨tyX7, tyX7_ok, nmX7, rfl, by decide +kernel⟩
theorem hg_X8_blanks : hm_Fp RX8 TX8 37 27 .int := ⟨tyX8, tyX8_ok, nmX8, rfl, by decide +kernel⟩
theorem hg_X8_drafted : hm_Fp RX8 TX8 37 16 .int := ⟨tyX8, tyX8_ok, nmX8, rfl, by decide +kernel⟩
theorem hg_X8_goodLeast : hm_Fp RX8 TX8 37 34 .int := ⟨tyX8, tyX8_ok, nmX8, rfl, by decide +kernel⟩
theorem hg_X8_goodMany : hm_Fp RX8 TX8 37 33 .int := ⟨tyX8, tyX8_ok, nmX8, rfl, by decide +kernel⟩
theorem hg_X8_goodMost : hm_Fp RX8 TX8 37 35 .int := ⟨tyX8, tyX8_ok, nmX8, rfl, by decide +kernel⟩
theorem hg_X8_letters : hm_Fp RX8 TX8 37 0 .int := ⟨tyX8, tyX8_ok, nmX8, rfl, by decide +kernel⟩
theorem hg_X8_lines : hm_Fp RX8 TX8 37 25 .int := ⟨tyX8, tyX8_ok, nmX8, rfl, by decide +kernel⟩
theorem hg_X8_places : hm_Fp RX8 TX8 37 7 .int := ⟨tyX8, tyX8_ok, nmX8, rfl, by decide +kernel⟩
theorem hg_X8_seen : hm_Fp RX8 TX8 37 18 .int := ⟨tyX8, tyX8_ok, nmX8, rfl, by decide +kernel⟩
theorem hg_X8_size : hm_Fp RX8 TX8 37 2 .int := ⟨tyX8, tyX8_ok, nmX8, rfl, by decide +kernel⟩
theorem hg_X8_undos : hm_Fp RX8 TX8 37 12 .int := ⟨tyX8, tyX8_ok, nmX8, rfl, by decide +kernel⟩
theorem hg_X8_words : hm_Fp RX8 TX8 37 4 .int := ⟨tyX8, tyX8_ok, nmX8, rfl, by decide +kernel⟩
theorem mw_X0_solve : hm_Mw yX0_solve cX0_solve 5 none RX0 2 := ⟨hw_3_15, hw_1_7, hw_3_13, hw_3_14, rfl, by decide +kernel, by decide +kernel, by decide +kernel⟩
theorem mw_X0_chooseEnd : hm_Mw yX0_chooseEnd cX0_chooseEnd 13 none RX0 4 := ⟨hw_3_28, hw_1_7, hw_3_27, hw_p_13, rfl, by decide +kernel, by decide +kernel, by decide +kernel⟩
theorem mw_X0_hasPage : hm_Mw yX0_hasPage cX0_hasPage 1 (some .boolean) RX0 0 := ⟨hw_3_50, hw_1_7, hw_3_48, hw_3_49, rfl, by decide +kernel, by decide +kernel, by decide +kernel⟩
theorem mw_X0_cost : hm_Mw yX0_cost cX0_cost 1 (some .int) RX0 0 := ⟨hw_3_54, hw_1_7, hw_3_52, hw_3_53, rfl, by decide +kernel, by decide +kernel, by decide +kernel⟩
theorem mw_X0_lineCount : hm_Mw yX0_lineCount cX0_lineCount 1 (some .int) RX0 0 := ⟨hw_3_59, hw_1_7, hw_3_57, hw_3_58, rfl, by decide +kernel, by decide +kernel, by decide +kernel⟩
theorem mw_X0_endBehind : hm_Mw yX0_endBehind cX0_endBehind 3 (some .int) RX0 1 := ⟨hw_3_63, hw_1_7, hw_3_61, hw_3_62, rfl, by decide +kernel, by decide +kernel, by decide +kernel⟩
theorem mw_X1_take : hm_Mw yX1_take cX1_take 5 none RX1 2 := ⟨hw_2_227, hw_1_6, hw_2_225, hw_2_226, rfl, by decide +kernel, by decide +kernel, by decide +kernel⟩
theorem mw_X1_takeWord : hm_Mw yX1_takeWord cX1_takeWord 8 (some .int) RX1 4 := ⟨hw_2_235, hw_1_6, hw_2_234, hw_p_11, rfl, by decide +kernel, by decide +kernel, by decide +kernel⟩
theorem mw_X1_addPlace : hm_Mw yX1_addPlace cX1_addPlace 6 none RX1 5 := ⟨hw_3_11, hw_1_6, hw_3_10, hw_p_12, rfl, by decide +kernel, by decide +kernel, by decide +kernel⟩
theorem mw_X1_places : hm_Mw yX1_places cX1_places 1 (some .int) RX1 0 := ⟨hw_3_19, hw_1_6, hw_3_17, hw_3_18, rfl, by decide +kernel, by decide +kernel, by decide +kernel⟩
theorem mw_X1_gap : hm_Mw yX1_gap cX1_gap 1 (some .int) RX1 0 := ⟨hw_3_91, hw_1_6, hw_3_89, hw_3_90, rfl, by decide +kernel, by decide +kernel, by decide +kernel⟩
theorem mw_X1_isSlashAt : hm_Mw yX1_isSlashAt cX1_isSlashAt 2 (some .boolean) RX1 1 := ⟨hw_3_82, hw_1_6, hw_3_80, hw_3_81, rfl, by decide +kernel, by decide +kernel, by decide +kernel⟩
theorem mw_X1_hungAt : hm_Mw yX1_hungAt cX1_hungAt 2 (some .int) RX1 1 := ⟨hw_3_167, hw_1_6, hw_3_165, hw_3_166, rfl, by decide +kernel, by decide +kernel, by decide +kernel⟩
theorem mw_X1_beginBehind : hm_Mw yX1_beginBehind cX1_beginBehind 2 (some .int) RX1 1 := ⟨hw_3_32, hw_1_6, hw_3_30, hw_3_31, rfl, by decide +kernel, by decide +kernel, by decide +kernel⟩
theorem mw_X1_natural : hm_Mw yX1_natural cX1_natural 3 (some .int) RX1 2 := ⟨hw_3_86, hw_1_6, hw_3_84, hw_3_85, rfl, by decide +kernel, by decide +kernel, by decide +kernel⟩
theorem mw_X1_leftBy : hm_Mw yX1_leftBy cX1_leftBy 4 (some .int) RX1 3 := ⟨hw_3_37, hw_1_6, hw_3_35, hw_3_36, rfl, by decide +kernel, by decide +kernel, by decide +kernel⟩
theorem mw_X1_left : hm_Mw yX1_left cX1_left 3 (some .int) RX1 2 := ⟨hw_3_148, hw_1_6, hw_3_146, hw_3_147, rfl, by decide +kernel, by decide +kernel, by decide +kernel⟩
theorem mw_X1_costBy : hm_Mw yX1_costBy cX1_costBy 5 (some .int) RX1 3 := ⟨hw_3_41, hw_1_6, hw_3_39, hw_3_40, rfl, by decide +kernel, by decide +kernel, by decide +kernel⟩
theorem mw_X1_cost : hm_Mw yX1_cost cX1_cost 3 (some .int) RX1 2 := ⟨hw_3_172, hw_1_6, hw_3_170, hw_3_171, rfl, by decide +kernel, by decide +kernel, by decide +kernel⟩
theorem mw_X1_blanks : hm_Mw yX1_blanks cX1_blanks 3 (some .int) RX1 2 := ⟨hw_3_71, hw_1_6, hw_3_69, hw_3_70, rfl, by decide +kernel, by decide +kernel, by decide +kernel⟩
theorem mw_X1_spread : hm_Mw yX1_spread cX1_spread 3 (some .int) RX1 2 := ⟨hw_3_75, hw_1_6, hw_3_73, hw_3_74, rfl, by decide +kernel, by decide +kernel, by decide +kernel⟩
theorem mw_X2_size : hm_Mw yX2_size cX2_size 1 (some .int) RX2 0 := ⟨hw_2_29, hw_1_2, hw_2_27, hw_2_28, rfl, by decide +kernel, by decide +kernel, by decide +kernel⟩
theorem mw_X2_get : hm_Mw yX2_get cX2_get 2 (some .int) RX2 1 := ⟨hw_2_45, hw_1_2, hw_2_43, hw_2_44, rfl, by decide +kernel, by decide +kernel, by decide +kernel⟩
theorem mw_X2_set : hm_Mw yX2_set cX2_set 3 none RX2 2 := ⟨hw_2_176, hw_1_2, hw_2_174, hw_2_175, rfl, by decide +kernel, by decide +kernel, by decide +kernel⟩
theorem mw_X2_add : hm_Mw yX2_add cX2_add 2 (some .boolean) RX2 1 := ⟨hw_2_25, hw_1_2, hw_2_23, hw_2_24, rfl, by decide +kernel, by decide +kernel, by decide +kernel⟩
theorem mw_X2_drop : hm_Mw yX2_drop cX2_drop 1 none RX2 0 := ⟨hw_2_180, hw_1_2, hw_2_178, hw_2_179, rfl, by decide +kernel, by decide +kernel, by decide +kernel⟩
theorem mw_X2_dropFirst : hm_Mw yX2_dropFirst cX2_dropFirst 2 none RX2 0 := ⟨hw_2_171, hw_1_2, hw_2_169, hw_2_170, rfl, by decide +kernel, by decide +kernel, by decide +kernel⟩
theorem mw_X2_empty : hm_Mw yX2_empty cX2_empty 1 none RX2 0 := ⟨hw_1_101, hw_1_2, hw_1_99, hw_1_100, rfl, by decide +kernel, by decide +kernel, by decide +kernel⟩
theorem mw_X3_read : hm_Mw yX3_read cX3_read 4 none RX3 1 := ⟨hw_2_64, hw_1_4, hw_2_62, hw_2_63, rfl, by decide +kernel, by decide +kernel, by decide +kernel⟩
theorem mw_X3_forgetAll : hm_Mw yX3_forgetAll cX3_forgetAll 1 none RX3 0 := ⟨hw_2_68, hw_1_4, hw_2_67, hw_p_2, rfl, by decide +kernel, by decide +kernel, by decide +kernel⟩
theorem mw_X3_addPlace : hm_Mw yX3_addPlace cX3_addPlace 3 none RX3 1 := ⟨hw_2_76, hw_1_4, hw_2_75, hw_p_3, rfl, by decide +kernel, by decide +kernel, by decide +kernel⟩
theorem mw_X3_endWord : hm_Mw yX3_endWord cX3_endWord 3 none RX3 0 := ⟨hw_2_87, hw_1_4, hw_2_86, hw_p_4, rfl, by decide +kernel, by decide +kernel, by decide +kernel⟩
theorem mw_X3_firstLike : hm_Mw yX3_firstLike cX3_firstLike 3 (some .int) RX3 1 := ⟨hw_2_95, hw_1_4, hw_2_94, hw_p_5, rfl, by decide +kernel, by decide +kernel, by decide +kernel⟩
theorem mw_X3_areSpelledAlike : hm_Mw yX3_areSpelledAlike cX3_areSpelledAlike 7 (some .boolean) RX3 2 := ⟨hw_2_99, hw_1_4, hw_2_98, hw_p_6, rfl, by decide +kernel, by decide +kernel, by decide +kernel⟩
theorem mw_X3_wordCount : hm_Mw yX3_wordCount cX3_wordCount 1 (some .int) RX3 0 := ⟨hw_2_80, hw_1_4, hw_2_78, hw_2_79, rfl, by decide +kernel, by decide +kernel, by decide +kernel⟩
theorem mw_X3_placeCount : hm_Mw yX3_placeCount cX3_placeCount 1 (some .int) RX3 0 := ⟨hw_2_91, hw_1_4, hw_2_89, hw_2_90, rfl, by decide +kernel, by decide +kernel, by decide +kernel⟩
theorem mw_X3_startOf : hm_Ms yX3_startOf cX3_startOf 2 (some .int) RX3 2 := ⟨hw_2_83, hw_1_4, hw_2_82, rfl, by decide +kernel, by decide +kernel, by decide +kernel⟩
theorem mw_X3_signCount : hm_Mw yX3_signCount cX3_signCount 2 (some .int) RX3 1 := ⟨hw_2_109, hw_1_4, hw_2_107, hw_2_108, rfl, by decide +kernel, by decide +kernel, by decide +kernel⟩
theorem mw_X3_signOf : hm_Mw yX3_signOf cX3_signOf 3 (some .int) RX3 2 := ⟨hw_2_113, hw_1_4, hw_2_111, hw_2_112, rfl, by decide +kernel, by decide +kernel, by decide +kernel⟩
theorem mw_X3_wordAt : hm_Mw yX3_wordAt cX3_wordAt 2 (some .int) RX3 1 := ⟨hw_2_142, hw_1_4, hw_2_140, hw_2_141, rfl, by decide +kernel, by decide +kernel, by decide +kernel⟩
theorem mw_X3_plainAhead : hm_Mw yX3_plainAhead cX3_plainAhead 2 (some .int) RX3 1 := ⟨hw_2_146, hw_1_4, hw_2_144, hw_2_145, rfl, by decide +kernel, by decide +kernel, by decide +kernel⟩
theorem mw_X3_isSlashAt : hm_Mw yX3_isSlashAt cX3_isSlashAt 2 (some .boolean) RX3 1 := ⟨hw_2_150, hw_1_4, hw_2_148, hw_2_149, rfl, by decide +kernel, by decide +kernel, by decide +kernel⟩
theorem mw_X3_lastPlaceOf : hm_Mw yX3_lastPlaceOf cX3_lastPlaceOf 2 (some .int) RX3 1 := ⟨hw_4_34, hw_1_4, hw_4_32, hw_4_33, rfl, by decide +kernel, by decide +kernel, by decide +kernel⟩
theorem mw_X3_spellings : hm_Mw yX3_spellings cX3_spellings 1 (some .int) RX3 0 := ⟨hw_2_121, hw_1_4, hw_2_119, hw_2_120, rfl, by decide +kernel, by decide +kernel, by decide +kernel⟩
theorem mw_X3_firstSpelled : hm_Mw yX3_firstSpelled cX3_firstSpelled 2 (some .int) RX3 1 := ⟨hw_2_125, hw_1_4, hw_2_123, hw_2_124, rfl, by decide +kernel, by decide +kernel, by decide +kernel⟩
theorem mw_X3_timesSpelled : hm_Mw yX3_timesSpelled cX3_timesSpelled 4 (some .int) RX3 1 := ⟨hw_2_129, hw_1_4, hw_2_127, hw_2_128, rfl, by decide +kernel, by decide +kernel, by decide +kernel⟩
theorem mw_X4_begin : hm_Mw yX4_begin cX4_begin 2 none RX4 0 := ⟨hw_1_87, hw_1_5, hw_1_85, hw_1_86, rfl, by decide +kernel, by decide +kernel, by decide +kernel⟩
theorem mw_X4_store : hm_Mw yX4_store cX4_store 3 none RX4 2 := ⟨hw_1_91, hw_1_5, hw_1_90, hw_p_0, rfl, by decide +kernel, by decide +kernel, by decide +kernel⟩
theorem mw_X4_loseUndone : hm_Mw yX4_loseUndone cX4_loseUndone 1 none RX4 0 := ⟨hw_1_97, hw_1_5, hw_1_96, hw_p_1, rfl, by decide +kernel, by decide +kernel, by decide +kernel⟩
theorem mw_X4_get : hm_Mw yX4_get cX4_get 2 (some .int) RX4 1 := ⟨hw_2_162, hw_1_5, hw_2_160, hw_2_161, rfl, by decide +kernel, by decide +kernel, by decide +kernel⟩
theorem mw_X4_widthOf : hm_Mw yX4_widthOf cX4_widthOf 2 (some .int) RX4 1 := ⟨hw_3_1, hw_1_5, hw_2_239, hw_3_0, rfl, by decide +kernel, by decide +kernel, by decide +kernel⟩
theorem mw_X4_hungOf : hm_Mw yX4_hungOf cX4_hungOf 2 (some .int) RX4 1 := ⟨hw_3_6, hw_1_5, hw_3_4, hw_3_5, rfl, by decide +kernel, by decide +kernel, by decide +kernel⟩
theorem mw_X4_change : hm_Mw yX4_change cX4_change 3 none RX4 2 := ⟨hw_2_166, hw_1_5, hw_2_164, hw_2_165, rfl, by decide +kernel, by decide +kernel, by decide +kernel⟩
theorem mw_X4_undoable : hm_Mw yX4_undoable cX4_undoable 1 (some .int) RX4 0 := ⟨hw_2_209, hw_1_5, hw_2_207, hw_2_208, rfl, by decide +kernel, by decide +kernel, by decide +kernel⟩
theorem mw_X4_takeBack : hm_Mw yX4_takeBack cX4_takeBack 3 (some .int) RX4 0 := ⟨hw_2_213, hw_1_5, hw_2_211, hw_2_212, rfl, by decide +kernel, by decide +kernel, by decide +kernel⟩
theorem mw_X4_has : hm_Mw yX4_has cX4_has 2 (some .boolean) RX4 1 := ⟨hw_4_57, hw_1_5, hw_4_55, hw_4_56, rfl, by decide +kernel, by decide +kernel, by decide +kernel⟩
theorem mw_X4_copyTo : hm_Mw yX4_copyTo cX4_copyTo 2 none RX4 1 := ⟨hw_4_46, hw_1_5, hw_4_44, hw_4_45, rfl, by decide +kernel, by decide +kernel, by decide +kernel⟩
theorem mw_X4_copyFrom : hm_Mw yX4_copyFrom cX4_copyFrom 2 none RX4 1 := ⟨hw_4_61, hw_1_5, hw_4_59, hw_4_60, rfl, by decide +kernel, by decide +kernel, by decide +kernel⟩
theorem mw_X5_lay : hm_Mw yX5_lay cX5_lay 6 none RX5 2 := ⟨hw_3_45, hw_1_8, hw_3_43, hw_3_44, rfl, by decide +kernel, by decide +kernel, by decide +kernel⟩
theorem mw_X5_setLine : hm_Mw yX5_setLine cX5_setLine 10 none RX5 3 := ⟨hw_3_67, hw_1_8, hw_3_66, hw_p_14, rfl, by decide +kernel, by decide +kernel, by decide +kernel⟩
theorem mw_X5_addBlank : hm_Mw yX5_addBlank cX5_addBlank 3 none RX5 2 := ⟨hw_3_95, hw_1_8, hw_3_94, hw_p_15, rfl, by decide +kernel, by decide +kernel, by decide +kernel⟩
theorem mw_X5_measureRivers : hm_Mw yX5_measureRivers cX5_measureRivers 4 none RX5 0 := ⟨hw_3_100, hw_1_8, hw_3_99, hw_p_16, rfl, by decide +kernel, by decide +kernel, by decide +kernel⟩
theorem mw_X5_longestMet : hm_Mw yX5_longestMet cX5_longestMet 5 (some .int) RX5 2 := ⟨hw_3_109, hw_1_8, hw_3_108, hw_p_17, rfl, by decide +kernel, by decide +kernel, by decide +kernel⟩
theorem mw_X5_meetsAny : hm_Mw yX5_meetsAny cX5_meetsAny 4 (some .boolean) RX5 2 := ⟨hw_3_119, hw_1_8, hw_3_118, hw_p_19, rfl, by decide +kernel, by decide +kernel, by decide +kernel⟩
theorem mw_X5_meet : hm_Mw yX5_meet cX5_meet 3 (some .boolean) RX5 2 := ⟨hw_3_113, hw_1_8, hw_3_112, hw_p_18, rfl, by decide +kernel, by decide +kernel, by decide +kernel⟩
theorem mw_X5_isThere : hm_Mw yX5_isThere cX5_isThere 1 (some .boolean) RX5 0 := ⟨hw_3_123, hw_1_8, hw_3_121, hw_3_122, rfl, by decide +kernel, by decide +kernel, by decide +kernel⟩
theorem mw_X5_cost : hm_Mw yX5_cost cX5_cost 1 (some .int) RX5 0 := ⟨hw_3_127, hw_1_8, hw_3_125, hw_3_126, rfl, by decide +kernel, by decide +kernel, by decide +kernel⟩
theorem mw_X5_lineCount : hm_Mw yX5_lineCount cX5_lineCount 1 (some .int) RX5 0 := ⟨hw_3_104, hw_1_8, hw_3_102, hw_3_103, rfl, by decide +kernel, by decide +kernel, by decide +kernel⟩
theorem mw_X5_startOf : hm_Mw yX5_startOf cX5_startOf 2 (some .int) RX5 1 := ⟨hw_3_140, hw_1_8, hw_3_138, hw_3_139, rfl, by decide +kernel, by decide +kernel, by decide +kernel⟩
theorem mw_X5_endOf : hm_Mw yX5_endOf cX5_endOf 2 (some .int) RX5 1 := ⟨hw_3_144, hw_1_8, hw_3_142, hw_3_143, rfl, by decide +kernel, by decide +kernel, by decide +kernel⟩
theorem mw_X5_slashEnds : hm_Mw yX5_slashEnds cX5_slashEnds 4 (some .int) RX5 1 := ⟨hw_3_132, hw_1_8, hw_3_130, hw_3_131, rfl, by decide +kernel, by decide +kernel, by decide +kernel⟩
theorem mw_X5_rough : hm_Mw yX5_rough cX5_rough 4 (some .int) RX5 1 := ⟨hw_3_136, hw_1_8, hw_3_134, hw_3_135, rfl, by decide +kernel, by decide +kernel, by decide +kernel⟩
theorem mw_X5_springs : hm_Mw yX5_springs cX5_springs 3 (some .int) RX5 0 := ⟨hw_3_152, hw_1_8, hw_3_150, hw_3_151, rfl, by decide +kernel, by decide +kernel, by decide +kernel⟩
theorem mw_X5_longest : hm_Mw yX5_longest cX5_longest 3 (some .int) RX5 0 := ⟨hw_3_156, hw_1_8, hw_3_154, hw_3_155, rfl, by decide +kernel, by decide +kernel, by decide +kernel⟩
theorem mw_X5_blankCount : hm_Mw yX5_blankCount cX5_blankCount 2 (some .int) RX5 1 := ⟨hw_3_184, hw_1_8, hw_3_182, hw_3_183, rfl, by decide +kernel, by decide +kernel, by decide +kernel⟩
theorem mw_X5_blankOf : hm_Mw yX5_blankOf cX5_blankOf 5 (some .int) RX5 3 := ⟨hw_3_188, hw_1_8, hw_3_186, hw_3_187, rfl, by decide +kernel, by decide +kernel, by decide +kernel⟩
theorem mw_X6_goThrough : hm_Mw yX6_goThrough cX6_goThrough 4 none RX6 2 := ⟨hw_3_230, hw_1_9, hw_3_228, hw_3_229, rfl, by decide +kernel, by decide +kernel, by decide +kernel⟩
theorem mw_X6_note : hm_Mw yX6_note cX6_note 9 none RX6 2 := ⟨hw_3_236, hw_1_9, hw_3_235, hw_p_24, rfl, by decide +kernel, by decide +kernel, by decide +kernel⟩
theorem mw_X6_endsAt : hm_Mw yX6_endsAt cX6_endsAt 3 (some .boolean) RX6 2 := ⟨hw_4_38, hw_1_9, hw_4_37, hw_p_26, rfl, by decide +kernel, by decide +kernel, by decide +kernel⟩
theorem mw_X6_pickAlike : hm_Mw yX6_pickAlike cX6_pickAlike 4 none RX6 1 := ⟨hw_4_2, hw_1_9, hw_4_0, hw_4_1, rfl, by decide +kernel, by decide +kernel, by decide +kernel⟩
theorem mw_X6_pickSeen : hm_Mw yX6_pickSeen cX6_pickSeen 7 none RX6 3 := ⟨hw_4_24, hw_1_9, hw_4_22, hw_4_23, rfl, by decide +kernel, by decide +kernel, by decide +kernel⟩
theorem mw_X6_beginsLine : hm_Mw yX6_beginsLine cX6_beginsLine 4 (some .boolean) RX6 3 := ⟨hw_4_30, hw_1_9, hw_4_29, hw_p_25, rfl, by decide +kernel, by decide +kernel, by decide +kernel⟩
theorem mw_X6_picked : hm_Mw yX6_picked cX6_picked 6 (some .int) RX6 1 := ⟨hw_4_8, hw_1_9, hw_4_6, hw_4_7, rfl, by decide +kernel, by decide +kernel, by decide +kernel⟩
theorem mw_X7_type : hm_Mw yX7_type cX7_type 2 (some .int) RX7 1 := ⟨hw_2_21, hw_1_1, hw_2_19, hw_2_20, rfl, by decide +kernel, by decide +kernel, by decide +kernel⟩
theorem mw_X7_clear : hm_Mw yX7_clear cX7_clear 2 (some .int) RX7 0 := ⟨hw_2_33, hw_1_1, hw_2_31, hw_2_32, rfl, by decide +kernel, by decide +kernel, by decide +kernel⟩
theorem mw_X7_words : hm_Mw yX7_words cX7_words 2 (some .int) RX7 0 := ⟨hw_2_38, hw_1_1, hw_2_36, hw_2_37, rfl, by decide +kernel, by decide +kernel, by decide +kernel⟩
theorem mw_X7_word : hm_Mw yX7_word cX7_word 3 (some .int) RX7 2 := ⟨hw_2_105, hw_1_1, hw_2_103, hw_2_104, rfl, by decide +kernel, by decide +kernel, by decide +kernel⟩
theorem mw_X7_different : hm_Mw yX7_different cX7_different 3 (some .int) RX7 2 := ⟨hw_2_117, hw_1_1, hw_2_115, hw_2_116, rfl, by decide +kernel, by decide +kernel, by decide +kernel⟩
theorem mw_X7_place : hm_Mw yX7_place cX7_place 3 (some .int) RX7 2 := ⟨hw_2_133, hw_1_1, hw_2_131, hw_2_132, rfl, by decide +kernel, by decide +kernel, by decide +kernel⟩
theorem mw_X7_wide : hm_Mw yX7_wide cX7_wide 4 (some .int) RX7 2 := ⟨hw_2_154, hw_1_1, hw_2_152, hw_2_153, rfl, by decide +kernel, by decide +kernel, by decide +kernel⟩
theorem mw_X7_hangs : hm_Mw yX7_hangs cX7_hangs 4 (some .int) RX7 2 := ⟨hw_2_190, hw_1_1, hw_2_188, hw_2_189, rfl, by decide +kernel, by decide +kernel, by decide +kernel⟩
theorem mw_X7_sets : hm_Mw yX7_sets cX7_sets 3 (some .int) RX7 2 := ⟨hw_2_197, hw_1_1, hw_2_195, hw_2_196, rfl, by decide +kernel, by decide +kernel, by decide +kernel⟩
theorem mw_X7_undo : hm_Mw yX7_undo cX7_undo 1 (some .int) RX7 0 := ⟨hw_2_205, hw_1_1, hw_2_203, hw_2_204, rfl, by decide +kernel, by decide +kernel, by decide +kernel⟩
theorem mw_X7_page : hm_Mw yX7_page cX7_page 2 (some .int) RX7 1 := ⟨hw_2_219, hw_1_1, hw_2_217, hw_2_218, rfl, by decide +kernel, by decide +kernel, by decide +kernel⟩
theorem mw_X7_line : hm_Mw yX7_line cX7_line 5 (some .int) RX7 2 := ⟨hw_3_160, hw_1_1, hw_3_158, hw_3_159, rfl, by decide +kernel, by decide +kernel, by decide +kernel⟩
theorem mw_X7_blank : hm_Mw yX7_blank cX7_blank 4 (some .int) RX7 3 := ⟨hw_3_180, hw_1_1, hw_3_178, hw_3_179, rfl, by decide +kernel, by decide +kernel, by decide +kernel⟩
theorem mw_X7_leftOf : hm_Mw yX7_leftOf cX7_leftOf 3 (some .int) RX7 2 := ⟨hw_3_192, hw_1_1, hw_3_190, hw_3_191, rfl, by decide +kernel, by decide +kernel, by decide +kernel⟩
theorem mw_X7_puts : hm_Mw yX7_puts cX7_puts 2 (some .int) RX7 1 := ⟨hw_3_197, hw_1_1, hw_3_195, hw_3_196, rfl, by decide +kernel, by decide +kernel, by decide +kernel⟩
theorem mw_X7_takes : hm_Mw yX7_takes cX7_takes 2 (some .int) RX7 0 := ⟨hw_3_205, hw_1_1, hw_3_203, hw_3_204, rfl, by decide +kernel, by decide +kernel, by decide +kernel⟩
theorem mw_X7_judged : hm_Mw yX7_judged cX7_judged 4 (some .int) RX7 1 := ⟨hw_3_210, hw_1_1, hw_3_208, hw_3_209, rfl, by decide +kernel, by decide +kernel, by decide +kernel⟩
theorem mw_X7_alike : hm_Mw yX7_alike cX7_alike 2 (some .int) RX7 1 := ⟨hw_3_222, hw_1_1, hw_3_220, hw_3_221, rfl, by decide +kernel, by decide +kernel, by decide +kernel⟩
theorem mw_X7_sees : hm_Mw yX7_sees cX7_sees 3 (some .int) RX7 2 := ⟨hw_4_12, hw_1_1, hw_4_10, hw_4_11, rfl, by decide +kernel, by decide +kernel, by decide +kernel⟩
theorem mw_X7_forget : hm_Mw yX7_forget cX7_forget 2 (some .int) RX7 0 := ⟨hw_4_16, hw_1_1, hw_4_14, hw_4_15, rfl, by decide +kernel, by decide +kernel, by decide +kernel⟩
theorem mw_X7_unseen : hm_Mw yX7_unseen cX7_unseen 2 (some .int) RX7 1 := ⟨hw_4_20, hw_1_1, hw_4_18, hw_4_19, rfl, by decide +kernel, by decide +kernel, by decide +kernel⟩
theorem mw_X7_keep : hm_Mw yX7_keep cX7_keep 2 (some .int) RX7 1 := ⟨hw_4_42, hw_1_1, hw_4_40, hw_4_41, rfl, by decide +kernel, by decide +kernel, by decide +kernel⟩
theorem mw_X7_back : hm_Mw yX7_back cX7_back 2 (some .int) RX7 1 := ⟨hw_4_53, hw_1_1, hw_4_51, hw_4_52, rfl, by decide +kernel, by decide +kernel, by decide +kernel⟩
theorem mw_X7_count : hm_Mw yX7_count cX7_count 2 (some .int) RX7 1 := ⟨hw_4_66, hw_1_1, hw_4_64, hw_4_65, rfl, by decide +kernel, by decide +kernel, by decide +kernel⟩
theorem mw_X7_isPlace : hm_Mw yX7_isPlace cX7_isPlace 2 (some .boolean) RX7 1 := ⟨hw_2_137, hw_1_1, hw_2_136, hw_p_7, rfl, by decide +kernel, by decide +kernel, by decide +kernel⟩
theorem mw_X7_lastOfDraft : hm_Mw yX7_lastOfDraft cX7_lastOfDraft 1 (some .int) RX7 0 := ⟨hw_3_201, hw_1_1, hw_3_200, hw_p_20, rfl, by decide +kernel, by decide +kernel, by decide +kernel⟩
theorem mw_X7_change : hm_Mw yX7_change cX7_change 4 (some .int) RX7 2 := ⟨hw_2_158, hw_1_1, hw_2_157, hw_p_8, rfl, by decide +kernel, by decide +kernel, by decide +kernel⟩
theorem mw_X7_markStale : hm_Mw yX7_markStale cX7_markStale 2 none RX7 1 := ⟨hw_2_186, hw_1_1, hw_2_185, hw_p_9, rfl, by decide +kernel, by decide +kernel, by decide +kernel⟩
theorem mw_X7_freshen : hm_Mw yX7_freshen cX7_freshen 1 none RX7 0 := ⟨hw_2_223, hw_1_1, hw_2_222, hw_p_10, rfl, by decide +kernel, by decide +kernel, by decide +kernel⟩
theorem mw_X7_freshenSurvey : hm_Mw yX7_freshenSurvey cX7_freshenSurvey 1 none RX7 0 := ⟨hw_3_226, hw_1_1, hw_3_225, hw_p_23, rfl, by decide +kernel, by decide +kernel, by decide +kernel⟩
theorem mw_X7_firstWrongLine : hm_Mw yX7_firstWrongLine cX7_firstWrongLine 4 (some .int) RX7 0 := ⟨hw_3_214, hw_1_1, hw_3_213, hw_p_21, rfl, by decide +kernel, by decide +kernel, by decide +kernel⟩
theorem mw_X7_costOfDraft : hm_Mw yX7_costOfDraft cX7_costOfDraft 5 (some .int) RX7 0 := ⟨hw_3_218, hw_1_1, hw_3_217, hw_p_22, rfl, by decide +kernel, by decide +kernel, by decide +kernel⟩
theorem mw_X7_isLetter : hm_Ms yX7_isLetter cX7_isLetter 1 (some .boolean) RX7 1 := ⟨hw_2_57, hw_1_1, hw_2_56, rfl, by decide +kernel, by decide +kernel, by decide +kernel⟩
theorem mw_X7_markNumber : hm_Ms yX7_markNumber cX7_markNumber 1 (some .int) RX7 1 := ⟨hw_2_60, hw_1_1, hw_2_59, rfl, by decide +kernel, by decide +kernel, by decide +kernel⟩
theorem mw_X7_widthSlot : hm_Ms yX7_widthSlot cX7_widthSlot 2 (some .int) RX7 1 := ⟨hw_2_54, hw_1_1, hw_2_53, rfl, by decide +kernel, by decide +kernel, by decide +kernel⟩
theorem mw_X7_hangSlot : hm_Ms yX7_hangSlot cX7_hangSlot 2 (some .int) RX7 1 := ⟨hw_2_193, hw_1_1, hw_2_192, rfl, by decide +kernel, by decide +kernel, by decide +kernel⟩
theorem mw_X7_isPlainSign : hm_Ms yX7_isPlainSign cX7_isPlainSign 1 (some .boolean) RX7 1 := ⟨hw_2_51, hw_1_1, hw_2_50, rfl, by decide +kernel, by decide +kernel, by decide +kernel⟩
theorem mw_X7_faultOf : hm_Ms yX7_faultOf cX7_faultOf 5 (some .int) RX7 1 := ⟨hw_2_41, hw_1_1, hw_2_40, rfl, by decide +kernel, by decide +kernel, by decide +kernel⟩
theorem mw_X7_isBetweenSigns : hm_Ms yX7_isBetweenSigns cX7_isBetweenSigns 2 (some .boolean) RX7 2 := ⟨hw_2_48, hw_1_1, hw_2_47, rfl, by decide +kernel, by decide +kernel, by decide +kernel⟩
theorem mw_X8_in : hm_Ms yX8_in cX8_in 3 (some .boolean) RX8 3 := ⟨hw_4_195, hw_1_10, hw_4_194, rfl, by decide +kernel, by decide +kernel, by decide +kernel⟩
theorem mw_X8_begins : hm_Mw yX8_begins cX8_begins 2 none RX8 0 := ⟨hw_4_76, hw_1_10, hw_4_75, hw_p_27, rfl, by decide +kernel, by decide +kernel, by decide +kernel⟩
theorem mw_X8_type : hm_Mw yX8_type cX8_type 2 (some .int) RX8 1 := ⟨hw_4_192, hw_1_10, hw_4_190, hw_4_191, rfl, by decide +kernel, by decide +kernel, by decide +kernel⟩
theorem mw_X8_clear : hm_Mw yX8_clear cX8_clear 2 (some .int) RX8 0 := ⟨hw_4_199, hw_1_10, hw_4_197, hw_4_198, rfl, by decide +kernel, by decide +kernel, by decide +kernel⟩
theorem mw_X8_markOf : hm_Ms yX8_markOf cX8_markOf 1 (some .int) RX8 1 := ⟨hw_4_217, hw_1_10, hw_4_216, rfl, by decide +kernel, by decide +kernel, by decide +kernel⟩
theorem mw_X8_isWhole : hm_Ms yX8_isWhole cX8_isWhole 1 (some .boolean) RX8 1 := ⟨hw_4_214, hw_1_10, hw_4_213, rfl, by decide +kernel, by decide +kernel, by decide +kernel⟩
theorem mw_X8_isWholeAt : hm_Mw yX8_isWholeAt cX8_isWholeAt 2 (some .boolean) RX8 1 := ⟨hw_4_211, hw_1_10, hw_4_210, hw_p_29, rfl, by decide +kernel, by decide +kernel, by decide +kernel⟩
theorem mw_X8_fault : hm_Mw yX8_fault cX8_fault 6 (some .int) RX8 0 := ⟨hw_4_207, hw_1_10, hw_4_206, hw_p_28, rfl, by decide +kernel, by decide +kernel, by decide +kernel⟩
theorem mw_X8_laysPlace : hm_Mw yX8_laysPlace cX8_laysPlace 4 none RX8 3 := ⟨hw_4_221, hw_1_10, hw_4_220, hw_p_30, rfl, by decide +kernel, by decide +kernel, by decide +kernel⟩
theorem mw_X8_words : hm_Mw yX8_words cX8_words 4 (some .int) RX8 0 := ⟨hw_4_203, hw_1_10, hw_4_201, hw_4_202, rfl, by decide +kernel, by decide +kernel, by decide +kernel⟩
theorem mw_X8_isWord : hm_Mw yX8_isWord cX8_isWord 2 (some .boolean) RX8 1 := ⟨hw_4_229, hw_1_10, hw_4_228, hw_p_31, rfl, by decide +kernel, by decide +kernel, by decide +kernel⟩
theorem mw_X8_word : hm_Mw yX8_word cX8_word 4 (some .int) RX8 2 := ⟨hw_4_225, hw_1_10, hw_4_223, hw_4_224, rfl, by decide +kernel, by decide +kernel, by decide +kernel⟩
theorem mw_X8_areAlike : hm_Mw yX8_areAlike cX8_areAlike 6 (some .boolean) RX8 2 := ⟨hw_5_1, hw_1_10, hw_5_0, hw_p_33, rfl, by decide +kernel, by decide +kernel, by decide +kernel⟩
theorem mw_X8_firstLike : hm_Mw yX8_firstLike cX8_firstLike 3 (some .int) RX8 1 := ⟨hw_4_237, hw_1_10, hw_4_236, hw_p_32, rfl, by decide +kernel, by decide +kernel, by decide +kernel⟩
theorem mw_X8_differents : hm_Mw yX8_differents cX8_differents 3 (some .int) RX8 0 := ⟨hw_5_181, hw_1_10, hw_5_180, hw_p_58, rfl, by decide +kernel, by decide +kernel, by decide +kernel⟩
theorem mw_X8_different : hm_Mw yX8_different cX8_different 7 (some .int) RX8 2 := ⟨hw_4_233, hw_1_10, hw_4_231, hw_4_232, rfl, by decide +kernel, by decide +kernel, by decide +kernel⟩
theorem mw_X8_isPlace : hm_Mw yX8_isPlace cX8_isPlace 2 (some .boolean) RX8 1 := ⟨hw_5_9, hw_1_10, hw_5_8, hw_p_34, rfl, by decide +kernel, by decide +kernel, by decide +kernel⟩
theorem mw_X8_place : hm_Mw yX8_place cX8_place 5 (some .int) RX8 2 := ⟨hw_5_5, hw_1_10, hw_5_3, hw_5_4, rfl, by decide +kernel, by decide +kernel, by decide +kernel⟩
theorem mw_X8_notes : hm_Mw yX8_notes cX8_notes 2 none RX8 0 := ⟨hw_5_24, hw_1_10, hw_5_23, hw_p_36, rfl, by decide +kernel, by decide +kernel, by decide +kernel⟩
theorem mw_X8_becomes : hm_Mw yX8_becomes cX8_becomes 4 (some .int) RX8 2 := ⟨hw_5_20, hw_1_10, hw_5_19, hw_p_35, rfl, by decide +kernel, by decide +kernel, by decide +kernel⟩
theorem mw_X8_widthOf : hm_Ms yX8_widthOf cX8_widthOf 1 (some .int) RX8 1 := ⟨hw_5_16, hw_1_10, hw_5_15, rfl, by decide +kernel, by decide +kernel, by decide +kernel⟩
theorem mw_X8_wide : hm_Mw yX8_wide cX8_wide 3 (some .int) RX8 2 := ⟨hw_5_13, hw_1_10, hw_5_11, hw_5_12, rfl, by decide +kernel, by decide +kernel, by decide +kernel⟩
theorem mw_X8_hangs : hm_Mw yX8_hangs cX8_hangs 3 (some .int) RX8 2 := ⟨hw_5_28, hw_1_10, hw_5_26, hw_5_27, rfl, by decide +kernel, by decide +kernel, by decide +kernel⟩
theorem mw_X8_sets : hm_Mw yX8_sets cX8_sets 4 (some .int) RX8 2 := ⟨hw_5_32, hw_1_10, hw_5_30, hw_5_31, rfl, by decide +kernel, by decide +kernel, by decide +kernel⟩
theorem mw_X8_undo : hm_Mw yX8_undo cX8_undo 2 (some .int) RX8 0 := ⟨hw_5_36, hw_1_10, hw_5_34, hw_5_35, rfl, by decide +kernel, by decide +kernel, by decide +kernel⟩
theorem mw_X8_sums : hm_Mw yX8_sums cX8_sums 2 none RX8 0 := ⟨hw_5_48, hw_1_10, hw_5_47, hw_p_38, rfl, by decide +kernel, by decide +kernel, by decide +kernel⟩
theorem mw_X8_firstWord : hm_Mw yX8_firstWord cX8_firstWord 2 (some .int) RX8 1 := ⟨hw_5_68, hw_1_10, hw_5_67, hw_p_43, rfl, by decide +kernel, by decide +kernel, by decide +kernel⟩
theorem mw_X8_firstLetter : hm_Mw yX8_firstLetter cX8_firstLetter 2 (some .int) RX8 1 := ⟨hw_5_72, hw_1_10, hw_5_71, hw_p_44, rfl, by decide +kernel, by decide +kernel, by decide +kernel⟩
theorem mw_X8_natural : hm_Mw yX8_natural cX8_natural 4 (some .int) RX8 2 := ⟨hw_5_64, hw_1_10, hw_5_63, hw_p_42, rfl, by decide +kernel, by decide +kernel, by decide +kernel⟩
theorem mw_X8_hung : hm_Mw yX8_hung cX8_hung 3 (some .int) RX8 1 := ⟨hw_5_60, hw_1_10, hw_5_59, hw_p_41, rfl, by decide +kernel, by decide +kernel, by decide +kernel⟩
theorem mw_X8_left : hm_Mw yX8_left cX8_left 4 (some .int) RX8 3 := ⟨hw_5_56, hw_1_10, hw_5_55, hw_p_40, rfl, by decide +kernel, by decide +kernel, by decide +kernel⟩
theorem mw_X8_costOf : hm_Mw yX8_costOf cX8_costOf 5 (some .int) RX8 3 := ⟨hw_5_76, hw_1_10, hw_5_75, hw_p_45, rfl, by decide +kernel, by decide +kernel, by decide +kernel⟩
theorem mw_X8_looksFrom : hm_Mw yX8_looksFrom cX8_looksFrom 8 none RX8 2 := ⟨hw_5_52, hw_1_10, hw_5_51, hw_p_39, rfl, by decide +kernel, by decide +kernel, by decide +kernel⟩
theorem mw_X8_laysPage : hm_Mw yX8_laysPage cX8_laysPage 3 (some .boolean) RX8 1 := ⟨hw_5_44, hw_1_10, hw_5_43, hw_p_37, rfl, by decide +kernel, by decide +kernel, by decide +kernel⟩
theorem mw_X8_before : hm_Mw yX8_before cX8_before 2 (some .int) RX8 1 := ⟨hw_5_88, hw_1_10, hw_5_87, hw_p_48, rfl, by decide +kernel, by decide +kernel, by decide +kernel⟩
theorem mw_X8_blanksOf : hm_Mw yX8_blanksOf cX8_blanksOf 2 (some .int) RX8 1 := ⟨hw_5_96, hw_1_10, hw_5_95, hw_p_50, rfl, by decide +kernel, by decide +kernel, by decide +kernel⟩
theorem mw_X8_leftIn : hm_Mw yX8_leftIn cX8_leftIn 2 (some .int) RX8 1 := ⟨hw_5_100, hw_1_10, hw_5_99, hw_p_51, rfl, by decide +kernel, by decide +kernel, by decide +kernel⟩
theorem mw_X8_isGiving : hm_Mw yX8_isGiving cX8_isGiving 2 (some .boolean) RX8 1 := ⟨hw_5_92, hw_1_10, hw_5_91, hw_p_49, rfl, by decide +kernel, by decide +kernel, by decide +kernel⟩
theorem mw_X8_endOf : hm_Mw yX8_endOf cX8_endOf 2 (some .int) RX8 1 := ⟨hw_5_84, hw_1_10, hw_5_83, hw_p_47, rfl, by decide +kernel, by decide +kernel, by decide +kernel⟩
theorem mw_X8_laysBlanks : hm_Mw yX8_laysBlanks cX8_laysBlanks 8 none RX8 0 := ⟨hw_5_104, hw_1_10, hw_5_103, hw_p_52, rfl, by decide +kernel, by decide +kernel, by decide +kernel⟩
theorem mw_X8_areCommon : hm_Mw yX8_areCommon cX8_areCommon 5 (some .boolean) RX8 2 := ⟨hw_5_112, hw_1_10, hw_5_111, hw_p_54, rfl, by decide +kernel, by decide +kernel, by decide +kernel⟩
theorem mw_X8_rivers : hm_Mw yX8_rivers cX8_rivers 5 none RX8 0 := ⟨hw_5_108, hw_1_10, hw_5_107, hw_p_53, rfl, by decide +kernel, by decide +kernel, by decide +kernel⟩
theorem mw_X8_rough : hm_Mw yX8_rough cX8_rough 4 (some .int) RX8 0 := ⟨hw_5_80, hw_1_10, hw_5_79, hw_p_46, rfl, by decide +kernel, by decide +kernel, by decide +kernel⟩
theorem mw_X8_page : hm_Mw yX8_page cX8_page 6 (some .int) RX8 1 := ⟨hw_5_40, hw_1_10, hw_5_38, hw_5_39, rfl, by decide +kernel, by decide +kernel, by decide +kernel⟩
theorem mw_X8_line : hm_Mw yX8_line cX8_line 3 (some .int) RX8 2 := ⟨hw_5_116, hw_1_10, hw_5_114, hw_5_115, rfl, by decide +kernel, by decide +kernel, by decide +kernel⟩
theorem mw_X8_blank : hm_Mw yX8_blank cX8_blank 5 (some .int) RX8 3 := ⟨hw_5_120, hw_1_10, hw_5_118, hw_5_119, rfl, by decide +kernel, by decide +kernel, by decide +kernel⟩
theorem mw_X8_leftOf : hm_Mw yX8_leftOf cX8_leftOf 3 (some .int) RX8 2 := ⟨hw_5_124, hw_1_10, hw_5_122, hw_5_123, rfl, by decide +kernel, by decide +kernel, by decide +kernel⟩
theorem mw_X8_puts : hm_Mw yX8_puts cX8_puts 2 (some .int) RX8 1 := ⟨hw_5_129, hw_1_10, hw_5_127, hw_5_128, rfl, by decide +kernel, by decide +kernel, by decide +kernel⟩
theorem mw_X8_takes : hm_Mw yX8_takes cX8_takes 1 (some .int) RX8 0 := ⟨hw_5_133, hw_1_10, hw_5_131, hw_5_132, rfl, by decide +kernel, by decide +kernel, by decide +kernel⟩
theorem mw_X8_judged : hm_Mw yX8_judged cX8_judged 6 (some .int) RX8 1 := ⟨hw_5_137, hw_1_10, hw_5_135, hw_5_136, rfl, by decide +kernel, by decide +kernel, by decide +kernel⟩
theorem mw_X8_finds : hm_Mw yX8_finds cX8_finds 2 none RX8 1 := ⟨hw_5_145, hw_1_10, hw_5_144, hw_p_55, rfl, by decide +kernel, by decide +kernel, by decide +kernel⟩
theorem mw_X8_found : hm_Mw yX8_found cX8_found 2 (some .int) RX8 1 := ⟨hw_5_149, hw_1_10, hw_5_148, hw_p_56, rfl, by decide +kernel, by decide +kernel, by decide +kernel⟩
theorem mw_X8_alike : hm_Mw yX8_alike cX8_alike 6 (some .int) RX8 1 := ⟨hw_5_141, hw_1_10, hw_5_139, hw_5_140, rfl, by decide +kernel, by decide +kernel, by decide +kernel⟩
theorem mw_X8_sees : hm_Mw yX8_sees cX8_sees 3 (some .int) RX8 2 := ⟨hw_5_153, hw_1_10, hw_5_151, hw_5_152, rfl, by decide +kernel, by decide +kernel, by decide +kernel⟩
theorem mw_X8_forget : hm_Mw yX8_forget cX8_forget 2 (some .int) RX8 0 := ⟨hw_5_157, hw_1_10, hw_5_155, hw_5_156, rfl, by decide +kernel, by decide +kernel, by decide +kernel⟩
theorem mw_X8_isBegun : hm_Mw yX8_isBegun cX8_isBegun 4 (some .boolean) RX8 1 := ⟨hw_5_165, hw_1_10, hw_5_164, hw_p_57, rfl, by decide +kernel, by decide +kernel, by decide +kernel⟩
theorem mw_X8_unseen : hm_Mw yX8_unseen cX8_unseen 5 (some .int) RX8 1 := ⟨hw_5_161, hw_1_10, hw_5_159, hw_5_160, rfl, by decide +kernel, by decide +kernel, by decide +kernel⟩
theorem mw_X8_keep : hm_Mw yX8_keep cX8_keep 3 (some .int) RX8 1 := ⟨hw_5_169, hw_1_10, hw_5_167, hw_5_168, rfl, by decide +kernel, by decide +kernel, by decide +kernel⟩
theorem mw_X8_back : hm_Mw yX8_back cX8_back 3 (some .int) RX8 1 := ⟨hw_5_173, hw_1_10, hw_5_171, hw_5_172, rfl, by decide +kernel, by decide +kernel, by decide +kernel⟩
theorem mw_X8_count : hm_Mw yX8_count cX8_count 2 (some .int) RX8 1 := ⟨hw_5_177, hw_1_10, hw_5_175, hw_5_176, rfl, by decide +kernel, by decide +kernel, by decide +kernel⟩
end
section
def f_X2_size (r : hm_SR)  : Option (Int32) :=
  some (r.1)
abbrev rm_X2_size : Room := { frames := 0, cells := 0, slots := 0, locals := 0 }
set_option maxHeartbeats 4000000 in
set_option maxRecDepth 100000 in
theorem c_X2_size (l : Launch) (g : hm_G) (h b n : Nat) (r : hm_SR) (q : Int32) (hF : f_X2_size r = some q) : hm_Mi l yX2_size (Cond.code yX2_size cX2_size 1 (some .int) :: hm_W) rm_X2_size g [.ref h] ([hm_row g h b n r] : List va_W).flatten ([hm_row g h b n r] : List va_W).flatten q := by
  refine hm_ofi [(0, .ref h)] (by decide) (own := RX2) rfl (Nat.le_of_ble_eq_true rfl) rfl rfl ?_
  intro p e s m args below meth c AA S hr hlk X ls hl
  have hx := S.1
  have hb := S.2.1
  have hown := S.2.2.2.1
  have hts := S.2.2.2.2
  unfold f_X2_size at hF
  refine lv_aload_n hx hb dX2_size_0 rfl (lv_at hl 0 rfl) ?_
  refine hm_get S X hf_X2_19 0 rfl rfl dX2_size_1 ?_
  obtain rfl := Option.some.inj hF
  exact hm_ri S hr hlk X rfl rfl dX2_size_4
def f_X2_get (n : Nat) (r : hm_SR) (x0 : Int32)  : Option (Int32) :=
  if x0 < 0 then (
  some (0))
  else (
  if r.1 ≤ x0 then (
  some (0))
  else (
  if (nI n) ≤ x0 then (
  some (0))
  else (
  (hm_rd n r.2 x0).bind fun t1 =>
  some (t1))))
abbrev rm_X2_get : Room := { frames := 0, cells := 0, slots := 0, locals := 0 }
set_option maxHeartbeats 4000000 in
set_option maxRecDepth 100000 in
theorem c_X2_get (l : Launch) (g : hm_G) (h b n : Nat) (r : hm_SR) (x0 : Int32) (q : Int32) (hF : f_X2_get n r x0 = some q) : hm_Mi l yX2_get (Cond.code yX2_get cX2_get 2 (some .int) :: hm_W) rm_X2_get g [.ref h, .int x0] ([hm_row g h b n r] : List va_W).flatten ([hm_row g h b n r] : List va_W).flatten q := by
  refine hm_ofi [(0, .ref h), (1, .int x0)] (by decide) (own := RX2) rfl (Nat.le_of_ble_eq_true rfl) rfl rfl ?_
  intro p e s m args below meth c AA S hr hlk X ls hl
  have hx := S.1
  have hb := S.2.1
  have hown := S.2.2.2.1
  have hts := S.2.2.2.2
  unfold f_X2_get at hF
  refine lv_iload_n hx hb dX2_get_0 rfl (lv_at hl 1 rfl) ?_
  refine lv_if_lt (tgt := 30) hx hb dX2_get_1 (by decide) (fun c1 => ?_) (fun c1 => ?_)
  · have hF := hm_if hF c1
    refine lv_iconst (v := 0) hx hb dX2_get_30 (by decide) ?_
    obtain rfl := Option.some.inj hF
    exact hm_ri S hr hlk X rfl rfl dX2_get_31
  · have hF := hm_nf hF c1
    refine lv_iload_n hx hb dX2_get_4 rfl (lv_at hl 1 rfl) ?_
    refine lv_aload_n hx hb dX2_get_5 rfl (lv_at hl 0 rfl) ?_
    refine hm_get S X hf_X2_19 0 rfl rfl dX2_get_6 ?_
    refine lv_icmp_ge (tgt := 30) hx hb dX2_get_9 (by decide) (fun c9 => ?_) (fun c9 => ?_)
    · have hF := hm_if hF c9
      refine lv_iconst (v := 0) hx hb dX2_get_30 (by decide) ?_
      obtain rfl := Option.some.inj hF
      exact hm_ri S hr hlk X rfl rfl dX2_get_31
    · have hF := hm_nf hF c9
      refine lv_iload_n hx hb dX2_get_12 rfl (lv_at hl 1 rfl) ?_
      refine lv_aload_n hx hb dX2_get_13 rfl (lv_at hl 0 rfl) ?_
      refine hm_get S X hf_X2_13 0 rfl rfl dX2_get_14 ?_
      refine hm_alen (v := (nI n)) S X 1 0 rfl rfl rfl dX2_get_17 ?_
      refine lv_icmp_ge (tgt := 30) hx hb dX2_get_18 (by decide) (fun c18 => ?_) (fun c18 => ?_)
      · have hF := hm_if hF c18
        refine lv_iconst (v := 0) hx hb dX2_get_30 (by decide) ?_
        obtain rfl := Option.some.inj hF
        exact hm_ri S hr hlk X rfl rfl dX2_get_31
      · have hF := hm_nf hF c18
        refine lv_aload_n hx hb dX2_get_21 rfl (lv_at hl 0 rfl) ?_
        refine hm_get S X hf_X2_13 0 rfl rfl dX2_get_22 ?_
        refine lv_iload_n hx hb dX2_get_25 rfl (lv_at hl 1 rfl) ?_
        obtain ⟨t1, ht1, hF⟩ := hm_bd hF
        refine hm_iald S X ht1 1 rfl dX2_get_26 ?_
        refine lv_goto (tgt := 31) hx hb dX2_get_27 (by decide) ?_
        obtain rfl := Option.some.inj hF
        exact hm_ri S hr hlk X rfl rfl dX2_get_31
def f_X2_empty (r : hm_SR)  : Option (hm_SR) :=
  some ((0, r.2))
abbrev rm_X2_empty : Room := { frames := 0, cells := 0, slots := 0, locals := 0 }
set_option maxHeartbeats 4000000 in
set_option maxRecDepth 100000 in
theorem c_X2_empty (l : Launch) (g : hm_G) (h b n : Nat) (r : hm_SR) (q : hm_SR) (hF : f_X2_empty r = some q) : hm_Mv l yX2_empty (Cond.code yX2_empty cX2_empty 1 none :: hm_W) rm_X2_empty g [.ref h] ([hm_row g h b n r] : List va_W).flatten ([hm_row g h b n q] : List va_W).flatten := by
  refine hm_ofv [(0, .ref h)] (by decide) (own := RX2) rfl (Nat.le_of_ble_eq_true rfl) rfl rfl ?_
  intro p e s m args below meth c AA S hr hlk X ls hl
  have hx := S.1
  have hb := S.2.1
  have hown := S.2.2.2.1
  have hts := S.2.2.2.2
  unfold f_X2_empty at hF
  refine lv_aload_n hx hb dX2_empty_0 rfl (lv_at hl 0 rfl) ?_
  refine lv_iconst (v := 0) hx hb dX2_empty_1 (by decide) ?_
  refine hm_put S X hf_X2_19 hg_X2_size 0 rfl rfl rfl (Nat.le_of_ble_eq_true rfl) dX2_empty_2 (fun H locs X => ?_)
  have X := X.to (ws' := ([hm_row g h b n (0, r.2)] : List va_W).flatten) rfl
  obtain rfl := Option.some.inj hF
  exact hm_rv S hr hlk X rfl dX2_empty_5
def f_X2_add (n : Nat) (r : hm_SR) (x0 : Int32)  : Option (Int32 × hm_SR) :=
  if r.1 < 0 then (
  some (0, r))
  else (
  if r.1 < (nI n) then (
  (hm_wr n r.2 r.1 x0).bind fun f1 =>
  some (1, ((r.1 + 1), f1)))
  else (
  some (0, r)))
abbrev rm_X2_add : Room := { frames := 0, cells := 0, slots := 0, locals := 0 }
set_option maxHeartbeats 4000000 in
set_option maxRecDepth 100000 in
theorem c_X2_add (l : Launch) (g : hm_G) (h b n : Nat) (r : hm_SR) (x0 : Int32) (q : Int32 × hm_SR) (hF : f_X2_add n r x0 = some q) : hm_Mi l yX2_add (Cond.code yX2_add cX2_add 2 (some .boolean) :: hm_W) rm_X2_add g [.ref h, .int x0] ([hm_row g h b n r] : List va_W).flatten ([hm_row g h b n q.2] : List va_W).flatten q.1 := by
  refine hm_ofi [(0, .ref h), (1, .int x0)] (by decide) (own := RX2) rfl (Nat.le_of_ble_eq_true rfl) rfl rfl ?_
  intro p e s m args below meth c AA S hr hlk X ls hl
  have hx := S.1
  have hb := S.2.1
  have hown := S.2.2.2.1
  have hts := S.2.2.2.2
  unfold f_X2_add at hF
  refine lv_aload_n hx hb dX2_add_0 rfl (lv_at hl 0 rfl) ?_
  refine hm_get S X hf_X2_19 0 rfl rfl dX2_add_1 ?_
  refine lv_if_lt (tgt := 19) hx hb dX2_add_4 (by decide) (fun c4 => ?_) (fun c4 => ?_)
  · have hF := hm_if hF c4
    refine lv_iconst (v := 0) hx hb dX2_add_19 (by decide) ?_
    obtain rfl := Option.some.inj hF
    exact hm_rz S hr hlk X rfl rfl (Or.inl rfl) dX2_add_20
  · have hF := hm_nf hF c4
    refine lv_aload_n hx hb dX2_add_7 rfl (lv_at hl 0 rfl) ?_
    refine hm_get S X hf_X2_19 0 rfl rfl dX2_add_8 ?_
    refine lv_aload_n hx hb dX2_add_11 rfl (lv_at hl 0 rfl) ?_
    refine hm_get S X hf_X2_13 0 rfl rfl dX2_add_12 ?_
    refine hm_alen (v := (nI n)) S X 1 0 rfl rfl rfl dX2_add_15 ?_
    refine lv_icmp_lt (tgt := 21) hx hb dX2_add_16 (by decide) (fun c16 => ?_) (fun c16 => ?_)
    · have hF := hm_if hF c16
      refine lv_aload_n hx hb dX2_add_21 rfl (lv_at hl 0 rfl) ?_
      refine hm_get S X hf_X2_13 0 rfl rfl dX2_add_22 ?_
      refine lv_aload_n hx hb dX2_add_25 rfl (lv_at hl 0 rfl) ?_
      refine hm_get S X hf_X2_19 0 rfl rfl dX2_add_26 ?_
      refine lv_iload_n hx hb dX2_add_29 rfl (lv_at hl 1 rfl) ?_
      obtain ⟨f1, hf1, hF⟩ := hm_bd hF
      refine hm_iast S X hf1 1 rfl dX2_add_30 (fun H locs X => ?_)
      have X := X.to (ws' := ([hm_row g h b n (r.1, f1)] : List va_W).flatten) rfl
      refine lv_aload_n hx hb dX2_add_31 rfl (lv_at hl 0 rfl) ?_
      refine lv_dup hx hb dX2_add_32 rfl ?_
      refine hm_get S X hf_X2_19 0 rfl rfl dX2_add_33 ?_
      refine lv_iconst (v := 1) hx hb dX2_add_36 (by decide) ?_
      refine lv_iadd hx hb dX2_add_37 ?_
      refine hm_put S X hf_X2_19 hg_X2_size 0 rfl rfl rfl (Nat.le_of_ble_eq_true rfl) dX2_add_38 (fun H locs X => ?_)
      have X := X.to (ws' := ([hm_row g h b n ((r.1 + 1), f1)] : List va_W).flatten) rfl
      refine lv_iconst (v := 1) hx hb dX2_add_41 (by decide) ?_
      obtain rfl := Option.some.inj hF
      exact hm_rz S hr hlk X rfl rfl (Or.inr rfl) dX2_add_42
    · have hF := hm_nf hF c16
      refine lv_iconst (v := 0) hx hb dX2_add_19 (by decide) ?_
      obtain rfl := Option.some.inj hF
      exact hm_rz S hr hlk X rfl rfl (Or.inl rfl) dX2_add_20
def f_X2_set (n : Nat) (r : hm_SR) (x0 : Int32) (x1 : Int32)  : Option (hm_SR) :=
  if x0 < 0 then (
  some (r))
  else (
  if r.1 ≤ x0 then (
  some (r))
  else (
  if (nI n) ≤ x0 then (
  some (r))
  else (
  (hm_wr n r.2 x0 x1).bind fun f1 =>
  some ((r.1, f1)))))
abbrev rm_X2_set : Room := { frames := 0, cells := 0, slots := 0, locals := 0 }
set_option maxHeartbeats 4000000 in
set_option maxRecDepth 100000 in
theorem c_X2_set (l : Launch) (g : hm_G) (h b n : Nat) (r : hm_SR) (x0 : Int32) (x1 : Int32) (q : hm_SR) (hF : f_X2_set n r x0 x1 = some q) : hm_Mv l yX2_set (Cond.code yX2_set cX2_set 3 none :: hm_W) rm_X2_set g [.ref h, .int x0, .int x1] ([hm_row g h b n r] : List va_W).flatten ([hm_row g h b n q] : List va_W).flatten := by
  refine hm_ofv [(0, .ref h), (1, .int x0), (2, .int x1)] (by decide) (own := RX2) rfl (Nat.le_of_ble_eq_true rfl) rfl rfl ?_
  intro p e s m args below meth c AA S hr hlk X ls hl
  have hx := S.1
  have hb := S.2.1
  have hown := S.2.2.2.1
  have hts := S.2.2.2.2
  unfold f_X2_set at hF
  refine lv_iload_n hx hb dX2_set_0 rfl (lv_at hl 1 rfl) ?_
  refine lv_if_lt (tgt := 28) hx hb dX2_set_1 (by decide) (fun c1 => ?_) (fun c1 => ?_)
  · have hF := hm_if hF c1
    obtain rfl := Option.some.inj hF
    exact hm_rv S hr hlk X rfl dX2_set_28
  · have hF := hm_nf hF c1
    refine lv_iload_n hx hb dX2_set_4 rfl (lv_at hl 1 rfl) ?_
    refine lv_aload_n hx hb dX2_set_5 rfl (lv_at hl 0 rfl) ?_
    refine hm_get S X hf_X2_19 0 rfl rfl dX2_set_6 ?_
    refine lv_icmp_ge (tgt := 28) hx hb dX2_set_9 (by decide) (fun c9 => ?_) (fun c9 => ?_)
    · have hF := hm_if hF c9
      obtain rfl := Option.some.inj hF
      exact hm_rv S hr hlk X rfl dX2_set_28
    · have hF := hm_nf hF c9
      refine lv_iload_n hx hb dX2_set_12 rfl (lv_at hl 1 rfl) ?_
      refine lv_aload_n hx hb dX2_set_13 rfl (lv_at hl 0 rfl) ?_
      refine hm_get S X hf_X2_13 0 rfl rfl dX2_set_14 ?_
      refine hm_alen (v := (nI n)) S X 1 0 rfl rfl rfl dX2_set_17 ?_
      refine lv_icmp_ge (tgt := 28) hx hb dX2_set_18 (by decide) (fun c18 => ?_) (fun c18 => ?_)
      · have hF := hm_if hF c18
        obtain rfl := Option.some.inj hF
        exact hm_rv S hr hlk X rfl dX2_set_28
      · have hF := hm_nf hF c18
        refine lv_aload_n hx hb dX2_set_21 rfl (lv_at hl 0 rfl) ?_
        refine hm_get S X hf_X2_13 0 rfl rfl dX2_set_22 ?_
        refine lv_iload_n hx hb dX2_set_25 rfl (lv_at hl 1 rfl) ?_
        refine lv_iload_n hx hb dX2_set_26 rfl (lv_at hl 2 rfl) ?_
        obtain ⟨f1, hf1, hF⟩ := hm_bd hF
        refine hm_iast S X hf1 1 rfl dX2_set_27 (fun H locs X => ?_)
        have X := X.to (ws' := ([hm_row g h b n (r.1, f1)] : List va_W).flatten) rfl
        obtain rfl := Option.some.inj hF
        exact hm_rv S hr hlk X rfl dX2_set_28
def f_X2_drop (r : hm_SR)  : Option (hm_SR) :=
  if r.1 ≤ 0 then (
  some (r))
  else (
  some (((r.1 - 1), r.2)))
abbrev rm_X2_drop : Room := { frames := 0, cells := 0, slots := 0, locals := 0 }
set_option maxHeartbeats 4000000 in
set_option maxRecDepth 100000 in
theorem c_X2_drop (l : Launch) (g : hm_G) (h b n : Nat) (r : hm_SR) (q : hm_SR) (hF : f_X2_drop r = some q) : hm_Mv l yX2_drop (Cond.code yX2_drop cX2_drop 1 none :: hm_W) rm_X2_drop g [.ref h] ([hm_row g h b n r] : List va_W).flatten ([hm_row g h b n q] : List va_W).flatten := by
  refine hm_ofv [(0, .ref h)] (by decide) (own := RX2) rfl (Nat.le_of_ble_eq_true rfl) rfl rfl ?_
  intro p e s m args below meth c AA S hr hlk X ls hl
  have hx := S.1
  have hb := S.2.1
  have hown := S.2.2.2.1
  have hts := S.2.2.2.2
  unfold f_X2_drop at hF
  refine lv_aload_n hx hb dX2_drop_0 rfl (lv_at hl 0 rfl) ?_
  refine hm_get S X hf_X2_19 0 rfl rfl dX2_drop_1 ?_
  refine lv_if_le (tgt := 17) hx hb dX2_drop_4 (by decide) (fun c4 => ?_) (fun c4 => ?_)
  · have hF := hm_if hF c4
    obtain rfl := Option.some.inj hF
    exact hm_rv S hr hlk X rfl dX2_drop_17
  · have hF := hm_nf hF c4
    refine lv_aload_n hx hb dX2_drop_7 rfl (lv_at hl 0 rfl) ?_
    refine lv_dup hx hb dX2_drop_8 rfl ?_
    refine hm_get S X hf_X2_19 0 rfl rfl dX2_drop_9 ?_
    refine lv_iconst (v := 1) hx hb dX2_drop_12 (by decide) ?_
    refine lv_isub hx hb dX2_drop_13 ?_
    refine hm_put S X hf_X2_19 hg_X2_size 0 rfl rfl rfl (Nat.le_of_ble_eq_true rfl) dX2_drop_14 (fun H locs X => ?_)
    have X := X.to (ws' := ([hm_row g h b n ((r.1 - 1), r.2)] : List va_W).flatten) rfl
    obtain rfl := Option.some.inj hF
    exact hm_rv S hr hlk X rfl dX2_drop_17
def f_X2_dropFirst_l28  (wself_0 : hm_SR) : Option (hm_SR) :=
  (f_X2_drop wself_0).bind fun t1 =>
  some (t1)
def f_X2_dropFirst_l2 (n : Nat) : Nat → Int32 → hm_SR → Option (hm_SR)
  | 0, _, _ => none
  | k + 1, v1, wself_0 =>
  if wself_0.1 ≤ v1 then (
  f_X2_dropFirst_l28 wself_0)
  else (
  (f_X2_get n wself_0 v1).bind fun t2 =>
  (f_X2_set n wself_0 (v1 - 1) t2).bind fun t3 =>
  f_X2_dropFirst_l2 n k (v1 + 1) t3)
theorem f_X2_dropFirst_l2_s (n : Nat) (k : Nat) (v1 : Int32) (wself_0 : hm_SR) : f_X2_dropFirst_l2 n (k + 1) v1 wself_0 =
  if wself_0.1 ≤ v1 then (
  f_X2_dropFirst_l28 wself_0)
  else (
  (f_X2_get n wself_0 v1).bind fun t2 =>
  (f_X2_set n wself_0 (v1 - 1) t2).bind fun t3 =>
  f_X2_dropFirst_l2 n k (v1 + 1) t3) := rfl
theorem f_X2_dropFirst_l2_z (n : Nat) (v1 : Int32) (wself_0 : hm_SR) : f_X2_dropFirst_l2 n 0 v1 wself_0 = none := rfl
def f_X2_dropFirst (n : Nat) (r : hm_SR)  : Option (hm_SR) :=
  f_X2_dropFirst_l2 n hm_fu 1 r
abbrev rm_X2_dropFirst : Room := { frames := 1, cells := 0, slots := 0, locals := 22 }
set_option maxHeartbeats 4000000 in
set_option maxRecDepth 100000 in
theorem c_X2_dropFirst (l : Launch) (g : hm_G) (h b n : Nat) (r : hm_SR) (q : hm_SR) (hF : f_X2_dropFirst n r = some q) : hm_Mv l yX2_dropFirst (Cond.code yX2_dropFirst cX2_dropFirst 2 none :: hm_W) rm_X2_dropFirst g [.ref h] ([hm_row g h b n r] : List va_W).flatten ([hm_row g h b n q] : List va_W).flatten := by
  refine hm_ofv [(0, .ref h)] (by decide) (own := RX2) rfl (Nat.le_of_ble_eq_true rfl) rfl rfl ?_
  intro p e s m args below meth c AA S hr hlk X ls hl
  have hx := S.1
  have hb := S.2.1
  have hown := S.2.2.2.1
  have hts := S.2.2.2.2
  have hl28 : ∀ (wself_0 : hm_SR), f_X2_dropFirst_l28 wself_0 = some q → ∀ (H : Heap) (locs : List Loc), hm_X g AA s H locs ([hm_row g h b n wself_0] : List va_W).flatten → ∀ ls : Array Slot, lv_has ls 2 [(0, .ref h)] → W p l e rm_X2_dropFirst s m args below meth c H locs 0 0 (MQ below (hm_Qv g AA ([hm_row g h b n q] : List va_W).flatten) args s 0 0 AA) (F0 m 28 ls []) := by
    intro wself_0 hF H locs X ls hl
    unfold f_X2_dropFirst_l28 at hF
    refine lv_aload_n hx hb dX2_dropFirst_28 rfl (lv_at hl 0 rfl) ?_
    obtain ⟨t1, ht1, hF⟩ := hm_bd hF
    refine hm_vv (As := []) S X mw_X2_drop hw_2_177 (c_X2_drop l g h b n wself_0 t1 ht1) (hm_cp [0] [] rfl rfl rfl) (hm_cp (bs := [hm_row g h b n t1]) [0] [] rfl rfl rfl) rfl rfl rfl ⟨rfl, rfl, Nat.le_of_ble_eq_true rfl, Nat.le_of_ble_eq_true rfl⟩ rfl hl.1 rfl (Nat.le_of_ble_eq_true rfl) dX2_dropFirst_29 ⟨Nat.zero_le _, Nat.zero_le _⟩ (fun H locs X => ?_)
    have X := X.to (ws' := ([hm_row g h b n t1] : List va_W).flatten) rfl
    obtain rfl := Option.some.inj hF
    exact hm_rv S hr hlk X rfl dX2_dropFirst_32
  have hl2 : ∀ (k2 : Nat) (v1 : Int32) (wself_0 : hm_SR), f_X2_dropFirst_l2 n k2 v1 wself_0 = some q → ∀ (H : Heap) (locs : List Loc), hm_X g AA s H locs ([hm_row g h b n wself_0] : List va_W).flatten → ∀ ls : Array Slot, lv_has ls 2 [(0, .ref h), (1, .int v1)] → W p l e rm_X2_dropFirst s m args below meth c H locs 0 0 (MQ below (hm_Qv g AA ([hm_row g h b n q] : List va_W).flatten) args s 0 0 AA) (F0 m 2 ls []) := by
    intro k2
    induction k2 with
    | zero =>
      intro v1 wself_0 hF
      rw [f_X2_dropFirst_l2_z] at hF
      cases hF
    | succ k2 ih2 =>
      intro v1 wself_0 hF H locs X ls hl
      rw [f_X2_dropFirst_l2_s] at hF
      refine lv_iload_n hx hb dX2_dropFirst_2 rfl (lv_at hl 1 rfl) ?_
      refine lv_aload_n hx hb dX2_dropFirst_3 rfl (lv_at hl 0 rfl) ?_
      refine hm_get S X hf_X2_19 0 rfl rfl dX2_dropFirst_4 ?_
      refine lv_icmp_ge (tgt := 28) hx hb dX2_dropFirst_7 (by decide) (fun c7 => ?_) (fun c7 => ?_)
      · have hF := hm_if hF c7
        exact hl28 wself_0 hF _ _ X _ (lv_sub hl [0] rfl)
      · have hF := hm_nf hF c7
        refine lv_aload_n hx hb dX2_dropFirst_10 rfl (lv_at hl 0 rfl) ?_
        refine lv_iload_n hx hb dX2_dropFirst_11 rfl (lv_at hl 1 rfl) ?_
        refine lv_iconst (v := 1) hx hb dX2_dropFirst_12 (by decide) ?_
        refine lv_isub hx hb dX2_dropFirst_13 ?_
        refine lv_aload_n hx hb dX2_dropFirst_14 rfl (lv_at hl 0 rfl) ?_
        refine lv_iload_n hx hb dX2_dropFirst_15 rfl (lv_at hl 1 rfl) ?_
        obtain ⟨t2, ht2, hF⟩ := hm_bd hF
        refine hm_vi (As := [.int v1]) S X mw_X2_get hw_2_172 (c_X2_get l g h b n wself_0 v1 t2 ht2) (hm_cp [0] [] rfl rfl rfl) (hm_cp (bs := [hm_row g h b n wself_0]) [0] [] rfl rfl rfl) rfl rfl rfl ⟨rfl, rfl, Nat.le_of_ble_eq_true rfl, Nat.le_of_ble_eq_true rfl⟩ rfl hl.1 rfl (Nat.le_of_ble_eq_true rfl) dX2_dropFirst_16 ⟨Nat.zero_le _, Nat.zero_le _⟩ (fun H locs X => ?_)
        have X := X.to (ws' := ([hm_row g h b n wself_0] : List va_W).flatten) rfl
        obtain ⟨t3, ht3, hF⟩ := hm_bd hF
        refine hm_vv (As := [.int (v1 - 1), .int t2]) S X mw_X2_set hw_2_173 (c_X2_set l g h b n wself_0 (v1 - 1) t2 t3 ht3) (hm_cp [0] [] rfl rfl rfl) (hm_cp (bs := [hm_row g h b n t3]) [0] [] rfl rfl rfl) rfl rfl rfl ⟨rfl, rfl, Nat.le_of_ble_eq_true rfl, Nat.le_of_ble_eq_true rfl⟩ rfl hl.1 rfl (Nat.le_of_ble_eq_true rfl) dX2_dropFirst_19 ⟨Nat.zero_le _, Nat.zero_le _⟩ (fun H locs X => ?_)
        have X := X.to (ws' := ([hm_row g h b n t3] : List va_W).flatten) rfl
        refine lv_iinc (v := (v1 + 1)) (lv' := [(1, .int (v1 + 1)), (0, .ref h)]) hx hb dX2_dropFirst_22 hl (k := 1) rfl rfl (by decide) rfl (fun ls hl => ?_)
        refine lv_goto (tgt := 2) hx hb dX2_dropFirst_25 (by decide) ?_
        exact ih2 (v1 + 1) t3 hF _ _ X _ (lv_sub hl [1, 0] rfl)
  unfold f_X2_dropFirst at hF
  refine lv_iconst (v := 1) hx hb dX2_dropFirst_0 (by decide) ?_
  refine lv_istore_n (lv' := [(1, .int 1), (0, .ref h)]) hx hb dX2_dropFirst_1 rfl hl (by decide) rfl (fun ls hl => ?_)
  exact hl2 hm_fu 1 r hF _ _ X _ (lv_sub hl [1, 0] rfl)
end
