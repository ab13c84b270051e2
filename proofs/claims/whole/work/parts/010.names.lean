-- ===== PART A: goes FIRST, ahead of the names: the tables' words, and 'selects' of the private methods out of them =====
/-- a private method of a class that the tables say can be made, by its rows of tables_1 -/
def lw_okq (q : MethodName × Nat) : Prop := (q.1.cls ≠ "java/lang/invoke/MethodHandle" ∧ q.1.cls ≠ "java/lang/invoke/VarHandle") ∧ Cond.instantiable q.1.cls q.2 ∈ tables_1 ∧ Cond.privateMethod q.1 ∈ tables_1 ∧ Cond.instanceMethod q.1 ∈ tables_1
theorem lw_p0 : lw_okq (⟨"HungMargins$Settings", "store", "(II)V"⟩, 5) := ⟨⟨by decide +kernel, by decide +kernel⟩, List.mem_of_getElem? (i := 77) (by decide +kernel), List.mem_of_getElem? (i := 89) (by decide +kernel), List.mem_of_getElem? (i := 90) (by decide +kernel)⟩
theorem lw_p1 : lw_okq (⟨"HungMargins$Settings", "loseUndone", "()V"⟩, 5) := ⟨⟨by decide +kernel, by decide +kernel⟩, List.mem_of_getElem? (i := 77) (by decide +kernel), List.mem_of_getElem? (i := 95) (by decide +kernel), List.mem_of_getElem? (i := 96) (by decide +kernel)⟩
theorem lw_p2 : lw_okq (⟨"HungMargins$Script", "forgetAll", "()V"⟩, 10) := ⟨⟨by decide +kernel, by decide +kernel⟩, List.mem_of_getElem? (i := 38) (by decide +kernel), List.mem_of_getElem? (i := 306) (by decide +kernel), List.mem_of_getElem? (i := 307) (by decide +kernel)⟩
theorem lw_p3 : lw_okq (⟨"HungMargins$Script", "addPlace", "(I)V"⟩, 10) := ⟨⟨by decide +kernel, by decide +kernel⟩, List.mem_of_getElem? (i := 38) (by decide +kernel), List.mem_of_getElem? (i := 314) (by decide +kernel), List.mem_of_getElem? (i := 315) (by decide +kernel)⟩
theorem lw_p4 : lw_okq (⟨"HungMargins$Script", "endWord", "()V"⟩, 10) := ⟨⟨by decide +kernel, by decide +kernel⟩, List.mem_of_getElem? (i := 38) (by decide +kernel), List.mem_of_getElem? (i := 325) (by decide +kernel), List.mem_of_getElem? (i := 326) (by decide +kernel)⟩
theorem lw_p5 : lw_okq (⟨"HungMargins$Script", "firstLike", "(I)I"⟩, 10) := ⟨⟨by decide +kernel, by decide +kernel⟩, List.mem_of_getElem? (i := 38) (by decide +kernel), List.mem_of_getElem? (i := 333) (by decide +kernel), List.mem_of_getElem? (i := 334) (by decide +kernel)⟩
theorem lw_p6 : lw_okq (⟨"HungMargins$Script", "areSpelledAlike", "(II)Z"⟩, 10) := ⟨⟨by decide +kernel, by decide +kernel⟩, List.mem_of_getElem? (i := 38) (by decide +kernel), List.mem_of_getElem? (i := 337) (by decide +kernel), List.mem_of_getElem? (i := 338) (by decide +kernel)⟩
theorem lw_p7 : lw_okq (⟨"HungMargins", "isPlace", "(I)Z"⟩, 12) := ⟨⟨by decide +kernel, by decide +kernel⟩, List.mem_of_getElem? (i := 13) (by decide +kernel), List.mem_of_getElem? (i := 375) (by decide +kernel), List.mem_of_getElem? (i := 376) (by decide +kernel)⟩
theorem lw_p8 : lw_okq (⟨"HungMargins", "change", "(II)I"⟩, 12) := ⟨⟨by decide +kernel, by decide +kernel⟩, List.mem_of_getElem? (i := 13) (by decide +kernel), List.mem_of_getElem? (i := 396) (by decide +kernel), List.mem_of_getElem? (i := 397) (by decide +kernel)⟩
theorem lw_p9 : lw_okq (⟨"HungMargins", "markStale", "(I)V"⟩, 12) := ⟨⟨by decide +kernel, by decide +kernel⟩, List.mem_of_getElem? (i := 13) (by decide +kernel), List.mem_of_getElem? (i := 424) (by decide +kernel), List.mem_of_getElem? (i := 425) (by decide +kernel)⟩
theorem lw_p10 : lw_okq (⟨"HungMargins", "freshen", "()V"⟩, 12) := ⟨⟨by decide +kernel, by decide +kernel⟩, List.mem_of_getElem? (i := 13) (by decide +kernel), List.mem_of_getElem? (i := 461) (by decide +kernel), List.mem_of_getElem? (i := 462) (by decide +kernel)⟩
theorem lw_p11 : lw_okq (⟨"HungMargins$Lengths", "takeWord", "(LHungMargins$Script;LHungMargins$Settings;II)I"⟩, 9) := ⟨⟨by decide +kernel, by decide +kernel⟩, List.mem_of_getElem? (i := 120) (by decide +kernel), List.mem_of_getElem? (i := 473) (by decide +kernel), List.mem_of_getElem? (i := 474) (by decide +kernel)⟩
theorem lw_p12 : lw_okq (⟨"HungMargins$Lengths", "addPlace", "(IIIII)V"⟩, 9) := ⟨⟨by decide +kernel, by decide +kernel⟩, List.mem_of_getElem? (i := 120) (by decide +kernel), List.mem_of_getElem? (i := 489) (by decide +kernel), List.mem_of_getElem? (i := 490) (by decide +kernel)⟩
theorem lw_p13 : lw_okq (⟨"HungMargins$Breaker", "chooseEnd", "(LHungMargins$Lengths;III)V"⟩, 3) := ⟨⟨by decide +kernel, by decide +kernel⟩, List.mem_of_getElem? (i := 156) (by decide +kernel), List.mem_of_getElem? (i := 506) (by decide +kernel), List.mem_of_getElem? (i := 507) (by decide +kernel)⟩
theorem lw_p14 : lw_okq (⟨"HungMargins$Sheet", "setLine", "(LHungMargins$Lengths;II)V"⟩, 8) := ⟨⟨by decide +kernel, by decide +kernel⟩, List.mem_of_getElem? (i := 172) (by decide +kernel), List.mem_of_getElem? (i := 545) (by decide +kernel), List.mem_of_getElem? (i := 546) (by decide +kernel)⟩
theorem lw_p15 : lw_okq (⟨"HungMargins$Sheet", "addBlank", "(II)V"⟩, 8) := ⟨⟨by decide +kernel, by decide +kernel⟩, List.mem_of_getElem? (i := 172) (by decide +kernel), List.mem_of_getElem? (i := 573) (by decide +kernel), List.mem_of_getElem? (i := 574) (by decide +kernel)⟩
def lw_privs_1 : List (MethodName × Nat) := [(⟨"HungMargins$Settings", "store", "(II)V"⟩, 5), (⟨"HungMargins$Settings", "loseUndone", "()V"⟩, 5), (⟨"HungMargins$Script", "forgetAll", "()V"⟩, 10), (⟨"HungMargins$Script", "addPlace", "(I)V"⟩, 10), (⟨"HungMargins$Script", "endWord", "()V"⟩, 10), (⟨"HungMargins$Script", "firstLike", "(I)I"⟩, 10), (⟨"HungMargins$Script", "areSpelledAlike", "(II)Z"⟩, 10), (⟨"HungMargins", "isPlace", "(I)Z"⟩, 12), (⟨"HungMargins", "change", "(II)I"⟩, 12), (⟨"HungMargins", "markStale", "(I)V"⟩, 12), (⟨"HungMargins", "freshen", "()V"⟩, 12), (⟨"HungMargins$Lengths", "takeWord", "(LHungMargins$Script;LHungMargins$Settings;II)I"⟩, 9), (⟨"HungMargins$Lengths", "addPlace", "(IIIII)V"⟩, 9), (⟨"HungMargins$Breaker", "chooseEnd", "(LHungMargins$Lengths;III)V"⟩, 3), (⟨"HungMargins$Sheet", "setLine", "(LHungMargins$Lengths;II)V"⟩, 8), (⟨"HungMargins$Sheet", "addBlank", "(II)V"⟩, 8)]
theorem lw_r1 : ∀ q ∈ lw_privs_1, lw_okq q := List.forall_mem_cons.mpr ⟨lw_p0, List.forall_mem_cons.mpr ⟨lw_p1, List.forall_mem_cons.mpr ⟨lw_p2, List.forall_mem_cons.mpr ⟨lw_p3, List.forall_mem_cons.mpr ⟨lw_p4, List.forall_mem_cons.mpr ⟨lw_p5, List.forall_mem_cons.mpr ⟨lw_p6, List.forall_mem_cons.mpr ⟨lw_p7, List.forall_mem_cons.mpr ⟨lw_p8, List.forall_mem_cons.mpr ⟨lw_p9, List.forall_mem_cons.mpr ⟨lw_p10, List.forall_mem_cons.mpr ⟨lw_p11, List.forall_mem_cons.mpr ⟨lw_p12, List.forall_mem_cons.mpr ⟨lw_p13, List.forall_mem_cons.mpr ⟨lw_p14, List.forall_mem_cons.mpr ⟨lw_p15, fun _ h => absurd h List.not_mem_nil⟩⟩⟩⟩⟩⟩⟩⟩⟩⟩⟩⟩⟩⟩⟩⟩
theorem lw_p16 : lw_okq (⟨"HungMargins$Sheet", "measureRivers", "()V"⟩, 8) := ⟨⟨by decide +kernel, by decide +kernel⟩, List.mem_of_getElem? (i := 172) (by decide +kernel), List.mem_of_getElem? (i := 578) (by decide +kernel), List.mem_of_getElem? (i := 579) (by decide +kernel)⟩
theorem lw_p17 : lw_okq (⟨"HungMargins$Sheet", "longestMet", "(II)I"⟩, 8) := ⟨⟨by decide +kernel, by decide +kernel⟩, List.mem_of_getElem? (i := 172) (by decide +kernel), List.mem_of_getElem? (i := 587) (by decide +kernel), List.mem_of_getElem? (i := 588) (by decide +kernel)⟩
theorem lw_p18 : lw_okq (⟨"HungMargins$Sheet", "meet", "(II)Z"⟩, 8) := ⟨⟨by decide +kernel, by decide +kernel⟩, List.mem_of_getElem? (i := 172) (by decide +kernel), List.mem_of_getElem? (i := 591) (by decide +kernel), List.mem_of_getElem? (i := 592) (by decide +kernel)⟩
theorem lw_p19 : lw_okq (⟨"HungMargins$Sheet", "meetsAny", "(II)Z"⟩, 8) := ⟨⟨by decide +kernel, by decide +kernel⟩, List.mem_of_getElem? (i := 172) (by decide +kernel), List.mem_of_getElem? (i := 597) (by decide +kernel), List.mem_of_getElem? (i := 598) (by decide +kernel)⟩
theorem lw_p20 : lw_okq (⟨"HungMargins", "lastOfDraft", "()I"⟩, 12) := ⟨⟨by decide +kernel, by decide +kernel⟩, List.mem_of_getElem? (i := 13) (by decide +kernel), List.mem_of_getElem? (i := 679) (by decide +kernel), List.mem_of_getElem? (i := 680) (by decide +kernel)⟩
theorem lw_p21 : lw_okq (⟨"HungMargins", "firstWrongLine", "()I"⟩, 12) := ⟨⟨by decide +kernel, by decide +kernel⟩, List.mem_of_getElem? (i := 13) (by decide +kernel), List.mem_of_getElem? (i := 692) (by decide +kernel), List.mem_of_getElem? (i := 693) (by decide +kernel)⟩
theorem lw_p22 : lw_okq (⟨"HungMargins", "costOfDraft", "()I"⟩, 12) := ⟨⟨by decide +kernel, by decide +kernel⟩, List.mem_of_getElem? (i := 13) (by decide +kernel), List.mem_of_getElem? (i := 696) (by decide +kernel), List.mem_of_getElem? (i := 697) (by decide +kernel)⟩
theorem lw_p23 : lw_okq (⟨"HungMargins", "freshenSurvey", "()V"⟩, 12) := ⟨⟨by decide +kernel, by decide +kernel⟩, List.mem_of_getElem? (i := 13) (by decide +kernel), List.mem_of_getElem? (i := 704) (by decide +kernel), List.mem_of_getElem? (i := 705) (by decide +kernel)⟩
theorem lw_p24 : lw_okq (⟨"HungMargins$Survey", "note", "(ILHungMargins$Breaker;)V"⟩, 3) := ⟨⟨by decide +kernel, by decide +kernel⟩, List.mem_of_getElem? (i := 205) (by decide +kernel), List.mem_of_getElem? (i := 714) (by decide +kernel), List.mem_of_getElem? (i := 715) (by decide +kernel)⟩
theorem lw_p25 : lw_okq (⟨"HungMargins$Survey", "beginsLine", "(ILHungMargins$Script;I)Z"⟩, 3) := ⟨⟨by decide +kernel, by decide +kernel⟩, List.mem_of_getElem? (i := 205) (by decide +kernel), List.mem_of_getElem? (i := 748) (by decide +kernel), List.mem_of_getElem? (i := 749) (by decide +kernel)⟩
theorem lw_p26 : lw_okq (⟨"HungMargins$Survey", "endsAt", "(II)Z"⟩, 3) := ⟨⟨by decide +kernel, by decide +kernel⟩, List.mem_of_getElem? (i := 205) (by decide +kernel), List.mem_of_getElem? (i := 756) (by decide +kernel), List.mem_of_getElem? (i := 757) (by decide +kernel)⟩
theorem lw_p27 : lw_okq (⟨"HungMarginsModel", "begins", "()V"⟩, 37) := ⟨⟨by decide +kernel, by decide +kernel⟩, List.mem_of_getElem? (i := 788) (by decide +kernel), List.mem_of_getElem? (i := 794) (by decide +kernel), List.mem_of_getElem? (i := 795) (by decide +kernel)⟩
theorem lw_p28 : lw_okq (⟨"HungMarginsModel", "fault", "()I"⟩, 37) := ⟨⟨by decide +kernel, by decide +kernel⟩, List.mem_of_getElem? (i := 788) (by decide +kernel), List.mem_of_getElem? (i := 925) (by decide +kernel), List.mem_of_getElem? (i := 926) (by decide +kernel)⟩
theorem lw_p29 : lw_okq (⟨"HungMarginsModel", "isWholeAt", "(I)Z"⟩, 37) := ⟨⟨by decide +kernel, by decide +kernel⟩, List.mem_of_getElem? (i := 788) (by decide +kernel), List.mem_of_getElem? (i := 929) (by decide +kernel), List.mem_of_getElem? (i := 930) (by decide +kernel)⟩
theorem lw_p30 : lw_okq (⟨"HungMarginsModel", "laysPlace", "(IIZ)V"⟩, 37) := ⟨⟨by decide +kernel, by decide +kernel⟩, List.mem_of_getElem? (i := 788) (by decide +kernel), List.mem_of_getElem? (i := 939) (by decide +kernel), List.mem_of_getElem? (i := 940) (by decide +kernel)⟩
theorem lw_p31 : lw_okq (⟨"HungMarginsModel", "isWord", "(I)Z"⟩, 37) := ⟨⟨by decide +kernel, by decide +kernel⟩, List.mem_of_getElem? (i := 788) (by decide +kernel), List.mem_of_getElem? (i := 947) (by decide +kernel), List.mem_of_getElem? (i := 948) (by decide +kernel)⟩
def lw_privs_2 : List (MethodName × Nat) := [(⟨"HungMargins$Sheet", "measureRivers", "()V"⟩, 8), (⟨"HungMargins$Sheet", "longestMet", "(II)I"⟩, 8), (⟨"HungMargins$Sheet", "meet", "(II)Z"⟩, 8), (⟨"HungMargins$Sheet", "meetsAny", "(II)Z"⟩, 8), (⟨"HungMargins", "lastOfDraft", "()I"⟩, 12), (⟨"HungMargins", "firstWrongLine", "()I"⟩, 12), (⟨"HungMargins", "costOfDraft", "()I"⟩, 12), (⟨"HungMargins", "freshenSurvey", "()V"⟩, 12), (⟨"HungMargins$Survey", "note", "(ILHungMargins$Breaker;)V"⟩, 3), (⟨"HungMargins$Survey", "beginsLine", "(ILHungMargins$Script;I)Z"⟩, 3), (⟨"HungMargins$Survey", "endsAt", "(II)Z"⟩, 3), (⟨"HungMarginsModel", "begins", "()V"⟩, 37), (⟨"HungMarginsModel", "fault", "()I"⟩, 37), (⟨"HungMarginsModel", "isWholeAt", "(I)Z"⟩, 37), (⟨"HungMarginsModel", "laysPlace", "(IIZ)V"⟩, 37), (⟨"HungMarginsModel", "isWord", "(I)Z"⟩, 37)]
theorem lw_r2 : ∀ q ∈ lw_privs_2, lw_okq q := List.forall_mem_cons.mpr ⟨lw_p16, List.forall_mem_cons.mpr ⟨lw_p17, List.forall_mem_cons.mpr ⟨lw_p18, List.forall_mem_cons.mpr ⟨lw_p19, List.forall_mem_cons.mpr ⟨lw_p20, List.forall_mem_cons.mpr ⟨lw_p21, List.forall_mem_cons.mpr ⟨lw_p22, List.forall_mem_cons.mpr ⟨lw_p23, List.forall_mem_cons.mpr ⟨lw_p24, List.forall_mem_cons.mpr ⟨lw_p25, List.forall_mem_cons.mpr ⟨lw_p26, List.forall_mem_cons.mpr ⟨lw_p27, List.forall_mem_cons.mpr ⟨lw_p28, List.forall_mem_cons.mpr ⟨lw_p29, List.forall_mem_cons.mpr ⟨lw_p30, List.forall_mem_cons.mpr ⟨lw_p31, fun _ h => absurd h List.not_mem_nil⟩⟩⟩⟩⟩⟩⟩⟩⟩⟩⟩⟩⟩⟩⟩⟩
theorem lw_p32 : lw_okq (⟨"HungMarginsModel", "firstLike", "(I)I"⟩, 37) := ⟨⟨by decide +kernel, by decide +kernel⟩, List.mem_of_getElem? (i := 788) (by decide +kernel), List.mem_of_getElem? (i := 955) (by decide +kernel), List.mem_of_getElem? (i := 956) (by decide +kernel)⟩
theorem lw_p33 : lw_okq (⟨"HungMarginsModel", "areAlike", "(II)Z"⟩, 37) := ⟨⟨by decide +kernel, by decide +kernel⟩, List.mem_of_getElem? (i := 788) (by decide +kernel), List.mem_of_getElem? (i := 959) (by decide +kernel), List.mem_of_getElem? (i := 960) (by decide +kernel)⟩
theorem lw_p34 : lw_okq (⟨"HungMarginsModel", "isPlace", "(I)Z"⟩, 37) := ⟨⟨by decide +kernel, by decide +kernel⟩, List.mem_of_getElem? (i := 788) (by decide +kernel), List.mem_of_getElem? (i := 967) (by decide +kernel), List.mem_of_getElem? (i := 968) (by decide +kernel)⟩
theorem lw_p35 : lw_okq (⟨"HungMarginsModel", "becomes", "(II)I"⟩, 37) := ⟨⟨by decide +kernel, by decide +kernel⟩, List.mem_of_getElem? (i := 788) (by decide +kernel), List.mem_of_getElem? (i := 978) (by decide +kernel), List.mem_of_getElem? (i := 979) (by decide +kernel)⟩
theorem lw_p36 : lw_okq (⟨"HungMarginsModel", "notes", "()V"⟩, 37) := ⟨⟨by decide +kernel, by decide +kernel⟩, List.mem_of_getElem? (i := 788) (by decide +kernel), List.mem_of_getElem? (i := 982) (by decide +kernel), List.mem_of_getElem? (i := 983) (by decide +kernel)⟩
theorem lw_p37 : lw_okq (⟨"HungMarginsModel", "laysPage", "(I)Z"⟩, 37) := ⟨⟨by decide +kernel, by decide +kernel⟩, List.mem_of_getElem? (i := 788) (by decide +kernel), List.mem_of_getElem? (i := 1002) (by decide +kernel), List.mem_of_getElem? (i := 1003) (by decide +kernel)⟩
theorem lw_p38 : lw_okq (⟨"HungMarginsModel", "sums", "()V"⟩, 37) := ⟨⟨by decide +kernel, by decide +kernel⟩, List.mem_of_getElem? (i := 788) (by decide +kernel), List.mem_of_getElem? (i := 1006) (by decide +kernel), List.mem_of_getElem? (i := 1007) (by decide +kernel)⟩
theorem lw_p39 : lw_okq (⟨"HungMarginsModel", "looksFrom", "(II)V"⟩, 37) := ⟨⟨by decide +kernel, by decide +kernel⟩, List.mem_of_getElem? (i := 788) (by decide +kernel), List.mem_of_getElem? (i := 1010) (by decide +kernel), List.mem_of_getElem? (i := 1011) (by decide +kernel)⟩
theorem lw_p40 : lw_okq (⟨"HungMarginsModel", "left", "(III)I"⟩, 37) := ⟨⟨by decide +kernel, by decide +kernel⟩, List.mem_of_getElem? (i := 788) (by decide +kernel), List.mem_of_getElem? (i := 1014) (by decide +kernel), List.mem_of_getElem? (i := 1015) (by decide +kernel)⟩
theorem lw_p41 : lw_okq (⟨"HungMarginsModel", "hung", "(I)I"⟩, 37) := ⟨⟨by decide +kernel, by decide +kernel⟩, List.mem_of_getElem? (i := 788) (by decide +kernel), List.mem_of_getElem? (i := 1018) (by decide +kernel), List.mem_of_getElem? (i := 1019) (by decide +kernel)⟩
theorem lw_p42 : lw_okq (⟨"HungMarginsModel", "natural", "(II)I"⟩, 37) := ⟨⟨by decide +kernel, by decide +kernel⟩, List.mem_of_getElem? (i := 788) (by decide +kernel), List.mem_of_getElem? (i := 1022) (by decide +kernel), List.mem_of_getElem? (i := 1023) (by decide +kernel)⟩
theorem lw_p43 : lw_okq (⟨"HungMarginsModel", "firstWord", "(I)I"⟩, 37) := ⟨⟨by decide +kernel, by decide +kernel⟩, List.mem_of_getElem? (i := 788) (by decide +kernel), List.mem_of_getElem? (i := 1026) (by decide +kernel), List.mem_of_getElem? (i := 1027) (by decide +kernel)⟩
theorem lw_p44 : lw_okq (⟨"HungMarginsModel", "firstLetter", "(I)I"⟩, 37) := ⟨⟨by decide +kernel, by decide +kernel⟩, List.mem_of_getElem? (i := 788) (by decide +kernel), List.mem_of_getElem? (i := 1030) (by decide +kernel), List.mem_of_getElem? (i := 1031) (by decide +kernel)⟩
theorem lw_p45 : lw_okq (⟨"HungMarginsModel", "costOf", "(III)I"⟩, 37) := ⟨⟨by decide +kernel, by decide +kernel⟩, List.mem_of_getElem? (i := 788) (by decide +kernel), List.mem_of_getElem? (i := 1034) (by decide +kernel), List.mem_of_getElem? (i := 1035) (by decide +kernel)⟩
theorem lw_p46 : lw_okq (⟨"HungMarginsModel", "rough", "()I"⟩, 37) := ⟨⟨by decide +kernel, by decide +kernel⟩, List.mem_of_getElem? (i := 788) (by decide +kernel), List.mem_of_getElem? (i := 1038) (by decide +kernel), List.mem_of_getElem? (i := 1039) (by decide +kernel)⟩
theorem lw_p47 : lw_okq (⟨"HungMarginsModel", "endOf", "(I)I"⟩, 37) := ⟨⟨by decide +kernel, by decide +kernel⟩, List.mem_of_getElem? (i := 788) (by decide +kernel), List.mem_of_getElem? (i := 1042) (by decide +kernel), List.mem_of_getElem? (i := 1043) (by decide +kernel)⟩
def lw_privs_3 : List (MethodName × Nat) := [(⟨"HungMarginsModel", "firstLike", "(I)I"⟩, 37), (⟨"HungMarginsModel", "areAlike", "(II)Z"⟩, 37), (⟨"HungMarginsModel", "isPlace", "(I)Z"⟩, 37), (⟨"HungMarginsModel", "becomes", "(II)I"⟩, 37), (⟨"HungMarginsModel", "notes", "()V"⟩, 37), (⟨"HungMarginsModel", "laysPage", "(I)Z"⟩, 37), (⟨"HungMarginsModel", "sums", "()V"⟩, 37), (⟨"HungMarginsModel", "looksFrom", "(II)V"⟩, 37), (⟨"HungMarginsModel", "left", "(III)I"⟩, 37), (⟨"HungMarginsModel", "hung", "(I)I"⟩, 37), (⟨"HungMarginsModel", "natural", "(II)I"⟩, 37), (⟨"HungMarginsModel", "firstWord", "(I)I"⟩, 37), (⟨"HungMarginsModel", "firstLetter", "(I)I"⟩, 37), (⟨"HungMarginsModel", "costOf", "(III)I"⟩, 37), (⟨"HungMarginsModel", "rough", "()I"⟩, 37), (⟨"HungMarginsModel", "endOf", "(I)I"⟩, 37)]
theorem lw_r3 : ∀ q ∈ lw_privs_3, lw_okq q := List.forall_mem_cons.mpr ⟨lw_p32, List.forall_mem_cons.mpr ⟨lw_p33, List.forall_mem_cons.mpr ⟨lw_p34, List.forall_mem_cons.mpr ⟨lw_p35, List.forall_mem_cons.mpr ⟨lw_p36, List.forall_mem_cons.mpr ⟨lw_p37, List.forall_mem_cons.mpr ⟨lw_p38, List.forall_mem_cons.mpr ⟨lw_p39, List.forall_mem_cons.mpr ⟨lw_p40, List.forall_mem_cons.mpr ⟨lw_p41, List.forall_mem_cons.mpr ⟨lw_p42, List.forall_mem_cons.mpr ⟨lw_p43, List.forall_mem_cons.mpr ⟨lw_p44, List.forall_mem_cons.mpr ⟨lw_p45, List.forall_mem_cons.mpr ⟨lw_p46, List.forall_mem_cons.mpr ⟨lw_p47, fun _ h => absurd h List.not_mem_nil⟩⟩⟩⟩⟩⟩⟩⟩⟩⟩⟩⟩⟩⟩⟩⟩
theorem lw_p48 : lw_okq (⟨"HungMarginsModel", "before", "(I)I"⟩, 37) := ⟨⟨by decide +kernel, by decide +kernel⟩, List.mem_of_getElem? (i := 788) (by decide +kernel), List.mem_of_getElem? (i := 1046) (by decide +kernel), List.mem_of_getElem? (i := 1047) (by decide +kernel)⟩
theorem lw_p49 : lw_okq (⟨"HungMarginsModel", "isGiving", "(I)Z"⟩, 37) := ⟨⟨by decide +kernel, by decide +kernel⟩, List.mem_of_getElem? (i := 788) (by decide +kernel), List.mem_of_getElem? (i := 1050) (by decide +kernel), List.mem_of_getElem? (i := 1051) (by decide +kernel)⟩
theorem lw_p50 : lw_okq (⟨"HungMarginsModel", "blanksOf", "(I)I"⟩, 37) := ⟨⟨by decide +kernel, by decide +kernel⟩, List.mem_of_getElem? (i := 788) (by decide +kernel), List.mem_of_getElem? (i := 1054) (by decide +kernel), List.mem_of_getElem? (i := 1055) (by decide +kernel)⟩
theorem lw_p51 : lw_okq (⟨"HungMarginsModel", "leftIn", "(I)I"⟩, 37) := ⟨⟨by decide +kernel, by decide +kernel⟩, List.mem_of_getElem? (i := 788) (by decide +kernel), List.mem_of_getElem? (i := 1058) (by decide +kernel), List.mem_of_getElem? (i := 1059) (by decide +kernel)⟩
theorem lw_p52 : lw_okq (⟨"HungMarginsModel", "laysBlanks", "()V"⟩, 37) := ⟨⟨by decide +kernel, by decide +kernel⟩, List.mem_of_getElem? (i := 788) (by decide +kernel), List.mem_of_getElem? (i := 1062) (by decide +kernel), List.mem_of_getElem? (i := 1063) (by decide +kernel)⟩
theorem lw_p53 : lw_okq (⟨"HungMarginsModel", "rivers", "()V"⟩, 37) := ⟨⟨by decide +kernel, by decide +kernel⟩, List.mem_of_getElem? (i := 788) (by decide +kernel), List.mem_of_getElem? (i := 1066) (by decide +kernel), List.mem_of_getElem? (i := 1067) (by decide +kernel)⟩
theorem lw_p54 : lw_okq (⟨"HungMarginsModel", "areCommon", "(II)Z"⟩, 37) := ⟨⟨by decide +kernel, by decide +kernel⟩, List.mem_of_getElem? (i := 788) (by decide +kernel), List.mem_of_getElem? (i := 1070) (by decide +kernel), List.mem_of_getElem? (i := 1071) (by decide +kernel)⟩
theorem lw_p55 : lw_okq (⟨"HungMarginsModel", "finds", "(I)V"⟩, 37) := ⟨⟨by decide +kernel, by decide +kernel⟩, List.mem_of_getElem? (i := 788) (by decide +kernel), List.mem_of_getElem? (i := 1103) (by decide +kernel), List.mem_of_getElem? (i := 1104) (by decide +kernel)⟩
theorem lw_p56 : lw_okq (⟨"HungMarginsModel", "found", "(I)I"⟩, 37) := ⟨⟨by decide +kernel, by decide +kernel⟩, List.mem_of_getElem? (i := 788) (by decide +kernel), List.mem_of_getElem? (i := 1107) (by decide +kernel), List.mem_of_getElem? (i := 1108) (by decide +kernel)⟩
theorem lw_p57 : lw_okq (⟨"HungMarginsModel", "isBegun", "(I)Z"⟩, 37) := ⟨⟨by decide +kernel, by decide +kernel⟩, List.mem_of_getElem? (i := 788) (by decide +kernel), List.mem_of_getElem? (i := 1123) (by decide +kernel), List.mem_of_getElem? (i := 1124) (by decide +kernel)⟩
theorem lw_p58 : lw_okq (⟨"HungMarginsModel", "differents", "()I"⟩, 37) := ⟨⟨by decide +kernel, by decide +kernel⟩, List.mem_of_getElem? (i := 788) (by decide +kernel), List.mem_of_getElem? (i := 1139) (by decide +kernel), List.mem_of_getElem? (i := 1140) (by decide +kernel)⟩
def lw_privs_4 : List (MethodName × Nat) := [(⟨"HungMarginsModel", "before", "(I)I"⟩, 37), (⟨"HungMarginsModel", "isGiving", "(I)Z"⟩, 37), (⟨"HungMarginsModel", "blanksOf", "(I)I"⟩, 37), (⟨"HungMarginsModel", "leftIn", "(I)I"⟩, 37), (⟨"HungMarginsModel", "laysBlanks", "()V"⟩, 37), (⟨"HungMarginsModel", "rivers", "()V"⟩, 37), (⟨"HungMarginsModel", "areCommon", "(II)Z"⟩, 37), (⟨"HungMarginsModel", "finds", "(I)V"⟩, 37), (⟨"HungMarginsModel", "found", "(I)I"⟩, 37), (⟨"HungMarginsModel", "isBegun", "(I)Z"⟩, 37), (⟨"HungMarginsModel", "differents", "()I"⟩, 37)]
theorem lw_r4 : ∀ q ∈ lw_privs_4, lw_okq q := List.forall_mem_cons.mpr ⟨lw_p48, List.forall_mem_cons.mpr ⟨lw_p49, List.forall_mem_cons.mpr ⟨lw_p50, List.forall_mem_cons.mpr ⟨lw_p51, List.forall_mem_cons.mpr ⟨lw_p52, List.forall_mem_cons.mpr ⟨lw_p53, List.forall_mem_cons.mpr ⟨lw_p54, List.forall_mem_cons.mpr ⟨lw_p55, List.forall_mem_cons.mpr ⟨lw_p56, List.forall_mem_cons.mpr ⟨lw_p57, List.forall_mem_cons.mpr ⟨lw_p58, fun _ h => absurd h List.not_mem_nil⟩⟩⟩⟩⟩⟩⟩⟩⟩⟩⟩
def lw_privs : List (MethodName × Nat) := lw_privs_1 ++ (lw_privs_2 ++ (lw_privs_3 ++ (lw_privs_4)))
def lw_tbl : List Cond := k2_sels lw_privs ++ tables_1
theorem lw_privs_ok : ∀ q ∈ lw_privs, lw_okq q := by
  show ∀ q ∈ lw_privs_1 ++ (lw_privs_2 ++ (lw_privs_3 ++ (lw_privs_4))), lw_okq q
  exact List.forall_mem_append.mpr ⟨lw_r1, List.forall_mem_append.mpr ⟨lw_r2, List.forall_mem_append.mpr ⟨lw_r3, lw_r4⟩⟩⟩
def RX0 : String := "HungMargins$Breaker"
def TX0 : u_T := fun k => match k with
  | 0 => ("HungMargins$Breaker", "costs", "[I", true)
  | 1 => ("HungMargins$Breaker", "lineCounts", "[I", true)
  | _ => ("HungMargins$Breaker", "nextEnds", "[I", true)
def tyX0 : Nat → FieldType := fun k => match k with
  | 0 => .array .int
  | 1 => .array .int
  | _ => .array .int
abbrev wsX00 : List Cond := u_ws RX0 TX0 3
theorem nmX0 : ∀ a, a < 3 → ∀ b, b < 3 → a ≠ b → (TX0 a).2.1 ≠ (TX0 b).2.1 := by decide +kernel
theorem tyX0_ok : ∀ k, k < 3 → parseFieldDescriptor (TX0 k).2.2.1 = some (tyX0 k) := by decide +kernel
abbrev cX0_init : ByteArray := prog_2_method_1_code
def yX0_init : MethodName := ⟨RX0, "<init>", "()V"⟩
abbrev cX0_solve : ByteArray := prog_2_method_2_code
def yX0_solve : MethodName := ⟨RX0, "solve", "(LHungMargins$Lengths;I)V"⟩
abbrev cX0_chooseEnd : ByteArray := prog_2_method_3_code
def yX0_chooseEnd : MethodName := ⟨RX0, "chooseEnd", "(LHungMargins$Lengths;III)V"⟩
abbrev cX0_hasPage : ByteArray := prog_2_method_4_code
def yX0_hasPage : MethodName := ⟨RX0, "hasPage", "()Z"⟩
abbrev cX0_cost : ByteArray := prog_2_method_5_code
def yX0_cost : MethodName := ⟨RX0, "cost", "()I"⟩
abbrev cX0_lineCount : ByteArray := prog_2_method_6_code
def yX0_lineCount : MethodName := ⟨RX0, "lineCount", "()I"⟩
abbrev cX0_endBehind : ByteArray := prog_2_method_7_code
def yX0_endBehind : MethodName := ⟨RX0, "endBehind", "(I)I"⟩
def RX1 : String := "HungMargins$Lengths"
def TX1 : u_T := fun k => match k with
  | 0 => ("HungMargins$Lengths", "ends", "LHungMargins$Row;", true)
  | 1 => ("HungMargins$Lengths", "hung", "LHungMargins$Row;", true)
  | 2 => ("HungMargins$Lengths", "slashes", "LHungMargins$Row;", true)
  | 3 => ("HungMargins$Lengths", "inWord", "LHungMargins$Row;", true)
  | 4 => ("HungMargins$Lengths", "begins", "LHungMargins$Row;", true)
  | 5 => ("HungMargins$Lengths", "gap", "I", false)
  | 6 => ("HungMargins$Lengths", "measure", "I", false)
  | 7 => ("HungMargins$Lengths", "parted", "I", false)
  | _ => ("HungMargins$Lengths", "again", "I", false)
def tyX1 : Nat → FieldType := fun k => match k with
  | 0 => .object "HungMargins$Row"
  | 1 => .object "HungMargins$Row"
  | 2 => .object "HungMargins$Row"
  | 3 => .object "HungMargins$Row"
  | 4 => .object "HungMargins$Row"
  | 5 => .int
  | 6 => .int
  | 7 => .int
  | _ => .int
abbrev wsX10 : List Cond := u_ws RX1 TX1 9
theorem nmX1 : ∀ a, a < 9 → ∀ b, b < 9 → a ≠ b → (TX1 a).2.1 ≠ (TX1 b).2.1 := by decide +kernel
theorem tyX1_ok : ∀ k, k < 9 → parseFieldDescriptor (TX1 k).2.2.1 = some (tyX1 k) := by decide +kernel
abbrev cX1_init : ByteArray := prog_3_method_1_code
def yX1_init : MethodName := ⟨RX1, "<init>", "()V"⟩
abbrev cX1_take : ByteArray := prog_3_method_2_code
def yX1_take : MethodName := ⟨RX1, "take", "(LHungMargins$Script;LHungMargins$Settings;)V"⟩
abbrev cX1_takeWord : ByteArray := prog_3_method_3_code
def yX1_takeWord : MethodName := ⟨RX1, "takeWord", "(LHungMargins$Script;LHungMargins$Settings;II)I"⟩
abbrev cX1_addPlace : ByteArray := prog_3_method_4_code
def yX1_addPlace : MethodName := ⟨RX1, "addPlace", "(IIIII)V"⟩
abbrev cX1_places : ByteArray := prog_3_method_5_code
def yX1_places : MethodName := ⟨RX1, "places", "()I"⟩
abbrev cX1_gap : ByteArray := prog_3_method_6_code
def yX1_gap : MethodName := ⟨RX1, "gap", "()I"⟩
abbrev cX1_isSlashAt : ByteArray := prog_3_method_7_code
def yX1_isSlashAt : MethodName := ⟨RX1, "isSlashAt", "(I)Z"⟩
abbrev cX1_hungAt : ByteArray := prog_3_method_8_code
def yX1_hungAt : MethodName := ⟨RX1, "hungAt", "(I)I"⟩
abbrev cX1_beginBehind : ByteArray := prog_3_method_9_code
def yX1_beginBehind : MethodName := ⟨RX1, "beginBehind", "(I)I"⟩
abbrev cX1_natural : ByteArray := prog_3_method_10_code
def yX1_natural : MethodName := ⟨RX1, "natural", "(II)I"⟩
abbrev cX1_leftBy : ByteArray := prog_3_method_11_code
def yX1_leftBy : MethodName := ⟨RX1, "leftBy", "(III)I"⟩
abbrev cX1_left : ByteArray := prog_3_method_12_code
def yX1_left : MethodName := ⟨RX1, "left", "(II)I"⟩
abbrev cX1_costBy : ByteArray := prog_3_method_13_code
def yX1_costBy : MethodName := ⟨RX1, "costBy", "(III)I"⟩
abbrev cX1_cost : ByteArray := prog_3_method_14_code
def yX1_cost : MethodName := ⟨RX1, "cost", "(II)I"⟩
abbrev cX1_blanks : ByteArray := prog_3_method_15_code
def yX1_blanks : MethodName := ⟨RX1, "blanks", "(II)I"⟩
abbrev cX1_spread : ByteArray := prog_3_method_16_code
def yX1_spread : MethodName := ⟨RX1, "spread", "(II)I"⟩
def RX2 : String := "HungMargins$Row"
def TX2 : u_T := fun k => match k with
  | 0 => ("HungMargins$Row", "items", "[I", true)
  | _ => ("HungMargins$Row", "size", "I", false)
def tyX2 : Nat → FieldType := fun k => match k with
  | 0 => .array .int
  | _ => .int
abbrev wsX20 : List Cond := u_ws RX2 TX2 2
theorem nmX2 : ∀ a, a < 2 → ∀ b, b < 2 → a ≠ b → (TX2 a).2.1 ≠ (TX2 b).2.1 := by decide +kernel
theorem tyX2_ok : ∀ k, k < 2 → parseFieldDescriptor (TX2 k).2.2.1 = some (tyX2 k) := by decide +kernel
abbrev cX2_init : ByteArray := prog_4_method_1_code
def yX2_init : MethodName := ⟨RX2, "<init>", "(I)V"⟩
abbrev cX2_size : ByteArray := prog_4_method_2_code
def yX2_size : MethodName := ⟨RX2, "size", "()I"⟩
abbrev cX2_get : ByteArray := prog_4_method_3_code
def yX2_get : MethodName := ⟨RX2, "get", "(I)I"⟩
abbrev cX2_set : ByteArray := prog_4_method_4_code
def yX2_set : MethodName := ⟨RX2, "set", "(II)V"⟩
abbrev cX2_add : ByteArray := prog_4_method_5_code
def yX2_add : MethodName := ⟨RX2, "add", "(I)Z"⟩
abbrev cX2_drop : ByteArray := prog_4_method_6_code
def yX2_drop : MethodName := ⟨RX2, "drop", "()V"⟩
abbrev cX2_dropFirst : ByteArray := prog_4_method_7_code
def yX2_dropFirst : MethodName := ⟨RX2, "dropFirst", "()V"⟩
abbrev cX2_empty : ByteArray := prog_4_method_8_code
def yX2_empty : MethodName := ⟨RX2, "empty", "()V"⟩
def RX3 : String := "HungMargins$Script"
def TX3 : u_T := fun k => match k with
  | 0 => ("HungMargins$Script", "signs", "LHungMargins$Row;", true)
  | 1 => ("HungMargins$Script", "signEnds", "LHungMargins$Row;", true)
  | 2 => ("HungMargins$Script", "plain", "LHungMargins$Row;", true)
  | 3 => ("HungMargins$Script", "plainEnds", "LHungMargins$Row;", true)
  | 4 => ("HungMargins$Script", "lastPlaces", "LHungMargins$Row;", true)
  | 5 => ("HungMargins$Script", "spelledAs", "LHungMargins$Row;", true)
  | 6 => ("HungMargins$Script", "firsts", "LHungMargins$Row;", true)
  | 7 => ("HungMargins$Script", "placeWords", "LHungMargins$Row;", true)
  | 8 => ("HungMargins$Script", "placePlain", "LHungMargins$Row;", true)
  | _ => ("HungMargins$Script", "placeSlashes", "LHungMargins$Row;", true)
def tyX3 : Nat → FieldType := fun k => match k with
  | 0 => .object "HungMargins$Row"
  | 1 => .object "HungMargins$Row"
  | 2 => .object "HungMargins$Row"
  | 3 => .object "HungMargins$Row"
  | 4 => .object "HungMargins$Row"
  | 5 => .object "HungMargins$Row"
  | 6 => .object "HungMargins$Row"
  | 7 => .object "HungMargins$Row"
  | 8 => .object "HungMargins$Row"
  | _ => .object "HungMargins$Row"
abbrev wsX30 : List Cond := u_ws RX3 TX3 10
theorem nmX3 : ∀ a, a < 10 → ∀ b, b < 10 → a ≠ b → (TX3 a).2.1 ≠ (TX3 b).2.1 := by decide +kernel
theorem tyX3_ok : ∀ k, k < 10 → parseFieldDescriptor (TX3 k).2.2.1 = some (tyX3 k) := by decide +kernel
abbrev cX3_init : ByteArray := prog_5_method_1_code
def yX3_init : MethodName := ⟨RX3, "<init>", "()V"⟩
abbrev cX3_read : ByteArray := prog_5_method_2_code
def yX3_read : MethodName := ⟨RX3, "read", "(LHungMargins$Row;)V"⟩
abbrev cX3_forgetAll : ByteArray := prog_5_method_3_code
def yX3_forgetAll : MethodName := ⟨RX3, "forgetAll", "()V"⟩
abbrev cX3_addPlace : ByteArray := prog_5_method_4_code
def yX3_addPlace : MethodName := ⟨RX3, "addPlace", "(I)V"⟩
abbrev cX3_endWord : ByteArray := prog_5_method_5_code
def yX3_endWord : MethodName := ⟨RX3, "endWord", "()V"⟩
abbrev cX3_firstLike : ByteArray := prog_5_method_6_code
def yX3_firstLike : MethodName := ⟨RX3, "firstLike", "(I)I"⟩
abbrev cX3_areSpelledAlike : ByteArray := prog_5_method_7_code
def yX3_areSpelledAlike : MethodName := ⟨RX3, "areSpelledAlike", "(II)Z"⟩
abbrev cX3_wordCount : ByteArray := prog_5_method_8_code
def yX3_wordCount : MethodName := ⟨RX3, "wordCount", "()I"⟩
abbrev cX3_placeCount : ByteArray := prog_5_method_9_code
def yX3_placeCount : MethodName := ⟨RX3, "placeCount", "()I"⟩
abbrev cX3_startOf : ByteArray := prog_5_method_10_code
def yX3_startOf : MethodName := ⟨RX3, "startOf", "(LHungMargins$Row;I)I"⟩
abbrev cX3_signCount : ByteArray := prog_5_method_11_code
def yX3_signCount : MethodName := ⟨RX3, "signCount", "(I)I"⟩
abbrev cX3_signOf : ByteArray := prog_5_method_12_code
def yX3_signOf : MethodName := ⟨RX3, "signOf", "(II)I"⟩
abbrev cX3_wordAt : ByteArray := prog_5_method_13_code
def yX3_wordAt : MethodName := ⟨RX3, "wordAt", "(I)I"⟩
abbrev cX3_plainAhead : ByteArray := prog_5_method_14_code
def yX3_plainAhead : MethodName := ⟨RX3, "plainAhead", "(I)I"⟩
abbrev cX3_isSlashAt : ByteArray := prog_5_method_15_code
def yX3_isSlashAt : MethodName := ⟨RX3, "isSlashAt", "(I)Z"⟩
abbrev cX3_lastPlaceOf : ByteArray := prog_5_method_16_code
def yX3_lastPlaceOf : MethodName := ⟨RX3, "lastPlaceOf", "(I)I"⟩
abbrev cX3_spellings : ByteArray := prog_5_method_17_code
def yX3_spellings : MethodName := ⟨RX3, "spellings", "()I"⟩
abbrev cX3_firstSpelled : ByteArray := prog_5_method_18_code
def yX3_firstSpelled : MethodName := ⟨RX3, "firstSpelled", "(I)I"⟩
abbrev cX3_timesSpelled : ByteArray := prog_5_method_19_code
def yX3_timesSpelled : MethodName := ⟨RX3, "timesSpelled", "(I)I"⟩
def RX4 : String := "HungMargins$Settings"
def TX4 : u_T := fun k => match k with
  | 0 => ("HungMargins$Settings", "values", "[I", true)
  | 1 => ("HungMargins$Settings", "undoSlots", "LHungMargins$Row;", true)
  | 2 => ("HungMargins$Settings", "undoValues", "LHungMargins$Row;", true)
  | 3 => ("HungMargins$Settings", "images", "[I", true)
  | _ => ("HungMargins$Settings", "kept", "[Z", true)
def tyX4 : Nat → FieldType := fun k => match k with
  | 0 => .array .int
  | 1 => .object "HungMargins$Row"
  | 2 => .object "HungMargins$Row"
  | 3 => .array .int
  | _ => .array .boolean
abbrev wsX40 : List Cond := u_ws RX4 TX4 5
theorem nmX4 : ∀ a, a < 5 → ∀ b, b < 5 → a ≠ b → (TX4 a).2.1 ≠ (TX4 b).2.1 := by decide +kernel
theorem tyX4_ok : ∀ k, k < 5 → parseFieldDescriptor (TX4 k).2.2.1 = some (tyX4 k) := by decide +kernel
abbrev cX4_init : ByteArray := prog_6_method_1_code
def yX4_init : MethodName := ⟨RX4, "<init>", "()V"⟩
abbrev cX4_begin : ByteArray := prog_6_method_2_code
def yX4_begin : MethodName := ⟨RX4, "begin", "()V"⟩
abbrev cX4_store : ByteArray := prog_6_method_3_code
def yX4_store : MethodName := ⟨RX4, "store", "(II)V"⟩
abbrev cX4_loseUndone : ByteArray := prog_6_method_4_code
def yX4_loseUndone : MethodName := ⟨RX4, "loseUndone", "()V"⟩
abbrev cX4_get : ByteArray := prog_6_method_5_code
def yX4_get : MethodName := ⟨RX4, "get", "(I)I"⟩
abbrev cX4_widthOf : ByteArray := prog_6_method_6_code
def yX4_widthOf : MethodName := ⟨RX4, "widthOf", "(I)I"⟩
abbrev cX4_hungOf : ByteArray := prog_6_method_7_code
def yX4_hungOf : MethodName := ⟨RX4, "hungOf", "(I)I"⟩
abbrev cX4_change : ByteArray := prog_6_method_8_code
def yX4_change : MethodName := ⟨RX4, "change", "(II)V"⟩
abbrev cX4_undoable : ByteArray := prog_6_method_9_code
def yX4_undoable : MethodName := ⟨RX4, "undoable", "()I"⟩
abbrev cX4_takeBack : ByteArray := prog_6_method_10_code
def yX4_takeBack : MethodName := ⟨RX4, "takeBack", "()I"⟩
abbrev cX4_has : ByteArray := prog_6_method_11_code
def yX4_has : MethodName := ⟨RX4, "has", "(I)Z"⟩
abbrev cX4_copyTo : ByteArray := prog_6_method_12_code
def yX4_copyTo : MethodName := ⟨RX4, "copyTo", "(I)V"⟩
abbrev cX4_copyFrom : ByteArray := prog_6_method_13_code
def yX4_copyFrom : MethodName := ⟨RX4, "copyFrom", "(I)V"⟩
def RX5 : String := "HungMargins$Sheet"
def TX5 : u_T := fun k => match k with
  | 0 => ("HungMargins$Sheet", "ends", "LHungMargins$Row;", true)
  | 1 => ("HungMargins$Sheet", "firstBlanks", "LHungMargins$Row;", true)
  | 2 => ("HungMargins$Sheet", "blankBegins", "LHungMargins$Row;", true)
  | 3 => ("HungMargins$Sheet", "blankEnds", "LHungMargins$Row;", true)
  | 4 => ("HungMargins$Sheet", "longs", "LHungMargins$Row;", true)
  | 5 => ("HungMargins$Sheet", "springs", "LHungMargins$Row;", true)
  | 6 => ("HungMargins$Sheet", "there", "Z", false)
  | _ => ("HungMargins$Sheet", "cost", "I", false)
def tyX5 : Nat → FieldType := fun k => match k with
  | 0 => .object "HungMargins$Row"
  | 1 => .object "HungMargins$Row"
  | 2 => .object "HungMargins$Row"
  | 3 => .object "HungMargins$Row"
  | 4 => .object "HungMargins$Row"
  | 5 => .object "HungMargins$Row"
  | 6 => .boolean
  | _ => .int
abbrev wsX50 : List Cond := u_ws RX5 TX5 8
theorem nmX5 : ∀ a, a < 8 → ∀ b, b < 8 → a ≠ b → (TX5 a).2.1 ≠ (TX5 b).2.1 := by decide +kernel
theorem tyX5_ok : ∀ k, k < 8 → parseFieldDescriptor (TX5 k).2.2.1 = some (tyX5 k) := by decide +kernel
abbrev cX5_init : ByteArray := prog_7_method_1_code
def yX5_init : MethodName := ⟨RX5, "<init>", "()V"⟩
abbrev cX5_lay : ByteArray := prog_7_method_2_code
def yX5_lay : MethodName := ⟨RX5, "lay", "(LHungMargins$Lengths;LHungMargins$Breaker;)V"⟩
abbrev cX5_setLine : ByteArray := prog_7_method_3_code
def yX5_setLine : MethodName := ⟨RX5, "setLine", "(LHungMargins$Lengths;II)V"⟩
abbrev cX5_addBlank : ByteArray := prog_7_method_4_code
def yX5_addBlank : MethodName := ⟨RX5, "addBlank", "(II)V"⟩
abbrev cX5_measureRivers : ByteArray := prog_7_method_5_code
def yX5_measureRivers : MethodName := ⟨RX5, "measureRivers", "()V"⟩
abbrev cX5_longestMet : ByteArray := prog_7_method_6_code
def yX5_longestMet : MethodName := ⟨RX5, "longestMet", "(II)I"⟩
abbrev cX5_meetsAny : ByteArray := prog_7_method_7_code
def yX5_meetsAny : MethodName := ⟨RX5, "meetsAny", "(II)Z"⟩
abbrev cX5_meet : ByteArray := prog_7_method_8_code
def yX5_meet : MethodName := ⟨RX5, "meet", "(II)Z"⟩
abbrev cX5_isThere : ByteArray := prog_7_method_9_code
def yX5_isThere : MethodName := ⟨RX5, "isThere", "()Z"⟩
abbrev cX5_cost : ByteArray := prog_7_method_10_code
def yX5_cost : MethodName := ⟨RX5, "cost", "()I"⟩
abbrev cX5_lineCount : ByteArray := prog_7_method_11_code
def yX5_lineCount : MethodName := ⟨RX5, "lineCount", "()I"⟩
abbrev cX5_startOf : ByteArray := prog_7_method_12_code
def yX5_startOf : MethodName := ⟨RX5, "startOf", "(I)I"⟩
abbrev cX5_endOf : ByteArray := prog_7_method_13_code
def yX5_endOf : MethodName := ⟨RX5, "endOf", "(I)I"⟩
abbrev cX5_slashEnds : ByteArray := prog_7_method_14_code
def yX5_slashEnds : MethodName := ⟨RX5, "slashEnds", "(LHungMargins$Lengths;)I"⟩
abbrev cX5_rough : ByteArray := prog_7_method_15_code
def yX5_rough : MethodName := ⟨RX5, "rough", "(LHungMargins$Lengths;)I"⟩
abbrev cX5_springs : ByteArray := prog_7_method_16_code
def yX5_springs : MethodName := ⟨RX5, "springs", "()I"⟩
abbrev cX5_longest : ByteArray := prog_7_method_17_code
def yX5_longest : MethodName := ⟨RX5, "longest", "()I"⟩
abbrev cX5_blankCount : ByteArray := prog_7_method_18_code
def yX5_blankCount : MethodName := ⟨RX5, "blankCount", "(I)I"⟩
abbrev cX5_blankOf : ByteArray := prog_7_method_19_code
def yX5_blankOf : MethodName := ⟨RX5, "blankOf", "(III)I"⟩
def RX6 : String := "HungMargins$Survey"
def TX6 : u_T := fun k => match k with
  | 0 => ("HungMargins$Survey", "there", "[Z", true)
  | 1 => ("HungMargins$Survey", "ends", "[J", true)
  | _ => ("HungMargins$Survey", "picks", "[Z", true)
def tyX6 : Nat → FieldType := fun k => match k with
  | 0 => .array .boolean
  | 1 => .array .long
  | _ => .array .boolean
abbrev wsX60 : List Cond := u_ws RX6 TX6 3
theorem nmX6 : ∀ a, a < 3 → ∀ b, b < 3 → a ≠ b → (TX6 a).2.1 ≠ (TX6 b).2.1 := by decide +kernel
theorem tyX6_ok : ∀ k, k < 3 → parseFieldDescriptor (TX6 k).2.2.1 = some (tyX6 k) := by decide +kernel
abbrev cX6_init : ByteArray := prog_8_method_1_code
def yX6_init : MethodName := ⟨RX6, "<init>", "()V"⟩
abbrev cX6_goThrough : ByteArray := prog_8_method_2_code
def yX6_goThrough : MethodName := ⟨RX6, "goThrough", "(LHungMargins$Lengths;LHungMargins$Breaker;)V"⟩
abbrev cX6_note : ByteArray := prog_8_method_3_code
def yX6_note : MethodName := ⟨RX6, "note", "(ILHungMargins$Breaker;)V"⟩
abbrev cX6_endsAt : ByteArray := prog_8_method_4_code
def yX6_endsAt : MethodName := ⟨RX6, "endsAt", "(II)Z"⟩
abbrev cX6_pickAlike : ByteArray := prog_8_method_5_code
def yX6_pickAlike : MethodName := ⟨RX6, "pickAlike", "(I)V"⟩
abbrev cX6_pickSeen : ByteArray := prog_8_method_6_code
def yX6_pickSeen : MethodName := ⟨RX6, "pickSeen", "(LHungMargins$Script;LHungMargins$Row;LHungMargins$Row;)V"⟩
abbrev cX6_beginsLine : ByteArray := prog_8_method_7_code
def yX6_beginsLine : MethodName := ⟨RX6, "beginsLine", "(ILHungMargins$Script;I)Z"⟩
abbrev cX6_picked : ByteArray := prog_8_method_8_code
def yX6_picked : MethodName := ⟨RX6, "picked", "(I)I"⟩
def RX7 : String := "HungMargins"
def TX7 : u_T := fun k => match k with
  | 0 => ("HungMargins", "text", "LHungMargins$Row;", true)
  | 1 => ("HungMargins", "script", "LHungMargins$Script;", true)
  | 2 => ("HungMargins", "settings", "LHungMargins$Settings;", true)
  | 3 => ("HungMargins", "draft", "LHungMargins$Row;", true)
  | 4 => ("HungMargins", "seenWords", "LHungMargins$Row;", true)
  | 5 => ("HungMargins", "seenBegins", "LHungMargins$Row;", true)
  | 6 => ("HungMargins", "lengths", "LHungMargins$Lengths;", true)
  | 7 => ("HungMargins", "breaker", "LHungMargins$Breaker;", true)
  | 8 => ("HungMargins", "sheet", "LHungMargins$Sheet;", true)
  | 9 => ("HungMargins", "survey", "LHungMargins$Survey;", true)
  | 10 => ("HungMargins", "sheetStale", "Z", false)
  | _ => ("HungMargins", "surveyStale", "Z", false)
def tyX7 : Nat → FieldType := fun k => match k with
  | 0 => .object "HungMargins$Row"
  | 1 => .object "HungMargins$Script"
  | 2 => .object "HungMargins$Settings"
  | 3 => .object "HungMargins$Row"
  | 4 => .object "HungMargins$Row"
  | 5 => .object "HungMargins$Row"
  | 6 => .object "HungMargins$Lengths"
  | 7 => .object "HungMargins$Breaker"
  | 8 => .object "HungMargins$Sheet"
  | 9 => .object "HungMargins$Survey"
  | 10 => .boolean
  | _ => .boolean
abbrev wsX70 : List Cond := u_ws RX7 TX7 12
theorem nmX7 : ∀ a, a < 12 → ∀ b, b < 12 → a ≠ b → (TX7 a).2.1 ≠ (TX7 b).2.1 := by decide +kernel
theorem tyX7_ok : ∀ k, k < 12 → parseFieldDescriptor (TX7 k).2.2.1 = some (tyX7 k) := by decide +kernel
abbrev cX7_init : ByteArray := prog_1_method_1_code
def yX7_init : MethodName := ⟨RX7, "<init>", "()V"⟩
abbrev cX7_type : ByteArray := prog_1_method_2_code
def yX7_type : MethodName := ⟨RX7, "type", "(I)I"⟩
abbrev cX7_clear : ByteArray := prog_1_method_3_code
def yX7_clear : MethodName := ⟨RX7, "clear", "()I"⟩
abbrev cX7_words : ByteArray := prog_1_method_4_code
def yX7_words : MethodName := ⟨RX7, "words", "()I"⟩
abbrev cX7_word : ByteArray := prog_1_method_5_code
def yX7_word : MethodName := ⟨RX7, "word", "(II)I"⟩
abbrev cX7_different : ByteArray := prog_1_method_6_code
def yX7_different : MethodName := ⟨RX7, "different", "(II)I"⟩
abbrev cX7_place : ByteArray := prog_1_method_7_code
def yX7_place : MethodName := ⟨RX7, "place", "(II)I"⟩
abbrev cX7_wide : ByteArray := prog_1_method_8_code
def yX7_wide : MethodName := ⟨RX7, "wide", "(II)I"⟩
abbrev cX7_hangs : ByteArray := prog_1_method_9_code
def yX7_hangs : MethodName := ⟨RX7, "hangs", "(II)I"⟩
abbrev cX7_sets : ByteArray := prog_1_method_10_code
def yX7_sets : MethodName := ⟨RX7, "sets", "(II)I"⟩
abbrev cX7_undo : ByteArray := prog_1_method_11_code
def yX7_undo : MethodName := ⟨RX7, "undo", "()I"⟩
abbrev cX7_page : ByteArray := prog_1_method_12_code
def yX7_page : MethodName := ⟨RX7, "page", "(I)I"⟩
abbrev cX7_line : ByteArray := prog_1_method_13_code
def yX7_line : MethodName := ⟨RX7, "line", "(II)I"⟩
abbrev cX7_blank : ByteArray := prog_1_method_14_code
def yX7_blank : MethodName := ⟨RX7, "blank", "(III)I"⟩
abbrev cX7_leftOf : ByteArray := prog_1_method_15_code
def yX7_leftOf : MethodName := ⟨RX7, "leftOf", "(II)I"⟩
abbrev cX7_puts : ByteArray := prog_1_method_16_code
def yX7_puts : MethodName := ⟨RX7, "puts", "(I)I"⟩
abbrev cX7_takes : ByteArray := prog_1_method_17_code
def yX7_takes : MethodName := ⟨RX7, "takes", "()I"⟩
abbrev cX7_judged : ByteArray := prog_1_method_18_code
def yX7_judged : MethodName := ⟨RX7, "judged", "(I)I"⟩
abbrev cX7_alike : ByteArray := prog_1_method_19_code
def yX7_alike : MethodName := ⟨RX7, "alike", "(I)I"⟩
abbrev cX7_sees : ByteArray := prog_1_method_20_code
def yX7_sees : MethodName := ⟨RX7, "sees", "(II)I"⟩
abbrev cX7_forget : ByteArray := prog_1_method_21_code
def yX7_forget : MethodName := ⟨RX7, "forget", "()I"⟩
abbrev cX7_unseen : ByteArray := prog_1_method_22_code
def yX7_unseen : MethodName := ⟨RX7, "unseen", "(I)I"⟩
abbrev cX7_keep : ByteArray := prog_1_method_23_code
def yX7_keep : MethodName := ⟨RX7, "keep", "(I)I"⟩
abbrev cX7_back : ByteArray := prog_1_method_24_code
def yX7_back : MethodName := ⟨RX7, "back", "(I)I"⟩
abbrev cX7_count : ByteArray := prog_1_method_25_code
def yX7_count : MethodName := ⟨RX7, "count", "(I)I"⟩
abbrev cX7_isPlace : ByteArray := prog_1_method_26_code
def yX7_isPlace : MethodName := ⟨RX7, "isPlace", "(I)Z"⟩
abbrev cX7_lastOfDraft : ByteArray := prog_1_method_27_code
def yX7_lastOfDraft : MethodName := ⟨RX7, "lastOfDraft", "()I"⟩
abbrev cX7_change : ByteArray := prog_1_method_28_code
def yX7_change : MethodName := ⟨RX7, "change", "(II)I"⟩
abbrev cX7_markStale : ByteArray := prog_1_method_29_code
def yX7_markStale : MethodName := ⟨RX7, "markStale", "(I)V"⟩
abbrev cX7_freshen : ByteArray := prog_1_method_30_code
def yX7_freshen : MethodName := ⟨RX7, "freshen", "()V"⟩
abbrev cX7_freshenSurvey : ByteArray := prog_1_method_31_code
def yX7_freshenSurvey : MethodName := ⟨RX7, "freshenSurvey", "()V"⟩
abbrev cX7_firstWrongLine : ByteArray := prog_1_method_32_code
def yX7_firstWrongLine : MethodName := ⟨RX7, "firstWrongLine", "()I"⟩
abbrev cX7_costOfDraft : ByteArray := prog_1_method_33_code
def yX7_costOfDraft : MethodName := ⟨RX7, "costOfDraft", "()I"⟩
abbrev cX7_isLetter : ByteArray := prog_1_method_34_code
def yX7_isLetter : MethodName := ⟨RX7, "isLetter", "(I)Z"⟩
abbrev cX7_markNumber : ByteArray := prog_1_method_35_code
def yX7_markNumber : MethodName := ⟨RX7, "markNumber", "(I)I"⟩
abbrev cX7_widthSlot : ByteArray := prog_1_method_36_code
def yX7_widthSlot : MethodName := ⟨RX7, "widthSlot", "(I)I"⟩
abbrev cX7_hangSlot : ByteArray := prog_1_method_37_code
def yX7_hangSlot : MethodName := ⟨RX7, "hangSlot", "(I)I"⟩
abbrev cX7_isPlainSign : ByteArray := prog_1_method_38_code
def yX7_isPlainSign : MethodName := ⟨RX7, "isPlainSign", "(I)Z"⟩
abbrev cX7_faultOf : ByteArray := prog_1_method_39_code
def yX7_faultOf : MethodName := ⟨RX7, "faultOf", "(LHungMargins$Row;)I"⟩
abbrev cX7_isBetweenSigns : ByteArray := prog_1_method_40_code
def yX7_isBetweenSigns : MethodName := ⟨RX7, "isBetweenSigns", "(LHungMargins$Row;I)Z"⟩
def RX8 : String := "HungMarginsModel"
def TX8 : u_T := fun k => match k with
  | 0 => ("HungMarginsModel", "letters", "I", false)
  | 1 => ("HungMarginsModel", "text", "[I", true)
  | 2 => ("HungMarginsModel", "size", "I", false)
  | 3 => ("HungMarginsModel", "row", "[I", true)
  | 4 => ("HungMarginsModel", "words", "I", false)
  | 5 => ("HungMarginsModel", "start", "[I", true)
  | 6 => ("HungMarginsModel", "end", "[I", true)
  | 7 => ("HungMarginsModel", "places", "I", false)
  | 8 => ("HungMarginsModel", "placeWord", "[I", true)
  | 9 => ("HungMarginsModel", "placeAt", "[I", true)
  | 10 => ("HungMarginsModel", "isParted", "[Z", true)
  | 11 => ("HungMarginsModel", "s", "[I", true)
  | 12 => ("HungMarginsModel", "undos", "I", false)
  | 13 => ("HungMarginsModel", "past", "[I", true)
  | 14 => ("HungMarginsModel", "isKept", "[Z", true)
  | 15 => ("HungMarginsModel", "kept", "[I", true)
  | 16 => ("HungMarginsModel", "drafted", "I", false)
  | 17 => ("HungMarginsModel", "draft", "[I", true)
  | 18 => ("HungMarginsModel", "seen", "I", false)
  | 19 => ("HungMarginsModel", "seenWord", "[I", true)
  | 20 => ("HungMarginsModel", "seenIs", "[I", true)
  | 21 => ("HungMarginsModel", "wide", "[I", true)
  | 22 => ("HungMarginsModel", "toPay", "[I", true)
  | 23 => ("HungMarginsModel", "toGo", "[I", true)
  | 24 => ("HungMarginsModel", "then", "[I", true)
  | 25 => ("HungMarginsModel", "lines", "I", false)
  | 26 => ("HungMarginsModel", "ends", "[I", true)
  | 27 => ("HungMarginsModel", "blanks", "I", false)
  | 28 => ("HungMarginsModel", "blankLine", "[I", true)
  | 29 => ("HungMarginsModel", "blankFrom", "[I", true)
  | 30 => ("HungMarginsModel", "blankTo", "[I", true)
  | 31 => ("HungMarginsModel", "blankLong", "[I", true)
  | 32 => ("HungMarginsModel", "isSpring", "[Z", true)
  | 33 => ("HungMarginsModel", "goodMany", "I", false)
  | 34 => ("HungMarginsModel", "goodLeast", "I", false)
  | 35 => ("HungMarginsModel", "goodMost", "I", false)
  | _ => ("HungMarginsModel", "now", "[I", true)
def tyX8 : Nat → FieldType := fun k => match k with
  | 0 => .int
  | 1 => .array .int
  | 2 => .int
  | 3 => .array .int
  | 4 => .int
  | 5 => .array .int
  | 6 => .array .int
  | 7 => .int
  | 8 => .array .int
  | 9 => .array .int
  | 10 => .array .boolean
  | 11 => .array .int
  | 12 => .int
  | 13 => .array .int
  | 14 => .array .boolean
  | 15 => .array .int
  | 16 => .int
  | 17 => .array .int
  | 18 => .int
  | 19 => .array .int
  | 20 => .array .int
  | 21 => .array .int
  | 22 => .array .int
  | 23 => .array .int
  | 24 => .array .int
  | 25 => .int
  | 26 => .array .int
  | 27 => .int
  | 28 => .array .int
  | 29 => .array .int
  | 30 => .array .int
  | 31 => .array .int
  | 32 => .array .boolean
  | 33 => .int
  | 34 => .int
  | 35 => .int
  | _ => .array .int
abbrev wsX80 : List Cond := u_ws RX8 TX8 37
theorem nmX8 : ∀ a, a < 37 → ∀ b, b < 37 → a ≠ b → (TX8 a).2.1 ≠ (TX8 b).2.1 := by decide +kernel
theorem tyX8_ok : ∀ k, k < 37 → parseFieldDescriptor (TX8 k).2.2.1 = some (tyX8 k) := by decide +kernel
abbrev cX8_in : ByteArray := prog_10_method_1_code
def yX8_in : MethodName := ⟨RX8, "in", "(III)Z"⟩
abbrev cX8_init : ByteArray := prog_10_method_2_code
def yX8_init : MethodName := ⟨RX8, "<init>", "()V"⟩
abbrev cX8_begins : ByteArray := prog_10_method_3_code
def yX8_begins : MethodName := ⟨RX8, "begins", "()V"⟩
abbrev cX8_type : ByteArray := prog_10_method_4_code
def yX8_type : MethodName := ⟨RX8, "type", "(I)I"⟩
abbrev cX8_clear : ByteArray := prog_10_method_5_code
def yX8_clear : MethodName := ⟨RX8, "clear", "()I"⟩
abbrev cX8_markOf : ByteArray := prog_10_method_6_code
def yX8_markOf : MethodName := ⟨RX8, "markOf", "(I)I"⟩
abbrev cX8_isWhole : ByteArray := prog_10_method_7_code
def yX8_isWhole : MethodName := ⟨RX8, "isWhole", "(I)Z"⟩
abbrev cX8_isWholeAt : ByteArray := prog_10_method_8_code
def yX8_isWholeAt : MethodName := ⟨RX8, "isWholeAt", "(I)Z"⟩
abbrev cX8_fault : ByteArray := prog_10_method_9_code
def yX8_fault : MethodName := ⟨RX8, "fault", "()I"⟩
abbrev cX8_laysPlace : ByteArray := prog_10_method_10_code
def yX8_laysPlace : MethodName := ⟨RX8, "laysPlace", "(IIZ)V"⟩
abbrev cX8_words : ByteArray := prog_10_method_11_code
def yX8_words : MethodName := ⟨RX8, "words", "()I"⟩
abbrev cX8_isWord : ByteArray := prog_10_method_12_code
def yX8_isWord : MethodName := ⟨RX8, "isWord", "(I)Z"⟩
abbrev cX8_word : ByteArray := prog_10_method_13_code
def yX8_word : MethodName := ⟨RX8, "word", "(II)I"⟩
abbrev cX8_areAlike : ByteArray := prog_10_method_14_code
def yX8_areAlike : MethodName := ⟨RX8, "areAlike", "(II)Z"⟩
abbrev cX8_firstLike : ByteArray := prog_10_method_15_code
def yX8_firstLike : MethodName := ⟨RX8, "firstLike", "(I)I"⟩
abbrev cX8_differents : ByteArray := prog_10_method_16_code
def yX8_differents : MethodName := ⟨RX8, "differents", "()I"⟩
abbrev cX8_different : ByteArray := prog_10_method_17_code
def yX8_different : MethodName := ⟨RX8, "different", "(II)I"⟩
abbrev cX8_isPlace : ByteArray := prog_10_method_18_code
def yX8_isPlace : MethodName := ⟨RX8, "isPlace", "(I)Z"⟩
abbrev cX8_place : ByteArray := prog_10_method_19_code
def yX8_place : MethodName := ⟨RX8, "place", "(II)I"⟩
abbrev cX8_notes : ByteArray := prog_10_method_20_code
def yX8_notes : MethodName := ⟨RX8, "notes", "()V"⟩
abbrev cX8_becomes : ByteArray := prog_10_method_21_code
def yX8_becomes : MethodName := ⟨RX8, "becomes", "(II)I"⟩
abbrev cX8_widthOf : ByteArray := prog_10_method_22_code
def yX8_widthOf : MethodName := ⟨RX8, "widthOf", "(I)I"⟩
abbrev cX8_wide : ByteArray := prog_10_method_23_code
def yX8_wide : MethodName := ⟨RX8, "wide", "(II)I"⟩
abbrev cX8_hangs : ByteArray := prog_10_method_24_code
def yX8_hangs : MethodName := ⟨RX8, "hangs", "(II)I"⟩
abbrev cX8_sets : ByteArray := prog_10_method_25_code
def yX8_sets : MethodName := ⟨RX8, "sets", "(II)I"⟩
abbrev cX8_undo : ByteArray := prog_10_method_26_code
def yX8_undo : MethodName := ⟨RX8, "undo", "()I"⟩
abbrev cX8_sums : ByteArray := prog_10_method_27_code
def yX8_sums : MethodName := ⟨RX8, "sums", "()V"⟩
abbrev cX8_firstWord : ByteArray := prog_10_method_28_code
def yX8_firstWord : MethodName := ⟨RX8, "firstWord", "(I)I"⟩
abbrev cX8_firstLetter : ByteArray := prog_10_method_29_code
def yX8_firstLetter : MethodName := ⟨RX8, "firstLetter", "(I)I"⟩
abbrev cX8_natural : ByteArray := prog_10_method_30_code
def yX8_natural : MethodName := ⟨RX8, "natural", "(II)I"⟩
abbrev cX8_hung : ByteArray := prog_10_method_31_code
def yX8_hung : MethodName := ⟨RX8, "hung", "(I)I"⟩
abbrev cX8_left : ByteArray := prog_10_method_32_code
def yX8_left : MethodName := ⟨RX8, "left", "(III)I"⟩
abbrev cX8_costOf : ByteArray := prog_10_method_33_code
def yX8_costOf : MethodName := ⟨RX8, "costOf", "(III)I"⟩
abbrev cX8_looksFrom : ByteArray := prog_10_method_34_code
def yX8_looksFrom : MethodName := ⟨RX8, "looksFrom", "(II)V"⟩
abbrev cX8_laysPage : ByteArray := prog_10_method_35_code
def yX8_laysPage : MethodName := ⟨RX8, "laysPage", "(I)Z"⟩
abbrev cX8_before : ByteArray := prog_10_method_36_code
def yX8_before : MethodName := ⟨RX8, "before", "(I)I"⟩
abbrev cX8_blanksOf : ByteArray := prog_10_method_37_code
def yX8_blanksOf : MethodName := ⟨RX8, "blanksOf", "(I)I"⟩
abbrev cX8_leftIn : ByteArray := prog_10_method_38_code
def yX8_leftIn : MethodName := ⟨RX8, "leftIn", "(I)I"⟩
abbrev cX8_isGiving : ByteArray := prog_10_method_39_code
def yX8_isGiving : MethodName := ⟨RX8, "isGiving", "(I)Z"⟩
abbrev cX8_endOf : ByteArray := prog_10_method_40_code
def yX8_endOf : MethodName := ⟨RX8, "endOf", "(I)I"⟩
abbrev cX8_laysBlanks : ByteArray := prog_10_method_41_code
def yX8_laysBlanks : MethodName := ⟨RX8, "laysBlanks", "()V"⟩
abbrev cX8_areCommon : ByteArray := prog_10_method_42_code
def yX8_areCommon : MethodName := ⟨RX8, "areCommon", "(II)Z"⟩
abbrev cX8_rivers : ByteArray := prog_10_method_43_code
def yX8_rivers : MethodName := ⟨RX8, "rivers", "()V"⟩
abbrev cX8_rough : ByteArray := prog_10_method_44_code
def yX8_rough : MethodName := ⟨RX8, "rough", "()I"⟩
abbrev cX8_page : ByteArray := prog_10_method_45_code
def yX8_page : MethodName := ⟨RX8, "page", "(I)I"⟩
abbrev cX8_line : ByteArray := prog_10_method_46_code
def yX8_line : MethodName := ⟨RX8, "line", "(II)I"⟩
abbrev cX8_blank : ByteArray := prog_10_method_47_code
def yX8_blank : MethodName := ⟨RX8, "blank", "(III)I"⟩
abbrev cX8_leftOf : ByteArray := prog_10_method_48_code
def yX8_leftOf : MethodName := ⟨RX8, "leftOf", "(II)I"⟩
abbrev cX8_puts : ByteArray := prog_10_method_49_code
def yX8_puts : MethodName := ⟨RX8, "puts", "(I)I"⟩
abbrev cX8_takes : ByteArray := prog_10_method_50_code
def yX8_takes : MethodName := ⟨RX8, "takes", "()I"⟩
abbrev cX8_judged : ByteArray := prog_10_method_51_code
def yX8_judged : MethodName := ⟨RX8, "judged", "(I)I"⟩
abbrev cX8_finds : ByteArray := prog_10_method_52_code
def yX8_finds : MethodName := ⟨RX8, "finds", "(I)V"⟩
abbrev cX8_found : ByteArray := prog_10_method_53_code
def yX8_found : MethodName := ⟨RX8, "found", "(I)I"⟩
abbrev cX8_alike : ByteArray := prog_10_method_54_code
def yX8_alike : MethodName := ⟨RX8, "alike", "(I)I"⟩
abbrev cX8_sees : ByteArray := prog_10_method_55_code
def yX8_sees : MethodName := ⟨RX8, "sees", "(II)I"⟩
abbrev cX8_forget : ByteArray := prog_10_method_56_code
def yX8_forget : MethodName := ⟨RX8, "forget", "()I"⟩
abbrev cX8_isBegun : ByteArray := prog_10_method_57_code
def yX8_isBegun : MethodName := ⟨RX8, "isBegun", "(I)Z"⟩
abbrev cX8_unseen : ByteArray := prog_10_method_58_code
def yX8_unseen : MethodName := ⟨RX8, "unseen", "(I)I"⟩
abbrev cX8_keep : ByteArray := prog_10_method_59_code
def yX8_keep : MethodName := ⟨RX8, "keep", "(I)I"⟩
abbrev cX8_back : ByteArray := prog_10_method_60_code
def yX8_back : MethodName := ⟨RX8, "back", "(I)I"⟩
abbrev cX8_count : ByteArray := prog_10_method_61_code
def yX8_count : MethodName := ⟨RX8, "count", "(I)I"⟩
def RJ9 : String := "java/lang/Math"
def TJ9 : u_T := fun k => match k with
  | _ => ("", "", "", false)
def tyJ9 : Nat → FieldType := fun k => match k with
  | _ => .int
abbrev wsJ90 : List Cond := u_ws RJ9 TJ9 0
theorem nmJ9 : ∀ a, a < 0 → ∀ b, b < 0 → a ≠ b → (TJ9 a).2.1 ≠ (TJ9 b).2.1 := by decide +kernel
theorem tyJ9_ok : ∀ k, k < 0 → parseFieldDescriptor (TJ9 k).2.2.1 = some (tyJ9 k) := by decide +kernel
abbrev cJ9_max_7cf53 : ByteArray := prog_11_method_65_code
def yJ9_max_7cf53 : MethodName := ⟨RJ9, "max", "(II)I"⟩
abbrev cJ9_min_7cf53 : ByteArray := prog_11_method_69_code
def yJ9_min_7cf53 : MethodName := ⟨RJ9, "min", "(II)I"⟩
def RJ10 : String := "java/lang/System"
def TJ10 : u_T := fun k => match k with
  | _ => ("", "", "", false)
def tyJ10 : Nat → FieldType := fun k => match k with
  | _ => .int
abbrev wsJ100 : List Cond := u_ws RJ10 TJ10 0
theorem nmJ10 : ∀ a, a < 0 → ∀ b, b < 0 → a ≠ b → (TJ10 a).2.1 ≠ (TJ10 b).2.1 := by decide +kernel
theorem tyJ10_ok : ∀ k, k < 0 → parseFieldDescriptor (TJ10 k).2.2.1 = some (tyJ10 k) := by decide +kernel
def RL : String := "HungMarginsLaw"
abbrev cL_law : ByteArray := code
def yL_law : MethodName := ⟨RL, "law", "([I)Z"⟩
abbrev vwCl : List vw_C := [(RX0, TX0, 3), (RX1, TX1, 9), (RX2, TX2, 2), (RX3, TX3, 10), (RX4, TX4, 5), (RX5, TX5, 8), (RX6, TX6, 3), (RX7, TX7, 12), (RX8, TX8, 37)]

def hm_W : List Cond := lw_tbl.filter goodWord
theorem hm_Wtbl : ∀ w ∈ hm_W, w ∈ lw_tbl := fun _ h => (List.mem_filter.mp h).1
theorem hm_Wgood : ∀ w ∈ hm_W, (w.onTables && w.keeps) = true ∨ ∃ ty, w = .arrayClass ty := fun _ h => good_of_word (List.mem_filter.mp h).2
theorem hm_t {w : Cond} (h : w ∈ tables_1) (hg : goodWord w = true) : w ∈ hm_W := List.mem_filter.mpr ⟨List.mem_append_right _ h, hg⟩
theorem hm_m1 (i : Nat) {w : Cond} (h : tables_1_1[i]? = some w) (hg : goodWord w = true) : w ∈ hm_W := hm_t (List.mem_append_left _ (List.mem_of_getElem? h)) hg
theorem hm_m2 (i : Nat) {w : Cond} (h : tables_1_2[i]? = some w) (hg : goodWord w = true) : w ∈ hm_W := hm_t (List.mem_append_right _ (List.mem_append_left _ (List.mem_of_getElem? h))) hg
theorem hm_m3 (i : Nat) {w : Cond} (h : tables_1_3[i]? = some w) (hg : goodWord w = true) : w ∈ hm_W := hm_t (List.mem_append_right _ (List.mem_append_right _ (List.mem_append_left _ (List.mem_of_getElem? h)))) hg
theorem hm_m4 (i : Nat) {w : Cond} (h : tables_1_4[i]? = some w) (hg : goodWord w = true) : w ∈ hm_W := hm_t (List.mem_append_right _ (List.mem_append_right _ (List.mem_append_right _ (List.mem_append_left _ (List.mem_of_getElem? h))))) hg
theorem hm_m5 (i : Nat) {w : Cond} (h : tables_1_5[i]? = some w) (hg : goodWord w = true) : w ∈ hm_W := hm_t (List.mem_append_right _ (List.mem_append_right _ (List.mem_append_right _ (List.mem_append_right _ (List.mem_of_getElem? h))))) hg
theorem hm_ps (i : Nat) {q : MethodName × Nat} (h : lw_privs[i]? = some q) {w : Cond} (e : Cond.selects q.1.cls q.1 q.1 = w) (hg : goodWord w = true) : w ∈ hm_W := List.mem_filter.mpr ⟨List.mem_append_left _ (by rw [← e]; exact List.mem_map.mpr ⟨q, List.mem_of_getElem? h, rfl⟩), hg⟩
