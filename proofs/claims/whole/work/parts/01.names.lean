-- ===== PART A: goes FIRST, ahead of the names: the tables' words, and 'selects' of the private methods out of them =====
/-- a private method of a class that the tables say can be made, by its rows of tables_1 -/
def lw_okq (q : MethodName × Nat) : Prop := (q.1.cls ≠ "java/lang/invoke/MethodHandle" ∧ q.1.cls ≠ "java/lang/invoke/VarHandle") ∧ Cond.instantiable q.1.cls q.2 ∈ tables_1 ∧ Cond.privateMethod q.1 ∈ tables_1 ∧ Cond.instanceMethod q.1 ∈ tables_1
theorem lw_p0 : lw_okq (⟨"WhichWord", "refuse", "(I)I"⟩, 8) := ⟨⟨by decide +kernel, by decide +kernel⟩, List.mem_of_getElem? (i := 14) (by decide +kernel), List.mem_of_getElem? (i := 199) (by decide +kernel), List.mem_of_getElem? (i := 200) (by decide +kernel)⟩
theorem lw_p1 : lw_okq (⟨"WhichWord$Text", "readThings", "(LWhichWord$Scene;)Z"⟩, 3) := ⟨⟨by decide +kernel, by decide +kernel⟩, List.mem_of_getElem? (i := 22) (by decide +kernel), List.mem_of_getElem? (i := 221) (by decide +kernel), List.mem_of_getElem? (i := 222) (by decide +kernel)⟩
theorem lw_p2 : lw_okq (⟨"WhichWord$Text", "readThing", "(LWhichWord$Scene;)Z"⟩, 3) := ⟨⟨by decide +kernel, by decide +kernel⟩, List.mem_of_getElem? (i := 22) (by decide +kernel), List.mem_of_getElem? (i := 225) (by decide +kernel), List.mem_of_getElem? (i := 226) (by decide +kernel)⟩
theorem lw_p3 : lw_okq (⟨"WhichWord$Text", "take", "(I)Z"⟩, 3) := ⟨⟨by decide +kernel, by decide +kernel⟩, List.mem_of_getElem? (i := 22) (by decide +kernel), List.mem_of_getElem? (i := 229) (by decide +kernel), List.mem_of_getElem? (i := 230) (by decide +kernel)⟩
theorem lw_p4 : lw_okq (⟨"WhichWord$Text", "takeOneOf", "(III)I"⟩, 3) := ⟨⟨by decide +kernel, by decide +kernel⟩, List.mem_of_getElem? (i := 22) (by decide +kernel), List.mem_of_getElem? (i := 233) (by decide +kernel), List.mem_of_getElem? (i := 234) (by decide +kernel)⟩
theorem lw_p5 : lw_okq (⟨"WhichWord$Text", "readDoings", "(LWhichWord$Scene;)Z"⟩, 3) := ⟨⟨by decide +kernel, by decide +kernel⟩, List.mem_of_getElem? (i := 22) (by decide +kernel), List.mem_of_getElem? (i := 241) (by decide +kernel), List.mem_of_getElem? (i := 242) (by decide +kernel)⟩
theorem lw_p6 : lw_okq (⟨"WhichWord$Text", "readDoing", "(LWhichWord$Scene;)Z"⟩, 3) := ⟨⟨by decide +kernel, by decide +kernel⟩, List.mem_of_getElem? (i := 22) (by decide +kernel), List.mem_of_getElem? (i := 245) (by decide +kernel), List.mem_of_getElem? (i := 246) (by decide +kernel)⟩
theorem lw_p7 : lw_okq (⟨"WhichWord$Scene", "countThings", "(II)I"⟩, 4) := ⟨⟨by decide +kernel, by decide +kernel⟩, List.mem_of_getElem? (i := 45) (by decide +kernel), List.mem_of_getElem? (i := 275) (by decide +kernel), List.mem_of_getElem? (i := 276) (by decide +kernel)⟩
theorem lw_p8 : lw_okq (⟨"WhichWord$Scene", "holdsJoined", "(I)Z"⟩, 4) := ⟨⟨by decide +kernel, by decide +kernel⟩, List.mem_of_getElem? (i := 45) (by decide +kernel), List.mem_of_getElem? (i := 283) (by decide +kernel), List.mem_of_getElem? (i := 284) (by decide +kernel)⟩
theorem lw_p9 : lw_okq (⟨"WhichWord$Told", "dropSayingsOf", "(I)V"⟩, 12) := ⟨⟨by decide +kernel, by decide +kernel⟩, List.mem_of_getElem? (i := 39) (by decide +kernel), List.mem_of_getElem? (i := 305) (by decide +kernel), List.mem_of_getElem? (i := 306) (by decide +kernel)⟩
theorem lw_p10 : lw_okq (⟨"WhichWord", "noScene", "(I)Z"⟩, 8) := ⟨⟨by decide +kernel, by decide +kernel⟩, List.mem_of_getElem? (i := 14) (by decide +kernel), List.mem_of_getElem? (i := 313) (by decide +kernel), List.mem_of_getElem? (i := 314) (by decide +kernel)⟩
theorem lw_p11 : lw_okq (⟨"WhichWord$Likely", "latestSaid", "(I)I"⟩, 1) := ⟨⟨by decide +kernel, by decide +kernel⟩, List.mem_of_getElem? (i := 125) (by decide +kernel), List.mem_of_getElem? (i := 410) (by decide +kernel), List.mem_of_getElem? (i := 411) (by decide +kernel)⟩
theorem lw_p12 : lw_okq (⟨"WhichWord$Likely", "ofAll", "(I)J"⟩, 1) := ⟨⟨by decide +kernel, by decide +kernel⟩, List.mem_of_getElem? (i := 125) (by decide +kernel), List.mem_of_getElem? (i := 425) (by decide +kernel), List.mem_of_getElem? (i := 426) (by decide +kernel)⟩
theorem lw_p13 : lw_okq (⟨"WhichWord$Giver", "countLefts", "(I)V"⟩, 2) := ⟨⟨by decide +kernel, by decide +kernel⟩, List.mem_of_getElem? (i := 135) (by decide +kernel), List.mem_of_getElem? (i := 456) (by decide +kernel), List.mem_of_getElem? (i := 457) (by decide +kernel)⟩
theorem lw_p14 : lw_okq (⟨"WhichWord$Giver", "ways", "(III)I"⟩, 2) := ⟨⟨by decide +kernel, by decide +kernel⟩, List.mem_of_getElem? (i := 135) (by decide +kernel), List.mem_of_getElem? (i := 462) (by decide +kernel), List.mem_of_getElem? (i := 463) (by decide +kernel)⟩
theorem lw_p15 : lw_okq (⟨"WhichWord$Giver", "lost", "(II)I"⟩, 2) := ⟨⟨by decide +kernel, by decide +kernel⟩, List.mem_of_getElem? (i := 135) (by decide +kernel), List.mem_of_getElem? (i := 468) (by decide +kernel), List.mem_of_getElem? (i := 469) (by decide +kernel)⟩
def lw_privs_1 : List (MethodName × Nat) := [(⟨"WhichWord", "refuse", "(I)I"⟩, 8), (⟨"WhichWord$Text", "readThings", "(LWhichWord$Scene;)Z"⟩, 3), (⟨"WhichWord$Text", "readThing", "(LWhichWord$Scene;)Z"⟩, 3), (⟨"WhichWord$Text", "take", "(I)Z"⟩, 3), (⟨"WhichWord$Text", "takeOneOf", "(III)I"⟩, 3), (⟨"WhichWord$Text", "readDoings", "(LWhichWord$Scene;)Z"⟩, 3), (⟨"WhichWord$Text", "readDoing", "(LWhichWord$Scene;)Z"⟩, 3), (⟨"WhichWord$Scene", "countThings", "(II)I"⟩, 4), (⟨"WhichWord$Scene", "holdsJoined", "(I)Z"⟩, 4), (⟨"WhichWord$Told", "dropSayingsOf", "(I)V"⟩, 12), (⟨"WhichWord", "noScene", "(I)Z"⟩, 8), (⟨"WhichWord$Likely", "latestSaid", "(I)I"⟩, 1), (⟨"WhichWord$Likely", "ofAll", "(I)J"⟩, 1), (⟨"WhichWord$Giver", "countLefts", "(I)V"⟩, 2), (⟨"WhichWord$Giver", "ways", "(III)I"⟩, 2), (⟨"WhichWord$Giver", "lost", "(II)I"⟩, 2)]
theorem lw_r1 : ∀ q ∈ lw_privs_1, lw_okq q := List.forall_mem_cons.mpr ⟨lw_p0, List.forall_mem_cons.mpr ⟨lw_p1, List.forall_mem_cons.mpr ⟨lw_p2, List.forall_mem_cons.mpr ⟨lw_p3, List.forall_mem_cons.mpr ⟨lw_p4, List.forall_mem_cons.mpr ⟨lw_p5, List.forall_mem_cons.mpr ⟨lw_p6, List.forall_mem_cons.mpr ⟨lw_p7, List.forall_mem_cons.mpr ⟨lw_p8, List.forall_mem_cons.mpr ⟨lw_p9, List.forall_mem_cons.mpr ⟨lw_p10, List.forall_mem_cons.mpr ⟨lw_p11, List.forall_mem_cons.mpr ⟨lw_p12, List.forall_mem_cons.mpr ⟨lw_p13, List.forall_mem_cons.mpr ⟨lw_p14, List.forall_mem_cons.mpr ⟨lw_p15, fun _ h => absurd h List.not_mem_nil⟩⟩⟩⟩⟩⟩⟩⟩⟩⟩⟩⟩⟩⟩⟩⟩
theorem lw_p16 : lw_okq (⟨"WhichWord$Giver", "leastFor", "(IIII)I"⟩, 2) := ⟨⟨by decide +kernel, by decide +kernel⟩, List.mem_of_getElem? (i := 135) (by decide +kernel), List.mem_of_getElem? (i := 481) (by decide +kernel), List.mem_of_getElem? (i := 482) (by decide +kernel)⟩
theorem lw_p17 : lw_okq (⟨"WhichWord$Told", "isTwo", "(III)Z"⟩, 12) := ⟨⟨by decide +kernel, by decide +kernel⟩, List.mem_of_getElem? (i := 39) (by decide +kernel), List.mem_of_getElem? (i := 493) (by decide +kernel), List.mem_of_getElem? (i := 494) (by decide +kernel)⟩
theorem lw_p18 : lw_okq (⟨"WhichWord$Told", "fits", "(LWhichWord$Scene;II)Z"⟩, 12) := ⟨⟨by decide +kernel, by decide +kernel⟩, List.mem_of_getElem? (i := 39) (by decide +kernel), List.mem_of_getElem? (i := 527) (by decide +kernel), List.mem_of_getElem? (i := 528) (by decide +kernel)⟩
theorem lw_p19 : lw_okq (⟨"WhichWord$Chooser", "shownFor", "(I)I"⟩, 5) := ⟨⟨by decide +kernel, by decide +kernel⟩, List.mem_of_getElem? (i := 148) (by decide +kernel), List.mem_of_getElem? (i := 550) (by decide +kernel), List.mem_of_getElem? (i := 551) (by decide +kernel)⟩
theorem lw_p20 : lw_okq (⟨"WhichWord$Chooser", "countLeftHad", "(II)I"⟩, 5) := ⟨⟨by decide +kernel, by decide +kernel⟩, List.mem_of_getElem? (i := 148) (by decide +kernel), List.mem_of_getElem? (i := 556) (by decide +kernel), List.mem_of_getElem? (i := 557) (by decide +kernel)⟩
theorem lw_p21 : lw_okq (⟨"WhichWord$Chooser", "firstShownFor", "(I)I"⟩, 5) := ⟨⟨by decide +kernel, by decide +kernel⟩, List.mem_of_getElem? (i := 148) (by decide +kernel), List.mem_of_getElem? (i := 572) (by decide +kernel), List.mem_of_getElem? (i := 573) (by decide +kernel)⟩
theorem lw_p22 : lw_okq (⟨"WhichWord$Chooser", "listUnlike", "(II)V"⟩, 5) := ⟨⟨by decide +kernel, by decide +kernel⟩, List.mem_of_getElem? (i := 148) (by decide +kernel), List.mem_of_getElem? (i := 576) (by decide +kernel), List.mem_of_getElem? (i := 577) (by decide +kernel)⟩
theorem lw_p23 : lw_okq (⟨"WhichWord$Chooser", "addUnlike", "(I)V"⟩, 5) := ⟨⟨by decide +kernel, by decide +kernel⟩, List.mem_of_getElem? (i := 148) (by decide +kernel), List.mem_of_getElem? (i := 580) (by decide +kernel), List.mem_of_getElem? (i := 581) (by decide +kernel)⟩
theorem lw_p24 : lw_okq (⟨"WhichWord$Chooser", "listSets", "(II)V"⟩, 5) := ⟨⟨by decide +kernel, by decide +kernel⟩, List.mem_of_getElem? (i := 148) (by decide +kernel), List.mem_of_getElem? (i := 584) (by decide +kernel), List.mem_of_getElem? (i := 585) (by decide +kernel)⟩
theorem lw_p25 : lw_okq (⟨"WhichWord$Chooser", "addSets", "(IIII)V"⟩, 5) := ⟨⟨by decide +kernel, by decide +kernel⟩, List.mem_of_getElem? (i := 148) (by decide +kernel), List.mem_of_getElem? (i := 588) (by decide +kernel), List.mem_of_getElem? (i := 589) (by decide +kernel)⟩
theorem lw_p26 : lw_okq (⟨"WhichWord$Chooser", "partsAll", "(I)Z"⟩, 5) := ⟨⟨by decide +kernel, by decide +kernel⟩, List.mem_of_getElem? (i := 148) (by decide +kernel), List.mem_of_getElem? (i := 592) (by decide +kernel), List.mem_of_getElem? (i := 593) (by decide +kernel)⟩
theorem lw_p27 : lw_okq (⟨"WhichWord", "countRefusals", "(I)I"⟩, 8) := ⟨⟨by decide +kernel, by decide +kernel⟩, List.mem_of_getElem? (i := 14) (by decide +kernel), List.mem_of_getElem? (i := 656) (by decide +kernel), List.mem_of_getElem? (i := 657) (by decide +kernel)⟩
theorem lw_p28 : lw_okq (⟨"WhichWordModel", "refuse", "(I)I"⟩, 31) := ⟨⟨by decide +kernel, by decide +kernel⟩, List.mem_of_getElem? (i := 660) (by decide +kernel), List.mem_of_getElem? (i := 765) (by decide +kernel), List.mem_of_getElem? (i := 766) (by decide +kernel)⟩
theorem lw_p29 : lw_okq (⟨"WhichWordModel", "readScene", "(I)V"⟩, 31) := ⟨⟨by decide +kernel, by decide +kernel⟩, List.mem_of_getElem? (i := 660) (by decide +kernel), List.mem_of_getElem? (i := 774) (by decide +kernel), List.mem_of_getElem? (i := 775) (by decide +kernel)⟩
theorem lw_p30 : lw_okq (⟨"WhichWordModel", "readThing", "(I)V"⟩, 31) := ⟨⟨by decide +kernel, by decide +kernel⟩, List.mem_of_getElem? (i := 660) (by decide +kernel), List.mem_of_getElem? (i := 778) (by decide +kernel), List.mem_of_getElem? (i := 779) (by decide +kernel)⟩
theorem lw_p31 : lw_okq (⟨"WhichWordModel", "here", "()I"⟩, 31) := ⟨⟨by decide +kernel, by decide +kernel⟩, List.mem_of_getElem? (i := 660) (by decide +kernel), List.mem_of_getElem? (i := 782) (by decide +kernel), List.mem_of_getElem? (i := 783) (by decide +kernel)⟩
def lw_privs_2 : List (MethodName × Nat) := [(⟨"WhichWord$Giver", "leastFor", "(IIII)I"⟩, 2), (⟨"WhichWord$Told", "isTwo", "(III)Z"⟩, 12), (⟨"WhichWord$Told", "fits", "(LWhichWord$Scene;II)Z"⟩, 12), (⟨"WhichWord$Chooser", "shownFor", "(I)I"⟩, 5), (⟨"WhichWord$Chooser", "countLeftHad", "(II)I"⟩, 5), (⟨"WhichWord$Chooser", "firstShownFor", "(I)I"⟩, 5), (⟨"WhichWord$Chooser", "listUnlike", "(II)V"⟩, 5), (⟨"WhichWord$Chooser", "addUnlike", "(I)V"⟩, 5), (⟨"WhichWord$Chooser", "listSets", "(II)V"⟩, 5), (⟨"WhichWord$Chooser", "addSets", "(IIII)V"⟩, 5), (⟨"WhichWord$Chooser", "partsAll", "(I)Z"⟩, 5), (⟨"WhichWord", "countRefusals", "(I)I"⟩, 8), (⟨"WhichWordModel", "refuse", "(I)I"⟩, 31), (⟨"WhichWordModel", "readScene", "(I)V"⟩, 31), (⟨"WhichWordModel", "readThing", "(I)V"⟩, 31), (⟨"WhichWordModel", "here", "()I"⟩, 31)]
theorem lw_r2 : ∀ q ∈ lw_privs_2, lw_okq q := List.forall_mem_cons.mpr ⟨lw_p16, List.forall_mem_cons.mpr ⟨lw_p17, List.forall_mem_cons.mpr ⟨lw_p18, List.forall_mem_cons.mpr ⟨lw_p19, List.forall_mem_cons.mpr ⟨lw_p20, List.forall_mem_cons.mpr ⟨lw_p21, List.forall_mem_cons.mpr ⟨lw_p22, List.forall_mem_cons.mpr ⟨lw_p23, List.forall_mem_cons.mpr ⟨lw_p24, List.forall_mem_cons.mpr ⟨lw_p25, List.forall_mem_cons.mpr ⟨lw_p26, List.forall_mem_cons.mpr ⟨lw_p27, List.forall_mem_cons.mpr ⟨lw_p28, List.forall_mem_cons.mpr ⟨lw_p29, List.forall_mem_cons.mpr ⟨lw_p30, List.forall_mem_cons.mpr ⟨lw_p31, fun _ h => absurd h List.not_mem_nil⟩⟩⟩⟩⟩⟩⟩⟩⟩⟩⟩⟩⟩⟩⟩⟩
theorem lw_p32 : lw_okq (⟨"WhichWordModel", "readDoing", "(I)V"⟩, 31) := ⟨⟨by decide +kernel, by decide +kernel⟩, List.mem_of_getElem? (i := 660) (by decide +kernel), List.mem_of_getElem? (i := 790) (by decide +kernel), List.mem_of_getElem? (i := 791) (by decide +kernel)⟩
theorem lw_p33 : lw_okq (⟨"WhichWordModel", "readPlace", "(II)I"⟩, 31) := ⟨⟨by decide +kernel, by decide +kernel⟩, List.mem_of_getElem? (i := 660) (by decide +kernel), List.mem_of_getElem? (i := 794) (by decide +kernel), List.mem_of_getElem? (i := 795) (by decide +kernel)⟩
theorem lw_p34 : lw_okq (⟨"WhichWordModel", "findHas", "(I)V"⟩, 31) := ⟨⟨by decide +kernel, by decide +kernel⟩, List.mem_of_getElem? (i := 660) (by decide +kernel), List.mem_of_getElem? (i := 799) (by decide +kernel), List.mem_of_getElem? (i := 800) (by decide +kernel)⟩
theorem lw_p35 : lw_okq (⟨"WhichWordModel", "manyWith", "(II)I"⟩, 31) := ⟨⟨by decide +kernel, by decide +kernel⟩, List.mem_of_getElem? (i := 660) (by decide +kernel), List.mem_of_getElem? (i := 803) (by decide +kernel), List.mem_of_getElem? (i := 804) (by decide +kernel)⟩
theorem lw_p36 : lw_okq (⟨"WhichWordModel", "hasMark", "(III)Z"⟩, 31) := ⟨⟨by decide +kernel, by decide +kernel⟩, List.mem_of_getElem? (i := 660) (by decide +kernel), List.mem_of_getElem? (i := 807) (by decide +kernel), List.mem_of_getElem? (i := 808) (by decide +kernel)⟩
theorem lw_p37 : lw_okq (⟨"WhichWordModel", "isScene", "(I)Z"⟩, 31) := ⟨⟨by decide +kernel, by decide +kernel⟩, List.mem_of_getElem? (i := 660) (by decide +kernel), List.mem_of_getElem? (i := 819) (by decide +kernel), List.mem_of_getElem? (i := 820) (by decide +kernel)⟩
theorem lw_p38 : lw_okq (⟨"WhichWordModel", "saidIn", "(I)I"⟩, 31) := ⟨⟨by decide +kernel, by decide +kernel⟩, List.mem_of_getElem? (i := 660) (by decide +kernel), List.mem_of_getElem? (i := 839) (by decide +kernel), List.mem_of_getElem? (i := 840) (by decide +kernel)⟩
theorem lw_p39 : lw_okq (⟨"WhichWordModel", "isLeft", "(III)Z"⟩, 31) := ⟨⟨by decide +kernel, by decide +kernel⟩, List.mem_of_getElem? (i := 660) (by decide +kernel), List.mem_of_getElem? (i := 867) (by decide +kernel), List.mem_of_getElem? (i := 868) (by decide +kernel)⟩
theorem lw_p40 : lw_okq (⟨"WhichWordModel", "likelihoodOf", "(II)J"⟩, 31) := ⟨⟨by decide +kernel, by decide +kernel⟩, List.mem_of_getElem? (i := 660) (by decide +kernel), List.mem_of_getElem? (i := 887) (by decide +kernel), List.mem_of_getElem? (i := 888) (by decide +kernel)⟩
theorem lw_p41 : lw_okq (⟨"WhichWordModel", "isSet", "(I)Z"⟩, 31) := ⟨⟨by decide +kernel, by decide +kernel⟩, List.mem_of_getElem? (i := 660) (by decide +kernel), List.mem_of_getElem? (i := 907) (by decide +kernel), List.mem_of_getElem? (i := 908) (by decide +kernel)⟩
theorem lw_p42 : lw_okq (⟨"WhichWordModel", "findWords", "(I)V"⟩, 31) := ⟨⟨by decide +kernel, by decide +kernel⟩, List.mem_of_getElem? (i := 660) (by decide +kernel), List.mem_of_getElem? (i := 915) (by decide +kernel), List.mem_of_getElem? (i := 916) (by decide +kernel)⟩
theorem lw_p43 : lw_okq (⟨"WhichWordModel", "commonTo", "(I)I"⟩, 31) := ⟨⟨by decide +kernel, by decide +kernel⟩, List.mem_of_getElem? (i := 660) (by decide +kernel), List.mem_of_getElem? (i := 919) (by decide +kernel), List.mem_of_getElem? (i := 920) (by decide +kernel)⟩
theorem lw_p44 : lw_okq (⟨"WhichWordModel", "findFirst", "(I)Z"⟩, 31) := ⟨⟨by decide +kernel, by decide +kernel⟩, List.mem_of_getElem? (i := 660) (by decide +kernel), List.mem_of_getElem? (i := 927) (by decide +kernel), List.mem_of_getElem? (i := 928) (by decide +kernel)⟩
theorem lw_p45 : lw_okq (⟨"WhichWordModel", "canHave", "(I)Z"⟩, 31) := ⟨⟨by decide +kernel, by decide +kernel⟩, List.mem_of_getElem? (i := 660) (by decide +kernel), List.mem_of_getElem? (i := 931) (by decide +kernel), List.mem_of_getElem? (i := 932) (by decide +kernel)⟩
theorem lw_p46 : lw_okq (⟨"WhichWordModel", "isOneLeft", "(I)Z"⟩, 31) := ⟨⟨by decide +kernel, by decide +kernel⟩, List.mem_of_getElem? (i := 660) (by decide +kernel), List.mem_of_getElem? (i := 935) (by decide +kernel), List.mem_of_getElem? (i := 936) (by decide +kernel)⟩
theorem lw_p47 : lw_okq (⟨"WhichWordModel", "fits", "(II)Z"⟩, 31) := ⟨⟨by decide +kernel, by decide +kernel⟩, List.mem_of_getElem? (i := 660) (by decide +kernel), List.mem_of_getElem? (i := 955) (by decide +kernel), List.mem_of_getElem? (i := 956) (by decide +kernel)⟩
def lw_privs_3 : List (MethodName × Nat) := [(⟨"WhichWordModel", "readDoing", "(I)V"⟩, 31), (⟨"WhichWordModel", "readPlace", "(II)I"⟩, 31), (⟨"WhichWordModel", "findHas", "(I)V"⟩, 31), (⟨"WhichWordModel", "manyWith", "(II)I"⟩, 31), (⟨"WhichWordModel", "hasMark", "(III)Z"⟩, 31), (⟨"WhichWordModel", "isScene", "(I)Z"⟩, 31), (⟨"WhichWordModel", "saidIn", "(I)I"⟩, 31), (⟨"WhichWordModel", "isLeft", "(III)Z"⟩, 31), (⟨"WhichWordModel", "likelihoodOf", "(II)J"⟩, 31), (⟨"WhichWordModel", "isSet", "(I)Z"⟩, 31), (⟨"WhichWordModel", "findWords", "(I)V"⟩, 31), (⟨"WhichWordModel", "commonTo", "(I)I"⟩, 31), (⟨"WhichWordModel", "findFirst", "(I)Z"⟩, 31), (⟨"WhichWordModel", "canHave", "(I)Z"⟩, 31), (⟨"WhichWordModel", "isOneLeft", "(I)Z"⟩, 31), (⟨"WhichWordModel", "fits", "(II)Z"⟩, 31)]
theorem lw_r3 : ∀ q ∈ lw_privs_3, lw_okq q := List.forall_mem_cons.mpr ⟨lw_p32, List.forall_mem_cons.mpr ⟨lw_p33, List.forall_mem_cons.mpr ⟨lw_p34, List.forall_mem_cons.mpr ⟨lw_p35, List.forall_mem_cons.mpr ⟨lw_p36, List.forall_mem_cons.mpr ⟨lw_p37, List.forall_mem_cons.mpr ⟨lw_p38, List.forall_mem_cons.mpr ⟨lw_p39, List.forall_mem_cons.mpr ⟨lw_p40, List.forall_mem_cons.mpr ⟨lw_p41, List.forall_mem_cons.mpr ⟨lw_p42, List.forall_mem_cons.mpr ⟨lw_p43, List.forall_mem_cons.mpr ⟨lw_p44, List.forall_mem_cons.mpr ⟨lw_p45, List.forall_mem_cons.mpr ⟨lw_p46, List.forall_mem_cons.mpr ⟨lw_p47, fun _ h => absurd h List.not_mem_nil⟩⟩⟩⟩⟩⟩⟩⟩⟩⟩⟩⟩⟩⟩⟩⟩
theorem lw_p48 : lw_okq (⟨"WhichWordModel", "isDone", "(IIII)Z"⟩, 31) := ⟨⟨by decide +kernel, by decide +kernel⟩, List.mem_of_getElem? (i := 660) (by decide +kernel), List.mem_of_getElem? (i := 959) (by decide +kernel), List.mem_of_getElem? (i := 960) (by decide +kernel)⟩
theorem lw_p49 : lw_okq (⟨"WhichWordModel", "findShown", "(I)V"⟩, 31) := ⟨⟨by decide +kernel, by decide +kernel⟩, List.mem_of_getElem? (i := 660) (by decide +kernel), List.mem_of_getElem? (i := 973) (by decide +kernel), List.mem_of_getElem? (i := 974) (by decide +kernel)⟩
theorem lw_p50 : lw_okq (⟨"WhichWordModel", "findUnlike", "(I)V"⟩, 31) := ⟨⟨by decide +kernel, by decide +kernel⟩, List.mem_of_getElem? (i := 660) (by decide +kernel), List.mem_of_getElem? (i := 977) (by decide +kernel), List.mem_of_getElem? (i := 978) (by decide +kernel)⟩
theorem lw_p51 : lw_okq (⟨"WhichWordModel", "partsAll", "(I)Z"⟩, 31) := ⟨⟨by decide +kernel, by decide +kernel⟩, List.mem_of_getElem? (i := 660) (by decide +kernel), List.mem_of_getElem? (i := 981) (by decide +kernel), List.mem_of_getElem? (i := 982) (by decide +kernel)⟩
theorem lw_p52 : lw_okq (⟨"WhichWordModel", "scenesOf", "(I)I"⟩, 31) := ⟨⟨by decide +kernel, by decide +kernel⟩, List.mem_of_getElem? (i := 660) (by decide +kernel), List.mem_of_getElem? (i := 985) (by decide +kernel), List.mem_of_getElem? (i := 986) (by decide +kernel)⟩
theorem lw_p53 : lw_okq (⟨"WhichWordModel", "leftBy", "(II)I"⟩, 31) := ⟨⟨by decide +kernel, by decide +kernel⟩, List.mem_of_getElem? (i := 660) (by decide +kernel), List.mem_of_getElem? (i := 993) (by decide +kernel), List.mem_of_getElem? (i := 994) (by decide +kernel)⟩
theorem lw_p54 : lw_okq (⟨"WhichWordModel", "partOf", "(II)I"⟩, 31) := ⟨⟨by decide +kernel, by decide +kernel⟩, List.mem_of_getElem? (i := 660) (by decide +kernel), List.mem_of_getElem? (i := 1001) (by decide +kernel), List.mem_of_getElem? (i := 1002) (by decide +kernel)⟩
theorem lw_p55 : lw_okq (⟨"WhichWordModel", "moveAll", "()V"⟩, 31) := ⟨⟨by decide +kernel, by decide +kernel⟩, List.mem_of_getElem? (i := 660) (by decide +kernel), List.mem_of_getElem? (i := 1017) (by decide +kernel), List.mem_of_getElem? (i := 1018) (by decide +kernel)⟩
theorem lw_p56 : lw_okq (⟨"WhichWordModel", "move", "(I)I"⟩, 31) := ⟨⟨by decide +kernel, by decide +kernel⟩, List.mem_of_getElem? (i := 660) (by decide +kernel), List.mem_of_getElem? (i := 1021) (by decide +kernel), List.mem_of_getElem? (i := 1022) (by decide +kernel)⟩
def lw_privs_4 : List (MethodName × Nat) := [(⟨"WhichWordModel", "isDone", "(IIII)Z"⟩, 31), (⟨"WhichWordModel", "findShown", "(I)V"⟩, 31), (⟨"WhichWordModel", "findUnlike", "(I)V"⟩, 31), (⟨"WhichWordModel", "partsAll", "(I)Z"⟩, 31), (⟨"WhichWordModel", "scenesOf", "(I)I"⟩, 31), (⟨"WhichWordModel", "leftBy", "(II)I"⟩, 31), (⟨"WhichWordModel", "partOf", "(II)I"⟩, 31), (⟨"WhichWordModel", "moveAll", "()V"⟩, 31), (⟨"WhichWordModel", "move", "(I)I"⟩, 31)]
theorem lw_r4 : ∀ q ∈ lw_privs_4, lw_okq q := List.forall_mem_cons.mpr ⟨lw_p48, List.forall_mem_cons.mpr ⟨lw_p49, List.forall_mem_cons.mpr ⟨lw_p50, List.forall_mem_cons.mpr ⟨lw_p51, List.forall_mem_cons.mpr ⟨lw_p52, List.forall_mem_cons.mpr ⟨lw_p53, List.forall_mem_cons.mpr ⟨lw_p54, List.forall_mem_cons.mpr ⟨lw_p55, List.forall_mem_cons.mpr ⟨lw_p56, fun _ h => absurd h List.not_mem_nil⟩⟩⟩⟩⟩⟩⟩⟩⟩
def lw_privs : List (MethodName × Nat) := lw_privs_1 ++ (lw_privs_2 ++ (lw_privs_3 ++ (lw_privs_4)))
def lw_tbl : List Cond := k2_sels lw_privs ++ tables_1
theorem lw_privs_ok : ∀ q ∈ lw_privs, lw_okq q := by
  show ∀ q ∈ lw_privs_1 ++ (lw_privs_2 ++ (lw_privs_3 ++ (lw_privs_4))), lw_okq q
  exact List.forall_mem_append.mpr ⟨lw_r1, List.forall_mem_append.mpr ⟨lw_r2, List.forall_mem_append.mpr ⟨lw_r3, lw_r4⟩⟩⟩

def RX0 : String := "WhichWord$Chooser"
def TX0 : u_T := fun k => match k with
  | 0 => ("WhichWord$Chooser", "told", "LWhichWord$Told;", true)
  | 1 => ("WhichWord$Chooser", "unlike", "[I", true)
  | 2 => ("WhichWord$Chooser", "unlikeCount", "I", false)
  | 3 => ("WhichWord$Chooser", "sets", "[I", true)
  | _ => ("WhichWord$Chooser", "setCount", "I", false)
def tyX0 : Nat → FieldType := fun k => match k with
  | 0 => .object "WhichWord$Told"
  | 1 => .array .int
  | 2 => .int
  | 3 => .array .int
  | _ => .int
abbrev wsX00 : List Cond := u_ws RX0 TX0 5
theorem nmX0 : ∀ a, a < 5 → ∀ b, b < 5 → a ≠ b → (TX0 a).2.1 ≠ (TX0 b).2.1 := by decide +kernel
theorem tyX0_ok : ∀ k, k < 5 → parseFieldDescriptor (TX0 k).2.2.1 = some (tyX0 k) := by decide +kernel
abbrev cX0_init : ByteArray := prog_2_method_1_code
def yX0_init : MethodName := ⟨RX0, "<init>", "(LWhichWord$Told;)V"⟩
abbrev cX0_evenest : ByteArray := prog_2_method_2_code
def yX0_evenest : MethodName := ⟨RX0, "evenest", "(I)I"⟩
abbrev cX0_fewestParting : ByteArray := prog_2_method_3_code
def yX0_fewestParting : MethodName := ⟨RX0, "fewestParting", "(I)I"⟩
abbrev cX0_mostTelling : ByteArray := prog_2_method_4_code
def yX0_mostTelling : MethodName := ⟨RX0, "mostTelling", "(III)I"⟩
abbrev cX0_shownFor : ByteArray := prog_2_method_5_code
def yX0_shownFor : MethodName := ⟨RX0, "shownFor", "(I)I"⟩
abbrev cX0_firstShownFor : ByteArray := prog_2_method_6_code
def yX0_firstShownFor : MethodName := ⟨RX0, "firstShownFor", "(I)I"⟩
abbrev cX0_countLeftHad : ByteArray := prog_2_method_7_code
def yX0_countLeftHad : MethodName := ⟨RX0, "countLeftHad", "(II)I"⟩
abbrev cX0_listUnlike : ByteArray := prog_2_method_8_code
def yX0_listUnlike : MethodName := ⟨RX0, "listUnlike", "(II)V"⟩
abbrev cX0_addUnlike : ByteArray := prog_2_method_9_code
def yX0_addUnlike : MethodName := ⟨RX0, "addUnlike", "(I)V"⟩
abbrev cX0_partsAll : ByteArray := prog_2_method_10_code
def yX0_partsAll : MethodName := ⟨RX0, "partsAll", "(I)Z"⟩
abbrev cX0_listSets : ByteArray := prog_2_method_11_code
def yX0_listSets : MethodName := ⟨RX0, "listSets", "(II)V"⟩
abbrev cX0_addSets : ByteArray := prog_2_method_12_code
def yX0_addSets : MethodName := ⟨RX0, "addSets", "(IIII)V"⟩
def RX1 : String := "WhichWord$Giver"
def TX1 : u_T := fun k => match k with
  | 0 => ("WhichWord$Giver", "told", "LWhichWord$Told;", true)
  | _ => ("WhichWord$Giver", "leftCounts", "[I", true)
def tyX1 : Nat → FieldType := fun k => match k with
  | 0 => .object "WhichWord$Told"
  | _ => .array .int
abbrev wsX10 : List Cond := u_ws RX1 TX1 2
theorem nmX1 : ∀ a, a < 2 → ∀ b, b < 2 → a ≠ b → (TX1 a).2.1 ≠ (TX1 b).2.1 := by decide +kernel
theorem tyX1_ok : ∀ k, k < 2 → parseFieldDescriptor (TX1 k).2.2.1 = some (tyX1 k) := by decide +kernel
abbrev cX1_init : ByteArray := prog_3_method_1_code
def yX1_init : MethodName := ⟨RX1, "<init>", "(LWhichWord$Told;)V"⟩
abbrev cX1_countWays : ByteArray := prog_3_method_2_code
def yX1_countWays : MethodName := ⟨RX1, "countWays", "(I)I"⟩
abbrev cX1_firstFor : ByteArray := prog_3_method_3_code
def yX1_firstFor : MethodName := ⟨RX1, "firstFor", "(II)I"⟩
abbrev cX1_countLefts : ByteArray := prog_3_method_4_code
def yX1_countLefts : MethodName := ⟨RX1, "countLefts", "(I)V"⟩
abbrev cX1_leastFor : ByteArray := prog_3_method_5_code
def yX1_leastFor : MethodName := ⟨RX1, "leastFor", "(IIII)I"⟩
abbrev cX1_ways : ByteArray := prog_3_method_6_code
def yX1_ways : MethodName := ⟨RX1, "ways", "(III)I"⟩
abbrev cX1_lost : ByteArray := prog_3_method_7_code
def yX1_lost : MethodName := ⟨RX1, "lost", "(II)I"⟩
def RX2 : String := "WhichWord$Likely"
def TX2 : u_T := fun k => match k with
  | _ => ("WhichWord$Likely", "told", "LWhichWord$Told;", true)
def tyX2 : Nat → FieldType := fun k => match k with
  | _ => .object "WhichWord$Told"
abbrev wsX20 : List Cond := u_ws RX2 TX2 1
theorem nmX2 : ∀ a, a < 1 → ∀ b, b < 1 → a ≠ b → (TX2 a).2.1 ≠ (TX2 b).2.1 := by decide +kernel
theorem tyX2_ok : ∀ k, k < 1 → parseFieldDescriptor (TX2 k).2.2.1 = some (tyX2 k) := by decide +kernel
abbrev cX2_init : ByteArray := prog_4_method_1_code
def yX2_init : MethodName := ⟨RX2, "<init>", "(LWhichWord$Told;)V"⟩
abbrev cX2_of : ByteArray := prog_4_method_2_code
def yX2_of : MethodName := ⟨RX2, "of", "(II)J"⟩
abbrev cX2_latestSaid : ByteArray := prog_4_method_3_code
def yX2_latestSaid : MethodName := ⟨RX2, "latestSaid", "(I)I"⟩
abbrev cX2_ofAll : ByteArray := prog_4_method_4_code
def yX2_ofAll : MethodName := ⟨RX2, "ofAll", "(I)J"⟩
abbrev cX2_aboveLine : ByteArray := prog_4_method_5_code
def yX2_aboveLine : MethodName := ⟨RX2, "aboveLine", "(II)J"⟩
abbrev cX2_belowLine : ByteArray := prog_4_method_6_code
def yX2_belowLine : MethodName := ⟨RX2, "belowLine", "(II)J"⟩
abbrev cX2_commonDivisor : ByteArray := prog_4_method_7_code
def yX2_commonDivisor : MethodName := ⟨RX2, "commonDivisor", "(JJ)J"⟩
abbrev cX2_greatest : ByteArray := prog_4_method_8_code
def yX2_greatest : MethodName := ⟨RX2, "greatest", "(I)I"⟩
def RX3 : String := "WhichWord$Scene"
def TX3 : u_T := fun k => match k with
  | 0 => ("WhichWord$Scene", "things", "[I", true)
  | 1 => ("WhichWord$Scene", "doings", "[I", true)
  | 2 => ("WhichWord$Scene", "thingCount", "I", false)
  | _ => ("WhichWord$Scene", "doingCount", "I", false)
def tyX3 : Nat → FieldType := fun k => match k with
  | 0 => .array .int
  | 1 => .array .int
  | 2 => .int
  | _ => .int
abbrev wsX30 : List Cond := u_ws RX3 TX3 4
theorem nmX3 : ∀ a, a < 4 → ∀ b, b < 4 → a ≠ b → (TX3 a).2.1 ≠ (TX3 b).2.1 := by decide +kernel
theorem tyX3_ok : ∀ k, k < 4 → parseFieldDescriptor (TX3 k).2.2.1 = some (tyX3 k) := by decide +kernel
abbrev cX3_init : ByteArray := prog_5_method_1_code
def yX3_init : MethodName := ⟨RX3, "<init>", "()V"⟩
abbrev cX3_addThing : ByteArray := prog_5_method_2_code
def yX3_addThing : MethodName := ⟨RX3, "addThing", "(I)V"⟩
abbrev cX3_addDoing : ByteArray := prog_5_method_3_code
def yX3_addDoing : MethodName := ⟨RX3, "addDoing", "(I)V"⟩
abbrev cX3_thingAt : ByteArray := prog_5_method_4_code
def yX3_thingAt : MethodName := ⟨RX3, "thingAt", "(I)I"⟩
abbrev cX3_doingAt : ByteArray := prog_5_method_5_code
def yX3_doingAt : MethodName := ⟨RX3, "doingAt", "(I)I"⟩
abbrev cX3_holds : ByteArray := prog_5_method_6_code
def yX3_holds : MethodName := ⟨RX3, "holds", "(I)Z"⟩
abbrev cX3_holdsJoined : ByteArray := prog_5_method_7_code
def yX3_holdsJoined : MethodName := ⟨RX3, "holdsJoined", "(I)Z"⟩
abbrev cX3_countThings : ByteArray := prog_5_method_8_code
def yX3_countThings : MethodName := ⟨RX3, "countThings", "(II)I"⟩
abbrev cX3_isDone : ByteArray := prog_5_method_9_code
def yX3_isDone : MethodName := ⟨RX3, "isDone", "(III)Z"⟩
def RX4 : String := "WhichWord$Text"
def TX4 : u_T := fun k => match k with
  | 0 => ("WhichWord$Text", "bytes", "[I", true)
  | 1 => ("WhichWord$Text", "size", "I", false)
  | _ => ("WhichWord$Text", "place", "I", false)
def tyX4 : Nat → FieldType := fun k => match k with
  | 0 => .array .int
  | 1 => .int
  | _ => .int
abbrev wsX40 : List Cond := u_ws RX4 TX4 3
theorem nmX4 : ∀ a, a < 3 → ∀ b, b < 3 → a ≠ b → (TX4 a).2.1 ≠ (TX4 b).2.1 := by decide +kernel
theorem tyX4_ok : ∀ k, k < 3 → parseFieldDescriptor (TX4 k).2.2.1 = some (tyX4 k) := by decide +kernel
abbrev cX4_init : ByteArray := prog_6_method_1_code
def yX4_init : MethodName := ⟨RX4, "<init>", "()V"⟩
abbrev cX4_length : ByteArray := prog_6_method_2_code
def yX4_length : MethodName := ⟨RX4, "length", "()I"⟩
abbrev cX4_room : ByteArray := prog_6_method_3_code
def yX4_room : MethodName := ⟨RX4, "room", "()I"⟩
abbrev cX4_place : ByteArray := prog_6_method_4_code
def yX4_place : MethodName := ⟨RX4, "place", "()I"⟩
abbrev cX4_empty : ByteArray := prog_6_method_5_code
def yX4_empty : MethodName := ⟨RX4, "empty", "()V"⟩
abbrev cX4_append : ByteArray := prog_6_method_6_code
def yX4_append : MethodName := ⟨RX4, "append", "(IJ)I"⟩
abbrev cX4_readScene : ByteArray := prog_6_method_7_code
def yX4_readScene : MethodName := ⟨RX4, "readScene", "(LWhichWord$Scene;)Z"⟩
abbrev cX4_readThings : ByteArray := prog_6_method_8_code
def yX4_readThings : MethodName := ⟨RX4, "readThings", "(LWhichWord$Scene;)Z"⟩
abbrev cX4_readThing : ByteArray := prog_6_method_9_code
def yX4_readThing : MethodName := ⟨RX4, "readThing", "(LWhichWord$Scene;)Z"⟩
abbrev cX4_readDoings : ByteArray := prog_6_method_10_code
def yX4_readDoings : MethodName := ⟨RX4, "readDoings", "(LWhichWord$Scene;)Z"⟩
abbrev cX4_readDoing : ByteArray := prog_6_method_11_code
def yX4_readDoing : MethodName := ⟨RX4, "readDoing", "(LWhichWord$Scene;)Z"⟩
abbrev cX4_take : ByteArray := prog_6_method_12_code
def yX4_take : MethodName := ⟨RX4, "take", "(I)Z"⟩
abbrev cX4_takeOneOf : ByteArray := prog_6_method_13_code
def yX4_takeOneOf : MethodName := ⟨RX4, "takeOneOf", "(III)I"⟩
def RX5 : String := "WhichWord$Told"
def TX5 : u_T := fun k => match k with
  | 0 => ("WhichWord$Told", "emptyScene", "LWhichWord$Scene;", true)
  | 1 => ("WhichWord$Told", "scenes", "[LWhichWord$Scene;", true)
  | 2 => ("WhichWord$Told", "sceneCount", "I", false)
  | 3 => ("WhichWord$Told", "having", "[I", true)
  | 4 => ("WhichWord$Told", "saidIn", "[I", true)
  | 5 => ("WhichWord$Told", "weights", "[I", true)
  | 6 => ("WhichWord$Told", "hit", "I", false)
  | 7 => ("WhichWord$Told", "miss", "I", false)
  | 8 => ("WhichWord$Told", "given", "[I", true)
  | 9 => ("WhichWord$Told", "sayingScenes", "[I", true)
  | 10 => ("WhichWord$Told", "sayingWords", "[I", true)
  | _ => ("WhichWord$Told", "sayingCount", "I", false)
def tyX5 : Nat → FieldType := fun k => match k with
  | 0 => .object "WhichWord$Scene"
  | 1 => .array (.object "WhichWord$Scene")
  | 2 => .int
  | 3 => .array .int
  | 4 => .array .int
  | 5 => .array .int
  | 6 => .int
  | 7 => .int
  | 8 => .array .int
  | 9 => .array .int
  | 10 => .array .int
  | _ => .int
abbrev wsX50 : List Cond := u_ws RX5 TX5 12
theorem nmX5 : ∀ a, a < 12 → ∀ b, b < 12 → a ≠ b → (TX5 a).2.1 ≠ (TX5 b).2.1 := by decide +kernel
theorem tyX5_ok : ∀ k, k < 12 → parseFieldDescriptor (TX5 k).2.2.1 = some (tyX5 k) := by decide +kernel
abbrev cX5_init : ByteArray := prog_7_method_1_code
def yX5_init : MethodName := ⟨RX5, "<init>", "()V"⟩
abbrev cX5_copyFrom : ByteArray := prog_7_method_2_code
def yX5_copyFrom : MethodName := ⟨RX5, "copyFrom", "(LWhichWord$Told;)V"⟩
abbrev cX5_addScene : ByteArray := prog_7_method_3_code
def yX5_addScene : MethodName := ⟨RX5, "addScene", "(LWhichWord$Scene;)I"⟩
abbrev cX5_dropLatest : ByteArray := prog_7_method_4_code
def yX5_dropLatest : MethodName := ⟨RX5, "dropLatest", "()I"⟩
abbrev cX5_dropSayingsOf : ByteArray := prog_7_method_5_code
def yX5_dropSayingsOf : MethodName := ⟨RX5, "dropSayingsOf", "(I)V"⟩
abbrev cX5_tellSaid : ByteArray := prog_7_method_6_code
def yX5_tellSaid : MethodName := ⟨RX5, "tellSaid", "(IIZ)Z"⟩
abbrev cX5_addSaying : ByteArray := prog_7_method_7_code
def yX5_addSaying : MethodName := ⟨RX5, "addSaying", "(II)I"⟩
abbrev cX5_countThings : ByteArray := prog_7_method_8_code
def yX5_countThings : MethodName := ⟨RX5, "countThings", "()I"⟩
abbrev cX5_countDoings : ByteArray := prog_7_method_9_code
def yX5_countDoings : MethodName := ⟨RX5, "countDoings", "()I"⟩
abbrev cX5_countSaid : ByteArray := prog_7_method_10_code
def yX5_countSaid : MethodName := ⟨RX5, "countSaid", "()I"⟩
abbrev cX5_isLeft : ByteArray := prog_7_method_11_code
def yX5_isLeft : MethodName := ⟨RX5, "isLeft", "(III)Z"⟩
abbrev cX5_countLeft : ByteArray := prog_7_method_12_code
def yX5_countLeft : MethodName := ⟨RX5, "countLeft", "(II)I"⟩
abbrev cX5_leftAt : ByteArray := prog_7_method_13_code
def yX5_leftAt : MethodName := ⟨RX5, "leftAt", "(III)I"⟩
abbrev cX5_heaviestLeft : ByteArray := prog_7_method_14_code
def yX5_heaviestLeft : MethodName := ⟨RX5, "heaviestLeft", "(II)I"⟩
abbrev cX5_isTwo : ByteArray := prog_7_method_15_code
def yX5_isTwo : MethodName := ⟨RX5, "isTwo", "(III)Z"⟩
abbrev cX5_countTwos : ByteArray := prog_7_method_16_code
def yX5_countTwos : MethodName := ⟨RX5, "countTwos", "(I)I"⟩
abbrev cX5_firstTwo : ByteArray := prog_7_method_17_code
def yX5_firstTwo : MethodName := ⟨RX5, "firstTwo", "(I)I"⟩
abbrev cX5_countUnparted : ByteArray := prog_7_method_18_code
def yX5_countUnparted : MethodName := ⟨RX5, "countUnparted", "()I"⟩
abbrev cX5_fittingOrders : ByteArray := prog_7_method_19_code
def yX5_fittingOrders : MethodName := ⟨RX5, "fittingOrders", "()I"⟩
abbrev cX5_fits : ByteArray := prog_7_method_20_code
def yX5_fits : MethodName := ⟨RX5, "fits", "(LWhichWord$Scene;II)Z"⟩
abbrev cX5_isMark : ByteArray := prog_7_method_21_code
def yX5_isMark : MethodName := ⟨RX5, "isMark", "(I)Z"⟩
def RX6 : String := "WhichWord"
def TX6 : u_T := fun k => match k with
  | 0 => ("WhichWord", "text", "LWhichWord$Text;", true)
  | 1 => ("WhichWord", "told", "LWhichWord$Told;", true)
  | 2 => ("WhichWord", "kept", "LWhichWord$Told;", true)
  | 3 => ("WhichWord", "isKept", "Z", false)
  | 4 => ("WhichWord", "refusals", "[I", true)
  | 5 => ("WhichWord", "likely", "LWhichWord$Likely;", true)
  | 6 => ("WhichWord", "giver", "LWhichWord$Giver;", true)
  | _ => ("WhichWord", "chooser", "LWhichWord$Chooser;", true)
def tyX6 : Nat → FieldType := fun k => match k with
  | 0 => .object "WhichWord$Text"
  | 1 => .object "WhichWord$Told"
  | 2 => .object "WhichWord$Told"
  | 3 => .boolean
  | 4 => .array .int
  | 5 => .object "WhichWord$Likely"
  | 6 => .object "WhichWord$Giver"
  | _ => .object "WhichWord$Chooser"
abbrev wsX60 : List Cond := u_ws RX6 TX6 8
theorem nmX6 : ∀ a, a < 8 → ∀ b, b < 8 → a ≠ b → (TX6 a).2.1 ≠ (TX6 b).2.1 := by decide +kernel
theorem tyX6_ok : ∀ k, k < 8 → parseFieldDescriptor (TX6 k).2.2.1 = some (tyX6 k) := by decide +kernel
abbrev cX6_init : ByteArray := prog_1_method_1_code
def yX6_init : MethodName := ⟨RX6, "<init>", "()V"⟩
abbrev cX6_feed : ByteArray := prog_1_method_2_code
def yX6_feed : MethodName := ⟨RX6, "feed", "(IJ)I"⟩
abbrev cX6_scene : ByteArray := prog_1_method_3_code
def yX6_scene : MethodName := ⟨RX6, "scene", "()I"⟩
abbrev cX6_takeBack : ByteArray := prog_1_method_4_code
def yX6_takeBack : MethodName := ⟨RX6, "takeBack", "()I"⟩
abbrev cX6_thing : ByteArray := prog_1_method_5_code
def yX6_thing : MethodName := ⟨RX6, "thing", "(II)I"⟩
abbrev cX6_doing : ByteArray := prog_1_method_6_code
def yX6_doing : MethodName := ⟨RX6, "doing", "(II)I"⟩
abbrev cX6_say : ByteArray := prog_1_method_7_code
def yX6_say : MethodName := ⟨RX6, "say", "(IIZ)I"⟩
abbrev cX6_said : ByteArray := prog_1_method_8_code
def yX6_said : MethodName := ⟨RX6, "said", "(I)I"⟩
abbrev cX6_kind : ByteArray := prog_1_method_9_code
def yX6_kind : MethodName := ⟨RX6, "kind", "(I)I"⟩
abbrev cX6_weight : ByteArray := prog_1_method_10_code
def yX6_weight : MethodName := ⟨RX6, "weight", "(II)I"⟩
abbrev cX6_has : ByteArray := prog_1_method_11_code
def yX6_has : MethodName := ⟨RX6, "has", "(II)I"⟩
abbrev cX6_left : ByteArray := prog_1_method_12_code
def yX6_left : MethodName := ⟨RX6, "left", "(III)I"⟩
abbrev cX6_plainest : ByteArray := prog_1_method_13_code
def yX6_plainest : MethodName := ⟨RX6, "plainest", "(II)I"⟩
abbrev cX6_judge : ByteArray := prog_1_method_14_code
def yX6_judge : MethodName := ⟨RX6, "judge", "(II)I"⟩
abbrev cX6_set : ByteArray := prog_1_method_15_code
def yX6_set : MethodName := ⟨RX6, "set", "(II)I"⟩
abbrev cX6_likelihood : ByteArray := prog_1_method_16_code
def yX6_likelihood : MethodName := ⟨RX6, "likelihood", "(II)J"⟩
abbrev cX6_chance : ByteArray := prog_1_method_17_code
def yX6_chance : MethodName := ⟨RX6, "chance", "(III)J"⟩
abbrev cX6_likeliest : ByteArray := prog_1_method_18_code
def yX6_likeliest : MethodName := ⟨RX6, "likeliest", "(I)I"⟩
abbrev cX6_givings : ByteArray := prog_1_method_19_code
def yX6_givings : MethodName := ⟨RX6, "givings", "(I)I"⟩
abbrev cX6_giving : ByteArray := prog_1_method_20_code
def yX6_giving : MethodName := ⟨RX6, "giving", "(II)I"⟩
abbrev cX6_two : ByteArray := prog_1_method_21_code
def yX6_two : MethodName := ⟨RX6, "two", "(II)I"⟩
abbrev cX6_give : ByteArray := prog_1_method_22_code
def yX6_give : MethodName := ⟨RX6, "give", "(II)I"⟩
abbrev cX6_saying : ByteArray := prog_1_method_23_code
def yX6_saying : MethodName := ⟨RX6, "saying", "(II)I"⟩
abbrev cX6_orders : ByteArray := prog_1_method_24_code
def yX6_orders : MethodName := ⟨RX6, "orders", "()I"⟩
abbrev cX6_next : ByteArray := prog_1_method_25_code
def yX6_next : MethodName := ⟨RX6, "next", "(I)I"⟩
abbrev cX6_enough : ByteArray := prog_1_method_26_code
def yX6_enough : MethodName := ⟨RX6, "enough", "(I)I"⟩
abbrev cX6_help : ByteArray := prog_1_method_27_code
def yX6_help : MethodName := ⟨RX6, "help", "(III)I"⟩
abbrev cX6_never : ByteArray := prog_1_method_28_code
def yX6_never : MethodName := ⟨RX6, "never", "()I"⟩
abbrev cX6_same : ByteArray := prog_1_method_29_code
def yX6_same : MethodName := ⟨RX6, "same", "(II)I"⟩
abbrev cX6_part : ByteArray := prog_1_method_30_code
def yX6_part : MethodName := ⟨RX6, "part", "(II)I"⟩
abbrev cX6_image : ByteArray := prog_1_method_31_code
def yX6_image : MethodName := ⟨RX6, "image", "()I"⟩
abbrev cX6_restore : ByteArray := prog_1_method_32_code
def yX6_restore : MethodName := ⟨RX6, "restore", "()I"⟩
abbrev cX6_count : ByteArray := prog_1_method_33_code
def yX6_count : MethodName := ⟨RX6, "count", "(I)I"⟩
abbrev cX6_countRefusals : ByteArray := prog_1_method_34_code
def yX6_countRefusals : MethodName := ⟨RX6, "countRefusals", "(I)I"⟩
abbrev cX6_refuse : ByteArray := prog_1_method_35_code
def yX6_refuse : MethodName := ⟨RX6, "refuse", "(I)I"⟩
abbrev cX6_noScene : ByteArray := prog_1_method_36_code
def yX6_noScene : MethodName := ⟨RX6, "noScene", "(I)Z"⟩
abbrev cX6_noWord : ByteArray := prog_1_method_37_code
def yX6_noWord : MethodName := ⟨RX6, "noWord", "(I)Z"⟩
abbrev cX6_noMeaning : ByteArray := prog_1_method_38_code
def yX6_noMeaning : MethodName := ⟨RX6, "noMeaning", "(I)Z"⟩
abbrev cX6_noSetToGive : ByteArray := prog_1_method_39_code
def yX6_noSetToGive : MethodName := ⟨RX6, "noSetToGive", "(I)Z"⟩
abbrev cX6_noThreeWords : ByteArray := prog_1_method_40_code
def yX6_noThreeWords : MethodName := ⟨RX6, "noThreeWords", "(I)Z"⟩
abbrev cX6_wordAt : ByteArray := prog_1_method_41_code
def yX6_wordAt : MethodName := ⟨RX6, "wordAt", "(II)I"⟩
abbrev cX6_kindOf : ByteArray := prog_1_method_42_code
def yX6_kindOf : MethodName := ⟨RX6, "kindOf", "(I)I"⟩
abbrev cX6_isIn : ByteArray := prog_1_method_43_code
def yX6_isIn : MethodName := ⟨RX6, "isIn", "(II)Z"⟩
abbrev cX6_firstIn : ByteArray := prog_1_method_44_code
def yX6_firstIn : MethodName := ⟨RX6, "firstIn", "(I)I"⟩
def RX7 : String := "WhichWordModel"
def TX7 : u_T := fun k => match k with
  | 0 => ("WhichWordModel", "scenes", "I", false)
  | 1 => ("WhichWordModel", "thingMany", "[I", true)
  | 2 => ("WhichWordModel", "things", "[I", true)
  | 3 => ("WhichWordModel", "doingMany", "[I", true)
  | 4 => ("WhichWordModel", "doings", "[I", true)
  | 5 => ("WhichWordModel", "said", "[Z", true)
  | 6 => ("WhichWordModel", "has", "[Z", true)
  | 7 => ("WhichWordModel", "weights", "[I", true)
  | 8 => ("WhichWordModel", "hit", "I", false)
  | 9 => ("WhichWordModel", "miss", "I", false)
  | 10 => ("WhichWordModel", "given", "[I", true)
  | 11 => ("WhichWordModel", "sayings", "I", false)
  | 12 => ("WhichWordModel", "sayingScene", "[I", true)
  | 13 => ("WhichWordModel", "sayingWords", "[I", true)
  | 14 => ("WhichWordModel", "text", "[I", true)
  | 15 => ("WhichWordModel", "textMany", "I", false)
  | 16 => ("WhichWordModel", "refused", "[I", true)
  | 17 => ("WhichWordModel", "at", "I", false)
  | 18 => ("WhichWordModel", "end", "I", false)
  | 19 => ("WhichWordModel", "isBad", "Z", false)
  | 20 => ("WhichWordModel", "wordAt", "[I", true)
  | 21 => ("WhichWordModel", "wordMany", "I", false)
  | 22 => ("WhichWordModel", "first", "[I", true)
  | 23 => ("WhichWordModel", "shown", "[I", true)
  | 24 => ("WhichWordModel", "shownMany", "I", false)
  | 25 => ("WhichWordModel", "unlike", "[I", true)
  | 26 => ("WhichWordModel", "unlikeMany", "I", false)
  | 27 => ("WhichWordModel", "hasImage", "Z", false)
  | 28 => ("WhichWordModel", "imaged", "[I", true)
  | 29 => ("WhichWordModel", "imageAt", "I", false)
  | _ => ("WhichWordModel", "isTaking", "Z", false)
def tyX7 : Nat → FieldType := fun k => match k with
  | 0 => .int
  | 1 => .array .int
  | 2 => .array .int
  | 3 => .array .int
  | 4 => .array .int
  | 5 => .array .boolean
  | 6 => .array .boolean
  | 7 => .array .int
  | 8 => .int
  | 9 => .int
  | 10 => .array .int
  | 11 => .int
  | 12 => .array .int
  | 13 => .array .int
  | 14 => .array .int
  | 15 => .int
  | 16 => .array .int
  | 17 => .int
  | 18 => .int
  | 19 => .boolean
  | 20 => .array .int
  | 21 => .int
  | 22 => .array .int
  | 23 => .array .int
  | 24 => .int
  | 25 => .array .int
  | 26 => .int
  | 27 => .boolean
  | 28 => .array .int
  | 29 => .int
  | _ => .boolean
abbrev wsX70 : List Cond := u_ws RX7 TX7 31
theorem nmX7 : ∀ a, a < 31 → ∀ b, b < 31 → a ≠ b → (TX7 a).2.1 ≠ (TX7 b).2.1 := by decide +kernel
theorem tyX7_ok : ∀ k, k < 31 → parseFieldDescriptor (TX7 k).2.2.1 = some (tyX7 k) := by decide +kernel
abbrev cX7_init : ByteArray := prog_9_method_1_code
def yX7_init : MethodName := ⟨RX7, "<init>", "()V"⟩
abbrev cX7_in : ByteArray := prog_9_method_3_code
def yX7_in : MethodName := ⟨RX7, "in", "(JJJ)Z"⟩
abbrev cX7_refuse : ByteArray := prog_9_method_4_code
def yX7_refuse : MethodName := ⟨RX7, "refuse", "(I)I"⟩
abbrev cX7_isScene : ByteArray := prog_9_method_5_code
def yX7_isScene : MethodName := ⟨RX7, "isScene", "(I)Z"⟩
abbrev cX7_isWord : ByteArray := prog_9_method_6_code
def yX7_isWord : MethodName := ⟨RX7, "isWord", "(I)Z"⟩
abbrev cX7_isMeaning : ByteArray := prog_9_method_7_code
def yX7_isMeaning : MethodName := ⟨RX7, "isMeaning", "(I)Z"⟩
abbrev cX7_ones : ByteArray := prog_9_method_8_code
def yX7_ones : MethodName := ⟨RX7, "ones", "(I)I"⟩
abbrev cX7_feed : ByteArray := prog_9_method_9_code
def yX7_feed : MethodName := ⟨RX7, "feed", "(IJ)I"⟩
abbrev cX7_here : ByteArray := prog_9_method_10_code
def yX7_here : MethodName := ⟨RX7, "here", "()I"⟩
abbrev cX7_readThing : ByteArray := prog_9_method_11_code
def yX7_readThing : MethodName := ⟨RX7, "readThing", "(I)V"⟩
abbrev cX7_readPlace : ByteArray := prog_9_method_12_code
def yX7_readPlace : MethodName := ⟨RX7, "readPlace", "(II)I"⟩
abbrev cX7_readDoing : ByteArray := prog_9_method_13_code
def yX7_readDoing : MethodName := ⟨RX7, "readDoing", "(I)V"⟩
abbrev cX7_readScene : ByteArray := prog_9_method_14_code
def yX7_readScene : MethodName := ⟨RX7, "readScene", "(I)V"⟩
abbrev cX7_scene : ByteArray := prog_9_method_15_code
def yX7_scene : MethodName := ⟨RX7, "scene", "()I"⟩
abbrev cX7_hasMark : ByteArray := prog_9_method_16_code
def yX7_hasMark : MethodName := ⟨RX7, "hasMark", "(III)Z"⟩
abbrev cX7_manyWith : ByteArray := prog_9_method_17_code
def yX7_manyWith : MethodName := ⟨RX7, "manyWith", "(II)I"⟩
abbrev cX7_findHas : ByteArray := prog_9_method_18_code
def yX7_findHas : MethodName := ⟨RX7, "findHas", "(I)V"⟩
abbrev cX7_kindOf : ByteArray := prog_9_method_19_code
def yX7_kindOf : MethodName := ⟨RX7, "kindOf", "(I)I"⟩
abbrev cX7_takeBack : ByteArray := prog_9_method_20_code
def yX7_takeBack : MethodName := ⟨RX7, "takeBack", "()I"⟩
abbrev cX7_thing : ByteArray := prog_9_method_21_code
def yX7_thing : MethodName := ⟨RX7, "thing", "(II)I"⟩
abbrev cX7_doing : ByteArray := prog_9_method_22_code
def yX7_doing : MethodName := ⟨RX7, "doing", "(II)I"⟩
abbrev cX7_say : ByteArray := prog_9_method_23_code
def yX7_say : MethodName := ⟨RX7, "say", "(IIZ)I"⟩
abbrev cX7_saidIn : ByteArray := prog_9_method_24_code
def yX7_saidIn : MethodName := ⟨RX7, "saidIn", "(I)I"⟩
abbrev cX7_said : ByteArray := prog_9_method_25_code
def yX7_said : MethodName := ⟨RX7, "said", "(I)I"⟩
abbrev cX7_kind : ByteArray := prog_9_method_26_code
def yX7_kind : MethodName := ⟨RX7, "kind", "(I)I"⟩
abbrev cX7_weight : ByteArray := prog_9_method_27_code
def yX7_weight : MethodName := ⟨RX7, "weight", "(II)I"⟩
abbrev cX7_has : ByteArray := prog_9_method_28_code
def yX7_has : MethodName := ⟨RX7, "has", "(II)I"⟩
abbrev cX7_isLeft : ByteArray := prog_9_method_29_code
def yX7_isLeft : MethodName := ⟨RX7, "isLeft", "(III)Z"⟩
abbrev cX7_left : ByteArray := prog_9_method_30_code
def yX7_left : MethodName := ⟨RX7, "left", "(III)I"⟩
abbrev cX7_plainest : ByteArray := prog_9_method_31_code
def yX7_plainest : MethodName := ⟨RX7, "plainest", "(II)I"⟩
abbrev cX7_judge : ByteArray := prog_9_method_32_code
def yX7_judge : MethodName := ⟨RX7, "judge", "(II)I"⟩
abbrev cX7_set : ByteArray := prog_9_method_33_code
def yX7_set : MethodName := ⟨RX7, "set", "(II)I"⟩
abbrev cX7_likelihoodOf : ByteArray := prog_9_method_34_code
def yX7_likelihoodOf : MethodName := ⟨RX7, "likelihoodOf", "(II)J"⟩
abbrev cX7_likelihood : ByteArray := prog_9_method_35_code
def yX7_likelihood : MethodName := ⟨RX7, "likelihood", "(II)J"⟩
abbrev cX7_divisor : ByteArray := prog_9_method_36_code
def yX7_divisor : MethodName := ⟨RX7, "divisor", "(JJ)J"⟩
abbrev cX7_chance : ByteArray := prog_9_method_37_code
def yX7_chance : MethodName := ⟨RX7, "chance", "(III)J"⟩
abbrev cX7_likeliest : ByteArray := prog_9_method_38_code
def yX7_likeliest : MethodName := ⟨RX7, "likeliest", "(I)I"⟩
abbrev cX7_isSet : ByteArray := prog_9_method_39_code
def yX7_isSet : MethodName := ⟨RX7, "isSet", "(I)Z"⟩
abbrev cX7_findWords : ByteArray := prog_9_method_40_code
def yX7_findWords : MethodName := ⟨RX7, "findWords", "(I)V"⟩
abbrev cX7_commonTo : ByteArray := prog_9_method_41_code
def yX7_commonTo : MethodName := ⟨RX7, "commonTo", "(I)I"⟩
abbrev cX7_givings : ByteArray := prog_9_method_42_code
def yX7_givings : MethodName := ⟨RX7, "givings", "(I)I"⟩
abbrev cX7_findFirst : ByteArray := prog_9_method_43_code
def yX7_findFirst : MethodName := ⟨RX7, "findFirst", "(I)Z"⟩
abbrev cX7_canHave : ByteArray := prog_9_method_44_code
def yX7_canHave : MethodName := ⟨RX7, "canHave", "(I)Z"⟩
abbrev cX7_isOneLeft : ByteArray := prog_9_method_45_code
def yX7_isOneLeft : MethodName := ⟨RX7, "isOneLeft", "(I)Z"⟩
abbrev cX7_giving : ByteArray := prog_9_method_46_code
def yX7_giving : MethodName := ⟨RX7, "giving", "(II)I"⟩
abbrev cX7_two : ByteArray := prog_9_method_47_code
def yX7_two : MethodName := ⟨RX7, "two", "(II)I"⟩
abbrev cX7_give : ByteArray := prog_9_method_48_code
def yX7_give : MethodName := ⟨RX7, "give", "(II)I"⟩
abbrev cX7_saying : ByteArray := prog_9_method_49_code
def yX7_saying : MethodName := ⟨RX7, "saying", "(II)I"⟩
abbrev cX7_isDone : ByteArray := prog_9_method_50_code
def yX7_isDone : MethodName := ⟨RX7, "isDone", "(IIII)Z"⟩
abbrev cX7_fits : ByteArray := prog_9_method_51_code
def yX7_fits : MethodName := ⟨RX7, "fits", "(II)Z"⟩
abbrev cX7_orders : ByteArray := prog_9_method_52_code
def yX7_orders : MethodName := ⟨RX7, "orders", "()I"⟩
abbrev cX7_next : ByteArray := prog_9_method_53_code
def yX7_next : MethodName := ⟨RX7, "next", "(I)I"⟩
abbrev cX7_findShown : ByteArray := prog_9_method_54_code
def yX7_findShown : MethodName := ⟨RX7, "findShown", "(I)V"⟩
abbrev cX7_findUnlike : ByteArray := prog_9_method_55_code
def yX7_findUnlike : MethodName := ⟨RX7, "findUnlike", "(I)V"⟩
abbrev cX7_partsAll : ByteArray := prog_9_method_56_code
def yX7_partsAll : MethodName := ⟨RX7, "partsAll", "(I)Z"⟩
abbrev cX7_scenesOf : ByteArray := prog_9_method_57_code
def yX7_scenesOf : MethodName := ⟨RX7, "scenesOf", "(I)I"⟩
abbrev cX7_enough : ByteArray := prog_9_method_58_code
def yX7_enough : MethodName := ⟨RX7, "enough", "(I)I"⟩
abbrev cX7_help : ByteArray := prog_9_method_59_code
def yX7_help : MethodName := ⟨RX7, "help", "(III)I"⟩
abbrev cX7_leftBy : ByteArray := prog_9_method_60_code
def yX7_leftBy : MethodName := ⟨RX7, "leftBy", "(II)I"⟩
abbrev cX7_partOf : ByteArray := prog_9_method_61_code
def yX7_partOf : MethodName := ⟨RX7, "partOf", "(II)I"⟩
abbrev cX7_never : ByteArray := prog_9_method_62_code
def yX7_never : MethodName := ⟨RX7, "never", "()I"⟩
abbrev cX7_same : ByteArray := prog_9_method_63_code
def yX7_same : MethodName := ⟨RX7, "same", "(II)I"⟩
abbrev cX7_part : ByteArray := prog_9_method_64_code
def yX7_part : MethodName := ⟨RX7, "part", "(II)I"⟩
abbrev cX7_move : ByteArray := prog_9_method_65_code
def yX7_move : MethodName := ⟨RX7, "move", "(I)I"⟩
abbrev cX7_moveAll : ByteArray := prog_9_method_66_code
def yX7_moveAll : MethodName := ⟨RX7, "moveAll", "()V"⟩
abbrev cX7_image : ByteArray := prog_9_method_67_code
def yX7_image : MethodName := ⟨RX7, "image", "()I"⟩
abbrev cX7_restore : ByteArray := prog_9_method_68_code
def yX7_restore : MethodName := ⟨RX7, "restore", "()I"⟩
abbrev cX7_count : ByteArray := prog_9_method_69_code
def yX7_count : MethodName := ⟨RX7, "count", "(I)I"⟩
def RJ6 : String := "java/lang/Integer"
abbrev cJ6_bitCount_0f7a4 : ByteArray := prog_10_method_49_code
def RJ9 : String := "java/lang/Math"
abbrev cJ9_max_7cf53 : ByteArray := prog_11_method_65_code
def RJ10 : String := "java/lang/System"
def RJ7 : String := "java/util/Arrays"
abbrev cJ7_fill_53178 : ByteArray := prog_13_method_103_code
def RL : String := "WhichWordLaw"
abbrev cL_law : ByteArray := code
def yL_law : MethodName := ⟨RL, "law", "([I)Z"⟩
abbrev vwCl : List vw_C := [(RX0, TX0, 5), (RX1, TX1, 2), (RX2, TX2, 1), (RX3, TX3, 4), (RX4, TX4, 3), (RX5, TX5, 12), (RX6, TX6, 8), (RX7, TX7, 31)]
