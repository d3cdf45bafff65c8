section
-- ===== PART A: goes FIRST, ahead of the names: the tables' words, and 'selects' of the private methods out of them =====
/-- a private method of a class that the tables say can be made, by its rows of tables_1 -/
def lw_okq (q : MethodName × Nat) : Prop := (q.1.cls ≠ "java/lang/invoke/MethodHandle" ∧ q.1.cls ≠ "java/lang/invoke/VarHandle") ∧ Cond.instantiable q.1.cls q.2 ∈ tables_1 ∧ Cond.privateMethod q.1 ∈ tables_1 ∧ Cond.instanceMethod q.1 ∈ tables_1
theorem lw_p0 : lw_okq (⟨"WhichWord", "refuse", "(I)I"⟩, 8) := ⟨⟨by decide +kernel, by decide +kernel⟩, List.mem_of_getElem? (i := 14) (by decide +kernel), List.mem_of_getElem? (i := 199) (by decide +kernel), List.mem_of_getElem? (i := 200) (by decide +kernel)⟩
theorem lw_p1 : lw_okq (⟨"WhichWord$Text", "readThings", "(LWhichWord$Scene;)Z"⟩, 3) := ⟨⟨by decide +kernel, by decide +kernel⟩, List.mem_of_getElem? (i := 22) (by decide +kernel), List.mem_of_getElem? (i := 221) (by decide +kernel), List.mem_of_getElem? (i := 222) (by decide +kernel)⟩
theorem lw_p2 : lw_okq (⟨"WhichWord$Text", "readThing", "(LWhichWord$Scene;)Z"⟩, 3) := ⟨⟨by decide +kernel, by decide +kernel⟩, List.mem_of_getElem? (i := 22) (by decide +kernel), List.mem_of_getElem? (i := 225) (by decide +kernel), List.mem_of_getElem? (i := 226) (by decide +kernel)⟩
theorem lw_p3 : lw_okq (⟨"WhichWord$Text", "take", "(I)Z"⟩, 3) := ⟨⟨by decide +kernel, by decide +kernel⟩, List.mem_of_getElem? (i := 22) (by decide +kernel), List.mem_of_getElem? (i := 229) (by decide +kernel), List.mem_of_getElem? (i := 230) (by decide +kernel)⟩
theorem lw_p4 : lw_okq (⟨"WhichWord$Text", "takeOneOf", "(III)I"⟩, 3) := ⟨⟨by decide +kernel, by decide +kernel⟩, List.mem_of_getElem? (i := 22) (by decide +kernel), List.mem_of_getElem? (i := 233) (by decide +kernel), List.mem_of_getElem? (i := 234) (by decide +kernel)⟩
theorem lw_p5 : lw_okq (⟨"WhichWord$Text", "readDoings", "(LWhichWord$Scene;)Z"⟩, 3) := ⟨⟨by decide +kernel, by decide +kernel⟩, List.mem_of_getElem? (i := 22) (by decide +kernel), List.mem_of_getElem? (i := 241) (by decide +kernel), List.mem_of_getElem? (i := 242) (by decide +kernel)⟩
theorem lw_p6 : lw_okq (⟨"WhichWord$Text", "readDoing", "(LWhichWord$Scene;)Z"⟩, 3) := ⟨⟨by decide +kernel, by decide +kernel⟩, List.mem_of_getElem? (i := 22) (by decide +kernel), List.mem_of_getElem? (i := 245) (by decide +kernel), List.mem_of_getElem? (i := 246) (by decide +kernel)⟩
theorem lw_p7 : lw_okq (⟨"WhichWord$Scene", "countThings", "(II)I"⟩, 4) := ⟨⟨by decide +kernel, by decide +kernel⟩, List.mem_of_getElem? (i := 45) (by decide +kernel), List.mem_of_getElem? (i := 275) (by decide +kernel), List.mem_of_getElem? (i := 276) (by decide +kernel)⟩
theorem lw_p8 : lw_okq (⟨"WhichWord$Scene", "holdsJoined", "(I)Z"⟩, 4) := ⟨⟨by decide +kernel, by decide +kernel⟩, List.mem_of_getElem? (i := 45) (by decide +kernel), List.mem_of_getElem? (i := 283) (by decide +kernel), List.mem_of_getElem? (i := 284) (by decide +kernel)⟩
theorem lw_p9 : lw_okq (⟨"WhichWord$Told", "dropSayingsOf", "(I)V"⟩, 12) := ⟨⟨by decide +kernel, by decide +kernel⟩, List.mem_of_getElem? (i := 39) (by decide +kernel), List.mem_of_getElem? (i := 305) (by decide +kernel), List.mem_of_getElem? (i := 306) (by decide +kernel)⟩
theorem lw_p10 : lw_okq (⟨"WhichWord", "noScene", "(I)Z"⟩, 8) := ⟨⟨by decide +kernel, by decide +kernel⟩, List.mem_of_getElem? (i := 14) (by decide +kernel), List.mem_of_getElem? (i := 313) (by decide +kernel), List.mem_of_getElem? (i := 314) (by decide +kernel)⟩
theorem lw_p11 : lw_okq (⟨"WhichWord$Likely", "latestSaid", "(I)I"⟩, 1) := ⟨⟨by decide +kernel, by decide +kernel⟩, List.mem_of_getElem? (i := 125) (by decide +kernel), List.mem_of_getElem? (i := 410) (by decide +kernel), List.mem_of_getElem? (i := 411) (by decide +kernel)⟩
theorem lw_p12 : lw_okq (⟨"WhichWord$Likely", "ofAll", "(I)J"⟩, 1) := ⟨⟨by decide +kernel, by decide +kernel⟩, List.mem_of_getElem? (i := 125) (by decide +kernel), List.mem_of_getElem? (i := 425) (by decide +kernel), List.mem_of_getElem? (i := 426) (by decide +kernel)⟩
theorem lw_p13 : lw_okq (⟨"WhichWord$Giver", "countLefts", "(I)V"⟩, 2) := ⟨⟨by decide +kernel, by decide +kernel⟩, List.mem_of_getElem? (i := 135) (by decide +kernel), List.mem_of_getElem? (i := 456) (by decide +kernel), List.mem_of_getElem? (i := 457) (by decide +kernel)⟩
theorem lw_p14 : lw_okq (⟨"WhichWord$Giver", "ways", "(III)I"⟩, 2) := ⟨⟨by decide +kernel, by decide +kernel⟩, List.mem_of_getElem? (i := 135) (by decide +kernel), List.mem_of_getElem? (i := 462) (by decide +kernel), List.mem_of_getElem? (i := 463) (by decide +kernel)⟩
theorem lw_p15 : lw_okq (⟨"WhichWord$Giver", "lost", "(II)I"⟩, 2) := ⟨⟨by decide +kernel, by decide +kernel⟩, List.mem_of_getElem? (i := 135) (by decide +kernel), List.mem_of_getElem? (i := 468) (by decide +kernel), List.mem_of_getElem? (i := 469) (by decide +kernel)⟩
def lw_privs_1 : List (MethodName × Nat) := [(⟨"WhichWord", "refuse", "(I)I"⟩, 8), (⟨"WhichWord$Text", "readThings", "(LWhichWord$Scene;)Z"⟩, 3), (⟨"WhichWord$Text", "readThing", "(LWhichWord$Scene;)Z"⟩, 3), (⟨"WhichWord$Text", "take", "(I)Z"⟩, 3), (⟨"WhichWord$Text", "takeOneOf", "(III)I"⟩, 3), (⟨"WhichWord$Text", "readDoings", "(LWhichWord$Scene;)Z"⟩, 3), (⟨"WhichWord$Text", "readDoing", "(LWhichWord$Scene;)Z"⟩, 3), (⟨"WhichWord$Scene", "countThings", "(II)I"⟩, 4), (⟨"WhichWord$Scene", "holdsJoined", "(I)Z"⟩, 4), (⟨"WhichWord$Told", "dropSayingsOf", "(I)V"⟩, 12), (⟨"WhichWord", "noScene", "(I)Z"⟩, 8), (⟨"WhichWord$Likely", "latestSaid", "(I)I"⟩, 1), (⟨"WhichWord$Likely", "ofAll", "(I)J"⟩, 1), (⟨"WhichWord$Giver", "countLefts", "(I)V"⟩, 2), (⟨"WhichWord$Giver", "ways", "(III)I"⟩, 2), (⟨"WhichWord$Giver", "lost", "(II)I"⟩, 2)]
theorem lw_r1 : ∀ q ∈ lw_privs_1, lw_okq q := List.forall_mem_cons.mpr ⟨lw_p0, List.forall_mem_cons.mpr ⟨lw_p1, List.forall_mem_cons.mpr ⟨lw_p2, List.forall_mem_cons.mpr ⟨lw_p3, List.forall_mem_cons.mpr ⟨lw_p4, List.forall_mem_cons.mpr ⟨lw_p5, List.forall_mem_cons.mpr ⟨lw_p6, List.forall_mem_cons.mpr ⟨lw_p7, List.forall_mem_cons.mpr ⟨lw_p8, List.forall_mem_cons.mpr ⟨lw_p9, List.forall_mem_cons.mpr ⟨lw_p10, List.forall_mem_cons.mpr ⟨lw_p11, List.forall_mem_cons.mpr ⟨lw_p12, List.forall_mem_cons.mpr ⟨lw_p13, List.forall_mem_cons.mpr ⟨lw_p14, List.forall_mem_cons.mpr ⟨lw_p15, fun _ h => absurd h List.not_mem_nil⟩⟩⟩⟩⟩⟩⟩⟩⟩⟩⟩⟩⟩⟩⟩⟩
theorem lw_p16 : lw_okq (⟨"WhichWord$Giver", "leastFor", "(IIII)I"⟩, 2) := ⟨⟨by decide +kernel, by decide +kernel⟩, List.mem_of_getElem? (i := 135) (by decide +kernel), List.mem_of_getElem? (i := 481) (by decide +kernel), List.mem_of_getElem? (i := 482) (by decide +kernel)⟩
theorem lw_p17 : lw_okq (⟨"WhichWord$Told", "isTwo", "(III)Z"⟩, 12) := ⟨⟨by decide +kernel, by decide +kernel⟩, List.mem_of_getElem? (i := 39) (by decide +kernel), List.mem_of_getElem? (i := 493) (by decide +kernel), List.mem_of_getElem? (i := 494) (by decide +kernel)⟩
theorem lw_p18 : lw_okq (⟨"WhichWord$Told", "fits", "(LWhichWord$Scene;II)Z"⟩, 12) := ⟨⟨by decide +kernel, by decide +kernel⟩, List.mem_of_getElem? (i := 39) (by decide +kernel), List.mem_of_getElem? (i := 527) (by decide +kernel), List.mem_of_getElem? (i := 528) (by decide +kernel)⟩
theorem lw_p19 : lw_okq (⟨"WhichWord$Chooser", "shownFor", "(I)I"⟩, 5) := ⟨⟨by decide +kernel, by decide +kernel⟩, List.mem_of_getElem? (i := 148) (by decide +kernel), List.mem_of_getElem? (i := 550) (by decide +kernel), List.mem_of_getElem? (i := 551) (by decide +kernel)⟩
theorem lw_p20 : lw_okq (⟨"WhichWord$Chooser", "countLeftHad", "(II)I"⟩, 5) := ⟨⟨by decide +kernel, by decide +kernel⟩, List.mem_of_getElem? (i := 148) (by decide +kernel), List.mem_of_getElem? (i := 556) (by decide +kernel), List.mem_of_getElem? (i := 557) (by decide +kernel)⟩
theorem lw_p21 : lw_okq (⟨"WhichWord$Chooser", "firstShownFor", "(I)I"⟩, 5) := ⟨⟨by decide +kernel, by decide +kernel⟩, List.mem_of_getElem? (i := 148) (by decide +kernel), List.mem_of_getElem? (i := 572) (by decide +kernel), List.mem_of_getElem? (i := 573) (by decide +kernel)⟩
theorem lw_p22 : lw_okq (⟨"WhichWord$Chooser", "listUnlike", "(II)V"⟩, 5) := ⟨⟨by decide +kernel, by decide +kernel⟩, List.mem_of_getElem? (i := 148) (by decide +kernel), List.mem_of_getElem? (i := 576) (by decide +kernel), List.mem_of_getElem? (i := 577) (by decide +kernel)⟩
theorem lw_p23 : lw_okq (⟨"WhichWord$Chooser", "addUnlike", "(I)V"⟩, 5) := ⟨⟨by decide +kernel, by decide +kernel⟩, List.mem_of_getElem? (i := 148) (by decide +kernel), List.mem_of_getElem? (i := 580) (by decide +kernel), List.mem_of_getElem? (i := 581) (by decide +kernel)⟩
theorem lw_p24 : lw_okq (⟨"WhichWord$Chooser", "listSets", "(II)V"⟩, 5) := ⟨⟨by decide +kernel, by decide +kernel⟩, List.mem_of_getElem? (i := 148) (by decide +kernel), List.mem_of_getElem? (i := 584) (by decide +kernel), List.mem_of_getElem? (i := 585) (by decide +kernel)⟩
theorem lw_p25 : lw_okq (⟨"WhichWord$Chooser", "addSets", "(IIII)V"⟩, 5) := ⟨⟨by decide +kernel, by decide +kernel⟩, List.mem_of_getElem? (i := 148) (by decide +kernel), List.mem_of_getElem? (i := 588) (by decide +kernel), List.mem_of_getElem? (i := 589) (by decide +kernel)⟩
theorem lw_p26 : lw_okq (⟨"WhichWord$Chooser", "partsAll", "(I)Z"⟩, 5) := ⟨⟨by decide +kernel, by decide +kernel⟩, List.mem_of_getElem? (i := 148) (by decide +kernel), List.mem_of_getElem? (i := 592) (by decide +kernel), List.mem_of_getElem? (i := 593) (by decide +kernel)⟩
theorem lw_p27 : lw_okq (⟨"WhichWord", "countRefusals", "(I)I"⟩, 8) := ⟨⟨by decide +kernel, by decide +kernel⟩, List.mem_of_getElem? (i := 14) (by decide +kernel), List.mem_of_getElem? (i := 656) (by decide +kernel), List.mem_of_getElem? (i := 657) (by decide +kernel)⟩
theorem lw_p28 : lw_okq (⟨"WhichWordModel", "refuse", "(I)I"⟩, 31) := ⟨⟨by decide +kernel, by decide +kernel⟩, List.mem_of_getElem? (i := 660) (by decide +kernel), List.mem_of_getElem? (i := 765) (by decide +kernel), List.mem_of_getElem? (i := 766) (by decide +kernel)⟩
theorem lw_p29 : lw_okq (⟨"WhichWordModel", "readScene", "(I)V"⟩, 31) := ⟨⟨by decide +kernel, by decide +kernel⟩, List.mem_of_getElem? (i := 660) (by decide +kernel), List.mem_of_getElem? (i := 774) (by decide +kernel), List.mem_of_getElem? (i := 775) (by decide +kernel)⟩
theorem lw_p30 : lw_okq (⟨"WhichWordModel", "readThing", "(I)V"⟩, 31) := ⟨⟨by decide +kernel, by decide +kernel⟩, List.mem_of_getElem? (i := 660) (by decide +kernel), List.mem_of_getElem? (i := 778) (by decide +kernel), List.mem_of_getElem? (i := 779) (by decide +kernel)⟩
theorem lw_p31 : lw_okq (⟨"WhichWordModel", "here", "()I"⟩, 31) := ⟨⟨by decide +kernel, by decide +kernel⟩, List.mem_of_getElem? (i := 660) (by decide +kernel), List.mem_of_getElem? (i := 782) (by decide +kernel), List.mem_of_getElem? (i := 783) (by decide +kernel)⟩
def lw_privs_2 : List (MethodName × Nat) := [(⟨"WhichWord$Giver", "leastFor", "(IIII)I"⟩, 2), (⟨"WhichWord$Told", "isTwo", "(III)Z"⟩, 12), (⟨"WhichWord$Told", "fits", "(LWhichWord$Scene;II)Z"⟩, 12), (⟨"WhichWord$Chooser", "shownFor", "(I)I"⟩, 5), (⟨"WhichWord$Chooser", "countLeftHad", "(II)I"⟩, 5), (⟨"WhichWord$Chooser", "firstShownFor", "(I)I"⟩, 5), (⟨"WhichWord$Chooser", "listUnlike", "(II)V"⟩, 5), (⟨"WhichWord$Chooser", "addUnlike", "(I)V"⟩, 5), (⟨"WhichWord$Chooser", "listSets", "(II)V"⟩, 5), (⟨"WhichWord$Chooser", "addSets", "(IIII)V"⟩, 5), (⟨"WhichWord$Chooser", "partsAll", "(I)Z"⟩, 5), (⟨"WhichWord", "countRefusals", "(I)I"⟩, 8), (⟨"WhichWordModel", "refuse", "(I)I"⟩, 31), (⟨"WhichWordModel", "readScene", "(I)V"⟩, 31), (⟨"WhichWordModel", "readThing", "(I)V"⟩, 31), (⟨"WhichWordModel", "here", "()I"⟩, 31)]
theorem lw_r2 : ∀ q ∈ lw_privs_2, lw_okq q := List.forall_mem_cons.mpr ⟨lw_p16, List.forall_mem_cons.mpr ⟨lw_p17, List.forall_mem_cons.mpr ⟨lw_p18, List.forall_mem_cons.mpr ⟨lw_p19, List.forall_mem_cons.mpr ⟨lw_p20, List.forall_mem_cons.mpr ⟨lw_p21, List.forall_mem_cons.mpr ⟨lw_p22, List.forall_mem_cons.mpr ⟨lw_p23, List.forall_mem_cons.mpr ⟨lw_p24, List.forall_mem_cons.mpr ⟨lw_p25, List.forall_mem_cons.mpr ⟨lw_p26, List.forall_mem_cons.mpr ⟨lw_p27, List.forall_mem_cons.mpr ⟨lw_p28, List.forall_mem_cons.mpr ⟨lw_p29, List.forall_mem_cons.mpr ⟨lw_p30, List.forall_mem_cons.mpr ⟨lw_p31, fun _ h => absurd h List.not_mem_nil⟩⟩⟩⟩⟩⟩⟩⟩⟩⟩⟩⟩⟩⟩⟩⟩
theorem lw_p32 : lw_okq (⟨"WhichWordModel", "readDoing", "(I)V"⟩, 31) := ⟨⟨by decide +kernel, by decide +kernel⟩, List.mem_of_getElem? (i := 660) (by decide +kernel), List.mem_of_getElem? (i := 790) (by decide +kernel), List.mem_of_getElem? (i := 791) (by decide +kernel)⟩
theorem lw_p33 : lw_okq (⟨"WhichWordModel", "readPlace", "(II)I"⟩, 31) := ⟨⟨by decide +kernel, by decide +kernel⟩, List.mem_of_getElem? (i := 660) (by decide +kernel), List.mem_of_getElem? (i := 794) (by decide +kernel), List.mem_of_getElem? (i := 795) (by decide +kernel)⟩
theorem lw_p34 : lw_okq (⟨"WhichWordModel", "findHas", "(I)V"⟩, 31) := ⟨⟨by decide +kernel, by decide +kernel⟩, List.mem_of_getElem? (i := 660) (by decide +kernel), List.mem_of_getElem? (i := 799) (by decide +kernel), List.mem_of_getElem? (i := 800) (by decide +kernel)⟩
theorem lw_p35 : lw_okq (⟨"WhichWordModel", "manyWith", "(II)I"⟩, 31) := ⟨⟨by decide +kernel, by decide +kernel⟩, List.mem_of_getElem? (i := 660) (by decide +kernel), List.mem_of_getElem? (i := 803) (by decide +kernel), List.mem_of_getElem? (i := 804) (by decide +kernel)⟩
theorem lw_p36 : lw_okq (⟨"WhichWordModel", "hasMark", "(III)Z"⟩, 31) := ⟨⟨by decide +kernel, by decide +kernel⟩, List.mem_of_getElem? (i := 660) (by decide +kernel), List.mem_of_getElem? (i := 807) (by decide +kernel), List.mem_of_getElem? (i := 808) (by decide +kernel)⟩
theorem lw_p37 : lw_okq (⟨"WhichWordModel", "isScene", "(I)Z"⟩, 31) := ⟨⟨by decide +kernel, by decide +kernel⟩, List.mem_of_getElem? (i := 660) (by decide +kernel), List.mem_of_getElem? (i := 819) (by decide +kernel), List.mem_of_getElem? (i := 820) (by decide +kernel)⟩
theorem lw_p38 : lw_okq (⟨"WhichWordModel", "saidIn", "(I)I"⟩, 31) := ⟨⟨by decide +kernel, by decide +kernel⟩, List.mem_of_getElem? (i := 660) (by decide +kernel), List.mem_of_getElem? (i := 839) (by decide +kernel), List.mem_of_getElem? (i := 840) (by decide +kernel)⟩
theorem lw_p39 : lw_okq (⟨"WhichWordModel", "isLeft", "(III)Z"⟩, 31) := ⟨⟨by decide +kernel, by decide +kernel⟩, List.mem_of_getElem? (i := 660) (by decide +kernel), List.mem_of_getElem? (i := 867) (by decide +kernel), List.mem_of_getElem? (i := 868) (by decide +kernel)⟩
theorem lw_p40 : lw_okq (⟨"WhichWordModel", "likelihoodOf", "(II)J"⟩, 31) := ⟨⟨by decide +kernel, by decide +kernel⟩, List.mem_of_getElem? (i := 660) (by decide +kernel), List.mem_of_getElem? (i := 887) (by decide +kernel), List.mem_of_getElem? (i := 888) (by decide +kernel)⟩
theorem lw_p41 : lw_okq (⟨"WhichWordModel", "isSet", "(I)Z"⟩, 31) := ⟨⟨by decide +kernel, by decide +kernel⟩, List.mem_of_getElem? (i := 660) (by decide +kernel), List.mem_of_getElem? (i := 907) (by decide +kernel), List.mem_of_getElem? (i := 908) (by decide +kernel)⟩
theorem lw_p42 : lw_okq (⟨"WhichWordModel", "findWords", "(I)V"⟩, 31) := ⟨⟨by decide +kernel, by decide +kernel⟩, List.mem_of_getElem? (i := 660) (by decide +kernel), List.mem_of_getElem? (i := 915) (by decide +kernel), List.mem_of_getElem? (i := 916) (by decide +kernel)⟩
theorem lw_p43 : lw_okq (⟨"WhichWordModel", "commonTo", "(I)I"⟩, 31) := ⟨⟨by decide +kernel, by decide +kernel⟩, List.mem_of_getElem? (i := 660) (by decide +kernel), List.mem_of_getElem? (i := 919) (by decide +kernel), List.mem_of_getElem? (i := 920) (by decide +kernel)⟩
theorem lw_p44 : lw_okq (⟨"WhichWordModel", "findFirst", "(I)Z"⟩, 31) := ⟨⟨by decide +kernel, by decide +kernel⟩, List.mem_of_getElem? (i := 660) (by decide +kernel), List.mem_of_getElem? (i := 927) (by decide +kernel), List.mem_of_getElem? (i := 928) (by decide +kernel)⟩
theorem lw_p45 : lw_okq (⟨"WhichWordModel", "canHave", "(I)Z"⟩, 31) := ⟨⟨by decide +kernel, by decide +kernel⟩, List.mem_of_getElem? (i := 660) (by decide +kernel), List.mem_of_getElem? (i := 931) (by decide +kernel), List.mem_of_getElem? (i := 932) (by decide +kernel)⟩
theorem lw_p46 : lw_okq (⟨"WhichWordModel", "isOneLeft", "(I)Z"⟩, 31) := ⟨⟨by decide +kernel, by decide +kernel⟩, List.mem_of_getElem? (i := 660) (by decide +kernel), List.mem_of_getElem? (i := 935) (by decide +kernel), List.mem_of_getElem? (i := 936) (by decide +kernel)⟩
theorem lw_p47 : lw_okq (⟨"WhichWordModel", "fits", "(II)Z"⟩, 31) := ⟨⟨by decide +kernel, by decide +kernel⟩, List.mem_of_getElem? (i := 660) (by decide +kernel), List.mem_of_getElem? (i := 955) (by decide +kernel), List.mem_of_getElem? (i := 956) (by decide +kernel)⟩
def lw_privs_3 : List (MethodName × Nat) := [(⟨"WhichWordModel", "readDoing", "(I)V"⟩, 31), (⟨"WhichWordModel", "readPlace", "(II)I"⟩, 31), (⟨"WhichWordModel", "findHas", "(I)V"⟩, 31), (⟨"WhichWordModel", "manyWith", "(II)I"⟩, 31), (⟨"WhichWordModel", "hasMark", "(III)Z"⟩, 31), (⟨"WhichWordModel", "isScene", "(I)Z"⟩, 31), (⟨"WhichWordModel", "saidIn", "(I)I"⟩, 31), (⟨"WhichWordModel", "isLeft", "(III)Z"⟩, 31), (⟨"WhichWordModel", "likelihoodOf", "(II)J"⟩, 31), (⟨"WhichWordModel", "isSet", "(I)Z"⟩, 31), (⟨"WhichWordModel", "findWords", "(I)V"⟩, 31), (⟨"WhichWordModel", "commonTo", "(I)I"⟩, 31), (⟨"WhichWordModel", "findFirst", "(I)Z"⟩, 31), (⟨"WhichWordModel", "canHave", "(I)Z"⟩, 31), (⟨"WhichWordModel", "isOneLeft", "(I)Z"⟩, 31), (⟨"WhichWordModel", "fits", "(II)Z"⟩, 31)]
theorem lw_r3 : ∀ q ∈ lw_privs_3, lw_okq q := List.forall_mem_cons.mpr ⟨lw_p32, List.forall_mem_cons.mpr ⟨lw_p33, List.forall_mem_cons.mpr ⟨lw_p34, List.forall_mem_cons.mpr ⟨lw_p35, List.forall_mem_cons.mpr ⟨lw_p36, List.forall_mem_cons.mpr ⟨lw_p37, List.forall_mem_cons.mpr ⟨lw_p38, List.forall_mem_cons.mpr ⟨lw_p39, List.forall_mem_cons.mpr ⟨lw_p40, List.forall_mem_cons.mpr ⟨lw_p41, List.forall_mem_cons.mpr ⟨lw_p42, List.forall_mem_cons.mpr ⟨lw_p43, List.forall_mem_cons.mpr ⟨lw_p44, List.forall_mem_cons.mpr ⟨lw_p45, List.forall_mem_cons.mpr ⟨lw_p46, List.forall_mem_cons.mpr ⟨lw_p47, fun _ h => absurd h List.not_mem_nil⟩⟩⟩⟩⟩⟩⟩⟩⟩⟩⟩⟩⟩⟩⟩⟩
theorem lw_p48 : lw_okq (⟨"WhichWordModel", "isDone", "(IIII)Z"⟩, 31) := ⟨⟨by decide +kernel, by decide +kernel⟩, List.mem_of_getElem? (i := 660) (by decide +kernel), List.mem_of_getElem? (i := 959) (by decide +kernel), List.mem_of_getElem? (i := 960) (by decide +kernel)⟩
theorem lw_p49 : lw_okq (⟨"WhichWordModel", "findShown", "(I)V"⟩, 31) := ⟨⟨by decide +kernel, by decide +kernel⟩, List.mem_of_getElem? (i := 660) (by decide +kernel), List.mem_of_getElem? (i := 973) (by decide +kernel), List.mem_of_getElem? (i := 974) (by decide +kernel)⟩
theorem lw_p50 : lw_okq (⟨"WhichWordModel", "findUnlike", "(I)V"⟩, 31) := ⟨⟨by decide +kernel, by decide +kernel⟩, List.mem_of_getElem? (i := 660) (by decide +kernel), List.mem_of_getElem? (i := 977) (by decide +kernel), List.mem_of_getElem? (i := 978) (by decide +kernel)⟩
theorem lw_p51 : lw_okq (⟨"WhichWordModel", "partsAll", "(I)Z"⟩, 31) := ⟨⟨by decide +kernel, by decide +kernel⟩, List.mem_of_getElem? (i := 660) (by decide +kernel), List.mem_of_getElem? (i := 981) (by decide +kernel), List.mem_of_getElem? (i := 982) (by decide +kernel)⟩
theorem lw_p52 : lw_okq (⟨"WhichWordModel", "scenesOf", "(I)I"⟩, 31) := ⟨⟨by decide +kernel, by decide +kernel⟩, List.mem_of_getElem? (i := 660) (by decide +kernel), List.mem_of_getElem? (i := 985) (by decide +kernel), List.mem_of_getElem? (i := 986) (by decide +kernel)⟩
theorem lw_p53 : lw_okq (⟨"WhichWordModel", "leftBy", "(II)I"⟩, 31) := ⟨⟨by decide +kernel, by decide +kernel⟩, List.mem_of_getElem? (i := 660) (by decide +kernel), List.mem_of_getElem? (i := 993) (by decide +kernel), List.mem_of_getElem? (i := 994) (by decide +kernel)⟩
theorem lw_p54 : lw_okq (⟨"WhichWordModel", "partOf", "(II)I"⟩, 31) := ⟨⟨by decide +kernel, by decide +kernel⟩, List.mem_of_getElem? (i := 660) (by decide +kernel), List.mem_of_getElem? (i := 1001) (by decide +kernel), List.mem_of_getElem? (i := 1002) (by decide +kernel)⟩
theorem lw_p55 : lw_okq (⟨"WhichWordModel", "moveAll", "()V"⟩, 31) := ⟨⟨by decide +kernel, by decide +kernel⟩, List.mem_of_getElem? (i := 660) (by decide +kernel), List.mem_of_getElem? (i := 1017) (by decide +kernel), List.mem_of_getElem? (i := 1018) (by decide +kernel)⟩
theorem lw_p56 : lw_okq (⟨"WhichWordModel", "move", "(I)I"⟩, 31) := ⟨⟨by decide +kernel, by decide +kernel⟩, List.mem_of_getElem? (i := 660) (by decide +kernel), List.mem_of_getElem? (i := 1021) (by decide +kernel), List.mem_of_getElem? (i := 1022) (by decide +kernel)⟩
def lw_privs_4 : List (MethodName × Nat) := [(⟨"WhichWordModel", "isDone", "(IIII)Z"⟩, 31), (⟨"WhichWordModel", "findShown", "(I)V"⟩, 31), (⟨"WhichWordModel", "findUnlike", "(I)V"⟩, 31), (⟨"WhichWordModel", "partsAll", "(I)Z"⟩, 31), (⟨"WhichWordModel", "scenesOf", "(I)I"⟩, 31), (⟨"WhichWordModel", "leftBy", "(II)I"⟩, 31), (⟨"WhichWordModel", "partOf", "(II)I"⟩, 31), (⟨"WhichWordModel", "moveAll", "()V"⟩, 31), (⟨"WhichWordModel", "move", "(I)I"⟩, 31)]
theorem lw_r4 : ∀ q ∈ lw_privs_4, lw_okq q := List.forall_mem_cons.mpr ⟨lw_p48, List.forall_mem_cons.mpr ⟨lw_p49, List.forall_mem_cons.mpr ⟨lw_p50, List.forall_mem_cons.mpr ⟨lw_p51, List.forall_mem_cons.mpr ⟨lw_p52, List.forall_mem_cons.mpr ⟨lw_p53, List.forall_mem_cons.mpr ⟨lw_p54, List.forall_mem_cons.mpr ⟨lw_p55, List.forall_mem_cons.mpr ⟨lw_p56, fun _ h => absurd h List.not_mem_nil⟩⟩⟩⟩⟩⟩⟩⟩⟩
def lw_privs : List (MethodName × Nat) := lw_privs_1 ++ (lw_privs_2 ++ (lw_privs_3 ++ (lw_privs_4)))
def lw_tbl : List Cond := k2_sels lw_privs ++ tables_1
theorem lw_privs_ok : ∀ q ∈ lw_privs, lw_okq q := by
  show ∀ q ∈ lw_privs_1 ++ (lw_privs_2 ++ (lw_privs_3 ++ (lw_privs_4))), lw_okq q
  exact List.forall_mem_append.mpr ⟨lw_r1, List.forall_mem_append.mpr ⟨lw_r2, List.forall_mem_append.mpr ⟨lw_r3, lw_r4⟩⟩⟩

def RX0 : String := "WhichWord$Chooser"
def TX0 : u_T := fun k => match k with
  | 0 => ("WhichWord$Chooser", "told", "LWhichWord$Told;", true)
  | 1 => ("WhichWord$Chooser", "unlike", "[I", true)
  | 2 => ("WhichWord$Chooser", "unlikeCount", "I", false)
  | 3 => ("WhichWord$Chooser", "sets", "[I", true)
  | _ => ("WhichWord$Chooser", "setCount", "I", false)
def tyX0 : Nat → FieldType := fun k => match k with
  | 0 => .object "WhichWord$Told"
  | 1 => .array .int
  | 2 => .int
  | 3 => .array .int
  | _ => .int
abbrev wsX00 : List Cond := u_ws RX0 TX0 5
theorem nmX0 : ∀ a, a < 5 → ∀ b, b < 5 → a ≠ b → (TX0 a).2.1 ≠ (TX0 b).2.1 := by decide +kernel
theorem tyX0_ok : ∀ k, k < 5 → parseFieldDescriptor (TX0 k).2.2.1 = some (tyX0 k) := by decide +kernel
abbrev cX0_init : ByteArray := prog_2_method_1_code
def yX0_init : MethodName := ⟨RX0, "<init>", "(LWhichWord$Told;)V"⟩
abbrev cX0_evenest : ByteArray := prog_2_method_2_code
def yX0_evenest : MethodName := ⟨RX0, "evenest", "(I)I"⟩
abbrev cX0_fewestParting : ByteArray := prog_2_method_3_code
def yX0_fewestParting : MethodName := ⟨RX0, "fewestParting", "(I)I"⟩
abbrev cX0_mostTelling : ByteArray := prog_2_method_4_code
def yX0_mostTelling : MethodName := ⟨RX0, "mostTelling", "(III)I"⟩
abbrev cX0_shownFor : ByteArray := prog_2_method_5_code
def yX0_shownFor : MethodName := ⟨RX0, "shownFor", "(I)I"⟩
abbrev cX0_firstShownFor : ByteArray := prog_2_method_6_code
def yX0_firstShownFor : MethodName := ⟨RX0, "firstShownFor", "(I)I"⟩
abbrev cX0_countLeftHad : ByteArray := prog_2_method_7_code
def yX0_countLeftHad : MethodName := ⟨RX0, "countLeftHad", "(II)I"⟩
abbrev cX0_listUnlike : ByteArray := prog_2_method_8_code
def yX0_listUnlike : MethodName := ⟨RX0, "listUnlike", "(II)V"⟩
abbrev cX0_addUnlike : ByteArray := prog_2_method_9_code
def yX0_addUnlike : MethodName := ⟨RX0, "addUnlike", "(I)V"⟩
abbrev cX0_partsAll : ByteArray := prog_2_method_10_code
def yX0_partsAll : MethodName := ⟨RX0, "partsAll", "(I)Z"⟩
abbrev cX0_listSets : ByteArray := prog_2_method_11_code
def yX0_listSets : MethodName := ⟨RX0, "listSets", "(II)V"⟩
abbrev cX0_addSets : ByteArray := prog_2_method_12_code
def yX0_addSets : MethodName := ⟨RX0, "addSets", "(IIII)V"⟩
def RX1 : String := "WhichWord$Giver"
def TX1 : u_T := fun k => match k with
  | 0 => ("WhichWord$Giver", "told", "LWhichWord$Told;", true)
  | _ => ("WhichWord$Giver", "leftCounts", "[I", true)
def tyX1 : Nat → FieldType := fun k => match k with
  | 0 => .object "WhichWord$Told"
  | _ => .array .int
abbrev wsX10 : List Cond := u_ws RX1 TX1 2
theorem nmX1 : ∀ a, a < 2 → ∀ b, b < 2 → a ≠ b → (TX1 a).2.1 ≠ (TX1 b).2.1 := by decide +kernel
theorem tyX1_ok : ∀ k, k < 2 → parseFieldDescriptor (TX1 k).2.2.1 = some (tyX1 k) := by decide +kernel
abbrev cX1_init : ByteArray := prog_3_method_1_code
def yX1_init : MethodName := ⟨RX1, "<init>", "(LWhichWord$Told;)V"⟩
abbrev cX1_countWays : ByteArray := prog_3_method_2_code
def yX1_countWays : MethodName := ⟨RX1, "countWays", "(I)I"⟩
abbrev cX1_firstFor : ByteArray := prog_3_method_3_code
def yX1_firstFor : MethodName := ⟨RX1, "firstFor", "(II)I"⟩
abbrev cX1_countLefts : ByteArray := prog_3_method_4_code
def yX1_countLefts : MethodName := ⟨RX1, "countLefts", "(I)V"⟩
abbrev cX1_leastFor : ByteArray := prog_3_method_5_code
def yX1_leastFor : MethodName := ⟨RX1, "leastFor", "(IIII)I"⟩
abbrev cX1_ways : ByteArray := prog_3_method_6_code
def yX1_ways : MethodName := ⟨RX1, "ways", "(III)I"⟩
abbrev cX1_lost : ByteArray := prog_3_method_7_code
def yX1_lost : MethodName := ⟨RX1, "lost", "(II)I"⟩
def RX2 : String := "WhichWord$Likely"
def TX2 : u_T := fun k => match k with
  | _ => ("WhichWord$Likely", "told", "LWhichWord$Told;", true)
def tyX2 : Nat → FieldType := fun k => match k with
  | _ => .object "WhichWord$Told"
abbrev wsX20 : List Cond := u_ws RX2 TX2 1
theorem nmX2 : ∀ a, a < 1 → ∀ b, b < 1 → a ≠ b → (TX2 a).2.1 ≠ (TX2 b).2.1 := by decide +kernel
theorem tyX2_ok : ∀ k, k < 1 → parseFieldDescriptor (TX2 k).2.2.1 = some (tyX2 k) := by decide +kernel
abbrev cX2_init : ByteArray := prog_4_method_1_code
def yX2_init : MethodName := ⟨RX2, "<init>", "(LWhichWord$Told;)V"⟩
abbrev cX2_of : ByteArray := prog_4_method_2_code
def yX2_of : MethodName := ⟨RX2, "of", "(II)J"⟩
abbrev cX2_latestSaid : ByteArray := prog_4_method_3_code
def yX2_latestSaid : MethodName := ⟨RX2, "latestSaid", "(I)I"⟩
abbrev cX2_ofAll : ByteArray := prog_4_method_4_code
def yX2_ofAll : MethodName := ⟨RX2, "ofAll", "(I)J"⟩
abbrev cX2_aboveLine : ByteArray := prog_4_method_5_code
def yX2_aboveLine : MethodName := ⟨RX2, "aboveLine", "(II)J"⟩
abbrev cX2_belowLine : ByteArray := prog_4_method_6_code
def yX2_belowLine : MethodName := ⟨RX2, "belowLine", "(II)J"⟩
abbrev cX2_commonDivisor : ByteArray := prog_4_method_7_code
def yX2_commonDivisor : MethodName := ⟨RX2, "commonDivisor", "(JJ)J"⟩
abbrev cX2_greatest : ByteArray := prog_4_method_8_code
def yX2_greatest : MethodName := ⟨RX2, "greatest", "(I)I"⟩
def RX3 : String := "WhichWord$Scene"
def TX3 : u_T := fun k => match k with
  | 0 => ("WhichWord$Scene", "things", "[I", true)
  | 1 => ("WhichWord$Scene", "doings", "[I", true)
  | 2 => ("WhichWord$Scene", "thingCount", "I", false)
  | _ => ("WhichWord$Scene", "doingCount", "I", false)
def tyX3 : Nat → FieldType := fun k => match k with
  | 0 => .array .int
  | 1 => .array .int
  | 2 => .int
  | _ => .int
abbrev wsX30 : List Cond := u_ws RX3 TX3 4
theorem nmX3 : ∀ a, a < 4 → ∀ b, b < 4 → a ≠ b → (TX3 a).2.1 ≠ (TX3 b).2.1 := by decide +kernel
theorem tyX3_ok : ∀ k, k < 4 → parseFieldDescriptor (TX3 k).2.2.1 = some (tyX3 k) := by decide +kernel
abbrev cX3_init : ByteArray := prog_5_method_1_code
def yX3_init : MethodName := ⟨RX3, "<init>", "()V"⟩
abbrev cX3_addThing : ByteArray := prog_5_method_2_code
def yX3_addThing : MethodName := ⟨RX3, "addThing", "(I)V"⟩
abbrev cX3_addDoing : ByteArray := prog_5_method_3_code
def yX3_addDoing : MethodName := ⟨RX3, "addDoing", "(I)V"⟩
abbrev cX3_thingAt : ByteArray := prog_5_method_4_code
def yX3_thingAt : MethodName := ⟨RX3, "thingAt", "(I)I"⟩
abbrev cX3_doingAt : ByteArray := prog_5_method_5_code
def yX3_doingAt : MethodName := ⟨RX3, "doingAt", "(I)I"⟩
abbrev cX3_holds : ByteArray := prog_5_method_6_code
def yX3_holds : MethodName := ⟨RX3, "holds", "(I)Z"⟩
abbrev cX3_holdsJoined : ByteArray := prog_5_method_7_code
def yX3_holdsJoined : MethodName := ⟨RX3, "holdsJoined", "(I)Z"⟩
abbrev cX3_countThings : ByteArray := prog_5_method_8_code
def yX3_countThings : MethodName := ⟨RX3, "countThings", "(II)I"⟩
abbrev cX3_isDone : ByteArray := prog_5_method_9_code
def yX3_isDone : MethodName := ⟨RX3, "isDone", "(III)Z"⟩
def RX4 : String := "WhichWord$Text"
def TX4 : u_T := fun k => match k with
  | 0 => ("WhichWord$Text", "bytes", "[I", true)
  | 1 => ("WhichWord$Text", "size", "I", false)
  | _ => ("WhichWord$Text", "place", "I", false)
def tyX4 : Nat → FieldType := fun k => match k with
  | 0 => .array .int
  | 1 => .int
  | _ => .int
abbrev wsX40 : List Cond := u_ws RX4 TX4 3
theorem nmX4 : ∀ a, a < 3 → ∀ b, b < 3 → a ≠ b → (TX4 a).2.1 ≠ (TX4 b).2.1 := by decide +kernel
theorem tyX4_ok : ∀ k, k < 3 → parseFieldDescriptor (TX4 k).2.2.1 = some (tyX4 k) := by decide +kernel
abbrev cX4_init : ByteArray := prog_6_method_1_code
def yX4_init : MethodName := ⟨RX4, "<init>", "()V"⟩
abbrev cX4_length : ByteArray := prog_6_method_2_code
def yX4_length : MethodName := ⟨RX4, "length", "()I"⟩
abbrev cX4_room : ByteArray := prog_6_method_3_code
def yX4_room : MethodName := ⟨RX4, "room", "()I"⟩
abbrev cX4_place : ByteArray := prog_6_method_4_code
def yX4_place : MethodName := ⟨RX4, "place", "()I"⟩
abbrev cX4_empty : ByteArray := prog_6_method_5_code
def yX4_empty : MethodName := ⟨RX4, "empty", "()V"⟩
abbrev cX4_append : ByteArray := prog_6_method_6_code
def yX4_append : MethodName := ⟨RX4, "append", "(IJ)I"⟩
abbrev cX4_readScene : ByteArray := prog_6_method_7_code
def yX4_readScene : MethodName := ⟨RX4, "readScene", "(LWhichWord$Scene;)Z"⟩
abbrev cX4_readThings : ByteArray := prog_6_method_8_code
def yX4_readThings : MethodName := ⟨RX4, "readThings", "(LWhichWord$Scene;)Z"⟩
abbrev cX4_readThing : ByteArray := prog_6_method_9_code
def yX4_readThing : MethodName := ⟨RX4, "readThing", "(LWhichWord$Scene;)Z"⟩
abbrev cX4_readDoings : ByteArray := prog_6_method_10_code
def yX4_readDoings : MethodName := ⟨RX4, "readDoings", "(LWhichWord$Scene;)Z"⟩
abbrev cX4_readDoing : ByteArray := prog_6_method_11_code
def yX4_readDoing : MethodName := ⟨RX4, "readDoing", "(LWhichWord$Scene;)Z"⟩
abbrev cX4_take : ByteArray := prog_6_method_12_code
def yX4_take : MethodName := ⟨RX4, "take", "(I)Z"⟩
abbrev cX4_takeOneOf : ByteArray := prog_6_method_13_code
def yX4_takeOneOf : MethodName := ⟨RX4, "takeOneOf", "(III)I"⟩
def RX5 : String := "WhichWord$Told"
def TX5 : u_T := fun k => match k with
  | 0 => ("WhichWord$Told", "emptyScene", "LWhichWord$Scene;", true)
  | 1 => ("WhichWord$Told", "scenes", "[LWhichWord$Scene;", true)
  | 2 => ("WhichWord$Told", "sceneCount", "I", false)
  | 3 => ("WhichWord$Told", "having", "[I", true)
  | 4 => ("WhichWord$Told", "saidIn", "[I", true)
  | 5 => ("WhichWord$Told", "weights", "[I", true)
  | 6 => ("WhichWord$Told", "hit", "I", false)
  | 7 => ("WhichWord$Told", "miss", "I", false)
  | 8 => ("WhichWord$Told", "given", "[I", true)
  | 9 => ("WhichWord$Told", "sayingScenes", "[I", true)
  | 10 => ("WhichWord$Told", "sayingWords", "[I", true)
  | _ => ("WhichWord$Told", "sayingCount", "I", false)
def tyX5 : Nat → FieldType := fun k => match k with
  | 0 => .object "WhichWord$Scene"
  | 1 => .array (.object "WhichWord$Scene")
  | 2 => .int
  | 3 => .array .int
  | 4 => .array .int
  | 5 => .array .int
  | 6 => .int
  | 7 => .int
  | 8 => .array .int
  | 9 => .array .int
  | 10 => .array .int
  | _ => .int
abbrev wsX50 : List Cond := u_ws RX5 TX5 12
theorem nmX5 : ∀ a, a < 12 → ∀ b, b < 12 → a ≠ b → (TX5 a).2.1 ≠ (TX5 b).2.1 := by decide +kernel
theorem tyX5_ok : ∀ k, k < 12 → parseFieldDescriptor (TX5 k).2.2.1 = some (tyX5 k) := by decide +kernel
abbrev cX5_init : ByteArray := prog_7_method_1_code
def yX5_init : MethodName := ⟨RX5, "<init>", "()V"⟩
abbrev cX5_copyFrom : ByteArray := prog_7_method_2_code
def yX5_copyFrom : MethodName := ⟨RX5, "copyFrom", "(LWhichWord$Told;)V"⟩
abbrev cX5_addScene : ByteArray := prog_7_method_3_code
def yX5_addScene : MethodName := ⟨RX5, "addScene", "(LWhichWord$Scene;)I"⟩
abbrev cX5_dropLatest : ByteArray := prog_7_method_4_code
def yX5_dropLatest : MethodName := ⟨RX5, "dropLatest", "()I"⟩
abbrev cX5_dropSayingsOf : ByteArray := prog_7_method_5_code
def yX5_dropSayingsOf : MethodName := ⟨RX5, "dropSayingsOf", "(I)V"⟩
abbrev cX5_tellSaid : ByteArray := prog_7_method_6_code
def yX5_tellSaid : MethodName := ⟨RX5, "tellSaid", "(IIZ)Z"⟩
abbrev cX5_addSaying : ByteArray := prog_7_method_7_code
def yX5_addSaying : MethodName := ⟨RX5, "addSaying", "(II)I"⟩
abbrev cX5_countThings : ByteArray := prog_7_method_8_code
def yX5_countThings : MethodName := ⟨RX5, "countThings", "()I"⟩
abbrev cX5_countDoings : ByteArray := prog_7_method_9_code
def yX5_countDoings : MethodName := ⟨RX5, "countDoings", "()I"⟩
abbrev cX5_countSaid : ByteArray := prog_7_method_10_code
def yX5_countSaid : MethodName := ⟨RX5, "countSaid", "()I"⟩
abbrev cX5_isLeft : ByteArray := prog_7_method_11_code
def yX5_isLeft : MethodName := ⟨RX5, "isLeft", "(III)Z"⟩
abbrev cX5_countLeft : ByteArray := prog_7_method_12_code
def yX5_countLeft : MethodName := ⟨RX5, "countLeft", "(II)I"⟩
abbrev cX5_leftAt : ByteArray := prog_7_method_13_code
def yX5_leftAt : MethodName := ⟨RX5, "leftAt", "(III)I"⟩
abbrev cX5_heaviestLeft : ByteArray := prog_7_method_14_code
def yX5_heaviestLeft : MethodName := ⟨RX5, "heaviestLeft", "(II)I"⟩
abbrev cX5_isTwo : ByteArray := prog_7_method_15_code
def yX5_isTwo : MethodName := ⟨RX5, "isTwo", "(III)Z"⟩
abbrev cX5_countTwos : ByteArray := prog_7_method_16_code
def yX5_countTwos : MethodName := ⟨RX5, "countTwos", "(I)I"⟩
abbrev cX5_firstTwo : ByteArray := prog_7_method_17_code
def yX5_firstTwo : MethodName := ⟨RX5, "firstTwo", "(I)I"⟩
abbrev cX5_countUnparted : ByteArray := prog_7_method_18_code
def yX5_countUnparted : MethodName := ⟨RX5, "countUnparted", "()I"⟩
abbrev cX5_fittingOrders : ByteArray := prog_7_method_19_code
def yX5_fittingOrders : MethodName := ⟨RX5, "fittingOrders", "()I"⟩
abbrev cX5_fits : ByteArray := prog_7_method_20_code
def yX5_fits : MethodName := ⟨RX5, "fits", "(LWhichWord$Scene;II)Z"⟩
abbrev cX5_isMark : ByteArray := prog_7_method_21_code
def yX5_isMark : MethodName := ⟨RX5, "isMark", "(I)Z"⟩
def RX6 : String := "WhichWord"
def TX6 : u_T := fun k => match k with
  | 0 => ("WhichWord", "text", "LWhichWord$Text;", true)
  | 1 => ("WhichWord", "told", "LWhichWord$Told;", true)
  | 2 => ("WhichWord", "kept", "LWhichWord$Told;", true)
  | 3 => ("WhichWord", "isKept", "Z", false)
  | 4 => ("WhichWord", "refusals", "[I", true)
  | 5 => ("WhichWord", "likely", "LWhichWord$Likely;", true)
  | 6 => ("WhichWord", "giver", "LWhichWord$Giver;", true)
  | _ => ("WhichWord", "chooser", "LWhichWord$Chooser;", true)
def tyX6 : Nat → FieldType := fun k => match k with
  | 0 => .object "WhichWord$Text"
  | 1 => .object "WhichWord$Told"
  | 2 => .object "WhichWord$Told"
  | 3 => .boolean
  | 4 => .array .int
  | 5 => .object "WhichWord$Likely"
  | 6 => .object "WhichWord$Giver"
  | _ => .object "WhichWord$Chooser"
abbrev wsX60 : List Cond := u_ws RX6 TX6 8
theorem nmX6 : ∀ a, a < 8 → ∀ b, b < 8 → a ≠ b → (TX6 a).2.1 ≠ (TX6 b).2.1 := by decide +kernel
theorem tyX6_ok : ∀ k, k < 8 → parseFieldDescriptor (TX6 k).2.2.1 = some (tyX6 k) := by decide +kernel
abbrev cX6_init : ByteArray := prog_1_method_1_code
def yX6_init : MethodName := ⟨RX6, "<init>", "()V"⟩
abbrev cX6_feed : ByteArray := prog_1_method_2_code
def yX6_feed : MethodName := ⟨RX6, "feed", "(IJ)I"⟩
abbrev cX6_scene : ByteArray := prog_1_method_3_code
def yX6_scene : MethodName := ⟨RX6, "scene", "()I"⟩
abbrev cX6_takeBack : ByteArray := prog_1_method_4_code
def yX6_takeBack : MethodName := ⟨RX6, "takeBack", "()I"⟩
abbrev cX6_thing : ByteArray := prog_1_method_5_code
def yX6_thing : MethodName := ⟨RX6, "thing", "(II)I"⟩
abbrev cX6_doing : ByteArray := prog_1_method_6_code
def yX6_doing : MethodName := ⟨RX6, "doing", "(II)I"⟩
abbrev cX6_say : ByteArray := prog_1_method_7_code
def yX6_say : MethodName := ⟨RX6, "say", "(IIZ)I"⟩
abbrev cX6_said : ByteArray := prog_1_method_8_code
def yX6_said : MethodName := ⟨RX6, "said", "(I)I"⟩
abbrev cX6_kind : ByteArray := prog_1_method_9_code
def yX6_kind : MethodName := ⟨RX6, "kind", "(I)I"⟩
abbrev cX6_weight : ByteArray := prog_1_method_10_code
def yX6_weight : MethodName := ⟨RX6, "weight", "(II)I"⟩
abbrev cX6_has : ByteArray := prog_1_method_11_code
def yX6_has : MethodName := ⟨RX6, "has", "(II)I"⟩
abbrev cX6_left : ByteArray := prog_1_method_12_code
def yX6_left : MethodName := ⟨RX6, "left", "(III)I"⟩
abbrev cX6_plainest : ByteArray := prog_1_method_13_code
def yX6_plainest : MethodName := ⟨RX6, "plainest", "(II)I"⟩
abbrev cX6_judge : ByteArray := prog_1_method_14_code
def yX6_judge : MethodName := ⟨RX6, "judge", "(II)I"⟩
abbrev cX6_set : ByteArray := prog_1_method_15_code
def yX6_set : MethodName := ⟨RX6, "set", "(II)I"⟩
abbrev cX6_likelihood : ByteArray := prog_1_method_16_code
def yX6_likelihood : MethodName := ⟨RX6, "likelihood", "(II)J"⟩
abbrev cX6_chance : ByteArray := prog_1_method_17_code
def yX6_chance : MethodName := ⟨RX6, "chance", "(III)J"⟩
abbrev cX6_likeliest : ByteArray := prog_1_method_18_code
def yX6_likeliest : MethodName := ⟨RX6, "likeliest", "(I)I"⟩
abbrev cX6_givings : ByteArray := prog_1_method_19_code
def yX6_givings : MethodName := ⟨RX6, "givings", "(I)I"⟩
abbrev cX6_giving : ByteArray := prog_1_method_20_code
def yX6_giving : MethodName := ⟨RX6, "giving", "(II)I"⟩
abbrev cX6_two : ByteArray := prog_1_method_21_code
def yX6_two : MethodName := ⟨RX6, "two", "(II)I"⟩
abbrev cX6_give : ByteArray := prog_1_method_22_code
def yX6_give : MethodName := ⟨RX6, "give", "(II)I"⟩
abbrev cX6_saying : ByteArray := prog_1_method_23_code
def yX6_saying : MethodName := ⟨RX6, "saying", "(II)I"⟩
abbrev cX6_orders : ByteArray := prog_1_method_24_code
def yX6_orders : MethodName := ⟨RX6, "orders", "()I"⟩
abbrev cX6_next : ByteArray := prog_1_method_25_code
def yX6_next : MethodName := ⟨RX6, "next", "(I)I"⟩
abbrev cX6_enough : ByteArray := prog_1_method_26_code
def yX6_enough : MethodName := ⟨RX6, "enough", "(I)I"⟩
abbrev cX6_help : ByteArray := prog_1_method_27_code
def yX6_help : MethodName := ⟨RX6, "help", "(III)I"⟩
abbrev cX6_never : ByteArray := prog_1_method_28_code
def yX6_never : MethodName := ⟨RX6, "never", "()I"⟩
abbrev cX6_same : ByteArray := prog_1_method_29_code
def yX6_same : MethodName := ⟨RX6, "same", "(II)I"⟩
abbrev cX6_part : ByteArray := prog_1_method_30_code
def yX6_part : MethodName := ⟨RX6, "part", "(II)I"⟩
abbrev cX6_image : ByteArray := prog_1_method_31_code
def yX6_image : MethodName := ⟨RX6, "image", "()I"⟩
abbrev cX6_restore : ByteArray := prog_1_method_32_code
def yX6_restore : MethodName := ⟨RX6, "restore", "()I"⟩
abbrev cX6_count : ByteArray := prog_1_method_33_code
def yX6_count : MethodName := ⟨RX6, "count", "(I)I"⟩
abbrev cX6_countRefusals : ByteArray := prog_1_method_34_code
def yX6_countRefusals : MethodName := ⟨RX6, "countRefusals", "(I)I"⟩
abbrev cX6_refuse : ByteArray := prog_1_method_35_code
def yX6_refuse : MethodName := ⟨RX6, "refuse", "(I)I"⟩
abbrev cX6_noScene : ByteArray := prog_1_method_36_code
def yX6_noScene : MethodName := ⟨RX6, "noScene", "(I)Z"⟩
abbrev cX6_noWord : ByteArray := prog_1_method_37_code
def yX6_noWord : MethodName := ⟨RX6, "noWord", "(I)Z"⟩
abbrev cX6_noMeaning : ByteArray := prog_1_method_38_code
def yX6_noMeaning : MethodName := ⟨RX6, "noMeaning", "(I)Z"⟩
abbrev cX6_noSetToGive : ByteArray := prog_1_method_39_code
def yX6_noSetToGive : MethodName := ⟨RX6, "noSetToGive", "(I)Z"⟩
abbrev cX6_noThreeWords : ByteArray := prog_1_method_40_code
def yX6_noThreeWords : MethodName := ⟨RX6, "noThreeWords", "(I)Z"⟩
abbrev cX6_wordAt : ByteArray := prog_1_method_41_code
def yX6_wordAt : MethodName := ⟨RX6, "wordAt", "(II)I"⟩
abbrev cX6_kindOf : ByteArray := prog_1_method_42_code
def yX6_kindOf : MethodName := ⟨RX6, "kindOf", "(I)I"⟩
abbrev cX6_isIn : ByteArray := prog_1_method_43_code
def yX6_isIn : MethodName := ⟨RX6, "isIn", "(II)Z"⟩
abbrev cX6_firstIn : ByteArray := prog_1_method_44_code
def yX6_firstIn : MethodName := ⟨RX6, "firstIn", "(I)I"⟩
def RX7 : String := "WhichWordModel"
def TX7 : u_T := fun k => match k with
  | 0 => ("WhichWordModel", "scenes", "I", false)
  | 1 => ("WhichWordModel", "thingMany", "[I", true)
  | 2 => ("WhichWordModel", "things", "[I", true)
  | 3 => ("WhichWordModel", "doingMany", "[I", true)
  | 4 => ("WhichWordModel", "doings", "[I", true)
  | 5 => ("WhichWordModel", "said", "[Z", true)
  | 6 => ("WhichWordModel", "has", "[Z", true)
  | 7 => ("WhichWordModel", "weights", "[I", true)
  | 8 => ("WhichWordModel", "hit", "I", false)
  | 9 => ("WhichWordModel", "miss", "I", false)
  | 10 => ("WhichWordModel", "given", "[I", true)
  | 11 => ("WhichWordModel", "sayings", "I", false)
  | 12 => ("WhichWordModel", "sayingScene", "[I", true)
  | 13 => ("WhichWordModel", "sayingWords", "[I", true)
  | 14 => ("WhichWordModel", "text", "[I", true)
  | 15 => ("WhichWordModel", "textMany", "I", false)
  | 16 => ("WhichWordModel", "refused", "[I", true)
  | 17 => ("WhichWordModel", "at", "I", false)
  | 18 => ("WhichWordModel", "end", "I", false)
  | 19 => ("WhichWordModel", "isBad", "Z", false)
  | 20 => ("WhichWordModel", "wordAt", "[I", true)
  | 21 => ("WhichWordModel", "wordMany", "I", false)
  | 22 => ("WhichWordModel", "first", "[I", true)
  | 23 => ("WhichWordModel", "shown", "[I", true)
  | 24 => ("WhichWordModel", "shownMany", "I", false)
  | 25 => ("WhichWordModel", "unlike", "[I", true)
  | 26 => ("WhichWordModel", "unlikeMany", "I", false)
  | 27 => ("WhichWordModel", "hasImage", "Z", false)
  | 28 => ("WhichWordModel", "imaged", "[I", true)
  | 29 => ("WhichWordModel", "imageAt", "I", false)
  | _ => ("WhichWordModel", "isTaking", "Z", false)
def tyX7 : Nat → FieldType := fun k => match k with
  | 0 => .int
  | 1 => .array .int
  | 2 => .array .int
  | 3 => .array .int
  | 4 => .array .int
  | 5 => .array .boolean
  | 6 => .array .boolean
  | 7 => .array .int
  | 8 => .int
  | 9 => .int
  | 10 => .array .int
  | 11 => .int
  | 12 => .array .int
  | 13 => .array .int
  | 14 => .array .int
  | 15 => .int
  | 16 => .array .int
  | 17 => .int
  | 18 => .int
  | 19 => .boolean
  | 20 => .array .int
  | 21 => .int
  | 22 => .array .int
  | 23 => .array .int
  | 24 => .int
  | 25 => .array .int
  | 26 => .int
  | 27 => .boolean
  | 28 => .array .int
  | 29 => .int
  | _ => .boolean
abbrev wsX70 : List Cond := u_ws RX7 TX7 31
theorem nmX7 : ∀ a, a < 31 → ∀ b, b < 31 → a ≠ b → (TX7 a).2.1 ≠ (TX7 b).2.1 := by decide +kernel
theorem tyX7_ok : ∀ k, k < 31 → parseFieldDescriptor (TX7 k).2.2.1 = some (tyX7 k) := by decide +kernel
abbrev cX7_init : ByteArray := prog_9_method_1_code
def yX7_init : MethodName := ⟨RX7, "<init>", "()V"⟩
abbrev cX7_in : ByteArray := prog_9_method_3_code
def yX7_in : MethodName := ⟨RX7, "in", "(JJJ)Z"⟩
abbrev cX7_refuse : ByteArray := prog_9_method_4_code
def yX7_refuse : MethodName := ⟨RX7, "refuse", "(I)I"⟩
abbrev cX7_isScene : ByteArray := prog_9_method_5_code
def yX7_isScene : MethodName := ⟨RX7, "isScene", "(I)Z"⟩
abbrev cX7_isWord : ByteArray := prog_9_method_6_code
def yX7_isWord : MethodName := ⟨RX7, "isWord", "(I)Z"⟩
abbrev cX7_isMeaning : ByteArray := prog_9_method_7_code
def yX7_isMeaning : MethodName := ⟨RX7, "isMeaning", "(I)Z"⟩
abbrev cX7_ones : ByteArray := prog_9_method_8_code
def yX7_ones : MethodName := ⟨RX7, "ones", "(I)I"⟩
abbrev cX7_feed : ByteArray := prog_9_method_9_code
def yX7_feed : MethodName := ⟨RX7, "feed", "(IJ)I"⟩
abbrev cX7_here : ByteArray := prog_9_method_10_code
def yX7_here : MethodName := ⟨RX7, "here", "()I"⟩
abbrev cX7_readThing : ByteArray := prog_9_method_11_code
def yX7_readThing : MethodName := ⟨RX7, "readThing", "(I)V"⟩
abbrev cX7_readPlace : ByteArray := prog_9_method_12_code
def yX7_readPlace : MethodName := ⟨RX7, "readPlace", "(II)I"⟩
abbrev cX7_readDoing : ByteArray := prog_9_method_13_code
def yX7_readDoing : MethodName := ⟨RX7, "readDoing", "(I)V"⟩
abbrev cX7_readScene : ByteArray := prog_9_method_14_code
def yX7_readScene : MethodName := ⟨RX7, "readScene", "(I)V"⟩
abbrev cX7_scene : ByteArray := prog_9_method_15_code
def yX7_scene : MethodName := ⟨RX7, "scene", "()I"⟩
abbrev cX7_hasMark : ByteArray := prog_9_method_16_code
def yX7_hasMark : MethodName := ⟨RX7, "hasMark", "(III)Z"⟩
abbrev cX7_manyWith : ByteArray := prog_9_method_17_code
def yX7_manyWith : MethodName := ⟨RX7, "manyWith", "(II)I"⟩
abbrev cX7_findHas : ByteArray := prog_9_method_18_code
def yX7_findHas : MethodName := ⟨RX7, "findHas", "(I)V"⟩
abbrev cX7_kindOf : ByteArray := prog_9_method_19_code
def yX7_kindOf : MethodName := ⟨RX7, "kindOf", "(I)I"⟩
abbrev cX7_takeBack : ByteArray := prog_9_method_20_code
def yX7_takeBack : MethodName := ⟨RX7, "takeBack", "()I"⟩
abbrev cX7_thing : ByteArray := prog_9_method_21_code
def yX7_thing : MethodName := ⟨RX7, "thing", "(II)I"⟩
abbrev cX7_doing : ByteArray := prog_9_method_22_code
def yX7_doing : MethodName := ⟨RX7, "doing", "(II)I"⟩
abbrev cX7_say : ByteArray := prog_9_method_23_code
def yX7_say : MethodName := ⟨RX7, "say", "(IIZ)I"⟩
abbrev cX7_saidIn : ByteArray := prog_9_method_24_code
def yX7_saidIn : MethodName := ⟨RX7, "saidIn", "(I)I"⟩
abbrev cX7_said : ByteArray := prog_9_method_25_code
def yX7_said : MethodName := ⟨RX7, "said", "(I)I"⟩
abbrev cX7_kind : ByteArray := prog_9_method_26_code
def yX7_kind : MethodName := ⟨RX7, "kind", "(I)I"⟩
abbrev cX7_weight : ByteArray := prog_9_method_27_code
def yX7_weight : MethodName := ⟨RX7, "weight", "(II)I"⟩
abbrev cX7_has : ByteArray := prog_9_method_28_code
def yX7_has : MethodName := ⟨RX7, "has", "(II)I"⟩
abbrev cX7_isLeft : ByteArray := prog_9_method_29_code
def yX7_isLeft : MethodName := ⟨RX7, "isLeft", "(III)Z"⟩
abbrev cX7_left : ByteArray := prog_9_method_30_code
def yX7_left : MethodName := ⟨RX7, "left", "(III)I"⟩
abbrev cX7_plainest : ByteArray := prog_9_method_31_code
def yX7_plainest : MethodName := ⟨RX7, "plainest", "(II)I"⟩
abbrev cX7_judge : ByteArray := prog_9_method_32_code
def yX7_judge : MethodName := ⟨RX7, "judge", "(II)I"⟩
abbrev cX7_set : ByteArray := prog_9_method_33_code
def yX7_set : MethodName := ⟨RX7, "set", "(II)I"⟩
abbrev cX7_likelihoodOf : ByteArray := prog_9_method_34_code
def yX7_likelihoodOf : MethodName := ⟨RX7, "likelihoodOf", "(II)J"⟩
abbrev cX7_likelihood : ByteArray := prog_9_method_35_code
def yX7_likelihood : MethodName := ⟨RX7, "likelihood", "(II)J"⟩
abbrev cX7_divisor : ByteArray := prog_9_method_36_code
def yX7_divisor : MethodName := ⟨RX7, "divisor", "(JJ)J"⟩
abbrev cX7_chance : ByteArray := prog_9_method_37_code
def yX7_chance : MethodName := ⟨RX7, "chance", "(III)J"⟩
abbrev cX7_likeliest : ByteArray := prog_9_method_38_code
def yX7_likeliest : MethodName := ⟨RX7, "likeliest", "(I)I"⟩
abbrev cX7_isSet : ByteArray := prog_9_method_39_code
def yX7_isSet : MethodName := ⟨RX7, "isSet", "(I)Z"⟩
abbrev cX7_findWords : ByteArray := prog_9_method_40_code
def yX7_findWords : MethodName := ⟨RX7, "findWords", "(I)V"⟩
abbrev cX7_commonTo : ByteArray := prog_9_method_41_code
def yX7_commonTo : MethodName := ⟨RX7, "commonTo", "(I)I"⟩
abbrev cX7_givings : ByteArray := prog_9_method_42_code
def yX7_givings : MethodName := ⟨RX7, "givings", "(I)I"⟩
abbrev cX7_findFirst : ByteArray := prog_9_method_43_code
def yX7_findFirst : MethodName := ⟨RX7, "findFirst", "(I)Z"⟩
abbrev cX7_canHave : ByteArray := prog_9_method_44_code
def yX7_canHave : MethodName := ⟨RX7, "canHave", "(I)Z"⟩
abbrev cX7_isOneLeft : ByteArray := prog_9_method_45_code
def yX7_isOneLeft : MethodName := ⟨RX7, "isOneLeft", "(I)Z"⟩
abbrev cX7_giving : ByteArray := prog_9_method_46_code
def yX7_giving : MethodName := ⟨RX7, "giving", "(II)I"⟩
abbrev cX7_two : ByteArray := prog_9_method_47_code
def yX7_two : MethodName := ⟨RX7, "two", "(II)I"⟩
abbrev cX7_give : ByteArray := prog_9_method_48_code
def yX7_give : MethodName := ⟨RX7, "give", "(II)I"⟩
abbrev cX7_saying : ByteArray := prog_9_method_49_code
def yX7_saying : MethodName := ⟨RX7, "saying", "(II)I"⟩
abbrev cX7_isDone : ByteArray := prog_9_method_50_code
def yX7_isDone : MethodName := ⟨RX7, "isDone", "(IIII)Z"⟩
abbrev cX7_fits : ByteArray := prog_9_method_51_code
def yX7_fits : MethodName := ⟨RX7, "fits", "(II)Z"⟩
abbrev cX7_orders : ByteArray := prog_9_method_52_code
def yX7_orders : MethodName := ⟨RX7, "orders", "()I"⟩
abbrev cX7_next : ByteArray := prog_9_method_53_code
def yX7_next : MethodName := ⟨RX7, "next", "(I)I"⟩
abbrev cX7_findShown : ByteArray := prog_9_method_54_code
def yX7_findShown : MethodName := ⟨RX7, "findShown", "(I)V"⟩
abbrev cX7_findUnlike : ByteArray := prog_9_method_55_code
def yX7_findUnlike : MethodName := ⟨RX7, "findUnlike", "(I)V"⟩
abbrev cX7_partsAll : ByteArray := prog_9_method_56_code
def yX7_partsAll : MethodName := ⟨RX7, "partsAll", "(I)Z"⟩
abbrev cX7_scenesOf : ByteArray := prog_9_method_57_code
def yX7_scenesOf : MethodName := ⟨RX7, "scenesOf", "(I)I"⟩
abbrev cX7_enough : ByteArray := prog_9_method_58_code
def yX7_enough : MethodName := ⟨RX7, "enough", "(I)I"⟩
abbrev cX7_help : ByteArray := prog_9_method_59_code
def yX7_help : MethodName := ⟨RX7, "help", "(III)I"⟩
abbrev cX7_leftBy : ByteArray := prog_9_method_60_code
def yX7_leftBy : MethodName := ⟨RX7, "leftBy", "(II)I"⟩
abbrev cX7_partOf : ByteArray := prog_9_method_61_code
def yX7_partOf : MethodName := ⟨RX7, "partOf", "(II)I"⟩
abbrev cX7_never : ByteArray := prog_9_method_62_code
def yX7_never : MethodName := ⟨RX7, "never", "()I"⟩
abbrev cX7_same : ByteArray := prog_9_method_63_code
def yX7_same : MethodName := ⟨RX7, "same", "(II)I"⟩
abbrev cX7_part : ByteArray := prog_9_method_64_code
def yX7_part : MethodName := ⟨RX7, "part", "(II)I"⟩
abbrev cX7_move : ByteArray := prog_9_method_65_code
def yX7_move : MethodName := ⟨RX7, "move", "(I)I"⟩
abbrev cX7_moveAll : ByteArray := prog_9_method_66_code
def yX7_moveAll : MethodName := ⟨RX7, "moveAll", "()V"⟩
abbrev cX7_image : ByteArray := prog_9_method_67_code
def yX7_image : MethodName := ⟨RX7, "image", "()I"⟩
abbrev cX7_restore : ByteArray := prog_9_method_68_code
def yX7_restore : MethodName := ⟨RX7, "restore", "()I"⟩
abbrev cX7_count : ByteArray := prog_9_method_69_code
def yX7_count : MethodName := ⟨RX7, "count", "(I)I"⟩
def RJ6 : String := "java/lang/Integer"
abbrev cJ6_bitCount_0f7a4 : ByteArray := prog_10_method_49_code
def RJ9 : String := "java/lang/Math"
abbrev cJ9_max_7cf53 : ByteArray := prog_11_method_65_code
def RJ10 : String := "java/lang/System"
def RJ7 : String := "java/util/Arrays"
abbrev cJ7_fill_53178 : ByteArray := prog_13_method_103_code
def RL : String := "WhichWordLaw"
abbrev cL_law : ByteArray := code
def yL_law : MethodName := ⟨RL, "law", "([I)Z"⟩
abbrev vwCl : List vw_C := [(RX0, TX0, 5), (RX1, TX1, 2), (RX2, TX2, 1), (RX3, TX3, 4), (RX4, TX4, 3), (RX5, TX5, 12), (RX6, TX6, 8), (RX7, TX7, 31)]
end
section
/-! A small machine over lists: what an instruction asks, as a proposition. Cells are numbered in the order in which the law makes them (the script and five tables first). -/
abbrev mm_L : Type := List (Option Value)
abbrev mm_M : Type := List va_E
abbrev mm_Q : Type := Option Value → mm_M → Prop
abbrev mm_K : Type := Nat → mm_L → List Value → mm_M → Nat → Nat → Prop
/-- an instruction; where it goes on; two numbers; ints (a constant, a switch's cases); a long -/
abbrev mm_I : Type := Instr × Nat × Nat × Nat × List (Int32 × Nat) × Int64
abbrev mm_C : Type := List (Nat × mm_I)
abbrev mm_S : Type := Nat → List Value → mm_M → mm_Q → Prop
def mm_nth {α : Type} : List α → Nat → Option α
  | [], _ => none
  | x :: _, 0 => some x
  | _ :: t, n + 1 => mm_nth t n
def mm_set {α : Type} : List α → Nat → α → List α
  | [], _, _ => []
  | _ :: t, 0, v => v :: t
  | x :: t, n + 1, v => x :: mm_set t n v
def mm_find : mm_C → Nat → Option mm_I
  | [], _ => none
  | q :: r, pc => match Nat.beq q.1 pc with
    | true => some q.2
    | false => mm_find r pc
def mm_long : Option (Option Value) → Bool
  | some (some (.long _)) => true
  | some (some (.double _)) => true
  | _ => false
def mm_ok (ls : mm_L) : Nat → Bool
  | 0 => true
  | i + 1 => match mm_long (mm_nth ls i) with
    | true => false
    | false => true
def mm_put1 (ls : mm_L) (i : Nat) (v : Value) : Option mm_L := match mm_nth ls i, mm_ok ls i with
  | some _, true => some (mm_set ls i (some v))
  | _, _ => none
def mm_put2 (ls : mm_L) (i : Nat) (v : Value) : Option mm_L := match mm_nth ls (i + 1), mm_ok ls i with
  | some _, true => some (mm_set (mm_set ls i (some v)) (i + 1) none)
  | _, _ => none
def mm_pop : Nat → List Value → List Value → Option (List Value × List Value)
  | 0, acc, st => some (acc, st)
  | n + 1, acc, v :: st => mm_pop n (v :: acc) st
  | _ + 1, _, [] => none
def mm_sum : List Value → Nat
  | [] => 0
  | v :: t => v.category + mm_sum t
/-- instructions that touch locals and stack alone -/
def mm_pure (ins : Instr) (a : Nat) (sw : List (Int32 × Nat)) (lc : Int64) (ls : mm_L) (st : List Value) : Option (mm_L × List Value) :=
  match ins with
  | .iconst _ => match sw with
    | (v, _) :: _ => some (ls, .int v :: st)
    | [] => none
  | .bipush _ => match sw with
    | (v, _) :: _ => some (ls, .int v :: st)
    | [] => none
  | .sipush _ => match sw with
    | (v, _) :: _ => some (ls, .int v :: st)
    | [] => none
  | .ldc_w _ => match sw with
    | (v, _) :: _ => some (ls, .int v :: st)
    | [] => none
  | .ldc _ => match sw with
    | (v, _) :: _ => some (ls, .int v :: st)
    | [] => none
  | .lconst _ => some (ls, .long lc :: st)
  | .ldc2_w _ => some (ls, .long lc :: st)
  | .iload _ => match mm_nth ls a with
    | some (some (.int x)) => some (ls, .int x :: st)
    | _ => none
  | .iload_n _ => match mm_nth ls a with
    | some (some (.int x)) => some (ls, .int x :: st)
    | _ => none
  | .lload _ => match mm_nth ls a with
    | some (some (.long x)) => some (ls, .long x :: st)
    | _ => none
  | .lload_n _ => match mm_nth ls a with
    | some (some (.long x)) => some (ls, .long x :: st)
    | _ => none
  | .aload _ => match mm_nth ls a with
    | some (some (.ref x)) => some (ls, .ref x :: st)
    | _ => none
  | .aload_n _ => match mm_nth ls a with
    | some (some (.ref x)) => some (ls, .ref x :: st)
    | _ => none
  | .istore _ => match st with
    | .int x :: st => match mm_put1 ls a (.int x) with
      | some ls => some (ls, st)
      | none => none
    | _ => none
  | .istore_n _ => match st with
    | .int x :: st => match mm_put1 ls a (.int x) with
      | some ls => some (ls, st)
      | none => none
    | _ => none
  | .astore _ => match st with
    | .ref x :: st => match mm_put1 ls a (.ref x) with
      | some ls => some (ls, st)
      | none => none
    | _ => none
  | .astore_n _ => match st with
    | .ref x :: st => match mm_put1 ls a (.ref x) with
      | some ls => some (ls, st)
      | none => none
    | _ => none
  | .lstore _ => match st with
    | .long x :: st => match mm_put2 ls a (.long x) with
      | some ls => some (ls, st)
      | none => none
    | _ => none
  | .lstore_n _ => match st with
    | .long x :: st => match mm_put2 ls a (.long x) with
      | some ls => some (ls, st)
      | none => none
    | _ => none
  | .iinc _ _ => match mm_nth ls a with
    | some (some (.int x)) => match sw with
      | (v, _) :: _ => match mm_put1 ls a (.int (x + v)) with
        | some ls => some (ls, st)
        | none => none
      | [] => none
    | _ => none
  | .iadd => match st with
    | .int y :: .int x :: st => some (ls, .int (x + y) :: st)
    | _ => none
  | .isub => match st with
    | .int y :: .int x :: st => some (ls, .int (x - y) :: st)
    | _ => none
  | .imul => match st with
    | .int y :: .int x :: st => some (ls, .int (x * y) :: st)
    | _ => none
  | .iand => match st with
    | .int y :: .int x :: st => some (ls, .int (x &&& y) :: st)
    | _ => none
  | .ior => match st with
    | .int y :: .int x :: st => some (ls, .int (x ||| y) :: st)
    | _ => none
  | .ixor => match st with
    | .int y :: .int x :: st => some (ls, .int (x ^^^ y) :: st)
    | _ => none
  | .ineg => match st with
    | .int x :: st => some (ls, .int (-x) :: st)
    | _ => none
  | .ishl => match st with
    | .int y :: .int x :: st => some (ls, .int (x <<< (y &&& 31)) :: st)
    | _ => none
  | .ishr => match st with
    | .int y :: .int x :: st => some (ls, .int (x >>> (y &&& 31)) :: st)
    | _ => none
  | .iushr => match st with
    | .int y :: .int x :: st => some (ls, .int ((x.toUInt32 >>> (y.toUInt32 &&& Int32.toUInt32 31)).toInt32) :: st)
    | _ => none
  | .ladd => match st with
    | .long y :: .long x :: st => some (ls, .long (x + y) :: st)
    | _ => none
  | .lmul => match st with
    | .long y :: .long x :: st => some (ls, .long (x * y) :: st)
    | _ => none
  | .land => match st with
    | .long y :: .long x :: st => some (ls, .long (x &&& y) :: st)
    | _ => none
  | .lor => match st with
    | .long y :: .long x :: st => some (ls, .long (x ||| y) :: st)
    | _ => none
  | .lshl => match st with
    | .int y :: .long x :: st => some (ls, .long (x <<< (y.toInt64 &&& 63)) :: st)
    | _ => none
  | .lshr => match st with
    | .int y :: .long x :: st => some (ls, .long (x >>> (y.toInt64 &&& 63)) :: st)
    | _ => none
  | .lushr => match st with
    | .int y :: .long x :: st => some (ls, .long ((x.toUInt64 >>> (y.toInt64.toUInt64 &&& Int64.toUInt64 63)).toInt64) :: st)
    | _ => none
  | .i2l => match st with
    | .int x :: st => some (ls, .long x.toInt64 :: st)
    | _ => none
  | .l2i => match st with
    | .long x :: st => some (ls, .int x.toInt32 :: st)
    | _ => none
  | .lcmp => match st with
    | .long y :: .long x :: st => some (ls, .int (lg_cmp x y) :: st)
    | _ => none
  | .dup => match st with
    | .int x :: st => some (ls, .int x :: .int x :: st)
    | .ref x :: st => some (ls, .ref x :: .ref x :: st)
    | _ => none
  | .dup2 => match st with
    | .int y :: .ref x :: st => some (ls, .int y :: .ref x :: .int y :: .ref x :: st)
    | _ => none
  | _ => none
/-- a switch: case by case -/
def mm_sw (x : Int32) (d : Prop) (f : Nat → Prop) : List (Int32 × Nat) → Prop
  | [] => d
  | q :: r => (x = q.1 → f q.2) ∧ (¬ x = q.1 → mm_sw x d f r)
def mm_if (c : ClassFile.Cond) (x y : Int32) (t f : Prop) : Prop := match c with
  | .eq => (x = y → t) ∧ (¬ x = y → f)
  | .ne => (¬ x = y → t) ∧ (x = y → f)
  | .lt => (x < y → t) ∧ (¬ x < y → f)
  | .ge => (y ≤ x → t) ∧ (¬ y ≤ x → f)
  | .gt => (y < x → t) ∧ (¬ y < x → f)
  | .le => (x ≤ y → t) ∧ (¬ x ≤ y → f)
def mm_go2 (S : mm_S) (K : mm_K) (nx : Nat) (ls : mm_L) (mem : mm_M) (k n a : Nat) (as rest : List Value) : Prop :=
  ∃ Q1 : mm_Q, S a as mem Q1 ∧ ∀ (r : Option Value) (mem1 : mm_M), Q1 r mem1 → K nx ls (r.toList ++ rest) mem1 k n
def mm_call (S : mm_S) (Al : Nat → Nat × Nat) (B : Nat × Nat) (K : mm_K) (nx : Nat) (ls : mm_L) (mem : mm_M) (k n a : Nat) (p : Option (List Value × List Value)) : Prop :=
  match p with
  | none => False
  | some q => match Nat.ble (mm_sum q.2) 8 with
    | false => False
    | true => match Al a with
      | (0, 0) => mm_go2 S K nx ls mem k n a q.1 q.2
      | (c, d) => (k + c ≤ B.1 ∧ n + d ≤ B.2) ∧ mm_go2 S K nx ls mem (k + c) (n + d) a q.1 q.2
/-- a new cell -/
def mm_new (B : Nat × Nat) (K : mm_K) (nx : Nat) (ls : mm_L) (st : List Value) (mem : mm_M) (k n : Nat) (z : Nat) (e : va_E) : Prop :=
  (k + 1 ≤ B.1 ∧ n + z ≤ B.2) ∧ ∀ r : Nat, r = mem.length → K nx ls (.ref r :: st) (mem ++ [e]) (k + 1) (n + z)
def mm_fit (tag : Nat) (v : Value) : Prop := match tag, v with
  | 0, .int _ => True
  | 1, .int x => fits .boolean (.int x) = true
  | 2, .ref _ => True
  | _, _ => False
/-- what an instruction asks, and where it goes -/
def mm_ins (S : mm_S) (Al : Nat → Nat × Nat) (Df : Nat → List Value) (B : Nat × Nat) (Q : mm_Q) (K : mm_K) (ins : Instr) (nx a b : Nat) (sw : List (Int32 × Nat)) (lc : Int64) (ls : mm_L) (st : List Value) (mem : mm_M) (k n : Nat) : Prop :=
  match ins with
  | .idiv => match st with
    | .int y :: .int x :: st => ¬ y = 0 ∧ K nx ls (.int (x / y) :: st) mem k n
    | _ => False
  | .irem => match st with
    | .int y :: .int x :: st => ¬ y = 0 ∧ K nx ls (.int (x - x / y * y) :: st) mem k n
    | _ => False
  | .ldiv => match st with
    | .long y :: .long x :: st => ¬ y = 0 ∧ K nx ls (.long (x / y) :: st) mem k n
    | _ => False
  | .lrem => match st with
    | .long y :: .long x :: st => ¬ y = 0 ∧ K nx ls (.long (x - x / y * y) :: st) mem k n
    | _ => False
  | .ifCond c _ => match st with
    | .int x :: st => mm_if c x 0 (K a ls st mem k n) (K nx ls st mem k n)
    | _ => False
  | .if_icmp c _ => match st with
    | .int y :: .int x :: st => mm_if c x y (K a ls st mem k n) (K nx ls st mem k n)
    | _ => False
  | .goto _ => K a ls st mem k n
  | .tableswitch _ _ _ _ => match st with
    | .int x :: st => mm_sw x (K a ls st mem k n) (fun t => K t ls st mem k n) sw
    | _ => False
  | .lookupswitch _ _ => match st with
    | .int x :: st => mm_sw x (K a ls st mem k n) (fun t => K t ls st mem k n) sw
    | _ => False
  | .getstatic _ => K nx ls (.ref a :: st) mem k n
  | .getfield _ => match st with
    | .ref r :: st => match mm_nth mem r with
      | some (.inr o) => match Nat.beq o.1 a with
        | true => match mm_nth o.2 b with
          | some v => K nx ls (v :: st) mem k n
          | none => False
        | false => False
      | _ => False
    | _ => False
  | .putfield _ => match st with
    | v :: .ref r :: st => match mm_nth mem r with
      | some (.inr o) => match Nat.beq o.1 a with
        | true => match mm_nth o.2 b with
          | some _ => match sw with
            | (_, tag) :: _ => mm_fit tag v ∧ K nx ls st (mm_set mem r (.inr (o.1, mm_set o.2 b v))) k n
            | [] => False
          | none => False
        | false => False
      | _ => False
    | _ => False
  | .iaload => match st with
    | .int i :: .ref r :: st => match mm_nth mem r with
      | some (.inl (0, N, .inl f)) => vp_in i N ∧ K nx ls (.int (f i.toNatClampNeg) :: st) mem k n
      | _ => False
    | _ => False
  | .baload => match st with
    | .int i :: .ref r :: st => match mm_nth mem r with
      | some (.inl (1, N, .inl f)) => vp_in i N ∧ K nx ls (.int (f i.toNatClampNeg) :: st) mem k n
      | _ => False
    | _ => False
  | .aaload => match st with
    | .int i :: .ref r :: st => match mm_nth mem r with
      | some (.inl (2, N, .inr (.inr (.inr (.inr f))))) => vp_in i N ∧ ∃ y : Nat, f i.toNatClampNeg = some y ∧ K nx ls (.ref y :: st) mem k n
      | _ => False
    | _ => False
  | .iastore => match st with
    | .int x :: .int i :: .ref r :: st => match Nat.ble 6 r with
      | true => match mm_nth mem r with
        | some (.inl (0, N, .inl f)) => vp_in i N ∧ K nx ls st (mm_set mem r (.inl (0, N, .inl (upd f i.toNatClampNeg x)))) k n
        | _ => False
      | false => False
    | _ => False
  | .bastore => match st with
    | .int x :: .int i :: .ref r :: st => match Nat.ble 6 r with
      | true => match mm_nth mem r with
        | some (.inl (1, N, .inl f)) => vp_in i N ∧ fits .boolean (.int x) = true ∧ K nx ls st (mm_set mem r (.inl (1, N, .inl (upd f i.toNatClampNeg x)))) k n
        | _ => False
      | false => False
    | _ => False
  | .aastore => match st with
    | .ref y :: .int i :: .ref r :: st => match Nat.ble 6 r with
      | true => match mm_nth mem r with
        | some (.inl (2, N, .inr (.inr (.inr (.inr f))))) => vp_in i N ∧ (∃ fs : List Value, mm_nth mem y = some (.inr (a, fs))) ∧ K nx ls st (mm_set mem r (.inl (2, N, .inr (.inr (.inr (.inr (va_up f i.toNatClampNeg (some y)))))))) k n
        | _ => False
      | false => False
    | _ => False
  | .arraylength => match st with
    | .ref r :: st => match mm_nth mem r with
      | some (.inl (t, N, _)) => match Nat.ble t 2 with
        | true => K nx ls (.int (nI N) :: st) mem k n
        | false => False
      | _ => False
    | _ => False
  | .new _ => mm_new B K nx ls st mem k n b (.inr (a, Df a))
  | .newarray _ => match st with
    | .int x :: st => x = nI b ∧ mm_new B K nx ls st mem k n b (.inl (a, b, .inl (fun _ => 0)))
    | _ => False
  | .anewarray _ => match st with
    | .int x :: st => x = nI b ∧ mm_new B K nx ls st mem k n b (.inl (2, b, .inr (.inr (.inr (.inr (fun _ => none))))))
    | _ => False
  | .invokevirtual _ => mm_call S Al B K nx ls mem k n a (mm_pop b [] st)
  | .invokestatic _ => match lc with
    | 0 => mm_call S Al B K nx ls mem k n a (mm_pop b [] st)
    | _ => match st with
      | .int z :: .int dp :: .ref d :: .int sp :: .ref r :: st => match Nat.ble 6 d, mm_nth mem r, mm_nth mem d with
        | true, some (.inl (0, N, .inl f)), some (.inl (0, M, .inl g)) =>
          ((¬ sp < 0 ∧ ¬ dp < 0 ∧ ¬ z < 0 ∧ 6 ≤ r) ∧ sp.toNatClampNeg + z.toNatClampNeg ≤ N ∧ dp.toNatClampNeg + z.toNatClampNeg ≤ M ∧ mm_sum st ≤ 8) ∧
            K nx ls st (mm_set mem d (.inl (0, M, .inl (va_cpy f g sp.toNatClampNeg dp.toNatClampNeg z.toNatClampNeg)))) k n
        | _, _, _ => False
      | _ => False
  | .invokespecial _ => match lc with
    | 0 => mm_call S Al B K nx ls mem k n a (mm_pop b [] st)
    | _ => match st with
      | .ref _ :: st => mm_sum st ≤ 8 ∧ K nx ls st mem k n
      | _ => False
  | .ireturn => match st with
    | [.int v] => match a with
      | 0 => Q (some (.int v)) mem
      | _ => fits .boolean (.int v) = true ∧ Q (some (.int v)) mem
    | _ => False
  | .lreturn => match st with
    | [.long v] => Q (some (.long v)) mem
    | _ => False
  | .return_ => match st with
    | [] => Q none mem
    | _ => False
  | _ => match mm_pure ins a sw lc ls st with
    | some r => K nx r.1 r.2 mem k n
    | none => False
def mm_step (S : mm_S) (Al : Nat → Nat × Nat) (Df : Nat → List Value) (B : Nat × Nat) (cd : mm_C) (Q : mm_Q) (K : mm_K) (pc : Nat) (ls : mm_L) (st : List Value) (mem : mm_M) (k n : Nat) : Prop :=
  match mm_find cd pc with
  | none => False
  | some q => mm_ins S Al Df B Q K q.1 q.2.1 q.2.2.1 q.2.2.2.1 q.2.2.2.2.1 q.2.2.2.2.2 ls st mem k n
def mm_WP (S : mm_S) (Al : Nat → Nat × Nat) (Df : Nat → List Value) (B : Nat × Nat) (cd : mm_C) (Q : mm_Q) (pc : Nat) (ls : mm_L) (st : List Value) (mem : mm_M) (k n : Nat) : Prop :=
  ∀ X : mm_K, (∀ pc ls st mem k n, mm_step S Al Df B cd Q X pc ls st mem k n → X pc ls st mem k n) → X pc ls st mem k n
theorem mm_if_mono {c : ClassFile.Cond} {x y : Int32} {t f t' f' : Prop} (ht : t → t') (hf : f → f') (h : mm_if c x y t f) : mm_if c x y t' f' := by
  cases c <;> exact ⟨fun z => ht (h.1 z), fun z => hf (h.2 z)⟩
theorem mm_sw_mono {x : Int32} {d d' : Prop} {f f' : Nat → Prop} (hd : d → d') (hf : ∀ t, f t → f' t) (l : List (Int32 × Nat)) (h : mm_sw x d f l) : mm_sw x d' f' l := by
  induction l with
  | nil => exact hd h
  | cons q r ih => exact ⟨fun z => hf _ (h.1 z), fun z => ih (h.2 z)⟩
theorem mm_go2_mono {S : mm_S} {K K' : mm_K} (hK : ∀ pc ls st mem k n, K pc ls st mem k n → K' pc ls st mem k n) {nx : Nat} {ls : mm_L} {mem : mm_M} {k n a : Nat} {as rest : List Value} (h : mm_go2 S K nx ls mem k n a as rest) : mm_go2 S K' nx ls mem k n a as rest := by
  obtain ⟨Q1, h1, h2⟩ := h
  exact ⟨Q1, h1, fun r m q => hK _ _ _ _ _ _ (h2 r m q)⟩
theorem mm_call_mono {S : mm_S} {Al : Nat → Nat × Nat} {B : Nat × Nat} {K K' : mm_K} (hK : ∀ pc ls st mem k n, K pc ls st mem k n → K' pc ls st mem k n) {nx : Nat} {ls : mm_L} {mem : mm_M} {k n a : Nat} {p : Option (List Value × List Value)} (h : mm_call S Al B K nx ls mem k n a p) : mm_call S Al B K' nx ls mem k n a p := by
  unfold mm_call at h ⊢
  split at h
  · exact h
  · split at h
    · exact h
    · split at h
      · exact mm_go2_mono hK h
      · exact ⟨h.1, mm_go2_mono hK h.2⟩
theorem mm_new_mono {B : Nat × Nat} {K K' : mm_K} (hK : ∀ pc ls st mem k n, K pc ls st mem k n → K' pc ls st mem k n) {nx : Nat} {ls : mm_L} {st : List Value} {mem : mm_M} {k n z : Nat} {e : va_E} (h : mm_new B K nx ls st mem k n z e) : mm_new B K' nx ls st mem k n z e :=
  ⟨h.1, fun r hr => hK _ _ _ _ _ _ (h.2 r hr)⟩
theorem mm_ins_mono {S : mm_S} {Al : Nat → Nat × Nat} {Df : Nat → List Value} {B : Nat × Nat} {Q : mm_Q} {K K' : mm_K} (hK : ∀ pc ls st mem k n, K pc ls st mem k n → K' pc ls st mem k n) (ins : Instr) {nx a b : Nat} {sw : List (Int32 × Nat)} {lc : Int64} {ls : mm_L} {st : List Value} {mem : mm_M} {k n : Nat} (h : mm_ins S Al Df B Q K ins nx a b sw lc ls st mem k n) : mm_ins S Al Df B Q K' ins nx a b sw lc ls st mem k n := by
  unfold mm_ins at h ⊢
  revert h
  repeat' split
  all_goals first
    | exact hK _ _ _ _ _ _
    | exact fun h => h
    | exact fun h => ⟨h.1, hK _ _ _ _ _ _ h.2⟩
    | exact fun h => ⟨h.1, h.2.1, hK _ _ _ _ _ _ h.2.2⟩
    | exact mm_if_mono (hK _ _ _ _ _ _) (hK _ _ _ _ _ _)
    | exact mm_sw_mono (hK _ _ _ _ _ _) (fun _ => hK _ _ _ _ _ _) _
    | exact mm_call_mono hK
    | exact mm_new_mono hK
    | exact fun h => ⟨h.1, mm_new_mono hK h.2⟩
    | exact fun h => ⟨h.1, h.2.choose, h.2.choose_spec.1, hK _ _ _ _ _ _ h.2.choose_spec.2⟩
    | skip
theorem mm_step_mono {S : mm_S} {Al : Nat → Nat × Nat} {Df : Nat → List Value} {B : Nat × Nat} {cd : mm_C} {Q : mm_Q} {K K' : mm_K} (hK : ∀ pc ls st mem k n, K pc ls st mem k n → K' pc ls st mem k n) {pc : Nat} {ls : mm_L} {st : List Value} {mem : mm_M} {k n : Nat} (h : mm_step S Al Df B cd Q K pc ls st mem k n) : mm_step S Al Df B cd Q K' pc ls st mem k n := by
  unfold mm_step at h ⊢
  revert h
  split
  · exact fun h => h
  · exact mm_ins_mono hK _
theorem mm_WP.step {S : mm_S} {Al : Nat → Nat × Nat} {Df : Nat → List Value} {B : Nat × Nat} {cd : mm_C} {Q : mm_Q} {pc : Nat} {ls : mm_L} {st : List Value} {mem : mm_M} {k n : Nat} (h : mm_step S Al Df B cd Q (mm_WP S Al Df B cd Q) pc ls st mem k n) : mm_WP S Al Df B cd Q pc ls st mem k n :=
  fun X hX => hX _ _ _ _ _ _ (mm_step_mono (fun _ _ _ _ _ _ w => w X hX) h)
/-- on and on, up to the stops -/
def mm_go (S : mm_S) (Al : Nat → Nat × Nat) (Df : Nat → List Value) (B : Nat × Nat) (cd : mm_C) (Q : mm_Q) (stops : List Nat) : Nat → mm_K
  | 0 => mm_WP S Al Df B cd Q
  | f + 1 => fun pc ls st mem k n => match List.any stops (Nat.beq pc) with
    | true => mm_WP S Al Df B cd Q pc ls st mem k n
    | false => mm_step S Al Df B cd Q (mm_go S Al Df B cd Q stops f) pc ls st mem k n
theorem mm_go_WP {S : mm_S} {Al : Nat → Nat × Nat} {Df : Nat → List Value} {B : Nat × Nat} {cd : mm_C} {Q : mm_Q} {stops : List Nat} (f : Nat) : ∀ (pc : Nat) (ls : mm_L) (st : List Value) (mem : mm_M) (k n : Nat), mm_go S Al Df B cd Q stops f pc ls st mem k n → mm_WP S Al Df B cd Q pc ls st mem k n := by
  induction f with
  | zero => exact fun _ _ _ _ _ _ h => h
  | succ f ih =>
    intro pc ls st mem k n h
    unfold mm_go at h
    revert h
    split
    · exact fun h => h
    · exact fun h => mm_WP.step (mm_step_mono ih h)
/-- a walk: one step, then on and on up to the stops -/
theorem mm_WP.go {S : mm_S} {Al : Nat → Nat × Nat} {Df : Nat → List Value} {B : Nat × Nat} {cd : mm_C} {Q : mm_Q} (stops : List Nat) (f : Nat) {pc : Nat} {ls : mm_L} {st : List Value} {mem : mm_M} {k n : Nat} (h : mm_step S Al Df B cd Q (mm_go S Al Df B cd Q stops f) pc ls st mem k n) : mm_WP S Al Df B cd Q pc ls st mem k n :=
  mm_WP.step (mm_step_mono (mm_go_WP f) h)
theorem mm_WP.mono {S : mm_S} {Al : Nat → Nat × Nat} {Df : Nat → List Value} {B : Nat × Nat} {cd : mm_C} {Q Q' : mm_Q} (hQ : ∀ r m, Q r m → Q' r m) {pc : Nat} {ls : mm_L} {st : List Value} {mem : mm_M} {k n : Nat} (h : mm_WP S Al Df B cd Q pc ls st mem k n) : mm_WP S Al Df B cd Q' pc ls st mem k n := by
  refine h (mm_WP S Al Df B cd Q') (fun pc ls st mem k n h => mm_WP.step ?_)
  unfold mm_step at h ⊢
  revert h
  split
  · exact fun h => h
  · unfold mm_ins
    repeat' split
    all_goals first
      | exact fun h => h
      | exact hQ _ _
      | exact fun h => ⟨h.1, hQ _ _ h.2⟩
def mm_lay : List Value → mm_L
  | [] => []
  | .long x :: t => some (.long x) :: none :: mm_lay t
  | .double x :: t => some (.double x) :: none :: mm_lay t
  | v :: t => some v :: mm_lay t
def mm_rep : Nat → mm_L
  | 0 => []
  | n + 1 => none :: mm_rep n
def mm_args (n : Nat) (as : List Value) : mm_L := mm_lay as ++ mm_rep (n - (mm_lay as).length)
/-- a method: its code, the size of its locals, the number (and one) of its receiver's class (0: static) -/
abbrev mm_Y : Type := mm_C × Nat × Nat
def mm_recv (ci : Nat) (as : List Value) (mem : mm_M) : Prop := match ci with
  | 0 => True
  | c + 1 => match as with
    | .ref r :: _ => ∃ fs : List Value, mm_nth mem r = some (.inr (c, fs))
    | _ => False
/-- what a call does, with calls open at most so deep -/
def mm_Sp (Pg : Nat → mm_Y) (Al : Nat → Nat × Nat) (Df : Nat → List Value) : Nat → mm_S
  | 0 => fun _ _ _ _ => False
  | d + 1 => fun j as mem Q => mm_recv (Pg j).2.2 as mem ∧ Nat.ble (mm_lay as).length (Pg j).2.1 = true ∧ mm_WP (mm_Sp Pg Al Df d) Al Df (Al j) (Pg j).1 Q 0 (mm_args (Pg j).2.1 as) [] mem 0 0
end
section
/-! the small machine's locals and stack beside the real ones -/
def mm_v (g : Nat → Nat) : Value → Value
  | .ref k => .ref (g k)
  | v => v
theorem mm_v_cat (g : Nat → Nat) (v : Value) : (mm_v g v).category = v.category := by cases v <;> rfl
def mm_LR (g : Nat → Nat) (nL : Nat) (ls : mm_L) (lr : Array Slot) : Prop :=
  ls.length = nL ∧ lr.size = nL ∧ lv_wf lr ∧ ∀ (i : Nat) (v : Value), mm_nth ls i = some (some v) → lr[i]? = some (.val (mm_v g v))
theorem mm_nth_lt {α : Type} : ∀ {l : List α} {i : Nat} {x : α}, mm_nth l i = some x → i < l.length
  | [], _, _, h => by cases h
  | _ :: _, 0, _, _ => Nat.succ_pos _
  | _ :: t, n + 1, x, h => Nat.succ_lt_succ (mm_nth_lt (l := t) h)
theorem mm_set_len {α : Type} : ∀ (l : List α) (i : Nat) (x : α), (mm_set l i x).length = l.length
  | [], _, _ => rfl
  | _ :: _, 0, _ => rfl
  | _ :: t, n + 1, x => congrArg Nat.succ (mm_set_len t n x)
theorem mm_nth_set {α : Type} : ∀ (l : List α) (i j : Nat) (x : α), mm_nth (mm_set l i x) j = if j = i ∧ i < l.length then some x else mm_nth l j
  | [], i, j, x => by simp [mm_set, mm_nth]
  | y :: t, 0, 0, x => by simp [mm_set, mm_nth]
  | y :: t, 0, j + 1, x => by simp [mm_set, mm_nth]
  | y :: t, i + 1, 0, x => by simp [mm_set, mm_nth]
  | y :: t, i + 1, j + 1, x => by
    have h := mm_nth_set t i j x
    simp only [mm_set, mm_nth, h, List.length_cons, Nat.add_lt_add_iff_right, Nat.add_right_cancel_iff]
theorem mm_nth_eq {α : Type} : ∀ (l : List α) (i : Nat), mm_nth l i = l[i]?
  | [], _ => by simp [mm_nth]
  | _ :: _, 0 => by simp [mm_nth]
  | _ :: t, n + 1 => by simp [mm_nth, mm_nth_eq t n]
theorem mm_set_eq {α : Type} : ∀ (l : List α) (i : Nat) (x : α), mm_set l i x = l.set i x
  | [], _, _ => rfl
  | _ :: _, 0, _ => rfl
  | _ :: t, n + 1, x => by simp [mm_set, mm_set_eq t n x]
/-- the listed pairs of the locals -/
def mm_prs (g : Nat → Nat) : Nat → mm_L → List (Nat × Value)
  | _, [] => []
  | i, some v :: t => (i, mm_v g v) :: mm_prs g (i + 1) t
  | i, none :: t => mm_prs g (i + 1) t
theorem mm_prs_mem {g : Nat → Nat} : ∀ (ls : mm_L) (i : Nat) (q : Nat × Value), q ∈ mm_prs g i ls ↔ ∃ (j : Nat) (v : Value), mm_nth ls j = some (some v) ∧ q = (i + j, mm_v g v)
  | [], i, q => by simp [mm_prs, mm_nth]
  | some w :: t, i, q => by
    rw [mm_prs, List.mem_cons, mm_prs_mem t (i + 1) q]
    constructor
    · rintro (h | ⟨j, v, h1, h2⟩)
      · exact ⟨0, w, rfl, by rw [h]; rfl⟩
      · exact ⟨j + 1, v, h1, by rw [h2]; congr 1; omega⟩
    · rintro ⟨j, v, h1, h2⟩
      cases j with
      | zero => cases h1; exact Or.inl h2
      | succ j => exact Or.inr ⟨j, v, h1, by rw [h2]; congr 1; omega⟩
  | none :: t, i, q => by
    rw [mm_prs, mm_prs_mem t (i + 1) q]
    constructor
    · rintro ⟨j, v, h1, h2⟩
      exact ⟨j + 1, v, h1, by rw [h2]; congr 1; omega⟩
    · rintro ⟨j, v, h1, h2⟩
      cases j with
      | zero => cases h1
      | succ j => exact ⟨j, v, h1, by rw [h2]; congr 1; omega⟩
theorem mm_LR.has {g : Nat → Nat} {nL : Nat} {ls : mm_L} {lr : Array Slot} (h : mm_LR g nL ls lr) : lv_has lr nL (mm_prs g 0 ls) := by
  refine ⟨h.2.1, h.2.2.1, fun q hq => ?_⟩
  obtain ⟨j, v, h1, h2⟩ := (mm_prs_mem ls 0 q).mp hq
  subst h2
  simpa using h.2.2.2 j v h1
theorem mm_LR.at {g : Nat → Nat} {nL : Nat} {ls : mm_L} {lr : Array Slot} (h : mm_LR g nL ls lr) {i : Nat} {v : Value} (hi : mm_nth ls i = some (some v)) : lr[i]? = some (.val (mm_v g v)) := h.2.2.2 i v hi
theorem mm_LR.put1 {g : Nat → Nat} {nL : Nat} {ls ls' : mm_L} {lr lr' : Array Slot} {i : Nat} {v : Value} (h : mm_LR g nL ls lr) (hp : mm_put1 ls i v = some ls')
    (hh : lv_has lr' nL ((i, mm_v g v) :: (mm_prs g 0 ls).filter (fun q => !(q.1 == i) && !(q.1 + 1 == i && q.2.category == 2)))) : mm_LR g nL ls' lr' := by
  unfold mm_put1 at hp
  split at hp
  · rename_i x hx hok
    cases hp
    refine ⟨by rw [mm_set_len]; exact h.1, hh.1, hh.2.1, fun j w hj => ?_⟩
    rw [mm_nth_set] at hj
    split at hj
    · rename_i hc
      obtain ⟨rfl, -⟩ := hc
      cases hj
      exact hh.2.2 (j, mm_v g v) List.mem_cons_self
    · rename_i hc
      have hne : j ≠ i := fun e => hc ⟨e, mm_nth_lt hx⟩
      refine hh.2.2 (j, mm_v g w) (List.mem_cons_of_mem _ (List.mem_filter.mpr ⟨(mm_prs_mem ls 0 _).mpr ⟨j, w, hj, by simp⟩, ?_⟩))
      simp only [Bool.and_eq_true, Bool.not_eq_true', beq_eq_false_iff_ne, ne_eq, Bool.and_eq_false_iff, mm_v_cat]
      refine ⟨hne, ?_⟩
      by_cases e : j + 1 = i
      · right
        subst e
        have hok : mm_ok ls (j + 1) = true := hok
        simp only [mm_ok, hj] at hok
        cases w <;> first | (intro hh; cases hh; done) | (simp [mm_long] at hok; done) | (simp [Value.category])
      · exact Or.inl e
  · cases hp
theorem mm_LR.put2 {g : Nat → Nat} {nL : Nat} {ls ls' : mm_L} {lr lr' : Array Slot} {i : Nat} {v : Value} (h : mm_LR g nL ls lr) (hp : mm_put2 ls i v = some ls')
    (hh : lv_has lr' nL ((i, mm_v g v) :: (mm_prs g 0 ls).filter (fun q => !(q.1 == i) && (!(q.1 == i + 1) && !(q.1 + 1 == i && q.2.category == 2))))) : mm_LR g nL ls' lr' := by
  unfold mm_put2 at hp
  split at hp
  · rename_i x hx hok
    cases hp
    refine ⟨by rw [mm_set_len, mm_set_len]; exact h.1, hh.1, hh.2.1, fun j w hj => ?_⟩
    rw [mm_nth_set] at hj
    split at hj
    · cases hj
    · rename_i hc
      rw [mm_set_len] at hc
      rw [mm_nth_set] at hj
      have hne1 : j ≠ i + 1 := fun e => hc ⟨e, mm_nth_lt hx⟩
      split at hj
      · rename_i hc2
        obtain ⟨rfl, -⟩ := hc2
        cases hj
        exact hh.2.2 (j, mm_v g v) List.mem_cons_self
      · rename_i hc2
        have hne : j ≠ i := fun e => hc2 ⟨e, Nat.lt_of_succ_lt (mm_nth_lt hx)⟩
        refine hh.2.2 (j, mm_v g w) (List.mem_cons_of_mem _ (List.mem_filter.mpr ⟨(mm_prs_mem ls 0 _).mpr ⟨j, w, hj, by simp⟩, ?_⟩))
        simp only [Bool.and_eq_true, Bool.not_eq_true', beq_eq_false_iff_ne, ne_eq, Bool.and_eq_false_iff, mm_v_cat]
        refine ⟨hne, hne1, ?_⟩
        by_cases e : j + 1 = i
        · right
          subst e
          have hok : mm_ok ls (j + 1) = true := hok
          simp only [mm_ok, hj] at hok
          cases w <;> first | (intro hh; cases hh; done) | (simp [mm_long] at hok; done) | (simp [Value.category])
        · exact Or.inl e
  · cases hp
theorem mm_put1_lt {ls ls' : mm_L} {i : Nat} {v : Value} (h : mm_put1 ls i v = some ls') : i < ls.length := by
  unfold mm_put1 at h
  split at h
  · rename_i x hx hok
    exact mm_nth_lt hx
  · cases h
theorem mm_put2_lt {ls ls' : mm_L} {i : Nat} {v : Value} (h : mm_put2 ls i v = some ls') : i + 1 < ls.length := by
  unfold mm_put2 at h
  split at h
  · rename_i x hx hok
    exact mm_nth_lt hx
  · cases h
/-- what an instruction of locals and stack must be in the code -/
def mm_okp (cc : ByteArray) (pc : Nat) (ins : Instr) (nx a : Nat) (sw : List (Int32 × Nat)) (lc : Int64) : Prop :=
  match ins with
  | .iconst i => decode cc pc = .ok (.iconst i, 1) ∧ nx = pc + 1 ∧ ∃ v r, sw = (v, r) :: [] ∧ Int32.ofInt i = v
  | .bipush i => decode cc pc = .ok (.bipush i, 2) ∧ nx = pc + 2 ∧ ∃ v r, sw = (v, r) :: [] ∧ (Int8.ofInt i).toInt32 = v
  | .sipush i => decode cc pc = .ok (.sipush i, 3) ∧ nx = pc + 3 ∧ ∃ v r, sw = (v, r) :: [] ∧ (Int16.ofInt i).toInt32 = v
  | .lconst i => decode cc pc = .ok (.lconst i, 1) ∧ nx = pc + 1 ∧ Int64.ofNat (i : Nat) = lc
  | .iload i => decode cc pc = .ok (.iload i, 2) ∧ nx = pc + 2 ∧ i = a
  | .lload i => decode cc pc = .ok (.lload i, 2) ∧ nx = pc + 2 ∧ i = a
  | .aload i => decode cc pc = .ok (.aload i, 2) ∧ nx = pc + 2 ∧ i = a
  | .iload_n i => decode cc pc = .ok (.iload_n i, 1) ∧ nx = pc + 1 ∧ (i : Nat) = a
  | .lload_n i => decode cc pc = .ok (.lload_n i, 1) ∧ nx = pc + 1 ∧ (i : Nat) = a
  | .aload_n i => decode cc pc = .ok (.aload_n i, 1) ∧ nx = pc + 1 ∧ (i : Nat) = a
  | .istore i => decode cc pc = .ok (.istore i, 2) ∧ nx = pc + 2 ∧ i = a
  | .lstore i => decode cc pc = .ok (.lstore i, 2) ∧ nx = pc + 2 ∧ i = a
  | .astore i => decode cc pc = .ok (.astore i, 2) ∧ nx = pc + 2 ∧ i = a
  | .istore_n i => decode cc pc = .ok (.istore_n i, 1) ∧ nx = pc + 1 ∧ (i : Nat) = a
  | .lstore_n i => decode cc pc = .ok (.lstore_n i, 1) ∧ nx = pc + 1 ∧ (i : Nat) = a
  | .astore_n i => decode cc pc = .ok (.astore_n i, 1) ∧ nx = pc + 1 ∧ (i : Nat) = a
  | .iinc i z => decode cc pc = .ok (.iinc i z, 3) ∧ nx = pc + 3 ∧ i = a ∧ ∃ v r, sw = (v, r) :: [] ∧ Int32.ofInt z = v
  | .iadd => decode cc pc = .ok (.iadd, 1) ∧ nx = pc + 1
  | .isub => decode cc pc = .ok (.isub, 1) ∧ nx = pc + 1
  | .imul => decode cc pc = .ok (.imul, 1) ∧ nx = pc + 1
  | .iand => decode cc pc = .ok (.iand, 1) ∧ nx = pc + 1
  | .ior => decode cc pc = .ok (.ior, 1) ∧ nx = pc + 1
  | .ixor => decode cc pc = .ok (.ixor, 1) ∧ nx = pc + 1
  | .ineg => decode cc pc = .ok (.ineg, 1) ∧ nx = pc + 1
  | .ishl => decode cc pc = .ok (.ishl, 1) ∧ nx = pc + 1
  | .ishr => decode cc pc = .ok (.ishr, 1) ∧ nx = pc + 1
  | .iushr => decode cc pc = .ok (.iushr, 1) ∧ nx = pc + 1
  | .ladd => decode cc pc = .ok (.ladd, 1) ∧ nx = pc + 1
  | .lmul => decode cc pc = .ok (.lmul, 1) ∧ nx = pc + 1
  | .land => decode cc pc = .ok (.land, 1) ∧ nx = pc + 1
  | .lor => decode cc pc = .ok (.lor, 1) ∧ nx = pc + 1
  | .lshl => decode cc pc = .ok (.lshl, 1) ∧ nx = pc + 1
  | .lshr => decode cc pc = .ok (.lshr, 1) ∧ nx = pc + 1
  | .lushr => decode cc pc = .ok (.lushr, 1) ∧ nx = pc + 1
  | .i2l => decode cc pc = .ok (.i2l, 1) ∧ nx = pc + 1
  | .l2i => decode cc pc = .ok (.l2i, 1) ∧ nx = pc + 1
  | .lcmp => decode cc pc = .ok (.lcmp, 1) ∧ nx = pc + 1
  | .dup => decode cc pc = .ok (.dup, 1) ∧ nx = pc + 1
  | .dup2 => decode cc pc = .ok (.dup2, 1) ∧ nx = pc + 1
  | _ => False
section MMP
variable {p : Program} {l : Launch} {e : Env} {R : Room} {s : State} {m : MethodId} {args : Array Value} {below : List Frame} {meth : Method} {c : Code} {H : Heap} {locs : List Loc} {cells slots : Nat} {Q : State → Prop}
variable {cc : ByteArray} {pc nx a : Nat} {lr : Array Slot} {g : Nat → Nat} {nL : Nat} {ls ls' : mm_L} {st st' : List Value} {sw : List (Int32 × Nat)} {lc : Int64}
set_option maxHeartbeats 4000000 in
theorem mm_pure_ok (hx : p.tables.exec = Jvm.exec) (hb : c.code = cc) (ins : Instr) (hok : mm_okp cc pc ins nx a sw lc) (hl : mm_LR g nL ls lr) (h : mm_pure ins a sw lc ls st = some (ls', st'))
    (kk : ∀ lr' : Array Slot, mm_LR g nL ls' lr' → W p l e R s m args below meth c H locs cells slots Q (F0 m nx lr' (st'.map (mm_v g)))) : W p l e R s m args below meth c H locs cells slots Q (F0 m pc lr (st.map (mm_v g))) := by
  have hlen := hl.1
  unfold mm_pure at h
  split at h
  -- iconst, bipush, sipush
  · obtain ⟨hd, rfl, v, r, rfl, hv⟩ := hok
    cases h
    exact lv_iconst hx hb hd hv (kk lr hl)
  · obtain ⟨hd, rfl, v, r, rfl, hv⟩ := hok
    cases h
    exact lv_bipush hx hb hd hv (kk lr hl)
  · obtain ⟨hd, rfl, v, r, rfl, hv⟩ := hok
    cases h
    exact lv_sipush hx hb hd hv (kk lr hl)
  · exact hok.elim
  · exact hok.elim
  · obtain ⟨hd, rfl, hv⟩ := hok
    cases h
    exact lv_lconst hx hb hd hv (kk lr hl)
  · exact hok.elim
  -- loads
  · obtain ⟨hd, rfl, rfl⟩ := hok
    split at h
    · rename_i x hi
      cases h
      exact lv_iload hx hb hd (hl.at hi) (kk lr hl)
    · cases h
  · obtain ⟨hd, rfl, hi0⟩ := hok
    split at h
    · rename_i x hi
      cases h
      exact lv_iload_n hx hb hd hi0 (hl.at hi) (kk lr hl)
    · cases h
  · obtain ⟨hd, rfl, rfl⟩ := hok
    split at h
    · rename_i x hi
      cases h
      exact lv_lload hx hb hd (hl.at hi) (kk lr hl)
    · cases h
  · obtain ⟨hd, rfl, hi0⟩ := hok
    split at h
    · rename_i x hi
      cases h
      exact lv_lload_n hx hb hd hi0 (hl.at hi) (kk lr hl)
    · cases h
  · obtain ⟨hd, rfl, rfl⟩ := hok
    split at h
    · rename_i x hi
      cases h
      exact lv_aload hx hb hd (hl.at hi) (kk lr hl)
    · cases h
  · obtain ⟨hd, rfl, hi0⟩ := hok
    split at h
    · rename_i x hi
      cases h
      exact lv_aload_n hx hb hd hi0 (hl.at hi) (kk lr hl)
    · cases h
  -- stores
  · obtain ⟨hd, rfl, rfl⟩ := hok
    split at h
    · rename_i x st0
      split at h
      · rename_i ls0 hp
        cases h
        exact lv_istore hx hb hd hl.has (by rw [← hlen]; exact mm_put1_lt hp) rfl (fun lr' h' => kk lr' (hl.put1 hp h'))
      · cases h
    · cases h
  · obtain ⟨hd, rfl, hi0⟩ := hok
    split at h
    · rename_i x st0
      split at h
      · rename_i ls0 hp
        cases h
        exact lv_istore_n hx hb hd hi0 hl.has (by rw [← hlen]; exact mm_put1_lt hp) rfl (fun lr' h' => kk lr' (hl.put1 hp h'))
      · cases h
    · cases h
  · obtain ⟨hd, rfl, rfl⟩ := hok
    split at h
    · rename_i x st0
      split at h
      · rename_i ls0 hp
        cases h
        exact lv_astore hx hb hd hl.has (by rw [← hlen]; exact mm_put1_lt hp) rfl (fun lr' h' => kk lr' (hl.put1 hp h'))
      · cases h
    · cases h
  · obtain ⟨hd, rfl, hi0⟩ := hok
    split at h
    · rename_i x st0
      split at h
      · rename_i ls0 hp
        cases h
        exact lv_astore_n hx hb hd hi0 hl.has (by rw [← hlen]; exact mm_put1_lt hp) rfl (fun lr' h' => kk lr' (hl.put1 hp h'))
      · cases h
    · cases h
  · obtain ⟨hd, rfl, rfl⟩ := hok
    split at h
    · rename_i x st0
      split at h
      · rename_i ls0 hp
        cases h
        exact lv_lstore hx hb hd hl.has (by rw [← hlen]; exact mm_put2_lt hp) rfl (fun lr' h' => kk lr' (hl.put2 hp h'))
      · cases h
    · cases h
  · obtain ⟨hd, rfl, hi0⟩ := hok
    split at h
    · rename_i x st0
      split at h
      · rename_i ls0 hp
        cases h
        exact lv_lstore_n hx hb hd hi0 hl.has (by rw [← hlen]; exact mm_put2_lt hp) rfl (fun lr' h' => kk lr' (hl.put2 hp h'))
      · cases h
    · cases h
  -- iinc
  · obtain ⟨hd, rfl, rfl, v, r, rfl, hv⟩ := hok
    split at h
    · rename_i x hi
      dsimp only at h
      split at h
      · rename_i ls0 hp
        cases h
        subst hv
        obtain ⟨j, hj⟩ := List.getElem?_of_mem ((mm_prs_mem ls 0 _).mpr ⟨_, _, hi, rfl⟩)
        rw [Nat.zero_add] at hj
        exact lv_iinc hx hb hd hl.has hj rfl (by rw [← hlen]; exact mm_put1_lt hp) rfl (fun lr' h' => kk lr' (hl.put1 hp h'))
      · cases h
    · cases h
  · obtain ⟨hd, rfl⟩ := hok
    split at h
    · cases h
      refine lv_iadd hx hb hd ?_
      exact kk lr hl
    · cases h
  · obtain ⟨hd, rfl⟩ := hok
    split at h
    · cases h
      refine lv_isub hx hb hd ?_
      exact kk lr hl
    · cases h
  · obtain ⟨hd, rfl⟩ := hok
    split at h
    · cases h
      refine lv_imul hx hb hd ?_
      exact kk lr hl
    · cases h
  · obtain ⟨hd, rfl⟩ := hok
    split at h
    · cases h
      refine lv_iand hx hb hd ?_
      exact kk lr hl
    · cases h
  · obtain ⟨hd, rfl⟩ := hok
    split at h
    · cases h
      refine lv_ior hx hb hd ?_
      exact kk lr hl
    · cases h
  · obtain ⟨hd, rfl⟩ := hok
    split at h
    · cases h
      refine lv_ixor hx hb hd ?_
      exact kk lr hl
    · cases h
  · obtain ⟨hd, rfl⟩ := hok
    split at h
    · cases h
      refine lv_ineg hx hb hd ?_
      exact kk lr hl
    · cases h
  · obtain ⟨hd, rfl⟩ := hok
    split at h
    · cases h
      refine lv_ishl hx hb hd ?_
      exact kk lr hl
    · cases h
  · obtain ⟨hd, rfl⟩ := hok
    split at h
    · cases h
      refine lv_ishr hx hb hd ?_
      exact kk lr hl
    · cases h
  · obtain ⟨hd, rfl⟩ := hok
    split at h
    · cases h
      refine lv_iushr hx hb hd rfl ?_
      exact kk lr hl
    · cases h
  · obtain ⟨hd, rfl⟩ := hok
    split at h
    · cases h
      refine lv_ladd hx hb hd ?_
      exact kk lr hl
    · cases h
  · obtain ⟨hd, rfl⟩ := hok
    split at h
    · cases h
      refine lv_lmul hx hb hd ?_
      exact kk lr hl
    · cases h
  · obtain ⟨hd, rfl⟩ := hok
    split at h
    · cases h
      refine lv_land hx hb hd ?_
      exact kk lr hl
    · cases h
  · obtain ⟨hd, rfl⟩ := hok
    split at h
    · cases h
      refine lv_lor hx hb hd ?_
      exact kk lr hl
    · cases h
  · obtain ⟨hd, rfl⟩ := hok
    split at h
    · cases h
      refine lv_lshl hx hb hd rfl ?_
      exact kk lr hl
    · cases h
  · obtain ⟨hd, rfl⟩ := hok
    split at h
    · cases h
      refine lv_lshr hx hb hd rfl ?_
      exact kk lr hl
    · cases h
  · obtain ⟨hd, rfl⟩ := hok
    split at h
    · cases h
      refine lv_lushr hx hb hd rfl ?_
      exact kk lr hl
    · cases h
  · obtain ⟨hd, rfl⟩ := hok
    split at h
    · cases h
      refine lv_i2l hx hb hd rfl ?_
      exact kk lr hl
    · cases h
  · obtain ⟨hd, rfl⟩ := hok
    split at h
    · cases h
      refine lv_l2i hx hb hd rfl ?_
      exact kk lr hl
    · cases h
  · obtain ⟨hd, rfl⟩ := hok
    split at h
    · cases h
      refine W.lcmp hx hb hd ?_
      exact kk lr hl
    · cases h
  · obtain ⟨hd, rfl⟩ := hok
    split at h
    · cases h
      refine lv_dup hx hb hd rfl ?_
      exact kk lr hl
    · cases h
      refine lv_dup hx hb hd rfl ?_
      exact kk lr hl
    · cases h
  · obtain ⟨hd, rfl⟩ := hok
    split at h
    · cases h
      refine lv_dup2_11 hx hb hd rfl rfl ?_
      exact kk lr hl
    · cases h
  · cases h
end MMP
end
section
/-! the small machine's cells beside the heap -/
def mm_g (sa : Nat → Nat) (base k : Nat) : Nat := if k < 6 then sa k else base + (k - 6)
theorem mm_g_own {sa : Nat → Nat} {base k : Nat} (h : 6 ≤ k) : mm_g sa base k = base + (k - 6) := if_neg (by omega)
theorem mm_g_st {sa : Nat → Nat} {base k : Nat} (h : k < 6) : mm_g sa base k = sa k := if_pos h
def mm_cv (g : Nat → Nat) (cA : Nat → ClassId) : va_E → va_E
  | .inl (t, n, .inl f) => .inl (cA t, n, .inl f)
  | .inl (t, n, .inr (.inr (.inr (.inr f)))) => .inl (cA t, n, .inr (.inr (.inr (.inr (fun j => (f j).map g)))))
  | .inl (t, n, .inr (.inl f)) => .inl (cA t, n, .inr (.inl f))
  | .inl (t, n, .inr (.inr (.inl f))) => .inl (cA t, n, .inr (.inr (.inl f)))
  | .inl (t, n, .inr (.inr (.inr (.inl f)))) => .inl (cA t, n, .inr (.inr (.inr (.inl f))))
  | .inr (ci, fs) => .inr (ci, fs.map (mm_v g))
/-- the heap holds the cells: from base on those that were made, in their order; the script and the tables are as they were -/
def mm_Rep (g : Nat → Nat) (base : Nat) (dC : Nat → ClassId) (dI : Nat → Nat → Nat) (cA : Nat → ClassId) (sN : Nat → Nat) (sf : Nat → Nat → Int32) (mem : mm_M) (H : Heap) : Prop :=
  (6 ≤ mem.length ∧ H.size + 6 = base + mem.length) ∧ (∀ k, k < 6 → mm_nth mem k = some (.inl (0, sN k, .inl (sf k)))) ∧ ∀ (i : Nat) (e : va_E), 6 ≤ i → mm_nth mem i = some e → va_at (dC, dI) vwCl (base + (i - 6), mm_cv g cA e) H
theorem mm_nth_app {α : Type} : ∀ (l : List α) (x : α) (i : Nat), mm_nth (l ++ [x]) i = if i = l.length then some x else mm_nth l i
  | [], x, 0 => rfl
  | [], x, i + 1 => by simp [mm_nth]
  | y :: t, x, 0 => by simp [mm_nth]
  | y :: t, x, i + 1 => by
    have h := mm_nth_app t x i
    simp only [List.cons_append, mm_nth, h, List.length_cons, Nat.add_right_cancel_iff]
section MME
variable {g : Nat → Nat} {base : Nat} {dC : Nat → ClassId} {dI : Nat → Nat → Nat} {cA : Nat → ClassId} {sN : Nat → Nat} {sf : Nat → Nat → Int32} {mem : mm_M} {H H1 : Heap}
theorem mm_Rep.set (h : mm_Rep g base dC dI cA sN sf mem H) {r : Nat} {e0 e : va_E} (hr : 6 ≤ r) (h0 : mm_nth mem r = some e0) (z : H1.size = H.size) (oq : ∀ q : Nat, q ≠ base + (r - 6) → H1[q]? = H[q]?) (he : va_at (dC, dI) vwCl (base + (r - 6), mm_cv g cA e) H1) : mm_Rep g base dC dI cA sN sf (mm_set mem r e) H1 := by
  obtain ⟨⟨h1, h2⟩, h3, h4⟩ := h
  refine ⟨⟨by rw [mm_set_len]; exact h1, by rw [mm_set_len, z]; exact h2⟩, fun k hk => ?_, fun i x hi hx => ?_⟩
  · rw [mm_nth_set, if_neg (by omega)]
    exact h3 k hk
  · rw [mm_nth_set] at hx
    split at hx
    · rename_i hc
      cases hx
      rw [hc.1]
      exact he
    · rename_i hc
      have hne : i ≠ r := fun q => hc ⟨q, mm_nth_lt h0⟩
      exact (h4 i x hi hx).kept (oq _ (by show base + (i - 6) ≠ _; omega))
theorem mm_Rep.push (h : mm_Rep g base dC dI cA sN sf mem H) {e : va_E} (z : H1.size = H.size + 1) (oq : ∀ q : Nat, q < H.size → H1[q]? = H[q]?) (he : va_at (dC, dI) vwCl (H.size, mm_cv g cA e) H1) : mm_Rep g base dC dI cA sN sf (mem ++ [e]) H1 := by
  obtain ⟨⟨h1, h2⟩, h3, h4⟩ := h
  refine ⟨⟨by rw [List.length_append]; omega, by rw [List.length_append, z]; simp only [List.length_cons, List.length_nil]; omega⟩, fun k hk => ?_, fun i x hi hx => ?_⟩
  · rw [mm_nth_app, if_neg (by omega)]
    exact h3 k hk
  · rw [mm_nth_app] at hx
    split at hx
    · rename_i hc
      cases hx
      rw [hc, show base + (mem.length - 6) = H.size by omega]
      exact he
    · have hlt := mm_nth_lt hx
      exact (h4 i x hi hx).kept (oq _ (by show base + (i - 6) < _; omega))
theorem mm_Rep.one (h : mm_Rep g base dC dI cA sN sf mem H) {r : Nat} {e : va_E} (hr : 6 ≤ r) (h0 : mm_nth mem r = some e) : va_P (dC, dI) vwCl [(base + (r - 6), mm_cv g cA e)] H := by
  intro k q hk
  cases k with
  | zero => cases hk; exact h.2.2 r e hr h0
  | succ k => cases hk
end MME
/-- the names of the tables -/
def mm_snm : Nat → String
  | 1 => "FIRST_OF_KIND"
  | 2 => "JOINED_MARKS"
  | 3 => "PLACE_OF_WHO"
  | 4 => "PLACE_OF_DOING"
  | _ => "PLACE_OF_WHOM"
def mm_nest : Jvm.Cond → Bool
  | .fieldLinkNest .. => true
  | .methodLinkNest .. => true
  | _ => false
abbrev mm_tys (cA : Nat → ClassId) : List (ClassId × FieldType) := [(cA 0, .int), (cA 1, .boolean), (cA 2, .object RX3)]
/-- what the tables say at a state -/
def mm_Vm (dC : Nat → ClassId) (dI : Nat → Nat → Nat) (cA : Nat → ClassId) (U : State) : Prop :=
  (∀ w ∈ lw_tbl, goodWord w = true → w.before #[] U = true) ∧ (∀ w ∈ lw_tbl, mm_nest w = true → va_Nw w U) ∧ va_AO RX3 U ∧ va_K (dC, dI) vwCl (mm_tys cA) U
theorem mm_Vm.moved {dC : Nat → ClassId} {dI : Nat → Nat → Nat} {cA : Nat → ClassId} {s U : State} (hW : s.WarmedH U.vm) (h : mm_Vm dC dI cA s) : mm_Vm dC dI cA U := by
  refine ⟨fun w hw hg => word_at hW (good_of_word hg) (h.1 w hw hg), fun w hw hn => ?_, h.2.2.1.moved hW.alike, h.2.2.2.moved hW.alike⟩
  have h2 := h.2.1 w hw hn
  cases w <;> first | (exact va_Nw.warmF hW h2) | (exact va_Nw.warmM hW h2) | (cases hn)
theorem mm_Vm.word {dC : Nat → ClassId} {dI : Nat → Nat → Nat} {cA : Nat → ClassId} {U : State} (h : mm_Vm dC dI cA U) {w : Jvm.Cond} (hw : w ∈ lw_tbl) (hg : goodWord w = true) (a : Array Value) : w.before a U = true :=
  word_at (State.WarmedH.refl U) (good_of_word hg) (h.1 w hw hg)
/-- what lies ahead of base: the script, the tables, and the statics that hold these -/
def mm_St (g : Nat → Nat) (base : Nat) (sN : Nat → Nat) (sf : Nat → Nat → Int32) (U : State) (H : Heap) : Prop :=
  (∀ k, k < 6 → va_T .int (g k) (sN k) (fun j => .int (sf k j)) (fun q => base ≤ q) U H) ∧ ∀ k, 1 ≤ k → k < 6 → va_Z RX6 (mm_snm k) "[I" (.ref (g k)) (fun q => base ≤ q) U H
theorem mm_St.moved {g : Nat → Nat} {base : Nat} {sN : Nat → Nat} {sf : Nat → Nat → Int32} {u U : State} {H : Heap} (hvm : u.vm.Alike U.vm) (h : mm_St g base sN sf u H) : mm_St g base sN sf U H :=
  ⟨fun k hk => (h.1 k hk).moved hvm, fun k h1 h2 => (h.2 k h1 h2).moved hvm⟩
theorem mm_St.kept {g : Nat → Nat} {base : Nat} {sN : Nat → Nat} {sf : Nat → Nat → Int32} {U : State} {H H1 : Heap} (h : mm_St g base sN sf U H) (hq : ∀ a : Nat, a < H.size → ¬ base ≤ a → H1[a]? = H[a]?) : mm_St g base sN sf U H1 :=
  ⟨fun k hk => (h.1 k hk).kept hq, fun k h1 h2 => (h.2 k h1 h2).kept hq⟩
theorem mm_words : lw_tbl.all (fun w => goodWord w || mm_nest w || w == .arrayOver (.object RX3) || (match w with | .laysStatic .. => true | .superclass .. => true | .soleField .. => true | .privateMethod .. => true | _ => false)) = true := by decide +kernel
end
section
/-! instructions on cells, beside the heap -/
def mm_tG : List Jvm.Cond := lw_tbl.filter goodWord
theorem mm_inG {w : Jvm.Cond} (h : w ∈ lw_tbl) (hg : goodWord w = true) : w ∈ mm_tG := List.mem_filter.mpr ⟨h, hg⟩
theorem mm_wsG0 : ∀ w ∈ wsX00, w ∈ mm_tG := by decide +kernel
theorem mm_wsG1 : ∀ w ∈ wsX10, w ∈ mm_tG := by decide +kernel
theorem mm_wsG2 : ∀ w ∈ wsX20, w ∈ mm_tG := by decide +kernel
theorem mm_wsG3 : ∀ w ∈ wsX30, w ∈ mm_tG := by decide +kernel
theorem mm_wsG4 : ∀ w ∈ wsX40, w ∈ mm_tG := by decide +kernel
theorem mm_wsG5 : ∀ w ∈ wsX50, w ∈ mm_tG := by decide +kernel
theorem mm_wsG6 : ∀ w ∈ wsX60, w ∈ mm_tG := by decide +kernel
theorem mm_wsG7 : ∀ w ∈ wsX70, w ∈ mm_tG := by decide +kernel
/-- what a class of ours is -/
def mm_okc (ty : Nat → FieldType) (q : vw_C) : Prop := (∀ w ∈ u_ws q.1 q.2.1 q.2.2, w ∈ mm_tG) ∧ (∀ k, k < q.2.2 → parseFieldDescriptor (q.2.1 k).2.2.1 = some (ty k)) ∧ (∀ a, a < q.2.2 → ∀ b, b < q.2.2 → a ≠ b → (q.2.1 a).2.1 ≠ (q.2.1 b).2.1)
def mm_ty : Nat → Nat → FieldType
  | 0 => tyX0
  | 1 => tyX1
  | 2 => tyX2
  | 3 => tyX3
  | 4 => tyX4
  | 5 => tyX5
  | 6 => tyX6
  | _ => tyX7
theorem mm_cls : ∀ (ci : Nat) (q : vw_C), vwCl[ci]? = some q → mm_okc (mm_ty ci) q := by
  intro ci q h
  match ci, h with
  | 0, h => cases h; exact ⟨mm_wsG0, tyX0_ok, nmX0⟩
  | 1, h => cases h; exact ⟨mm_wsG1, tyX1_ok, nmX1⟩
  | 2, h => cases h; exact ⟨mm_wsG2, tyX2_ok, nmX2⟩
  | 3, h => cases h; exact ⟨mm_wsG3, tyX3_ok, nmX3⟩
  | 4, h => cases h; exact ⟨mm_wsG4, tyX4_ok, nmX4⟩
  | 5, h => cases h; exact ⟨mm_wsG5, tyX5_ok, nmX5⟩
  | 6, h => cases h; exact ⟨mm_wsG6, tyX6_ok, nmX6⟩
  | 7, h => cases h; exact ⟨mm_wsG7, tyX7_ok, nmX7⟩
  | k + 8, h => simp [vwCl] at h
/-- what holds all through a method -/
def mm_Cx (p : Program) (s : State) (m : MethodId) (c : Code) (cc : ByteArray) (own : String) (g : Nat → Nat) (base : Nat) (dC : Nat → ClassId) (dI : Nat → Nat → Nat) (cA : Nat → ClassId) (sN : Nat → Nat) (sf : Nat → Nat → Int32) : Prop :=
  p.tables.exec = Jvm.exec ∧ c.code = cc ∧ s.vm.findClass own = some m.cls ∧ mm_Vm dC dI cA s ∧ mm_St g base sN sf s s.heap ∧ base ≤ s.heap.size ∧ ∀ k, 6 ≤ k → g k = base + (k - 6)
theorem mm_Vm.tG {dC : Nat → ClassId} {dI : Nat → Nat → Nat} {cA : Nat → ClassId} {U : State} (h : mm_Vm dC dI cA U) (a : Array Value) : ∀ w ∈ mm_tG, w.before a U = true := fun w hw => by
  obtain ⟨h1, h2⟩ := List.mem_filter.mp hw
  exact h.word h1 h2 a
/-- a field of ours, as an instruction names it -/
def mm_okf (own : String) (idx ci fi : Nat) (q : vw_C) : Prop := vwCl[ci]? = some q ∧ fi < q.2.2 ∧ Jvm.Cond.fieldLink own idx (q.2.1 fi).1 (q.2.1 fi).2.1 (q.2.1 fi).2.2.1 ∈ lw_tbl
def mm_tagty (tag : Nat) (t : FieldType) : Bool := match tag, t with
  | 0, .int => true
  | 1, .boolean => true
  | 2, .object _ => true
  | 2, .array _ => true
  | _, _ => false
section MMC
variable {p : Program} {l : Launch} {e : Env} {R : Room} {s : State} {m : MethodId} {args : Array Value} {below : List Frame} {meth : Method} {c : Code} {H : Heap} {locs : List Loc} {cells slots : Nat} {Q : State → Prop}
variable {cc : ByteArray} {pc : Nat} {lr : Array Slot} {own : String} {g : Nat → Nat} {base : Nat} {dC : Nat → ClassId} {dI : Nat → Nat → Nat} {cA : Nat → ClassId} {sN : Nat → Nat} {sf : Nat → Nat → Int32} {mem : mm_M} {rest : List Value}
theorem mm_own_of (hR : mm_Rep g base dC dI cA sN sf mem H) {r : Nat} {o : Nat × List Value} (hr : mm_nth mem r = some (.inr o)) : 6 ≤ r := by
  rcases Nat.lt_or_ge r 6 with h | h
  · have := hR.2.1 r h
    rw [hr] at this
    cases this
  · exact h
theorem mm_getf (X : mm_Cx p s m c cc own g base dC dI cA sN sf) (hR : mm_Rep g base dC dI cA sN sf mem H) {r idx ci fi : Nat} {q : vw_C} {fs : List Value} {v : Value} (hr : mm_nth mem r = some (.inr (ci, fs))) (hv : mm_nth fs fi = some v) (hf : mm_okf own idx ci fi q) (hdg : decode cc pc = .ok (.getfield idx, 3))
    (kk : W p l e R s m args below meth c H locs cells slots Q (F0 m (pc + 3) lr (mm_v g v :: rest))) : W p l e R s m args below meth c H locs cells slots Q (F0 m pc lr (.ref (g r) :: rest)) := by
  obtain ⟨hx, hb, hown, hV, hSt, hbs, hg⟩ := X
  obtain ⟨hc, hk, hl⟩ := hf
  have h6 := mm_own_of hR hr
  rw [hg r h6]
  exact va_get (C := q.1) (T := q.2.1) (N := q.2.2) (q0 := 0) (fs := fs.map (mm_v g)) hx hb (hV.tG args) (mm_cls ci q hc).1 hown hV.2.2.2 (hR.one h6 hr) rfl hc fi hk (hV.word hl rfl args) (fun _ h9 => h9) (by rw [List.getElem?_map, ← mm_nth_eq, hv]; rfl) hdg kk
theorem mm_fit_ok {tag : Nat} {t : FieldType} {v : Value} (ht : mm_tagty tag t = true) (hf : mm_fit tag v) : narrow t (mm_v g v) = mm_v g v ∧ fits t (mm_v g v) = true := by
  unfold mm_fit at hf
  split at hf
  · cases t <;> first | (exact ⟨rfl, rfl⟩) | (cases ht)
  · cases t <;> first | (cases ht; done) | skip
    rename_i x
    refine ⟨?_, hf⟩
    have h2 : x = 0 ∨ x = 1 := by simpa [fits] using hf
    rcases h2 with rfl | rfl
    · show narrow .boolean (.int 0) = .int 0
      decide +kernel
    · show narrow .boolean (.int 1) = .int 1
      decide +kernel
  · cases t <;> first | (exact ⟨rfl, rfl⟩) | (cases ht)
  · exact hf.elim
theorem mm_putf (X : mm_Cx p s m c cc own g base dC dI cA sN sf) (hR : mm_Rep g base dC dI cA sN sf mem H) (hS : va_S (fun q => base ≤ q) s.heap H locs) {r idx ci fi tag : Nat} {q : vw_C} {fs : List Value} {v v0 : Value} (hr : mm_nth mem r = some (.inr (ci, fs))) (hv : mm_nth fs fi = some v0) (hf : mm_okf own idx ci fi q) (hfit : mm_fit tag v) (htag : mm_tagty tag (mm_ty ci fi) = true) (hfin : (q.2.1 fi).2.2.2 = false ∨ (meth.name = "<init>" ∧ (q.2.1 fi).1 = own)) (hdg : decode cc pc = .ok (.putfield idx, 3))
    (kk : ∀ (H1 : Heap) (locs1 : List Loc), mm_Rep g base dC dI cA sN sf (mm_set mem r (.inr (ci, mm_set fs fi v))) H1 → va_S (fun q => base ≤ q) s.heap H1 locs1 → W p l e R s m args below meth c H1 locs1 cells slots Q (F0 m (pc + 3) lr rest)) : W p l e R s m args below meth c H locs cells slots Q (F0 m pc lr (mm_v g v :: .ref (g r) :: rest)) := by
  obtain ⟨hx, hb, hown, hV, hSt, hbs, hg⟩ := X
  obtain ⟨hc, hk, hl⟩ := hf
  have h6 := mm_own_of hR hr
  obtain ⟨hws, htys, hnm⟩ := mm_cls ci q hc
  obtain ⟨hn, hft⟩ := mm_fit_ok (g := g) htag hfit
  have hts := hV.tG args
  have hap := va_apart (own := own) hts hws (mm_ty ci) htys hnm hV.2.2.2 hc
  obtain ⟨r0, h1, cell, q1, q2, q3, q4⟩ := hR.2.2 r _ h6 hr
  have hr0 : r0 = q := Option.some.inj (h1.symm.trans hc)
  subst hr0
  obtain ⟨hSl, hfc, kC, hkC, hkind⟩ := hV.2.2.2.1 ci _ hc
  obtain ⟨cf, kf, fi0, f, hi, hsl⟩ := hSl fi hk
  have hst := (u_facts hfc hkC (u_lays hts hws hk) hi).1
  have hlay := hts _ (hws _ (u_in_lay hk))
  have hlen : fi < (fs.map (mm_v g)).length := by rw [List.length_map]; exact mm_nth_lt hv
  rw [hg r h6]
  have fin : ∀ (H' : Heap), H'[base + (r - 6)]? = some (cell.setSlot (dI ci fi) (mm_v g v)) → H'.size = H.size → (∀ q, q ≠ base + (r - 6) → H'[q]? = H[q]?) → W p l e R s m args below meth c H' (locs ++ [⟨base + (r - 6), dI ci fi⟩]) cells slots Q (F0 m (pc + 3) lr rest) := by
    intro H' e1 e2 e3
    refine kk H' _ (hR.set h6 hr e2 e3 ?_) (hS.put e2 e3 (Nat.le_add_right _ _))
    refine ⟨r0, hc, t_OB.to (V := updV (vp_V (fs.map (mm_v g))) fi (mm_v g v)) ⟨_, e1, q2, q3, t_set q4 hap hk (mm_v g v)⟩ (fun j _ => ?_)⟩
    rw [vp_updV_set hlen, mm_set_eq, List.map_set]
  rcases hfin with hfin | ⟨hin, hdecl⟩
  · unfold u_lay at hlay
    rw [if_neg (by rw [hfin]; decide)] at hlay
    have h6' := u_store hfc hkC hkind hlay hi (htys fi hk) hn hft
    refine W.putK hx hb (f := f) ⟨hown, hV.word hl rfl args, ⟨_, _, _, hi⟩, hst⟩ (by rw [q2]; exact h6') q1 q3 (by rw [hsl]; exact k2_hasslot (q4 fi hk)) rfl rfl hdg fun H' e1 e2 e3 => ?_
    rw [hsl] at e1 ⊢
    exact fin H' e1 e2 e3
  · by_cases hf2 : (r0.2.1 fi).2.2.2 = true
    · unfold u_lay at hlay
      rw [if_pos hf2] at hlay
      have hcf : m.cls = cf := by
        obtain ⟨_, _, c', _, _, _, -, -, hf', -, -, -, hown2, -⟩ := Cond.laysFinal_spec hlay
        have e1 : c' = cf := by have := hi.symm.trans hf'; simp at this; exact this.1.symm
        rw [hdecl] at hown2
        rw [← e1]; exact Option.some.inj (hown.symm.trans hown2)
      have h6' := u_fits hfc hkC hkind (Or.inr hlay) hi (htys fi hk) hn hft
      refine W.putFinK hx hb hown (hV.word hl rfl args) hi hst hcf hin (by rw [q2]; exact h6') q1 q3 (by rw [hsl]; exact k2_hasslot (q4 fi hk)) rfl rfl hdg fun H' e1 e2 e3 => ?_
      rw [hsl] at e1 ⊢
      exact fin H' e1 e2 e3
    · unfold u_lay at hlay
      rw [if_neg hf2] at hlay
      have h6' := u_store hfc hkC hkind hlay hi (htys fi hk) hn hft
      refine W.putK hx hb (f := f) ⟨hown, hV.word hl rfl args, ⟨_, _, _, hi⟩, hst⟩ (by rw [q2]; exact h6') q1 q3 (by rw [hsl]; exact k2_hasslot (q4 fi hk)) rfl rfl hdg fun H' e1 e2 e3 => ?_
      rw [hsl] at e1 ⊢
      exact fin H' e1 e2 e3
theorem mm_iald (X : mm_Cx p s m c cc own g base dC dI cA sN sf) (hR : mm_Rep g base dC dI cA sN sf mem H) (hS : va_S (fun q => base ≤ q) s.heap H locs) {r N : Nat} {f : Nat → Int32} {i : Int32} (hr : mm_nth mem r = some (.inl (0, N, .inl f))) (hin : vp_in i N) (hdg : decode cc pc = .ok (.iaload, 1))
    (kk : W p l e R s m args below meth c H locs cells slots Q (F0 m (pc + 1) lr (.int (f i.toNatClampNeg) :: rest))) : W p l e R s m args below meth c H locs cells slots Q (F0 m pc lr (.int i :: .ref (g r) :: rest)) := by
  obtain ⟨hx, hb, hown, hV, hSt, hbs, hg⟩ := X
  rcases Nat.lt_or_ge r 6 with h | h
  · have h2 := hR.2.1 r h
    rw [hr] at h2
    cases h2
    exact va_ti hx hb (hSt.1 r h) hS hin rfl hdg kk
  · rw [hg r h]
    exact va_iald (f := f) hx hb hV.2.2.2 (hR.one h hr) 0 0 rfl rfl hin hdg kk
theorem mm_zald (X : mm_Cx p s m c cc own g base dC dI cA sN sf) (hR : mm_Rep g base dC dI cA sN sf mem H) {r N : Nat} {f : Nat → Int32} {i : Int32} (hr : mm_nth mem r = some (.inl (1, N, .inl f))) (hin : vp_in i N) (hdg : decode cc pc = .ok (.baload, 1))
    (kk : W p l e R s m args below meth c H locs cells slots Q (F0 m (pc + 1) lr (.int (f i.toNatClampNeg) :: rest))) : W p l e R s m args below meth c H locs cells slots Q (F0 m pc lr (.int i :: .ref (g r) :: rest)) := by
  obtain ⟨hx, hb, hown, hV, hSt, hbs, hg⟩ := X
  rcases Nat.lt_or_ge r 6 with h | h
  · have h2 := hR.2.1 r h
    rw [hr] at h2
    cases h2
  · rw [hg r h]
    exact va_zald (f := f) hx hb hV.2.2.2 (hR.one h hr) 0 1 rfl rfl hin hdg kk
theorem mm_aald (X : mm_Cx p s m c cc own g base dC dI cA sN sf) (hR : mm_Rep g base dC dI cA sN sf mem H) {r N y : Nat} {f : Nat → Option Nat} {i : Int32} (hr : mm_nth mem r = some (.inl (2, N, .inr (.inr (.inr (.inr f)))))) (hin : vp_in i N) (hy : f i.toNatClampNeg = some y) (hdg : decode cc pc = .ok (.aaload, 1))
    (kk : W p l e R s m args below meth c H locs cells slots Q (F0 m (pc + 1) lr (.ref (g y) :: rest))) : W p l e R s m args below meth c H locs cells slots Q (F0 m pc lr (.int i :: .ref (g r) :: rest)) := by
  obtain ⟨hx, hb, hown, hV, hSt, hbs, hg⟩ := X
  rcases Nat.lt_or_ge r 6 with h | h
  · have h2 := hR.2.1 r h
    rw [hr] at h2
    cases h2
  · rw [hg r h]
    refine va_aldq (f := fun j => (f j).map g) hx hb hV.2.2.2 (hR.one h hr) 0 2 rfl rfl hin hdg ?_
    rw [hy]
    exact kk
theorem mm_alen (X : mm_Cx p s m c cc own g base dC dI cA sN sf) (hR : mm_Rep g base dC dI cA sN sf mem H) (hS : va_S (fun q => base ≤ q) s.heap H locs) {r t N : Nat} {z : _} (hr : mm_nth mem r = some (.inl (t, N, z))) (ht : t < 3) (hdg : decode cc pc = .ok (.arraylength, 1))
    (kk : W p l e R s m args below meth c H locs cells slots Q (F0 m (pc + 1) lr (.int (nI N) :: rest))) : W p l e R s m args below meth c H locs cells slots Q (F0 m pc lr (.ref (g r) :: rest)) := by
  obtain ⟨hx, hb, hown, hV, hSt, hbs, hg⟩ := X
  rcases Nat.lt_or_ge r 6 with h | h
  · have h2 := hR.2.1 r h
    rw [hr] at h2
    cases h2
    exact va_tlen hx hb (hSt.1 r h) hS rfl hdg kk
  · rw [hg r h]
    have hP := hR.one h hr
    have hty : ∃ ty, (mm_tys cA)[t]? = some (cA t, ty) := by
      rcases (show t = 0 ∨ t = 1 ∨ t = 2 by omega) with rfl | rfl | rfl <;> exact ⟨_, rfl⟩
    obtain ⟨ty, hty⟩ := hty
    rcases z with f | f | f | f | f <;> exact va_alen hx hb hV.2.2.2 hP 0 t rfl hty rfl hdg kk
theorem mm_iast (X : mm_Cx p s m c cc own g base dC dI cA sN sf) (hR : mm_Rep g base dC dI cA sN sf mem H) (hS : va_S (fun q => base ≤ q) s.heap H locs) {r N : Nat} {f : Nat → Int32} {i x : Int32} (h6 : 6 ≤ r) (hr : mm_nth mem r = some (.inl (0, N, .inl f))) (hin : vp_in i N) (hdg : decode cc pc = .ok (.iastore, 1))
    (kk : ∀ (H1 : Heap) (locs1 : List Loc), mm_Rep g base dC dI cA sN sf (mm_set mem r (.inl (0, N, .inl (upd f i.toNatClampNeg x)))) H1 → va_S (fun q => base ≤ q) s.heap H1 locs1 → W p l e R s m args below meth c H1 locs1 cells slots Q (F0 m (pc + 1) lr rest)) : W p l e R s m args below meth c H locs cells slots Q (F0 m pc lr (.int x :: .int i :: .ref (g r) :: rest)) := by
  obtain ⟨hx, hb, hown, hV, hSt, hbs, hg⟩ := X
  rw [hg r h6]
  refine W.iast hx hb (hR.2.2 r _ h6 hr) ((hV.2.2.2.2 0 _ rfl).1 N (fun j => .int (f j))) (fun q => by cases q) (by show ¬ (i < 0 ∨ (arrV _ _ _).slots.size ≤ _); rw [arrV_size]; exact hin) rfl rfl hdg fun H1 e z oq => ?_
  refine kk H1 _ (hR.set h6 hr z oq ?_) (hS.put z oq (Nat.le_add_right _ _))
  show H1[_]? = some (vp_cell _ _)
  rw [e]
  rw [vp_cell_i, vp_cell_i, arrV_store]
  congr 2
  funext q
  by_cases hq : q = i.toNatClampNeg
  · subst hq
    simp [updV, upd]
  · simp [updV, upd, hq]
theorem mm_zast (X : mm_Cx p s m c cc own g base dC dI cA sN sf) (hR : mm_Rep g base dC dI cA sN sf mem H) (hS : va_S (fun q => base ≤ q) s.heap H locs) {r N : Nat} {f : Nat → Int32} {i x : Int32} (h6 : 6 ≤ r) (hr : mm_nth mem r = some (.inl (1, N, .inl f))) (hin : vp_in i N) (hfit : fits .boolean (.int x) = true) (hdg : decode cc pc = .ok (.bastore, 1))
    (kk : ∀ (H1 : Heap) (locs1 : List Loc), mm_Rep g base dC dI cA sN sf (mm_set mem r (.inl (1, N, .inl (upd f i.toNatClampNeg x)))) H1 → va_S (fun q => base ≤ q) s.heap H1 locs1 → W p l e R s m args below meth c H1 locs1 cells slots Q (F0 m (pc + 1) lr rest)) : W p l e R s m args below meth c H locs cells slots Q (F0 m pc lr (.int x :: .int i :: .ref (g r) :: rest)) := by
  obtain ⟨hx, hb, hown, hV, hSt, hbs, hg⟩ := X
  have hnar : narrow .boolean (.int x) = .int x := by
    have h2 : x = 0 ∨ x = 1 := by simpa [fits] using hfit
    rcases h2 with rfl | rfl <;> decide +kernel
  rw [hg r h6]
  refine W.zast hx hb (hR.2.2 r _ h6 hr) ((hV.2.2.2.2 1 _ rfl).1 N (fun j => .int (f j))) (fun q => by cases q) (by show ¬ (i < 0 ∨ (arrV _ _ _).slots.size ≤ _); rw [arrV_size]; exact hin) rfl rfl hdg fun H1 e z oq => ?_
  refine kk H1 _ (hR.set h6 hr z oq ?_) (hS.put z oq (Nat.le_add_right _ _))
  show H1[_]? = some (vp_cell _ _)
  rw [e, hnar]
  rw [vp_cell_i, vp_cell_i, arrV_store]
  congr 2
  funext q
  by_cases hq : q = i.toNatClampNeg
  · subst hq
    simp [updV, upd]
  · simp [updV, upd, hq]
theorem mm_aast (X : mm_Cx p s m c cc own g base dC dI cA sN sf) (hR : mm_Rep g base dC dI cA sN sf mem H) (hS : va_S (fun q => base ≤ q) s.heap H locs) {r N y : Nat} {f : Nat → Option Nat} {i : Int32} {fs : List Value} (h6 : 6 ≤ r) (hr : mm_nth mem r = some (.inl (2, N, .inr (.inr (.inr (.inr f)))))) (hin : vp_in i N) (hy : mm_nth mem y = some (.inr (3, fs))) (hdg : decode cc pc = .ok (.aastore, 1))
    (kk : ∀ (H1 : Heap) (locs1 : List Loc), mm_Rep g base dC dI cA sN sf (mm_set mem r (.inl (2, N, .inr (.inr (.inr (.inr (va_up f i.toNatClampNeg (some y)))))))) H1 → va_S (fun q => base ≤ q) s.heap H1 locs1 → W p l e R s m args below meth c H1 locs1 cells slots Q (F0 m (pc + 1) lr rest)) : W p l e R s m args below meth c H locs cells slots Q (F0 m pc lr (.ref (g y) :: .int i :: .ref (g r) :: rest)) := by
  obtain ⟨hx, hb, hown, hV, hSt, hbs, hg⟩ := X
  have h6y := mm_own_of hR hy
  have hlt : i.toNatClampNeg < N := Nat.not_le.mp fun q => hin (Or.inr q)
  have h0 : ¬ i < 0 := fun q => hin (Or.inl q)
  obtain ⟨r', hr', cellV, g1, g2, g3, -⟩ := hR.2.2 y _ h6y hy
  have hcls := (hV.2.2.2.1 3 (RX3, TX3, 4) rfl).2
  obtain ⟨kA, comp, k1, k2, k3, -⟩ := (hV.2.2.2.2 2 _ rfl).2
  have hcomp : comp = dC 3 := Option.some.inj (k3.symm.trans hcls.1)
  subst hcomp
  obtain ⟨kC, hkC, -⟩ := hcls.2
  rw [hg r h6, hg y h6y]
  refine W.aast hx hb (hR.2.2 r _ h6 hr) (fun q h => by cases h) (fun h => by cases h) k1 k2 rfl hkC ⟨h0, by show _ < (arrV _ _ _).slots.size; rw [arrV_size]; exact hlt⟩ g1 (fun q h => by rw [g3] at h; cases h) (by rw [g2]; exact hkC) (by rw [g2]; exact va_assign hcls) rfl rfl hdg fun H1 e z oq => ?_
  refine kk H1 _ (hR.set h6 hr z oq ?_) (hS.put z oq (Nat.le_add_right _ _))
  show H1[_]? = some (vp_cell _ _)
  rw [e]
  rw [vp_cell_q, vp_cell_q, arrV_store]
  congr 2
  funext q
  by_cases hq : q = i.toNatClampNeg
  · subst hq
    simp [updV, va_up, va_rf, hg y h6y]
  · simp [updV, va_up, hq]
end MMC
end
section
/-! new cells, tables, copies -/
section MMD
variable {p : Program} {l : Launch} {e : Env} {R : Room} {s : State} {m : MethodId} {args : Array Value} {below : List Frame} {meth : Method} {c : Code} {H : Heap} {locs : List Loc} {cells slots : Nat} {Q : State → Prop}
variable {cc : ByteArray} {pc : Nat} {lr : Array Slot} {own : String} {g : Nat → Nat} {base : Nat} {dC : Nat → ClassId} {dI : Nat → Nat → Nat} {cA : Nat → ClassId} {sN : Nat → Nat} {sf : Nat → Nat → Int32} {mem : mm_M} {rest : List Value}
theorem mm_S_push {H1 : Heap} (hS : va_S (fun q => base ≤ q) s.heap H locs) (z : H1.size = H.size + 1) (o : ∀ q : Nat, q < H.size → H1[q]? = H[q]?) : va_S (fun q => base ≤ q) s.heap H1 locs :=
  ⟨Nat.le_trans hS.1 (by omega), fun x h1 h2 => (o x (Nat.lt_of_lt_of_le h1 hS.1)).trans (hS.2.1 x h1 h2), hS.2.2⟩
theorem mm_g_len (X : mm_Cx p s m c cc own g base dC dI cA sN sf) (hR : mm_Rep g base dC dI cA sN sf mem H) : g mem.length = H.size := by
  have h1 := hR.1
  rw [X.2.2.2.2.2.2 _ h1.1]
  omega
theorem mm_newo (X : mm_Cx p s m c cc own g base dC dI cA sN sf) (hR : mm_Rep g base dC dI cA sN sf mem H) (hS : va_S (fun q => base ≤ q) s.heap H locs) {idx ci : Nat} {q : vw_C} {fs : List Value} (hc : vwCl[ci]? = some q) (hcl : Jvm.Cond.classLink own idx q.1 ∈ lw_tbl) (hin : Jvm.Cond.instantiable q.1 q.2.2 ∈ lw_tbl) (hini : Jvm.Cond.initialized q.1 ∈ lw_tbl) (hg1 : goodWord (.instantiable q.1 q.2.2) = true) (hfs : ∀ j, j < q.2.2 → defaultValue (mm_ty ci j) = vp_V (fs.map (mm_v g)) j) (hcells : cells + 1 ≤ R.cells) (hslots : slots + q.2.2 ≤ R.slots) (hdg : decode cc pc = .ok (.new idx, 3))
    (kk : ∀ (H1 : Heap), mm_Rep g base dC dI cA sN sf (mem ++ [.inr (ci, fs)]) H1 → va_S (fun q => base ≤ q) s.heap H1 locs → W p l e R s m args below meth c H1 locs (cells + 1) (slots + q.2.2) Q (F0 m (pc + 3) lr (.ref (g mem.length) :: rest))) : W p l e R s m args below meth c H locs cells slots Q (F0 m pc lr rest) := by
  have hgl := mm_g_len X hR
  obtain ⟨hx, hb, hown, hV, hSt, hbs, hg⟩ := X
  obtain ⟨hws, htys, hnm⟩ := mm_cls ci q hc
  have hKn := hV.2.2.2.1 ci _ hc
  refine W.newcK hx hb hown (hV.word hcl rfl args) (hV.word hin hg1 args) (hV.word hini rfl args) rfl hdg hcells hslots hKn.2.1 rfl fun H1 kC hkC e1 z1 o1 => ?_
  rw [hgl] at kk
  exact kk H1 (hR.push z1 o1 ⟨_, hc, (u_born (mm_ty ci) (hV.tG args) hws hKn hkC e1 htys).to hfs⟩) (mm_S_push hS z1 o1)
theorem mm_newi (X : mm_Cx p s m c cc own g base dC dI cA sN sf) (hR : mm_Rep g base dC dI cA sN sf mem H) (hS : va_S (fun q => base ≤ q) s.heap H locs) {N : Nat} (hN : N < 100000) (ha : Jvm.Cond.arrayClass .int ∈ lw_tbl) (hcells : cells + 1 ≤ R.cells) (hslots : slots + N ≤ R.slots) (hdg : decode cc pc = .ok (.newarray .int, 2))
    (kk : ∀ (H1 : Heap), mm_Rep g base dC dI cA sN sf (mem ++ [.inl (0, N, .inl (fun _ => 0))]) H1 → va_S (fun q => base ≤ q) s.heap H1 locs → W p l e R s m args below meth c H1 locs (cells + 1) (slots + N) Q (F0 m (pc + 2) lr (.ref (g mem.length) :: rest))) : W p l e R s m args below meth c H locs cells slots Q (F0 m pc lr (.int (nI N) :: rest)) := by
  have hgl := mm_g_len X hR
  obtain ⟨hx, hb, hown, hV, hSt, hbs, hg⟩ := X
  have h1 : ¬ nI N < 0 := nI_pos (by omega)
  have h2 : (nI N).toNatClampNeg = N := nI_clamp (by omega)
  have h3 : N * componentBytes (newarray.typeOf ArrayType.int) ≤ 536870912 := by
    show N * 4 ≤ 536870912
    omega
  have h4 : (Jvm.Cond.arrayClass (newarray.typeOf ArrayType.int)).before args s = true := hV.word ha rfl args
  refine va_newaK (atype := .int) (n := nI N) (N := N) (h := H.size) (rest := rest) hx hb h4 rfl hdg rfl h1 h2 h3 hcells hslots rfl ?_
  intro H1 cI e1 z1 o1 hAr hNm
  rw [hgl] at kk
  rw [show newarray.typeOf .int = FieldType.int from rfl] at hNm e1
  have h9 : va_RA s (cA 0) FieldType.int := (hV.2.2.2.2 0 _ rfl).2
  unfold va_RA at h9
  have hci : cI = cA 0 := Option.some.inj (hNm.symm.trans h9)
  subst hci
  refine kk H1 (hR.push z1 o1 ?_) (mm_S_push hS z1 o1)
  show H1[H.size]? = some (arrV (cA 0) N (fun _ => .int 0))
  exact e1
theorem mm_newz (X : mm_Cx p s m c cc own g base dC dI cA sN sf) (hR : mm_Rep g base dC dI cA sN sf mem H) (hS : va_S (fun q => base ≤ q) s.heap H locs) {N : Nat} (hN : N < 100000) (ha : Jvm.Cond.arrayClass .boolean ∈ lw_tbl) (hcells : cells + 1 ≤ R.cells) (hslots : slots + N ≤ R.slots) (hdg : decode cc pc = .ok (.newarray .boolean, 2))
    (kk : ∀ (H1 : Heap), mm_Rep g base dC dI cA sN sf (mem ++ [.inl (1, N, .inl (fun _ => 0))]) H1 → va_S (fun q => base ≤ q) s.heap H1 locs → W p l e R s m args below meth c H1 locs (cells + 1) (slots + N) Q (F0 m (pc + 2) lr (.ref (g mem.length) :: rest))) : W p l e R s m args below meth c H locs cells slots Q (F0 m pc lr (.int (nI N) :: rest)) := by
  have hgl := mm_g_len X hR
  obtain ⟨hx, hb, hown, hV, hSt, hbs, hg⟩ := X
  have h1 : ¬ nI N < 0 := nI_pos (by omega)
  have h2 : (nI N).toNatClampNeg = N := nI_clamp (by omega)
  have h3 : N * componentBytes (newarray.typeOf ArrayType.boolean) ≤ 536870912 := by
    show N * 1 ≤ 536870912
    omega
  have h4 : (Jvm.Cond.arrayClass (newarray.typeOf ArrayType.boolean)).before args s = true := hV.word ha rfl args
  refine va_newaK (atype := .boolean) (n := nI N) (N := N) (h := H.size) (rest := rest) hx hb h4 rfl hdg rfl h1 h2 h3 hcells hslots rfl ?_
  intro H1 cI e1 z1 o1 hAr hNm
  rw [hgl] at kk
  rw [show newarray.typeOf .boolean = FieldType.boolean from rfl] at hNm e1
  have h9 : va_RA s (cA 1) FieldType.boolean := (hV.2.2.2.2 1 _ rfl).2
  unfold va_RA at h9
  have hci : cI = cA 1 := Option.some.inj (hNm.symm.trans h9)
  subst hci
  refine kk H1 (hR.push z1 o1 ?_) (mm_S_push hS z1 o1)
  show H1[H.size]? = some (arrV (cA 1) N (fun _ => .int 0))
  exact e1
theorem mm_newq (X : mm_Cx p s m c cc own g base dC dI cA sN sf) (hR : mm_Rep g base dC dI cA sN sf mem H) (hS : va_S (fun q => base ≤ q) s.heap H locs) {idx N : Nat} (hN : N < 100000) (hcl : Jvm.Cond.classLink own idx RX3 ∈ lw_tbl) (hcells : cells + 1 ≤ R.cells) (hslots : slots + N ≤ R.slots) (hdg : decode cc pc = .ok (.anewarray idx, 3))
    (kk : ∀ (H1 : Heap), mm_Rep g base dC dI cA sN sf (mem ++ [.inl (2, N, .inr (.inr (.inr (.inr (fun _ => none)))))]) H1 → va_S (fun q => base ≤ q) s.heap H1 locs → W p l e R s m args below meth c H1 locs (cells + 1) (slots + N) Q (F0 m (pc + 3) lr (.ref (g mem.length) :: rest))) : W p l e R s m args below meth c H locs cells slots Q (F0 m pc lr (.int (nI N) :: rest)) := by
  have hgl := mm_g_len X hR
  obtain ⟨hx, hb, hown, hV, hSt, hbs, hg⟩ := X
  have hcl0 : (nI N).toNatClampNeg = N := nI_clamp (by omega)
  refine W.anew hx hb hown (hV.word hcl rfl args) (va_AO.use hV.2.2.1) rfl hdg rfl (nI_pos (by omega)) (by rw [hcl0]; omega) hcells (by rw [hcl0]; exact hslots) fun cI kA comp f1 f2 f3 f4 => ?_
  rw [hcl0]
  generalize hH1 : H.push ({ cls := cI, slots := Array.replicate N .null, vm := .none } : Cell) = H1
  have z1 : H1.size = H.size + 1 := by rw [← hH1, Array.size_push]
  have e1 : H1[H.size]? = some (arrV cI N (fun _ => .null)) := by rw [← hH1, Array.getElem?_push_size, ← arrV_new]
  have o1 : ∀ q : Nat, q < H.size → H1[q]? = H[q]? := fun q hq => by rw [← hH1, Array.getElem?_push, if_neg (Nat.ne_of_lt hq)]
  rw [hgl] at kk
  have hci : cI = cA 2 := by
    obtain ⟨_, _, -, -, -, h9⟩ := (hV.2.2.2.2 2 _ rfl).2
    exact Option.some.inj (f1.symm.trans h9)
  subst hci
  exact kk H1 (hR.push z1 o1 e1) (mm_S_push hS z1 o1)
theorem mm_gets (X : mm_Cx p s m c cc own g base dC dI cA sN sf) (hS : va_S (fun q => base ≤ q) s.heap H locs) {idx k : Nat} (h1 : 1 ≤ k) (h2 : k < 6) (hl : Jvm.Cond.fieldLink own idx RX6 (mm_snm k) "[I" ∈ lw_tbl ∨ Jvm.Cond.fieldLinkNest own idx RX6 (mm_snm k) "[I" RX6 ∈ lw_tbl) (hdg : decode cc pc = .ok (.getstatic idx, 3))
    (kk : W p l e R s m args below meth c H locs cells slots Q (F0 m (pc + 3) lr (.ref (g k) :: rest))) : W p l e R s m args below meth c H locs cells slots Q (F0 m pc lr rest) := by
  obtain ⟨hx, hb, hown, hV, hSt, hbs, hg⟩ := X
  rcases hl with hl | hl
  · exact va_gets hx hb (hSt.2 k h1 h2) hS hown (hV.word hl rfl args) (fun _ h => h) hdg kk
  · exact va_getsN hx hb (hSt.2 k h1 h2) hS hown (va_Nw.use rfl (hV.2.1 _ hl rfl)) (fun _ h => h) hdg kk
theorem mm_sum_map (l : List Value) : ((l.map (mm_v g)).map fun v => v.category).sum = mm_sum l := by
  induction l with
  | nil => rfl
  | cons v t ih => simp only [List.map_cons, List.sum_cons, mm_sum, ih, mm_v_cat]
theorem mm_copy (X : mm_Cx p s m c cc own g base dC dI cA sN sf) (hR : mm_Rep g base dC dI cA sN sf mem H) (hS : va_S (fun q => base ≤ q) s.heap H locs) (hml : c.maxLocals = lr.size) {idx r d N M : Nat} {f h : Nat → Int32} {sp dp z : Int32} {st : List Value} (h6 : 6 ≤ r) (h6d : 6 ≤ d) (hr : mm_nth mem r = some (.inl (0, N, .inl f))) (hd : mm_nth mem d = some (.inl (0, M, .inl h)))
    (hl : Jvm.Cond.methodLink own idx arraycopyName ∈ lw_tbl) (hnat : Jvm.Cond.native arraycopyName ∈ lw_tbl) (hstat : Jvm.Cond.static arraycopyName ∈ lw_tbl) (hini : Jvm.Cond.initialized "java/lang/System" ∈ lw_tbl)
    (h1 : ¬ sp < 0) (h2 : ¬ dp < 0) (h3 : ¬ z < 0) (h4 : sp.toNatClampNeg + z.toNatClampNeg ≤ N) (h5 : dp.toNatClampNeg + z.toNatClampNeg ≤ M) (hsum : mm_sum st ≤ 8) (hframes : 1 ≤ R.frames) (hlocals : 8 + (nativeFrameWords "java/lang/System" "arraycopy" 5 + 11) ≤ R.locals) (hdg : decode cc pc = .ok (.invokestatic idx, 3))
    (kk : ∀ (H1 : Heap) (locs1 : List Loc), mm_Rep g base dC dI cA sN sf (mm_set mem d (.inl (0, M, .inl (va_cpy f h sp.toNatClampNeg dp.toNatClampNeg z.toNatClampNeg)))) H1 → va_S (fun q => base ≤ q) s.heap H1 locs1 → W p l e R s m args below meth c H1 locs1 cells slots Q (F0 m (pc + 3) lr (st.map (mm_v g)))) : W p l e R s m args below meth c H locs cells slots Q (F0 m pc lr (.int z :: .int dp :: .ref (g d) :: .int sp :: .ref (g r) :: st.map (mm_v g))) := by
  obtain ⟨hx, hb, hown, hV, hSt, hbs, hg⟩ := X
  have nn : ∀ z : Int32, ¬ z < 0 → z.toInt = (z.toNatClampNeg : Int) := by
    intro z hz
    have hz0 : (0 : Int) ≤ z.toInt := by
      have := Int32.not_lt.mp hz
      simpa using Int32.le_iff_toInt_le.mp this
    show z.toInt = ((z.toInt.toNat : Nat) : Int)
    omega
  rw [hg r h6, hg d h6d]
  intro T hT X
  have hc0 : H[base + (r - 6)]? = some (vp_cell (cA 0) (N, .inl f)) := hR.2.2 r _ h6 hr
  have hc1 : H[base + (d - 6)]? = some (vp_cell (cA 0) (M, .inl h)) := hR.2.2 d _ h6d hd
  obtain ⟨-, k0, hk0, cm0, hkk0⟩ := (hV.2.2.2.2 0 _ rfl).1 N (fun j => .int (f j))
  obtain ⟨-, k1, hk1, cm1, hkk1⟩ := (hV.2.2.2.2 0 _ rfl).1 M (fun j => .int (h j))
  obtain ⟨vm', X', step⟩ := X.arraycopy hx hown (hV.word hl rfl args) (hV.word hnat rfl args) (hV.word hstat rfl args) (hV.word hini rfl args) (src := base + (r - 6)) (dst := base + (d - 6)) (cs := vp_cell (cA 0) (N, .inl f)) (cd := vp_cell (cA 0) (M, .inl h)) (srcPos := sp) (destPos := dp) (n := z) (by rw [hT]; exact hc0) (by rw [hT]; exact hc1)
    (fun _ h => by cases h) (fun _ h => by cases h) (fun h => by cases h) (fun h => by cases h) hk0 hk1 hkk0 hkk1 (by simp [refKind]) h1 h2 h3
    (by rw [nn sp h1, nn z h3]; show ¬ _ > ((arrV (cA 0) N (fun j => .int (f j))).slots.size : Int); rw [arrV_size]; omega)
    (by rw [nn dp h2, nn z h3]; show ¬ _ > ((arrV (cA 0) M (fun j => .int (h j))).slots.size : Int); rw [arrV_size]; omega)
    (fun vm₁ _ i hi => by
      have e : (vp_cell (cA 0) (N, .inl f)).slots.getD (sp.toNatClampNeg + i) .null = .int (f (sp.toNatClampNeg + i)) := by
        show (arrV (cA 0) N (fun j => .int (f j))).slots.getD _ _ = _
        rw [Array.getD_eq_getD_getElem?, arrV_read _ _ (by omega)]
        rfl
      refine ⟨?_, ?_⟩
      · rw [e]
        rfl
      · rw [e]
        exact trivial)
    (g := F0 m pc lr (.int z :: .int dp :: .ref (base + (d - 6)) :: .int sp :: .ref (base + (r - 6)) :: st.map (mm_v g))) rfl (by rw [hml]) (rest := st.map (mm_v g)) rfl (by rw [hb]; exact hdg) hframes (by show 2 * 0 + _ + _ ≤ _; rw [mm_sum_map]; omega)
  have e1 : copied (vp_cell (cA 0) (N, .inl f)) (vp_cell (cA 0) (M, .inl h)) sp dp z = vp_cell (cA 0) (M, .inl (va_cpy f h sp.toNatClampNeg dp.toNatClampNeg z.toNatClampNeg)) := va_copied (fun z => .int z) (cA 0) (cA 0) f h h4
  rw [e1] at X' step
  have hl : base + (d - 6) < H.size := (Array.getElem?_eq_some_iff.mp hc1).1
  generalize hcell : vp_cell (cA 0) (M, .inl (va_cpy f h sp.toNatClampNeg dp.toNatClampNeg z.toNatClampNeg)) = newc at X' step
  have hheap : ((T.setVm vm').setCell (base + (d - 6)) newc).heap = H.setIfInBounds (base + (d - 6)) newc := by rw [← hT]; rfl
  have oq : ∀ q : Nat, q ≠ base + (d - 6) → (H.setIfInBounds (base + (d - 6)) newc)[q]? = H[q]? := fun q hq => by simp [Array.getElem?_setIfInBounds, Ne.symm hq]
  obtain ⟨t, a1, b1⟩ := kk _ _ (hR.set (e := .inl (0, M, .inl (va_cpy f h sp.toNatClampNeg dp.toNatClampNeg z.toNatClampNeg))) h6d hd (by simp) oq (show (H.setIfInBounds (base + (d - 6)) newc)[_]? = some (vp_cell _ _) by rw [hcell]; simp [Array.getElem?_setIfInBounds, hl])) ⟨by simp; exact hS.1, fun q g1 g2 => by
      rw [oq q (fun e => g2 (by rw [e]; exact Nat.le_add_right _ _))]
      exact hS.2.1 q g1 g2, fun q hq => by
      rcases List.mem_append.mp hq with h | h
      · exact hS.2.2 q h
      · obtain ⟨z, -, hz⟩ := List.mem_map.mp h
        rw [← hz]
        exact Nat.le_add_right _ _⟩ _ hheap X'
  exact ⟨t, step t a1, b1⟩
end MMD
end
section
/-! every instruction of the small machine is one of the machine's -/
/-- a method: name, bytes, size of its locals, what it returns, its receiver's class (and one; 0: static) -/
abbrev mm_N : Type := MethodName × ByteArray × Nat × Option FieldType × Nat
def mm_okY (q : mm_N) : Prop :=
  (Jvm.Cond.code q.1 q.2.1 q.2.2.1 q.2.2.2.1 ∈ lw_tbl ∧ Jvm.Cond.initialized q.1.cls ∈ lw_tbl ∧ Jvm.plainName q.1.cls = true ∧ q.2.2.1 ≤ 60) ∧ (q.1.cls ≠ "java/lang/invoke/MethodHandle" ∧ q.1.cls ≠ "java/lang/invoke/VarHandle") ∧
  match q.2.2.2.2 with
  | 0 => Jvm.Cond.static q.1 ∈ lw_tbl
  | ci + 1 => Jvm.Cond.instanceMethod q.1 ∈ lw_tbl ∧ ∃ w : vw_C, vwCl[ci]? = some w ∧ w.1 = q.1.cls
def mm_tsw (pc : Nat) : Int → List Int → List (Int32 × Nat) → Bool
  | _, [], [] => true
  | lo, o :: os, q :: r => decide (q.1.toInt = lo) && decide ((pc : Int) + o = (q.2 : Int)) && mm_tsw pc (lo + 1) os r
  | _, _, _ => false
def mm_lsw (pc : Nat) : List (Int × Int) → List (Int32 × Nat) → Bool
  | [], [] => true
  | o :: os, q :: r => decide (q.1.toInt = o.1) && decide ((pc : Int) + o.2 = (q.2 : Int)) && mm_lsw pc os r
  | _, _ => false
theorem mm_tsw_ok {pc : Nat} {x : Int32} {d : Prop} {f : Nat → Prop} : ∀ (os : List Int) (lo : Int) (sw : List (Int32 × Nat)), mm_tsw pc lo os sw = true → mm_sw x d f sw →
    (d ∧ (x.toInt < lo ∨ lo + os.length ≤ x.toInt)) ∨ ∃ (i : Nat) (o : Int) (t : Nat), os[i]? = some o ∧ x.toInt = lo + i ∧ (pc : Int) + o = (t : Int) ∧ f t
  | [], lo, [], _, h => Or.inl ⟨h, by simp only [List.length_nil]; omega⟩
  | o :: os, lo, q :: r, h, hs => by
    simp only [mm_tsw, Bool.and_eq_true, decide_eq_true_eq] at h
    obtain ⟨⟨h1, h2⟩, h3⟩ := h
    by_cases hx : x = q.1
    · exact Or.inr ⟨0, o, q.2, rfl, by rw [hx, h1]; simp, h2, hs.1 hx⟩
    · have hne : ¬ x.toInt = lo := fun e => hx (Int32.toInt_inj.mp (e.trans h1.symm))
      rcases mm_tsw_ok os (lo + 1) r h3 (hs.2 hx) with ⟨a, b⟩ | ⟨i, o', t, a1, a2, a3⟩
      · exact Or.inl ⟨a, by simp only [List.length_cons]; omega⟩
      · exact Or.inr ⟨i + 1, o', t, a1, by rw [a2]; push_cast; omega, a3⟩
  | [], _, _ :: _, h, _ => by cases h
  | _ :: _, _, [], h, _ => by cases h
theorem mm_lsw_ok {pc a : Nat} {df : Int} {x : Int32} {d : Prop} {f : Nat → Prop} (hd : (pc : Int) + df = (a : Int)) : ∀ (os : List (Int × Int)) (sw : List (Int32 × Nat)), mm_lsw pc os sw = true → mm_sw x d f sw →
    ∃ t : Nat, (pc : Int) + Op.lookupswitch.offset os df x.toInt = (t : Int) ∧ ((t = a ∧ d) ∨ f t)
  | [], [], _, h => ⟨a, hd, Or.inl ⟨rfl, h⟩⟩
  | o :: os, q :: r, h, hs => by
    simp only [mm_lsw, Bool.and_eq_true, decide_eq_true_eq] at h
    obtain ⟨⟨h1, h2⟩, h3⟩ := h
    obtain ⟨k, o⟩ := o
    rw [Op.lookupswitch.offset_cons]
    by_cases hx : x = q.1
    · rw [if_pos (by rw [hx]; exact h1.symm)]
      exact ⟨q.2, h2, Or.inr (hs.1 hx)⟩
    · rw [if_neg (fun e => hx (Int32.toInt_inj.mp (by rw [h1]; exact e.symm)))]
      exact mm_lsw_ok hd os r h3 (hs.2 hx)
  | [], _ :: _, h, _ => by cases h
  | _ :: _, [], h, _ => by cases h
/-- what an instruction must be in the code, and what the tables must say of it -/
def mm_oki (Y : Nat → mm_N) (own : String) (ini : Bool) (cc : ByteArray) (rt : Option FieldType) (Df : Nat → List Value) (pc : Nat) (ins : Instr) (nx a b : Nat) (sw : List (Int32 × Nat)) (lc : Int64) : Prop :=
  match ins with
  | .idiv => decode cc pc = .ok (.idiv, 1) ∧ nx = pc + 1
  | .irem => decode cc pc = .ok (.irem, 1) ∧ nx = pc + 1
  | .ldiv => decode cc pc = .ok (.ldiv, 1) ∧ nx = pc + 1
  | .lrem => decode cc pc = .ok (.lrem, 1) ∧ nx = pc + 1
  | .ifCond z o => decode cc pc = .ok (.ifCond z o, 3) ∧ nx = pc + 3 ∧ (pc : Int) + o = (a : Int)
  | .if_icmp z o => decode cc pc = .ok (.if_icmp z o, 3) ∧ nx = pc + 3 ∧ (pc : Int) + o = (a : Int)
  | .goto o => decode cc pc = .ok (.goto o, 3) ∧ (pc : Int) + o = (a : Int)
  | .tableswitch d lo hi os => (∃ len, decode cc pc = .ok (.tableswitch d lo hi os, len)) ∧ (pc : Int) + d = (a : Int) ∧ mm_tsw pc lo os.toList sw = true ∧ lo + os.toList.length = hi + 1
  | .lookupswitch d os => (∃ len, decode cc pc = .ok (.lookupswitch d os, len)) ∧ (pc : Int) + d = (a : Int) ∧ mm_lsw pc os.toList sw = true ∧ (os.toList.zip (os.toList.drop 1)).all (fun (a, next) => a.1 < next.1) = true
  | .getstatic idx => decode cc pc = .ok (.getstatic idx, 3) ∧ nx = pc + 3 ∧ 1 ≤ a ∧ a < 6 ∧ (Jvm.Cond.fieldLink own idx RX6 (mm_snm a) "[I" ∈ lw_tbl ∨ Jvm.Cond.fieldLinkNest own idx RX6 (mm_snm a) "[I" RX6 ∈ lw_tbl)
  | .getfield idx => decode cc pc = .ok (.getfield idx, 3) ∧ nx = pc + 3 ∧ ∃ q : vw_C, mm_okf own idx a b q
  | .putfield idx => decode cc pc = .ok (.putfield idx, 3) ∧ nx = pc + 3 ∧ (∃ q : vw_C, mm_okf own idx a b q ∧ ((q.2.1 b).2.2.2 = false ∨ (ini = true ∧ (q.2.1 b).1 = own))) ∧ ∀ v tag r, sw = (v, tag) :: r → mm_tagty tag (mm_ty a b) = true
  | .iaload => decode cc pc = .ok (.iaload, 1) ∧ nx = pc + 1
  | .baload => decode cc pc = .ok (.baload, 1) ∧ nx = pc + 1
  | .aaload => decode cc pc = .ok (.aaload, 1) ∧ nx = pc + 1
  | .iastore => decode cc pc = .ok (.iastore, 1) ∧ nx = pc + 1
  | .bastore => decode cc pc = .ok (.bastore, 1) ∧ nx = pc + 1
  | .aastore => decode cc pc = .ok (.aastore, 1) ∧ nx = pc + 1 ∧ a = 3
  | .arraylength => decode cc pc = .ok (.arraylength, 1) ∧ nx = pc + 1
  | .new idx => decode cc pc = .ok (.new idx, 3) ∧ nx = pc + 3 ∧ ∃ q : vw_C, vwCl[a]? = some q ∧ Jvm.Cond.classLink own idx q.1 ∈ lw_tbl ∧ Jvm.Cond.instantiable q.1 q.2.2 ∈ lw_tbl ∧ Jvm.Cond.initialized q.1 ∈ lw_tbl ∧ b = q.2.2 ∧ (∀ j, j < q.2.2 → defaultValue (mm_ty a j) = vp_V (Df a) j) ∧ ∀ v ∈ Df a, mm_v (fun x => x + 1) v = v
  | .newarray t => decode cc pc = .ok (.newarray t, 2) ∧ nx = pc + 2 ∧ b < 100000 ∧ ((t = .int ∧ a = 0 ∧ Jvm.Cond.arrayClass .int ∈ lw_tbl) ∨ (t = .boolean ∧ a = 1 ∧ Jvm.Cond.arrayClass .boolean ∈ lw_tbl))
  | .anewarray idx => decode cc pc = .ok (.anewarray idx, 3) ∧ nx = pc + 3 ∧ b < 100000 ∧ Jvm.Cond.classLink own idx RX3 ∈ lw_tbl
  | .invokevirtual idx => (decode cc pc = .ok (.invokevirtual idx, 3) ∧ nx = pc + 3 ∧ mm_okY (Y a)) ∧ (∃ ci, (Y a).2.2.2.2 = ci + 1) ∧ Jvm.Cond.methodLink own idx (Y a).1 ∈ lw_tbl ∧ Jvm.Cond.selects (Y a).1.cls (Y a).1 (Y a).1 ∈ lw_tbl ∧ ∃ np, b = np + 1 ∧ (parseMethodDescriptor (Y a).1.desc).map (fun d => d.parameters.length) = some np
  | .invokestatic idx => (decode cc pc = .ok (.invokestatic idx, 3) ∧ nx = pc + 3) ∧ ((lc = 0 ∧ mm_okY (Y a) ∧ (Y a).2.2.2.2 = 0 ∧ (Jvm.Cond.methodLink own idx (Y a).1 ∈ lw_tbl ∨ Jvm.Cond.methodLinkNest own idx (Y a).1 RX6 ∈ lw_tbl) ∧ (parseMethodDescriptor (Y a).1.desc).map (fun d => d.parameters.length) = some b) ∨
      (lc = 1 ∧ Jvm.Cond.methodLink own idx arraycopyName ∈ lw_tbl ∧ Jvm.Cond.native arraycopyName ∈ lw_tbl ∧ Jvm.Cond.static arraycopyName ∈ lw_tbl ∧ Jvm.Cond.initialized "java/lang/System" ∈ lw_tbl))
  | .invokespecial idx => (decode cc pc = .ok (.invokespecial idx, 3) ∧ nx = pc + 3) ∧ ((lc = 0 ∧ mm_okY (Y a) ∧ (∃ ci, (Y a).2.2.2.2 = ci + 1) ∧ (Y a).1.name = "<init>" ∧ (Y a).2.2.2.1 = none ∧ (Jvm.Cond.methodLink own idx (Y a).1 ∈ lw_tbl ∨ Jvm.Cond.methodLinkNest own idx (Y a).1 RX6 ∈ lw_tbl) ∧ ∃ np, b = np + 1 ∧ (parseMethodDescriptor (Y a).1.desc).map (fun d => d.parameters.length) = some np) ∨
      (lc = 1 ∧ Jvm.Cond.methodLink own idx Lib.objectInit ∈ lw_tbl ∧ Jvm.Cond.instanceMethod Lib.objectInit ∈ lw_tbl ∧ Jvm.Cond.code Lib.objectInit ⟨#[0xb1]⟩ 1 none ∈ lw_tbl))
  | .ireturn => decode cc pc = .ok (.ireturn, 1) ∧ ((a = 0 ∧ rt = some .int) ∨ (a = 1 ∧ rt = some .boolean))
  | .lreturn => decode cc pc = .ok (.lreturn, 1) ∧ rt = some .long
  | .return_ => decode cc pc = .ok (.return_, 1) ∧ rt = none
  | .ldc_w idx => decode cc pc = .ok (.ldc_w idx, 3) ∧ nx = pc + 3 ∧ ∃ v r, sw = (v, r) :: [] ∧ Jvm.Cond.constant own idx v ∈ lw_tbl
  | .ldc idx => decode cc pc = .ok (.ldc idx, 2) ∧ nx = pc + 2 ∧ ∃ v r, sw = (v, r) :: [] ∧ Jvm.Cond.constant own idx v ∈ lw_tbl
  | .ldc2_w idx => decode cc pc = .ok (.ldc2_w idx, 3) ∧ nx = pc + 3 ∧ Jvm.Cond.constantLong own idx lc ∈ lw_tbl
  | _ => mm_okp cc pc ins nx a sw lc
def mm_isret (rt : Option FieldType) : Instr → Option Value → Prop
  | .ireturn, some (.int x) => rt = some .int ∨ (rt = some .boolean ∧ fits .boolean (.int x) = true)
  | .lreturn, some (.long _) => rt = some .long
  | .return_, none => rt = none
  | _, _ => False
def mm_room (d : Nat) (al : Nat × Nat) : Room := { frames := d, cells := al.1, slots := al.2, locals := 100 * d + 2000 }
/-- the machine's side of a call -/
def mm_Met (l : Launch) (g : Nat → Nat) (base : Nat) (dC : Nat → ClassId) (dI : Nat → Nat → Nat) (cA : Nat → ClassId) (sN : Nat → Nat) (sf : Nat → Nat → Int32) (d : Nat) (al : Nat × Nat) (q : mm_N) (as : List Value) (mem : mm_M) (Q1 : mm_Q) : Prop :=
  mm_recv q.2.2.2.2 as mem ∧ Met l q.1 [Jvm.Cond.code q.1 q.2.1 q.2.2.1 q.2.2.2.1] (mm_room d al)
    (fun v U => v = (as.map (mm_v g)).toArray ∧ mm_Vm dC dI cA U ∧ mm_St g base sN sf U U.heap ∧ mm_Rep g base dC dI cA sN sf mem U.heap)
    (fun _ st o t => (∃ (r : Option Value) (mem' : mm_M), o = .returned (r.map (mm_v g)) ∧ Q1 r mem' ∧ mm_Rep g base dC dI cA sN sf mem' t.heap) ∧ va_F (fun q => base ≤ q) st t) al.1 al.2 (fun q => base ≤ q)
theorem mm_blind {g : Nat → Nat} {base : Nat} {dC : Nat → ClassId} {dI : Nat → Nat → Nat} {cA : Nat → ClassId} {sN : Nat → Nat} {sf : Nat → Nat → Int32} {as : List Value} {mem : mm_M} :
    FrameBlind (fun v U => v = (as.map (mm_v g)).toArray ∧ mm_Vm dC dI cA U ∧ mm_St g base sN sf U U.heap ∧ mm_Rep g base dC dI cA sN sf mem U.heap) := by
  intro a U gg mk h
  obtain ⟨h1, h2, h3, h4⟩ := h
  exact ⟨h1, h2.moved (s := U) (U := U.calling gg mk a) (State.WarmedH.refl U), h3.moved (u := U) (U := U.calling gg mk a) (Vm.Alike.refl U.vm), h4⟩
section MMS
variable {p : Program} {l : Launch} {e : Env} {R : Room} {s : State} {m : MethodId} {args : Array Value} {below : List Frame} {meth : Method} {c : Code} {H : Heap} {locs : List Loc} {cells slots : Nat} {Q : State → Prop}
variable {cc : ByteArray} {pc : Nat} {lr : Array Slot} {own : String} {g : Nat → Nat} {base : Nat} {dC : Nat → ClassId} {dI : Nat → Nat → Nat} {cA : Nat → ClassId} {sN : Nat → Nat} {sf : Nat → Nat → Int32} {mem : mm_M} {rest : List Value}
/-- behind a call -/
theorem mm_after {mc ms : Nat} {Q1 : mm_Q} {a : Array Value} {st0 : List Value} (hr : va_Run p l e R s m args below meth c H locs cells slots mc ms (F0 m pc lr st0) rest
      ((fun _ st o t => (∃ (r : Option Value) (mem' : mm_M), o = .returned (r.map (mm_v g)) ∧ Q1 r mem' ∧ mm_Rep g base dC dI cA sN sf mem' t.heap) ∧ va_F (fun q => base ≤ q) st t) a) (fun q => base ≤ q)) (hS : va_S (fun q => base ≤ q) s.heap H locs)
    (kk : ∀ (r : Option Value) (mem' : mm_M) (H1 : Heap) (locs1 : List Loc), Q1 r mem' → mm_Rep g base dC dI cA sN sf mem' H1 → va_S (fun q => base ≤ q) s.heap H1 locs1 → W p l e R s m args below meth c H1 locs1 (cells + mc) (slots + ms) Q (F0 m (pc + 3) lr ((r.map (mm_v g)).toList ++ rest))) : W p l e R s m args below meth c H locs cells slots Q (F0 m pc lr st0) := by
  intro T hT X
  obtain ⟨v, st₀, t, T', L, h0, X', hL, e1, e2, ⟨⟨r, mem', hv, hq, hrep⟩, hz, hk⟩, st⟩ := hr T hT X
  cases hv
  rw [h0] at hz hk
  obtain ⟨t2, a1, b1⟩ := kk r mem' T'.heap (locs ++ L) hq (by rw [e1]; exact hrep)
    ⟨Nat.le_trans hS.1 (by rw [e1]; exact hz), fun q h1 h2 => by rw [e1, hk q (Nat.lt_of_lt_of_le h1 hS.1) h2]; exact hS.2.1 q h1 h2, fun q hq => by
      rcases List.mem_append.mp hq with h | h
      · exact hS.2.2 q h
      · exact hL q h⟩ T' rfl X'
  exact ⟨t2, st t2 a1, b1⟩
theorem mm_pop_spec : ∀ (b : Nat) (acc st as rest : List Value), mm_pop b acc st = some (as, rest) → ∃ pre : List Value, st = pre ++ rest ∧ as = pre.reverse ++ acc ∧ pre.length = b
  | 0, acc, st, as, rest, h => by
    cases h
    exact ⟨[], rfl, rfl, rfl⟩
  | b + 1, acc, v :: st, as, rest, h => by
    obtain ⟨pre, h1, h2, h3⟩ := mm_pop_spec b (v :: acc) st as rest h
    exact ⟨v :: pre, by rw [h1]; rfl, by rw [h2]; simp, by simp [h3]⟩
  | _ + 1, _, [], _, _, h => by cases h
theorem mm_callW (X : mm_Cx p s m c cc own g base dC dI cA sN sf) {d nL idx : Nat} {al : Nat × Nat} {y : mm_N} (hml : c.maxLocals = nL) (hRm : d + 1 ≤ R.frames ∧ 100 * d + 2100 ≤ R.locals) (hY : mm_okY y) (hlink : (Jvm.Cond.methodLink own idx y.1).before args s = true) {np : Nat} (hnp : (parseMethodDescriptor y.1.desc).map (fun d => d.parameters.length) = some np) :
    CallB R s args own idx y.1 y.2.1 y.2.2.1 y.2.2.2.1 [Jvm.Cond.code y.1 y.2.1 y.2.2.1 y.2.2.2.1] (mm_room d al) al.1 al.2 np := by
  obtain ⟨hx, hb, hown, hV, hSt, hbs, hg⟩ := X
  obtain ⟨⟨h1, h2, h3, h4⟩, h5, h6⟩ := hY
  refine ⟨rfl, rfl, hRm.1, by show 8 + (y.2.2.1 + 11) + (100 * d + 2000) ≤ _; omega, fun w hw a' U hW => ?_, List.mem_singleton.mpr rfl, hV.word h1 rfl args, hV.word h2 rfl args, h5, fun sig h => ?_, hlink⟩
  · rw [List.mem_singleton.mp hw]
    exact word_at hW (good_of_word rfl) (hV.word h1 rfl args)
  · rw [h] at hnp
    exact (Option.some.inj hnp).symm
theorem mm_callN (X : mm_Cx p s m c cc own g base dC dI cA sN sf) {d nL idx : Nat} {al : Nat × Nat} {y : mm_N} (hml : c.maxLocals = nL) (hRm : d + 1 ≤ R.frames ∧ 100 * d + 2100 ≤ R.locals) (hY : mm_okY y) (hlink : (Jvm.Cond.methodLinkNest own idx y.1 RX6).before args s = true) {np : Nat} (hnp : (parseMethodDescriptor y.1.desc).map (fun d => d.parameters.length) = some np) :
    va_CN R s args own idx y.1 RX6 y.2.1 y.2.2.1 y.2.2.2.1 [Jvm.Cond.code y.1 y.2.1 y.2.2.1 y.2.2.2.1] (mm_room d al) al.1 al.2 np := by
  obtain ⟨hx, hb, hown, hV, hSt, hbs, hg⟩ := X
  obtain ⟨⟨h1, h2, h3, h4⟩, h5, h6⟩ := hY
  refine ⟨⟨rfl, rfl, hRm.1, by show 8 + (y.2.2.1 + 11) + (100 * d + 2000) ≤ _; omega, fun w hw a' U hW => ?_, List.mem_singleton.mpr rfl⟩, hV.word h1 rfl args, hV.word h2 rfl args, h5, fun sig h => ?_, hlink⟩
  · rw [List.mem_singleton.mp hw]
    exact word_at hW (good_of_word rfl) (hV.word h1 rfl args)
  · rw [h] at hnp
    exact (Option.some.inj hnp).symm
theorem mm_pre (X : mm_Cx p s m c cc own g base dC dI cA sN sf) (hR : mm_Rep g base dC dI cA sN sf mem H) (hS : va_S (fun q => base ≤ q) s.heap H locs) {as : List Value} :
    PreS s H (fun v U => v = (as.map (mm_v g)).toArray ∧ mm_Vm dC dI cA U ∧ mm_St g base sN sf U U.heap ∧ mm_Rep g base dC dI cA sN sf mem U.heap) (as.map (mm_v g)) := by
  obtain ⟨hx, hb, hown, hV, hSt, hbs, hg⟩ := X
  refine ⟨mm_blind, fun U hU hW => ⟨rfl, hV.moved hW, ?_, by rw [hU]; exact hR⟩⟩
  rw [hU]
  exact (hSt.kept (fun a h1 h2 => hS.2.1 a h1 h2)).moved hW.alike
end MMS
end
section
/-! calls -/
section MMV
variable {p : Program} {l : Launch} {e : Env} {R : Room} {s : State} {m : MethodId} {args : Array Value} {below : List Frame} {meth : Method} {c : Code} {H : Heap} {locs : List Loc} {cells slots : Nat} {Q : State → Prop}
variable {cc : ByteArray} {pc : Nat} {lr : Array Slot} {own : String} {g : Nat → Nat} {base : Nat} {dC : Nat → ClassId} {dI : Nat → Nat → Nat} {cA : Nat → ClassId} {sN : Nat → Nat} {sf : Nat → Nat → Int32} {mem : mm_M}
theorem mm_ret_map (r : Option Value) (rest : List Value) : (r.map (mm_v g)).toList ++ rest.map (mm_v g) = (r.toList ++ rest).map (mm_v g) := by
  cases r <;> simp
theorem mm_recv_ok {ci : Nat} {as : List Value} (hR : mm_Rep g base dC dI cA sN sf mem H) (h : mm_recv (ci + 1) as mem) : ∃ (r : Nat) (as' fs : List Value), as = .ref r :: as' ∧ mm_nth mem r = some (.inr (ci, fs)) ∧ 6 ≤ r := by
  unfold mm_recv at h
  dsimp only at h
  split at h
  · rename_i r t
    obtain ⟨fs, hfs⟩ := h
    exact ⟨r, t, fs, rfl, hfs, mm_own_of hR hfs⟩
  · exact h.elim
theorem mm_invV (X : mm_Cx p s m c cc own g base dC dI cA sN sf) (hR : mm_Rep g base dC dI cA sN sf mem H) (hS : va_S (fun q => base ≤ q) s.heap H locs) {d nL idx np ci : Nat} {al : Nat × Nat} {y : mm_N} {as pre rest : List Value} {Q1 : mm_Q} (hml : c.maxLocals = nL) (hlr : lr.size = nL) (hRm : d + 1 ≤ R.frames ∧ 100 * d + 2100 ≤ R.locals) (hY : mm_okY y) (hci : y.2.2.2.2 = ci + 1) (hlink : Jvm.Cond.methodLink own idx y.1 ∈ lw_tbl) (hsel : Jvm.Cond.selects y.1.cls y.1 y.1 ∈ lw_tbl) (hnp : (parseMethodDescriptor y.1.desc).map (fun d => d.parameters.length) = some np)
    (hM : mm_Met l g base dC dI cA sN sf d al y as mem Q1) (has : as = pre.reverse) (hlen : pre.length = np + 1) (hsum : mm_sum rest ≤ 8) (hcells : cells + al.1 ≤ R.cells ∧ slots + al.2 ≤ R.slots) (hdg : decode cc pc = .ok (.invokevirtual idx, 3))
    (kk : ∀ (r : Option Value) (mem' : mm_M) (H1 : Heap) (locs1 : List Loc), Q1 r mem' → mm_Rep g base dC dI cA sN sf mem' H1 → va_S (fun q => base ≤ q) s.heap H1 locs1 → W p l e R s m args below meth c H1 locs1 (cells + al.1) (slots + al.2) Q (F0 m (pc + 3) lr ((r.toList ++ rest).map (mm_v g)))) : W p l e R s m args below meth c H locs cells slots Q (F0 m pc lr ((pre ++ rest).map (mm_v g))) := by
  have hV := X.2.2.2.1
  obtain ⟨hM1, hM2⟩ := hM
  rw [hci] at hM1
  obtain ⟨r, as', fs, ha, hr, h6⟩ := mm_recv_ok hR hM1
  obtain ⟨w, hw1, hw2⟩ : ∃ w : vw_C, vwCl[ci]? = some w ∧ w.1 = y.1.cls := by
    have h := hY.2.2
    rw [hci] at h
    exact h.2
  have hinst : Jvm.Cond.instanceMethod y.1 ∈ lw_tbl := by
    have h := hY.2.2
    rw [hci] at h
    exact h.1
  have hpre : pre = as'.reverse ++ [.ref r] := by
    have h1 : pre.reverse.reverse = (.ref r :: as').reverse := by rw [← has, ha]
    rw [List.reverse_reverse, List.reverse_cons] at h1
    exact h1
  have hgr : g r = base + (r - 6) := X.2.2.2.2.2.2 r h6
  have hcell := va_recv hV.2.2.2 (hR.one h6 hr) hw1 (q0 := 0) rfl
  have hP := mm_pre X hR hS (as := as)
  refine mm_after (a := #[]) (g := g) (rest := rest.map (mm_v g)) (va_runV (C := y.1.cls) (b := g r) (As := as'.map (mm_v g)) (rest := rest.map (mm_v g)) (Ts := []) ⟨X.1, X.2.1, hml, X.2.2.1, fun w hw => by cases hw⟩ hM2 ⟨mm_callW X hml hRm hY (hV.word hlink rfl args) hnp, hV.word hinst rfl args, hV.word hsel rfl args⟩ ⟨mm_blind, ?_, ?_⟩ rfl ?_ hlr ?_ ?_ hdg hcells) hS ?_
  · rw [hgr, ← hw2]
    exact hcell
  · intro U hU hW
    have h := hP.2 U hU hW
    rw [ha] at h ⊢
    exact h
  · rw [List.length_map]
    have h := congrArg List.length hpre
    rw [List.length_append, List.length_reverse, List.length_singleton] at h
    omega
  · show (pre ++ rest).map (mm_v g) = _
    rw [hpre]
    simp [mm_v]
  · exact lv_room (by rw [mm_sum_map]; exact hsum)
  · intro r1 mem' H1 locs1 q1 q2 q3
    rw [mm_ret_map]
    exact kk r1 mem' H1 locs1 q1 q2 q3
theorem mm_invS (X : mm_Cx p s m c cc own g base dC dI cA sN sf) (hR : mm_Rep g base dC dI cA sN sf mem H) (hS : va_S (fun q => base ≤ q) s.heap H locs) {d nL idx np : Nat} {al : Nat × Nat} {y : mm_N} {as pre rest : List Value} {Q1 : mm_Q} (hml : c.maxLocals = nL) (hlr : lr.size = nL) (hRm : d + 1 ≤ R.frames ∧ 100 * d + 2100 ≤ R.locals) (hY : mm_okY y) (hci : y.2.2.2.2 = 0) (hlink : Jvm.Cond.methodLink own idx y.1 ∈ lw_tbl ∨ Jvm.Cond.methodLinkNest own idx y.1 RX6 ∈ lw_tbl) (hnp : (parseMethodDescriptor y.1.desc).map (fun d => d.parameters.length) = some np)
    (hM : mm_Met l g base dC dI cA sN sf d al y as mem Q1) (has : as = pre.reverse) (hlen : pre.length = np) (hsum : mm_sum rest ≤ 8) (hcells : cells + al.1 ≤ R.cells ∧ slots + al.2 ≤ R.slots) (hdg : decode cc pc = .ok (.invokestatic idx, 3))
    (kk : ∀ (r : Option Value) (mem' : mm_M) (H1 : Heap) (locs1 : List Loc), Q1 r mem' → mm_Rep g base dC dI cA sN sf mem' H1 → va_S (fun q => base ≤ q) s.heap H1 locs1 → W p l e R s m args below meth c H1 locs1 (cells + al.1) (slots + al.2) Q (F0 m (pc + 3) lr ((r.toList ++ rest).map (mm_v g)))) : W p l e R s m args below meth c H locs cells slots Q (F0 m pc lr ((pre ++ rest).map (mm_v g))) := by
  have hV := X.2.2.2.1
  obtain ⟨hM1, hM2⟩ := hM
  have hstat : Jvm.Cond.static y.1 ∈ lw_tbl := by
    have h := hY.2.2
    rw [hci] at h
    exact h
  have hpre : pre = as.reverse := by rw [has, List.reverse_reverse]
  have hlen2 : (as.map (mm_v g)).length = np := by rw [List.length_map, has, List.length_reverse]; exact hlen
  have hstk : (pre ++ rest).map (mm_v g) = (as.map (mm_v g)).reverse ++ rest.map (mm_v g) := by rw [hpre]; simp
  have hP := mm_pre X hR hS (as := as)
  have hroom : 2 * (F0 m pc lr ((pre ++ rest).map (mm_v g))).monitorRoom + ((rest.map (mm_v g)).map fun v => v.category).sum ≤ 8 := lv_room (by rw [mm_sum_map]; exact hsum)
  rcases hlink with hlink | hlink
  · refine mm_after (a := #[]) (g := g) (rest := rest.map (mm_v g)) (va_runS (As := as.map (mm_v g)) (rest := rest.map (mm_v g)) (Ts := []) ⟨X.1, X.2.1, hml, X.2.2.1, fun w hw => by cases hw⟩ hM2 ⟨mm_callW X hml hRm hY (hV.word hlink rfl args) hnp, hV.word hstat rfl args⟩ hP rfl hlen2 hlr hstk hroom hdg hcells) hS ?_
    intro r1 mem' H1 locs1 q1 q2 q3
    rw [mm_ret_map]
    exact kk r1 mem' H1 locs1 q1 q2 q3
  · refine mm_after (a := #[]) (g := g) (rest := rest.map (mm_v g)) (va_runSN (As := as.map (mm_v g)) (rest := rest.map (mm_v g)) (Ts := []) ⟨X.1, X.2.1, hml, X.2.2.1, fun w hw => by cases hw⟩ hM2 ⟨mm_callN X hml hRm hY (va_Nw.use rfl (hV.2.1 _ hlink rfl)) hnp, hV.word hstat rfl args, trivial⟩ hP rfl hlen2 hlr hstk hroom hdg hcells) hS ?_
    intro r1 mem' H1 locs1 q1 q2 q3
    rw [mm_ret_map]
    exact kk r1 mem' H1 locs1 q1 q2 q3
theorem mm_invI (X : mm_Cx p s m c cc own g base dC dI cA sN sf) (hR : mm_Rep g base dC dI cA sN sf mem H) (hS : va_S (fun q => base ≤ q) s.heap H locs) {d nL idx np ci : Nat} {al : Nat × Nat} {y : mm_N} {as pre rest : List Value} {Q1 : mm_Q} (hml : c.maxLocals = nL) (hlr : lr.size = nL) (hRm : d + 1 ≤ R.frames ∧ 100 * d + 2100 ≤ R.locals) (hY : mm_okY y) (hci : y.2.2.2.2 = ci + 1) (hnm : y.1.name = "<init>") (hrt : y.2.2.2.1 = none) (hlink : Jvm.Cond.methodLink own idx y.1 ∈ lw_tbl ∨ Jvm.Cond.methodLinkNest own idx y.1 RX6 ∈ lw_tbl) (hnp : (parseMethodDescriptor y.1.desc).map (fun d => d.parameters.length) = some np)
    (hM : mm_Met l g base dC dI cA sN sf d al y as mem Q1) (has : as = pre.reverse) (hlen : pre.length = np + 1) (hsum : mm_sum rest ≤ 8) (hcells : cells + al.1 ≤ R.cells ∧ slots + al.2 ≤ R.slots) (hdg : decode cc pc = .ok (.invokespecial idx, 3))
    (kk : ∀ (r : Option Value) (mem' : mm_M) (H1 : Heap) (locs1 : List Loc), Q1 r mem' → mm_Rep g base dC dI cA sN sf mem' H1 → va_S (fun q => base ≤ q) s.heap H1 locs1 → W p l e R s m args below meth c H1 locs1 (cells + al.1) (slots + al.2) Q (F0 m (pc + 3) lr ((r.toList ++ rest).map (mm_v g)))) : W p l e R s m args below meth c H locs cells slots Q (F0 m pc lr ((pre ++ rest).map (mm_v g))) := by
  have hV := X.2.2.2.1
  obtain ⟨y, bt, ml, rt, rc⟩ := y
  dsimp only at hci hnm hrt hlink hnp hM
  subst hrt
  obtain ⟨hM1, hM2⟩ := hM
  dsimp only at hM1 hM2
  rw [hci] at hM1
  obtain ⟨r, as', fs, ha, hr, h6⟩ := mm_recv_ok hR hM1
  have hinst : Jvm.Cond.instanceMethod y ∈ lw_tbl := by
    have h := hY.2.2
    dsimp only at h
    rw [hci] at h
    exact h.1
  have hpre : pre = as'.reverse ++ [.ref r] := by
    have h1 : pre.reverse.reverse = (.ref r :: as').reverse := by rw [← has, ha]
    rw [List.reverse_reverse, List.reverse_cons] at h1
    exact h1
  have hlen2 : (as'.map (mm_v g)).length = np := by
    rw [List.length_map]
    have h := congrArg List.length hpre
    rw [List.length_append, List.length_reverse, List.length_singleton] at h
    omega
  have hstk : (pre ++ rest).map (mm_v g) = (as'.map (mm_v g)).reverse ++ .ref (g r) :: rest.map (mm_v g) := by
    rw [hpre]
    simp [mm_v]
  have hP := mm_pre X hR hS (as := as)
  have hP2 : PreS s H (fun v U => v = (as.map (mm_v g)).toArray ∧ mm_Vm dC dI cA U ∧ mm_St g base sN sf U U.heap ∧ mm_Rep g base dC dI cA sN sf mem U.heap) (.ref (g r) :: as'.map (mm_v g)) := by
    have h : as.map (mm_v g) = .ref (g r) :: as'.map (mm_v g) := by rw [ha]; rfl
    rw [← h]
    exact hP
  have hroom : 2 * (F0 m pc lr ((pre ++ rest).map (mm_v g))).monitorRoom + ((rest.map (mm_v g)).map fun v => v.category).sum ≤ 8 := lv_room (by rw [mm_sum_map]; exact hsum)
  rcases hlink with hlink | hlink
  · refine mm_after (a := #[]) (g := g) (rest := rest.map (mm_v g)) (va_runI (b := g r) (As := as'.map (mm_v g)) (rest := rest.map (mm_v g)) (Ts := []) ⟨X.1, X.2.1, hml, X.2.2.1, fun w hw => by cases hw⟩ hM2 ⟨mm_callW X hml hRm hY (hV.word hlink rfl args) hnp, hnm, hV.word hinst rfl args⟩ hP2 rfl hlen2 hlr hstk hroom hdg hcells) hS ?_
    intro r1 mem' H1 locs1 q1 q2 q3
    rw [mm_ret_map]
    exact kk r1 mem' H1 locs1 q1 q2 q3
  · refine mm_after (a := #[]) (g := g) (rest := rest.map (mm_v g)) (va_runIN (b := g r) (As := as'.map (mm_v g)) (rest := rest.map (mm_v g)) (Ts := []) ⟨X.1, X.2.1, hml, X.2.2.1, fun w hw => by cases hw⟩ hM2 ⟨mm_callN X hml hRm hY (va_Nw.use rfl (hV.2.1 _ hlink rfl)) hnp, hnm, hV.word hinst rfl args⟩ hP2 rfl hlen2 hlr hstk hroom hdg hcells) hS ?_
    intro r1 mem' H1 locs1 q1 q2 q3
    rw [mm_ret_map]
    exact kk r1 mem' H1 locs1 q1 q2 q3
end MMV
end
section
/-! the walk of a method's body -/
section MMW
variable {p : Program} {l : Launch} {e : Env} {R : Room} {s : State} {m : MethodId} {args : Array Value} {below : List Frame} {meth : Method} {c : Code} {H : Heap} {locs : List Loc} {cells slots : Nat} {Q : State → Prop}
variable {cc : ByteArray} {pc : Nat} {lr : Array Slot} {own : String} {g : Nat → Nat} {base : Nat} {dC : Nat → ClassId} {dI : Nat → Nat → Nat} {cA : Nat → ClassId} {sN : Nat → Nat} {sf : Nat → Nat → Int32} {mem : mm_M}
theorem mm_ifi (hx : p.tables.exec = Jvm.exec) (hb : c.code = cc) (z : ClassFile.Cond) {o : Int} {a : Nat} {x : Int32} {rest : List Value} (hd : decode cc pc = .ok (.ifCond z o, 3)) (ht : (pc : Int) + o = (a : Int))
    (h : mm_if z x 0 (W p l e R s m args below meth c H locs cells slots Q (F0 m a lr rest)) (W p l e R s m args below meth c H locs cells slots Q (F0 m (pc + 3) lr rest))) : W p l e R s m args below meth c H locs cells slots Q (F0 m pc lr (.int x :: rest)) := by
  cases z
  · exact lv_if_eq hx hb hd ht h.1 h.2
  · exact lv_if_ne hx hb hd ht h.1 h.2
  · exact lv_if_lt hx hb hd ht h.1 h.2
  · exact lv_if_ge hx hb hd ht h.1 h.2
  · exact lv_if_gt hx hb hd ht h.1 h.2
  · exact lv_if_le hx hb hd ht h.1 h.2
theorem mm_ifc (hx : p.tables.exec = Jvm.exec) (hb : c.code = cc) (z : ClassFile.Cond) {o : Int} {a : Nat} {x y : Int32} {rest : List Value} (hd : decode cc pc = .ok (.if_icmp z o, 3)) (ht : (pc : Int) + o = (a : Int))
    (h : mm_if z x y (W p l e R s m args below meth c H locs cells slots Q (F0 m a lr rest)) (W p l e R s m args below meth c H locs cells slots Q (F0 m (pc + 3) lr rest))) : W p l e R s m args below meth c H locs cells slots Q (F0 m pc lr (.int y :: .int x :: rest)) := by
  cases z
  · exact lv_icmp_eq hx hb hd ht h.1 h.2
  · exact lv_icmp_ne hx hb hd ht h.1 h.2
  · exact lv_icmp_lt hx hb hd ht h.1 h.2
  · exact lv_icmp_ge hx hb hd ht h.1 h.2
  · exact lv_icmp_gt hx hb hd ht h.1 h.2
  · exact lv_icmp_le hx hb hd ht h.1 h.2
/-- where the machine stands, where the small one does -/
def mm_at (p : Program) (l : Launch) (e : Env) (R : Room) (s : State) (m : MethodId) (args : Array Value) (below : List Frame) (meth : Method) (c : Code) (Q : State → Prop) (g : Nat → Nat) (base : Nat) (dC : Nat → ClassId) (dI : Nat → Nat → Nat) (cA : Nat → ClassId) (sN : Nat → Nat) (sf : Nat → Nat → Int32) (nL : Nat) : mm_K := fun pc ls st mem k n =>
  ∀ (H : Heap) (locs : List Loc) (lr : Array Slot), mm_Rep g base dC dI cA sN sf mem H → va_S (fun q => base ≤ q) s.heap H locs → mm_LR g nL ls lr → k ≤ R.cells → n ≤ R.slots → W p l e R s m args below meth c H locs k n Q (F0 m pc lr (st.map (mm_v g)))
theorem mm_df_map {l : List Value} (h : ∀ v ∈ l, mm_v (fun x => x + 1) v = v) : l.map (mm_v g) = l := by
  induction l with
  | nil => rfl
  | cons v t ih =>
    have h1 := h v List.mem_cons_self
    have h2 : mm_v g v = v := by
      cases v <;> first | rfl | skip
      rename_i a
      exact absurd (Value.ref.inj h1) (Nat.succ_ne_self a)
    rw [List.map_cons, h2, ih (fun w hw => h w (List.mem_cons_of_mem _ hw))]
set_option maxHeartbeats 4000000 in
theorem mm_sim_call (X : mm_Cx p s m c cc own g base dC dI cA sN sf) {S : mm_S} {Al : Nat → Nat × Nat} {d nL nx a b : Nat} {ls : mm_L} {st : List Value} {k n : Nat}
    (inv : ∀ (H : Heap) (locs : List Loc) (lr : Array Slot) (as pre rest : List Value) (Q1 : mm_Q) (cells slots : Nat), mm_Rep g base dC dI cA sN sf mem H → va_S (fun q => base ≤ q) s.heap H locs → lr.size = nL → S a as mem Q1 → as = pre.reverse → pre.length = b → mm_sum rest ≤ 8 → cells + (Al a).1 ≤ R.cells ∧ slots + (Al a).2 ≤ R.slots →
      (∀ (r : Option Value) (mem' : mm_M) (H1 : Heap) (locs1 : List Loc), Q1 r mem' → mm_Rep g base dC dI cA sN sf mem' H1 → va_S (fun q => base ≤ q) s.heap H1 locs1 → W p l e R s m args below meth c H1 locs1 (cells + (Al a).1) (slots + (Al a).2) Q (F0 m nx lr ((r.toList ++ rest).map (mm_v g)))) → W p l e R s m args below meth c H locs cells slots Q (F0 m pc lr ((pre ++ rest).map (mm_v g))))
    (h : mm_call S Al (R.cells, R.slots) (mm_at p l e R s m args below meth c Q g base dC dI cA sN sf nL) nx ls mem k n a (mm_pop b [] st)) : mm_at p l e R s m args below meth c Q g base dC dI cA sN sf nL pc ls st mem k n := by
  intro H locs lr hR hS hl hk hn
  unfold mm_call at h
  split at h
  · exact h.elim
  · rename_i q hq
    obtain ⟨as, rest⟩ := q
    obtain ⟨pre, h1, h2, h3⟩ := mm_pop_spec b [] st as rest hq
    rw [List.append_nil] at h2
    subst h1
    split at h
    · exact h.elim
    · rename_i hb
      have hsum : mm_sum rest ≤ 8 := Nat.le_of_ble_eq_true hb
      split at h
      · rename_i hal
        obtain ⟨Q1, hs, hgo⟩ := h
        have e1 : (Al a).1 = 0 := by rw [hal]
        have e2 : (Al a).2 = 0 := by rw [hal]
        refine inv H locs lr as pre rest Q1 k n hR hS hl.2.1 hs h2 h3 hsum ⟨by omega, by omega⟩ ?_
        intro r mem' H1 locs1 q1 q2 q3
        rw [e1, e2]
        exact hgo r mem' q1 H1 locs1 lr q2 q3 hl hk hn
      · rename_i c0 d0 _ hal
        obtain ⟨⟨hc1, hc2⟩, Q1, hs, hgo⟩ := h
        have e1 : (Al a).1 = c0 := by rw [hal]
        have e2 : (Al a).2 = d0 := by rw [hal]
        refine inv H locs lr as pre rest Q1 k n hR hS hl.2.1 hs h2 h3 hsum ⟨by rw [e1]; exact hc1, by rw [e2]; exact hc2⟩ ?_
        intro r mem' H1 locs1 q1 q2 q3
        rw [e1, e2]
        exact hgo r mem' q1 H1 locs1 lr q2 q3 hl hc1 hc2
set_option maxHeartbeats 4000000 in
theorem mm_sim (X : mm_Cx p s m c cc own g base dC dI cA sN sf) {Y : Nat → mm_N} {S : mm_S} {Al : Nat → Nat × Nat} {Df : Nat → List Value} {cd : mm_C} {Qm : mm_Q} {d nL : Nat} {ini : Bool} {rt : Option FieldType} (hml : c.maxLocals = nL) (hRm : d + 1 ≤ R.frames ∧ 100 * d + 2100 ≤ R.locals) (hini : ini = true → meth.name = "<init>")
    (hSp : ∀ (j : Nat) (as : List Value) (mem : mm_M) (Q1 : mm_Q), S j as mem Q1 → mm_okY (Y j) → mm_Met l g base dC dI cA sN sf d (Al j) (Y j) as mem Q1)
    (hok : ∀ (pc : Nat) (q : mm_I), mm_find cd pc = some q → mm_oki Y own ini cc rt Df pc q.1 q.2.1 q.2.2.1 q.2.2.2.1 q.2.2.2.2.1 q.2.2.2.2.2)
    (hret : ∀ (pc : Nat) (mem : mm_M) (H : Heap) (locs : List Loc) (lr : Array Slot) (k n : Nat) (v : Option Value) (ins : Instr), decode cc pc = .ok (ins, 1) → mm_isret rt ins v → mm_Rep g base dC dI cA sN sf mem H → va_S (fun q => base ≤ q) s.heap H locs → k ≤ R.cells → n ≤ R.slots → Qm v mem → W p l e R s m args below meth c H locs k n Q (F0 m pc lr (v.toList.map (mm_v g)))) :
    ∀ (pc : Nat) (ls : mm_L) (st : List Value) (mem : mm_M) (k n : Nat), mm_step S Al Df (R.cells, R.slots) cd Qm (mm_at p l e R s m args below meth c Q g base dC dI cA sN sf nL) pc ls st mem k n → mm_at p l e R s m args below meth c Q g base dC dI cA sN sf nL pc ls st mem k n := by
  intro pc ls st mem k n h
  have hx := X.1
  have hb := X.2.1
  unfold mm_step at h
  split at h
  · exact h.elim
  · rename_i q hq
    have ok := hok pc q hq
    obtain ⟨ins, nx, a, b, sw, lc⟩ := q
    dsimp only at ok h
    unfold mm_ins at h
    split at h
    -- idiv, irem, ldiv, lrem
    · obtain ⟨hd, rfl⟩ := ok
      split at h
      · intro H locs lr hR hS hl hk hn
        refine lv_idiv hx hb hd h.1 ?_
        exact h.2 H locs lr hR hS hl hk hn
      · exact h.elim
    · obtain ⟨hd, rfl⟩ := ok
      split at h
      · intro H locs lr hR hS hl hk hn
        refine lv_irem hx hb hd h.1 ?_
        exact h.2 H locs lr hR hS hl hk hn
      · exact h.elim
    · obtain ⟨hd, rfl⟩ := ok
      split at h
      · intro H locs lr hR hS hl hk hn
        refine lv_ldiv hx hb hd h.1 ?_
        exact h.2 H locs lr hR hS hl hk hn
      · exact h.elim
    · obtain ⟨hd, rfl⟩ := ok
      split at h
      · intro H locs lr hR hS hl hk hn
        refine lv_lrem hx hb hd h.1 ?_
        exact h.2 H locs lr hR hS hl hk hn
      · exact h.elim
    -- branches
    · obtain ⟨hd, rfl, ht⟩ := ok
      split at h
      · intro H locs lr hR hS hl hk hn
        refine mm_ifi hx hb _ hd ht ?_
        exact mm_if_mono (fun w => w H locs lr hR hS hl hk hn) (fun w => w H locs lr hR hS hl hk hn) h
      · exact h.elim
    · obtain ⟨hd, rfl, ht⟩ := ok
      split at h
      · intro H locs lr hR hS hl hk hn
        refine mm_ifc hx hb _ hd ht ?_
        exact mm_if_mono (fun w => w H locs lr hR hS hl hk hn) (fun w => w H locs lr hR hS hl hk hn) h
      · exact h.elim
    · obtain ⟨hd, ht⟩ := ok
      intro H locs lr hR hS hl hk hn
      exact lv_goto hx hb hd ht (h H locs lr hR hS hl hk hn)
    -- switches
    · obtain ⟨⟨len, hd⟩, ht, hsw, hhi⟩ := ok
      split at h
      · rename_i x st0
        intro H locs lr hR hS hl hk hn
        rcases mm_tsw_ok _ _ _ hsw h with ⟨h1, h2⟩ | ⟨i, o, t, h1, h2, h3, h4⟩
        · exact lv_tableOut hx hb hd (by omega) ht (h1 H locs lr hR hS hl hk hn)
        · have hi := (List.getElem?_eq_some_iff.mp h1).1
          refine lv_tableIn (off := o) hx hb hd (by omega) (by omega) ?_ h3 (h4 H locs lr hR hS hl hk hn)
          rw [← Array.getElem?_toList, h2, show ∀ lo : Int, (lo + (i : Int) - lo).toNat = i from fun lo => by omega]
          exact h1
      · exact h.elim
    · obtain ⟨⟨len, hd⟩, ht, hsw, hsort⟩ := ok
      split at h
      · rename_i x st0
        intro H locs lr hR hS hl hk hn
        obtain ⟨t, h1, h2⟩ := mm_lsw_ok ht _ _ hsw h
        refine lv_lookup hx hb hd hsort rfl h1 ?_
        rcases h2 with ⟨rfl, h2⟩ | h2
        · exact h2 H locs lr hR hS hl hk hn
        · exact h2 H locs lr hR hS hl hk hn
      · exact h.elim
    -- getstatic
    · obtain ⟨hd, rfl, h1, h2, h3⟩ := ok
      intro H locs lr hR hS hl hk hn
      exact mm_gets X hS h1 h2 h3 hd (h H locs lr hR hS hl hk hn)
    -- getfield
    · obtain ⟨hd, rfl, q, hf⟩ := ok
      split at h
      · rename_i r st0
        split at h
        · rename_i o hr
          split at h
          · rename_i hbq
            split at h
            · rename_i v hv
              intro H locs lr hR hS hl hk hn
              obtain ⟨ci, fs⟩ := o
              have e0 : ci = a := Nat.eq_of_beq_eq_true hbq
              subst e0
              exact mm_getf X hR hr hv hf hd (h H locs lr hR hS hl hk hn)
            · exact h.elim
          · exact h.elim
        · exact h.elim
      · exact h.elim
    -- putfield
    · obtain ⟨hd, rfl, ⟨q, hf, hfin⟩, htag⟩ := ok
      split at h
      · rename_i v r st0
        split at h
        · rename_i o hr
          split at h
          · rename_i hbq
            split at h
            · rename_i v0 hv
              split at h
              · rename_i z tag tl
                intro H locs lr hR hS hl hk hn
                obtain ⟨ci, fs⟩ := o
                have e0 : ci = a := Nat.eq_of_beq_eq_true hbq
                subst e0
                refine mm_putf X hR hS hr hv hf h.1 (htag _ _ _ rfl) (hfin.imp id (fun z => ⟨hini z.1, z.2⟩)) hd ?_
                intro H1 locs1 q1 q2
                exact h.2 H1 locs1 lr q1 q2 hl hk hn
              · exact h.elim
            · exact h.elim
          · exact h.elim
        · exact h.elim
      · exact h.elim
    -- iaload, baload, aaload
    · obtain ⟨hd, rfl⟩ := ok
      split at h
      · split at h
        · rename_i hr
          intro H locs lr hR hS hl hk hn
          exact mm_iald X hR hS hr h.1 hd (h.2 H locs lr hR hS hl hk hn)
        · exact h.elim
      · exact h.elim
    · obtain ⟨hd, rfl⟩ := ok
      split at h
      · split at h
        · rename_i hr
          intro H locs lr hR hS hl hk hn
          exact mm_zald X hR hr h.1 hd (h.2 H locs lr hR hS hl hk hn)
        · exact h.elim
      · exact h.elim
    · obtain ⟨hd, rfl⟩ := ok
      split at h
      · split at h
        · rename_i hr
          intro H locs lr hR hS hl hk hn
          obtain ⟨h1, y, h2, h3⟩ := h
          exact mm_aald X hR hr h1 h2 hd (h3 H locs lr hR hS hl hk hn)
        · exact h.elim
      · exact h.elim
    -- iastore, bastore, aastore
    · obtain ⟨hd, rfl⟩ := ok
      split at h
      · split at h
        · rename_i h6
          split at h
          · rename_i hr
            intro H locs lr hR hS hl hk hn
            refine mm_iast X hR hS (Nat.le_of_ble_eq_true h6) hr h.1 hd ?_
            intro H1 locs1 q1 q2
            exact h.2 H1 locs1 lr q1 q2 hl hk hn
          · exact h.elim
        · exact h.elim
      · exact h.elim
    · obtain ⟨hd, rfl⟩ := ok
      split at h
      · split at h
        · rename_i h6
          split at h
          · rename_i hr
            intro H locs lr hR hS hl hk hn
            refine mm_zast X hR hS (Nat.le_of_ble_eq_true h6) hr h.1 h.2.1 hd ?_
            intro H1 locs1 q1 q2
            exact h.2.2 H1 locs1 lr q1 q2 hl hk hn
          · exact h.elim
        · exact h.elim
      · exact h.elim
    · obtain ⟨hd, rfl, rfl⟩ := ok
      split at h
      · split at h
        · rename_i h6
          split at h
          · rename_i hr
            intro H locs lr hR hS hl hk hn
            obtain ⟨h1, ⟨fs, h2⟩, h3⟩ := h
            refine mm_aast X hR hS (Nat.le_of_ble_eq_true h6) hr h1 h2 hd ?_
            intro H1 locs1 q1 q2
            exact h3 H1 locs1 lr q1 q2 hl hk hn
          · exact h.elim
        · exact h.elim
      · exact h.elim
    -- arraylength
    · obtain ⟨hd, rfl⟩ := ok
      split at h
      · split at h
        · rename_i t N z hr
          split at h
          · rename_i ht
            intro H locs lr hR hS hl hk hn
            have ht2 := Nat.le_of_ble_eq_true ht
            exact mm_alen X hR hS hr (by omega) hd (h H locs lr hR hS hl hk hn)
          · exact h.elim
        · exact h.elim
      · exact h.elim
    -- new
    · obtain ⟨hd, rfl, q, h1, h2, h3, h4, rfl, h6, h7⟩ := ok
      obtain ⟨⟨hc1, hc2⟩, h⟩ := h
      intro H locs lr hR hS hl hk hn
      refine mm_newo (fs := Df a) X hR hS h1 h2 h3 h4 rfl (fun j hj => by rw [mm_df_map h7]; exact h6 j hj) hc1 hc2 hd ?_
      intro H1 q1 q2
      exact h _ rfl H1 locs lr q1 q2 hl hc1 hc2
    -- newarray
    · obtain ⟨hd, rfl, hN, hty⟩ := ok
      split at h
      · rename_i x st0
        obtain ⟨rfl, ⟨hc1, hc2⟩, h⟩ := h
        intro H locs lr hR hS hl hk hn
        rcases hty with ⟨rfl, rfl, ha⟩ | ⟨rfl, rfl, ha⟩
        · refine mm_newi X hR hS hN ha hc1 hc2 hd ?_
          intro H1 q1 q2
          exact h _ rfl H1 locs lr q1 q2 hl hc1 hc2
        · refine mm_newz X hR hS hN ha hc1 hc2 hd ?_
          intro H1 q1 q2
          exact h _ rfl H1 locs lr q1 q2 hl hc1 hc2
      · exact h.elim
    -- anewarray
    · obtain ⟨hd, rfl, hN, ha⟩ := ok
      split at h
      · rename_i x st0
        obtain ⟨rfl, ⟨hc1, hc2⟩, h⟩ := h
        intro H locs lr hR hS hl hk hn
        refine mm_newq X hR hS hN ha hc1 hc2 hd ?_
        intro H1 q1 q2
        exact h _ rfl H1 locs lr q1 q2 hl hc1 hc2
      · exact h.elim
    -- invokevirtual
    · obtain ⟨⟨hd, rfl, hY⟩, ⟨ci, hci⟩, hlk, hsel, np, rfl, hnp⟩ := ok
      refine mm_sim_call (d := d) X ?_ h
      intro H locs lr as pre rest Q1 cells slots hR hS hlr hs h2 h3 hsum hcs kk
      exact mm_invV X hR hS hml hlr hRm hY hci hlk hsel hnp (hSp a as mem Q1 hs hY) h2 h3 hsum hcs hd kk
    -- invokestatic
    · obtain ⟨⟨hd, rfl⟩, ok⟩ := ok
      split at h
      · rcases ok with ⟨-, hY, hci, hlk, hnp⟩ | ⟨h0, -⟩
        · refine mm_sim_call (d := d) X ?_ h
          intro H locs lr as pre rest Q1 cells slots hR hS hlr hs h2 h3 hsum hcs kk
          exact mm_invS X hR hS hml hlr hRm hY hci hlk hnp (hSp a as mem Q1 hs hY) h2 h3 hsum hcs hd kk
        · exact absurd h0 (by decide)
      · rename_i hlc
        rcases ok with ⟨h0, -⟩ | ⟨-, hlk, hnat, hstat, hin⟩
        · exact (hlc h0).elim
        · split at h
          · rename_i z dp dd sp r st0
            split at h
            · rename_i N f M gg h6 hr hdd
              intro H locs lr hR hS hl hk hn
              obtain ⟨⟨⟨h1, h2, h3, h4⟩, h5, h7, h8⟩, h⟩ := h
              refine mm_copy X hR hS (hml.trans hl.2.1.symm) h4 (Nat.le_of_ble_eq_true h6) hr hdd hlk hnat hstat hin h1 h2 h3 h5 h7 h8 (by omega) ?_ hd ?_
              · have : nativeFrameWords "java/lang/System" "arraycopy" 5 ≤ 1000 := by decide +kernel
                omega
              · intro H1 locs1 q1 q2
                exact h H1 locs1 lr q1 q2 hl hk hn
            · exact h.elim
          · exact h.elim
    -- invokespecial
    · obtain ⟨⟨hd, rfl⟩, ok⟩ := ok
      split at h
      · rcases ok with ⟨-, hY, ⟨ci, hci⟩, hnm, hrt, hlk, np, rfl, hnp⟩ | ⟨h0, -⟩
        · refine mm_sim_call (d := d) X ?_ h
          intro H locs lr as pre rest Q1 cells slots hR hS hlr hs h2 h3 hsum hcs kk
          exact mm_invI X hR hS hml hlr hRm hY hci hnm hrt hlk hnp (hSp a as mem Q1 hs hY) h2 h3 hsum hcs hd kk
        · exact absurd h0 (by decide)
      · rename_i hlc
        rcases ok with ⟨h0, -⟩ | ⟨-, hlk, hin, hcd⟩
        · exact (hlc h0).elim
        · split at h
          · rename_i r st0
            intro H locs lr hR hS hl hk hn
            have hV := X.2.2.2.1
            refine W.objInit hx hb X.2.2.1 (hV.word hlk rfl args) (hV.word hin rfl args) (hV.word hcd rfl args) rfl (hl.2.1.trans hml.symm) rfl hd (by omega) ?_ (h.2 H locs lr hR hS hl hk hn)
            have h9 : 2 * (F0 m pc lr (st0.map (mm_v g))).monitorRoom + ((st0.map (mm_v g)).map fun v => v.category).sum ≤ 8 := lv_room (by rw [mm_sum_map]; exact h.1)
            exact Nat.le_trans (Nat.add_le_add_right h9 12) (by omega)
          · exact h.elim
    -- returns
    · obtain ⟨hd, hrt⟩ := ok
      split at h
      · rename_i v
        split at h
        · rcases hrt with ⟨-, hrt⟩ | ⟨h0, -⟩
          · intro H locs lr hR hS hl hk hn
            exact hret pc mem H locs lr k n (some (.int v)) _ hd (Or.inl hrt) hR hS hk hn h
          · cases h0
        · rename_i hne
          rcases hrt with ⟨h0, -⟩ | ⟨-, hrt⟩
          · exact (hne h0).elim
          · intro H locs lr hR hS hl hk hn
            exact hret pc mem H locs lr k n (some (.int v)) _ hd (Or.inr ⟨hrt, h.1⟩) hR hS hk hn h.2
      · exact h.elim
    · obtain ⟨hd, hrt⟩ := ok
      split at h
      · rename_i v
        intro H locs lr hR hS hl hk hn
        exact hret pc mem H locs lr k n (some (.long v)) _ hd hrt hR hS hk hn h
      · exact h.elim
    · obtain ⟨hd, hrt⟩ := ok
      split at h
      · intro H locs lr hR hS hl hk hn
        exact hret pc mem H locs lr k n none _ hd hrt hR hS hk hn h
      · exact h.elim
    -- the rest
    · split at h
      · rename_i r hr
        obtain ⟨ls', st'⟩ := r
        intro H locs lr hR hS hl hk hn
        have hV := X.2.2.2.1
        by_cases hc1 : ∃ idx, ins = .ldc_w idx
        · obtain ⟨idx, rfl⟩ := hc1
          obtain ⟨hd, rfl, v, r, rfl, hw⟩ := ok
          cases hr
          exact lv_ldcw hx hb X.2.2.1 (hV.word hw rfl args) hd (h H locs lr hR hS hl hk hn)
        · by_cases hc2 : ∃ idx, ins = .ldc idx
          · obtain ⟨idx, rfl⟩ := hc2
            obtain ⟨hd, rfl, v, r, rfl, hw⟩ := ok
            cases hr
            exact lv_ldc hx hb X.2.2.1 (hV.word hw rfl args) hd (h H locs lr hR hS hl hk hn)
          · by_cases hc3 : ∃ idx, ins = .ldc2_w idx
            · obtain ⟨idx, rfl⟩ := hc3
              obtain ⟨hd, rfl, hw⟩ := ok
              cases hr
              exact lv_ldc2 hx hb X.2.2.1 (hV.word hw rfl args) hd (h H locs lr hR hS hl hk hn)
            · refine mm_pure_ok hx hb ins ?_ hl hr (fun lr' hl' => h H locs lr' hR hS hl' hk hn)
              unfold mm_oki at ok
              split at ok
              all_goals first
                | exact ok
                | (cases hr; done)
                | (rename_i z; exact (z rfl).elim)
                | (exfalso; exact hc1 ⟨_, rfl⟩)
                | (exfalso; exact hc2 ⟨_, rfl⟩)
                | (exfalso; exact hc3 ⟨_, rfl⟩)
                | (exfalso; simp_all; done)
      · exact h.elim
end MMW
end
section
/-! what the small machine says of a call, the machine does -/
theorem mm_lay_len {g : Nat → Nat} : ∀ as : List Value, (lg_sl (as.map (mm_v g))).length = (mm_lay as).length
  | [] => rfl
  | v :: t => by
    have ih := mm_lay_len (g := g) t
    cases v <;> simp_all [lg_sl, mm_lay, mm_v, Value.category]
theorem mm_lay_mem {g : Nat → Nat} : ∀ (as : List Value) (i0 i : Nat) (v : Value), mm_nth (mm_lay as) i = some (some v) → (i0 + i, mm_v g v) ∈ lv_args i0 (as.map (mm_v g))
  | [], _, _, _, h => by cases h
  | w :: t, i0, i, v, h => by
    have ih := mm_lay_mem (g := g) t
    have one : ∀ (w : Value), w.category = 1 → mm_nth (some w :: mm_lay t) i = some (some v) → (i0 + i, mm_v g v) ∈ (i0, mm_v g w) :: lv_args (i0 + 1) (t.map (mm_v g)) := by
      intro w _ h
      cases i with
      | zero => cases h; exact List.mem_cons_self
      | succ i =>
        have h2 := ih (i0 + 1) i v h
        rw [show i0 + 1 + i = i0 + (i + 1) by omega] at h2
        exact List.mem_cons_of_mem _ h2
    have two : ∀ (w : Value), w.category = 2 → mm_nth (some w :: none :: mm_lay t) i = some (some v) → (i0 + i, mm_v g v) ∈ (i0, mm_v g w) :: lv_args (i0 + 2) (t.map (mm_v g)) := by
      intro w _ h
      match i, h with
      | 0, h => cases h; exact List.mem_cons_self
      | 1, h => cases h
      | i + 2, h =>
        have h2 := ih (i0 + 2) i v h
        rw [show i0 + 2 + i = i0 + (i + 2) by omega] at h2
        exact List.mem_cons_of_mem _ h2
    cases w with
    | long x => exact two (.long x) rfl h
    | double x => exact two (.double x) rfl h
    | int x => exact one (.int x) rfl h
    | float x => exact one (.float x) rfl h
    | null => exact one .null rfl h
    | ref x => exact one (.ref x) rfl h
    | retAddr x => exact one (.retAddr x) rfl h
theorem mm_rep_len : ∀ n : Nat, (mm_rep n).length = n
  | 0 => rfl
  | n + 1 => congrArg Nat.succ (mm_rep_len n)
theorem mm_rep_nth : ∀ (n i : Nat) (v : Value), mm_nth (mm_rep n) i = some (some v) → False
  | 0, _, _, h => by cases h
  | n + 1, 0, _, h => by cases h
  | n + 1, i + 1, v, h => mm_rep_nth n i v h
theorem mm_nth_append {α : Type} : ∀ (l r : List α) (i : Nat) (x : α), mm_nth (l ++ r) i = some x → mm_nth l i = some x ∨ ∃ j, mm_nth r j = some x
  | [], _, i, _, h => Or.inr ⟨i, h⟩
  | _ :: _, _, 0, _, h => Or.inl h
  | _ :: t, r, i + 1, x, h => mm_nth_append t r i x h
theorem mm_LR_entry {g : Nat → Nat} {nL : Nat} {as : List Value} (h : (mm_lay as).length ≤ nL) :
    mm_LR g nL (mm_args nL as) ((lg_sl (as.map (mm_v g)) ++ List.replicate (nL - (lg_sl (as.map (mm_v g))).length) Slot.unset).toArray) := by
  have hl := lv_entry (as.map (mm_v g)) (n := nL) (by rw [mm_lay_len]; exact h)
  refine ⟨?_, hl.1, hl.2.1, fun i v hi => ?_⟩
  · unfold mm_args
    rw [List.length_append, mm_rep_len]
    omega
  · unfold mm_args at hi
    rcases mm_nth_append _ _ _ _ hi with h1 | ⟨j, h1⟩
    · have h2 := mm_lay_mem (g := g) as 0 i v h1
      rw [Nat.zero_add] at h2
      exact hl.2.2 _ h2
    · exact (mm_rep_nth _ _ _ h1).elim
/-- a table of methods that fits the code -/
def mm_Prog (Y : Nat → mm_N) (Pg : Nat → mm_Y) (Df : Nat → List Value) : Prop :=
  ∀ j, mm_okY (Y j) → (Pg j).2.1 = (Y j).2.2.1 ∧ (Pg j).2.2 = (Y j).2.2.2.2 ∧ ∀ (pc : Nat) (q : mm_I), mm_find (Pg j).1 pc = some q → mm_oki Y (Y j).1.cls (decide ((Y j).1.name = "<init>")) (Y j).2.1 (Y j).2.2.2.1 Df pc q.1 q.2.1 q.2.2.1 q.2.2.2.1 q.2.2.2.2.1 q.2.2.2.2.2
set_option maxHeartbeats 4000000 in
theorem mm_sound {l : Launch} {Y : Nat → mm_N} {Pg : Nat → mm_Y} {Al : Nat → Nat × Nat} {Df : Nat → List Value} {g : Nat → Nat} {base : Nat} {dC : Nat → ClassId} {dI : Nat → Nat → Nat} {cA : Nat → ClassId} {sN : Nat → Nat} {sf : Nat → Nat → Int32} (hP : mm_Prog Y Pg Df) (hg : ∀ k, 6 ≤ k → g k = base + (k - 6)) :
    ∀ (d j : Nat) (as : List Value) (mem : mm_M) (Q1 : mm_Q), mm_Sp Pg Al Df d j as mem Q1 → mm_okY (Y j) → mm_Met l g base dC dI cA sN sf d (Al j) (Y j) as mem Q1 := by
  intro d
  induction d with
  | zero => intro j as mem Q1 h; exact h.elim
  | succ d ih =>
    intro j as mem Q1 h hY
    obtain ⟨hp1, hp2, hp3⟩ := hP j hY
    obtain ⟨hrecv, hlen, hwp⟩ := h
    rw [hp2] at hrecv
    rw [hp1] at hlen hwp
    refine ⟨hrecv, ?_⟩
    generalize hyj : Y j = y at *
    obtain ⟨nm, bt, ml, rt, rc⟩ := y
    dsimp only at *
    refine Met.ofW (cc := bt) (maxL := ml) (ret := rt) (ws' := []) hY.1.2.2.1 rfl ?_
    intro p e s m args below meth c s₁ B hml hv
    obtain ⟨rfl, hV, hSt, hRep⟩ := hv
    have hown : s.vm.findClass nm.cls = some m.cls := findClass_of_methodNamed B.named
    have hbase : base ≤ s.heap.size := by
      have := hRep.1
      omega
    have X : mm_Cx p s m c bt nm.cls g base dC dI cA sN sf := ⟨B.exec, B.bytes, hown, hV, hSt, hbase, hg⟩
    rw [lg_entry_eq]
    have hle : (mm_lay as).length ≤ ml := Nat.le_of_ble_eq_true hlen
    have hin : decide (nm.name = "<init>") = true → meth.name = "<init>" := by
      intro h
      rw [← of_decide_eq_true h]
      exact (name_of_methodNamed B.named B.method).1
    refine hwp (mm_at p l e (mm_room (d + 1) (Al j)) s m _ below meth c _ g base dC dI cA sN sf ml) (mm_sim (d := d) X hml ⟨Nat.le_refl _, by show 100 * d + 2100 ≤ 100 * (d + 1) + 2000; omega⟩ hin ih hp3 ?_) s.heap [] _ hRep va_S.rf (mm_LR_entry hle) (Nat.zero_le _) (Nat.zero_le _)
    intro pc mem' H locs lr k n v ins hd hr hR hS hk hn hq
    refine W.widen (k := (Al j).1) (n := (Al j).2) hk hn ?_
    have hlocks := B.notSynchronized
    have hrt := B.returns
    unfold mm_isret at hr
    split at hr
    · rename_i x
      rcases hr with hr | ⟨hr, hf⟩
      · subst hr
        exact W.iret B.exec B.bytes hrt (fun t ht hW => ⟨⟨some (.int x), mem', rfl, hq, by rw [ht]; exact hR⟩, hS.F ht⟩) hS.2.2 hd
      · subst hr
        have hnar : narrow .boolean (.int x) = .int x := by
          have h2 : x = 0 ∨ x = 1 := by simpa [fits] using hf
          rcases h2 with rfl | rfl <;> decide +kernel
        exact W.zret B.exec B.bytes hrt hnar (fun t ht hW => ⟨⟨some (.int x), mem', rfl, hq, by rw [ht]; exact hR⟩, hS.F ht⟩) hS.2.2 hd
    · rename_i x
      subst hr
      exact W.lret B.exec B.bytes hrt (fun t ht hW => ⟨⟨some (.long x), mem', rfl, hq, by rw [ht]; exact hR⟩, hS.F ht⟩) hS.2.2 hd
    · subst hr
      exact W.vret B.exec B.bytes hrt (fun t ht hW => ⟨⟨none, mem', rfl, hq, by rw [ht]; exact hR⟩, hS.F ht⟩) hS.2.2 hd
    · exact hr.elim
end
