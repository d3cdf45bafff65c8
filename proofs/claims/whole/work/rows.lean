section
-- ===== PART A: goes FIRST, ahead of the names: the tables' words, and 'selects' of the private methods out of them =====
/-- a private method of a class that the tables say can be made, by its rows of tables_1 -/
def lw_okq (q : MethodName × Nat) : Prop := (q.1.cls ≠ "java/lang/invoke/MethodHandle" ∧ q.1.cls ≠ "java/lang/invoke/VarHandle") ∧ Cond.instantiable q.1.cls q.2 ∈ tables_1 ∧ Cond.privateMethod q.1 ∈ tables_1 ∧ Cond.instanceMethod q.1 ∈ tables_1
theorem lw_p0 : lw_okq (⟨"WhichWord", "refuse", "(I)I"⟩, 8) := ⟨⟨by decide +kernel, by decide +kernel⟩, List.mem_of_getElem? (i := 14) (by decide +kernel), List.mem_of_getElem? (i := 199) (by decide +kernel), List.mem_of_getElem? (i := 200) (by decide +kernel)⟩
theorem lw_p1 : lw_okq (⟨"WhichWord$Text", "readThings", "(LWhichWord$Scene;)Z"⟩, 3) := ⟨⟨by decide +kernel, by decide +kernel⟩, List.mem_of_getElem? (i := 22) (by decide +kernel), List.mem_of_getElem? (i := 221) (by decide +kernel), List.mem_of_getElem? (i := 222) (by decide +kernel)⟩
theorem lw_p2 : lw_okq (⟨"WhichWord$Text", "readThing", "(LWhichWord$Scene;)Z"⟩, 3) := ⟨⟨by decide +kernel, by decide +kernel⟩, List.mem_of_getElem? (i := 22) (by decide +kernel), List.mem_of_getElem? (i := 225) (by decide +kernel), List.mem_of_getElem? (i := 226) (by decide +kernel)⟩
theorem lw_p3 : lw_okq (⟨"WhichWord$Text", "take", "(I)Z"⟩, 3) := ⟨⟨by decide +kernel, by decide +kernel⟩, List.mem_of_getElem? (i := 22) (by decide +kernel), List.mem_of_getElem? (i := 229) (by decide +kernel), List.mem_of_getElem? (i := 230) (by decide +kernel)⟩
theorem lw_p4 : lw_okq (⟨"WhichWord$Text", "takeOneOf", "(III)I"⟩, 3) := ⟨⟨by decide +kernel, by decide +kernel⟩, List.mem_of_getElem? (i := 22) (by decide +kernel), List.mem_of_getElem? (i := 233) (by decide +kernel), List.mem_of_getElem? (i := 234) (by decide +kernel)⟩
theorem lw_p5 : lw_okq (⟨"WhichWord$Text", "readDoings", "(LWhichWord$Scene;)Z"⟩, 3) := ⟨⟨by decide +kernel, by decide +kernel⟩, List.mem_of_getElem? (i := 22) (by decide +kernel), List.mem_of_getElem? (i := 241) (by decide +kernel), List.mem_of_getElem? (i := 242) (by decide +kernel)⟩
theorem lw_p6 : lw_okq (⟨"WhichWord$Text", "readDoing", "(LWhichWord$Scene;)Z"⟩, 3) := ⟨⟨by decide +kernel, by decide +kernel⟩, List.mem_of_getElem? (i := 22) (by decide +kernel), List.mem_of_getElem? (i := 245) (by decide +kernel), List.mem_of_getElem? (i := 246) (by decide +kernel)⟩
theorem lw_p7 : lw_okq (⟨"WhichWord$Scene", "countThings", "(II)I"⟩, 4) := ⟨⟨by decide +kernel, by decide +kernel⟩, List.mem_of_getElem? (i := 45) (by decide +kernel), List.mem_of_getElem? (i := 275) (by decide +kernel), List.mem_of_getElem? (i := 276) (by decide +kernel)⟩
theorem lw_p8 : lw_okq (⟨"WhichWord$Scene", "holdsJoined", "(I)Z"⟩, 4) := ⟨⟨by decide +kernel, by decide +kernel⟩, List.mem_of_getElem? (i := 45) (by decide +kernel), List.mem_of_getElem? (i := 283) (by decide +kernel), List.mem_of_getElem? (i := 284) (by decide +kernel)⟩
theorem lw_p9 : lw_okq (⟨"WhichWord$Told", "dropSayingsOf", "(I)V"⟩, 12) := ⟨⟨by decide +kernel, by decide +kernel⟩, List.mem_of_getElem? (i := 39) (by decide +kernel), List.mem_of_getElem? (i := 305) (by decide +kernel), List.mem_of_getElem? (i := 306) (by decide +kernel)⟩
theorem lw_p10 : lw_okq (⟨"WhichWord", "noScene", "(I)Z"⟩, 8) := ⟨⟨by decide +kernel, by decide +kernel⟩, List.mem_of_getElem? (i := 14) (by decide +kernel), List.mem_of_getElem? (i := 313) (by decide +kernel), List.mem_of_getElem? (i := 314) (by decide +kernel)⟩
theorem lw_p11 : lw_okq (⟨"WhichWord$Likely", "latestSaid", "(I)I"⟩, 1) := ⟨⟨by decide +kernel, by decide +kernel⟩, List.mem_of_getElem? (i := 125) (by decide +kernel), List.mem_of_getElem? (i := 410) (by decide +kernel), List.mem_of_getElem? (i := 411) (by decide +kernel)⟩
theorem lw_p12 : lw_okq (⟨"WhichWord$Likely", "ofAll", "(I)J"⟩, 1) := ⟨⟨by decide +kernel, by decide +kernel⟩, List.mem_of_getElem? (i := 125) (by decide +kernel), List.mem_of_getElem? (i := 425) (by decide +kernel), List.mem_of_getElem? (i := 426) (by decide +kernel)⟩
theorem lw_p13 : lw_okq (⟨"WhichWord$Giver", "countLefts", "(I)V"⟩, 2) := ⟨⟨by decide +kernel, by decide +kernel⟩, List.mem_of_getElem? (i := 135) (by decide +kernel), List.mem_of_getElem? (i := 456) (by decide +kernel), List.mem_of_getElem? (i := 457) (by decide +kernel)⟩
theorem lw_p14 : lw_okq (⟨"WhichWord$Giver", "ways", "(III)I"⟩, 2) := ⟨⟨by decide +kernel, by decide +kernel⟩, List.mem_of_getElem? (i := 135) (by decide +kernel), List.mem_of_getElem? (i := 462) (by decide +kernel), List.mem_of_getElem? (i := 463) (by decide +kernel)⟩
theorem lw_p15 : lw_okq (⟨"WhichWord$Giver", "lost", "(II)I"⟩, 2) := ⟨⟨by decide +kernel, by decide +kernel⟩, List.mem_of_getElem? (i := 135) (by decide +kernel), List.mem_of_getElem? (i := 468) (by decide +kernel), List.mem_of_getElem? (i := 469) (by decide +kernel)⟩
def lw_privs_1 : List (MethodName × Nat) := [(⟨"WhichWord", "refuse", "(I)I"⟩, 8), (⟨"WhichWord$Text", "readThings", "(LWhichWord$Scene;)Z"⟩, 3), (⟨"WhichWord$Text", "readThing", "(LWhichWord$Scene;)Z"⟩, 3), (⟨"WhichWord$Text", "take", "(I)Z"⟩, 3), (⟨"WhichWord$Text", "takeOneOf", "(III)I"⟩, 3), (⟨"WhichWord$Text", "readDoings", "(LWhichWord$Scene;)Z"⟩, 3), (⟨"WhichWord$Text", "readDoing", "(LWhichWord$Scene;)Z"⟩, 3), (⟨"WhichWord$Scene", "countThings", "(II)I"⟩, 4), (⟨"WhichWord$Scene", "holdsJoined", "(I)Z"⟩, 4), (⟨"WhichWord$Told", "dropSayingsOf", "(I)V"⟩, 12), (⟨"WhichWord", "noScene", "(I)Z"⟩, 8), (⟨"WhichWord$Likely", "latestSaid", "(I)I"⟩, 1), (⟨"WhichWord$Likely", "ofAll", "(I)J"⟩, 1), (⟨"WhichWord$Giver", "countLefts", "(I)V"⟩, 2), (⟨"WhichWord$Giver", "ways", "(III)I"⟩, 2), (⟨"WhichWord$Giver", "lost", "(II)I"⟩, 2)]
theorem lw_r1 : ∀ q ∈ lw_privs_1, lw_okq q := List.forall_mem_cons.mpr ⟨lw_p0, List.forall_mem_cons.mpr ⟨lw_p1, List.forall_mem_cons.mpr ⟨lw_p2, List.forall_mem_cons.mpr ⟨lw_p3, List.forall_mem_cons.mpr ⟨lw_p4, List.forall_mem_cons.mpr ⟨lw_p5, List.forall_mem_cons.mpr ⟨lw_p6, List.forall_mem_cons.mpr ⟨lw_p7, List.forall_mem_cons.mpr ⟨lw_p8, List.forall_mem_cons.mpr ⟨lw_p9, List.forall_mem_cons.mpr ⟨lw_p10, List.forall_mem_cons.mpr ⟨lw_p11, List.forall_mem_cons.mpr ⟨lw_p12, List.forall_mem_cons.mpr ⟨lw_p13, List.forall_mem_cons.mpr ⟨lw_p14, List.forall_mem_cons.mpr ⟨lw_p15, fun _ h => absurd h List.not_mem_nil⟩⟩⟩⟩⟩⟩⟩⟩⟩⟩⟩⟩⟩⟩⟩⟩
theorem lw_p16 : lw_okq (⟨"WhichWord$Giver", "leastFor", "(IIII)I"⟩, 2) := ⟨⟨by decide +kernel, by decide +kernel⟩, List.mem_of_getElem? (i := 135) (by decide +kernel), List.mem_of_getElem? (i := 481) (by decide +kernel), List.mem_of_getElem? (i := 482) (by decide +kernel)⟩
theorem lw_p17 : lw_okq (⟨"WhichWord$Told", "isTwo", "(III)Z"⟩, 12) := ⟨⟨by decide +kernel, by decide +kernel⟩, List.mem_of_getElem? (i := 39) (by decide +kernel), List.mem_of_getElem? (i := 493) (by decide +kernel), List.mem_of_getElem? (i := 494) (by decide +kernel)⟩
theorem lw_p18 : lw_okq (⟨"WhichWord$Told", "fits", "(LWhichWord$Scene;II)Z"⟩, 12) := ⟨⟨by decide +kernel, by decide +kernel⟩, List.mem_of_getElem? (i := 39) (by decide +kernel), List.mem_of_getElem? (i := 527) (by decide +kernel), List.mem_of_getElem? (i := 528) (by decide +kernel)⟩
theorem lw_p19 : lw_okq (⟨"WhichWord$Chooser", "shownFor", "(I)I"⟩, 5) := ⟨⟨by decide +kernel, by decide +kernel⟩, List.mem_of_getElem? (i := 148) (by decide +kernel), List.mem_of_getElem? (i := 550) (by decide +kernel), List.mem_of_getElem? (i := 551) (by decide +kernel)⟩
theorem lw_p20 : lw_okq (⟨"WhichWord$Chooser", "countLeftHad", "(II)I"⟩, 5) := ⟨⟨by decide +kernel, by decide +kernel⟩, List.mem_of_getElem? (i := 148) (by decide +kernel), List.mem_of_getElem? (i := 556) (by decide +kernel), List.mem_of_getElem? (i := 557) (by decide +kernel)⟩
theorem lw_p21 : lw_okq (⟨"WhichWord$Chooser", "firstShownFor", "(I)I"⟩, 5) := ⟨⟨by decide +kernel, by decide +kernel⟩, List.mem_of_getElem? (i := 148) (by decide +kernel), List.mem_of_getElem? (i := 572) (by decide +kernel), List.mem_of_getElem? (i := 573) (by decide +kernel)⟩
theorem lw_p22 : lw_okq (⟨"WhichWord$Chooser", "listUnlike", "(II)V"⟩, 5) := ⟨⟨by decide +kernel, by decide +kernel⟩, List.mem_of_getElem? (i := 148) (by decide +kernel), List.mem_of_getElem? (i := 576) (by decide +kernel), List.mem_of_getElem? (i := 577) (by decide +kernel)⟩
theorem lw_p23 : lw_okq (⟨"WhichWord$Chooser", "addUnlike", "(I)V"⟩, 5) := ⟨⟨by decide +kernel, by decide +kernel⟩, List.mem_of_getElem? (i := 148) (by decide +kernel), List.mem_of_getElem? (i := 580) (by decide +kernel), List.mem_of_getElem? (i := 581) (by decide +kernel)⟩
theorem lw_p24 : lw_okq (⟨"WhichWord$Chooser", "listSets", "(II)V"⟩, 5) := ⟨⟨by decide +kernel, by decide +kernel⟩, List.mem_of_getElem? (i := 148) (by decide +kernel), List.mem_of_getElem? (i := 584) (by decide +kernel), List.mem_of_getElem? (i := 585) (by decide +kernel)⟩
theorem lw_p25 : lw_okq (⟨"WhichWord$Chooser", "addSets", "(IIII)V"⟩, 5) := ⟨⟨by decide +kernel, by decide +kernel⟩, List.mem_of_getElem? (i := 148) (by decide +kernel), List.mem_of_getElem? (i := 588) (by decide +kernel), List.mem_of_getElem? (i := 589) (by decide +kernel)⟩
theorem lw_p26 : lw_okq (⟨"WhichWord$Chooser", "partsAll", "(I)Z"⟩, 5) := ⟨⟨by decide +kernel, by decide +kernel⟩, List.mem_of_getElem? (i := 148) (by decide +kernel), List.mem_of_getElem? (i := 592) (by decide +kernel), List.mem_of_getElem? (i := 593) (by decide +kernel)⟩
theorem lw_p27 : lw_okq (⟨"WhichWord", "countRefusals", "(I)I"⟩, 8) := ⟨⟨by decide +kernel, by decide +kernel⟩, List.mem_of_getElem? (i := 14) (by decide +kernel), List.mem_of_getElem? (i := 656) (by decide +kernel), List.mem_of_getElem? (i := 657) (by decide +kernel)⟩
theorem lw_p28 : lw_okq (⟨"WhichWordModel", "refuse", "(I)I"⟩, 31) := ⟨⟨by decide +kernel, by decide +kernel⟩, List.mem_of_getElem? (i := 660) (by decide +kernel), List.mem_of_getElem? (i := 765) (by decide +kernel), List.mem_of_getElem? (i := 766) (by decide +kernel)⟩
theorem lw_p29 : lw_okq (⟨"WhichWordModel", "readScene", "(I)V"⟩, 31) := ⟨⟨by decide +kernel, by decide +kernel⟩, List.mem_of_getElem? (i := 660) (by decide +kernel), List.mem_of_getElem? (i := 774) (by decide +kernel), List.mem_of_getElem? (i := 775) (by decide +kernel)⟩
theorem lw_p30 : lw_okq (⟨"WhichWordModel", "readThing", "(I)V"⟩, 31) := ⟨⟨by decide +kernel, by decide +kernel⟩, List.mem_of_getElem? (i := 660) (by decide +kernel), List.mem_of_getElem? (i := 778) (by decide +kernel), List.mem_of_getElem? (i := 779) (by decide +kernel)⟩
theorem lw_p31 : lw_okq (⟨"WhichWordModel", "here", "()I"⟩, 31) := ⟨⟨by decide +kernel, by decide +kernel⟩, List.mem_of_getElem? (i := 660) (by decide +kernel), List.mem_of_getElem? (i := 782) (by decide +kernel), List.mem_of_getElem? (i := 783) (by decide +kernel)⟩
def lw_privs_2 : List (MethodName × Nat) := [(⟨"WhichWord$Giver", "leastFor", "(IIII)I"⟩, 2), (⟨"WhichWord$Told", "isTwo", "(III)Z"⟩, 12), (⟨"WhichWord$Told", "fits", "(LWhichWord$Scene;II)Z"⟩, 12), (⟨"WhichWord$Chooser", "shownFor", "(I)I"⟩, 5), (⟨"WhichWord$Chooser", "countLeftHad", "(II)I"⟩, 5), (⟨"WhichWord$Chooser", "firstShownFor", "(I)I"⟩, 5), (⟨"WhichWord$Chooser", "listUnlike", "(II)V"⟩, 5), (⟨"WhichWord$Chooser", "addUnlike", "(I)V"⟩, 5), (⟨"WhichWord$Chooser", "listSets", "(II)V"⟩, 5), (⟨"WhichWord$Chooser", "addSets", "(IIII)V"⟩, 5), (⟨"WhichWord$Chooser", "partsAll", "(I)Z"⟩, 5), (⟨"WhichWord", "countRefusals", "(I)I"⟩, 8), (⟨"WhichWordModel", "refuse", "(I)I"⟩, 31), (⟨"WhichWordModel", "readScene", "(I)V"⟩, 31), (⟨"WhichWordModel", "readThing", "(I)V"⟩, 31), (⟨"WhichWordModel", "here", "()I"⟩, 31)]
theorem lw_r2 : ∀ q ∈ lw_privs_2, lw_okq q := List.forall_mem_cons.mpr ⟨lw_p16, List.forall_mem_cons.mpr ⟨lw_p17, List.forall_mem_cons.mpr ⟨lw_p18, List.forall_mem_cons.mpr ⟨lw_p19, List.forall_mem_cons.mpr ⟨lw_p20, List.forall_mem_cons.mpr ⟨lw_p21, List.forall_mem_cons.mpr ⟨lw_p22, List.forall_mem_cons.mpr ⟨lw_p23, List.forall_mem_cons.mpr ⟨lw_p24, List.forall_mem_cons.mpr ⟨lw_p25, List.forall_mem_cons.mpr ⟨lw_p26, List.forall_mem_cons.mpr ⟨lw_p27, List.forall_mem_cons.mpr ⟨lw_p28, List.forall_mem_cons.mpr ⟨lw_p29, List.forall_mem_cons.mpr ⟨lw_p30, List.forall_mem_cons.mpr ⟨lw_p31, fun _ h => absurd h List.not_mem_nil⟩⟩⟩⟩⟩⟩⟩⟩⟩⟩⟩⟩⟩⟩⟩⟩
theorem lw_p32 : lw_okq (⟨"WhichWordModel", "readDoing", "(I)V"⟩, 31) := ⟨⟨by decide +kernel, by decide +kernel⟩, List.mem_of_getElem? (i := 660) (by decide +kernel), List.mem_of_getElem? (i := 790) (by decide +kernel), List.mem_of_getElem? (i := 791) (by decide +kernel)⟩
theorem lw_p33 : lw_okq (⟨"WhichWordModel", "readPlace", "(II)I"⟩, 31) := ⟨⟨by decide +kernel, by decide +kernel⟩, List.mem_of_getElem? (i := 660) (by decide +kernel), List.mem_of_getElem? (i := 794) (by decide +kernel), List.mem_of_getElem? (i := 795) (by decide +kernel)⟩
theorem lw_p34 : lw_okq (⟨"WhichWordModel", "findHas", "(I)V"⟩, 31) := ⟨⟨by decide +kernel, by decide +kernel⟩, List.mem_of_getElem? (i := 660) (by decide +kernel), List.mem_of_getElem? (i := 799) (by decide +kernel), List.mem_of_getElem? (i := 800) (by decide +kernel)⟩
theorem lw_p35 : lw_okq (⟨"WhichWordModel", "manyWith", "(II)I"⟩, 31) := ⟨⟨by decide +kernel, by decide +kernel⟩, List.mem_of_getElem? (i := 660) (by decide +kernel), List.mem_of_getElem? (i := 803) (by decide +kernel), List.mem_of_getElem? (i := 804) (by decide +kernel)⟩
theorem lw_p36 : lw_okq (⟨"WhichWordModel", "hasMark", "(III)Z"⟩, 31) := ⟨⟨by decide +kernel, by decide +kernel⟩, List.mem_of_getElem? (i := 660) (by decide +kernel), List.mem_of_getElem? (i := 807) (by decide +kernel), List.mem_of_getElem? (i := 808) (by decide +kernel)⟩
theorem lw_p37 : lw_okq (⟨"WhichWordModel", "isScene", "(I)Z"⟩, 31) := ⟨⟨by decide +kernel, by decide +kernel⟩, List.mem_of_getElem? (i := 660) (by decide +kernel), List.mem_of_getElem? (i := 819) (by decide +kernel), List.mem_of_getElem? (i := 820) (by decide +kernel)⟩
theorem lw_p38 : lw_okq (⟨"WhichWordModel", "saidIn", "(I)I"⟩, 31) := ⟨⟨by decide +kernel, by decide +kernel⟩, List.mem_of_getElem? (i := 660) (by decide +kernel), List.mem_of_getElem? (i := 839) (by decide +kernel), List.mem_of_getElem? (i := 840) (by decide +kernel)⟩
theorem lw_p39 : lw_okq (⟨"WhichWordModel", "isLeft", "(III)Z"⟩, 31) := ⟨⟨by decide +kernel, by decide +kernel⟩, List.mem_of_getElem? (i := 660) (by decide +kernel), List.mem_of_getElem? (i := 867) (by decide +kernel), List.mem_of_getElem? (i := 868) (by decide +kernel)⟩
theorem lw_p40 : lw_okq (⟨"WhichWordModel", "likelihoodOf", "(II)J"⟩, 31) := ⟨⟨by decide +kernel, by decide +kernel⟩, List.mem_of_getElem? (i := 660) (by decide +kernel), List.mem_of_getElem? (i := 887) (by decide +kernel), List.mem_of_getElem? (i := 888) (by decide +kernel)⟩
theorem lw_p41 : lw_okq (⟨"WhichWordModel", "isSet", "(I)Z"⟩, 31) := ⟨⟨by decide +kernel, by decide +kernel⟩, List.mem_of_getElem? (i := 660) (by decide +kernel), List.mem_of_getElem? (i := 907) (by decide +kernel), List.mem_of_getElem? (i := 908) (by decide +kernel)⟩
theorem lw_p42 : lw_okq (⟨"WhichWordModel", "findWords", "(I)V"⟩, 31) := ⟨⟨by decide +kernel, by decide +kernel⟩, List.mem_of_getElem? (i := 660) (by decide +kernel), List.mem_of_getElem? (i := 915) (by decide +kernel), List.mem_of_getElem? (i := 916) (by decide +kernel)⟩
theorem lw_p43 : lw_okq (⟨"WhichWordModel", "commonTo", "(I)I"⟩, 31) := ⟨⟨by decide +kernel, by decide +kernel⟩, List.mem_of_getElem? (i := 660) (by decide +kernel), List.mem_of_getElem? (i := 919) (by decide +kernel), List.mem_of_getElem? (i := 920) (by decide +kernel)⟩
theorem lw_p44 : lw_okq (⟨"WhichWordModel", "findFirst", "(I)Z"⟩, 31) := ⟨⟨by decide +kernel, by decide +kernel⟩, List.mem_of_getElem? (i := 660) (by decide +kernel), List.mem_of_getElem? (i := 927) (by decide +kernel), List.mem_of_getElem? (i := 928) (by decide +kernel)⟩
theorem lw_p45 : lw_okq (⟨"WhichWordModel", "canHave", "(I)Z"⟩, 31) := ⟨⟨by decide +kernel, by decide +kernel⟩, List.mem_of_getElem? (i := 660) (by decide +kernel), List.mem_of_getElem? (i := 931) (by decide +kernel), List.mem_of_getElem? (i := 932) (by decide +kernel)⟩
theorem lw_p46 : lw_okq (⟨"WhichWordModel", "isOneLeft", "(I)Z"⟩, 31) := ⟨⟨by decide +kernel, by decide +kernel⟩, List.mem_of_getElem? (i := 660) (by decide +kernel), List.mem_of_getElem? (i := 935) (by decide +kernel), List.mem_of_getElem? (i := 936) (by decide +kernel)⟩
theorem lw_p47 : lw_okq (⟨"WhichWordModel", "fits", "(II)Z"⟩, 31) := ⟨⟨by decide +kernel, by decide +kernel⟩, List.mem_of_getElem? (i := 660) (by decide +kernel), List.mem_of_getElem? (i := 955) (by decide +kernel), List.mem_of_getElem? (i := 956) (by decide +kernel)⟩
def lw_privs_3 : List (MethodName × Nat) := [(⟨"WhichWordModel", "readDoing", "(I)V"⟩, 31), (⟨"WhichWordModel", "readPlace", "(II)I"⟩, 31), (⟨"WhichWordModel", "findHas", "(I)V"⟩, 31), (⟨"WhichWordModel", "manyWith", "(II)I"⟩, 31), (⟨"WhichWordModel", "hasMark", "(III)Z"⟩, 31), (⟨"WhichWordModel", "isScene", "(I)Z"⟩, 31), (⟨"WhichWordModel", "saidIn", "(I)I"⟩, 31), (⟨"WhichWordModel", "isLeft", "(III)Z"⟩, 31), (⟨"WhichWordModel", "likelihoodOf", "(II)J"⟩, 31), (⟨"WhichWordModel", "isSet", "(I)Z"⟩, 31), (⟨"WhichWordModel", "findWords", "(I)V"⟩, 31), (⟨"WhichWordModel", "commonTo", "(I)I"⟩, 31), (⟨"WhichWordModel", "findFirst", "(I)Z"⟩, 31), (⟨"WhichWordModel", "canHave", "(I)Z"⟩, 31), (⟨"WhichWordModel", "isOneLeft", "(I)Z"⟩, 31), (⟨"WhichWordModel", "fits", "(II)Z"⟩, 31)]
theorem lw_r3 : ∀ q ∈ lw_privs_3, lw_okq q := List.forall_mem_cons.mpr ⟨lw_p32, List.forall_mem_cons.mpr ⟨lw_p33, List.forall_mem_cons.mpr ⟨lw_p34, List.forall_mem_cons.mpr ⟨lw_p35, List.forall_mem_cons.mpr ⟨lw_p36, List.forall_mem_cons.mpr ⟨lw_p37, List.forall_mem_cons.mpr ⟨lw_p38, List.forall_mem_cons.mpr ⟨lw_p39, List.forall_mem_cons.mpr ⟨lw_p40, List.forall_mem_cons.mpr ⟨lw_p41, List.forall_mem_cons.mpr ⟨lw_p42, List.forall_mem_cons.mpr ⟨lw_p43, List.forall_mem_cons.mpr ⟨lw_p44, List.forall_mem_cons.mpr ⟨lw_p45, List.forall_mem_cons.mpr ⟨lw_p46, List.forall_mem_cons.mpr ⟨lw_p47, fun _ h => absurd h List.not_mem_nil⟩⟩⟩⟩⟩⟩⟩⟩⟩⟩⟩⟩⟩⟩⟩⟩
theorem lw_p48 : lw_okq (⟨"WhichWordModel", "isDone", "(IIII)Z"⟩, 31) := ⟨⟨by decide +kernel, by decide +kernel⟩, List.mem_of_getElem? (i := 660) (by decide +kernel), List.mem_of_getElem? (i := 959) (by decide +kernel), List.mem_of_getElem? (i := 960) (by decide +kernel)⟩
theorem lw_p49 : lw_okq (⟨"WhichWordModel", "findShown", "(I)V"⟩, 31) := ⟨⟨by decide +kernel, by decide +kernel⟩, List.mem_of_getElem? (i := 660) (by decide +kernel), List.mem_of_getElem? (i := 973) (by decide +kernel), List.mem_of_getElem? (i := 974) (by decide +kernel)⟩
theorem lw_p50 : lw_okq (⟨"WhichWordModel", "findUnlike", "(I)V"⟩, 31) := ⟨⟨by decide +kernel, by decide +kernel⟩, List.mem_of_getElem? (i := 660) (by decide +kernel), List.mem_of_getElem? (i := 977) (by decide +kernel), List.mem_of_getElem? (i := 978) (by decide +kernel)⟩
theorem lw_p51 : lw_okq (⟨"WhichWordModel", "partsAll", "(I)Z"⟩, 31) := ⟨⟨by decide +kernel, by decide +kernel⟩, List.mem_of_getElem? (i := 660) (by decide +kernel), List.mem_of_getElem? (i := 981) (by decide +kernel), List.mem_of_getElem? (i := 982) (by decide +kernel)⟩
theorem lw_p52 : lw_okq (⟨"WhichWordModel", "scenesOf", "(I)I"⟩, 31) := ⟨⟨by decide +kernel, by decide +kernel⟩, List.mem_of_getElem? (i := 660) (by decide +kernel), List.mem_of_getElem? (i := 985) (by decide +kernel), List.mem_of_getElem? (i := 986) (by decide +kernel)⟩
theorem lw_p53 : lw_okq (⟨"WhichWordModel", "leftBy", "(II)I"⟩, 31) := ⟨⟨by decide +kernel, by decide +kernel⟩, List.mem_of_getElem? (i := 660) (by decide +kernel), List.mem_of_getElem? (i := 993) (by decide +kernel), List.mem_of_getElem? (i := 994) (by decide +kernel)⟩
theorem lw_p54 : lw_okq (⟨"WhichWordModel", "partOf", "(II)I"⟩, 31) := ⟨⟨by decide +kernel, by decide +kernel⟩, List.mem_of_getElem? (i := 660) (by decide +kernel), List.mem_of_getElem? (i := 1001) (by decide +kernel), List.mem_of_getElem? (i := 1002) (by decide +kernel)⟩
theorem lw_p55 : lw_okq (⟨"WhichWordModel", "moveAll", "()V"⟩, 31) := ⟨⟨by decide +kernel, by decide +kernel⟩, List.mem_of_getElem? (i := 660) (by decide +kernel), List.mem_of_getElem? (i := 1017) (by decide +kernel), List.mem_of_getElem? (i := 1018) (by decide +kernel)⟩
theorem lw_p56 : lw_okq (⟨"WhichWordModel", "move", "(I)I"⟩, 31) := ⟨⟨by decide +kernel, by decide +kernel⟩, List.mem_of_getElem? (i := 660) (by decide +kernel), List.mem_of_getElem? (i := 1021) (by decide +kernel), List.mem_of_getElem? (i := 1022) (by decide +kernel)⟩
def lw_privs_4 : List (MethodName × Nat) := [(⟨"WhichWordModel", "isDone", "(IIII)Z"⟩, 31), (⟨"WhichWordModel", "findShown", "(I)V"⟩, 31), (⟨"WhichWordModel", "findUnlike", "(I)V"⟩, 31), (⟨"WhichWordModel", "partsAll", "(I)Z"⟩, 31), (⟨"WhichWordModel", "scenesOf", "(I)I"⟩, 31), (⟨"WhichWordModel", "leftBy", "(II)I"⟩, 31), (⟨"WhichWordModel", "partOf", "(II)I"⟩, 31), (⟨"WhichWordModel", "moveAll", "()V"⟩, 31), (⟨"WhichWordModel", "move", "(I)I"⟩, 31)]
theorem lw_r4 : ∀ q ∈ lw_privs_4, lw_okq q := List.forall_mem_cons.mpr ⟨lw_p48, List.forall_mem_cons.mpr ⟨lw_p49, List.forall_mem_cons.mpr ⟨lw_p50, List.forall_mem_cons.mpr ⟨lw_p51, List.forall_mem_cons.mpr ⟨lw_p52, List.forall_mem_cons.mpr ⟨lw_p53, List.forall_mem_cons.mpr ⟨lw_p54, List.forall_mem_cons.mpr ⟨lw_p55, List.forall_mem_cons.mpr ⟨lw_p56, fun _ h => absurd h List.not_mem_nil⟩⟩⟩⟩⟩⟩⟩⟩⟩
def lw_privs : List (MethodName × Nat) := lw_privs_1 ++ (lw_privs_2 ++ (lw_privs_3 ++ (lw_privs_4)))
def lw_tbl : List Cond := k2_sels lw_privs ++ tables_1
theorem lw_privs_ok : ∀ q ∈ lw_privs, lw_okq q := by
  show ∀ q ∈ lw_privs_1 ++ (lw_privs_2 ++ (lw_privs_3 ++ (lw_privs_4))), lw_okq q
  exact List.forall_mem_append.mpr ⟨lw_r1, List.forall_mem_append.mpr ⟨lw_r2, List.forall_mem_append.mpr ⟨lw_r3, lw_r4⟩⟩⟩

def RX0 : String := "WhichWord$Chooser"
def TX0 : u_T := fun k => match k with
  | 0 => ("WhichWord$Chooser", "told", "LWhichWord$Told;", true)
  | 1 => ("WhichWord$Chooser", "unlike", "[I", true)
  | 2 => ("WhichWord$Chooser", "unlikeCount", "I", false)
  | 3 => ("WhichWord$Chooser", "sets", "[I", true)
  | _ => ("WhichWord$Chooser", "setCount", "I", false)
def tyX0 : Nat → FieldType := fun k => match k with
  | 0 => .object "WhichWord$Told"
  | 1 => .array .int
  | 2 => .int
  | 3 => .array .int
  | _ => .int
abbrev wsX00 : List Cond := u_ws RX0 TX0 5
theorem nmX0 : ∀ a, a < 5 → ∀ b, b < 5 → a ≠ b → (TX0 a).2.1 ≠ (TX0 b).2.1 := by decide +kernel
theorem tyX0_ok : ∀ k, k < 5 → parseFieldDescriptor (TX0 k).2.2.1 = some (tyX0 k) := by decide +kernel
abbrev cX0_init : ByteArray := prog_2_method_1_code
def yX0_init : MethodName := ⟨RX0, "<init>", "(LWhichWord$Told;)V"⟩
abbrev cX0_evenest : ByteArray := prog_2_method_2_code
def yX0_evenest : MethodName := ⟨RX0, "evenest", "(I)I"⟩
abbrev cX0_fewestParting : ByteArray := prog_2_method_3_code
def yX0_fewestParting : MethodName := ⟨RX0, "fewestParting", "(I)I"⟩
abbrev cX0_mostTelling : ByteArray := prog_2_method_4_code
def yX0_mostTelling : MethodName := ⟨RX0, "mostTelling", "(III)I"⟩
abbrev cX0_shownFor : ByteArray := prog_2_method_5_code
def yX0_shownFor : MethodName := ⟨RX0, "shownFor", "(I)I"⟩
abbrev cX0_firstShownFor : ByteArray := prog_2_method_6_code
def yX0_firstShownFor : MethodName := ⟨RX0, "firstShownFor", "(I)I"⟩
abbrev cX0_countLeftHad : ByteArray := prog_2_method_7_code
def yX0_countLeftHad : MethodName := ⟨RX0, "countLeftHad", "(II)I"⟩
abbrev cX0_listUnlike : ByteArray := prog_2_method_8_code
def yX0_listUnlike : MethodName := ⟨RX0, "listUnlike", "(II)V"⟩
abbrev cX0_addUnlike : ByteArray := prog_2_method_9_code
def yX0_addUnlike : MethodName := ⟨RX0, "addUnlike", "(I)V"⟩
abbrev cX0_partsAll : ByteArray := prog_2_method_10_code
def yX0_partsAll : MethodName := ⟨RX0, "partsAll", "(I)Z"⟩
abbrev cX0_listSets : ByteArray := prog_2_method_11_code
def yX0_listSets : MethodName := ⟨RX0, "listSets", "(II)V"⟩
abbrev cX0_addSets : ByteArray := prog_2_method_12_code
def yX0_addSets : MethodName := ⟨RX0, "addSets", "(IIII)V"⟩
def RX1 : String := "WhichWord$Giver"
def TX1 : u_T := fun k => match k with
  | 0 => ("WhichWord$Giver", "told", "LWhichWord$Told;", true)
  | _ => ("WhichWord$Giver", "leftCounts", "[I", true)
def tyX1 : Nat → FieldType := fun k => match k with
  | 0 => .object "WhichWord$Told"
  | _ => .array .int
abbrev wsX10 : List Cond := u_ws RX1 TX1 2
theorem nmX1 : ∀ a, a < 2 → ∀ b, b < 2 → a ≠ b → (TX1 a).2.1 ≠ (TX1 b).2.1 := by decide +kernel
theorem tyX1_ok : ∀ k, k < 2 → parseFieldDescriptor (TX1 k).2.2.1 = some (tyX1 k) := by decide +kernel
abbrev cX1_init : ByteArray := prog_3_method_1_code
def yX1_init : MethodName := ⟨RX1, "<init>", "(LWhichWord$Told;)V"⟩
abbrev cX1_countWays : ByteArray := prog_3_method_2_code
def yX1_countWays : MethodName := ⟨RX1, "countWays", "(I)I"⟩
abbrev cX1_firstFor : ByteArray := prog_3_method_3_code
def yX1_firstFor : MethodName := ⟨RX1, "firstFor", "(II)I"⟩
abbrev cX1_countLefts : ByteArray := prog_3_method_4_code
def yX1_countLefts : MethodName := ⟨RX1, "countLefts", "(I)V"⟩
abbrev cX1_leastFor : ByteArray := prog_3_method_5_code
def yX1_leastFor : MethodName := ⟨RX1, "leastFor", "(IIII)I"⟩
abbrev cX1_ways : ByteArray := prog_3_method_6_code
def yX1_ways : MethodName := ⟨RX1, "ways", "(III)I"⟩
abbrev cX1_lost : ByteArray := prog_3_method_7_code
def yX1_lost : MethodName := ⟨RX1, "lost", "(II)I"⟩
def RX2 : String := "WhichWord$Likely"
def TX2 : u_T := fun k => match k with
  | _ => ("WhichWord$Likely", "told", "LWhichWord$Told;", true)
def tyX2 : Nat → FieldType := fun k => match k with
  | _ => .object "WhichWord$Told"
abbrev wsX20 : List Cond := u_ws RX2 TX2 1
theorem nmX2 : ∀ a, a < 1 → ∀ b, b < 1 → a ≠ b → (TX2 a).2.1 ≠ (TX2 b).2.1 := by decide +kernel
theorem tyX2_ok : ∀ k, k < 1 → parseFieldDescriptor (TX2 k).2.2.1 = some (tyX2 k) := by decide +kernel
abbrev cX2_init : ByteArray := prog_4_method_1_code
def yX2_init : MethodName := ⟨RX2, "<init>", "(LWhichWord$Told;)V"⟩
abbrev cX2_of : ByteArray := prog_4_method_2_code
def yX2_of : MethodName := ⟨RX2, "of", "(II)J"⟩
abbrev cX2_latestSaid : ByteArray := prog_4_method_3_code
def yX2_latestSaid : MethodName := ⟨RX2, "latestSaid", "(I)I"⟩
abbrev cX2_ofAll : ByteArray := prog_4_method_4_code
def yX2_ofAll : MethodName := ⟨RX2, "ofAll", "(I)J"⟩
abbrev cX2_aboveLine : ByteArray := prog_4_method_5_code
def yX2_aboveLine : MethodName := ⟨RX2, "aboveLine", "(II)J"⟩
abbrev cX2_belowLine : ByteArray := prog_4_method_6_code
def yX2_belowLine : MethodName := ⟨RX2, "belowLine", "(II)J"⟩
abbrev cX2_commonDivisor : ByteArray := prog_4_method_7_code
def yX2_commonDivisor : MethodName := ⟨RX2, "commonDivisor", "(JJ)J"⟩
abbrev cX2_greatest : ByteArray := prog_4_method_8_code
def yX2_greatest : MethodName := ⟨RX2, "greatest", "(I)I"⟩
def RX3 : String := "WhichWord$Scene"
def TX3 : u_T := fun k => match k with
  | 0 => ("WhichWord$Scene", "things", "[I", true)
  | 1 => ("WhichWord$Scene", "doings", "[I", true)
  | 2 => ("WhichWord$Scene", "thingCount", "I", false)
  | _ => ("WhichWord$Scene", "doingCount", "I", false)
def tyX3 : Nat → FieldType := fun k => match k with
  | 0 => .array .int
  | 1 => .array .int
  | 2 => .int
  | _ => .int
abbrev wsX30 : List Cond := u_ws RX3 TX3 4
theorem nmX3 : ∀ a, a < 4 → ∀ b, b < 4 → a ≠ b → (TX3 a).2.1 ≠ (TX3 b).2.1 := by decide +kernel
theorem tyX3_ok : ∀ k, k < 4 → parseFieldDescriptor (TX3 k).2.2.1 = some (tyX3 k) := by decide +kernel
abbrev cX3_init : ByteArray := prog_5_method_1_code
def yX3_init : MethodName := ⟨RX3, "<init>", "()V"⟩
abbrev cX3_addThing : ByteArray := prog_5_method_2_code
def yX3_addThing : MethodName := ⟨RX3, "addThing", "(I)V"⟩
abbrev cX3_addDoing : ByteArray := prog_5_method_3_code
def yX3_addDoing : MethodName := ⟨RX3, "addDoing", "(I)V"⟩
abbrev cX3_thingAt : ByteArray := prog_5_method_4_code
def yX3_thingAt : MethodName := ⟨RX3, "thingAt", "(I)I"⟩
abbrev cX3_doingAt : ByteArray := prog_5_method_5_code
def yX3_doingAt : MethodName := ⟨RX3, "doingAt", "(I)I"⟩
abbrev cX3_holds : ByteArray := prog_5_method_6_code
def yX3_holds : MethodName := ⟨RX3, "holds", "(I)Z"⟩
abbrev cX3_holdsJoined : ByteArray := prog_5_method_7_code
def yX3_holdsJoined : MethodName := ⟨RX3, "holdsJoined", "(I)Z"⟩
abbrev cX3_countThings : ByteArray := prog_5_method_8_code
def yX3_countThings : MethodName := ⟨RX3, "countThings", "(II)I"⟩
abbrev cX3_isDone : ByteArray := prog_5_method_9_code
def yX3_isDone : MethodName := ⟨RX3, "isDone", "(III)Z"⟩
def RX4 : String := "WhichWord$Text"
def TX4 : u_T := fun k => match k with
  | 0 => ("WhichWord$Text", "bytes", "[I", true)
  | 1 => ("WhichWord$Text", "size", "I", false)
  | _ => ("WhichWord$Text", "place", "I", false)
def tyX4 : Nat → FieldType := fun k => match k with
  | 0 => .array .int
  | 1 => .int
  | _ => .int
abbrev wsX40 : List Cond := u_ws RX4 TX4 3
theorem nmX4 : ∀ a, a < 3 → ∀ b, b < 3 → a ≠ b → (TX4 a).2.1 ≠ (TX4 b).2.1 := by decide +kernel
theorem tyX4_ok : ∀ k, k < 3 → parseFieldDescriptor (TX4 k).2.2.1 = some (tyX4 k) := by decide +kernel
abbrev cX4_init : ByteArray := prog_6_method_1_code
def yX4_init : MethodName := ⟨RX4, "<init>", "()V"⟩
abbrev cX4_length : ByteArray := prog_6_method_2_code
def yX4_length : MethodName := ⟨RX4, "length", "()I"⟩
abbrev cX4_room : ByteArray := prog_6_method_3_code
def yX4_room : MethodName := ⟨RX4, "room", "()I"⟩
abbrev cX4_place : ByteArray := prog_6_method_4_code
def yX4_place : MethodName := ⟨RX4, "place", "()I"⟩
abbrev cX4_empty : ByteArray := prog_6_method_5_code
def yX4_empty : MethodName := ⟨RX4, "empty", "()V"⟩
abbrev cX4_append : ByteArray := prog_6_method_6_code
def yX4_append : MethodName := ⟨RX4, "append", "(IJ)I"⟩
abbrev cX4_readScene : ByteArray := prog_6_method_7_code
def yX4_readScene : MethodName := ⟨RX4, "readScene", "(LWhichWord$Scene;)Z"⟩
abbrev cX4_readThings : ByteArray := prog_6_method_8_code
def yX4_readThings : MethodName := ⟨RX4, "readThings", "(LWhichWord$Scene;)Z"⟩
abbrev cX4_readThing : ByteArray := prog_6_method_9_code
def yX4_readThing : MethodName := ⟨RX4, "readThing", "(LWhichWord$Scene;)Z"⟩
abbrev cX4_readDoings : ByteArray := prog_6_method_10_code
def yX4_readDoings : MethodName := ⟨RX4, "readDoings", "(LWhichWord$Scene;)Z"⟩
abbrev cX4_readDoing : ByteArray := prog_6_method_11_code
def yX4_readDoing : MethodName := ⟨RX4, "readDoing", "(LWhichWord$Scene;)Z"⟩
abbrev cX4_take : ByteArray := prog_6_method_12_code
def yX4_take : MethodName := ⟨RX4, "take", "(I)Z"⟩
abbrev cX4_takeOneOf : ByteArray := prog_6_method_13_code
def yX4_takeOneOf : MethodName := ⟨RX4, "takeOneOf", "(III)I"⟩
def RX5 : String := "WhichWord$Told"
def TX5 : u_T := fun k => match k with
  | 0 => ("WhichWord$Told", "emptyScene", "LWhichWord$Scene;", true)
  | 1 => ("WhichWord$Told", "scenes", "[LWhichWord$Scene;", true)
  | 2 => ("WhichWord$Told", "sceneCount", "I", false)
  | 3 => ("WhichWord$Told", "having", "[I", true)
  | 4 => ("WhichWord$Told", "saidIn", "[I", true)
  | 5 => ("WhichWord$Told", "weights", "[I", true)
  | 6 => ("WhichWord$Told", "hit", "I", false)
  | 7 => ("WhichWord$Told", "miss", "I", false)
  | 8 => ("WhichWord$Told", "given", "[I", true)
  | 9 => ("WhichWord$Told", "sayingScenes", "[I", true)
  | 10 => ("WhichWord$Told", "sayingWords", "[I", true)
  | _ => ("WhichWord$Told", "sayingCount", "I", false)
def tyX5 : Nat → FieldType := fun k => match k with
  | 0 => .object "WhichWord$Scene"
  | 1 => .array (.object "WhichWord$Scene")
  | 2 => .int
  | 3 => .array .int
  | 4 => .array .int
  | 5 => .array .int
  | 6 => .int
  | 7 => .int
  | 8 => .array .int
  | 9 => .array .int
  | 10 => .array .int
  | _ => .int
abbrev wsX50 : List Cond := u_ws RX5 TX5 12
theorem nmX5 : ∀ a, a < 12 → ∀ b, b < 12 → a ≠ b → (TX5 a).2.1 ≠ (TX5 b).2.1 := by decide +kernel
theorem tyX5_ok : ∀ k, k < 12 → parseFieldDescriptor (TX5 k).2.2.1 = some (tyX5 k) := by decide +kernel
abbrev cX5_init : ByteArray := prog_7_method_1_code
def yX5_init : MethodName := ⟨RX5, "<init>", "()V"⟩
abbrev cX5_copyFrom : ByteArray := prog_7_method_2_code
def yX5_copyFrom : MethodName := ⟨RX5, "copyFrom", "(LWhichWord$Told;)V"⟩
abbrev cX5_addScene : ByteArray := prog_7_method_3_code
def yX5_addScene : MethodName := ⟨RX5, "addScene", "(LWhichWord$Scene;)I"⟩
abbrev cX5_dropLatest : ByteArray := prog_7_method_4_code
def yX5_dropLatest : MethodName := ⟨RX5, "dropLatest", "()I"⟩
abbrev cX5_dropSayingsOf : ByteArray := prog_7_method_5_code
def yX5_dropSayingsOf : MethodName := ⟨RX5, "dropSayingsOf", "(I)V"⟩
abbrev cX5_tellSaid : ByteArray := prog_7_method_6_code
def yX5_tellSaid : MethodName := ⟨RX5, "tellSaid", "(IIZ)Z"⟩
abbrev cX5_addSaying : ByteArray := prog_7_method_7_code
def yX5_addSaying : MethodName := ⟨RX5, "addSaying", "(II)I"⟩
abbrev cX5_countThings : ByteArray := prog_7_method_8_code
def yX5_countThings : MethodName := ⟨RX5, "countThings", "()I"⟩
abbrev cX5_countDoings : ByteArray := prog_7_method_9_code
def yX5_countDoings : MethodName := ⟨RX5, "countDoings", "()I"⟩
abbrev cX5_countSaid : ByteArray := prog_7_method_10_code
def yX5_countSaid : MethodName := ⟨RX5, "countSaid", "()I"⟩
abbrev cX5_isLeft : ByteArray := prog_7_method_11_code
def yX5_isLeft : MethodName := ⟨RX5, "isLeft", "(III)Z"⟩
abbrev cX5_countLeft : ByteArray := prog_7_method_12_code
def yX5_countLeft : MethodName := ⟨RX5, "countLeft", "(II)I"⟩
abbrev cX5_leftAt : ByteArray := prog_7_method_13_code
def yX5_leftAt : MethodName := ⟨RX5, "leftAt", "(III)I"⟩
abbrev cX5_heaviestLeft : ByteArray := prog_7_method_14_code
def yX5_heaviestLeft : MethodName := ⟨RX5, "heaviestLeft", "(II)I"⟩
abbrev cX5_isTwo : ByteArray := prog_7_method_15_code
def yX5_isTwo : MethodName := ⟨RX5, "isTwo", "(III)Z"⟩
abbrev cX5_countTwos : ByteArray := prog_7_method_16_code
def yX5_countTwos : MethodName := ⟨RX5, "countTwos", "(I)I"⟩
abbrev cX5_firstTwo : ByteArray := prog_7_method_17_code
def yX5_firstTwo : MethodName := ⟨RX5, "firstTwo", "(I)I"⟩
abbrev cX5_countUnparted : ByteArray := prog_7_method_18_code
def yX5_countUnparted : MethodName := ⟨RX5, "countUnparted", "()I"⟩
abbrev cX5_fittingOrders : ByteArray := prog_7_method_19_code
def yX5_fittingOrders : MethodName := ⟨RX5, "fittingOrders", "()I"⟩
abbrev cX5_fits : ByteArray := prog_7_method_20_code
def yX5_fits : MethodName := ⟨RX5, "fits", "(LWhichWord$Scene;II)Z"⟩
abbrev cX5_isMark : ByteArray := prog_7_method_21_code
def yX5_isMark : MethodName := ⟨RX5, "isMark", "(I)Z"⟩
def RX6 : String := "WhichWord"
def TX6 : u_T := fun k => match k with
  | 0 => ("WhichWord", "text", "LWhichWord$Text;", true)
  | 1 => ("WhichWord", "told", "LWhichWord$Told;", true)
  | 2 => ("WhichWord", "kept", "LWhichWord$Told;", true)
  | 3 => ("WhichWord", "isKept", "Z", false)
  | 4 => ("WhichWord", "refusals", "[I", true)
  | 5 => ("WhichWord", "likely", "LWhichWord$Likely;", true)
  | 6 => ("WhichWord", "giver", "LWhichWord$Giver;", true)
  | _ => ("WhichWord", "chooser", "LWhichWord$Chooser;", true)
def tyX6 : Nat → FieldType := fun k => match k with
  | 0 => .object "WhichWord$Text"
  | 1 => .object "WhichWord$Told"
  | 2 => .object "WhichWord$Told"
  | 3 => .boolean
  | 4 => .array .int
  | 5 => .object "WhichWord$Likely"
  | 6 => .object "WhichWord$Giver"
  | _ => .object "WhichWord$Chooser"
abbrev wsX60 : List Cond := u_ws RX6 TX6 8
theorem nmX6 : ∀ a, a < 8 → ∀ b, b < 8 → a ≠ b → (TX6 a).2.1 ≠ (TX6 b).2.1 := by decide +kernel
theorem tyX6_ok : ∀ k, k < 8 → parseFieldDescriptor (TX6 k).2.2.1 = some (tyX6 k) := by decide +kernel
abbrev cX6_init : ByteArray := prog_1_method_1_code
def yX6_init : MethodName := ⟨RX6, "<init>", "()V"⟩
abbrev cX6_feed : ByteArray := prog_1_method_2_code
def yX6_feed : MethodName := ⟨RX6, "feed", "(IJ)I"⟩
abbrev cX6_scene : ByteArray := prog_1_method_3_code
def yX6_scene : MethodName := ⟨RX6, "scene", "()I"⟩
abbrev cX6_takeBack : ByteArray := prog_1_method_4_code
def yX6_takeBack : MethodName := ⟨RX6, "takeBack", "()I"⟩
abbrev cX6_thing : ByteArray := prog_1_method_5_code
def yX6_thing : MethodName := ⟨RX6, "thing", "(II)I"⟩
abbrev cX6_doing : ByteArray := prog_1_method_6_code
def yX6_doing : MethodName := ⟨RX6, "doing", "(II)I"⟩
abbrev cX6_say : ByteArray := prog_1_method_7_code
def yX6_say : MethodName := ⟨RX6, "say", "(IIZ)I"⟩
abbrev cX6_said : ByteArray := prog_1_method_8_code
def yX6_said : MethodName := ⟨RX6, "said", "(I)I"⟩
abbrev cX6_kind : ByteArray := prog_1_method_9_code
def yX6_kind : MethodName := ⟨RX6, "kind", "(I)I"⟩
abbrev cX6_weight : ByteArray := prog_1_method_10_code
def yX6_weight : MethodName := ⟨RX6, "weight", "(II)I"⟩
abbrev cX6_has : ByteArray := prog_1_method_11_code
def yX6_has : MethodName := ⟨RX6, "has", "(II)I"⟩
abbrev cX6_left : ByteArray := prog_1_method_12_code
def yX6_left : MethodName := ⟨RX6, "left", "(III)I"⟩
abbrev cX6_plainest : ByteArray := prog_1_method_13_code
def yX6_plainest : MethodName := ⟨RX6, "plainest", "(II)I"⟩
abbrev cX6_judge : ByteArray := prog_1_method_14_code
def yX6_judge : MethodName := ⟨RX6, "judge", "(II)I"⟩
abbrev cX6_set : ByteArray := prog_1_method_15_code
def yX6_set : MethodName := ⟨RX6, "set", "(II)I"⟩
abbrev cX6_likelihood : ByteArray := prog_1_method_16_code
def yX6_likelihood : MethodName := ⟨RX6, "likelihood", "(II)J"⟩
abbrev cX6_chance : ByteArray := prog_1_method_17_code
def yX6_chance : MethodName := ⟨RX6, "chance", "(III)J"⟩
abbrev cX6_likeliest : ByteArray := prog_1_method_18_code
def yX6_likeliest : MethodName := ⟨RX6, "likeliest", "(I)I"⟩
abbrev cX6_givings : ByteArray := prog_1_method_19_code
def yX6_givings : MethodName := ⟨RX6, "givings", "(I)I"⟩
abbrev cX6_giving : ByteArray := prog_1_method_20_code
def yX6_giving : MethodName := ⟨RX6, "giving", "(II)I"⟩
abbrev cX6_two : ByteArray := prog_1_method_21_code
def yX6_two : MethodName := ⟨RX6, "two", "(II)I"⟩
abbrev cX6_give : ByteArray := prog_1_method_22_code
def yX6_give : MethodName := ⟨RX6, "give", "(II)I"⟩
abbrev cX6_saying : ByteArray := prog_1_method_23_code
def yX6_saying : MethodName := ⟨RX6, "saying", "(II)I"⟩
abbrev cX6_orders : ByteArray := prog_1_method_24_code
def yX6_orders : MethodName := ⟨RX6, "orders", "()I"⟩
abbrev cX6_next : ByteArray := prog_1_method_25_code
def yX6_next : MethodName := ⟨RX6, "next", "(I)I"⟩
abbrev cX6_enough : ByteArray := prog_1_method_26_code
def yX6_enough : MethodName := ⟨RX6, "enough", "(I)I"⟩
abbrev cX6_help : ByteArray := prog_1_method_27_code
def yX6_help : MethodName := ⟨RX6, "help", "(III)I"⟩
abbrev cX6_never : ByteArray := prog_1_method_28_code
def yX6_never : MethodName := ⟨RX6, "never", "()I"⟩
abbrev cX6_same : ByteArray := prog_1_method_29_code
def yX6_same : MethodName := ⟨RX6, "same", "(II)I"⟩
abbrev cX6_part : ByteArray := prog_1_method_30_code
def yX6_part : MethodName := ⟨RX6, "part", "(II)I"⟩
abbrev cX6_image : ByteArray := prog_1_method_31_code
def yX6_image : MethodName := ⟨RX6, "image", "()I"⟩
abbrev cX6_restore : ByteArray := prog_1_method_32_code
def yX6_restore : MethodName := ⟨RX6, "restore", "()I"⟩
abbrev cX6_count : ByteArray := prog_1_method_33_code
def yX6_count : MethodName := ⟨RX6, "count", "(I)I"⟩
abbrev cX6_countRefusals : ByteArray := prog_1_method_34_code
def yX6_countRefusals : MethodName := ⟨RX6, "countRefusals", "(I)I"⟩
abbrev cX6_refuse : ByteArray := prog_1_method_35_code
def yX6_refuse : MethodName := ⟨RX6, "refuse", "(I)I"⟩
abbrev cX6_noScene : ByteArray := prog_1_method_36_code
def yX6_noScene : MethodName := ⟨RX6, "noScene", "(I)Z"⟩
abbrev cX6_noWord : ByteArray := prog_1_method_37_code
def yX6_noWord : MethodName := ⟨RX6, "noWord", "(I)Z"⟩
abbrev cX6_noMeaning : ByteArray := prog_1_method_38_code
def yX6_noMeaning : MethodName := ⟨RX6, "noMeaning", "(I)Z"⟩
abbrev cX6_noSetToGive : ByteArray := prog_1_method_39_code
def yX6_noSetToGive : MethodName := ⟨RX6, "noSetToGive", "(I)Z"⟩
abbrev cX6_noThreeWords : ByteArray := prog_1_method_40_code
def yX6_noThreeWords : MethodName := ⟨RX6, "noThreeWords", "(I)Z"⟩
abbrev cX6_wordAt : ByteArray := prog_1_method_41_code
def yX6_wordAt : MethodName := ⟨RX6, "wordAt", "(II)I"⟩
abbrev cX6_kindOf : ByteArray := prog_1_method_42_code
def yX6_kindOf : MethodName := ⟨RX6, "kindOf", "(I)I"⟩
abbrev cX6_isIn : ByteArray := prog_1_method_43_code
def yX6_isIn : MethodName := ⟨RX6, "isIn", "(II)Z"⟩
abbrev cX6_firstIn : ByteArray := prog_1_method_44_code
def yX6_firstIn : MethodName := ⟨RX6, "firstIn", "(I)I"⟩
def RX7 : String := "WhichWordModel"
def TX7 : u_T := fun k => match k with
  | 0 => ("WhichWordModel", "scenes", "I", false)
  | 1 => ("WhichWordModel", "thingMany", "[I", true)
  | 2 => ("WhichWordModel", "things", "[I", true)
  | 3 => ("WhichWordModel", "doingMany", "[I", true)
  | 4 => ("WhichWordModel", "doings", "[I", true)
  | 5 => ("WhichWordModel", "said", "[Z", true)
  | 6 => ("WhichWordModel", "has", "[Z", true)
  | 7 => ("WhichWordModel", "weights", "[I", true)
  | 8 => ("WhichWordModel", "hit", "I", false)
  | 9 => ("WhichWordModel", "miss", "I", false)
  | 10 => ("WhichWordModel", "given", "[I", true)
  | 11 => ("WhichWordModel", "sayings", "I", false)
  | 12 => ("WhichWordModel", "sayingScene", "[I", true)
  | 13 => ("WhichWordModel", "sayingWords", "[I", true)
  | 14 => ("WhichWordModel", "text", "[I", true)
  | 15 => ("WhichWordModel", "textMany", "I", false)
  | 16 => ("WhichWordModel", "refused", "[I", true)
  | 17 => ("WhichWordModel", "at", "I", false)
  | 18 => ("WhichWordModel", "end", "I", false)
  | 19 => ("WhichWordModel", "isBad", "Z", false)
  | 20 => ("WhichWordModel", "wordAt", "[I", true)
  | 21 => ("WhichWordModel", "wordMany", "I", false)
  | 22 => ("WhichWordModel", "first", "[I", true)
  | 23 => ("WhichWordModel", "shown", "[I", true)
  | 24 => ("WhichWordModel", "shownMany", "I", false)
  | 25 => ("WhichWordModel", "unlike", "[I", true)
  | 26 => ("WhichWordModel", "unlikeMany", "I", false)
  | 27 => ("WhichWordModel", "hasImage", "Z", false)
  | 28 => ("WhichWordModel", "imaged", "[I", true)
  | 29 => ("WhichWordModel", "imageAt", "I", false)
  | _ => ("WhichWordModel", "isTaking", "Z", false)
def tyX7 : Nat → FieldType := fun k => match k with
  | 0 => .int
  | 1 => .array .int
  | 2 => .array .int
  | 3 => .array .int
  | 4 => .array .int
  | 5 => .array .boolean
  | 6 => .array .boolean
  | 7 => .array .int
  | 8 => .int
  | 9 => .int
  | 10 => .array .int
  | 11 => .int
  | 12 => .array .int
  | 13 => .array .int
  | 14 => .array .int
  | 15 => .int
  | 16 => .array .int
  | 17 => .int
  | 18 => .int
  | 19 => .boolean
  | 20 => .array .int
  | 21 => .int
  | 22 => .array .int
  | 23 => .array .int
  | 24 => .int
  | 25 => .array .int
  | 26 => .int
  | 27 => .boolean
  | 28 => .array .int
  | 29 => .int
  | _ => .boolean
abbrev wsX70 : List Cond := u_ws RX7 TX7 31
theorem nmX7 : ∀ a, a < 31 → ∀ b, b < 31 → a ≠ b → (TX7 a).2.1 ≠ (TX7 b).2.1 := by decide +kernel
theorem tyX7_ok : ∀ k, k < 31 → parseFieldDescriptor (TX7 k).2.2.1 = some (tyX7 k) := by decide +kernel
abbrev cX7_init : ByteArray := prog_9_method_1_code
def yX7_init : MethodName := ⟨RX7, "<init>", "()V"⟩
abbrev cX7_in : ByteArray := prog_9_method_3_code
def yX7_in : MethodName := ⟨RX7, "in", "(JJJ)Z"⟩
abbrev cX7_refuse : ByteArray := prog_9_method_4_code
def yX7_refuse : MethodName := ⟨RX7, "refuse", "(I)I"⟩
abbrev cX7_isScene : ByteArray := prog_9_method_5_code
def yX7_isScene : MethodName := ⟨RX7, "isScene", "(I)Z"⟩
abbrev cX7_isWord : ByteArray := prog_9_method_6_code
def yX7_isWord : MethodName := ⟨RX7, "isWord", "(I)Z"⟩
abbrev cX7_isMeaning : ByteArray := prog_9_method_7_code
def yX7_isMeaning : MethodName := ⟨RX7, "isMeaning", "(I)Z"⟩
abbrev cX7_ones : ByteArray := prog_9_method_8_code
def yX7_ones : MethodName := ⟨RX7, "ones", "(I)I"⟩
abbrev cX7_feed : ByteArray := prog_9_method_9_code
def yX7_feed : MethodName := ⟨RX7, "feed", "(IJ)I"⟩
abbrev cX7_here : ByteArray := prog_9_method_10_code
def yX7_here : MethodName := ⟨RX7, "here", "()I"⟩
abbrev cX7_readThing : ByteArray := prog_9_method_11_code
def yX7_readThing : MethodName := ⟨RX7, "readThing", "(I)V"⟩
abbrev cX7_readPlace : ByteArray := prog_9_method_12_code
def yX7_readPlace : MethodName := ⟨RX7, "readPlace", "(II)I"⟩
abbrev cX7_readDoing : ByteArray := prog_9_method_13_code
def yX7_readDoing : MethodName := ⟨RX7, "readDoing", "(I)V"⟩
abbrev cX7_readScene : ByteArray := prog_9_method_14_code
def yX7_readScene : MethodName := ⟨RX7, "readScene", "(I)V"⟩
abbrev cX7_scene : ByteArray := prog_9_method_15_code
def yX7_scene : MethodName := ⟨RX7, "scene", "()I"⟩
abbrev cX7_hasMark : ByteArray := prog_9_method_16_code
def yX7_hasMark : MethodName := ⟨RX7, "hasMark", "(III)Z"⟩
abbrev cX7_manyWith : ByteArray := prog_9_method_17_code
def yX7_manyWith : MethodName := ⟨RX7, "manyWith", "(II)I"⟩
abbrev cX7_findHas : ByteArray := prog_9_method_18_code
def yX7_findHas : MethodName := ⟨RX7, "findHas", "(I)V"⟩
abbrev cX7_kindOf : ByteArray := prog_9_method_19_code
def yX7_kindOf : MethodName := ⟨RX7, "kindOf", "(I)I"⟩
abbrev cX7_takeBack : ByteArray := prog_9_method_20_code
def yX7_takeBack : MethodName := ⟨RX7, "takeBack", "()I"⟩
abbrev cX7_thing : ByteArray := prog_9_method_21_code
def yX7_thing : MethodName := ⟨RX7, "thing", "(II)I"⟩
abbrev cX7_doing : ByteArray := prog_9_method_22_code
def yX7_doing : MethodName := ⟨RX7, "doing", "(II)I"⟩
abbrev cX7_say : ByteArray := prog_9_method_23_code
def yX7_say : MethodName := ⟨RX7, "say", "(IIZ)I"⟩
abbrev cX7_saidIn : ByteArray := prog_9_method_24_code
def yX7_saidIn : MethodName := ⟨RX7, "saidIn", "(I)I"⟩
abbrev cX7_said : ByteArray := prog_9_method_25_code
def yX7_said : MethodName := ⟨RX7, "said", "(I)I"⟩
abbrev cX7_kind : ByteArray := prog_9_method_26_code
def yX7_kind : MethodName := ⟨RX7, "kind", "(I)I"⟩
abbrev cX7_weight : ByteArray := prog_9_method_27_code
def yX7_weight : MethodName := ⟨RX7, "weight", "(II)I"⟩
abbrev cX7_has : ByteArray := prog_9_method_28_code
def yX7_has : MethodName := ⟨RX7, "has", "(II)I"⟩
abbrev cX7_isLeft : ByteArray := prog_9_method_29_code
def yX7_isLeft : MethodName := ⟨RX7, "isLeft", "(III)Z"⟩
abbrev cX7_left : ByteArray := prog_9_method_30_code
def yX7_left : MethodName := ⟨RX7, "left", "(III)I"⟩
abbrev cX7_plainest : ByteArray := prog_9_method_31_code
def yX7_plainest : MethodName := ⟨RX7, "plainest", "(II)I"⟩
abbrev cX7_judge : ByteArray := prog_9_method_32_code
def yX7_judge : MethodName := ⟨RX7, "judge", "(II)I"⟩
abbrev cX7_set : ByteArray := prog_9_method_33_code
def yX7_set : MethodName := ⟨RX7, "set", "(II)I"⟩
abbrev cX7_likelihoodOf : ByteArray := prog_9_method_34_code
def yX7_likelihoodOf : MethodName := ⟨RX7, "likelihoodOf", "(II)J"⟩
abbrev cX7_likelihood : ByteArray := prog_9_method_35_code
def yX7_likelihood : MethodName := ⟨RX7, "likelihood", "(II)J"⟩
abbrev cX7_divisor : ByteArray := prog_9_method_36_code
def yX7_divisor : MethodName := ⟨RX7, "divisor", "(JJ)J"⟩
abbrev cX7_chance : ByteArray := prog_9_method_37_code
def yX7_chance : MethodName := ⟨RX7, "chance", "(III)J"⟩
abbrev cX7_likeliest : ByteArray := prog_9_method_38_code
def yX7_likeliest : MethodName := ⟨RX7, "likeliest", "(I)I"⟩
abbrev cX7_isSet : ByteArray := prog_9_method_39_code
def yX7_isSet : MethodName := ⟨RX7, "isSet", "(I)Z"⟩
abbrev cX7_findWords : ByteArray := prog_9_method_40_code
def yX7_findWords : MethodName := ⟨RX7, "findWords", "(I)V"⟩
abbrev cX7_commonTo : ByteArray := prog_9_method_41_code
def yX7_commonTo : MethodName := ⟨RX7, "commonTo", "(I)I"⟩
abbrev cX7_givings : ByteArray := prog_9_method_42_code
def yX7_givings : MethodName := ⟨RX7, "givings", "(I)I"⟩
abbrev cX7_findFirst : ByteArray := prog_9_method_43_code
def yX7_findFirst : MethodName := ⟨RX7, "findFirst", "(I)Z"⟩
abbrev cX7_canHave : ByteArray := prog_9_method_44_code
def yX7_canHave : MethodName := ⟨RX7, "canHave", "(I)Z"⟩
abbrev cX7_isOneLeft : ByteArray := prog_9_method_45_code
def yX7_isOneLeft : MethodName := ⟨RX7, "isOneLeft", "(I)Z"⟩
abbrev cX7_giving : ByteArray := prog_9_method_46_code
def yX7_giving : MethodName := ⟨RX7, "giving", "(II)I"⟩
abbrev cX7_two : ByteArray := prog_9_method_47_code
def yX7_two : MethodName := ⟨RX7, "two", "(II)I"⟩
abbrev cX7_give : ByteArray := prog_9_method_48_code
def yX7_give : MethodName := ⟨RX7, "give", "(II)I"⟩
abbrev cX7_saying : ByteArray := prog_9_method_49_code
def yX7_saying : MethodName := ⟨RX7, "saying", "(II)I"⟩
abbrev cX7_isDone : ByteArray := prog_9_method_50_code
def yX7_isDone : MethodName := ⟨RX7, "isDone", "(IIII)Z"⟩
abbrev cX7_fits : ByteArray := prog_9_method_51_code
def yX7_fits : MethodName := ⟨RX7, "fits", "(II)Z"⟩
abbrev cX7_orders : ByteArray := prog_9_method_52_code
def yX7_orders : MethodName := ⟨RX7, "orders", "()I"⟩
abbrev cX7_next : ByteArray := prog_9_method_53_code
def yX7_next : MethodName := ⟨RX7, "next", "(I)I"⟩
abbrev cX7_findShown : ByteArray := prog_9_method_54_code
def yX7_findShown : MethodName := ⟨RX7, "findShown", "(I)V"⟩
abbrev cX7_findUnlike : ByteArray := prog_9_method_55_code
def yX7_findUnlike : MethodName := ⟨RX7, "findUnlike", "(I)V"⟩
abbrev cX7_partsAll : ByteArray := prog_9_method_56_code
def yX7_partsAll : MethodName := ⟨RX7, "partsAll", "(I)Z"⟩
abbrev cX7_scenesOf : ByteArray := prog_9_method_57_code
def yX7_scenesOf : MethodName := ⟨RX7, "scenesOf", "(I)I"⟩
abbrev cX7_enough : ByteArray := prog_9_method_58_code
def yX7_enough : MethodName := ⟨RX7, "enough", "(I)I"⟩
abbrev cX7_help : ByteArray := prog_9_method_59_code
def yX7_help : MethodName := ⟨RX7, "help", "(III)I"⟩
abbrev cX7_leftBy : ByteArray := prog_9_method_60_code
def yX7_leftBy : MethodName := ⟨RX7, "leftBy", "(II)I"⟩
abbrev cX7_partOf : ByteArray := prog_9_method_61_code
def yX7_partOf : MethodName := ⟨RX7, "partOf", "(II)I"⟩
abbrev cX7_never : ByteArray := prog_9_method_62_code
def yX7_never : MethodName := ⟨RX7, "never", "()I"⟩
abbrev cX7_same : ByteArray := prog_9_method_63_code
def yX7_same : MethodName := ⟨RX7, "same", "(II)I"⟩
abbrev cX7_part : ByteArray := prog_9_method_64_code
def yX7_part : MethodName := ⟨RX7, "part", "(II)I"⟩
abbrev cX7_move : ByteArray := prog_9_method_65_code
def yX7_move : MethodName := ⟨RX7, "move", "(I)I"⟩
abbrev cX7_moveAll : ByteArray := prog_9_method_66_code
def yX7_moveAll : MethodName := ⟨RX7, "moveAll", "()V"⟩
abbrev cX7_image : ByteArray := prog_9_method_67_code
def yX7_image : MethodName := ⟨RX7, "image", "()I"⟩
abbrev cX7_restore : ByteArray := prog_9_method_68_code
def yX7_restore : MethodName := ⟨RX7, "restore", "()I"⟩
abbrev cX7_count : ByteArray := prog_9_method_69_code
def yX7_count : MethodName := ⟨RX7, "count", "(I)I"⟩
def RJ6 : String := "java/lang/Integer"
abbrev cJ6_bitCount_0f7a4 : ByteArray := prog_10_method_49_code
def RJ9 : String := "java/lang/Math"
abbrev cJ9_max_7cf53 : ByteArray := prog_11_method_65_code
def RJ10 : String := "java/lang/System"
def RJ7 : String := "java/util/Arrays"
abbrev cJ7_fill_53178 : ByteArray := prog_13_method_103_code
def RL : String := "WhichWordLaw"
abbrev cL_law : ByteArray := code
def yL_law : MethodName := ⟨RL, "law", "([I)Z"⟩
abbrev vwCl : List vw_C := [(RX0, TX0, 5), (RX1, TX1, 2), (RX2, TX2, 1), (RX3, TX3, 4), (RX4, TX4, 3), (RX5, TX5, 12), (RX6, TX6, 8), (RX7, TX7, 31)]
end
section
/-! A small machine over lists: what an instruction asks, as a proposition. Cells are numbered in the order in which the law makes them (the script and five tables first). -/
abbrev mm_L : Type := List (Option Value)
abbrev mm_M : Type := List va_E
abbrev mm_Q : Type := Option Value → mm_M → Prop
abbrev mm_K : Type := Nat → mm_L → List Value → mm_M → Nat → Nat → Prop
/-- an instruction; where it goes on; two numbers; ints (a constant, a switch's cases); a long -/
abbrev mm_I : Type := Instr × Nat × Nat × Nat × List (Int32 × Nat) × Int64
abbrev mm_C : Type := List (Nat × mm_I)
abbrev mm_S : Type := Nat → List Value → mm_M → mm_Q → Prop
def mm_nth {α : Type} : List α → Nat → Option α
  | [], _ => none
  | x :: _, 0 => some x
  | _ :: t, n + 1 => mm_nth t n
def mm_set {α : Type} : List α → Nat → α → List α
  | [], _, _ => []
  | _ :: t, 0, v => v :: t
  | x :: t, n + 1, v => x :: mm_set t n v
def mm_find : mm_C → Nat → Option mm_I
  | [], _ => none
  | q :: r, pc => match Nat.beq q.1 pc with
    | true => some q.2
    | false => mm_find r pc
def mm_long : Option (Option Value) → Bool
  | some (some (.long _)) => true
  | some (some (.double _)) => true
  | _ => false
def mm_ok (ls : mm_L) : Nat → Bool
  | 0 => true
  | i + 1 => match mm_long (mm_nth ls i) with
    | true => false
    | false => true
def mm_put1 (ls : mm_L) (i : Nat) (v : Value) : Option mm_L := match mm_nth ls i, mm_ok ls i with
  | some _, true => some (mm_set ls i (some v))
  | _, _ => none
def mm_put2 (ls : mm_L) (i : Nat) (v : Value) : Option mm_L := match mm_nth ls (i + 1), mm_ok ls i with
  | some _, true => some (mm_set (mm_set ls i (some v)) (i + 1) none)
  | _, _ => none
def mm_pop : Nat → List Value → List Value → Option (List Value × List Value)
  | 0, acc, st => some (acc, st)
  | n + 1, acc, v :: st => mm_pop n (v :: acc) st
  | _ + 1, _, [] => none
def mm_sum : List Value → Nat
  | [] => 0
  | v :: t => v.category + mm_sum t
/-- instructions that touch locals and stack alone -/
def mm_pure (ins : Instr) (a : Nat) (sw : List (Int32 × Nat)) (lc : Int64) (ls : mm_L) (st : List Value) : Option (mm_L × List Value) :=
  match ins with
  | .iconst _ => match sw with
    | (v, _) :: _ => some (ls, .int v :: st)
    | [] => none
  | .bipush _ => match sw with
    | (v, _) :: _ => some (ls, .int v :: st)
    | [] => none
  | .sipush _ => match sw with
    | (v, _) :: _ => some (ls, .int v :: st)
    | [] => none
  | .ldc_w _ => match sw with
    | (v, _) :: _ => some (ls, .int v :: st)
    | [] => none
  | .ldc _ => match sw with
    | (v, _) :: _ => some (ls, .int v :: st)
    | [] => none
  | .lconst _ => some (ls, .long lc :: st)
  | .ldc2_w _ => some (ls, .long lc :: st)
  | .iload _ => match mm_nth ls a with
    | some (some (.int x)) => some (ls, .int x :: st)
    | _ => none
  | .iload_n _ => match mm_nth ls a with
    | some (some (.int x)) => some (ls, .int x :: st)
    | _ => none
  | .lload _ => match mm_nth ls a with
    | some (some (.long x)) => some (ls, .long x :: st)
    | _ => none
  | .lload_n _ => match mm_nth ls a with
    | some (some (.long x)) => some (ls, .long x :: st)
    | _ => none
  | .aload _ => match mm_nth ls a with
    | some (some (.ref x)) => some (ls, .ref x :: st)
    | _ => none
  | .aload_n _ => match mm_nth ls a with
    | some (some (.ref x)) => some (ls, .ref x :: st)
    | _ => none
  | .istore _ => match st with
    | .int x :: st => match mm_put1 ls a (.int x) with
      | some ls => some (ls, st)
      | none => none
    | _ => none
  | .istore_n _ => match st with
    | .int x :: st => match mm_put1 ls a (.int x) with
      | some ls => some (ls, st)
      | none => none
    | _ => none
  | .astore _ => match st with
    | .ref x :: st => match mm_put1 ls a (.ref x) with
      | some ls => some (ls, st)
      | none => none
    | _ => none
  | .astore_n _ => match st with
    | .ref x :: st => match mm_put1 ls a (.ref x) with
      | some ls => some (ls, st)
      | none => none
    | _ => none
  | .lstore _ => match st with
    | .long x :: st => match mm_put2 ls a (.long x) with
      | some ls => some (ls, st)
      | none => none
    | _ => none
  | .lstore_n _ => match st with
    | .long x :: st => match mm_put2 ls a (.long x) with
      | some ls => some (ls, st)
      | none => none
    | _ => none
  | .iinc _ _ => match mm_nth ls a with
    | some (some (.int x)) => match sw with
      | (v, _) :: _ => match mm_put1 ls a (.int (x + v)) with
        | some ls => some (ls, st)
        | none => none
      | [] => none
    | _ => none
  | .iadd => match st with
    | .int y :: .int x :: st => some (ls, .int (x + y) :: st)
    | _ => none
  | .isub => match st with
    | .int y :: .int x :: st => some (ls, .int (x - y) :: st)
    | _ => none
  | .imul => match st with
    | .int y :: .int x :: st => some (ls, .int (x * y) :: st)
    | _ => none
  | .iand => match st with
    | .int y :: .int x :: st => some (ls, .int (x &&& y) :: st)
    | _ => none
  | .ior => match st with
    | .int y :: .int x :: st => some (ls, .int (x ||| y) :: st)
    | _ => none
  | .ixor => match st with
    | .int y :: .int x :: st => some (ls, .int (x ^^^ y) :: st)
    | _ => none
  | .ineg => match st with
    | .int x :: st => some (ls, .int (-x) :: st)
    | _ => none
  | .ishl => match st with
    | .int y :: .int x :: st => some (ls, .int (x <<< (y &&& 31)) :: st)
    | _ => none
  | .ishr => match st with
    | .int y :: .int x :: st => some (ls, .int (x >>> (y &&& 31)) :: st)
    | _ => none
  | .iushr => match st with
    | .int y :: .int x :: st => some (ls, .int ((x.toUInt32 >>> (y.toUInt32 &&& Int32.toUInt32 31)).toInt32) :: st)
    | _ => none
  | .ladd => match st with
    | .long y :: .long x :: st => some (ls, .long (x + y) :: st)
    | _ => none
  | .lmul => match st with
    | .long y :: .long x :: st => some (ls, .long (x * y) :: st)
    | _ => none
  | .land => match st with
    | .long y :: .long x :: st => some (ls, .long (x &&& y) :: st)
    | _ => none
  | .lor => match st with
    | .long y :: .long x :: st => some (ls, .long (x ||| y) :: st)
    | _ => none
  | .lshl => match st with
    | .int y :: .long x :: st => some (ls, .long (x <<< (y.toInt64 &&& 63)) :: st)
    | _ => none
  | .lshr => match st with
    | .int y :: .long x :: st => some (ls, .long (x >>> (y.toInt64 &&& 63)) :: st)
    | _ => none
  | .lushr => match st with
    | .int y :: .long x :: st => some (ls, .long ((x.toUInt64 >>> (y.toInt64.toUInt64 &&& Int64.toUInt64 63)).toInt64) :: st)
    | _ => none
  | .i2l => match st with
    | .int x :: st => some (ls, .long x.toInt64 :: st)
    | _ => none
  | .l2i => match st with
    | .long x :: st => some (ls, .int x.toInt32 :: st)
    | _ => none
  | .lcmp => match st with
    | .long y :: .long x :: st => some (ls, .int (lg_cmp x y) :: st)
    | _ => none
  | .dup => match st with
    | .int x :: st => some (ls, .int x :: .int x :: st)
    | .ref x :: st => some (ls, .ref x :: .ref x :: st)
    | _ => none
  | .dup2 => match st with
    | .int y :: .ref x :: st => some (ls, .int y :: .ref x :: .int y :: .ref x :: st)
    | _ => none
  | _ => none
/-- a switch: case by case -/
def mm_sw (x : Int32) (d : Prop) (f : Nat → Prop) : List (Int32 × Nat) → Prop
  | [] => d
  | q :: r => (x = q.1 → f q.2) ∧ (¬ x = q.1 → mm_sw x d f r)
def mm_if (c : ClassFile.Cond) (x y : Int32) (t f : Prop) : Prop := match c with
  | .eq => (x = y → t) ∧ (¬ x = y → f)
  | .ne => (¬ x = y → t) ∧ (x = y → f)
  | .lt => (x < y → t) ∧ (¬ x < y → f)
  | .ge => (y ≤ x → t) ∧ (¬ y ≤ x → f)
  | .gt => (y < x → t) ∧ (¬ y < x → f)
  | .le => (x ≤ y → t) ∧ (¬ x ≤ y → f)
def mm_go2 (S : mm_S) (K : mm_K) (nx : Nat) (ls : mm_L) (mem : mm_M) (k n a : Nat) (as rest : List Value) : Prop :=
  ∃ Q1 : mm_Q, S a as mem Q1 ∧ ∀ (r : Option Value) (mem1 : mm_M), Q1 r mem1 → K nx ls (r.toList ++ rest) mem1 k n
def mm_call (S : mm_S) (Al : Nat → Nat × Nat) (B : Nat × Nat) (K : mm_K) (nx : Nat) (ls : mm_L) (mem : mm_M) (k n a : Nat) (p : Option (List Value × List Value)) : Prop :=
  match p with
  | none => False
  | some q => match Nat.ble (mm_sum q.2) 8 with
    | false => False
    | true => match Al a with
      | (0, 0) => mm_go2 S K nx ls mem k n a q.1 q.2
      | (c, d) => (k + c ≤ B.1 ∧ n + d ≤ B.2) ∧ mm_go2 S K nx ls mem (k + c) (n + d) a q.1 q.2
/-- a new cell -/
def mm_new (B : Nat × Nat) (K : mm_K) (nx : Nat) (ls : mm_L) (st : List Value) (mem : mm_M) (k n : Nat) (z : Nat) (e : va_E) : Prop :=
  (k + 1 ≤ B.1 ∧ n + z ≤ B.2) ∧ ∀ r : Nat, r = mem.length → K nx ls (.ref r :: st) (mem ++ [e]) (k + 1) (n + z)
def mm_fit (tag : Nat) (v : Value) : Prop := match tag, v with
  | 0, .int _ => True
  | 1, .int x => fits .boolean (.int x) = true
  | 2, .ref _ => True
  | _, _ => False
/-- what an instruction asks, and where it goes -/
def mm_ins (S : mm_S) (Al : Nat → Nat × Nat) (Df : Nat → List Value) (B : Nat × Nat) (Q : mm_Q) (K : mm_K) (ins : Instr) (nx a b : Nat) (sw : List (Int32 × Nat)) (lc : Int64) (ls : mm_L) (st : List Value) (mem : mm_M) (k n : Nat) : Prop :=
  match ins with
  | .idiv => match st with
    | .int y :: .int x :: st => ¬ y = 0 ∧ K nx ls (.int (x / y) :: st) mem k n
    | _ => False
  | .irem => match st with
    | .int y :: .int x :: st => ¬ y = 0 ∧ K nx ls (.int (x - x / y * y) :: st) mem k n
    | _ => False
  | .ldiv => match st with
    | .long y :: .long x :: st => ¬ y = 0 ∧ K nx ls (.long (x / y) :: st) mem k n
    | _ => False
  | .lrem => match st with
    | .long y :: .long x :: st => ¬ y = 0 ∧ K nx ls (.long (x - x / y * y) :: st) mem k n
    | _ => False
  | .ifCond c _ => match st with
    | .int x :: st => mm_if c x 0 (K a ls st mem k n) (K nx ls st mem k n)
    | _ => False
  | .if_icmp c _ => match st with
    | .int y :: .int x :: st => mm_if c x y (K a ls st mem k n) (K nx ls st mem k n)
    | _ => False
  | .goto _ => K a ls st mem k n
  | .tableswitch _ _ _ _ => match st with
    | .int x :: st => mm_sw x (K a ls st mem k n) (fun t => K t ls st mem k n) sw
    | _ => False
  | .lookupswitch _ _ => match st with
    | .int x :: st => mm_sw x (K a ls st mem k n) (fun t => K t ls st mem k n) sw
    | _ => False
  | .getstatic _ => K nx ls (.ref a :: st) mem k n
  | .getfield _ => match st with
    | .ref r :: st => match mm_nth mem r with
      | some (.inr o) => match Nat.beq o.1 a with
        | true => match mm_nth o.2 b with
          | some v => K nx ls (v :: st) mem k n
          | none => False
        | false => False
      | _ => False
    | _ => False
  | .putfield _ => match st with
    | v :: .ref r :: st => match mm_nth mem r with
      | some (.inr o) => match Nat.beq o.1 a with
        | true => match mm_nth o.2 b with
          | some _ => match sw with
            | (_, tag) :: _ => mm_fit tag v ∧ K nx ls st (mm_set mem r (.inr (o.1, mm_set o.2 b v))) k n
            | [] => False
          | none => False
        | false => False
      | _ => False
    | _ => False
  | .iaload => match st with
    | .int i :: .ref r :: st => match mm_nth mem r with
      | some (.inl (0, N, .inl f)) => vp_in i N ∧ K nx ls (.int (f i.toNatClampNeg) :: st) mem k n
      | _ => False
    | _ => False
  | .baload => match st with
    | .int i :: .ref r :: st => match mm_nth mem r with
      | some (.inl (1, N, .inl f)) => vp_in i N ∧ K nx ls (.int (f i.toNatClampNeg) :: st) mem k n
      | _ => False
    | _ => False
  | .aaload => match st with
    | .int i :: .ref r :: st => match mm_nth mem r with
      | some (.inl (2, N, .inr (.inr (.inr (.inr f))))) => vp_in i N ∧ ∃ y : Nat, f i.toNatClampNeg = some y ∧ K nx ls (.ref y :: st) mem k n
      | _ => False
    | _ => False
  | .iastore => match st with
    | .int x :: .int i :: .ref r :: st => match Nat.ble 6 r with
      | true => match mm_nth mem r with
        | some (.inl (0, N, .inl f)) => vp_in i N ∧ K nx ls st (mm_set mem r (.inl (0, N, .inl (upd f i.toNatClampNeg x)))) k n
        | _ => False
      | false => False
    | _ => False
  | .bastore => match st with
    | .int x :: .int i :: .ref r :: st => match Nat.ble 6 r with
      | true => match mm_nth mem r with
        | some (.inl (1, N, .inl f)) => vp_in i N ∧ fits .boolean (.int x) = true ∧ K nx ls st (mm_set mem r (.inl (1, N, .inl (upd f i.toNatClampNeg x)))) k n
        | _ => False
      | false => False
    | _ => False
  | .aastore => match st with
    | .ref y :: .int i :: .ref r :: st => match Nat.ble 6 r with
      | true => match mm_nth mem r with
        | some (.inl (2, N, .inr (.inr (.inr (.inr f))))) => vp_in i N ∧ (∃ fs : List Value, mm_nth mem y = some (.inr (a, fs))) ∧ K nx ls st (mm_set mem r (.inl (2, N, .inr (.inr (.inr (.inr (va_up f i.toNatClampNeg (some y)))))))) k n
        | _ => False
      | false => False
    | _ => False
  | .arraylength => match st with
    | .ref r :: st => match mm_nth mem r with
      | some (.inl (t, N, _)) => match Nat.ble t 2 with
        | true => K nx ls (.int (nI N) :: st) mem k n
        | false => False
      | _ => False
    | _ => False
  | .new _ => mm_new B K nx ls st mem k n b (.inr (a, Df a))
  | .newarray _ => match st with
    | .int x :: st => x = nI b ∧ mm_new B K nx ls st mem k n b (.inl (a, b, .inl (fun _ => 0)))
    | _ => False
  | .anewarray _ => match st with
    | .int x :: st => x = nI b ∧ mm_new B K nx ls st mem k n b (.inl (2, b, .inr (.inr (.inr (.inr (fun _ => none))))))
    | _ => False
  | .invokevirtual _ => mm_call S Al B K nx ls mem k n a (mm_pop b [] st)
  | .invokestatic _ => match lc with
    | 0 => mm_call S Al B K nx ls mem k n a (mm_pop b [] st)
    | 2 => match st with
      | .int y :: .int x :: st => mm_sum st ≤ 8 ∧ K nx ls (.int (if x < y then y else x) :: st) mem k n
      | _ => False
    | _ => match st with
      | .int z :: .int dp :: .ref d :: .int sp :: .ref r :: st => match Nat.ble 6 d, mm_nth mem r, mm_nth mem d with
        | true, some (.inl (0, N, .inl f)), some (.inl (0, M, .inl g)) =>
          ((¬ sp < 0 ∧ ¬ dp < 0 ∧ ¬ z < 0 ∧ 6 ≤ r) ∧ sp.toNatClampNeg + z.toNatClampNeg ≤ N ∧ dp.toNatClampNeg + z.toNatClampNeg ≤ M ∧ mm_sum st ≤ 8) ∧
            K nx ls st (mm_set mem d (.inl (0, M, .inl (va_cpy f g sp.toNatClampNeg dp.toNatClampNeg z.toNatClampNeg)))) k n
        | _, _, _ => False
      | _ => False
  | .invokespecial _ => match lc with
    | 0 => mm_call S Al B K nx ls mem k n a (mm_pop b [] st)
    | _ => match st with
      | .ref _ :: st => mm_sum st ≤ 8 ∧ K nx ls st mem k n
      | _ => False
  | .ireturn => match st with
    | [.int v] => match a with
      | 0 => Q (some (.int v)) mem
      | _ => fits .boolean (.int v) = true ∧ Q (some (.int v)) mem
    | _ => False
  | .lreturn => match st with
    | [.long v] => Q (some (.long v)) mem
    | _ => False
  | .return_ => match st with
    | [] => Q none mem
    | _ => False
  | _ => match mm_pure ins a sw lc ls st with
    | some (ls', st') => K nx ls' st' mem k n
    | none => False
def mm_step (S : mm_S) (Al : Nat → Nat × Nat) (Df : Nat → List Value) (B : Nat × Nat) (cd : mm_C) (Q : mm_Q) (K : mm_K) (pc : Nat) (ls : mm_L) (st : List Value) (mem : mm_M) (k n : Nat) : Prop :=
  match mm_find cd pc with
  | none => False
  | some (ins, nx, a, b, sw, lc) => mm_ins S Al Df B Q K ins nx a b sw lc ls st mem k n
def mm_WP (S : mm_S) (Al : Nat → Nat × Nat) (Df : Nat → List Value) (B : Nat × Nat) (cd : mm_C) (Q : mm_Q) (pc : Nat) (ls : mm_L) (st : List Value) (mem : mm_M) (k n : Nat) : Prop :=
  ∀ X : mm_K, (∀ pc ls st mem k n, mm_step S Al Df B cd Q X pc ls st mem k n → X pc ls st mem k n) → X pc ls st mem k n
theorem mm_if_mono {c : ClassFile.Cond} {x y : Int32} {t f t' f' : Prop} (ht : t → t') (hf : f → f') (h : mm_if c x y t f) : mm_if c x y t' f' := by
  cases c <;> exact ⟨fun z => ht (h.1 z), fun z => hf (h.2 z)⟩
theorem mm_sw_mono {x : Int32} {d d' : Prop} {f f' : Nat → Prop} (hd : d → d') (hf : ∀ t, f t → f' t) (l : List (Int32 × Nat)) (h : mm_sw x d f l) : mm_sw x d' f' l := by
  induction l with
  | nil => exact hd h
  | cons q r ih => exact ⟨fun z => hf _ (h.1 z), fun z => ih (h.2 z)⟩
theorem mm_go2_mono {S : mm_S} {K K' : mm_K} (hK : ∀ pc ls st mem k n, K pc ls st mem k n → K' pc ls st mem k n) {nx : Nat} {ls : mm_L} {mem : mm_M} {k n a : Nat} {as rest : List Value} (h : mm_go2 S K nx ls mem k n a as rest) : mm_go2 S K' nx ls mem k n a as rest := by
  obtain ⟨Q1, h1, h2⟩ := h
  exact ⟨Q1, h1, fun r m q => hK _ _ _ _ _ _ (h2 r m q)⟩
theorem mm_call_mono {S : mm_S} {Al : Nat → Nat × Nat} {B : Nat × Nat} {K K' : mm_K} (hK : ∀ pc ls st mem k n, K pc ls st mem k n → K' pc ls st mem k n) {nx : Nat} {ls : mm_L} {mem : mm_M} {k n a : Nat} {p : Option (List Value × List Value)} (h : mm_call S Al B K nx ls mem k n a p) : mm_call S Al B K' nx ls mem k n a p := by
  unfold mm_call at h ⊢
  split at h
  · exact h
  · split at h
    · exact h
    · split at h
      · exact mm_go2_mono hK h
      · exact ⟨h.1, mm_go2_mono hK h.2⟩
theorem mm_new_mono {B : Nat × Nat} {K K' : mm_K} (hK : ∀ pc ls st mem k n, K pc ls st mem k n → K' pc ls st mem k n) {nx : Nat} {ls : mm_L} {st : List Value} {mem : mm_M} {k n z : Nat} {e : va_E} (h : mm_new B K nx ls st mem k n z e) : mm_new B K' nx ls st mem k n z e :=
  ⟨h.1, fun r hr => hK _ _ _ _ _ _ (h.2 r hr)⟩
theorem mm_ins_mono {S : mm_S} {Al : Nat → Nat × Nat} {Df : Nat → List Value} {B : Nat × Nat} {Q : mm_Q} {K K' : mm_K} (hK : ∀ pc ls st mem k n, K pc ls st mem k n → K' pc ls st mem k n) (ins : Instr) {nx a b : Nat} {sw : List (Int32 × Nat)} {lc : Int64} {ls : mm_L} {st : List Value} {mem : mm_M} {k n : Nat} (h : mm_ins S Al Df B Q K ins nx a b sw lc ls st mem k n) : mm_ins S Al Df B Q K' ins nx a b sw lc ls st mem k n := by
  unfold mm_ins at h ⊢
  revert h
  repeat' split
  all_goals first
    | exact hK _ _ _ _ _ _
    | exact fun h => h
    | exact fun h => ⟨h.1, hK _ _ _ _ _ _ h.2⟩
    | exact fun h => ⟨h.1, h.2.1, hK _ _ _ _ _ _ h.2.2⟩
    | exact mm_if_mono (hK _ _ _ _ _ _) (hK _ _ _ _ _ _)
    | exact mm_sw_mono (hK _ _ _ _ _ _) (fun _ => hK _ _ _ _ _ _) _
    | exact mm_call_mono hK
    | exact mm_new_mono hK
    | exact fun h => ⟨h.1, mm_new_mono hK h.2⟩
    | exact fun h => ⟨h.1, h.2.choose, h.2.choose_spec.1, hK _ _ _ _ _ _ h.2.choose_spec.2⟩
    | skip
theorem mm_step_mono {S : mm_S} {Al : Nat → Nat × Nat} {Df : Nat → List Value} {B : Nat × Nat} {cd : mm_C} {Q : mm_Q} {K K' : mm_K} (hK : ∀ pc ls st mem k n, K pc ls st mem k n → K' pc ls st mem k n) {pc : Nat} {ls : mm_L} {st : List Value} {mem : mm_M} {k n : Nat} (h : mm_step S Al Df B cd Q K pc ls st mem k n) : mm_step S Al Df B cd Q K' pc ls st mem k n := by
  unfold mm_step at h ⊢
  revert h
  split
  · exact fun h => h
  · exact mm_ins_mono hK _
theorem mm_WP.step {S : mm_S} {Al : Nat → Nat × Nat} {Df : Nat → List Value} {B : Nat × Nat} {cd : mm_C} {Q : mm_Q} {pc : Nat} {ls : mm_L} {st : List Value} {mem : mm_M} {k n : Nat} (h : mm_step S Al Df B cd Q (mm_WP S Al Df B cd Q) pc ls st mem k n) : mm_WP S Al Df B cd Q pc ls st mem k n :=
  fun X hX => hX _ _ _ _ _ _ (mm_step_mono (fun _ _ _ _ _ _ w => w X hX) h)
/-- on and on, up to the stops -/
def mm_go (S : mm_S) (Al : Nat → Nat × Nat) (Df : Nat → List Value) (B : Nat × Nat) (cd : mm_C) (Q : mm_Q) (stops : List Nat) : Nat → mm_K
  | 0 => mm_WP S Al Df B cd Q
  | f + 1 => fun pc ls st mem k n => match List.any stops (Nat.beq pc) with
    | true => mm_WP S Al Df B cd Q pc ls st mem k n
    | false => mm_step S Al Df B cd Q (mm_go S Al Df B cd Q stops f) pc ls st mem k n
theorem mm_go_WP {S : mm_S} {Al : Nat → Nat × Nat} {Df : Nat → List Value} {B : Nat × Nat} {cd : mm_C} {Q : mm_Q} {stops : List Nat} (f : Nat) : ∀ (pc : Nat) (ls : mm_L) (st : List Value) (mem : mm_M) (k n : Nat), mm_go S Al Df B cd Q stops f pc ls st mem k n → mm_WP S Al Df B cd Q pc ls st mem k n := by
  induction f with
  | zero => exact fun _ _ _ _ _ _ h => h
  | succ f ih =>
    intro pc ls st mem k n h
    unfold mm_go at h
    revert h
    split
    · exact fun h => h
    · exact fun h => mm_WP.step (mm_step_mono ih h)
/-- a walk: one step, then on and on up to the stops -/
theorem mm_WP.go {S : mm_S} {Al : Nat → Nat × Nat} {Df : Nat → List Value} {B : Nat × Nat} {cd : mm_C} {Q : mm_Q} (stops : List Nat) (f : Nat) {pc : Nat} {ls : mm_L} {st : List Value} {mem : mm_M} {k n : Nat} (h : mm_step S Al Df B cd Q (mm_go S Al Df B cd Q stops f) pc ls st mem k n) : mm_WP S Al Df B cd Q pc ls st mem k n :=
  mm_WP.step (mm_step_mono (mm_go_WP f) h)
theorem mm_WP.mono {S : mm_S} {Al : Nat → Nat × Nat} {Df : Nat → List Value} {B : Nat × Nat} {cd : mm_C} {Q Q' : mm_Q} (hQ : ∀ r m, Q r m → Q' r m) {pc : Nat} {ls : mm_L} {st : List Value} {mem : mm_M} {k n : Nat} (h : mm_WP S Al Df B cd Q pc ls st mem k n) : mm_WP S Al Df B cd Q' pc ls st mem k n := by
  refine h (mm_WP S Al Df B cd Q') (fun pc ls st mem k n h => mm_WP.step ?_)
  unfold mm_step at h ⊢
  revert h
  split
  · exact fun h => h
  · unfold mm_ins
    repeat' split
    all_goals first
      | exact fun h => h
      | exact hQ _ _
      | exact fun h => ⟨h.1, hQ _ _ h.2⟩
def mm_lay : List Value → mm_L
  | [] => []
  | .long x :: t => some (.long x) :: none :: mm_lay t
  | .double x :: t => some (.double x) :: none :: mm_lay t
  | v :: t => some v :: mm_lay t
def mm_rep : Nat → mm_L
  | 0 => []
  | n + 1 => none :: mm_rep n
def mm_args (n : Nat) (as : List Value) : mm_L := mm_lay as ++ mm_rep (n - (mm_lay as).length)
/-- a method: its code, the size of its locals, the number (and one) of its receiver's class (0: static) -/
abbrev mm_Y : Type := mm_C × Nat × Nat
def mm_recv (ci : Nat) (as : List Value) (mem : mm_M) : Prop := match ci with
  | 0 => True
  | c + 1 => match as with
    | .ref r :: _ => ∃ fs : List Value, mm_nth mem r = some (.inr (c, fs))
    | _ => False
/-- what a call does, with calls open at most so deep -/
def mm_Sp (Pg : Nat → mm_Y) (Al : Nat → Nat × Nat) (Df : Nat → List Value) : Nat → mm_S
  | 0 => fun _ _ _ _ => False
  | d + 1 => fun j as mem Q => mm_recv (Pg j).2.2 as mem ∧ Nat.ble (mm_lay as).length (Pg j).2.1 = true ∧ mm_WP (mm_Sp Pg Al Df d) Al Df (Al j) (Pg j).1 Q 0 (mm_args (Pg j).2.1 as) [] mem 0 0
end
section
/-! the small machine's locals and stack beside the real ones -/
def mm_v (g : Nat → Nat) : Value → Value
  | .ref k => .ref (g k)
  | v => v
theorem mm_v_cat (g : Nat → Nat) (v : Value) : (mm_v g v).category = v.category := by cases v <;> rfl
def mm_LR (g : Nat → Nat) (nL : Nat) (ls : mm_L) (lr : Array Slot) : Prop :=
  ls.length = nL ∧ lr.size = nL ∧ lv_wf lr ∧ ∀ (i : Nat) (v : Value), mm_nth ls i = some (some v) → lr[i]? = some (.val (mm_v g v))
theorem mm_nth_lt {α : Type} : ∀ {l : List α} {i : Nat} {x : α}, mm_nth l i = some x → i < l.length
  | [], _, _, h => by cases h
  | _ :: _, 0, _, _ => Nat.succ_pos _
  | _ :: t, n + 1, x, h => Nat.succ_lt_succ (mm_nth_lt (l := t) h)
theorem mm_set_len {α : Type} : ∀ (l : List α) (i : Nat) (x : α), (mm_set l i x).length = l.length
  | [], _, _ => rfl
  | _ :: _, 0, _ => rfl
  | _ :: t, n + 1, x => congrArg Nat.succ (mm_set_len t n x)
theorem mm_nth_set {α : Type} : ∀ (l : List α) (i j : Nat) (x : α), mm_nth (mm_set l i x) j = if j = i ∧ i < l.length then some x else mm_nth l j
  | [], i, j, x => by simp [mm_set, mm_nth]
  | y :: t, 0, 0, x => by simp [mm_set, mm_nth]
  | y :: t, 0, j + 1, x => by simp [mm_set, mm_nth]
  | y :: t, i + 1, 0, x => by simp [mm_set, mm_nth]
  | y :: t, i + 1, j + 1, x => by
    have h := mm_nth_set t i j x
    simp only [mm_set, mm_nth, h, List.length_cons, Nat.add_lt_add_iff_right, Nat.add_right_cancel_iff]
theorem mm_nth_eq {α : Type} : ∀ (l : List α) (i : Nat), mm_nth l i = l[i]?
  | [], _ => by simp [mm_nth]
  | _ :: _, 0 => by simp [mm_nth]
  | _ :: t, n + 1 => by simp [mm_nth, mm_nth_eq t n]
theorem mm_set_eq {α : Type} : ∀ (l : List α) (i : Nat) (x : α), mm_set l i x = l.set i x
  | [], _, _ => rfl
  | _ :: _, 0, _ => rfl
  | _ :: t, n + 1, x => by simp [mm_set, mm_set_eq t n x]
/-- the listed pairs of the locals -/
def mm_prs (g : Nat → Nat) : Nat → mm_L → List (Nat × Value)
  | _, [] => []
  | i, some v :: t => (i, mm_v g v) :: mm_prs g (i + 1) t
  | i, none :: t => mm_prs g (i + 1) t
theorem mm_prs_mem {g : Nat → Nat} : ∀ (ls : mm_L) (i : Nat) (q : Nat × Value), q ∈ mm_prs g i ls ↔ ∃ (j : Nat) (v : Value), mm_nth ls j = some (some v) ∧ q = (i + j, mm_v g v)
  | [], i, q => by simp [mm_prs, mm_nth]
  | some w :: t, i, q => by
    rw [mm_prs, List.mem_cons, mm_prs_mem t (i + 1) q]
    constructor
    · rintro (h | ⟨j, v, h1, h2⟩)
      · exact ⟨0, w, rfl, by rw [h]; rfl⟩
      · exact ⟨j + 1, v, h1, by rw [h2]; congr 1; omega⟩
    · rintro ⟨j, v, h1, h2⟩
      cases j with
      | zero => cases h1; exact Or.inl h2
      | succ j => exact Or.inr ⟨j, v, h1, by rw [h2]; congr 1; omega⟩
  | none :: t, i, q => by
    rw [mm_prs, mm_prs_mem t (i + 1) q]
    constructor
    · rintro ⟨j, v, h1, h2⟩
      exact ⟨j + 1, v, h1, by rw [h2]; congr 1; omega⟩
    · rintro ⟨j, v, h1, h2⟩
      cases j with
      | zero => cases h1
      | succ j => exact ⟨j, v, h1, by rw [h2]; congr 1; omega⟩
theorem mm_LR.has {g : Nat → Nat} {nL : Nat} {ls : mm_L} {lr : Array Slot} (h : mm_LR g nL ls lr) : lv_has lr nL (mm_prs g 0 ls) := by
  refine ⟨h.2.1, h.2.2.1, fun q hq => ?_⟩
  obtain ⟨j, v, h1, h2⟩ := (mm_prs_mem ls 0 q).mp hq
  subst h2
  simpa using h.2.2.2 j v h1
theorem mm_LR.at {g : Nat → Nat} {nL : Nat} {ls : mm_L} {lr : Array Slot} (h : mm_LR g nL ls lr) {i : Nat} {v : Value} (hi : mm_nth ls i = some (some v)) : lr[i]? = some (.val (mm_v g v)) := h.2.2.2 i v hi
theorem mm_LR.put1 {g : Nat → Nat} {nL : Nat} {ls ls' : mm_L} {lr lr' : Array Slot} {i : Nat} {v : Value} (h : mm_LR g nL ls lr) (hp : mm_put1 ls i v = some ls')
    (hh : lv_has lr' nL ((i, mm_v g v) :: (mm_prs g 0 ls).filter (fun q => !(q.1 == i) && !(q.1 + 1 == i && q.2.category == 2)))) : mm_LR g nL ls' lr' := by
  unfold mm_put1 at hp
  split at hp
  · rename_i x hx hok
    cases hp
    refine ⟨by rw [mm_set_len]; exact h.1, hh.1, hh.2.1, fun j w hj => ?_⟩
    rw [mm_nth_set] at hj
    split at hj
    · rename_i hc
      obtain ⟨rfl, -⟩ := hc
      cases hj
      exact hh.2.2 (j, mm_v g v) List.mem_cons_self
    · rename_i hc
      have hne : j ≠ i := fun e => hc ⟨e, mm_nth_lt hx⟩
      refine hh.2.2 (j, mm_v g w) (List.mem_cons_of_mem _ (List.mem_filter.mpr ⟨(mm_prs_mem ls 0 _).mpr ⟨j, w, hj, by simp⟩, ?_⟩))
      simp only [Bool.and_eq_true, Bool.not_eq_true', beq_eq_false_iff_ne, ne_eq, Bool.and_eq_false_iff, mm_v_cat]
      refine ⟨hne, ?_⟩
      by_cases e : j + 1 = i
      · right
        subst e
        have hok : mm_ok ls (j + 1) = true := hok
        simp only [mm_ok, hj] at hok
        cases w <;> first | (intro hh; cases hh; done) | (simp [mm_long] at hok; done) | (simp [Value.category])
      · exact Or.inl e
  · cases hp
theorem mm_LR.put2 {g : Nat → Nat} {nL : Nat} {ls ls' : mm_L} {lr lr' : Array Slot} {i : Nat} {v : Value} (h : mm_LR g nL ls lr) (hp : mm_put2 ls i v = some ls')
    (hh : lv_has lr' nL ((i, mm_v g v) :: (mm_prs g 0 ls).filter (fun q => !(q.1 == i) && (!(q.1 == i + 1) && !(q.1 + 1 == i && q.2.category == 2))))) : mm_LR g nL ls' lr' := by
  unfold mm_put2 at hp
  split at hp
  · rename_i x hx hok
    cases hp
    refine ⟨by rw [mm_set_len, mm_set_len]; exact h.1, hh.1, hh.2.1, fun j w hj => ?_⟩
    rw [mm_nth_set] at hj
    split at hj
    · cases hj
    · rename_i hc
      rw [mm_set_len] at hc
      rw [mm_nth_set] at hj
      have hne1 : j ≠ i + 1 := fun e => hc ⟨e, mm_nth_lt hx⟩
      split at hj
      · rename_i hc2
        obtain ⟨rfl, -⟩ := hc2
        cases hj
        exact hh.2.2 (j, mm_v g v) List.mem_cons_self
      · rename_i hc2
        have hne : j ≠ i := fun e => hc2 ⟨e, Nat.lt_of_succ_lt (mm_nth_lt hx)⟩
        refine hh.2.2 (j, mm_v g w) (List.mem_cons_of_mem _ (List.mem_filter.mpr ⟨(mm_prs_mem ls 0 _).mpr ⟨j, w, hj, by simp⟩, ?_⟩))
        simp only [Bool.and_eq_true, Bool.not_eq_true', beq_eq_false_iff_ne, ne_eq, Bool.and_eq_false_iff, mm_v_cat]
        refine ⟨hne, hne1, ?_⟩
        by_cases e : j + 1 = i
        · right
          subst e
          have hok : mm_ok ls (j + 1) = true := hok
          simp only [mm_ok, hj] at hok
          cases w <;> first | (intro hh; cases hh; done) | (simp [mm_long] at hok; done) | (simp [Value.category])
        · exact Or.inl e
  · cases hp
theorem mm_put1_lt {ls ls' : mm_L} {i : Nat} {v : Value} (h : mm_put1 ls i v = some ls') : i < ls.length := by
  unfold mm_put1 at h
  split at h
  · rename_i x hx hok
    exact mm_nth_lt hx
  · cases h
theorem mm_put2_lt {ls ls' : mm_L} {i : Nat} {v : Value} (h : mm_put2 ls i v = some ls') : i + 1 < ls.length := by
  unfold mm_put2 at h
  split at h
  · rename_i x hx hok
    exact mm_nth_lt hx
  · cases h
/-- what an instruction of locals and stack must be in the code -/
def mm_okp (cc : ByteArray) (pc : Nat) (ins : Instr) (nx a : Nat) (sw : List (Int32 × Nat)) (lc : Int64) : Prop :=
  match ins with
  | .iconst i => decode cc pc = .ok (.iconst i, 1) ∧ nx = pc + 1 ∧ ∃ v r, sw = (v, r) :: [] ∧ Int32.ofInt i = v
  | .bipush i => decode cc pc = .ok (.bipush i, 2) ∧ nx = pc + 2 ∧ ∃ v r, sw = (v, r) :: [] ∧ (Int8.ofInt i).toInt32 = v
  | .sipush i => decode cc pc = .ok (.sipush i, 3) ∧ nx = pc + 3 ∧ ∃ v r, sw = (v, r) :: [] ∧ (Int16.ofInt i).toInt32 = v
  | .lconst i => decode cc pc = .ok (.lconst i, 1) ∧ nx = pc + 1 ∧ Int64.ofNat (i : Nat) = lc
  | .iload i => decode cc pc = .ok (.iload i, 2) ∧ nx = pc + 2 ∧ i = a
  | .lload i => decode cc pc = .ok (.lload i, 2) ∧ nx = pc + 2 ∧ i = a
  | .aload i => decode cc pc = .ok (.aload i, 2) ∧ nx = pc + 2 ∧ i = a
  | .iload_n i => decode cc pc = .ok (.iload_n i, 1) ∧ nx = pc + 1 ∧ (i : Nat) = a
  | .lload_n i => decode cc pc = .ok (.lload_n i, 1) ∧ nx = pc + 1 ∧ (i : Nat) = a
  | .aload_n i => decode cc pc = .ok (.aload_n i, 1) ∧ nx = pc + 1 ∧ (i : Nat) = a
  | .istore i => decode cc pc = .ok (.istore i, 2) ∧ nx = pc + 2 ∧ i = a
  | .lstore i => decode cc pc = .ok (.lstore i, 2) ∧ nx = pc + 2 ∧ i = a
  | .astore i => decode cc pc = .ok (.astore i, 2) ∧ nx = pc + 2 ∧ i = a
  | .istore_n i => decode cc pc = .ok (.istore_n i, 1) ∧ nx = pc + 1 ∧ (i : Nat) = a
  | .lstore_n i => decode cc pc = .ok (.lstore_n i, 1) ∧ nx = pc + 1 ∧ (i : Nat) = a
  | .astore_n i => decode cc pc = .ok (.astore_n i, 1) ∧ nx = pc + 1 ∧ (i : Nat) = a
  | .iinc i z => decode cc pc = .ok (.iinc i z, 3) ∧ nx = pc + 3 ∧ i = a ∧ ∃ v r, sw = (v, r) :: [] ∧ Int32.ofInt z = v
  | .iadd => decode cc pc = .ok (.iadd, 1) ∧ nx = pc + 1
  | .isub => decode cc pc = .ok (.isub, 1) ∧ nx = pc + 1
  | .imul => decode cc pc = .ok (.imul, 1) ∧ nx = pc + 1
  | .iand => decode cc pc = .ok (.iand, 1) ∧ nx = pc + 1
  | .ior => decode cc pc = .ok (.ior, 1) ∧ nx = pc + 1
  | .ixor => decode cc pc = .ok (.ixor, 1) ∧ nx = pc + 1
  | .ineg => decode cc pc = .ok (.ineg, 1) ∧ nx = pc + 1
  | .ishl => decode cc pc = .ok (.ishl, 1) ∧ nx = pc + 1
  | .ishr => decode cc pc = .ok (.ishr, 1) ∧ nx = pc + 1
  | .iushr => decode cc pc = .ok (.iushr, 1) ∧ nx = pc + 1
  | .ladd => decode cc pc = .ok (.ladd, 1) ∧ nx = pc + 1
  | .lmul => decode cc pc = .ok (.lmul, 1) ∧ nx = pc + 1
  | .land => decode cc pc = .ok (.land, 1) ∧ nx = pc + 1
  | .lor => decode cc pc = .ok (.lor, 1) ∧ nx = pc + 1
  | .lshl => decode cc pc = .ok (.lshl, 1) ∧ nx = pc + 1
  | .lshr => decode cc pc = .ok (.lshr, 1) ∧ nx = pc + 1
  | .lushr => decode cc pc = .ok (.lushr, 1) ∧ nx = pc + 1
  | .i2l => decode cc pc = .ok (.i2l, 1) ∧ nx = pc + 1
  | .l2i => decode cc pc = .ok (.l2i, 1) ∧ nx = pc + 1
  | .lcmp => decode cc pc = .ok (.lcmp, 1) ∧ nx = pc + 1
  | .dup => decode cc pc = .ok (.dup, 1) ∧ nx = pc + 1
  | .dup2 => decode cc pc = .ok (.dup2, 1) ∧ nx = pc + 1
  | _ => False
section MMP
variable {p : Program} {l : Launch} {e : Env} {R : Room} {s : State} {m : MethodId} {args : Array Value} {below : List Frame} {meth : Method} {c : Code} {H : Heap} {locs : List Loc} {cells slots : Nat} {Q : State → Prop}
variable {cc : ByteArray} {pc nx a : Nat} {lr : Array Slot} {g : Nat → Nat} {nL : Nat} {ls ls' : mm_L} {st st' : List Value} {sw : List (Int32 × Nat)} {lc : Int64}
set_option maxHeartbeats 4000000 in
theorem mm_pure_ok (hx : p.tables.exec = Jvm.exec) (hb : c.code = cc) (ins : Instr) (hok : mm_okp cc pc ins nx a sw lc) (hl : mm_LR g nL ls lr) (h : mm_pure ins a sw lc ls st = some (ls', st'))
    (kk : ∀ lr' : Array Slot, mm_LR g nL ls' lr' → W p l e R s m args below meth c H locs cells slots Q (F0 m nx lr' (st'.map (mm_v g)))) : W p l e R s m args below meth c H locs cells slots Q (F0 m pc lr (st.map (mm_v g))) := by
  have hlen := hl.1
  unfold mm_pure at h
  split at h
  -- iconst, bipush, sipush
  · obtain ⟨hd, rfl, v, r, rfl, hv⟩ := hok
    cases h
    exact lv_iconst hx hb hd hv (kk lr hl)
  · obtain ⟨hd, rfl, v, r, rfl, hv⟩ := hok
    cases h
    exact lv_bipush hx hb hd hv (kk lr hl)
  · obtain ⟨hd, rfl, v, r, rfl, hv⟩ := hok
    cases h
    exact lv_sipush hx hb hd hv (kk lr hl)
  · exact hok.elim
  · exact hok.elim
  · obtain ⟨hd, rfl, hv⟩ := hok
    cases h
    exact lv_lconst hx hb hd hv (kk lr hl)
  · exact hok.elim
  -- loads
  · obtain ⟨hd, rfl, rfl⟩ := hok
    split at h
    · rename_i x hi
      cases h
      exact lv_iload hx hb hd (hl.at hi) (kk lr hl)
    · cases h
  · obtain ⟨hd, rfl, hi0⟩ := hok
    split at h
    · rename_i x hi
      cases h
      exact lv_iload_n hx hb hd hi0 (hl.at hi) (kk lr hl)
    · cases h
  · obtain ⟨hd, rfl, rfl⟩ := hok
    split at h
    · rename_i x hi
      cases h
      exact lv_lload hx hb hd (hl.at hi) (kk lr hl)
    · cases h
  · obtain ⟨hd, rfl, hi0⟩ := hok
    split at h
    · rename_i x hi
      cases h
      exact lv_lload_n hx hb hd hi0 (hl.at hi) (kk lr hl)
    · cases h
  · obtain ⟨hd, rfl, rfl⟩ := hok
    split at h
    · rename_i x hi
      cases h
      exact lv_aload hx hb hd (hl.at hi) (kk lr hl)
    · cases h
  · obtain ⟨hd, rfl, hi0⟩ := hok
    split at h
    · rename_i x hi
      cases h
      exact lv_aload_n hx hb hd hi0 (hl.at hi) (kk lr hl)
    · cases h
  -- stores
  · obtain ⟨hd, rfl, rfl⟩ := hok
    split at h
    · rename_i x st0
      split at h
      · rename_i ls0 hp
        cases h
        exact lv_istore hx hb hd hl.has (by rw [← hlen]; exact mm_put1_lt hp) rfl (fun lr' h' => kk lr' (hl.put1 hp h'))
      · cases h
    · cases h
  · obtain ⟨hd, rfl, hi0⟩ := hok
    split at h
    · rename_i x st0
      split at h
      · rename_i ls0 hp
        cases h
        exact lv_istore_n hx hb hd hi0 hl.has (by rw [← hlen]; exact mm_put1_lt hp) rfl (fun lr' h' => kk lr' (hl.put1 hp h'))
      · cases h
    · cases h
  · obtain ⟨hd, rfl, rfl⟩ := hok
    split at h
    · rename_i x st0
      split at h
      · rename_i ls0 hp
        cases h
        exact lv_astore hx hb hd hl.has (by rw [← hlen]; exact mm_put1_lt hp) rfl (fun lr' h' => kk lr' (hl.put1 hp h'))
      · cases h
    · cases h
  · obtain ⟨hd, rfl, hi0⟩ := hok
    split at h
    · rename_i x st0
      split at h
      · rename_i ls0 hp
        cases h
        exact lv_astore_n hx hb hd hi0 hl.has (by rw [← hlen]; exact mm_put1_lt hp) rfl (fun lr' h' => kk lr' (hl.put1 hp h'))
      · cases h
    · cases h
  · obtain ⟨hd, rfl, rfl⟩ := hok
    split at h
    · rename_i x st0
      split at h
      · rename_i ls0 hp
        cases h
        exact lv_lstore hx hb hd hl.has (by rw [← hlen]; exact mm_put2_lt hp) rfl (fun lr' h' => kk lr' (hl.put2 hp h'))
      · cases h
    · cases h
  · obtain ⟨hd, rfl, hi0⟩ := hok
    split at h
    · rename_i x st0
      split at h
      · rename_i ls0 hp
        cases h
        exact lv_lstore_n hx hb hd hi0 hl.has (by rw [← hlen]; exact mm_put2_lt hp) rfl (fun lr' h' => kk lr' (hl.put2 hp h'))
      · cases h
    · cases h
  -- iinc
  · obtain ⟨hd, rfl, rfl, v, r, rfl, hv⟩ := hok
    split at h
    · rename_i x hi
      dsimp only at h
      split at h
      · rename_i ls0 hp
        cases h
        subst hv
        obtain ⟨j, hj⟩ := List.getElem?_of_mem ((mm_prs_mem ls 0 _).mpr ⟨_, _, hi, rfl⟩)
        rw [Nat.zero_add] at hj
        exact lv_iinc hx hb hd hl.has hj rfl (by rw [← hlen]; exact mm_put1_lt hp) rfl (fun lr' h' => kk lr' (hl.put1 hp h'))
      · cases h
    · cases h
  · obtain ⟨hd, rfl⟩ := hok
    split at h
    · cases h
      refine lv_iadd hx hb hd ?_
      exact kk lr hl
    · cases h
  · obtain ⟨hd, rfl⟩ := hok
    split at h
    · cases h
      refine lv_isub hx hb hd ?_
      exact kk lr hl
    · cases h
  · obtain ⟨hd, rfl⟩ := hok
    split at h
    · cases h
      refine lv_imul hx hb hd ?_
      exact kk lr hl
    · cases h
  · obtain ⟨hd, rfl⟩ := hok
    split at h
    · cases h
      refine lv_iand hx hb hd ?_
      exact kk lr hl
    · cases h
  · obtain ⟨hd, rfl⟩ := hok
    split at h
    · cases h
      refine lv_ior hx hb hd ?_
      exact kk lr hl
    · cases h
  · obtain ⟨hd, rfl⟩ := hok
    split at h
    · cases h
      refine lv_ixor hx hb hd ?_
      exact kk lr hl
    · cases h
  · obtain ⟨hd, rfl⟩ := hok
    split at h
    · cases h
      refine lv_ineg hx hb hd ?_
      exact kk lr hl
    · cases h
  · obtain ⟨hd, rfl⟩ := hok
    split at h
    · cases h
      refine lv_ishl hx hb hd ?_
      exact kk lr hl
    · cases h
  · obtain ⟨hd, rfl⟩ := hok
    split at h
    · cases h
      refine lv_ishr hx hb hd ?_
      exact kk lr hl
    · cases h
  · obtain ⟨hd, rfl⟩ := hok
    split at h
    · cases h
      refine lv_iushr hx hb hd rfl ?_
      exact kk lr hl
    · cases h
  · obtain ⟨hd, rfl⟩ := hok
    split at h
    · cases h
      refine lv_ladd hx hb hd ?_
      exact kk lr hl
    · cases h
  · obtain ⟨hd, rfl⟩ := hok
    split at h
    · cases h
      refine lv_lmul hx hb hd ?_
      exact kk lr hl
    · cases h
  · obtain ⟨hd, rfl⟩ := hok
    split at h
    · cases h
      refine lv_land hx hb hd ?_
      exact kk lr hl
    · cases h
  · obtain ⟨hd, rfl⟩ := hok
    split at h
    · cases h
      refine lv_lor hx hb hd ?_
      exact kk lr hl
    · cases h
  · obtain ⟨hd, rfl⟩ := hok
    split at h
    · cases h
      refine lv_lshl hx hb hd rfl ?_
      exact kk lr hl
    · cases h
  · obtain ⟨hd, rfl⟩ := hok
    split at h
    · cases h
      refine lv_lshr hx hb hd rfl ?_
      exact kk lr hl
    · cases h
  · obtain ⟨hd, rfl⟩ := hok
    split at h
    · cases h
      refine lv_lushr hx hb hd rfl ?_
      exact kk lr hl
    · cases h
  · obtain ⟨hd, rfl⟩ := hok
    split at h
    · cases h
      refine lv_i2l hx hb hd rfl ?_
      exact kk lr hl
    · cases h
  · obtain ⟨hd, rfl⟩ := hok
    split at h
    · cases h
      refine lv_l2i hx hb hd rfl ?_
      exact kk lr hl
    · cases h
  · obtain ⟨hd, rfl⟩ := hok
    split at h
    · cases h
      refine W.lcmp hx hb hd ?_
      exact kk lr hl
    · cases h
  · obtain ⟨hd, rfl⟩ := hok
    split at h
    · cases h
      refine lv_dup hx hb hd rfl ?_
      exact kk lr hl
    · cases h
      refine lv_dup hx hb hd rfl ?_
      exact kk lr hl
    · cases h
  · obtain ⟨hd, rfl⟩ := hok
    split at h
    · cases h
      refine lv_dup2_11 hx hb hd rfl rfl ?_
      exact kk lr hl
    · cases h
  · cases h
end MMP
end
section
/-! the small machine's cells beside the heap -/
def mm_g (sa : Nat → Nat) (base k : Nat) : Nat := if k < 6 then sa k else base + (k - 6)
theorem mm_g_own {sa : Nat → Nat} {base k : Nat} (h : 6 ≤ k) : mm_g sa base k = base + (k - 6) := if_neg (by omega)
theorem mm_g_st {sa : Nat → Nat} {base k : Nat} (h : k < 6) : mm_g sa base k = sa k := if_pos h
def mm_cv (g : Nat → Nat) (cA : Nat → ClassId) : va_E → va_E
  | .inl (t, n, .inl f) => .inl (cA t, n, .inl f)
  | .inl (t, n, .inr (.inr (.inr (.inr f)))) => .inl (cA t, n, .inr (.inr (.inr (.inr (fun j => (f j).map g)))))
  | .inl (t, n, .inr (.inl f)) => .inl (cA t, n, .inr (.inl f))
  | .inl (t, n, .inr (.inr (.inl f))) => .inl (cA t, n, .inr (.inr (.inl f)))
  | .inl (t, n, .inr (.inr (.inr (.inl f)))) => .inl (cA t, n, .inr (.inr (.inr (.inl f))))
  | .inr (ci, fs) => .inr (ci, fs.map (mm_v g))
/-- the heap holds the cells: from base on those that were made, in their order; the script and the tables are as they were -/
def mm_Rep (g : Nat → Nat) (base : Nat) (dC : Nat → ClassId) (dI : Nat → Nat → Nat) (cA : Nat → ClassId) (sN : Nat → Nat) (sf : Nat → Nat → Int32) (mem : mm_M) (H : Heap) : Prop :=
  (6 ≤ mem.length ∧ H.size + 6 = base + mem.length) ∧ (∀ k, k < 6 → mm_nth mem k = some (.inl (0, sN k, .inl (sf k)))) ∧ ∀ (i : Nat) (e : va_E), 6 ≤ i → mm_nth mem i = some e → va_at (dC, dI) vwCl (base + (i - 6), mm_cv g cA e) H
theorem mm_nth_app {α : Type} : ∀ (l : List α) (x : α) (i : Nat), mm_nth (l ++ [x]) i = if i = l.length then some x else mm_nth l i
  | [], x, 0 => rfl
  | [], x, i + 1 => by simp [mm_nth]
  | y :: t, x, 0 => by simp [mm_nth]
  | y :: t, x, i + 1 => by
    have h := mm_nth_app t x i
    simp only [List.cons_append, mm_nth, h, List.length_cons, Nat.add_right_cancel_iff]
section MME
variable {g : Nat → Nat} {base : Nat} {dC : Nat → ClassId} {dI : Nat → Nat → Nat} {cA : Nat → ClassId} {sN : Nat → Nat} {sf : Nat → Nat → Int32} {mem : mm_M} {H H1 : Heap}
theorem mm_Rep.set (h : mm_Rep g base dC dI cA sN sf mem H) {r : Nat} {e0 e : va_E} (hr : 6 ≤ r) (h0 : mm_nth mem r = some e0) (z : H1.size = H.size) (oq : ∀ q : Nat, q ≠ base + (r - 6) → H1[q]? = H[q]?) (he : va_at (dC, dI) vwCl (base + (r - 6), mm_cv g cA e) H1) : mm_Rep g base dC dI cA sN sf (mm_set mem r e) H1 := by
  obtain ⟨⟨h1, h2⟩, h3, h4⟩ := h
  refine ⟨⟨by rw [mm_set_len]; exact h1, by rw [mm_set_len, z]; exact h2⟩, fun k hk => ?_, fun i x hi hx => ?_⟩
  · rw [mm_nth_set, if_neg (by omega)]
    exact h3 k hk
  · rw [mm_nth_set] at hx
    split at hx
    · rename_i hc
      cases hx
      rw [hc.1]
      exact he
    · rename_i hc
      have hne : i ≠ r := fun q => hc ⟨q, mm_nth_lt h0⟩
      exact (h4 i x hi hx).kept (oq _ (by show base + (i - 6) ≠ _; omega))
theorem mm_Rep.push (h : mm_Rep g base dC dI cA sN sf mem H) {e : va_E} (z : H1.size = H.size + 1) (oq : ∀ q : Nat, q < H.size → H1[q]? = H[q]?) (he : va_at (dC, dI) vwCl (H.size, mm_cv g cA e) H1) : mm_Rep g base dC dI cA sN sf (mem ++ [e]) H1 := by
  obtain ⟨⟨h1, h2⟩, h3, h4⟩ := h
  refine ⟨⟨by rw [List.length_append]; omega, by rw [List.length_append, z]; simp only [List.length_cons, List.length_nil]; omega⟩, fun k hk => ?_, fun i x hi hx => ?_⟩
  · rw [mm_nth_app, if_neg (by omega)]
    exact h3 k hk
  · rw [mm_nth_app] at hx
    split at hx
    · rename_i hc
      cases hx
      rw [hc, show base + (mem.length - 6) = H.size by omega]
      exact he
    · have hlt := mm_nth_lt hx
      exact (h4 i x hi hx).kept (oq _ (by show base + (i - 6) < _; omega))
theorem mm_Rep.one (h : mm_Rep g base dC dI cA sN sf mem H) {r : Nat} {e : va_E} (hr : 6 ≤ r) (h0 : mm_nth mem r = some e) : va_P (dC, dI) vwCl [(base + (r - 6), mm_cv g cA e)] H := by
  intro k q hk
  cases k with
  | zero => cases hk; exact h.2.2 r e hr h0
  | succ k => cases hk
end MME
/-- the names of the tables -/
def mm_snm : Nat → String
  | 1 => "FIRST_OF_KIND"
  | 2 => "JOINED_MARKS"
  | 3 => "PLACE_OF_WHO"
  | 4 => "PLACE_OF_DOING"
  | _ => "PLACE_OF_WHOM"
def mm_nest : Jvm.Cond → Bool
  | .fieldLinkNest .. => true
  | .methodLinkNest .. => true
  | _ => false
abbrev mm_tys (cA : Nat → ClassId) : List (ClassId × FieldType) := [(cA 0, .int), (cA 1, .boolean), (cA 2, .object RX3)]
/-- what the tables say at a state -/
def mm_Vm (dC : Nat → ClassId) (dI : Nat → Nat → Nat) (cA : Nat → ClassId) (U : State) : Prop :=
  (∀ w ∈ lw_tbl, goodWord w = true → w.before #[] U = true) ∧ (∀ w ∈ lw_tbl, mm_nest w = true → va_Nw w U) ∧ va_AO RX3 U ∧ va_K (dC, dI) vwCl (mm_tys cA) U
theorem mm_Vm.moved {dC : Nat → ClassId} {dI : Nat → Nat → Nat} {cA : Nat → ClassId} {s U : State} (hW : s.WarmedH U.vm) (h : mm_Vm dC dI cA s) : mm_Vm dC dI cA U := by
  refine ⟨fun w hw hg => word_at hW (good_of_word hg) (h.1 w hw hg), fun w hw hn => ?_, h.2.2.1.moved hW.alike, h.2.2.2.moved hW.alike⟩
  have h2 := h.2.1 w hw hn
  cases w <;> first | (exact va_Nw.warmF hW h2) | (exact va_Nw.warmM hW h2) | (cases hn)
theorem mm_Vm.word {dC : Nat → ClassId} {dI : Nat → Nat → Nat} {cA : Nat → ClassId} {U : State} (h : mm_Vm dC dI cA U) {w : Jvm.Cond} (hw : w ∈ lw_tbl) (hg : goodWord w = true) (a : Array Value) : w.before a U = true :=
  word_at (State.WarmedH.refl U) (good_of_word hg) (h.1 w hw hg)
/-- what lies ahead of base: the script, the tables, and the statics that hold these -/
def mm_St (g : Nat → Nat) (base : Nat) (sN : Nat → Nat) (sf : Nat → Nat → Int32) (U : State) (H : Heap) : Prop :=
  (∀ k, k < 6 → va_T .int (g k) (sN k) (fun j => .int (sf k j)) (fun q => base ≤ q) U H) ∧ ∀ k, 1 ≤ k → k < 6 → va_Z RX6 (mm_snm k) "[I" (.ref (g k)) (fun q => base ≤ q) U H
theorem mm_St.moved {g : Nat → Nat} {base : Nat} {sN : Nat → Nat} {sf : Nat → Nat → Int32} {u U : State} {H : Heap} (hvm : u.vm.Alike U.vm) (h : mm_St g base sN sf u H) : mm_St g base sN sf U H :=
  ⟨fun k hk => (h.1 k hk).moved hvm, fun k h1 h2 => (h.2 k h1 h2).moved hvm⟩
theorem mm_St.kept {g : Nat → Nat} {base : Nat} {sN : Nat → Nat} {sf : Nat → Nat → Int32} {U : State} {H H1 : Heap} (h : mm_St g base sN sf U H) (hq : ∀ a : Nat, a < H.size → ¬ base ≤ a → H1[a]? = H[a]?) : mm_St g base sN sf U H1 :=
  ⟨fun k hk => (h.1 k hk).kept hq, fun k h1 h2 => (h.2 k h1 h2).kept hq⟩
theorem mm_words : lw_tbl.all (fun w => goodWord w || mm_nest w || w == .arrayOver (.object RX3) || (match w with | .laysStatic .. => true | .superclass .. => true | .soleField .. => true | .privateMethod .. => true | _ => false)) = true := by decide +kernel
end
section
/-! instructions on cells, beside the heap -/
def mm_tG : List Jvm.Cond := lw_tbl.filter goodWord
theorem mm_inG {w : Jvm.Cond} (h : w ∈ lw_tbl) (hg : goodWord w = true) : w ∈ mm_tG := List.mem_filter.mpr ⟨h, hg⟩
theorem mm_wsG0 : ∀ w ∈ wsX00, w ∈ mm_tG := by decide +kernel
theorem mm_wsG1 : ∀ w ∈ wsX10, w ∈ mm_tG := by decide +kernel
theorem mm_wsG2 : ∀ w ∈ wsX20, w ∈ mm_tG := by decide +kernel
theorem mm_wsG3 : ∀ w ∈ wsX30, w ∈ mm_tG := by decide +kernel
theorem mm_wsG4 : ∀ w ∈ wsX40, w ∈ mm_tG := by decide +kernel
theorem mm_wsG5 : ∀ w ∈ wsX50, w ∈ mm_tG := by decide +kernel
theorem mm_wsG6 : ∀ w ∈ wsX60, w ∈ mm_tG := by decide +kernel
theorem mm_wsG7 : ∀ w ∈ wsX70, w ∈ mm_tG := by decide +kernel
/-- what a class of ours is -/
def mm_okc (ty : Nat → FieldType) (q : vw_C) : Prop := (∀ w ∈ u_ws q.1 q.2.1 q.2.2, w ∈ mm_tG) ∧ (∀ k, k < q.2.2 → parseFieldDescriptor (q.2.1 k).2.2.1 = some (ty k)) ∧ (∀ a, a < q.2.2 → ∀ b, b < q.2.2 → a ≠ b → (q.2.1 a).2.1 ≠ (q.2.1 b).2.1)
def mm_ty : Nat → Nat → FieldType
  | 0 => tyX0
  | 1 => tyX1
  | 2 => tyX2
  | 3 => tyX3
  | 4 => tyX4
  | 5 => tyX5
  | 6 => tyX6
  | _ => tyX7
theorem mm_cls : ∀ (ci : Nat) (q : vw_C), vwCl[ci]? = some q → mm_okc (mm_ty ci) q := by
  intro ci q h
  match ci, h with
  | 0, h => cases h; exact ⟨mm_wsG0, tyX0_ok, nmX0⟩
  | 1, h => cases h; exact ⟨mm_wsG1, tyX1_ok, nmX1⟩
  | 2, h => cases h; exact ⟨mm_wsG2, tyX2_ok, nmX2⟩
  | 3, h => cases h; exact ⟨mm_wsG3, tyX3_ok, nmX3⟩
  | 4, h => cases h; exact ⟨mm_wsG4, tyX4_ok, nmX4⟩
  | 5, h => cases h; exact ⟨mm_wsG5, tyX5_ok, nmX5⟩
  | 6, h => cases h; exact ⟨mm_wsG6, tyX6_ok, nmX6⟩
  | 7, h => cases h; exact ⟨mm_wsG7, tyX7_ok, nmX7⟩
  | k + 8, h => simp [vwCl] at h
/-- what holds all through a method -/
def mm_Cx (p : Program) (s : State) (m : MethodId) (c : Code) (cc : ByteArray) (own : String) (g : Nat → Nat) (base : Nat) (dC : Nat → ClassId) (dI : Nat → Nat → Nat) (cA : Nat → ClassId) (sN : Nat → Nat) (sf : Nat → Nat → Int32) : Prop :=
  p.tables.exec = Jvm.exec ∧ c.code = cc ∧ s.vm.findClass own = some m.cls ∧ mm_Vm dC dI cA s ∧ mm_St g base sN sf s s.heap ∧ base ≤ s.heap.size ∧ ∀ k, 6 ≤ k → g k = base + (k - 6)
theorem mm_Vm.tG {dC : Nat → ClassId} {dI : Nat → Nat → Nat} {cA : Nat → ClassId} {U : State} (h : mm_Vm dC dI cA U) (a : Array Value) : ∀ w ∈ mm_tG, w.before a U = true := fun w hw => by
  obtain ⟨h1, h2⟩ := List.mem_filter.mp hw
  exact h.word h1 h2 a
/-- a field of ours, as an instruction names it -/
def mm_okf (own : String) (idx ci fi : Nat) (q : vw_C) : Prop := vwCl[ci]? = some q ∧ fi < q.2.2 ∧ Jvm.Cond.fieldLink own idx (q.2.1 fi).1 (q.2.1 fi).2.1 (q.2.1 fi).2.2.1 ∈ lw_tbl
def mm_tagty (tag : Nat) (t : FieldType) : Bool := match tag, t with
  | 0, .int => true
  | 1, .boolean => true
  | 2, .object _ => true
  | 2, .array _ => true
  | _, _ => false
section MMC
variable {p : Program} {l : Launch} {e : Env} {R : Room} {s : State} {m : MethodId} {args : Array Value} {below : List Frame} {meth : Method} {c : Code} {H : Heap} {locs : List Loc} {cells slots : Nat} {Q : State → Prop}
variable {cc : ByteArray} {pc : Nat} {lr : Array Slot} {own : String} {g : Nat → Nat} {base : Nat} {dC : Nat → ClassId} {dI : Nat → Nat → Nat} {cA : Nat → ClassId} {sN : Nat → Nat} {sf : Nat → Nat → Int32} {mem : mm_M} {rest : List Value}
theorem mm_own_of (hR : mm_Rep g base dC dI cA sN sf mem H) {r : Nat} {o : Nat × List Value} (hr : mm_nth mem r = some (.inr o)) : 6 ≤ r := by
  rcases Nat.lt_or_ge r 6 with h | h
  · have := hR.2.1 r h
    rw [hr] at this
    cases this
  · exact h
theorem mm_getf (X : mm_Cx p s m c cc own g base dC dI cA sN sf) (hR : mm_Rep g base dC dI cA sN sf mem H) {r idx ci fi : Nat} {q : vw_C} {fs : List Value} {v : Value} (hr : mm_nth mem r = some (.inr (ci, fs))) (hv : mm_nth fs fi = some v) (hf : mm_okf own idx ci fi q) (hdg : decode cc pc = .ok (.getfield idx, 3))
    (kk : W p l e R s m args below meth c H locs cells slots Q (F0 m (pc + 3) lr (mm_v g v :: rest))) : W p l e R s m args below meth c H locs cells slots Q (F0 m pc lr (.ref (g r) :: rest)) := by
  obtain ⟨hx, hb, hown, hV, hSt, hbs, hg⟩ := X
  obtain ⟨hc, hk, hl⟩ := hf
  have h6 := mm_own_of hR hr
  rw [hg r h6]
  exact va_get (C := q.1) (T := q.2.1) (N := q.2.2) (q0 := 0) (fs := fs.map (mm_v g)) hx hb (hV.tG args) (mm_cls ci q hc).1 hown hV.2.2.2 (hR.one h6 hr) rfl hc fi hk (hV.word hl rfl args) (fun _ h9 => h9) (by rw [List.getElem?_map, ← mm_nth_eq, hv]; rfl) hdg kk
theorem mm_fit_ok {tag : Nat} {t : FieldType} {v : Value} (ht : mm_tagty tag t = true) (hf : mm_fit tag v) : narrow t (mm_v g v) = mm_v g v ∧ fits t (mm_v g v) = true := by
  unfold mm_fit at hf
  split at hf
  · cases t <;> first | (exact ⟨rfl, rfl⟩) | (cases ht)
  · cases t <;> first | (cases ht; done) | skip
    rename_i x
    refine ⟨?_, hf⟩
    have h2 : x = 0 ∨ x = 1 := by simpa [fits] using hf
    rcases h2 with rfl | rfl
    · show narrow .boolean (.int 0) = .int 0
      decide +kernel
    · show narrow .boolean (.int 1) = .int 1
      decide +kernel
  · cases t <;> first | (exact ⟨rfl, rfl⟩) | (cases ht)
  · exact hf.elim
theorem mm_putf (X : mm_Cx p s m c cc own g base dC dI cA sN sf) (hR : mm_Rep g base dC dI cA sN sf mem H) (hS : va_S (fun q => base ≤ q) s.heap H locs) {r idx ci fi tag : Nat} {q : vw_C} {fs : List Value} {v v0 : Value} (hr : mm_nth mem r = some (.inr (ci, fs))) (hv : mm_nth fs fi = some v0) (hf : mm_okf own idx ci fi q) (hfit : mm_fit tag v) (htag : mm_tagty tag (mm_ty ci fi) = true) (hfin : (q.2.1 fi).2.2.2 = false ∨ (meth.name = "<init>" ∧ (q.2.1 fi).1 = own)) (hdg : decode cc pc = .ok (.putfield idx, 3))
    (kk : ∀ (H1 : Heap) (locs1 : List Loc), mm_Rep g base dC dI cA sN sf (mm_set mem r (.inr (ci, mm_set fs fi v))) H1 → va_S (fun q => base ≤ q) s.heap H1 locs1 → W p l e R s m args below meth c H1 locs1 cells slots Q (F0 m (pc + 3) lr rest)) : W p l e R s m args below meth c H locs cells slots Q (F0 m pc lr (mm_v g v :: .ref (g r) :: rest)) := by
  obtain ⟨hx, hb, hown, hV, hSt, hbs, hg⟩ := X
  obtain ⟨hc, hk, hl⟩ := hf
  have h6 := mm_own_of hR hr
  obtain ⟨hws, htys, hnm⟩ := mm_cls ci q hc
  obtain ⟨hn, hft⟩ := mm_fit_ok (g := g) htag hfit
  have hts := hV.tG args
  have hap := va_apart (own := own) hts hws (mm_ty ci) htys hnm hV.2.2.2 hc
  obtain ⟨r0, h1, cell, q1, q2, q3, q4⟩ := hR.2.2 r _ h6 hr
  have hr0 : r0 = q := Option.some.inj (h1.symm.trans hc)
  subst hr0
  obtain ⟨hSl, hfc, kC, hkC, hkind⟩ := hV.2.2.2.1 ci _ hc
  obtain ⟨cf, kf, fi0, f, hi, hsl⟩ := hSl fi hk
  have hst := (u_facts hfc hkC (u_lays hts hws hk) hi).1
  have hlay := hts _ (hws _ (u_in_lay hk))
  have hlen : fi < (fs.map (mm_v g)).length := by rw [List.length_map]; exact mm_nth_lt hv
  rw [hg r h6]
  have fin : ∀ (H' : Heap), H'[base + (r - 6)]? = some (cell.setSlot (dI ci fi) (mm_v g v)) → H'.size = H.size → (∀ q, q ≠ base + (r - 6) → H'[q]? = H[q]?) → W p l e R s m args below meth c H' (locs ++ [⟨base + (r - 6), dI ci fi⟩]) cells slots Q (F0 m (pc + 3) lr rest) := by
    intro H' e1 e2 e3
    refine kk H' _ (hR.set h6 hr e2 e3 ?_) (hS.put e2 e3 (Nat.le_add_right _ _))
    refine ⟨r0, hc, t_OB.to (V := updV (vp_V (fs.map (mm_v g))) fi (mm_v g v)) ⟨_, e1, q2, q3, t_set q4 hap hk (mm_v g v)⟩ (fun j _ => ?_)⟩
    rw [vp_updV_set hlen, mm_set_eq, List.map_set]
  rcases hfin with hfin | ⟨hin, hdecl⟩
  · unfold u_lay at hlay
    rw [if_neg (by rw [hfin]; decide)] at hlay
    have h6' := u_store hfc hkC hkind hlay hi (htys fi hk) hn hft
    refine W.putK hx hb (f := f) ⟨hown, hV.word hl rfl args, ⟨_, _, _, hi⟩, hst⟩ (by rw [q2]; exact h6') q1 q3 (by rw [hsl]; exact k2_hasslot (q4 fi hk)) rfl rfl hdg fun H' e1 e2 e3 => ?_
    rw [hsl] at e1 ⊢
    exact fin H' e1 e2 e3
  · by_cases hf2 : (r0.2.1 fi).2.2.2 = true
    · unfold u_lay at hlay
      rw [if_pos hf2] at hlay
      have hcf : m.cls = cf := by
        obtain ⟨_, _, c', _, _, _, -, -, hf', -, -, -, hown2, -⟩ := Cond.laysFinal_spec hlay
        have e1 : c' = cf := by have := hi.symm.trans hf'; simp at this; exact this.1.symm
        rw [hdecl] at hown2
        rw [← e1]; exact Option.some.inj (hown.symm.trans hown2)
      have h6' := u_fits hfc hkC hkind (Or.inr hlay) hi (htys fi hk) hn hft
      refine W.putFinK hx hb hown (hV.word hl rfl args) hi hst hcf hin (by rw [q2]; exact h6') q1 q3 (by rw [hsl]; exact k2_hasslot (q4 fi hk)) rfl rfl hdg fun H' e1 e2 e3 => ?_
      rw [hsl] at e1 ⊢
      exact fin H' e1 e2 e3
    · unfold u_lay at hlay
      rw [if_neg hf2] at hlay
      have h6' := u_store hfc hkC hkind hlay hi (htys fi hk) hn hft
      refine W.putK hx hb (f := f) ⟨hown, hV.word hl rfl args, ⟨_, _, _, hi⟩, hst⟩ (by rw [q2]; exact h6') q1 q3 (by rw [hsl]; exact k2_hasslot (q4 fi hk)) rfl rfl hdg fun H' e1 e2 e3 => ?_
      rw [hsl] at e1 ⊢
      exact fin H' e1 e2 e3
theorem mm_iald (X : mm_Cx p s m c cc own g base dC dI cA sN sf) (hR : mm_Rep g base dC dI cA sN sf mem H) (hS : va_S (fun q => base ≤ q) s.heap H locs) {r N : Nat} {f : Nat → Int32} {i : Int32} (hr : mm_nth mem r = some (.inl (0, N, .inl f))) (hin : vp_in i N) (hdg : decode cc pc = .ok (.iaload, 1))
    (kk : W p l e R s m args below meth c H locs cells slots Q (F0 m (pc + 1) lr (.int (f i.toNatClampNeg) :: rest))) : W p l e R s m args below meth c H locs cells slots Q (F0 m pc lr (.int i :: .ref (g r) :: rest)) := by
  obtain ⟨hx, hb, hown, hV, hSt, hbs, hg⟩ := X
  rcases Nat.lt_or_ge r 6 with h | h
  · have h2 := hR.2.1 r h
    rw [hr] at h2
    cases h2
    exact va_ti hx hb (hSt.1 r h) hS hin rfl hdg kk
  · rw [hg r h]
    exact va_iald (f := f) hx hb hV.2.2.2 (hR.one h hr) 0 0 rfl rfl hin hdg kk
theorem mm_zald (X : mm_Cx p s m c cc own g base dC dI cA sN sf) (hR : mm_Rep g base dC dI cA sN sf mem H) {r N : Nat} {f : Nat → Int32} {i : Int32} (hr : mm_nth mem r = some (.inl (1, N, .inl f))) (hin : vp_in i N) (hdg : decode cc pc = .ok (.baload, 1))
    (kk : W p l e R s m args below meth c H locs cells slots Q (F0 m (pc + 1) lr (.int (f i.toNatClampNeg) :: rest))) : W p l e R s m args below meth c H locs cells slots Q (F0 m pc lr (.int i :: .ref (g r) :: rest)) := by
  obtain ⟨hx, hb, hown, hV, hSt, hbs, hg⟩ := X
  rcases Nat.lt_or_ge r 6 with h | h
  · have h2 := hR.2.1 r h
    rw [hr] at h2
    cases h2
  · rw [hg r h]
    exact va_zald (f := f) hx hb hV.2.2.2 (hR.one h hr) 0 1 rfl rfl hin hdg kk
theorem mm_aald (X : mm_Cx p s m c cc own g base dC dI cA sN sf) (hR : mm_Rep g base dC dI cA sN sf mem H) {r N y : Nat} {f : Nat → Option Nat} {i : Int32} (hr : mm_nth mem r = some (.inl (2, N, .inr (.inr (.inr (.inr f)))))) (hin : vp_in i N) (hy : f i.toNatClampNeg = some y) (hdg : decode cc pc = .ok (.aaload, 1))
    (kk : W p l e R s m args below meth c H locs cells slots Q (F0 m (pc + 1) lr (.ref (g y) :: rest))) : W p l e R s m args below meth c H locs cells slots Q (F0 m pc lr (.int i :: .ref (g r) :: rest)) := by
  obtain ⟨hx, hb, hown, hV, hSt, hbs, hg⟩ := X
  rcases Nat.lt_or_ge r 6 with h | h
  · have h2 := hR.2.1 r h
    rw [hr] at h2
    cases h2
  · rw [hg r h]
    refine va_aldq (f := fun j => (f j).map g) hx hb hV.2.2.2 (hR.one h hr) 0 2 rfl rfl hin hdg ?_
    rw [hy]
    exact kk
theorem mm_alen (X : mm_Cx p s m c cc own g base dC dI cA sN sf) (hR : mm_Rep g base dC dI cA sN sf mem H) (hS : va_S (fun q => base ≤ q) s.heap H locs) {r t N : Nat} {z : _} (hr : mm_nth mem r = some (.inl (t, N, z))) (ht : t < 3) (hdg : decode cc pc = .ok (.arraylength, 1))
    (kk : W p l e R s m args below meth c H locs cells slots Q (F0 m (pc + 1) lr (.int (nI N) :: rest))) : W p l e R s m args below meth c H locs cells slots Q (F0 m pc lr (.ref (g r) :: rest)) := by
  obtain ⟨hx, hb, hown, hV, hSt, hbs, hg⟩ := X
  rcases Nat.lt_or_ge r 6 with h | h
  · have h2 := hR.2.1 r h
    rw [hr] at h2
    cases h2
    exact va_tlen hx hb (hSt.1 r h) hS rfl hdg kk
  · rw [hg r h]
    have hP := hR.one h hr
    have hty : ∃ ty, (mm_tys cA)[t]? = some (cA t, ty) := by
      rcases (show t = 0 ∨ t = 1 ∨ t = 2 by omega) with rfl | rfl | rfl <;> exact ⟨_, rfl⟩
    obtain ⟨ty, hty⟩ := hty
    rcases z with f | f | f | f | f <;> exact va_alen hx hb hV.2.2.2 hP 0 t rfl hty rfl hdg kk
theorem mm_iast (X : mm_Cx p s m c cc own g base dC dI cA sN sf) (hR : mm_Rep g base dC dI cA sN sf mem H) (hS : va_S (fun q => base ≤ q) s.heap H locs) {r N : Nat} {f : Nat → Int32} {i x : Int32} (h6 : 6 ≤ r) (hr : mm_nth mem r = some (.inl (0, N, .inl f))) (hin : vp_in i N) (hdg : decode cc pc = .ok (.iastore, 1))
    (kk : ∀ (H1 : Heap) (locs1 : List Loc), mm_Rep g base dC dI cA sN sf (mm_set mem r (.inl (0, N, .inl (upd f i.toNatClampNeg x)))) H1 → va_S (fun q => base ≤ q) s.heap H1 locs1 → W p l e R s m args below meth c H1 locs1 cells slots Q (F0 m (pc + 1) lr rest)) : W p l e R s m args below meth c H locs cells slots Q (F0 m pc lr (.int x :: .int i :: .ref (g r) :: rest)) := by
  obtain ⟨hx, hb, hown, hV, hSt, hbs, hg⟩ := X
  rw [hg r h6]
  refine W.iast hx hb (hR.2.2 r _ h6 hr) ((hV.2.2.2.2 0 _ rfl).1 N (fun j => .int (f j))) (fun q => by cases q) (by show ¬ (i < 0 ∨ (arrV _ _ _).slots.size ≤ _); rw [arrV_size]; exact hin) rfl rfl hdg fun H1 e z oq => ?_
  refine kk H1 _ (hR.set h6 hr z oq ?_) (hS.put z oq (Nat.le_add_right _ _))
  show H1[_]? = some (vp_cell _ _)
  rw [e]
  rw [vp_cell_i, vp_cell_i, arrV_store]
  congr 2
  funext q
  by_cases hq : q = i.toNatClampNeg
  · subst hq
    simp [updV, upd]
  · simp [updV, upd, hq]
theorem mm_zast (X : mm_Cx p s m c cc own g base dC dI cA sN sf) (hR : mm_Rep g base dC dI cA sN sf mem H) (hS : va_S (fun q => base ≤ q) s.heap H locs) {r N : Nat} {f : Nat → Int32} {i x : Int32} (h6 : 6 ≤ r) (hr : mm_nth mem r = some (.inl (1, N, .inl f))) (hin : vp_in i N) (hfit : fits .boolean (.int x) = true) (hdg : decode cc pc = .ok (.bastore, 1))
    (kk : ∀ (H1 : Heap) (locs1 : List Loc), mm_Rep g base dC dI cA sN sf (mm_set mem r (.inl (1, N, .inl (upd f i.toNatClampNeg x)))) H1 → va_S (fun q => base ≤ q) s.heap H1 locs1 → W p l e R s m args below meth c H1 locs1 cells slots Q (F0 m (pc + 1) lr rest)) : W p l e R s m args below meth c H locs cells slots Q (F0 m pc lr (.int x :: .int i :: .ref (g r) :: rest)) := by
  obtain ⟨hx, hb, hown, hV, hSt, hbs, hg⟩ := X
  have hnar : narrow .boolean (.int x) = .int x := by
    have h2 : x = 0 ∨ x = 1 := by simpa [fits] using hfit
    rcases h2 with rfl | rfl <;> decide +kernel
  rw [hg r h6]
  refine W.zast hx hb (hR.2.2 r _ h6 hr) ((hV.2.2.2.2 1 _ rfl).1 N (fun j => .int (f j))) (fun q => by cases q) (by show ¬ (i < 0 ∨ (arrV _ _ _).slots.size ≤ _); rw [arrV_size]; exact hin) rfl rfl hdg fun H1 e z oq => ?_
  refine kk H1 _ (hR.set h6 hr z oq ?_) (hS.put z oq (Nat.le_add_right _ _))
  show H1[_]? = some (vp_cell _ _)
  rw [e, hnar]
  rw [vp_cell_i, vp_cell_i, arrV_store]
  congr 2
  funext q
  by_cases hq : q = i.toNatClampNeg
  · subst hq
    simp [updV, upd]
  · simp [updV, upd, hq]
theorem mm_aast (X : mm_Cx p s m c cc own g base dC dI cA sN sf) (hR : mm_Rep g base dC dI cA sN sf mem H) (hS : va_S (fun q => base ≤ q) s.heap H locs) {r N y : Nat} {f : Nat → Option Nat} {i : Int32} {fs : List Value} (h6 : 6 ≤ r) (hr : mm_nth mem r = some (.inl (2, N, .inr (.inr (.inr (.inr f)))))) (hin : vp_in i N) (hy : mm_nth mem y = some (.inr (3, fs))) (hdg : decode cc pc = .ok (.aastore, 1))
    (kk : ∀ (H1 : Heap) (locs1 : List Loc), mm_Rep g base dC dI cA sN sf (mm_set mem r (.inl (2, N, .inr (.inr (.inr (.inr (va_up f i.toNatClampNeg (some y)))))))) H1 → va_S (fun q => base ≤ q) s.heap H1 locs1 → W p l e R s m args below meth c H1 locs1 cells slots Q (F0 m (pc + 1) lr rest)) : W p l e R s m args below meth c H locs cells slots Q (F0 m pc lr (.ref (g y) :: .int i :: .ref (g r) :: rest)) := by
  obtain ⟨hx, hb, hown, hV, hSt, hbs, hg⟩ := X
  have h6y := mm_own_of hR hy
  have hlt : i.toNatClampNeg < N := Nat.not_le.mp fun q => hin (Or.inr q)
  have h0 : ¬ i < 0 := fun q => hin (Or.inl q)
  obtain ⟨r', hr', cellV, g1, g2, g3, -⟩ := hR.2.2 y _ h6y hy
  have hcls := (hV.2.2.2.1 3 (RX3, TX3, 4) rfl).2
  obtain ⟨kA, comp, k1, k2, k3, -⟩ := (hV.2.2.2.2 2 _ rfl).2
  have hcomp : comp = dC 3 := Option.some.inj (k3.symm.trans hcls.1)
  subst hcomp
  obtain ⟨kC, hkC, -⟩ := hcls.2
  rw [hg r h6, hg y h6y]
  refine W.aast hx hb (hR.2.2 r _ h6 hr) (fun q h => by cases h) (fun h => by cases h) k1 k2 rfl hkC ⟨h0, by show _ < (arrV _ _ _).slots.size; rw [arrV_size]; exact hlt⟩ g1 (fun q h => by rw [g3] at h; cases h) (by rw [g2]; exact hkC) (by rw [g2]; exact va_assign hcls) rfl rfl hdg fun H1 e z oq => ?_
  refine kk H1 _ (hR.set h6 hr z oq ?_) (hS.put z oq (Nat.le_add_right _ _))
  show H1[_]? = some (vp_cell _ _)
  rw [e]
  rw [vp_cell_q, vp_cell_q, arrV_store]
  congr 2
  funext q
  by_cases hq : q = i.toNatClampNeg
  · subst hq
    simp [updV, va_up, va_rf, hg y h6y]
  · simp [updV, va_up, hq]
end MMC
end
section
/-! new cells, tables, copies -/
section MMD
variable {p : Program} {l : Launch} {e : Env} {R : Room} {s : State} {m : MethodId} {args : Array Value} {below : List Frame} {meth : Method} {c : Code} {H : Heap} {locs : List Loc} {cells slots : Nat} {Q : State → Prop}
variable {cc : ByteArray} {pc : Nat} {lr : Array Slot} {own : String} {g : Nat → Nat} {base : Nat} {dC : Nat → ClassId} {dI : Nat → Nat → Nat} {cA : Nat → ClassId} {sN : Nat → Nat} {sf : Nat → Nat → Int32} {mem : mm_M} {rest : List Value}
theorem mm_S_push {H1 : Heap} (hS : va_S (fun q => base ≤ q) s.heap H locs) (z : H1.size = H.size + 1) (o : ∀ q : Nat, q < H.size → H1[q]? = H[q]?) : va_S (fun q => base ≤ q) s.heap H1 locs :=
  ⟨Nat.le_trans hS.1 (by omega), fun x h1 h2 => (o x (Nat.lt_of_lt_of_le h1 hS.1)).trans (hS.2.1 x h1 h2), hS.2.2⟩
theorem mm_g_len (X : mm_Cx p s m c cc own g base dC dI cA sN sf) (hR : mm_Rep g base dC dI cA sN sf mem H) : g mem.length = H.size := by
  have h1 := hR.1
  rw [X.2.2.2.2.2.2 _ h1.1]
  omega
theorem mm_newo (X : mm_Cx p s m c cc own g base dC dI cA sN sf) (hR : mm_Rep g base dC dI cA sN sf mem H) (hS : va_S (fun q => base ≤ q) s.heap H locs) {idx ci : Nat} {q : vw_C} {fs : List Value} (hc : vwCl[ci]? = some q) (hcl : Jvm.Cond.classLink own idx q.1 ∈ lw_tbl) (hin : Jvm.Cond.instantiable q.1 q.2.2 ∈ lw_tbl) (hini : Jvm.Cond.initialized q.1 ∈ lw_tbl) (hg1 : goodWord (.instantiable q.1 q.2.2) = true) (hfs : ∀ j, j < q.2.2 → defaultValue (mm_ty ci j) = vp_V (fs.map (mm_v g)) j) (hcells : cells + 1 ≤ R.cells) (hslots : slots + q.2.2 ≤ R.slots) (hdg : decode cc pc = .ok (.new idx, 3))
    (kk : ∀ (H1 : Heap), mm_Rep g base dC dI cA sN sf (mem ++ [.inr (ci, fs)]) H1 → va_S (fun q => base ≤ q) s.heap H1 locs → W p l e R s m args below meth c H1 locs (cells + 1) (slots + q.2.2) Q (F0 m (pc + 3) lr (.ref (g mem.length) :: rest))) : W p l e R s m args below meth c H locs cells slots Q (F0 m pc lr rest) := by
  have hgl := mm_g_len X hR
  obtain ⟨hx, hb, hown, hV, hSt, hbs, hg⟩ := X
  obtain ⟨hws, htys, hnm⟩ := mm_cls ci q hc
  have hKn := hV.2.2.2.1 ci _ hc
  refine W.newcK hx hb hown (hV.word hcl rfl args) (hV.word hin hg1 args) (hV.word hini rfl args) rfl hdg hcells hslots hKn.2.1 rfl fun H1 kC hkC e1 z1 o1 => ?_
  rw [hgl] at kk
  exact kk H1 (hR.push z1 o1 ⟨_, hc, (u_born (mm_ty ci) (hV.tG args) hws hKn hkC e1 htys).to hfs⟩) (mm_S_push hS z1 o1)
theorem mm_newi (X : mm_Cx p s m c cc own g base dC dI cA sN sf) (hR : mm_Rep g base dC dI cA sN sf mem H) (hS : va_S (fun q => base ≤ q) s.heap H locs) {N : Nat} (hN : N < 100000) (ha : Jvm.Cond.arrayClass .int ∈ lw_tbl) (hcells : cells + 1 ≤ R.cells) (hslots : slots + N ≤ R.slots) (hdg : decode cc pc = .ok (.newarray .int, 2))
    (kk : ∀ (H1 : Heap), mm_Rep g base dC dI cA sN sf (mem ++ [.inl (0, N, .inl (fun _ => 0))]) H1 → va_S (fun q => base ≤ q) s.heap H1 locs → W p l e R s m args below meth c H1 locs (cells + 1) (slots + N) Q (F0 m (pc + 2) lr (.ref (g mem.length) :: rest))) : W p l e R s m args below meth c H locs cells slots Q (F0 m pc lr (.int (nI N) :: rest)) := by
  have hgl := mm_g_len X hR
  obtain ⟨hx, hb, hown, hV, hSt, hbs, hg⟩ := X
  have h1 : ¬ nI N < 0 := nI_pos (by omega)
  have h2 : (nI N).toNatClampNeg = N := nI_clamp (by omega)
  have h3 : N * componentBytes (newarray.typeOf ArrayType.int) ≤ 536870912 := by
    show N * 4 ≤ 536870912
    omega
  have h4 : (Jvm.Cond.arrayClass (newarray.typeOf ArrayType.int)).before args s = true := hV.word ha rfl args
  refine va_newaK (atype := .int) (n := nI N) (N := N) (h := H.size) (rest := rest) hx hb h4 rfl hdg rfl h1 h2 h3 hcells hslots rfl ?_
  intro H1 cI e1 z1 o1 hAr hNm
  rw [hgl] at kk
  rw [show newarray.typeOf .int = FieldType.int from rfl] at hNm e1
  have h9 : va_RA s (cA 0) FieldType.int := (hV.2.2.2.2 0 _ rfl).2
  unfold va_RA at h9
  have hci : cI = cA 0 := Option.some.inj (hNm.symm.trans h9)
  subst hci
  refine kk H1 (hR.push z1 o1 ?_) (mm_S_push hS z1 o1)
  show H1[H.size]? = some (arrV (cA 0) N (fun _ => .int 0))
  exact e1
theorem mm_newz (X : mm_Cx p s m c cc own g base dC dI cA sN sf) (hR : mm_Rep g base dC dI cA sN sf mem H) (hS : va_S (fun q => base ≤ q) s.heap H locs) {N : Nat} (hN : N < 100000) (ha : Jvm.Cond.arrayClass .boolean ∈ lw_tbl) (hcells : cells + 1 ≤ R.cells) (hslots : slots + N ≤ R.slots) (hdg : decode cc pc = .ok (.newarray .boolean, 2))
    (kk : ∀ (H1 : Heap), mm_Rep g base dC dI cA sN sf (mem ++ [.inl (1, N, .inl (fun _ => 0))]) H1 → va_S (fun q => base ≤ q) s.heap H1 locs → W p l e R s m args below meth c H1 locs (cells + 1) (slots + N) Q (F0 m (pc + 2) lr (.ref (g mem.length) :: rest))) : W p l e R s m args below meth c H locs cells slots Q (F0 m pc lr (.int (nI N) :: rest)) := by
  have hgl := mm_g_len X hR
  obtain ⟨hx, hb, hown, hV, hSt, hbs, hg⟩ := X
  have h1 : ¬ nI N < 0 := nI_pos (by omega)
  have h2 : (nI N).toNatClampNeg = N := nI_clamp (by omega)
  have h3 : N * componentBytes (newarray.typeOf ArrayType.boolean) ≤ 536870912 := by
    show N * 1 ≤ 536870912
    omega
  have h4 : (Jvm.Cond.arrayClass (newarray.typeOf ArrayType.boolean)).before args s = true := hV.word ha rfl args
  refine va_newaK (atype := .boolean) (n := nI N) (N := N) (h := H.size) (rest := rest) hx hb h4 rfl hdg rfl h1 h2 h3 hcells hslots rfl ?_
  intro H1 cI e1 z1 o1 hAr hNm
  rw [hgl] at kk
  rw [show newarray.typeOf .boolean = FieldType.boolean from rfl] at hNm e1
  have h9 : va_RA s (cA 1) FieldType.boolean := (hV.2.2.2.2 1 _ rfl).2
  unfold va_RA at h9
  have hci : cI = cA 1 := Option.some.inj (hNm.symm.trans h9)
  subst hci
  refine kk H1 (hR.push z1 o1 ?_) (mm_S_push hS z1 o1)
  show H1[H.size]? = some (arrV (cA 1) N (fun _ => .int 0))
  exact e1
theorem mm_newq (X : mm_Cx p s m c cc own g base dC dI cA sN sf) (hR : mm_Rep g base dC dI cA sN sf mem H) (hS : va_S (fun q => base ≤ q) s.heap H locs) {idx N : Nat} (hN : N < 100000) (hcl : Jvm.Cond.classLink own idx RX3 ∈ lw_tbl) (hcells : cells + 1 ≤ R.cells) (hslots : slots + N ≤ R.slots) (hdg : decode cc pc = .ok (.anewarray idx, 3))
    (kk : ∀ (H1 : Heap), mm_Rep g base dC dI cA sN sf (mem ++ [.inl (2, N, .inr (.inr (.inr (.inr (fun _ => none)))))]) H1 → va_S (fun q => base ≤ q) s.heap H1 locs → W p l e R s m args below meth c H1 locs (cells + 1) (slots + N) Q (F0 m (pc + 3) lr (.ref (g mem.length) :: rest))) : W p l e R s m args below meth c H locs cells slots Q (F0 m pc lr (.int (nI N) :: rest)) := by
  have hgl := mm_g_len X hR
  obtain ⟨hx, hb, hown, hV, hSt, hbs, hg⟩ := X
  have hcl0 : (nI N).toNatClampNeg = N := nI_clamp (by omega)
  refine W.anew hx hb hown (hV.word hcl rfl args) (va_AO.use hV.2.2.1) rfl hdg rfl (nI_pos (by omega)) (by rw [hcl0]; omega) hcells (by rw [hcl0]; exact hslots) fun cI kA comp f1 f2 f3 f4 => ?_
  rw [hcl0]
  generalize hH1 : H.push ({ cls := cI, slots := Array.replicate N .null, vm := .none } : Cell) = H1
  have z1 : H1.size = H.size + 1 := by rw [← hH1, Array.size_push]
  have e1 : H1[H.size]? = some (arrV cI N (fun _ => .null)) := by rw [← hH1, Array.getElem?_push_size, ← arrV_new]
  have o1 : ∀ q : Nat, q < H.size → H1[q]? = H[q]? := fun q hq => by rw [← hH1, Array.getElem?_push, if_neg (Nat.ne_of_lt hq)]
  rw [hgl] at kk
  have hci : cI = cA 2 := by
    obtain ⟨_, _, -, -, -, h9⟩ := (hV.2.2.2.2 2 _ rfl).2
    exact Option.some.inj (f1.symm.trans h9)
  subst hci
  exact kk H1 (hR.push z1 o1 e1) (mm_S_push hS z1 o1)
theorem mm_gets (X : mm_Cx p s m c cc own g base dC dI cA sN sf) (hS : va_S (fun q => base ≤ q) s.heap H locs) {idx k : Nat} (h1 : 1 ≤ k) (h2 : k < 6) (hl : Jvm.Cond.fieldLink own idx RX6 (mm_snm k) "[I" ∈ lw_tbl ∨ Jvm.Cond.fieldLinkNest own idx RX6 (mm_snm k) "[I" RX6 ∈ lw_tbl) (hdg : decode cc pc = .ok (.getstatic idx, 3))
    (kk : W p l e R s m args below meth c H locs cells slots Q (F0 m (pc + 3) lr (.ref (g k) :: rest))) : W p l e R s m args below meth c H locs cells slots Q (F0 m pc lr rest) := by
  obtain ⟨hx, hb, hown, hV, hSt, hbs, hg⟩ := X
  rcases hl with hl | hl
  · exact va_gets hx hb (hSt.2 k h1 h2) hS hown (hV.word hl rfl args) (fun _ h => h) hdg kk
  · exact va_getsN hx hb (hSt.2 k h1 h2) hS hown (va_Nw.use rfl (hV.2.1 _ hl rfl)) (fun _ h => h) hdg kk
theorem mm_sum_map (l : List Value) : ((l.map (mm_v g)).map fun v => v.category).sum = mm_sum l := by
  induction l with
  | nil => rfl
  | cons v t ih => simp only [List.map_cons, List.sum_cons, mm_sum, ih, mm_v_cat]
theorem mm_copy (X : mm_Cx p s m c cc own g base dC dI cA sN sf) (hR : mm_Rep g base dC dI cA sN sf mem H) (hS : va_S (fun q => base ≤ q) s.heap H locs) (hml : c.maxLocals = lr.size) {idx r d N M : Nat} {f h : Nat → Int32} {sp dp z : Int32} {st : List Value} (h6 : 6 ≤ r) (h6d : 6 ≤ d) (hr : mm_nth mem r = some (.inl (0, N, .inl f))) (hd : mm_nth mem d = some (.inl (0, M, .inl h)))
    (hl : Jvm.Cond.methodLink own idx arraycopyName ∈ lw_tbl) (hnat : Jvm.Cond.native arraycopyName ∈ lw_tbl) (hstat : Jvm.Cond.static arraycopyName ∈ lw_tbl) (hini : Jvm.Cond.initialized "java/lang/System" ∈ lw_tbl)
    (h1 : ¬ sp < 0) (h2 : ¬ dp < 0) (h3 : ¬ z < 0) (h4 : sp.toNatClampNeg + z.toNatClampNeg ≤ N) (h5 : dp.toNatClampNeg + z.toNatClampNeg ≤ M) (hsum : mm_sum st ≤ 8) (hframes : 1 ≤ R.frames) (hlocals : 8 + (nativeFrameWords "java/lang/System" "arraycopy" 5 + 11) ≤ R.locals) (hdg : decode cc pc = .ok (.invokestatic idx, 3))
    (kk : ∀ (H1 : Heap) (locs1 : List Loc), mm_Rep g base dC dI cA sN sf (mm_set mem d (.inl (0, M, .inl (va_cpy f h sp.toNatClampNeg dp.toNatClampNeg z.toNatClampNeg)))) H1 → va_S (fun q => base ≤ q) s.heap H1 locs1 → W p l e R s m args below meth c H1 locs1 cells slots Q (F0 m (pc + 3) lr (st.map (mm_v g)))) : W p l e R s m args below meth c H locs cells slots Q (F0 m pc lr (.int z :: .int dp :: .ref (g d) :: .int sp :: .ref (g r) :: st.map (mm_v g))) := by
  obtain ⟨hx, hb, hown, hV, hSt, hbs, hg⟩ := X
  have nn : ∀ z : Int32, ¬ z < 0 → z.toInt = (z.toNatClampNeg : Int) := by
    intro z hz
    have hz0 : (0 : Int) ≤ z.toInt := by
      have := Int32.not_lt.mp hz
      simpa using Int32.le_iff_toInt_le.mp this
    show z.toInt = ((z.toInt.toNat : Nat) : Int)
    omega
  rw [hg r h6, hg d h6d]
  intro T hT X
  have hc0 : H[base + (r - 6)]? = some (vp_cell (cA 0) (N, .inl f)) := hR.2.2 r _ h6 hr
  have hc1 : H[base + (d - 6)]? = some (vp_cell (cA 0) (M, .inl h)) := hR.2.2 d _ h6d hd
  obtain ⟨-, k0, hk0, cm0, hkk0⟩ := (hV.2.2.2.2 0 _ rfl).1 N (fun j => .int (f j))
  obtain ⟨-, k1, hk1, cm1, hkk1⟩ := (hV.2.2.2.2 0 _ rfl).1 M (fun j => .int (h j))
  obtain ⟨vm', X', step⟩ := X.arraycopy hx hown (hV.word hl rfl args) (hV.word hnat rfl args) (hV.word hstat rfl args) (hV.word hini rfl args) (src := base + (r - 6)) (dst := base + (d - 6)) (cs := vp_cell (cA 0) (N, .inl f)) (cd := vp_cell (cA 0) (M, .inl h)) (srcPos := sp) (destPos := dp) (n := z) (by rw [hT]; exact hc0) (by rw [hT]; exact hc1)
    (fun _ h => by cases h) (fun _ h => by cases h) (fun h => by cases h) (fun h => by cases h) hk0 hk1 hkk0 hkk1 (by simp [refKind]) h1 h2 h3
    (by rw [nn sp h1, nn z h3]; show ¬ _ > ((arrV (cA 0) N (fun j => .int (f j))).slots.size : Int); rw [arrV_size]; omega)
    (by rw [nn dp h2, nn z h3]; show ¬ _ > ((arrV (cA 0) M (fun j => .int (h j))).slots.size : Int); rw [arrV_size]; omega)
    (fun vm₁ _ i hi => by
      have e : (vp_cell (cA 0) (N, .inl f)).slots.getD (sp.toNatClampNeg + i) .null = .int (f (sp.toNatClampNeg + i)) := by
        show (arrV (cA 0) N (fun j => .int (f j))).slots.getD _ _ = _
        rw [Array.getD_eq_getD_getElem?, arrV_read _ _ (by omega)]
        rfl
      refine ⟨?_, ?_⟩
      · rw [e]
        rfl
      · rw [e]
        exact trivial)
    (g := F0 m pc lr (.int z :: .int dp :: .ref (base + (d - 6)) :: .int sp :: .ref (base + (r - 6)) :: st.map (mm_v g))) rfl (by rw [hml]) (rest := st.map (mm_v g)) rfl (by rw [hb]; exact hdg) hframes (by show 2 * 0 + _ + _ ≤ _; rw [mm_sum_map]; omega)
  have e1 : copied (vp_cell (cA 0) (N, .inl f)) (vp_cell (cA 0) (M, .inl h)) sp dp z = vp_cell (cA 0) (M, .inl (va_cpy f h sp.toNatClampNeg dp.toNatClampNeg z.toNatClampNeg)) := va_copied (fun z => .int z) (cA 0) (cA 0) f h h4
  rw [e1] at X' step
  have hl : base + (d - 6) < H.size := (Array.getElem?_eq_some_iff.mp hc1).1
  generalize hcell : vp_cell (cA 0) (M, .inl (va_cpy f h sp.toNatClampNeg dp.toNatClampNeg z.toNatClampNeg)) = newc at X' step
  have hheap : ((T.setVm vm').setCell (base + (d - 6)) newc).heap = H.setIfInBounds (base + (d - 6)) newc := by rw [← hT]; rfl
  have oq : ∀ q : Nat, q ≠ base + (d - 6) → (H.setIfInBounds (base + (d - 6)) newc)[q]? = H[q]? := fun q hq => by simp [Array.getElem?_setIfInBounds, Ne.symm hq]
  obtain ⟨t, a1, b1⟩ := kk _ _ (hR.set (e := .inl (0, M, .inl (va_cpy f h sp.toNatClampNeg dp.toNatClampNeg z.toNatClampNeg))) h6d hd (by simp) oq (show (H.setIfInBounds (base + (d - 6)) newc)[_]? = some (vp_cell _ _) by rw [hcell]; simp [Array.getElem?_setIfInBounds, hl])) ⟨by simp; exact hS.1, fun q g1 g2 => by
      rw [oq q (fun e => g2 (by rw [e]; exact Nat.le_add_right _ _))]
      exact hS.2.1 q g1 g2, fun q hq => by
      rcases List.mem_append.mp hq with h | h
      · exact hS.2.2 q h
      · obtain ⟨z, -, hz⟩ := List.mem_map.mp h
        rw [← hz]
        exact Nat.le_add_right _ _⟩ _ hheap X'
  exact ⟨t, step t a1, b1⟩
end MMD
end
section
/-! every instruction of the small machine is one of the machine's -/
/-- a method: name, bytes, size of its locals, what it returns, its receiver's class (and one; 0: static) -/
abbrev mm_N : Type := MethodName × ByteArray × Nat × Option FieldType × Nat
def mm_okY (q : mm_N) : Prop :=
  (Jvm.Cond.code q.1 q.2.1 q.2.2.1 q.2.2.2.1 ∈ lw_tbl ∧ Jvm.Cond.initialized q.1.cls ∈ lw_tbl ∧ Jvm.plainName q.1.cls = true ∧ q.2.2.1 ≤ 60) ∧ (q.1.cls ≠ "java/lang/invoke/MethodHandle" ∧ q.1.cls ≠ "java/lang/invoke/VarHandle") ∧
  match q.2.2.2.2 with
  | 0 => Jvm.Cond.static q.1 ∈ lw_tbl
  | ci + 1 => Jvm.Cond.instanceMethod q.1 ∈ lw_tbl ∧ ∃ w : vw_C, vwCl[ci]? = some w ∧ w.1 = q.1.cls
def mm_tsw (pc : Nat) : Int → List Int → List (Int32 × Nat) → Bool
  | _, [], [] => true
  | lo, o :: os, q :: r => decide (q.1.toInt = lo) && decide ((pc : Int) + o = (q.2 : Int)) && mm_tsw pc (lo + 1) os r
  | _, _, _ => false
def mm_lsw (pc : Nat) : List (Int × Int) → List (Int32 × Nat) → Bool
  | [], [] => true
  | o :: os, q :: r => decide (q.1.toInt = o.1) && decide ((pc : Int) + o.2 = (q.2 : Int)) && mm_lsw pc os r
  | _, _ => false
theorem mm_tsw_ok {pc : Nat} {x : Int32} {d : Prop} {f : Nat → Prop} : ∀ (os : List Int) (lo : Int) (sw : List (Int32 × Nat)), mm_tsw pc lo os sw = true → mm_sw x d f sw →
    (d ∧ (x.toInt < lo ∨ lo + os.length ≤ x.toInt)) ∨ ∃ (i : Nat) (o : Int) (t : Nat), os[i]? = some o ∧ x.toInt = lo + i ∧ (pc : Int) + o = (t : Int) ∧ f t
  | [], lo, [], _, h => Or.inl ⟨h, by simp only [List.length_nil]; omega⟩
  | o :: os, lo, q :: r, h, hs => by
    simp only [mm_tsw, Bool.and_eq_true, decide_eq_true_eq] at h
    obtain ⟨⟨h1, h2⟩, h3⟩ := h
    by_cases hx : x = q.1
    · exact Or.inr ⟨0, o, q.2, rfl, by rw [hx, h1]; simp, h2, hs.1 hx⟩
    · have hne : ¬ x.toInt = lo := fun e => hx (Int32.toInt_inj.mp (e.trans h1.symm))
      rcases mm_tsw_ok os (lo + 1) r h3 (hs.2 hx) with ⟨a, b⟩ | ⟨i, o', t, a1, a2, a3⟩
      · exact Or.inl ⟨a, by simp only [List.length_cons]; omega⟩
      · exact Or.inr ⟨i + 1, o', t, a1, by rw [a2]; push_cast; omega, a3⟩
  | [], _, _ :: _, h, _ => by cases h
  | _ :: _, _, [], h, _ => by cases h
theorem mm_lsw_ok {pc a : Nat} {df : Int} {x : Int32} {d : Prop} {f : Nat → Prop} (hd : (pc : Int) + df = (a : Int)) : ∀ (os : List (Int × Int)) (sw : List (Int32 × Nat)), mm_lsw pc os sw = true → mm_sw x d f sw →
    ∃ t : Nat, (pc : Int) + Op.lookupswitch.offset os df x.toInt = (t : Int) ∧ ((t = a ∧ d) ∨ f t)
  | [], [], _, h => ⟨a, hd, Or.inl ⟨rfl, h⟩⟩
  | o :: os, q :: r, h, hs => by
    simp only [mm_lsw, Bool.and_eq_true, decide_eq_true_eq] at h
    obtain ⟨⟨h1, h2⟩, h3⟩ := h
    obtain ⟨k, o⟩ := o
    rw [Op.lookupswitch.offset_cons]
    by_cases hx : x = q.1
    · rw [if_pos (by rw [hx]; exact h1.symm)]
      exact ⟨q.2, h2, Or.inr (hs.1 hx)⟩
    · rw [if_neg (fun e => hx (Int32.toInt_inj.mp (by rw [h1]; exact e.symm)))]
      exact mm_lsw_ok hd os r h3 (hs.2 hx)
  | [], _ :: _, h, _ => by cases h
  | _ :: _, [], h, _ => by cases h
/-- what an instruction must be in the code, and what the tables must say of it -/
def mm_oki (Y : Nat → mm_N) (own : String) (ini : Bool) (cc : ByteArray) (rt : Option FieldType) (Df : Nat → List Value) (pc : Nat) (ins : Instr) (nx a b : Nat) (sw : List (Int32 × Nat)) (lc : Int64) : Prop :=
  match ins with
  | .idiv => decode cc pc = .ok (.idiv, 1) ∧ nx = pc + 1
  | .irem => decode cc pc = .ok (.irem, 1) ∧ nx = pc + 1
  | .ldiv => decode cc pc = .ok (.ldiv, 1) ∧ nx = pc + 1
  | .lrem => decode cc pc = .ok (.lrem, 1) ∧ nx = pc + 1
  | .ifCond z o => decode cc pc = .ok (.ifCond z o, 3) ∧ nx = pc + 3 ∧ (pc : Int) + o = (a : Int)
  | .if_icmp z o => decode cc pc = .ok (.if_icmp z o, 3) ∧ nx = pc + 3 ∧ (pc : Int) + o = (a : Int)
  | .goto o => decode cc pc = .ok (.goto o, 3) ∧ (pc : Int) + o = (a : Int)
  | .tableswitch d lo hi os => (∃ len, decode cc pc = .ok (.tableswitch d lo hi os, len)) ∧ (pc : Int) + d = (a : Int) ∧ mm_tsw pc lo os.toList sw = true ∧ lo + os.toList.length = hi + 1
  | .lookupswitch d os => (∃ len, decode cc pc = .ok (.lookupswitch d os, len)) ∧ (pc : Int) + d = (a : Int) ∧ mm_lsw pc os.toList sw = true ∧ (os.toList.zip (os.toList.drop 1)).all (fun (a, next) => a.1 < next.1) = true
  | .getstatic idx => decode cc pc = .ok (.getstatic idx, 3) ∧ nx = pc + 3 ∧ 1 ≤ a ∧ a < 6 ∧ (Jvm.Cond.fieldLink own idx RX6 (mm_snm a) "[I" ∈ lw_tbl ∨ Jvm.Cond.fieldLinkNest own idx RX6 (mm_snm a) "[I" RX6 ∈ lw_tbl)
  | .getfield idx => decode cc pc = .ok (.getfield idx, 3) ∧ nx = pc + 3 ∧ ∃ q : vw_C, mm_okf own idx a b q
  | .putfield idx => decode cc pc = .ok (.putfield idx, 3) ∧ nx = pc + 3 ∧ (∃ q : vw_C, mm_okf own idx a b q ∧ ((q.2.1 b).2.2.2 = false ∨ (ini = true ∧ (q.2.1 b).1 = own))) ∧ ∀ v tag r, sw = (v, tag) :: r → mm_tagty tag (mm_ty a b) = true
  | .iaload => decode cc pc = .ok (.iaload, 1) ∧ nx = pc + 1
  | .baload => decode cc pc = .ok (.baload, 1) ∧ nx = pc + 1
  | .aaload => decode cc pc = .ok (.aaload, 1) ∧ nx = pc + 1
  | .iastore => decode cc pc = .ok (.iastore, 1) ∧ nx = pc + 1
  | .bastore => decode cc pc = .ok (.bastore, 1) ∧ nx = pc + 1
  | .aastore => decode cc pc = .ok (.aastore, 1) ∧ nx = pc + 1 ∧ a = 3
  | .arraylength => decode cc pc = .ok (.arraylength, 1) ∧ nx = pc + 1
  | .new idx => decode cc pc = .ok (.new idx, 3) ∧ nx = pc + 3 ∧ ∃ q : vw_C, vwCl[a]? = some q ∧ Jvm.Cond.classLink own idx q.1 ∈ lw_tbl ∧ Jvm.Cond.instantiable q.1 q.2.2 ∈ lw_tbl ∧ Jvm.Cond.initialized q.1 ∈ lw_tbl ∧ b = q.2.2 ∧ (∀ j, j < q.2.2 → defaultValue (mm_ty a j) = vp_V (Df a) j) ∧ ∀ v ∈ Df a, mm_v (fun x => x + 1) v = v
  | .newarray t => decode cc pc = .ok (.newarray t, 2) ∧ nx = pc + 2 ∧ b < 100000 ∧ ((t = .int ∧ a = 0 ∧ Jvm.Cond.arrayClass .int ∈ lw_tbl) ∨ (t = .boolean ∧ a = 1 ∧ Jvm.Cond.arrayClass .boolean ∈ lw_tbl))
  | .anewarray idx => decode cc pc = .ok (.anewarray idx, 3) ∧ nx = pc + 3 ∧ b < 100000 ∧ Jvm.Cond.classLink own idx RX3 ∈ lw_tbl
  | .invokevirtual idx => (decode cc pc = .ok (.invokevirtual idx, 3) ∧ nx = pc + 3 ∧ mm_okY (Y a)) ∧ (∃ ci, (Y a).2.2.2.2 = ci + 1) ∧ Jvm.Cond.methodLink own idx (Y a).1 ∈ lw_tbl ∧ Jvm.Cond.selects (Y a).1.cls (Y a).1 (Y a).1 ∈ lw_tbl ∧ ∃ np, b = np + 1 ∧ (parseMethodDescriptor (Y a).1.desc).map (fun d => d.parameters.length) = some np
  | .invokestatic idx => (decode cc pc = .ok (.invokestatic idx, 3) ∧ nx = pc + 3) ∧ ((lc = 0 ∧ mm_okY (Y a) ∧ (Y a).2.2.2.2 = 0 ∧ (Jvm.Cond.methodLink own idx (Y a).1 ∈ lw_tbl ∨ Jvm.Cond.methodLinkNest own idx (Y a).1 RX6 ∈ lw_tbl) ∧ (parseMethodDescriptor (Y a).1.desc).map (fun d => d.parameters.length) = some b) ∨
      (lc = 1 ∧ Jvm.Cond.methodLink own idx arraycopyName ∈ lw_tbl ∧ Jvm.Cond.native arraycopyName ∈ lw_tbl ∧ Jvm.Cond.static arraycopyName ∈ lw_tbl ∧ Jvm.Cond.initialized "java/lang/System" ∈ lw_tbl) ∨
      (lc = 2 ∧ Jvm.Cond.methodLink own idx Lib.Math.max.name ∈ lw_tbl ∧ Jvm.Cond.static Lib.Math.max.name ∈ lw_tbl ∧ Jvm.Cond.initialized "java/lang/Math" ∈ lw_tbl ∧ Jvm.Cond.code Lib.Math.max.name Lib.Math.max.code 2 (some .int) ∈ lw_tbl))
  | .invokespecial idx => (decode cc pc = .ok (.invokespecial idx, 3) ∧ nx = pc + 3) ∧ ((lc = 0 ∧ mm_okY (Y a) ∧ (∃ ci, (Y a).2.2.2.2 = ci + 1) ∧ (Y a).1.name = "<init>" ∧ (Y a).2.2.2.1 = none ∧ (Jvm.Cond.methodLink own idx (Y a).1 ∈ lw_tbl ∨ Jvm.Cond.methodLinkNest own idx (Y a).1 RX6 ∈ lw_tbl) ∧ ∃ np, b = np + 1 ∧ (parseMethodDescriptor (Y a).1.desc).map (fun d => d.parameters.length) = some np) ∨
      (lc = 1 ∧ Jvm.Cond.methodLink own idx Lib.objectInit ∈ lw_tbl ∧ Jvm.Cond.instanceMethod Lib.objectInit ∈ lw_tbl ∧ Jvm.Cond.code Lib.objectInit ⟨#[0xb1]⟩ 1 none ∈ lw_tbl))
  | .ireturn => decode cc pc = .ok (.ireturn, 1) ∧ ((a = 0 ∧ rt = some .int) ∨ (a = 1 ∧ rt = some .boolean))
  | .lreturn => decode cc pc = .ok (.lreturn, 1) ∧ rt = some .long
  | .return_ => decode cc pc = .ok (.return_, 1) ∧ rt = none
  | .ldc_w idx => decode cc pc = .ok (.ldc_w idx, 3) ∧ nx = pc + 3 ∧ ∃ v r, sw = (v, r) :: [] ∧ Jvm.Cond.constant own idx v ∈ lw_tbl
  | .ldc idx => decode cc pc = .ok (.ldc idx, 2) ∧ nx = pc + 2 ∧ ∃ v r, sw = (v, r) :: [] ∧ Jvm.Cond.constant own idx v ∈ lw_tbl
  | .ldc2_w idx => decode cc pc = .ok (.ldc2_w idx, 3) ∧ nx = pc + 3 ∧ Jvm.Cond.constantLong own idx lc ∈ lw_tbl
  | _ => mm_okp cc pc ins nx a sw lc
def mm_isret (rt : Option FieldType) : Instr → Option Value → Prop
  | .ireturn, some (.int x) => rt = some .int ∨ (rt = some .boolean ∧ fits .boolean (.int x) = true)
  | .lreturn, some (.long _) => rt = some .long
  | .return_, none => rt = none
  | _, _ => False
def mm_room (d : Nat) (al : Nat × Nat) : Room := { frames := d, cells := al.1, slots := al.2, locals := 100 * d + 2000 }
/-- the machine's side of a call -/
def mm_Met (l : Launch) (g : Nat → Nat) (base : Nat) (dC : Nat → ClassId) (dI : Nat → Nat → Nat) (cA : Nat → ClassId) (sN : Nat → Nat) (sf : Nat → Nat → Int32) (d : Nat) (al : Nat × Nat) (q : mm_N) (as : List Value) (mem : mm_M) (Q1 : mm_Q) : Prop :=
  mm_recv q.2.2.2.2 as mem ∧ Met l q.1 [Jvm.Cond.code q.1 q.2.1 q.2.2.1 q.2.2.2.1] (mm_room d al)
    (fun v U => v = (as.map (mm_v g)).toArray ∧ mm_Vm dC dI cA U ∧ mm_St g base sN sf U U.heap ∧ mm_Rep g base dC dI cA sN sf mem U.heap)
    (fun _ st o t => (∃ (r : Option Value) (mem' : mm_M), o = .returned (r.map (mm_v g)) ∧ Q1 r mem' ∧ mm_Rep g base dC dI cA sN sf mem' t.heap) ∧ va_F (fun q => base ≤ q) st t) al.1 al.2 (fun q => base ≤ q)
theorem mm_blind {g : Nat → Nat} {base : Nat} {dC : Nat → ClassId} {dI : Nat → Nat → Nat} {cA : Nat → ClassId} {sN : Nat → Nat} {sf : Nat → Nat → Int32} {as : List Value} {mem : mm_M} :
    FrameBlind (fun v U => v = (as.map (mm_v g)).toArray ∧ mm_Vm dC dI cA U ∧ mm_St g base sN sf U U.heap ∧ mm_Rep g base dC dI cA sN sf mem U.heap) := by
  intro a U gg mk h
  obtain ⟨h1, h2, h3, h4⟩ := h
  exact ⟨h1, h2.moved (s := U) (U := U.calling gg mk a) (State.WarmedH.refl U), h3.moved (u := U) (U := U.calling gg mk a) (Vm.Alike.refl U.vm), h4⟩
section MMS
variable {p : Program} {l : Launch} {e : Env} {R : Room} {s : State} {m : MethodId} {args : Array Value} {below : List Frame} {meth : Method} {c : Code} {H : Heap} {locs : List Loc} {cells slots : Nat} {Q : State → Prop}
variable {cc : ByteArray} {pc : Nat} {lr : Array Slot} {own : String} {g : Nat → Nat} {base : Nat} {dC : Nat → ClassId} {dI : Nat → Nat → Nat} {cA : Nat → ClassId} {sN : Nat → Nat} {sf : Nat → Nat → Int32} {mem : mm_M} {rest : List Value}
/-- behind a call -/
theorem mm_after {mc ms : Nat} {Q1 : mm_Q} {a : Array Value} {st0 : List Value} (hr : va_Run p l e R s m args below meth c H locs cells slots mc ms (F0 m pc lr st0) rest
      ((fun _ st o t => (∃ (r : Option Value) (mem' : mm_M), o = .returned (r.map (mm_v g)) ∧ Q1 r mem' ∧ mm_Rep g base dC dI cA sN sf mem' t.heap) ∧ va_F (fun q => base ≤ q) st t) a) (fun q => base ≤ q)) (hS : va_S (fun q => base ≤ q) s.heap H locs)
    (kk : ∀ (r : Option Value) (mem' : mm_M) (H1 : Heap) (locs1 : List Loc), Q1 r mem' → mm_Rep g base dC dI cA sN sf mem' H1 → va_S (fun q => base ≤ q) s.heap H1 locs1 → W p l e R s m args below meth c H1 locs1 (cells + mc) (slots + ms) Q (F0 m (pc + 3) lr ((r.map (mm_v g)).toList ++ rest))) : W p l e R s m args below meth c H locs cells slots Q (F0 m pc lr st0) := by
  intro T hT X
  obtain ⟨v, st₀, t, T', L, h0, X', hL, e1, e2, ⟨⟨r, mem', hv, hq, hrep⟩, hz, hk⟩, st⟩ := hr T hT X
  cases hv
  rw [h0] at hz hk
  obtain ⟨t2, a1, b1⟩ := kk r mem' T'.heap (locs ++ L) hq (by rw [e1]; exact hrep)
    ⟨Nat.le_trans hS.1 (by rw [e1]; exact hz), fun q h1 h2 => by rw [e1, hk q (Nat.lt_of_lt_of_le h1 hS.1) h2]; exact hS.2.1 q h1 h2, fun q hq => by
      rcases List.mem_append.mp hq with h | h
      · exact hS.2.2 q h
      · exact hL q h⟩ T' rfl X'
  exact ⟨t2, st t2 a1, b1⟩
theorem mm_pop_spec : ∀ (b : Nat) (acc st as rest : List Value), mm_pop b acc st = some (as, rest) → ∃ pre : List Value, st = pre ++ rest ∧ as = pre.reverse ++ acc ∧ pre.length = b
  | 0, acc, st, as, rest, h => by
    cases h
    exact ⟨[], rfl, rfl, rfl⟩
  | b + 1, acc, v :: st, as, rest, h => by
    obtain ⟨pre, h1, h2, h3⟩ := mm_pop_spec b (v :: acc) st as rest h
    exact ⟨v :: pre, by rw [h1]; rfl, by rw [h2]; simp, by simp [h3]⟩
  | _ + 1, _, [], _, _, h => by cases h
theorem mm_callW (X : mm_Cx p s m c cc own g base dC dI cA sN sf) {d nL idx : Nat} {al : Nat × Nat} {y : mm_N} (hml : c.maxLocals = nL) (hRm : d + 1 ≤ R.frames ∧ 100 * d + 2100 ≤ R.locals) (hY : mm_okY y) (hlink : (Jvm.Cond.methodLink own idx y.1).before args s = true) {np : Nat} (hnp : (parseMethodDescriptor y.1.desc).map (fun d => d.parameters.length) = some np) :
    CallB R s args own idx y.1 y.2.1 y.2.2.1 y.2.2.2.1 [Jvm.Cond.code y.1 y.2.1 y.2.2.1 y.2.2.2.1] (mm_room d al) al.1 al.2 np := by
  obtain ⟨hx, hb, hown, hV, hSt, hbs, hg⟩ := X
  obtain ⟨⟨h1, h2, h3, h4⟩, h5, h6⟩ := hY
  refine ⟨rfl, rfl, hRm.1, by show 8 + (y.2.2.1 + 11) + (100 * d + 2000) ≤ _; omega, fun w hw a' U hW => ?_, List.mem_singleton.mpr rfl, hV.word h1 rfl args, hV.word h2 rfl args, h5, fun sig h => ?_, hlink⟩
  · rw [List.mem_singleton.mp hw]
    exact word_at hW (good_of_word rfl) (hV.word h1 rfl args)
  · rw [h] at hnp
    exact (Option.some.inj hnp).symm
theorem mm_callN (X : mm_Cx p s m c cc own g base dC dI cA sN sf) {d nL idx : Nat} {al : Nat × Nat} {y : mm_N} (hml : c.maxLocals = nL) (hRm : d + 1 ≤ R.frames ∧ 100 * d + 2100 ≤ R.locals) (hY : mm_okY y) (hlink : (Jvm.Cond.methodLinkNest own idx y.1 RX6).before args s = true) {np : Nat} (hnp : (parseMethodDescriptor y.1.desc).map (fun d => d.parameters.length) = some np) :
    va_CN R s args own idx y.1 RX6 y.2.1 y.2.2.1 y.2.2.2.1 [Jvm.Cond.code y.1 y.2.1 y.2.2.1 y.2.2.2.1] (mm_room d al) al.1 al.2 np := by
  obtain ⟨hx, hb, hown, hV, hSt, hbs, hg⟩ := X
  obtain ⟨⟨h1, h2, h3, h4⟩, h5, h6⟩ := hY
  refine ⟨⟨rfl, rfl, hRm.1, by show 8 + (y.2.2.1 + 11) + (100 * d + 2000) ≤ _; omega, fun w hw a' U hW => ?_, List.mem_singleton.mpr rfl⟩, hV.word h1 rfl args, hV.word h2 rfl args, h5, fun sig h => ?_, hlink⟩
  · rw [List.mem_singleton.mp hw]
    exact word_at hW (good_of_word rfl) (hV.word h1 rfl args)
  · rw [h] at hnp
    exact (Option.some.inj hnp).symm
theorem mm_pre (X : mm_Cx p s m c cc own g base dC dI cA sN sf) (hR : mm_Rep g base dC dI cA sN sf mem H) (hS : va_S (fun q => base ≤ q) s.heap H locs) {as : List Value} :
    PreS s H (fun v U => v = (as.map (mm_v g)).toArray ∧ mm_Vm dC dI cA U ∧ mm_St g base sN sf U U.heap ∧ mm_Rep g base dC dI cA sN sf mem U.heap) (as.map (mm_v g)) := by
  obtain ⟨hx, hb, hown, hV, hSt, hbs, hg⟩ := X
  refine ⟨mm_blind, fun U hU hW => ⟨rfl, hV.moved hW, ?_, by rw [hU]; exact hR⟩⟩
  rw [hU]
  exact (hSt.kept (fun a h1 h2 => hS.2.1 a h1 h2)).moved hW.alike
end MMS
end
section
/-! calls -/
section MMV
variable {p : Program} {l : Launch} {e : Env} {R : Room} {s : State} {m : MethodId} {args : Array Value} {below : List Frame} {meth : Method} {c : Code} {H : Heap} {locs : List Loc} {cells slots : Nat} {Q : State → Prop}
variable {cc : ByteArray} {pc : Nat} {lr : Array Slot} {own : String} {g : Nat → Nat} {base : Nat} {dC : Nat → ClassId} {dI : Nat → Nat → Nat} {cA : Nat → ClassId} {sN : Nat → Nat} {sf : Nat → Nat → Int32} {mem : mm_M}
theorem mm_ret_map (r : Option Value) (rest : List Value) : (r.map (mm_v g)).toList ++ rest.map (mm_v g) = (r.toList ++ rest).map (mm_v g) := by
  cases r <;> simp
theorem mm_recv_ok {ci : Nat} {as : List Value} (hR : mm_Rep g base dC dI cA sN sf mem H) (h : mm_recv (ci + 1) as mem) : ∃ (r : Nat) (as' fs : List Value), as = .ref r :: as' ∧ mm_nth mem r = some (.inr (ci, fs)) ∧ 6 ≤ r := by
  unfold mm_recv at h
  dsimp only at h
  split at h
  · rename_i r t
    obtain ⟨fs, hfs⟩ := h
    exact ⟨r, t, fs, rfl, hfs, mm_own_of hR hfs⟩
  · exact h.elim
theorem mm_invV (X : mm_Cx p s m c cc own g base dC dI cA sN sf) (hR : mm_Rep g base dC dI cA sN sf mem H) (hS : va_S (fun q => base ≤ q) s.heap H locs) {d nL idx np ci : Nat} {al : Nat × Nat} {y : mm_N} {as pre rest : List Value} {Q1 : mm_Q} (hml : c.maxLocals = nL) (hlr : lr.size = nL) (hRm : d + 1 ≤ R.frames ∧ 100 * d + 2100 ≤ R.locals) (hY : mm_okY y) (hci : y.2.2.2.2 = ci + 1) (hlink : Jvm.Cond.methodLink own idx y.1 ∈ lw_tbl) (hsel : Jvm.Cond.selects y.1.cls y.1 y.1 ∈ lw_tbl) (hnp : (parseMethodDescriptor y.1.desc).map (fun d => d.parameters.length) = some np)
    (hM : mm_Met l g base dC dI cA sN sf d al y as mem Q1) (has : as = pre.reverse) (hlen : pre.length = np + 1) (hsum : mm_sum rest ≤ 8) (hcells : cells + al.1 ≤ R.cells ∧ slots + al.2 ≤ R.slots) (hdg : decode cc pc = .ok (.invokevirtual idx, 3))
    (kk : ∀ (r : Option Value) (mem' : mm_M) (H1 : Heap) (locs1 : List Loc), Q1 r mem' → mm_Rep g base dC dI cA sN sf mem' H1 → va_S (fun q => base ≤ q) s.heap H1 locs1 → W p l e R s m args below meth c H1 locs1 (cells + al.1) (slots + al.2) Q (F0 m (pc + 3) lr ((r.toList ++ rest).map (mm_v g)))) : W p l e R s m args below meth c H locs cells slots Q (F0 m pc lr ((pre ++ rest).map (mm_v g))) := by
  have hV := X.2.2.2.1
  obtain ⟨hM1, hM2⟩ := hM
  rw [hci] at hM1
  obtain ⟨r, as', fs, ha, hr, h6⟩ := mm_recv_ok hR hM1
  obtain ⟨w, hw1, hw2⟩ : ∃ w : vw_C, vwCl[ci]? = some w ∧ w.1 = y.1.cls := by
    have h := hY.2.2
    rw [hci] at h
    exact h.2
  have hinst : Jvm.Cond.instanceMethod y.1 ∈ lw_tbl := by
    have h := hY.2.2
    rw [hci] at h
    exact h.1
  have hpre : pre = as'.reverse ++ [.ref r] := by
    have h1 : pre.reverse.reverse = (.ref r :: as').reverse := by rw [← has, ha]
    rw [List.reverse_reverse, List.reverse_cons] at h1
    exact h1
  have hgr : g r = base + (r - 6) := X.2.2.2.2.2.2 r h6
  have hcell := va_recv hV.2.2.2 (hR.one h6 hr) hw1 (q0 := 0) rfl
  have hP := mm_pre X hR hS (as := as)
  refine mm_after (a := #[]) (g := g) (rest := rest.map (mm_v g)) (va_runV (C := y.1.cls) (b := g r) (As := as'.map (mm_v g)) (rest := rest.map (mm_v g)) (Ts := []) ⟨X.1, X.2.1, hml, X.2.2.1, fun w hw => by cases hw⟩ hM2 ⟨mm_callW X hml hRm hY (hV.word hlink rfl args) hnp, hV.word hinst rfl args, hV.word hsel rfl args⟩ ⟨mm_blind, ?_, ?_⟩ rfl ?_ hlr ?_ ?_ hdg hcells) hS ?_
  · rw [hgr, ← hw2]
    exact hcell
  · intro U hU hW
    have h := hP.2 U hU hW
    rw [ha] at h ⊢
    exact h
  · rw [List.length_map]
    have h := congrArg List.length hpre
    rw [List.length_append, List.length_reverse, List.length_singleton] at h
    omega
  · show (pre ++ rest).map (mm_v g) = _
    rw [hpre]
    simp [mm_v]
  · exact lv_room (by rw [mm_sum_map]; exact hsum)
  · intro r1 mem' H1 locs1 q1 q2 q3
    rw [mm_ret_map]
    exact kk r1 mem' H1 locs1 q1 q2 q3
theorem mm_invS (X : mm_Cx p s m c cc own g base dC dI cA sN sf) (hR : mm_Rep g base dC dI cA sN sf mem H) (hS : va_S (fun q => base ≤ q) s.heap H locs) {d nL idx np : Nat} {al : Nat × Nat} {y : mm_N} {as pre rest : List Value} {Q1 : mm_Q} (hml : c.maxLocals = nL) (hlr : lr.size = nL) (hRm : d + 1 ≤ R.frames ∧ 100 * d + 2100 ≤ R.locals) (hY : mm_okY y) (hci : y.2.2.2.2 = 0) (hlink : Jvm.Cond.methodLink own idx y.1 ∈ lw_tbl ∨ Jvm.Cond.methodLinkNest own idx y.1 RX6 ∈ lw_tbl) (hnp : (parseMethodDescriptor y.1.desc).map (fun d => d.parameters.length) = some np)
    (hM : mm_Met l g base dC dI cA sN sf d al y as mem Q1) (has : as = pre.reverse) (hlen : pre.length = np) (hsum : mm_sum rest ≤ 8) (hcells : cells + al.1 ≤ R.cells ∧ slots + al.2 ≤ R.slots) (hdg : decode cc pc = .ok (.invokestatic idx, 3))
    (kk : ∀ (r : Option Value) (mem' : mm_M) (H1 : Heap) (locs1 : List Loc), Q1 r mem' → mm_Rep g base dC dI cA sN sf mem' H1 → va_S (fun q => base ≤ q) s.heap H1 locs1 → W p l e R s m args below meth c H1 locs1 (cells + al.1) (slots + al.2) Q (F0 m (pc + 3) lr ((r.toList ++ rest).map (mm_v g)))) : W p l e R s m args below meth c H locs cells slots Q (F0 m pc lr ((pre ++ rest).map (mm_v g))) := by
  have hV := X.2.2.2.1
  obtain ⟨hM1, hM2⟩ := hM
  have hstat : Jvm.Cond.static y.1 ∈ lw_tbl := by
    have h := hY.2.2
    rw [hci] at h
    exact h
  have hpre : pre = as.reverse := by rw [has, List.reverse_reverse]
  have hlen2 : (as.map (mm_v g)).length = np := by rw [List.length_map, has, List.length_reverse]; exact hlen
  have hstk : (pre ++ rest).map (mm_v g) = (as.map (mm_v g)).reverse ++ rest.map (mm_v g) := by rw [hpre]; simp
  have hP := mm_pre X hR hS (as := as)
  have hroom : 2 * (F0 m pc lr ((pre ++ rest).map (mm_v g))).monitorRoom + ((rest.map (mm_v g)).map fun v => v.category).sum ≤ 8 := lv_room (by rw [mm_sum_map]; exact hsum)
  rcases hlink with hlink | hlink
  · refine mm_after (a := #[]) (g := g) (rest := rest.map (mm_v g)) (va_runS (As := as.map (mm_v g)) (rest := rest.map (mm_v g)) (Ts := []) ⟨X.1, X.2.1, hml, X.2.2.1, fun w hw => by cases hw⟩ hM2 ⟨mm_callW X hml hRm hY (hV.word hlink rfl args) hnp, hV.word hstat rfl args⟩ hP rfl hlen2 hlr hstk hroom hdg hcells) hS ?_
    intro r1 mem' H1 locs1 q1 q2 q3
    rw [mm_ret_map]
    exact kk r1 mem' H1 locs1 q1 q2 q3
  · refine mm_after (a := #[]) (g := g) (rest := rest.map (mm_v g)) (va_runSN (As := as.map (mm_v g)) (rest := rest.map (mm_v g)) (Ts := []) ⟨X.1, X.2.1, hml, X.2.2.1, fun w hw => by cases hw⟩ hM2 ⟨mm_callN X hml hRm hY (va_Nw.use rfl (hV.2.1 _ hlink rfl)) hnp, hV.word hstat rfl args, trivial⟩ hP rfl hlen2 hlr hstk hroom hdg hcells) hS ?_
    intro r1 mem' H1 locs1 q1 q2 q3
    rw [mm_ret_map]
    exact kk r1 mem' H1 locs1 q1 q2 q3
theorem mm_invI (X : mm_Cx p s m c cc own g base dC dI cA sN sf) (hR : mm_Rep g base dC dI cA sN sf mem H) (hS : va_S (fun q => base ≤ q) s.heap H locs) {d nL idx np ci : Nat} {al : Nat × Nat} {y : mm_N} {as pre rest : List Value} {Q1 : mm_Q} (hml : c.maxLocals = nL) (hlr : lr.size = nL) (hRm : d + 1 ≤ R.frames ∧ 100 * d + 2100 ≤ R.locals) (hY : mm_okY y) (hci : y.2.2.2.2 = ci + 1) (hnm : y.1.name = "<init>") (hrt : y.2.2.2.1 = none) (hlink : Jvm.Cond.methodLink own idx y.1 ∈ lw_tbl ∨ Jvm.Cond.methodLinkNest own idx y.1 RX6 ∈ lw_tbl) (hnp : (parseMethodDescriptor y.1.desc).map (fun d => d.parameters.length) = some np)
    (hM : mm_Met l g base dC dI cA sN sf d al y as mem Q1) (has : as = pre.reverse) (hlen : pre.length = np + 1) (hsum : mm_sum rest ≤ 8) (hcells : cells + al.1 ≤ R.cells ∧ slots + al.2 ≤ R.slots) (hdg : decode cc pc = .ok (.invokespecial idx, 3))
    (kk : ∀ (r : Option Value) (mem' : mm_M) (H1 : Heap) (locs1 : List Loc), Q1 r mem' → mm_Rep g base dC dI cA sN sf mem' H1 → va_S (fun q => base ≤ q) s.heap H1 locs1 → W p l e R s m args below meth c H1 locs1 (cells + al.1) (slots + al.2) Q (F0 m (pc + 3) lr ((r.toList ++ rest).map (mm_v g)))) : W p l e R s m args below meth c H locs cells slots Q (F0 m pc lr ((pre ++ rest).map (mm_v g))) := by
  have hV := X.2.2.2.1
  obtain ⟨y, bt, ml, rt, rc⟩ := y
  dsimp only at hci hnm hrt hlink hnp hM
  subst hrt
  obtain ⟨hM1, hM2⟩ := hM
  dsimp only at hM1 hM2
  rw [hci] at hM1
  obtain ⟨r, as', fs, ha, hr, h6⟩ := mm_recv_ok hR hM1
  have hinst : Jvm.Cond.instanceMethod y ∈ lw_tbl := by
    have h := hY.2.2
    dsimp only at h
    rw [hci] at h
    exact h.1
  have hpre : pre = as'.reverse ++ [.ref r] := by
    have h1 : pre.reverse.reverse = (.ref r :: as').reverse := by rw [← has, ha]
    rw [List.reverse_reverse, List.reverse_cons] at h1
    exact h1
  have hlen2 : (as'.map (mm_v g)).length = np := by
    rw [List.length_map]
    have h := congrArg List.length hpre
    rw [List.length_append, List.length_reverse, List.length_singleton] at h
    omega
  have hstk : (pre ++ rest).map (mm_v g) = (as'.map (mm_v g)).reverse ++ .ref (g r) :: rest.map (mm_v g) := by
    rw [hpre]
    simp [mm_v]
  have hP := mm_pre X hR hS (as := as)
  have hP2 : PreS s H (fun v U => v = (as.map (mm_v g)).toArray ∧ mm_Vm dC dI cA U ∧ mm_St g base sN sf U U.heap ∧ mm_Rep g base dC dI cA sN sf mem U.heap) (.ref (g r) :: as'.map (mm_v g)) := by
    have h : as.map (mm_v g) = .ref (g r) :: as'.map (mm_v g) := by rw [ha]; rfl
    rw [← h]
    exact hP
  have hroom : 2 * (F0 m pc lr ((pre ++ rest).map (mm_v g))).monitorRoom + ((rest.map (mm_v g)).map fun v => v.category).sum ≤ 8 := lv_room (by rw [mm_sum_map]; exact hsum)
  rcases hlink with hlink | hlink
  · refine mm_after (a := #[]) (g := g) (rest := rest.map (mm_v g)) (va_runI (b := g r) (As := as'.map (mm_v g)) (rest := rest.map (mm_v g)) (Ts := []) ⟨X.1, X.2.1, hml, X.2.2.1, fun w hw => by cases hw⟩ hM2 ⟨mm_callW X hml hRm hY (hV.word hlink rfl args) hnp, hnm, hV.word hinst rfl args⟩ hP2 rfl hlen2 hlr hstk hroom hdg hcells) hS ?_
    intro r1 mem' H1 locs1 q1 q2 q3
    rw [mm_ret_map]
    exact kk r1 mem' H1 locs1 q1 q2 q3
  · refine mm_after (a := #[]) (g := g) (rest := rest.map (mm_v g)) (va_runIN (b := g r) (As := as'.map (mm_v g)) (rest := rest.map (mm_v g)) (Ts := []) ⟨X.1, X.2.1, hml, X.2.2.1, fun w hw => by cases hw⟩ hM2 ⟨mm_callN X hml hRm hY (va_Nw.use rfl (hV.2.1 _ hlink rfl)) hnp, hnm, hV.word hinst rfl args⟩ hP2 rfl hlen2 hlr hstk hroom hdg hcells) hS ?_
    intro r1 mem' H1 locs1 q1 q2 q3
    rw [mm_ret_map]
    exact kk r1 mem' H1 locs1 q1 q2 q3
end MMV
end
section
/-! the walk of a method's body -/
section MMW
variable {p : Program} {l : Launch} {e : Env} {R : Room} {s : State} {m : MethodId} {args : Array Value} {below : List Frame} {meth : Method} {c : Code} {H : Heap} {locs : List Loc} {cells slots : Nat} {Q : State → Prop}
variable {cc : ByteArray} {pc : Nat} {lr : Array Slot} {own : String} {g : Nat → Nat} {base : Nat} {dC : Nat → ClassId} {dI : Nat → Nat → Nat} {cA : Nat → ClassId} {sN : Nat → Nat} {sf : Nat → Nat → Int32} {mem : mm_M}
theorem mm_ifi (hx : p.tables.exec = Jvm.exec) (hb : c.code = cc) (z : ClassFile.Cond) {o : Int} {a : Nat} {x : Int32} {rest : List Value} (hd : decode cc pc = .ok (.ifCond z o, 3)) (ht : (pc : Int) + o = (a : Int))
    (h : mm_if z x 0 (W p l e R s m args below meth c H locs cells slots Q (F0 m a lr rest)) (W p l e R s m args below meth c H locs cells slots Q (F0 m (pc + 3) lr rest))) : W p l e R s m args below meth c H locs cells slots Q (F0 m pc lr (.int x :: rest)) := by
  cases z
  · exact lv_if_eq hx hb hd ht h.1 h.2
  · exact lv_if_ne hx hb hd ht h.1 h.2
  · exact lv_if_lt hx hb hd ht h.1 h.2
  · exact lv_if_ge hx hb hd ht h.1 h.2
  · exact lv_if_gt hx hb hd ht h.1 h.2
  · exact lv_if_le hx hb hd ht h.1 h.2
theorem mm_ifc (hx : p.tables.exec = Jvm.exec) (hb : c.code = cc) (z : ClassFile.Cond) {o : Int} {a : Nat} {x y : Int32} {rest : List Value} (hd : decode cc pc = .ok (.if_icmp z o, 3)) (ht : (pc : Int) + o = (a : Int))
    (h : mm_if z x y (W p l e R s m args below meth c H locs cells slots Q (F0 m a lr rest)) (W p l e R s m args below meth c H locs cells slots Q (F0 m (pc + 3) lr rest))) : W p l e R s m args below meth c H locs cells slots Q (F0 m pc lr (.int y :: .int x :: rest)) := by
  cases z
  · exact lv_icmp_eq hx hb hd ht h.1 h.2
  · exact lv_icmp_ne hx hb hd ht h.1 h.2
  · exact lv_icmp_lt hx hb hd ht h.1 h.2
  · exact lv_icmp_ge hx hb hd ht h.1 h.2
  · exact lv_icmp_gt hx hb hd ht h.1 h.2
  · exact lv_icmp_le hx hb hd ht h.1 h.2
/-- where the machine stands, where the small one does -/
def mm_at (p : Program) (l : Launch) (e : Env) (R : Room) (s : State) (m : MethodId) (args : Array Value) (below : List Frame) (meth : Method) (c : Code) (Q : State → Prop) (g : Nat → Nat) (base : Nat) (dC : Nat → ClassId) (dI : Nat → Nat → Nat) (cA : Nat → ClassId) (sN : Nat → Nat) (sf : Nat → Nat → Int32) (nL : Nat) : mm_K := fun pc ls st mem k n =>
  ∀ (H : Heap) (locs : List Loc) (lr : Array Slot), mm_Rep g base dC dI cA sN sf mem H → va_S (fun q => base ≤ q) s.heap H locs → mm_LR g nL ls lr → k ≤ R.cells → n ≤ R.slots → W p l e R s m args below meth c H locs k n Q (F0 m pc lr (st.map (mm_v g)))
theorem mm_df_map {l : List Value} (h : ∀ v ∈ l, mm_v (fun x => x + 1) v = v) : l.map (mm_v g) = l := by
  induction l with
  | nil => rfl
  | cons v t ih =>
    have h1 := h v List.mem_cons_self
    have h2 : mm_v g v = v := by
      cases v <;> first | rfl | skip
      rename_i a
      exact absurd (Value.ref.inj h1) (Nat.succ_ne_self a)
    rw [List.map_cons, h2, ih (fun w hw => h w (List.mem_cons_of_mem _ hw))]
set_option maxHeartbeats 4000000 in
theorem mm_sim_call (X : mm_Cx p s m c cc own g base dC dI cA sN sf) {S : mm_S} {Al : Nat → Nat × Nat} {d nL nx a b : Nat} {ls : mm_L} {st : List Value} {k n : Nat}
    (inv : ∀ (H : Heap) (locs : List Loc) (lr : Array Slot) (as pre rest : List Value) (Q1 : mm_Q) (cells slots : Nat), mm_Rep g base dC dI cA sN sf mem H → va_S (fun q => base ≤ q) s.heap H locs → lr.size = nL → S a as mem Q1 → as = pre.reverse → pre.length = b → mm_sum rest ≤ 8 → cells + (Al a).1 ≤ R.cells ∧ slots + (Al a).2 ≤ R.slots →
      (∀ (r : Option Value) (mem' : mm_M) (H1 : Heap) (locs1 : List Loc), Q1 r mem' → mm_Rep g base dC dI cA sN sf mem' H1 → va_S (fun q => base ≤ q) s.heap H1 locs1 → W p l e R s m args below meth c H1 locs1 (cells + (Al a).1) (slots + (Al a).2) Q (F0 m nx lr ((r.toList ++ rest).map (mm_v g)))) → W p l e R s m args below meth c H locs cells slots Q (F0 m pc lr ((pre ++ rest).map (mm_v g))))
    (h : mm_call S Al (R.cells, R.slots) (mm_at p l e R s m args below meth c Q g base dC dI cA sN sf nL) nx ls mem k n a (mm_pop b [] st)) : mm_at p l e R s m args below meth c Q g base dC dI cA sN sf nL pc ls st mem k n := by
  intro H locs lr hR hS hl hk hn
  unfold mm_call at h
  split at h
  · exact h.elim
  · rename_i q hq
    obtain ⟨as, rest⟩ := q
    obtain ⟨pre, h1, h2, h3⟩ := mm_pop_spec b [] st as rest hq
    rw [List.append_nil] at h2
    subst h1
    split at h
    · exact h.elim
    · rename_i hb
      have hsum : mm_sum rest ≤ 8 := Nat.le_of_ble_eq_true hb
      split at h
      · rename_i hal
        obtain ⟨Q1, hs, hgo⟩ := h
        have e1 : (Al a).1 = 0 := by rw [hal]
        have e2 : (Al a).2 = 0 := by rw [hal]
        refine inv H locs lr as pre rest Q1 k n hR hS hl.2.1 hs h2 h3 hsum ⟨by omega, by omega⟩ ?_
        intro r mem' H1 locs1 q1 q2 q3
        rw [e1, e2]
        exact hgo r mem' q1 H1 locs1 lr q2 q3 hl hk hn
      · rename_i c0 d0 _ hal
        obtain ⟨⟨hc1, hc2⟩, Q1, hs, hgo⟩ := h
        have e1 : (Al a).1 = c0 := by rw [hal]
        have e2 : (Al a).2 = d0 := by rw [hal]
        refine inv H locs lr as pre rest Q1 k n hR hS hl.2.1 hs h2 h3 hsum ⟨by rw [e1]; exact hc1, by rw [e2]; exact hc2⟩ ?_
        intro r mem' H1 locs1 q1 q2 q3
        rw [e1, e2]
        exact hgo r mem' q1 H1 locs1 lr q2 q3 hl hc1 hc2
set_option maxHeartbeats 4000000 in
theorem mm_sim (X : mm_Cx p s m c cc own g base dC dI cA sN sf) {Y : Nat → mm_N} {S : mm_S} {Al : Nat → Nat × Nat} {Df : Nat → List Value} {cd : mm_C} {Qm : mm_Q} {d nL : Nat} {ini : Bool} {rt : Option FieldType} (hml : c.maxLocals = nL) (hRm : d + 1 ≤ R.frames ∧ 100 * d + 2100 ≤ R.locals) (hini : ini = true → meth.name = "<init>")
    (hSp : ∀ (j : Nat) (as : List Value) (mem : mm_M) (Q1 : mm_Q), S j as mem Q1 → mm_okY (Y j) → mm_Met l g base dC dI cA sN sf d (Al j) (Y j) as mem Q1)
    (hok : ∀ (pc : Nat) (q : mm_I), mm_find cd pc = some q → mm_oki Y own ini cc rt Df pc q.1 q.2.1 q.2.2.1 q.2.2.2.1 q.2.2.2.2.1 q.2.2.2.2.2)
    (hret : ∀ (pc : Nat) (mem : mm_M) (H : Heap) (locs : List Loc) (lr : Array Slot) (k n : Nat) (v : Option Value) (ins : Instr), decode cc pc = .ok (ins, 1) → mm_isret rt ins v → mm_Rep g base dC dI cA sN sf mem H → va_S (fun q => base ≤ q) s.heap H locs → k ≤ R.cells → n ≤ R.slots → Qm v mem → W p l e R s m args below meth c H locs k n Q (F0 m pc lr (v.toList.map (mm_v g)))) :
    ∀ (pc : Nat) (ls : mm_L) (st : List Value) (mem : mm_M) (k n : Nat), mm_step S Al Df (R.cells, R.slots) cd Qm (mm_at p l e R s m args below meth c Q g base dC dI cA sN sf nL) pc ls st mem k n → mm_at p l e R s m args below meth c Q g base dC dI cA sN sf nL pc ls st mem k n := by
  intro pc ls st mem k n h
  have hx := X.1
  have hb := X.2.1
  unfold mm_step at h
  split at h
  · exact h.elim
  · rename_i ins nx a b sw lc hq
    have ok := hok pc _ hq
    dsimp only at ok
    unfold mm_ins at h
    split at h
    -- idiv, irem, ldiv, lrem
    · obtain ⟨hd, rfl⟩ := ok
      split at h
      · intro H locs lr hR hS hl hk hn
        refine lv_idiv hx hb hd h.1 ?_
        exact h.2 H locs lr hR hS hl hk hn
      · exact h.elim
    · obtain ⟨hd, rfl⟩ := ok
      split at h
      · intro H locs lr hR hS hl hk hn
        refine lv_irem hx hb hd h.1 ?_
        exact h.2 H locs lr hR hS hl hk hn
      · exact h.elim
    · obtain ⟨hd, rfl⟩ := ok
      split at h
      · intro H locs lr hR hS hl hk hn
        refine lv_ldiv hx hb hd h.1 ?_
        exact h.2 H locs lr hR hS hl hk hn
      · exact h.elim
    · obtain ⟨hd, rfl⟩ := ok
      split at h
      · intro H locs lr hR hS hl hk hn
        refine lv_lrem hx hb hd h.1 ?_
        exact h.2 H locs lr hR hS hl hk hn
      · exact h.elim
    -- branches
    · obtain ⟨hd, rfl, ht⟩ := ok
      split at h
      · intro H locs lr hR hS hl hk hn
        refine mm_ifi hx hb _ hd ht ?_
        exact mm_if_mono (fun w => w H locs lr hR hS hl hk hn) (fun w => w H locs lr hR hS hl hk hn) h
      · exact h.elim
    · obtain ⟨hd, rfl, ht⟩ := ok
      split at h
      · intro H locs lr hR hS hl hk hn
        refine mm_ifc hx hb _ hd ht ?_
        exact mm_if_mono (fun w => w H locs lr hR hS hl hk hn) (fun w => w H locs lr hR hS hl hk hn) h
      · exact h.elim
    · obtain ⟨hd, ht⟩ := ok
      intro H locs lr hR hS hl hk hn
      exact lv_goto hx hb hd ht (h H locs lr hR hS hl hk hn)
    -- switches
    · obtain ⟨⟨len, hd⟩, ht, hsw, hhi⟩ := ok
      split at h
      · rename_i x st0
        intro H locs lr hR hS hl hk hn
        rcases mm_tsw_ok _ _ _ hsw h with ⟨h1, h2⟩ | ⟨i, o, t, h1, h2, h3, h4⟩
        · exact lv_tableOut hx hb hd (by omega) ht (h1 H locs lr hR hS hl hk hn)
        · have hi := (List.getElem?_eq_some_iff.mp h1).1
          refine lv_tableIn (off := o) hx hb hd (by omega) (by omega) ?_ h3 (h4 H locs lr hR hS hl hk hn)
          rw [← Array.getElem?_toList, h2, show ∀ lo : Int, (lo + (i : Int) - lo).toNat = i from fun lo => by omega]
          exact h1
      · exact h.elim
    · obtain ⟨⟨len, hd⟩, ht, hsw, hsort⟩ := ok
      split at h
      · rename_i x st0
        intro H locs lr hR hS hl hk hn
        obtain ⟨t, h1, h2⟩ := mm_lsw_ok ht _ _ hsw h
        refine lv_lookup hx hb hd hsort rfl h1 ?_
        rcases h2 with ⟨rfl, h2⟩ | h2
        · exact h2 H locs lr hR hS hl hk hn
        · exact h2 H locs lr hR hS hl hk hn
      · exact h.elim
    -- getstatic
    · obtain ⟨hd, rfl, h1, h2, h3⟩ := ok
      intro H locs lr hR hS hl hk hn
      exact mm_gets X hS h1 h2 h3 hd (h H locs lr hR hS hl hk hn)
    -- getfield
    · obtain ⟨hd, rfl, q, hf⟩ := ok
      split at h
      · rename_i r st0
        split at h
        · rename_i o hr
          split at h
          · rename_i hbq
            split at h
            · rename_i v hv
              intro H locs lr hR hS hl hk hn
              obtain ⟨ci, fs⟩ := o
              have e0 : ci = a := Nat.eq_of_beq_eq_true hbq
              subst e0
              exact mm_getf X hR hr hv hf hd (h H locs lr hR hS hl hk hn)
            · exact h.elim
          · exact h.elim
        · exact h.elim
      · exact h.elim
    -- putfield
    · obtain ⟨hd, rfl, ⟨q, hf, hfin⟩, htag⟩ := ok
      split at h
      · rename_i v r st0
        split at h
        · rename_i o hr
          split at h
          · rename_i hbq
            split at h
            · rename_i v0 hv
              split at h
              · rename_i z tag tl
                intro H locs lr hR hS hl hk hn
                obtain ⟨ci, fs⟩ := o
                have e0 : ci = a := Nat.eq_of_beq_eq_true hbq
                subst e0
                refine mm_putf X hR hS hr hv hf h.1 (htag _ _ _ rfl) (hfin.imp id (fun z => ⟨hini z.1, z.2⟩)) hd ?_
                intro H1 locs1 q1 q2
                exact h.2 H1 locs1 lr q1 q2 hl hk hn
              · exact h.elim
            · exact h.elim
          · exact h.elim
        · exact h.elim
      · exact h.elim
    -- iaload, baload, aaload
    · obtain ⟨hd, rfl⟩ := ok
      split at h
      · split at h
        · rename_i hr
          intro H locs lr hR hS hl hk hn
          exact mm_iald X hR hS hr h.1 hd (h.2 H locs lr hR hS hl hk hn)
        · exact h.elim
      · exact h.elim
    · obtain ⟨hd, rfl⟩ := ok
      split at h
      · split at h
        · rename_i hr
          intro H locs lr hR hS hl hk hn
          exact mm_zald X hR hr h.1 hd (h.2 H locs lr hR hS hl hk hn)
        · exact h.elim
      · exact h.elim
    · obtain ⟨hd, rfl⟩ := ok
      split at h
      · split at h
        · rename_i hr
          intro H locs lr hR hS hl hk hn
          obtain ⟨h1, y, h2, h3⟩ := h
          exact mm_aald X hR hr h1 h2 hd (h3 H locs lr hR hS hl hk hn)
        · exact h.elim
      · exact h.elim
    -- iastore, bastore, aastore
    · obtain ⟨hd, rfl⟩ := ok
      split at h
      · split at h
        · rename_i h6
          split at h
          · rename_i hr
            intro H locs lr hR hS hl hk hn
            refine mm_iast X hR hS (Nat.le_of_ble_eq_true h6) hr h.1 hd ?_
            intro H1 locs1 q1 q2
            exact h.2 H1 locs1 lr q1 q2 hl hk hn
          · exact h.elim
        · exact h.elim
      · exact h.elim
    · obtain ⟨hd, rfl⟩ := ok
      split at h
      · split at h
        · rename_i h6
          split at h
          · rename_i hr
            intro H locs lr hR hS hl hk hn
            refine mm_zast X hR hS (Nat.le_of_ble_eq_true h6) hr h.1 h.2.1 hd ?_
            intro H1 locs1 q1 q2
            exact h.2.2 H1 locs1 lr q1 q2 hl hk hn
          · exact h.elim
        · exact h.elim
      · exact h.elim
    · obtain ⟨hd, rfl, rfl⟩ := ok
      split at h
      · split at h
        · rename_i h6
          split at h
          · rename_i hr
            intro H locs lr hR hS hl hk hn
            obtain ⟨h1, ⟨fs, h2⟩, h3⟩ := h
            refine mm_aast X hR hS (Nat.le_of_ble_eq_true h6) hr h1 h2 hd ?_
            intro H1 locs1 q1 q2
            exact h3 H1 locs1 lr q1 q2 hl hk hn
          · exact h.elim
        · exact h.elim
      · exact h.elim
    -- arraylength
    · obtain ⟨hd, rfl⟩ := ok
      split at h
      · split at h
        · rename_i t N z hr
          split at h
          · rename_i ht
            intro H locs lr hR hS hl hk hn
            have ht2 := Nat.le_of_ble_eq_true ht
            exact mm_alen X hR hS hr (by omega) hd (h H locs lr hR hS hl hk hn)
          · exact h.elim
        · exact h.elim
      · exact h.elim
    -- new
    · obtain ⟨hd, rfl, q, h1, h2, h3, h4, rfl, h6, h7⟩ := ok
      obtain ⟨⟨hc1, hc2⟩, h⟩ := h
      intro H locs lr hR hS hl hk hn
      refine mm_newo (fs := Df a) X hR hS h1 h2 h3 h4 rfl (fun j hj => by rw [mm_df_map h7]; exact h6 j hj) hc1 hc2 hd ?_
      intro H1 q1 q2
      exact h _ rfl H1 locs lr q1 q2 hl hc1 hc2
    -- newarray
    · obtain ⟨hd, rfl, hN, hty⟩ := ok
      split at h
      · rename_i x st0
        obtain ⟨rfl, ⟨hc1, hc2⟩, h⟩ := h
        intro H locs lr hR hS hl hk hn
        rcases hty with ⟨rfl, rfl, ha⟩ | ⟨rfl, rfl, ha⟩
        · refine mm_newi X hR hS hN ha hc1 hc2 hd ?_
          intro H1 q1 q2
          exact h _ rfl H1 locs lr q1 q2 hl hc1 hc2
        · refine mm_newz X hR hS hN ha hc1 hc2 hd ?_
          intro H1 q1 q2
          exact h _ rfl H1 locs lr q1 q2 hl hc1 hc2
      · exact h.elim
    -- anewarray
    · obtain ⟨hd, rfl, hN, ha⟩ := ok
      split at h
      · rename_i x st0
        obtain ⟨rfl, ⟨hc1, hc2⟩, h⟩ := h
        intro H locs lr hR hS hl hk hn
        refine mm_newq X hR hS hN ha hc1 hc2 hd ?_
        intro H1 q1 q2
        exact h _ rfl H1 locs lr q1 q2 hl hc1 hc2
      · exact h.elim
    -- invokevirtual
    · obtain ⟨⟨hd, rfl, hY⟩, ⟨ci, hci⟩, hlk, hsel, np, rfl, hnp⟩ := ok
      refine mm_sim_call (d := d) X ?_ h
      intro H locs lr as pre rest Q1 cells slots hR hS hlr hs h2 h3 hsum hcs kk
      exact mm_invV X hR hS hml hlr hRm hY hci hlk hsel hnp (hSp a as mem Q1 hs hY) h2 h3 hsum hcs hd kk
    -- invokestatic
    · obtain ⟨⟨hd, rfl⟩, ok⟩ := ok
      split at h
      · rcases ok with ⟨-, hY, hci, hlk, hnp⟩ | ⟨h0, -⟩ | ⟨h0, -⟩
        · refine mm_sim_call (d := d) X ?_ h
          intro H locs lr as pre rest Q1 cells slots hR hS hlr hs h2 h3 hsum hcs kk
          exact mm_invS X hR hS hml hlr hRm hY hci hlk hnp (hSp a as mem Q1 hs hY) h2 h3 hsum hcs hd kk
        · exact absurd h0 (by decide)
        · exact absurd h0 (by decide)
      · rcases ok with ⟨h0, -⟩ | ⟨h0, -⟩ | ⟨-, hlk, hstat, hin, hcode⟩
        · exact absurd h0 (by decide)
        · exact absurd h0 (by decide)
        · split at h
          · intro H locs lr hR hS hl hk hn
            have hV := X.2.2.2.1
            refine va_mmax hx hb (hml.trans hl.2.1.symm) X.2.2.1 (hV.word hlk rfl args) (hV.word hstat rfl args) (hV.word hin rfl args) (hV.word hcode rfl args) (by omega) (by rw [mm_sum_map]; have h9 := h.1; omega) hk hn hd ?_
            exact h.2 H locs lr hR hS hl hk hn
          · exact h.elim
      · rename_i hlc0 hlc2
        rcases ok with ⟨h0, -⟩ | ⟨-, hlk, hnat, hstat, hin⟩ | ⟨h0, -⟩
        · exact (hlc0 h0).elim
        · split at h
          · rename_i z dp dd sp r st0
            split at h
            · rename_i N f M gg h6 hr hdd
              intro H locs lr hR hS hl hk hn
              obtain ⟨⟨⟨h1, h2, h3, h4⟩, h5, h7, h8⟩, h⟩ := h
              refine mm_copy X hR hS (hml.trans hl.2.1.symm) h4 (Nat.le_of_ble_eq_true h6) hr hdd hlk hnat hstat hin h1 h2 h3 h5 h7 h8 (by omega) ?_ hd ?_
              · have : nativeFrameWords "java/lang/System" "arraycopy" 5 ≤ 1000 := by decide +kernel
                omega
              · intro H1 locs1 q1 q2
                exact h H1 locs1 lr q1 q2 hl hk hn
            · exact h.elim
          · exact h.elim
        · exact (hlc2 h0).elim
    -- invokespecial
    · obtain ⟨⟨hd, rfl⟩, ok⟩ := ok
      split at h
      · rcases ok with ⟨-, hY, ⟨ci, hci⟩, hnm, hrt, hlk, np, rfl, hnp⟩ | ⟨h0, -⟩
        · refine mm_sim_call (d := d) X ?_ h
          intro H locs lr as pre rest Q1 cells slots hR hS hlr hs h2 h3 hsum hcs kk
          exact mm_invI X hR hS hml hlr hRm hY hci hnm hrt hlk hnp (hSp a as mem Q1 hs hY) h2 h3 hsum hcs hd kk
        · exact absurd h0 (by decide)
      · rename_i hlc
        rcases ok with ⟨h0, -⟩ | ⟨-, hlk, hin, hcd⟩
        · exact (hlc h0).elim
        · split at h
          · rename_i r st0
            intro H locs lr hR hS hl hk hn
            have hV := X.2.2.2.1
            refine W.objInit hx hb X.2.2.1 (hV.word hlk rfl args) (hV.word hin rfl args) (hV.word hcd rfl args) rfl (hl.2.1.trans hml.symm) rfl hd (by omega) ?_ (h.2 H locs lr hR hS hl hk hn)
            have h9 : 2 * (F0 m pc lr (st0.map (mm_v g))).monitorRoom + ((st0.map (mm_v g)).map fun v => v.category).sum ≤ 8 := lv_room (by rw [mm_sum_map]; exact h.1)
            exact Nat.le_trans (Nat.add_le_add_right h9 12) (by omega)
          · exact h.elim
    -- returns
    · obtain ⟨hd, hrt⟩ := ok
      split at h
      · rename_i v
        split at h
        · rcases hrt with ⟨-, hrt⟩ | ⟨h0, -⟩
          · intro H locs lr hR hS hl hk hn
            exact hret pc mem H locs lr k n (some (.int v)) _ hd (Or.inl hrt) hR hS hk hn h
          · cases h0
        · rename_i hne
          rcases hrt with ⟨h0, -⟩ | ⟨-, hrt⟩
          · exact (hne h0).elim
          · intro H locs lr hR hS hl hk hn
            exact hret pc mem H locs lr k n (some (.int v)) _ hd (Or.inr ⟨hrt, h.1⟩) hR hS hk hn h.2
      · exact h.elim
    · obtain ⟨hd, hrt⟩ := ok
      split at h
      · rename_i v
        intro H locs lr hR hS hl hk hn
        exact hret pc mem H locs lr k n (some (.long v)) _ hd hrt hR hS hk hn h
      · exact h.elim
    · obtain ⟨hd, hrt⟩ := ok
      split at h
      · intro H locs lr hR hS hl hk hn
        exact hret pc mem H locs lr k n none _ hd hrt hR hS hk hn h
      · exact h.elim
    -- the rest
    · split at h
      · rename_i ls' st' hr
        intro H locs lr hR hS hl hk hn
        have hV := X.2.2.2.1
        by_cases hc1 : ∃ idx, ins = .ldc_w idx
        · obtain ⟨idx, rfl⟩ := hc1
          obtain ⟨hd, rfl, v, r, rfl, hw⟩ := ok
          cases hr
          exact lv_ldcw hx hb X.2.2.1 (hV.word hw rfl args) hd (h H locs lr hR hS hl hk hn)
        · by_cases hc2 : ∃ idx, ins = .ldc idx
          · obtain ⟨idx, rfl⟩ := hc2
            obtain ⟨hd, rfl, v, r, rfl, hw⟩ := ok
            cases hr
            exact lv_ldc hx hb X.2.2.1 (hV.word hw rfl args) hd (h H locs lr hR hS hl hk hn)
          · by_cases hc3 : ∃ idx, ins = .ldc2_w idx
            · obtain ⟨idx, rfl⟩ := hc3
              obtain ⟨hd, rfl, hw⟩ := ok
              cases hr
              exact lv_ldc2 hx hb X.2.2.1 (hV.word hw rfl args) hd (h H locs lr hR hS hl hk hn)
            · refine mm_pure_ok hx hb ins ?_ hl hr (fun lr' hl' => h H locs lr' hR hS hl' hk hn)
              unfold mm_oki at ok
              split at ok
              all_goals first
                | exact ok
                | (cases hr; done)
                | (rename_i z; exact (z rfl).elim)
                | (exfalso; exact hc1 ⟨_, rfl⟩)
                | (exfalso; exact hc2 ⟨_, rfl⟩)
                | (exfalso; exact hc3 ⟨_, rfl⟩)
                | (exfalso; simp_all; done)
      · exact h.elim
end MMW
end
section
/-! what the small machine says of a call, the machine does -/
theorem mm_lay_len {g : Nat → Nat} : ∀ as : List Value, (lg_sl (as.map (mm_v g))).length = (mm_lay as).length
  | [] => rfl
  | v :: t => by
    have ih := mm_lay_len (g := g) t
    cases v <;> simp_all [lg_sl, mm_lay, mm_v, Value.category]
theorem mm_lay_mem {g : Nat → Nat} : ∀ (as : List Value) (i0 i : Nat) (v : Value), mm_nth (mm_lay as) i = some (some v) → (i0 + i, mm_v g v) ∈ lv_args i0 (as.map (mm_v g))
  | [], _, _, _, h => by cases h
  | w :: t, i0, i, v, h => by
    have ih := mm_lay_mem (g := g) t
    have one : ∀ (w : Value), w.category = 1 → mm_nth (some w :: mm_lay t) i = some (some v) → (i0 + i, mm_v g v) ∈ (i0, mm_v g w) :: lv_args (i0 + 1) (t.map (mm_v g)) := by
      intro w _ h
      cases i with
      | zero => cases h; exact List.mem_cons_self
      | succ i =>
        have h2 := ih (i0 + 1) i v h
        rw [show i0 + 1 + i = i0 + (i + 1) by omega] at h2
        exact List.mem_cons_of_mem _ h2
    have two : ∀ (w : Value), w.category = 2 → mm_nth (some w :: none :: mm_lay t) i = some (some v) → (i0 + i, mm_v g v) ∈ (i0, mm_v g w) :: lv_args (i0 + 2) (t.map (mm_v g)) := by
      intro w _ h
      match i, h with
      | 0, h => cases h; exact List.mem_cons_self
      | 1, h => cases h
      | i + 2, h =>
        have h2 := ih (i0 + 2) i v h
        rw [show i0 + 2 + i = i0 + (i + 2) by omega] at h2
        exact List.mem_cons_of_mem _ h2
    cases w with
    | long x => exact two (.long x) rfl h
    | double x => exact two (.double x) rfl h
    | int x => exact one (.int x) rfl h
    | float x => exact one (.float x) rfl h
    | null => exact one .null rfl h
    | ref x => exact one (.ref x) rfl h
    | retAddr x => exact one (.retAddr x) rfl h
theorem mm_rep_len : ∀ n : Nat, (mm_rep n).length = n
  | 0 => rfl
  | n + 1 => congrArg Nat.succ (mm_rep_len n)
theorem mm_rep_nth : ∀ (n i : Nat) (v : Value), mm_nth (mm_rep n) i = some (some v) → False
  | 0, _, _, h => by cases h
  | n + 1, 0, _, h => by cases h
  | n + 1, i + 1, v, h => mm_rep_nth n i v h
theorem mm_nth_append {α : Type} : ∀ (l r : List α) (i : Nat) (x : α), mm_nth (l ++ r) i = some x → mm_nth l i = some x ∨ ∃ j, mm_nth r j = some x
  | [], _, i, _, h => Or.inr ⟨i, h⟩
  | _ :: _, _, 0, _, h => Or.inl h
  | _ :: t, r, i + 1, x, h => mm_nth_append t r i x h
theorem mm_LR_entry {g : Nat → Nat} {nL : Nat} {as : List Value} (h : (mm_lay as).length ≤ nL) :
    mm_LR g nL (mm_args nL as) ((lg_sl (as.map (mm_v g)) ++ List.replicate (nL - (lg_sl (as.map (mm_v g))).length) Slot.unset).toArray) := by
  have hl := lv_entry (as.map (mm_v g)) (n := nL) (by rw [mm_lay_len]; exact h)
  refine ⟨?_, hl.1, hl.2.1, fun i v hi => ?_⟩
  · unfold mm_args
    rw [List.length_append, mm_rep_len]
    omega
  · unfold mm_args at hi
    rcases mm_nth_append _ _ _ _ hi with h1 | ⟨j, h1⟩
    · have h2 := mm_lay_mem (g := g) as 0 i v h1
      rw [Nat.zero_add] at h2
      exact hl.2.2 _ h2
    · exact (mm_rep_nth _ _ _ h1).elim
/-- a table of methods that fits the code -/
def mm_Prog (Y : Nat → mm_N) (Pg : Nat → mm_Y) (Df : Nat → List Value) : Prop :=
  ∀ j, mm_okY (Y j) → (Pg j).2.1 = (Y j).2.2.1 ∧ (Pg j).2.2 = (Y j).2.2.2.2 ∧ ∀ (pc : Nat) (q : mm_I), mm_find (Pg j).1 pc = some q → mm_oki Y (Y j).1.cls (decide ((Y j).1.name = "<init>")) (Y j).2.1 (Y j).2.2.2.1 Df pc q.1 q.2.1 q.2.2.1 q.2.2.2.1 q.2.2.2.2.1 q.2.2.2.2.2
set_option maxHeartbeats 4000000 in
theorem mm_sound {l : Launch} {Y : Nat → mm_N} {Pg : Nat → mm_Y} {Al : Nat → Nat × Nat} {Df : Nat → List Value} {g : Nat → Nat} {base : Nat} {dC : Nat → ClassId} {dI : Nat → Nat → Nat} {cA : Nat → ClassId} {sN : Nat → Nat} {sf : Nat → Nat → Int32} (hP : mm_Prog Y Pg Df) (hg : ∀ k, 6 ≤ k → g k = base + (k - 6)) :
    ∀ (d j : Nat) (as : List Value) (mem : mm_M) (Q1 : mm_Q), mm_Sp Pg Al Df d j as mem Q1 → mm_okY (Y j) → mm_Met l g base dC dI cA sN sf d (Al j) (Y j) as mem Q1 := by
  intro d
  induction d with
  | zero => intro j as mem Q1 h; exact h.elim
  | succ d ih =>
    intro j as mem Q1 h hY
    obtain ⟨hp1, hp2, hp3⟩ := hP j hY
    obtain ⟨hrecv, hlen, hwp⟩ := h
    rw [hp2] at hrecv
    rw [hp1] at hlen hwp
    refine ⟨hrecv, ?_⟩
    generalize hyj : Y j = y at *
    obtain ⟨nm, bt, ml, rt, rc⟩ := y
    dsimp only at *
    refine Met.ofW (cc := bt) (maxL := ml) (ret := rt) (ws' := []) hY.1.2.2.1 rfl ?_
    intro p e s m args below meth c s₁ B hml hv
    obtain ⟨rfl, hV, hSt, hRep⟩ := hv
    have hown : s.vm.findClass nm.cls = some m.cls := findClass_of_methodNamed B.named
    have hbase : base ≤ s.heap.size := by
      have := hRep.1
      omega
    have X : mm_Cx p s m c bt nm.cls g base dC dI cA sN sf := ⟨B.exec, B.bytes, hown, hV, hSt, hbase, hg⟩
    rw [lg_entry_eq]
    have hle : (mm_lay as).length ≤ ml := Nat.le_of_ble_eq_true hlen
    have hin : decide (nm.name = "<init>") = true → meth.name = "<init>" := by
      intro h
      rw [← of_decide_eq_true h]
      exact (name_of_methodNamed B.named B.method).1
    refine hwp (mm_at p l e (mm_room (d + 1) (Al j)) s m _ below meth c _ g base dC dI cA sN sf ml) (mm_sim (d := d) X hml ⟨Nat.le_refl _, by show 100 * d + 2100 ≤ 100 * (d + 1) + 2000; omega⟩ hin ih hp3 ?_) s.heap [] _ hRep va_S.rf (mm_LR_entry hle) (Nat.zero_le _) (Nat.zero_le _)
    intro pc mem' H locs lr k n v ins hd hr hR hS hk hn hq
    refine W.widen (k := (Al j).1) (n := (Al j).2) hk hn ?_
    have hlocks := B.notSynchronized
    have hrt := B.returns
    unfold mm_isret at hr
    split at hr
    · rename_i x
      rcases hr with hr | ⟨hr, hf⟩
      · subst hr
        exact W.iret B.exec B.bytes hrt (fun t ht hW => ⟨⟨some (.int x), mem', rfl, hq, by rw [ht]; exact hR⟩, hS.F ht⟩) hS.2.2 hd
      · subst hr
        have hnar : narrow .boolean (.int x) = .int x := by
          have h2 : x = 0 ∨ x = 1 := by simpa [fits] using hf
          rcases h2 with rfl | rfl <;> decide +kernel
        exact W.zret B.exec B.bytes hrt hnar (fun t ht hW => ⟨⟨some (.int x), mem', rfl, hq, by rw [ht]; exact hR⟩, hS.F ht⟩) hS.2.2 hd
    · rename_i x
      subst hr
      exact W.lret B.exec B.bytes hrt (fun t ht hW => ⟨⟨some (.long x), mem', rfl, hq, by rw [ht]; exact hR⟩, hS.F ht⟩) hS.2.2 hd
    · subst hr
      exact W.vret B.exec B.bytes hrt (fun t ht hW => ⟨⟨none, mem', rfl, hq, by rw [ht]; exact hR⟩, hS.F ht⟩) hS.2.2 hd
    · exact hr.elim
end
section
/-! a check, by program, that resolved code is the code -/
def mm_d (cc : ByteArray) (pc : Nat) (ins : Instr) (len nx : Nat) : Bool := decide (decode cc pc = .ok (ins, len)) && Nat.beq nx (pc + len)
theorem mm_d_ok {cc : ByteArray} {pc : Nat} {ins : Instr} {len nx : Nat} (h : mm_d cc pc ins len nx = true) : decode cc pc = .ok (ins, len) ∧ nx = pc + len := by
  unfold mm_d at h
  rw [Bool.and_eq_true, decide_eq_true_eq] at h
  exact ⟨h.1, Nat.eq_of_beq_eq_true h.2⟩
def mm_w (i : Nat) (w : Jvm.Cond) : Bool := decide (lw_tbl[i]? = some w)
theorem mm_w_ok {i : Nat} {w : Jvm.Cond} (h : mm_w i w = true) : w ∈ lw_tbl := List.mem_of_getElem? (of_decide_eq_true h)
def mm_c1 (v : Int32) : List (Int32 × Nat) → Bool
  | [q] => decide (v = q.1)
  | _ => false
theorem mm_c1_ok {v : Int32} {sw : List (Int32 × Nat)} (h : mm_c1 v sw = true) : ∃ z r, sw = (z, r) :: [] ∧ v = z := by
  unfold mm_c1 at h
  split at h
  · rename_i q
    exact ⟨q.1, q.2, rfl, of_decide_eq_true h⟩
  · cases h
def mm_chkp (cc : ByteArray) (pc : Nat) (ins : Instr) (nx a : Nat) (sw : List (Int32 × Nat)) (lc : Int64) : Bool :=
  match ins with
  | .iconst i => mm_d cc pc (.iconst i) 1 nx && mm_c1 (Int32.ofInt i) sw
  | .bipush i => mm_d cc pc (.bipush i) 2 nx && mm_c1 ((Int8.ofInt i).toInt32) sw
  | .sipush i => mm_d cc pc (.sipush i) 3 nx && mm_c1 ((Int16.ofInt i).toInt32) sw
  | .lconst i => mm_d cc pc (.lconst i) 1 nx && decide (Int64.ofNat (i : Nat) = lc)
  | .iload i => mm_d cc pc (.iload i) 2 nx && Nat.beq i a
  | .lload i => mm_d cc pc (.lload i) 2 nx && Nat.beq i a
  | .aload i => mm_d cc pc (.aload i) 2 nx && Nat.beq i a
  | .iload_n i => mm_d cc pc (.iload_n i) 1 nx && Nat.beq i a
  | .lload_n i => mm_d cc pc (.lload_n i) 1 nx && Nat.beq i a
  | .aload_n i => mm_d cc pc (.aload_n i) 1 nx && Nat.beq i a
  | .istore i => mm_d cc pc (.istore i) 2 nx && Nat.beq i a
  | .lstore i => mm_d cc pc (.lstore i) 2 nx && Nat.beq i a
  | .astore i => mm_d cc pc (.astore i) 2 nx && Nat.beq i a
  | .istore_n i => mm_d cc pc (.istore_n i) 1 nx && Nat.beq i a
  | .lstore_n i => mm_d cc pc (.lstore_n i) 1 nx && Nat.beq i a
  | .astore_n i => mm_d cc pc (.astore_n i) 1 nx && Nat.beq i a
  | .iinc i z => mm_d cc pc (.iinc i z) 3 nx && (Nat.beq i a && mm_c1 (Int32.ofInt z) sw)
  | .iadd => mm_d cc pc .iadd 1 nx
  | .isub => mm_d cc pc .isub 1 nx
  | .imul => mm_d cc pc .imul 1 nx
  | .iand => mm_d cc pc .iand 1 nx
  | .ior => mm_d cc pc .ior 1 nx
  | .ixor => mm_d cc pc .ixor 1 nx
  | .ineg => mm_d cc pc .ineg 1 nx
  | .ishl => mm_d cc pc .ishl 1 nx
  | .ishr => mm_d cc pc .ishr 1 nx
  | .iushr => mm_d cc pc .iushr 1 nx
  | .ladd => mm_d cc pc .ladd 1 nx
  | .lmul => mm_d cc pc .lmul 1 nx
  | .land => mm_d cc pc .land 1 nx
  | .lor => mm_d cc pc .lor 1 nx
  | .lshl => mm_d cc pc .lshl 1 nx
  | .lshr => mm_d cc pc .lshr 1 nx
  | .lushr => mm_d cc pc .lushr 1 nx
  | .i2l => mm_d cc pc .i2l 1 nx
  | .l2i => mm_d cc pc .l2i 1 nx
  | .lcmp => mm_d cc pc .lcmp 1 nx
  | .dup => mm_d cc pc .dup 1 nx
  | .dup2 => mm_d cc pc .dup2 1 nx
  | _ => false
theorem mm_chkp_ok {cc : ByteArray} {pc : Nat} {ins : Instr} {nx a : Nat} {sw : List (Int32 × Nat)} {lc : Int64} (h : mm_chkp cc pc ins nx a sw lc = true) : mm_okp cc pc ins nx a sw lc := by
  have k3 : ∀ {b d : Bool}, (b && d) = true → b = true ∧ d = true := fun {b d} h => (Bool.and_eq_true b d) ▸ h
  cases ins
  all_goals first
    | (cases h; done)
    | exact mm_d_ok h
    | exact ⟨(mm_d_ok (k3 h).1).1, (mm_d_ok (k3 h).1).2, mm_c1_ok (k3 h).2⟩
    | exact ⟨(mm_d_ok (k3 h).1).1, (mm_d_ok (k3 h).1).2, Nat.eq_of_beq_eq_true (k3 h).2⟩
    | exact ⟨(mm_d_ok (k3 h).1).1, (mm_d_ok (k3 h).1).2, of_decide_eq_true (k3 h).2⟩
    | exact ⟨(mm_d_ok (k3 h).1).1, (mm_d_ok (k3 h).1).2, Nat.eq_of_beq_eq_true (k3 (k3 h).2).1, mm_c1_ok (k3 (k3 h).2).2⟩
/-- the check of one instruction; nM: how many methods there are -/
def mm_chk (nM : Nat) (Y : Nat → mm_N) (own : String) (ini : Bool) (cc : ByteArray) (rt : Option FieldType) (pc : Nat) (ins : Instr) (nx a b : Nat) (sw : List (Int32 × Nat)) (lc : Int64) (ps : List Nat) : Bool :=
  match ins with
  | .idiv => mm_d cc pc .idiv 1 nx
  | .irem => mm_d cc pc .irem 1 nx
  | .ldiv => mm_d cc pc .ldiv 1 nx
  | .lrem => mm_d cc pc .lrem 1 nx
  | .ifCond z o => mm_d cc pc (.ifCond z o) 3 nx && decide ((pc : Int) + o = (a : Int))
  | .if_icmp z o => mm_d cc pc (.if_icmp z o) 3 nx && decide ((pc : Int) + o = (a : Int))
  | .goto o => mm_d cc pc (.goto o) 3 nx && decide ((pc : Int) + o = (a : Int))
  | .tableswitch d lo hi os => mm_d cc pc (.tableswitch d lo hi os) (nx - pc) nx && (decide ((pc : Int) + d = (a : Int)) && (mm_tsw pc lo os.toList sw && decide (lo + os.toList.length = hi + 1)))
  | .lookupswitch d os => mm_d cc pc (.lookupswitch d os) (nx - pc) nx && (decide ((pc : Int) + d = (a : Int)) && (mm_lsw pc os.toList sw && (os.toList.zip (os.toList.drop 1)).all (fun (a, next) => a.1 < next.1)))
  | .getstatic idx => mm_d cc pc (.getstatic idx) 3 nx && (Nat.ble 1 a && (Nat.blt a 6 && match ps with
    | [0, i] => mm_w i (.fieldLink own idx RX6 (mm_snm a) "[I")
    | [1, i] => mm_w i (.fieldLinkNest own idx RX6 (mm_snm a) "[I" RX6)
    | _ => false))
  | .getfield idx => mm_d cc pc (.getfield idx) 3 nx && match vwCl[a]?, ps with
    | some q, [i] => Nat.blt b q.2.2 && mm_w i (.fieldLink own idx (q.2.1 b).1 (q.2.1 b).2.1 (q.2.1 b).2.2.1)
    | _, _ => false
  | .putfield idx => mm_d cc pc (.putfield idx) 3 nx && match vwCl[a]?, ps, sw with
    | some q, [i], [z] => (Nat.blt b q.2.2 && mm_w i (.fieldLink own idx (q.2.1 b).1 (q.2.1 b).2.1 (q.2.1 b).2.2.1)) && ((!(q.2.1 b).2.2.2 || (ini && decide ((q.2.1 b).1 = own))) && mm_tagty z.2 (mm_ty a b))
    | _, _, _ => false
  | .iaload => mm_d cc pc .iaload 1 nx
  | .baload => mm_d cc pc .baload 1 nx
  | .aaload => mm_d cc pc .aaload 1 nx
  | .iastore => mm_d cc pc .iastore 1 nx
  | .bastore => mm_d cc pc .bastore 1 nx
  | .aastore => mm_d cc pc .aastore 1 nx && Nat.beq a 3
  | .arraylength => mm_d cc pc .arraylength 1 nx
  | .new idx => mm_d cc pc (.new idx) 3 nx && match vwCl[a]?, ps with
    | some q, [i, j, k] => mm_w i (.classLink own idx q.1) && (mm_w j (.instantiable q.1 q.2.2) && (mm_w k (.initialized q.1) && Nat.beq b q.2.2))
    | _, _ => false
  | .newarray t => mm_d cc pc (.newarray t) 2 nx && (Nat.blt b 100000 && match t, ps with
    | .int, [i] => Nat.beq a 0 && mm_w i (.arrayClass .int)
    | .boolean, [i] => Nat.beq a 1 && mm_w i (.arrayClass .boolean)
    | _, _ => false)
  | .anewarray idx => mm_d cc pc (.anewarray idx) 3 nx && (Nat.blt b 100000 && match ps with
    | [i] => mm_w i (.classLink own idx RX3)
    | _ => false)
  | .invokevirtual idx => mm_d cc pc (.invokevirtual idx) 3 nx && (Nat.blt a nM && match ps, (Y a).2.2.2.2, b with
    | [i, j], _ + 1, np + 1 => mm_w i (.methodLink own idx (Y a).1) && (mm_w j (.selects (Y a).1.cls (Y a).1 (Y a).1) && decide ((parseMethodDescriptor (Y a).1.desc).map (fun d => d.parameters.length) = some np))
    | _, _, _ => false)
  | .invokestatic idx => mm_d cc pc (.invokestatic idx) 3 nx && match ps with
    | [0, i] => decide (lc = 0) && (Nat.blt a nM && (Nat.beq (Y a).2.2.2.2 0 && (mm_w i (.methodLink own idx (Y a).1) && decide ((parseMethodDescriptor (Y a).1.desc).map (fun d => d.parameters.length) = some b))))
    | [1, i] => decide (lc = 0) && (Nat.blt a nM && (Nat.beq (Y a).2.2.2.2 0 && (mm_w i (.methodLinkNest own idx (Y a).1 RX6) && decide ((parseMethodDescriptor (Y a).1.desc).map (fun d => d.parameters.length) = some b))))
    | [i, j, k, t] => decide (lc = 1) && (mm_w i (.methodLink own idx arraycopyName) && (mm_w j (.native arraycopyName) && (mm_w k (.static arraycopyName) && mm_w t (.initialized "java/lang/System"))))
    | [i, j, k, t, _] => decide (lc = 2) && (mm_w i (.methodLink own idx Lib.Math.max.name) && (mm_w j (.static Lib.Math.max.name) && (mm_w k (.initialized "java/lang/Math") && mm_w t (.code Lib.Math.max.name Lib.Math.max.code 2 (some .int)))))
    | _ => false
  | .invokespecial idx => mm_d cc pc (.invokespecial idx) 3 nx && match ps with
    | [0, i] => decide (lc = 0) && (Nat.blt a nM && ((decide ((Y a).1.name = "<init>") && decide ((Y a).2.2.2.1 = none)) && (mm_w i (.methodLink own idx (Y a).1) && match (Y a).2.2.2.2, b with
      | _ + 1, np + 1 => decide ((parseMethodDescriptor (Y a).1.desc).map (fun d => d.parameters.length) = some np)
      | _, _ => false)))
    | [1, i] => decide (lc = 0) && (Nat.blt a nM && ((decide ((Y a).1.name = "<init>") && decide ((Y a).2.2.2.1 = none)) && (mm_w i (.methodLinkNest own idx (Y a).1 RX6) && match (Y a).2.2.2.2, b with
      | _ + 1, np + 1 => decide ((parseMethodDescriptor (Y a).1.desc).map (fun d => d.parameters.length) = some np)
      | _, _ => false)))
    | [i, j, k] => decide (lc = 1) && (mm_w i (.methodLink own idx Lib.objectInit) && (mm_w j (.instanceMethod Lib.objectInit) && mm_w k (.code Lib.objectInit ⟨#[0xb1]⟩ 1 none)))
    | _ => false
  | .ireturn => mm_d cc pc .ireturn 1 nx && ((Nat.beq a 0 && decide (rt = some .int)) || (Nat.beq a 1 && decide (rt = some .boolean)))
  | .lreturn => mm_d cc pc .lreturn 1 nx && decide (rt = some .long)
  | .return_ => mm_d cc pc .return_ 1 nx && decide (rt = none)
  | .ldc_w idx => mm_d cc pc (.ldc_w idx) 3 nx && match sw, ps with
    | [q], [i] => mm_w i (.constant own idx q.1)
    | _, _ => false
  | .ldc idx => mm_d cc pc (.ldc idx) 2 nx && match sw, ps with
    | [q], [i] => mm_w i (.constant own idx q.1)
    | _, _ => false
  | .ldc2_w idx => mm_d cc pc (.ldc2_w idx) 3 nx && match ps with
    | [i] => mm_w i (.constantLong own idx lc)
    | _ => false
  | _ => mm_chkp cc pc ins nx a sw lc
set_option maxHeartbeats 4000000 in
theorem mm_chk_ok {nM : Nat} {Y : Nat → mm_N} {own : String} {ini : Bool} {cc : ByteArray} {rt : Option FieldType} {Df : Nat → List Value} (hY : ∀ j, j < nM → mm_okY (Y j)) (hD : ∀ (a : Nat) (q : vw_C), vwCl[a]? = some q → (∀ j, j < q.2.2 → defaultValue (mm_ty a j) = vp_V (Df a) j) ∧ ∀ v ∈ Df a, mm_v (fun x => x + 1) v = v)
    {pc : Nat} {ins : Instr} {nx a b : Nat} {sw : List (Int32 × Nat)} {lc : Int64} {ps : List Nat} (h : mm_chk nM Y own ini cc rt pc ins nx a b sw lc ps = true) : mm_oki Y own ini cc rt Df pc ins nx a b sw lc := by
  have k3 : ∀ {b d : Bool}, (b && d) = true → b = true ∧ d = true := fun {b d} h => (Bool.and_eq_true b d) ▸ h
  unfold mm_chk at h
  split at h
  · exact mm_d_ok h
  · exact mm_d_ok h
  · exact mm_d_ok h
  · exact mm_d_ok h
  · exact ⟨(mm_d_ok (k3 h).1).1, (mm_d_ok (k3 h).1).2, of_decide_eq_true (k3 h).2⟩
  · exact ⟨(mm_d_ok (k3 h).1).1, (mm_d_ok (k3 h).1).2, of_decide_eq_true (k3 h).2⟩
  · exact ⟨(mm_d_ok (k3 h).1).1, of_decide_eq_true (k3 h).2⟩
  · obtain ⟨h1, h2⟩ := k3 h
    obtain ⟨h2, h3⟩ := k3 h2
    obtain ⟨h3, h4⟩ := k3 h3
    exact ⟨⟨_, (mm_d_ok h1).1⟩, of_decide_eq_true h2, h3, of_decide_eq_true h4⟩
  · obtain ⟨h1, h2⟩ := k3 h
    obtain ⟨h2, h3⟩ := k3 h2
    obtain ⟨h3, h4⟩ := k3 h3
    exact ⟨⟨_, (mm_d_ok h1).1⟩, of_decide_eq_true h2, h3, h4⟩
  · obtain ⟨h1, h2⟩ := k3 h
    obtain ⟨h2, h3⟩ := k3 h2
    obtain ⟨h3, h4⟩ := k3 h3
    refine ⟨(mm_d_ok h1).1, (mm_d_ok h1).2, Nat.le_of_ble_eq_true h2, Nat.le_of_ble_eq_true h3, ?_⟩
    split at h4
    · exact Or.inl (mm_w_ok h4)
    · exact Or.inr (mm_w_ok h4)
    · cases h4
  · obtain ⟨h1, h2⟩ := k3 h
    refine ⟨(mm_d_ok h1).1, (mm_d_ok h1).2, ?_⟩
    split at h2
    · rename_i q i hq
      obtain ⟨h2, h3⟩ := k3 h2
      exact ⟨q, hq, Nat.le_of_ble_eq_true h2, mm_w_ok h3⟩
    · cases h2
  · obtain ⟨h1, h2⟩ := k3 h
    refine ⟨(mm_d_ok h1).1, (mm_d_ok h1).2, ?_⟩
    split at h2
    · rename_i q i z hq
      obtain ⟨h2, h3⟩ := k3 h2
      obtain ⟨h4, h5⟩ := k3 h2
      obtain ⟨h6, h7⟩ := k3 h3
      refine ⟨⟨q, ⟨hq, Nat.le_of_ble_eq_true h4, mm_w_ok h5⟩, ?_⟩, fun v tag r hz => ?_⟩
      · rw [Bool.or_eq_true, Bool.and_eq_true, decide_eq_true_eq, Bool.not_eq_true'] at h6
        exact h6
      · cases hz
        exact h7
    · cases h2
  · exact mm_d_ok h
  · exact mm_d_ok h
  · exact mm_d_ok h
  · exact mm_d_ok h
  · exact mm_d_ok h
  · exact ⟨(mm_d_ok (k3 h).1).1, (mm_d_ok (k3 h).1).2, Nat.eq_of_beq_eq_true (k3 h).2⟩
  · exact mm_d_ok h
  · obtain ⟨h1, h2⟩ := k3 h
    refine ⟨(mm_d_ok h1).1, (mm_d_ok h1).2, ?_⟩
    split at h2
    · rename_i q i j k hq
      obtain ⟨h2, h3⟩ := k3 h2
      obtain ⟨h3, h4⟩ := k3 h3
      obtain ⟨h4, h5⟩ := k3 h4
      obtain ⟨d1, d2⟩ := hD a q hq
      exact ⟨q, hq, mm_w_ok h2, mm_w_ok h3, mm_w_ok h4, Nat.eq_of_beq_eq_true h5, d1, d2⟩
    · cases h2
  · obtain ⟨h1, h2⟩ := k3 h
    obtain ⟨h2, h3⟩ := k3 h2
    refine ⟨(mm_d_ok h1).1, (mm_d_ok h1).2, Nat.le_of_ble_eq_true h2, ?_⟩
    split at h3
    · obtain ⟨h4, h5⟩ := k3 h3
      exact Or.inl ⟨rfl, Nat.eq_of_beq_eq_true h4, mm_w_ok h5⟩
    · obtain ⟨h4, h5⟩ := k3 h3
      exact Or.inr ⟨rfl, Nat.eq_of_beq_eq_true h4, mm_w_ok h5⟩
    · cases h3
  · obtain ⟨h1, h2⟩ := k3 h
    obtain ⟨h2, h3⟩ := k3 h2
    refine ⟨(mm_d_ok h1).1, (mm_d_ok h1).2, Nat.le_of_ble_eq_true h2, ?_⟩
    split at h3
    · exact mm_w_ok h3
    · cases h3
  · obtain ⟨h1, h2⟩ := k3 h
    obtain ⟨g2, h3⟩ := k3 h2
    have e2 := hY _ (Nat.le_of_ble_eq_true g2)
    have e1 := mm_d_ok h1
    clear h h2 h1 g2
    split at h3
    · rename_i i j ci np hci
      obtain ⟨g3, g4⟩ := k3 h3
      obtain ⟨g5, g6⟩ := k3 g4
      exact ⟨⟨e1.1, e1.2, e2⟩, ⟨ci, hci⟩, mm_w_ok g3, mm_w_ok g5, np, rfl, of_decide_eq_true g6⟩
    · cases h3
  · obtain ⟨h1, h2⟩ := k3 h
    refine ⟨mm_d_ok h1, ?_⟩
    split at h2
    · obtain ⟨h2, h3⟩ := k3 h2
      obtain ⟨h3, h4⟩ := k3 h3
      obtain ⟨h4, h5⟩ := k3 h4
      obtain ⟨h5, h6⟩ := k3 h5
      exact Or.inl ⟨of_decide_eq_true h2, hY _ (Nat.le_of_ble_eq_true h3), Nat.eq_of_beq_eq_true h4, Or.inl (mm_w_ok h5), of_decide_eq_true h6⟩
    · obtain ⟨h2, h3⟩ := k3 h2
      obtain ⟨h3, h4⟩ := k3 h3
      obtain ⟨h4, h5⟩ := k3 h4
      obtain ⟨h5, h6⟩ := k3 h5
      exact Or.inl ⟨of_decide_eq_true h2, hY _ (Nat.le_of_ble_eq_true h3), Nat.eq_of_beq_eq_true h4, Or.inr (mm_w_ok h5), of_decide_eq_true h6⟩
    · obtain ⟨h2, h3⟩ := k3 h2
      obtain ⟨h3, h4⟩ := k3 h3
      obtain ⟨h4, h5⟩ := k3 h4
      obtain ⟨h5, h6⟩ := k3 h5
      exact Or.inr (Or.inl ⟨of_decide_eq_true h2, mm_w_ok h3, mm_w_ok h4, mm_w_ok h5, mm_w_ok h6⟩)
    · obtain ⟨h2, h3⟩ := k3 h2
      obtain ⟨h3, h4⟩ := k3 h3
      obtain ⟨h4, h5⟩ := k3 h4
      obtain ⟨h5, h6⟩ := k3 h5
      exact Or.inr (Or.inr ⟨of_decide_eq_true h2, mm_w_ok h3, mm_w_ok h4, mm_w_ok h5, mm_w_ok h6⟩)
    · cases h2
  · obtain ⟨h1, h2⟩ := k3 h
    refine ⟨mm_d_ok h1, ?_⟩
    split at h2
    · obtain ⟨g1, g2⟩ := k3 h2
      obtain ⟨g3, g4⟩ := k3 g2
      obtain ⟨g5, g6⟩ := k3 g4
      obtain ⟨g7, g8⟩ := k3 g5
      obtain ⟨g9, g10⟩ := k3 g6
      have e1 := of_decide_eq_true g1
      have e2 := hY _ (Nat.le_of_ble_eq_true g3)
      have e3 := of_decide_eq_true g7
      have e4 := of_decide_eq_true g8
      have e5 := mm_w_ok g9
      clear h h2 g2 g4 g6
      split at g10
      · rename_i ci np hci
        exact Or.inl ⟨e1, e2, ⟨ci, hci⟩, e3, e4, Or.inl e5, np, rfl, of_decide_eq_true g10⟩
      · cases g10
    · obtain ⟨g1, g2⟩ := k3 h2
      obtain ⟨g3, g4⟩ := k3 g2
      obtain ⟨g5, g6⟩ := k3 g4
      obtain ⟨g7, g8⟩ := k3 g5
      obtain ⟨g9, g10⟩ := k3 g6
      have e1 := of_decide_eq_true g1
      have e2 := hY _ (Nat.le_of_ble_eq_true g3)
      have e3 := of_decide_eq_true g7
      have e4 := of_decide_eq_true g8
      have e5 := mm_w_ok g9
      clear h h2 g2 g4 g6
      split at g10
      · rename_i ci np hci
        exact Or.inl ⟨e1, e2, ⟨ci, hci⟩, e3, e4, Or.inr e5, np, rfl, of_decide_eq_true g10⟩
      · cases g10
    · obtain ⟨h2, h3⟩ := k3 h2
      obtain ⟨h3, h4⟩ := k3 h3
      obtain ⟨h4, h5⟩ := k3 h4
      exact Or.inr ⟨of_decide_eq_true h2, mm_w_ok h3, mm_w_ok h4, mm_w_ok h5⟩
    · cases h2
  · obtain ⟨h1, h2⟩ := k3 h
    refine ⟨(mm_d_ok h1).1, ?_⟩
    rw [Bool.or_eq_true, Bool.and_eq_true, Bool.and_eq_true, decide_eq_true_eq, decide_eq_true_eq] at h2
    exact h2.imp (fun z => ⟨Nat.eq_of_beq_eq_true z.1, z.2⟩) (fun z => ⟨Nat.eq_of_beq_eq_true z.1, z.2⟩)
  · exact ⟨(mm_d_ok (k3 h).1).1, of_decide_eq_true (k3 h).2⟩
  · exact ⟨(mm_d_ok (k3 h).1).1, of_decide_eq_true (k3 h).2⟩
  · obtain ⟨h1, h2⟩ := k3 h
    split at h2
    · rename_i q i
      exact ⟨(mm_d_ok h1).1, (mm_d_ok h1).2, q.1, q.2, rfl, mm_w_ok h2⟩
    · cases h2
  · obtain ⟨h1, h2⟩ := k3 h
    split at h2
    · rename_i q i
      exact ⟨(mm_d_ok h1).1, (mm_d_ok h1).2, q.1, q.2, rfl, mm_w_ok h2⟩
    · cases h2
  · obtain ⟨h1, h2⟩ := k3 h
    split at h2
    · exact ⟨(mm_d_ok h1).1, (mm_d_ok h1).2, mm_w_ok h2⟩
    · cases h2
  · have h9 := mm_chkp_ok h
    unfold mm_oki
    split
    all_goals first
      | exact h9
      | exact h9.elim
/-- the check of a method's code -/
def mm_chkL (nM : Nat) (Y : Nat → mm_N) (own : String) (ini : Bool) (cc : ByteArray) (rt : Option FieldType) : mm_C → List (List Nat) → Bool
  | [], _ => true
  | q :: r, p :: ps => mm_chk nM Y own ini cc rt q.1 q.2.1 q.2.2.1 q.2.2.2.1 q.2.2.2.2.1 q.2.2.2.2.2.1 q.2.2.2.2.2.2 p && mm_chkL nM Y own ini cc rt r ps
  | _ :: _, [] => false
theorem mm_chkL_ok {nM : Nat} {Y : Nat → mm_N} {own : String} {ini : Bool} {cc : ByteArray} {rt : Option FieldType} {Df : Nat → List Value} (hY : ∀ j, j < nM → mm_okY (Y j)) (hD : ∀ (a : Nat) (q : vw_C), vwCl[a]? = some q → (∀ j, j < q.2.2 → defaultValue (mm_ty a j) = vp_V (Df a) j) ∧ ∀ v ∈ Df a, mm_v (fun x => x + 1) v = v) :
    ∀ (cd : mm_C) (cp : List (List Nat)), mm_chkL nM Y own ini cc rt cd cp = true → ∀ (pc : Nat) (q : mm_I), mm_find cd pc = some q → mm_oki Y own ini cc rt Df pc q.1 q.2.1 q.2.2.1 q.2.2.2.1 q.2.2.2.2.1 q.2.2.2.2.2
  | [], _, _, _, _, h => by cases h
  | x :: r, p :: ps, hc, pc, q, h => by
    unfold mm_chkL at hc
    rw [Bool.and_eq_true] at hc
    unfold mm_find at h
    split at h
    · rename_i hb
      cases h
      have e := Nat.eq_of_beq_eq_true hb
      subst e
      exact mm_chk_ok hY hD hc.1
    · exact mm_chkL_ok hY hD r ps hc.2 pc q h
  | _ :: _, [], hc, _, _, _ => by cases hc
end
section
/-! the code of every method, resolved: by program out of the bytes and the tables -/
def cd_Chooser_init : mm_C := [(0, (.aload_n 0, 1, 0, 0, [], 0)),
  (1, (.invokespecial 3, 4, 0, 0, [], 1)),
  (4, (.aload_n 0, 5, 0, 0, [], 0)),
  (5, (.bipush 90, 7, 0, 0, [(90, 0)], 0)),
  (7, (.newarray .int, 9, 0, 90, [], 0)),
  (9, (.putfield 9, 12, 0, 1, [(0, 2)], 0)),
  (12, (.aload_n 0, 13, 0, 0, [], 0)),
  (13, (.iconst 0, 14, 0, 0, [(0, 0)], 0)),
  (14, (.putfield 15, 17, 0, 2, [(0, 0)], 0)),
  (17, (.aload_n 0, 18, 0, 0, [], 0)),
  (18, (.sipush 220, 21, 0, 0, [(220, 0)], 0)),
  (21, (.newarray .int, 23, 0, 220, [], 0)),
  (23, (.putfield 19, 26, 0, 3, [(0, 2)], 0)),
  (26, (.aload_n 0, 27, 0, 0, [], 0)),
  (27, (.iconst 0, 28, 0, 0, [(0, 0)], 0)),
  (28, (.putfield 22, 31, 0, 4, [(0, 0)], 0)),
  (31, (.aload_n 0, 32, 0, 0, [], 0)),
  (32, (.aload_n 1, 33, 1, 0, [], 0)),
  (33, (.putfield 25, 36, 0, 0, [(0, 2)], 0)),
  (36, (.return_, 37, 0, 0, [], 0))]
def cp_Chooser_init : List (List Nat) := [[], [209, 76, 77], [], [], [94], [211], [], [], [212], [], [], [94], [213], [], [], [214], [], [], [210], []]
def cd_Chooser_evenest : mm_C := [(0, (.aload_n 0, 1, 0, 0, [], 0)),
  (1, (.iload_n 1, 2, 1, 0, [], 0)),
  (2, (.invokevirtual 29, 5, 2, 2, [], 0)),
  (5, (.istore_n 2, 6, 2, 0, [], 0)),
  (6, (.aload_n 0, 7, 0, 0, [], 0)),
  (7, (.getfield 25, 10, 0, 0, [], 0)),
  (10, (.iload_n 1, 11, 1, 0, [], 0)),
  (11, (.iconst 0, 12, 0, 0, [(0, 0)], 0)),
  (12, (.invokevirtual 33, 15, 54, 3, [], 0)),
  (15, (.istore_n 3, 16, 3, 0, [], 0)),
  (16, (.bipush (-9), 18, 0, 0, [((-9), 0)], 0)),
  (18, (.istore 4, 20, 4, 0, [], 0)),
  (20, (.bipush 91, 22, 0, 0, [(91, 0)], 0)),
  (22, (.istore 5, 24, 5, 0, [], 0)),
  (24, (.iconst 0, 25, 0, 0, [(0, 0)], 0)),
  (25, (.istore 6, 27, 6, 0, [], 0)),
  (27, (.iload 6, 29, 6, 0, [], 0)),
  (29, (.bipush 24, 31, 0, 0, [(24, 0)], 0)),
  (31, (.if_icmp .ge 55, 34, 86, 0, [], 0)),
  (34, (.iload_n 2, 35, 2, 0, [], 0)),
  (35, (.iload 6, 37, 6, 0, [], 0)),
  (37, (.invokestatic 39, 40, 81, 2, [], 0)),
  (40, (.ifCond .eq 40, 43, 80, 0, [], 0)),
  (43, (.aload_n 0, 44, 0, 0, [], 0)),
  (44, (.iload_n 1, 45, 1, 0, [], 0)),
  (45, (.iconst 1, 46, 0, 0, [(1, 0)], 0)),
  (46, (.iload 6, 48, 6, 0, [], 0)),
  (48, (.ishl, 49, 0, 0, [], 0)),
  (49, (.invokevirtual 43, 52, 3, 3, [], 0)),
  (52, (.istore 7, 54, 7, 0, [], 0)),
  (54, (.iload 7, 56, 7, 0, [], 0)),
  (56, (.iload_n 3, 57, 3, 0, [], 0)),
  (57, (.iload 7, 59, 7, 0, [], 0)),
  (59, (.isub, 60, 0, 0, [], 0)),
  (60, (.invokestatic 46, 63, 0, 0, [], 2)),
  (63, (.istore 8, 65, 8, 0, [], 0)),
  (65, (.iload 8, 67, 8, 0, [], 0)),
  (67, (.iload 5, 69, 5, 0, [], 0)),
  (69, (.if_icmp .ge 11, 72, 80, 0, [], 0)),
  (72, (.iload 6, 74, 6, 0, [], 0)),
  (74, (.istore 4, 76, 4, 0, [], 0)),
  (76, (.iload 8, 78, 8, 0, [], 0)),
  (78, (.istore 5, 80, 5, 0, [], 0)),
  (80, (.iinc 6 1, 83, 6, 0, [(1, 0)], 0)),
  (83, (.goto (-56), 86, 27, 0, [], 0)),
  (86, (.iload 4, 88, 4, 0, [], 0)),
  (88, (.ireturn, 89, 0, 0, [], 0))]
def cp_Chooser_evenest : List (List Nat) := [[], [], [606, 19], [], [], [210], [], [], [610, 426], [], [], [], [], [], [], [], [], [], [], [], [], [1, 611], [], [], [], [], [], [], [612, 20], [], [], [], [], [], [617, 618, 68, 619, 0], [], [], [], [], [], [], [], [], [], [], [], []]
def cd_Chooser_shownFor : mm_C := [(0, (.iconst 1, 1, 0, 0, [(1, 0)], 0)),
  (1, (.aload_n 0, 2, 0, 0, [], 0)),
  (2, (.getfield 25, 5, 0, 0, [], 0)),
  (5, (.getfield 68, 8, 5, 2, [], 0)),
  (8, (.ishl, 9, 0, 0, [], 0)),
  (9, (.iconst 1, 10, 0, 0, [(1, 0)], 0)),
  (10, (.isub, 11, 0, 0, [], 0)),
  (11, (.aload_n 0, 12, 0, 0, [], 0)),
  (12, (.getfield 25, 15, 0, 0, [], 0)),
  (15, (.getfield 71, 18, 5, 4, [], 0)),
  (18, (.iload_n 1, 19, 1, 0, [], 0)),
  (19, (.iaload, 20, 0, 0, [], 0)),
  (20, (.iconst (-1), 21, 0, 0, [((-1), 0)], 0)),
  (21, (.ixor, 22, 0, 0, [], 0)),
  (22, (.iand, 23, 0, 0, [], 0)),
  (23, (.ireturn, 24, 0, 0, [], 0))]
def cp_Chooser_shownFor : List (List Nat) := [[], [], [210], [132], [], [], [], [], [210], [139], [], [], [], [], [], []]
def cd_Chooser_countLeftHad : mm_C := [(0, (.iconst 0, 1, 0, 0, [(0, 0)], 0)),
  (1, (.istore_n 3, 2, 3, 0, [], 0)),
  (2, (.iconst 0, 3, 0, 0, [(0, 0)], 0)),
  (3, (.istore 4, 5, 4, 0, [], 0)),
  (5, (.iload 4, 7, 4, 0, [], 0)),
  (7, (.bipush 90, 9, 0, 0, [(90, 0)], 0)),
  (9, (.if_icmp .ge 43, 12, 52, 0, [], 0)),
  (12, (.iload_n 2, 13, 2, 0, [], 0)),
  (13, (.aload_n 0, 14, 0, 0, [], 0)),
  (14, (.getfield 25, 17, 0, 0, [], 0)),
  (17, (.getfield 65, 20, 5, 3, [], 0)),
  (20, (.iload 4, 22, 4, 0, [], 0)),
  (22, (.iaload, 23, 0, 0, [], 0)),
  (23, (.iconst (-1), 24, 0, 0, [((-1), 0)], 0)),
  (24, (.ixor, 25, 0, 0, [], 0)),
  (25, (.iand, 26, 0, 0, [], 0)),
  (26, (.ifCond .ne 20, 29, 46, 0, [], 0)),
  (29, (.aload_n 0, 30, 0, 0, [], 0)),
  (30, (.getfield 25, 33, 0, 0, [], 0)),
  (33, (.iload_n 1, 34, 1, 0, [], 0)),
  (34, (.iload 4, 36, 4, 0, [], 0)),
  (36, (.iconst 0, 37, 0, 0, [(0, 0)], 0)),
  (37, (.invokevirtual 74, 40, 55, 4, [], 0)),
  (40, (.ifCond .eq 6, 43, 46, 0, [], 0)),
  (43, (.iinc 3 1, 46, 3, 0, [(1, 0)], 0)),
  (46, (.iinc 4 1, 49, 4, 0, [(1, 0)], 0)),
  (49, (.goto (-44), 52, 5, 0, [], 0)),
  (52, (.iload_n 3, 53, 3, 0, [], 0)),
  (53, (.ireturn, 54, 0, 0, [], 0))]
def cp_Chooser_countLeftHad : List (List Nat) := [[], [], [], [], [], [], [], [], [], [210], [135], [], [], [], [], [], [], [], [210], [], [], [], [616, 430], [], [], [], [], [], []]
def cd_Chooser_fewestParting : mm_C := [(0, (.aload_n 0, 1, 0, 0, [], 0)),
  (1, (.iload_n 1, 2, 1, 0, [], 0)),
  (2, (.invokevirtual 51, 5, 5, 2, [], 0)),
  (5, (.istore_n 2, 6, 2, 0, [], 0)),
  (6, (.aload_n 0, 7, 0, 0, [], 0)),
  (7, (.iload_n 1, 8, 1, 0, [], 0)),
  (8, (.iload_n 2, 9, 2, 0, [], 0)),
  (9, (.invokevirtual 54, 12, 6, 3, [], 0)),
  (12, (.iconst 0, 13, 0, 0, [(0, 0)], 0)),
  (13, (.istore_n 3, 14, 3, 0, [], 0)),
  (14, (.iload_n 3, 15, 3, 0, [], 0)),
  (15, (.iconst 3, 16, 0, 0, [(3, 0)], 0)),
  (16, (.if_icmp .gt 55, 19, 71, 0, [], 0)),
  (19, (.aload_n 0, 20, 0, 0, [], 0)),
  (20, (.iload_n 2, 21, 2, 0, [], 0)),
  (21, (.iload_n 3, 22, 3, 0, [], 0)),
  (22, (.invokevirtual 58, 25, 8, 3, [], 0)),
  (25, (.iconst 0, 26, 0, 0, [(0, 0)], 0)),
  (26, (.istore 4, 28, 4, 0, [], 0)),
  (28, (.iload 4, 30, 4, 0, [], 0)),
  (30, (.aload_n 0, 31, 0, 0, [], 0)),
  (31, (.getfield 22, 34, 0, 4, [], 0)),
  (34, (.if_icmp .ge 31, 37, 65, 0, [], 0)),
  (37, (.aload_n 0, 38, 0, 0, [], 0)),
  (38, (.aload_n 0, 39, 0, 0, [], 0)),
  (39, (.getfield 19, 42, 0, 3, [], 0)),
  (42, (.iload 4, 44, 4, 0, [], 0)),
  (44, (.iaload, 45, 0, 0, [], 0)),
  (45, (.invokevirtual 61, 48, 10, 2, [], 0)),
  (48, (.ifCond .eq 11, 51, 59, 0, [], 0)),
  (51, (.aload_n 0, 52, 0, 0, [], 0)),
  (52, (.getfield 19, 55, 0, 3, [], 0)),
  (55, (.iload 4, 57, 4, 0, [], 0)),
  (57, (.iaload, 58, 0, 0, [], 0)),
  (58, (.ireturn, 59, 0, 0, [], 0)),
  (59, (.iinc 4 1, 62, 4, 0, [(1, 0)], 0)),
  (62, (.goto (-34), 65, 28, 0, [], 0)),
  (65, (.iinc 3 1, 68, 3, 0, [(1, 0)], 0)),
  (68, (.goto (-54), 71, 14, 0, [], 0)),
  (71, (.bipush (-9), 73, 0, 0, [((-9), 0)], 0)),
  (73, (.ireturn, 74, 0, 0, [], 0))]
def cp_Chooser_fewestParting : List (List Nat) := [[], [], [628, 21], [], [], [], [], [632, 22], [], [], [], [], [], [], [], [], [640, 24], [], [], [], [], [214], [], [], [], [213], [], [], [648, 26], [], [], [213], [], [], [], [], [], [], [], [], []]
def cd_Chooser_firstShownFor : mm_C := [(0, (.aload_n 0, 1, 0, 0, [], 0)),
  (1, (.iload_n 1, 2, 1, 0, [], 0)),
  (2, (.invokevirtual 29, 5, 2, 2, [], 0)),
  (5, (.istore_n 2, 6, 2, 0, [], 0)),
  (6, (.iconst 0, 7, 0, 0, [(0, 0)], 0)),
  (7, (.istore_n 3, 8, 3, 0, [], 0)),
  (8, (.iconst 0, 9, 0, 0, [(0, 0)], 0)),
  (9, (.istore 4, 11, 4, 0, [], 0)),
  (11, (.iload 4, 13, 4, 0, [], 0)),
  (13, (.bipush 12, 15, 0, 0, [(12, 0)], 0)),
  (15, (.if_icmp .ge 27, 18, 42, 0, [], 0)),
  (18, (.iload_n 2, 19, 2, 0, [], 0)),
  (19, (.iload_n 2, 20, 2, 0, [], 0)),
  (20, (.ineg, 21, 0, 0, [], 0)),
  (21, (.iand, 22, 0, 0, [], 0)),
  (22, (.istore 5, 24, 5, 0, [], 0)),
  (24, (.iload_n 3, 25, 3, 0, [], 0)),
  (25, (.iload 5, 27, 5, 0, [], 0)),
  (27, (.ior, 28, 0, 0, [], 0)),
  (28, (.istore_n 3, 29, 3, 0, [], 0)),
  (29, (.iload_n 2, 30, 2, 0, [], 0)),
  (30, (.iload 5, 32, 5, 0, [], 0)),
  (32, (.iconst (-1), 33, 0, 0, [((-1), 0)], 0)),
  (33, (.ixor, 34, 0, 0, [], 0)),
  (34, (.iand, 35, 0, 0, [], 0)),
  (35, (.istore_n 2, 36, 2, 0, [], 0)),
  (36, (.iinc 4 1, 39, 4, 0, [(1, 0)], 0)),
  (39, (.goto (-28), 42, 11, 0, [], 0)),
  (42, (.iload_n 3, 43, 3, 0, [], 0)),
  (43, (.ireturn, 44, 0, 0, [], 0))]
def cp_Chooser_firstShownFor : List (List Nat) := [[], [], [606, 19], [], [], [], [], [], [], [], [], [], [], [], [], [], [], [], [], [], [], [], [], [], [], [], [], [], [], []]
def cd_Chooser_listUnlike : mm_C := [(0, (.aload_n 0, 1, 0, 0, [], 0)),
  (1, (.iconst 0, 2, 0, 0, [(0, 0)], 0)),
  (2, (.putfield 15, 5, 0, 2, [(0, 0)], 0)),
  (5, (.iconst 0, 6, 0, 0, [(0, 0)], 0)),
  (6, (.istore_n 3, 7, 3, 0, [], 0)),
  (7, (.iload_n 3, 8, 3, 0, [], 0)),
  (8, (.bipush 90, 10, 0, 0, [(90, 0)], 0)),
  (10, (.if_icmp .ge 37, 13, 47, 0, [], 0)),
  (13, (.aload_n 0, 14, 0, 0, [], 0)),
  (14, (.getfield 25, 17, 0, 0, [], 0)),
  (17, (.iload_n 1, 18, 1, 0, [], 0)),
  (18, (.iload_n 3, 19, 3, 0, [], 0)),
  (19, (.iconst 0, 20, 0, 0, [(0, 0)], 0)),
  (20, (.invokevirtual 74, 23, 55, 4, [], 0)),
  (23, (.ifCond .eq 18, 26, 41, 0, [], 0)),
  (26, (.aload_n 0, 27, 0, 0, [], 0)),
  (27, (.aload_n 0, 28, 0, 0, [], 0)),
  (28, (.getfield 25, 31, 0, 0, [], 0)),
  (31, (.getfield 65, 34, 5, 3, [], 0)),
  (34, (.iload_n 3, 35, 3, 0, [], 0)),
  (35, (.iaload, 36, 0, 0, [], 0)),
  (36, (.iload_n 2, 37, 2, 0, [], 0)),
  (37, (.iand, 38, 0, 0, [], 0)),
  (38, (.invokevirtual 78, 41, 7, 2, [], 0)),
  (41, (.iinc 3 1, 44, 3, 0, [(1, 0)], 0)),
  (44, (.goto (-37), 47, 7, 0, [], 0)),
  (47, (.return_, 48, 0, 0, [], 0))]
def cp_Chooser_listUnlike : List (List Nat) := [[], [], [212], [], [], [], [], [], [], [210], [], [], [], [616, 430], [], [], [], [210], [135], [], [], [], [], [636, 23], [], [], []]
def cd_Chooser_addUnlike : mm_C := [(0, (.iconst 0, 1, 0, 0, [(0, 0)], 0)),
  (1, (.istore_n 2, 2, 2, 0, [], 0)),
  (2, (.iload_n 2, 3, 2, 0, [], 0)),
  (3, (.aload_n 0, 4, 0, 0, [], 0)),
  (4, (.getfield 15, 7, 0, 2, [], 0)),
  (7, (.if_icmp .ge 20, 10, 27, 0, [], 0)),
  (10, (.aload_n 0, 11, 0, 0, [], 0)),
  (11, (.getfield 9, 14, 0, 1, [], 0)),
  (14, (.iload_n 2, 15, 2, 0, [], 0)),
  (15, (.iaload, 16, 0, 0, [], 0)),
  (16, (.iload_n 1, 17, 1, 0, [], 0)),
  (17, (.if_icmp .ne 4, 20, 21, 0, [], 0)),
  (20, (.return_, 21, 0, 0, [], 0)),
  (21, (.iinc 2 1, 24, 2, 0, [(1, 0)], 0)),
  (24, (.goto (-22), 27, 2, 0, [], 0)),
  (27, (.aload_n 0, 28, 0, 0, [], 0)),
  (28, (.getfield 15, 31, 0, 2, [], 0)),
  (31, (.aload_n 0, 32, 0, 0, [], 0)),
  (32, (.getfield 9, 35, 0, 1, [], 0)),
  (35, (.arraylength, 36, 0, 0, [], 0)),
  (36, (.if_icmp .ge 23, 39, 59, 0, [], 0)),
  (39, (.aload_n 0, 40, 0, 0, [], 0)),
  (40, (.getfield 9, 43, 0, 1, [], 0)),
  (43, (.aload_n 0, 44, 0, 0, [], 0)),
  (44, (.getfield 15, 47, 0, 2, [], 0)),
  (47, (.iload_n 1, 48, 1, 0, [], 0)),
  (48, (.iastore, 49, 0, 0, [], 0)),
  (49, (.aload_n 0, 50, 0, 0, [], 0)),
  (50, (.dup, 51, 0, 0, [], 0)),
  (51, (.getfield 15, 54, 0, 2, [], 0)),
  (54, (.iconst 1, 55, 0, 0, [(1, 0)], 0)),
  (55, (.iadd, 56, 0, 0, [], 0)),
  (56, (.putfield 15, 59, 0, 2, [(0, 0)], 0)),
  (59, (.return_, 60, 0, 0, [], 0))]
def cp_Chooser_addUnlike : List (List Nat) := [[], [], [], [], [212], [], [], [211], [], [], [], [], [], [], [], [], [212], [], [211], [], [], [], [211], [], [212], [], [], [], [], [212], [], [], [212], []]
def cd_Chooser_listSets : mm_C := [(0, (.aload_n 0, 1, 0, 0, [], 0)),
  (1, (.iconst 0, 2, 0, 0, [(0, 0)], 0)),
  (2, (.putfield 22, 5, 0, 4, [(0, 0)], 0)),
  (5, (.aload_n 0, 6, 0, 0, [], 0)),
  (6, (.iload_n 1, 7, 1, 0, [], 0)),
  (7, (.iload_n 2, 8, 2, 0, [], 0)),
  (8, (.bipush 24, 10, 0, 0, [(24, 0)], 0)),
  (10, (.iconst 0, 11, 0, 0, [(0, 0)], 0)),
  (11, (.invokevirtual 82, 14, 9, 5, [], 0)),
  (14, (.return_, 15, 0, 0, [], 0))]
def cp_Chooser_listSets : List (List Nat) := [[], [], [214], [], [], [], [], [], [644, 25], []]
def cd_Chooser_addSets : mm_C := [(0, (.iload_n 2, 1, 2, 0, [], 0)),
  (1, (.ifCond .gt 37, 4, 38, 0, [], 0)),
  (4, (.aload_n 0, 5, 0, 0, [], 0)),
  (5, (.getfield 22, 8, 0, 4, [], 0)),
  (8, (.aload_n 0, 9, 0, 0, [], 0)),
  (9, (.getfield 19, 12, 0, 3, [], 0)),
  (12, (.arraylength, 13, 0, 0, [], 0)),
  (13, (.if_icmp .ge 24, 16, 37, 0, [], 0)),
  (16, (.aload_n 0, 17, 0, 0, [], 0)),
  (17, (.getfield 19, 20, 0, 3, [], 0)),
  (20, (.aload_n 0, 21, 0, 0, [], 0)),
  (21, (.getfield 22, 24, 0, 4, [], 0)),
  (24, (.iload 4, 26, 4, 0, [], 0)),
  (26, (.iastore, 27, 0, 0, [], 0)),
  (27, (.aload_n 0, 28, 0, 0, [], 0)),
  (28, (.dup, 29, 0, 0, [], 0)),
  (29, (.getfield 22, 32, 0, 4, [], 0)),
  (32, (.iconst 1, 33, 0, 0, [(1, 0)], 0)),
  (33, (.iadd, 34, 0, 0, [], 0)),
  (34, (.putfield 22, 37, 0, 4, [(0, 0)], 0)),
  (37, (.return_, 38, 0, 0, [], 0)),
  (38, (.iconst 0, 39, 0, 0, [(0, 0)], 0)),
  (39, (.istore 5, 41, 5, 0, [], 0)),
  (41, (.iload 5, 43, 5, 0, [], 0)),
  (43, (.iload_n 3, 44, 3, 0, [], 0)),
  (44, (.if_icmp .ge 35, 47, 79, 0, [], 0)),
  (47, (.iload_n 1, 48, 1, 0, [], 0)),
  (48, (.iload 5, 50, 5, 0, [], 0)),
  (50, (.invokestatic 39, 53, 81, 2, [], 0)),
  (53, (.ifCond .eq 20, 56, 73, 0, [], 0)),
  (56, (.aload_n 0, 57, 0, 0, [], 0)),
  (57, (.iload_n 1, 58, 1, 0, [], 0)),
  (58, (.iload_n 2, 59, 2, 0, [], 0)),
  (59, (.iconst 1, 60, 0, 0, [(1, 0)], 0)),
  (60, (.isub, 61, 0, 0, [], 0)),
  (61, (.iload 5, 63, 5, 0, [], 0)),
  (63, (.iload 4, 65, 4, 0, [], 0)),
  (65, (.iconst 1, 66, 0, 0, [(1, 0)], 0)),
  (66, (.iload 5, 68, 5, 0, [], 0)),
  (68, (.ishl, 69, 0, 0, [], 0)),
  (69, (.ior, 70, 0, 0, [], 0)),
  (70, (.invokevirtual 82, 73, 9, 5, [], 0)),
  (73, (.iinc 5 1, 76, 5, 0, [(1, 0)], 0)),
  (76, (.goto (-35), 79, 41, 0, [], 0)),
  (79, (.return_, 80, 0, 0, [], 0))]
def cp_Chooser_addSets : List (List Nat) := [[], [], [], [214], [], [213], [], [], [], [213], [], [214], [], [], [], [], [214], [], [], [214], [], [], [], [], [], [], [], [], [1, 611], [], [], [], [], [], [], [], [], [], [], [], [], [644, 25], [], [], []]
def cd_Chooser_partsAll : mm_C := [(0, (.iconst 0, 1, 0, 0, [(0, 0)], 0)),
  (1, (.istore_n 2, 2, 2, 0, [], 0)),
  (2, (.iload_n 2, 3, 2, 0, [], 0)),
  (3, (.aload_n 0, 4, 0, 0, [], 0)),
  (4, (.getfield 15, 7, 0, 2, [], 0)),
  (7, (.if_icmp .ge 42, 10, 49, 0, [], 0)),
  (10, (.iconst 0, 11, 0, 0, [(0, 0)], 0)),
  (11, (.istore_n 3, 12, 3, 0, [], 0)),
  (12, (.iload_n 3, 13, 3, 0, [], 0)),
  (13, (.iload_n 2, 14, 2, 0, [], 0)),
  (14, (.if_icmp .ge 29, 17, 43, 0, [], 0)),
  (17, (.aload_n 0, 18, 0, 0, [], 0)),
  (18, (.getfield 9, 21, 0, 1, [], 0)),
  (21, (.iload_n 2, 22, 2, 0, [], 0)),
  (22, (.iaload, 23, 0, 0, [], 0)),
  (23, (.aload_n 0, 24, 0, 0, [], 0)),
  (24, (.getfield 9, 27, 0, 1, [], 0)),
  (27, (.iload_n 3, 28, 3, 0, [], 0)),
  (28, (.iaload, 29, 0, 0, [], 0)),
  (29, (.ixor, 30, 0, 0, [], 0)),
  (30, (.iload_n 1, 31, 1, 0, [], 0)),
  (31, (.iand, 32, 0, 0, [], 0)),
  (32, (.ifCond .ne 5, 35, 37, 0, [], 0)),
  (35, (.iconst 0, 36, 0, 0, [(0, 0)], 0)),
  (36, (.ireturn, 37, 1, 0, [], 0)),
  (37, (.iinc 3 1, 40, 3, 0, [(1, 0)], 0)),
  (40, (.goto (-28), 43, 12, 0, [], 0)),
  (43, (.iinc 2 1, 46, 2, 0, [(1, 0)], 0)),
  (46, (.goto (-44), 49, 2, 0, [], 0)),
  (49, (.iconst 1, 50, 0, 0, [(1, 0)], 0)),
  (50, (.ireturn, 51, 1, 0, [], 0))]
def cp_Chooser_partsAll : List (List Nat) := [[], [], [], [], [212], [], [], [], [], [], [], [], [211], [], [], [], [211], [], [], [], [], [], [], [], [], [], [], [], [], [], []]
def cd_Chooser_mostTelling : mm_C := [(0, (.aload_n 0, 1, 0, 0, [], 0)),
  (1, (.aload_n 0, 2, 0, 0, [], 0)),
  (2, (.iload_n 1, 3, 1, 0, [], 0)),
  (3, (.invokevirtual 51, 6, 5, 2, [], 0)),
  (6, (.aload_n 0, 7, 0, 0, [], 0)),
  (7, (.getfield 25, 10, 0, 0, [], 0)),
  (10, (.getfield 65, 13, 5, 3, [], 0)),
  (13, (.iload_n 2, 14, 2, 0, [], 0)),
  (14, (.iaload, 15, 0, 0, [], 0)),
  (15, (.iand, 16, 0, 0, [], 0)),
  (16, (.iload_n 3, 17, 3, 0, [], 0)),
  (17, (.invokevirtual 58, 20, 8, 3, [], 0)),
  (20, (.bipush (-9), 22, 0, 0, [((-9), 0)], 0)),
  (22, (.istore 4, 24, 4, 0, [], 0)),
  (24, (.bipush 91, 26, 0, 0, [(91, 0)], 0)),
  (26, (.istore 5, 28, 5, 0, [], 0)),
  (28, (.iconst 0, 29, 0, 0, [(0, 0)], 0)),
  (29, (.istore 6, 31, 6, 0, [], 0)),
  (31, (.iload 6, 33, 6, 0, [], 0)),
  (33, (.aload_n 0, 34, 0, 0, [], 0)),
  (34, (.getfield 22, 37, 0, 4, [], 0)),
  (37, (.if_icmp .ge 43, 40, 80, 0, [], 0)),
  (40, (.aload_n 0, 41, 0, 0, [], 0)),
  (41, (.iload_n 1, 42, 1, 0, [], 0)),
  (42, (.aload_n 0, 43, 0, 0, [], 0)),
  (43, (.getfield 19, 46, 0, 3, [], 0)),
  (46, (.iload 6, 48, 6, 0, [], 0)),
  (48, (.iaload, 49, 0, 0, [], 0)),
  (49, (.invokevirtual 43, 52, 3, 3, [], 0)),
  (52, (.istore 7, 54, 7, 0, [], 0)),
  (54, (.iload 7, 56, 7, 0, [], 0)),
  (56, (.iload 5, 58, 5, 0, [], 0)),
  (58, (.if_icmp .ge 16, 61, 74, 0, [], 0)),
  (61, (.aload_n 0, 62, 0, 0, [], 0)),
  (62, (.getfield 19, 65, 0, 3, [], 0)),
  (65, (.iload 6, 67, 6, 0, [], 0)),
  (67, (.iaload, 68, 0, 0, [], 0)),
  (68, (.istore 4, 70, 4, 0, [], 0)),
  (70, (.iload 7, 72, 7, 0, [], 0)),
  (72, (.istore 5, 74, 5, 0, [], 0)),
  (74, (.iinc 6 1, 77, 6, 0, [(1, 0)], 0)),
  (77, (.goto (-46), 80, 31, 0, [], 0)),
  (80, (.iload 4, 82, 4, 0, [], 0)),
  (82, (.ireturn, 83, 0, 0, [], 0))]
def cp_Chooser_mostTelling : List (List Nat) := [[], [], [], [628, 21], [], [210], [135], [], [], [], [], [640, 24], [], [], [], [], [], [], [], [], [214], [], [], [], [], [213], [], [], [612, 20], [], [], [], [], [], [213], [], [], [], [], [], [], [], [], []]
def cd_Giver_init : mm_C := [(0, (.aload_n 0, 1, 0, 0, [], 0)),
  (1, (.invokespecial 3, 4, 0, 0, [], 1)),
  (4, (.aload_n 0, 5, 0, 0, [], 0)),
  (5, (.bipush 6, 7, 0, 0, [(6, 0)], 0)),
  (7, (.newarray .int, 9, 0, 6, [], 0)),
  (9, (.putfield 9, 12, 1, 1, [(0, 2)], 0)),
  (12, (.aload_n 0, 13, 0, 0, [], 0)),
  (13, (.aload_n 1, 14, 1, 0, [], 0)),
  (14, (.putfield 15, 17, 1, 0, [(0, 2)], 0)),
  (17, (.return_, 18, 0, 0, [], 0))]
def cp_Giver_init : List (List Nat) := [[], [196, 76, 77], [], [], [94], [198], [], [], [197], []]
def cd_Giver_countWays : mm_C := [(0, (.aload_n 0, 1, 0, 0, [], 0)),
  (1, (.iload_n 1, 2, 1, 0, [], 0)),
  (2, (.invokevirtual 19, 5, 14, 2, [], 0)),
  (5, (.aload_n 0, 6, 0, 0, [], 0)),
  (6, (.iload_n 1, 7, 1, 0, [], 0)),
  (7, (.bipush (-9), 9, 0, 0, [((-9), 0)], 0)),
  (9, (.bipush (-9), 11, 0, 0, [((-9), 0)], 0)),
  (11, (.invokevirtual 23, 14, 15, 4, [], 0)),
  (14, (.ireturn, 15, 0, 0, [], 0))]
def cp_Giver_countWays : List (List Nat) := [[], [], [512, 13], [], [], [], [], [518, 14], []]
def cd_Giver_countLefts : mm_C := [(0, (.iconst 0, 1, 0, 0, [(0, 0)], 0)),
  (1, (.istore_n 2, 2, 2, 0, [], 0)),
  (2, (.iload_n 2, 3, 2, 0, [], 0)),
  (3, (.bipush 6, 5, 0, 0, [(6, 0)], 0)),
  (5, (.if_icmp .ge 36, 8, 41, 0, [], 0)),
  (8, (.aload_n 0, 9, 0, 0, [], 0)),
  (9, (.getfield 9, 12, 1, 1, [], 0)),
  (12, (.iload_n 2, 13, 2, 0, [], 0)),
  (13, (.iload_n 1, 14, 1, 0, [], 0)),
  (14, (.iload_n 2, 15, 2, 0, [], 0)),
  (15, (.invokestatic 27, 18, 81, 2, [], 0)),
  (18, (.ifCond .eq 15, 21, 33, 0, [], 0)),
  (21, (.aload_n 0, 22, 0, 0, [], 0)),
  (22, (.getfield 15, 25, 1, 0, [], 0)),
  (25, (.iload_n 2, 26, 2, 0, [], 0)),
  (26, (.iconst 0, 27, 0, 0, [(0, 0)], 0)),
  (27, (.invokevirtual 35, 30, 54, 3, [], 0)),
  (30, (.goto 4, 33, 34, 0, [], 0)),
  (33, (.iconst 0, 34, 0, 0, [(0, 0)], 0)),
  (34, (.iastore, 35, 0, 0, [], 0)),
  (35, (.iinc 2 1, 38, 2, 0, [(1, 0)], 0)),
  (38, (.goto (-36), 41, 2, 0, [], 0)),
  (41, (.return_, 42, 0, 0, [], 0))]
def cp_Giver_countLefts : List (List Nat) := [[], [], [], [], [], [], [198], [], [], [], [1, 516], [], [], [197], [], [], [517, 426], [], [], [], [], [], []]
def cd_Giver_ways : mm_C := [(0, (.iload_n 1, 1, 1, 0, [], 0)),
  (1, (.invokestatic 45, 4, 90, 1, [], 0)),
  (4, (.istore 4, 6, 4, 0, [], 0)),
  (6, (.iload 4, 8, 4, 0, [], 0)),
  (8, (.invokestatic 49, 11, 80, 1, [], 0)),
  (11, (.ifCond .eq 5, 14, 16, 0, [], 0)),
  (14, (.iconst 1, 15, 0, 0, [(1, 0)], 0)),
  (15, (.ireturn, 16, 0, 0, [], 0)),
  (16, (.iload_n 1, 17, 1, 0, [], 0)),
  (17, (.iload_n 1, 18, 1, 0, [], 0)),
  (18, (.iconst 1, 19, 0, 0, [(1, 0)], 0)),
  (19, (.isub, 20, 0, 0, [], 0)),
  (20, (.iand, 21, 0, 0, [], 0)),
  (21, (.istore 5, 23, 5, 0, [], 0)),
  (23, (.iload 5, 25, 5, 0, [], 0)),
  (25, (.ifCond .ne 27, 28, 52, 0, [], 0)),
  (28, (.aload_n 0, 29, 0, 0, [], 0)),
  (29, (.getfield 9, 32, 1, 1, [], 0)),
  (32, (.iload 4, 34, 4, 0, [], 0)),
  (34, (.iaload, 35, 0, 0, [], 0)),
  (35, (.aload_n 0, 36, 0, 0, [], 0)),
  (36, (.iload 4, 38, 4, 0, [], 0)),
  (38, (.iload_n 2, 39, 2, 0, [], 0)),
  (39, (.invokevirtual 53, 42, 16, 3, [], 0)),
  (42, (.isub, 43, 0, 0, [], 0)),
  (43, (.aload_n 0, 44, 0, 0, [], 0)),
  (44, (.iload 4, 46, 4, 0, [], 0)),
  (46, (.iload_n 3, 47, 3, 0, [], 0)),
  (47, (.invokevirtual 53, 50, 16, 3, [], 0)),
  (50, (.isub, 51, 0, 0, [], 0)),
  (51, (.ireturn, 52, 0, 0, [], 0)),
  (52, (.iconst 0, 53, 0, 0, [(0, 0)], 0)),
  (53, (.istore 6, 55, 6, 0, [], 0)),
  (55, (.iconst 0, 56, 0, 0, [(0, 0)], 0)),
  (56, (.istore 7, 58, 7, 0, [], 0)),
  (58, (.iload 7, 60, 7, 0, [], 0)),
  (60, (.bipush 90, 62, 0, 0, [(90, 0)], 0)),
  (62, (.if_icmp .ge 50, 65, 112, 0, [], 0)),
  (65, (.iload 7, 67, 7, 0, [], 0)),
  (67, (.iload_n 2, 68, 2, 0, [], 0)),
  (68, (.if_icmp .eq 38, 71, 106, 0, [], 0)),
  (71, (.iload 7, 73, 7, 0, [], 0)),
  (73, (.iload_n 3, 74, 3, 0, [], 0)),
  (74, (.if_icmp .eq 32, 77, 106, 0, [], 0)),
  (77, (.aload_n 0, 78, 0, 0, [], 0)),
  (78, (.getfield 15, 81, 1, 0, [], 0)),
  (81, (.iload 4, 83, 4, 0, [], 0)),
  (83, (.iload 7, 85, 7, 0, [], 0)),
  (85, (.iconst 0, 86, 0, 0, [(0, 0)], 0)),
  (86, (.invokevirtual 41, 89, 55, 4, [], 0)),
  (89, (.ifCond .eq 17, 92, 106, 0, [], 0)),
  (92, (.iload 6, 94, 6, 0, [], 0)),
  (94, (.aload_n 0, 95, 0, 0, [], 0)),
  (95, (.iload 5, 97, 5, 0, [], 0)),
  (97, (.iload 7, 99, 7, 0, [], 0)),
  (99, (.iload_n 2, 100, 2, 0, [], 0)),
  (100, (.invokevirtual 23, 103, 15, 4, [], 0)),
  (103, (.iadd, 104, 0, 0, [], 0)),
  (104, (.istore 6, 106, 6, 0, [], 0)),
  (106, (.iinc 7 1, 109, 7, 0, [(1, 0)], 0)),
  (109, (.goto (-51), 112, 58, 0, [], 0)),
  (112, (.iload 6, 114, 6, 0, [], 0)),
  (114, (.ireturn, 115, 0, 0, [], 0))]
def cp_Giver_ways : List (List Nat) := [[], [1, 522], [], [], [1, 523], [], [], [], [], [], [], [], [], [], [], [], [], [198], [], [], [], [], [], [524, 15], [], [], [], [], [524, 15], [], [], [], [], [], [], [], [], [], [], [], [], [], [], [], [], [197], [], [], [], [528, 430], [], [], [], [], [], [], [518, 14], [], [], [], [], [], []]
def cd_Giver_lost : mm_C := [(0, (.iload_n 2, 1, 2, 0, [], 0)),
  (1, (.bipush (-9), 3, 0, 0, [((-9), 0)], 0)),
  (3, (.if_icmp .eq 20, 6, 23, 0, [], 0)),
  (6, (.aload_n 0, 7, 0, 0, [], 0)),
  (7, (.getfield 15, 10, 1, 0, [], 0)),
  (10, (.iload_n 1, 11, 1, 0, [], 0)),
  (11, (.iload_n 2, 12, 2, 0, [], 0)),
  (12, (.iconst 0, 13, 0, 0, [(0, 0)], 0)),
  (13, (.invokevirtual 41, 16, 55, 4, [], 0)),
  (16, (.ifCond .eq 7, 19, 23, 0, [], 0)),
  (19, (.iconst 1, 20, 0, 0, [(1, 0)], 0)),
  (20, (.goto 4, 23, 24, 0, [], 0)),
  (23, (.iconst 0, 24, 0, 0, [(0, 0)], 0)),
  (24, (.ireturn, 25, 0, 0, [], 0))]
def cp_Giver_lost : List (List Nat) := [[], [], [], [], [197], [], [], [], [528, 430], [], [], [], [], []]
def cd_Giver_firstFor : mm_C := [(0, (.aload_n 0, 1, 0, 0, [], 0)),
  (1, (.iload_n 1, 2, 1, 0, [], 0)),
  (2, (.invokevirtual 19, 5, 14, 2, [], 0)),
  (5, (.bipush (-9), 7, 0, 0, [((-9), 0)], 0)),
  (7, (.istore_n 3, 8, 3, 0, [], 0)),
  (8, (.bipush (-9), 10, 0, 0, [((-9), 0)], 0)),
  (10, (.istore 4, 12, 4, 0, [], 0)),
  (12, (.iload_n 1, 13, 1, 0, [], 0)),
  (13, (.istore 5, 15, 5, 0, [], 0)),
  (15, (.iconst 0, 16, 0, 0, [(0, 0)], 0)),
  (16, (.istore 6, 18, 6, 0, [], 0)),
  (18, (.iload 6, 20, 6, 0, [], 0)),
  (20, (.bipush 6, 22, 0, 0, [(6, 0)], 0)),
  (22, (.if_icmp .ge 64, 25, 86, 0, [], 0)),
  (25, (.iload_n 1, 26, 1, 0, [], 0)),
  (26, (.iload 6, 28, 6, 0, [], 0)),
  (28, (.invokestatic 27, 31, 81, 2, [], 0)),
  (31, (.ifCond .eq 49, 34, 80, 0, [], 0)),
  (34, (.iload 5, 36, 5, 0, [], 0)),
  (36, (.iconst 1, 37, 0, 0, [(1, 0)], 0)),
  (37, (.iload 6, 39, 6, 0, [], 0)),
  (39, (.ishl, 40, 0, 0, [], 0)),
  (40, (.iconst (-1), 41, 0, 0, [((-1), 0)], 0)),
  (41, (.ixor, 42, 0, 0, [], 0)),
  (42, (.iand, 43, 0, 0, [], 0)),
  (43, (.istore 5, 45, 5, 0, [], 0)),
  (45, (.aload_n 0, 46, 0, 0, [], 0)),
  (46, (.iload 6, 48, 6, 0, [], 0)),
  (48, (.iload 5, 50, 5, 0, [], 0)),
  (50, (.iload_n 3, 51, 3, 0, [], 0)),
  (51, (.iload 4, 53, 4, 0, [], 0)),
  (53, (.invokevirtual 31, 56, 18, 5, [], 0)),
  (56, (.istore 7, 58, 7, 0, [], 0)),
  (58, (.iload 7, 60, 7, 0, [], 0)),
  (60, (.bipush (-9), 62, 0, 0, [((-9), 0)], 0)),
  (62, (.if_icmp .eq 9, 65, 71, 0, [], 0)),
  (65, (.iload 6, 67, 6, 0, [], 0)),
  (67, (.iload_n 2, 68, 2, 0, [], 0)),
  (68, (.if_icmp .ne 6, 71, 74, 0, [], 0)),
  (71, (.iload 7, 73, 7, 0, [], 0)),
  (73, (.ireturn, 74, 0, 0, [], 0)),
  (74, (.iload_n 3, 75, 3, 0, [], 0)),
  (75, (.istore 4, 77, 4, 0, [], 0)),
  (77, (.iload 7, 79, 7, 0, [], 0)),
  (79, (.istore_n 3, 80, 3, 0, [], 0)),
  (80, (.iinc 6 1, 83, 6, 0, [(1, 0)], 0)),
  (83, (.goto (-65), 86, 18, 0, [], 0)),
  (86, (.bipush (-9), 88, 0, 0, [((-9), 0)], 0)),
  (88, (.ireturn, 89, 0, 0, [], 0))]
def cp_Giver_firstFor : List (List Nat) := [[], [], [512, 13], [], [], [], [], [], [], [], [], [], [], [], [], [], [1, 516], [], [], [], [], [], [], [], [], [], [], [], [], [], [], [537, 16], [], [], [], [], [], [], [], [], [], [], [], [], [], [], [], [], []]
def cd_Giver_leastFor : mm_C := [(0, (.iconst 0, 1, 0, 0, [(0, 0)], 0)),
  (1, (.istore 5, 3, 5, 0, [], 0)),
  (3, (.iload 5, 5, 5, 0, [], 0)),
  (5, (.bipush 90, 7, 0, 0, [(90, 0)], 0)),
  (7, (.if_icmp .ge 50, 10, 57, 0, [], 0)),
  (10, (.iload 5, 12, 5, 0, [], 0)),
  (12, (.iload_n 3, 13, 3, 0, [], 0)),
  (13, (.if_icmp .eq 38, 16, 51, 0, [], 0)),
  (16, (.iload 5, 18, 5, 0, [], 0)),
  (18, (.iload 4, 20, 4, 0, [], 0)),
  (20, (.if_icmp .eq 31, 23, 51, 0, [], 0)),
  (23, (.aload_n 0, 24, 0, 0, [], 0)),
  (24, (.getfield 15, 27, 1, 0, [], 0)),
  (27, (.iload_n 1, 28, 1, 0, [], 0)),
  (28, (.iload 5, 30, 5, 0, [], 0)),
  (30, (.iconst 0, 31, 0, 0, [(0, 0)], 0)),
  (31, (.invokevirtual 41, 34, 55, 4, [], 0)),
  (34, (.ifCond .eq 17, 37, 51, 0, [], 0)),
  (37, (.aload_n 0, 38, 0, 0, [], 0)),
  (38, (.iload_n 2, 39, 2, 0, [], 0)),
  (39, (.iload 5, 41, 5, 0, [], 0)),
  (41, (.iload_n 3, 42, 3, 0, [], 0)),
  (42, (.invokevirtual 23, 45, 15, 4, [], 0)),
  (45, (.ifCond .le 6, 48, 51, 0, [], 0)),
  (48, (.iload 5, 50, 5, 0, [], 0)),
  (50, (.ireturn, 51, 0, 0, [], 0)),
  (51, (.iinc 5 1, 54, 5, 0, [(1, 0)], 0)),
  (54, (.goto (-51), 57, 3, 0, [], 0)),
  (57, (.bipush (-9), 59, 0, 0, [((-9), 0)], 0)),
  (59, (.ireturn, 60, 0, 0, [], 0))]
def cp_Giver_leastFor : List (List Nat) := [[], [], [], [], [], [], [], [], [], [], [], [], [197], [], [], [], [528, 430], [], [], [], [], [], [518, 14], [], [], [], [], [], [], []]
def cd_Likely_init : mm_C := [(0, (.aload_n 0, 1, 0, 0, [], 0)),
  (1, (.invokespecial 3, 4, 0, 0, [], 1)),
  (4, (.aload_n 0, 5, 0, 0, [], 0)),
  (5, (.aload_n 1, 6, 1, 0, [], 0)),
  (6, (.putfield 9, 9, 2, 0, [(0, 2)], 0)),
  (9, (.return_, 10, 0, 0, [], 0))]
def cp_Likely_init : List (List Nat) := [[], [186, 76, 77], [], [], [187], []]
def cd_Likely_of : mm_C := [(0, (.aload_n 0, 1, 0, 0, [], 0)),
  (1, (.iload_n 1, 2, 1, 0, [], 0)),
  (2, (.invokevirtual 15, 5, 21, 2, [], 0)),
  (5, (.istore_n 3, 6, 3, 0, [], 0)),
  (6, (.iload_n 3, 7, 3, 0, [], 0)),
  (7, (.aload_n 0, 8, 0, 0, [], 0)),
  (8, (.getfield 9, 11, 2, 0, [], 0)),
  (11, (.getfield 19, 14, 5, 3, [], 0)),
  (14, (.iload_n 2, 15, 2, 0, [], 0)),
  (15, (.iaload, 16, 0, 0, [], 0)),
  (16, (.iand, 17, 0, 0, [], 0)),
  (17, (.invokestatic 25, 20, 183, 1, [], 0)),
  (20, (.istore 4, 22, 4, 0, [], 0)),
  (22, (.iload_n 3, 23, 3, 0, [], 0)),
  (23, (.aload_n 0, 24, 0, 0, [], 0)),
  (24, (.getfield 9, 27, 2, 0, [], 0)),
  (27, (.getfield 19, 30, 5, 3, [], 0)),
  (30, (.iload_n 2, 31, 2, 0, [], 0)),
  (31, (.iaload, 32, 0, 0, [], 0)),
  (32, (.iconst (-1), 33, 0, 0, [((-1), 0)], 0)),
  (33, (.ixor, 34, 0, 0, [], 0)),
  (34, (.iand, 35, 0, 0, [], 0)),
  (35, (.invokestatic 25, 38, 183, 1, [], 0)),
  (38, (.istore 5, 40, 5, 0, [], 0)),
  (40, (.aload_n 0, 41, 0, 0, [], 0)),
  (41, (.getfield 9, 44, 2, 0, [], 0)),
  (44, (.getfield 30, 47, 5, 5, [], 0)),
  (47, (.iload_n 2, 48, 2, 0, [], 0)),
  (48, (.invokestatic 33, 51, 74, 1, [], 0)),
  (51, (.iaload, 52, 0, 0, [], 0)),
  (52, (.i2l, 53, 0, 0, [], 0)),
  (53, (.lstore 6, 55, 6, 0, [], 0)),
  (55, (.iconst 0, 56, 0, 0, [(0, 0)], 0)),
  (56, (.istore 8, 58, 8, 0, [], 0)),
  (58, (.iload 8, 60, 8, 0, [], 0)),
  (60, (.iload 4, 62, 4, 0, [], 0)),
  (62, (.if_icmp .ge 22, 65, 84, 0, [], 0)),
  (65, (.lload 6, 67, 6, 0, [], 0)),
  (67, (.aload_n 0, 68, 0, 0, [], 0)),
  (68, (.getfield 9, 71, 2, 0, [], 0)),
  (71, (.getfield 36, 74, 5, 6, [], 0)),
  (74, (.i2l, 75, 0, 0, [], 0)),
  (75, (.lmul, 76, 0, 0, [], 0)),
  (76, (.lstore 6, 78, 6, 0, [], 0)),
  (78, (.iinc 8 1, 81, 8, 0, [(1, 0)], 0)),
  (81, (.goto (-23), 84, 58, 0, [], 0)),
  (84, (.iconst 0, 85, 0, 0, [(0, 0)], 0)),
  (85, (.istore 8, 87, 8, 0, [], 0)),
  (87, (.iload 8, 89, 8, 0, [], 0)),
  (89, (.iload 5, 91, 5, 0, [], 0)),
  (91, (.if_icmp .ge 22, 94, 113, 0, [], 0)),
  (94, (.lload 6, 96, 6, 0, [], 0)),
  (96, (.aload_n 0, 97, 0, 0, [], 0)),
  (97, (.getfield 9, 100, 2, 0, [], 0)),
  (100, (.getfield 40, 103, 5, 7, [], 0)),
  (103, (.i2l, 104, 0, 0, [], 0)),
  (104, (.lmul, 105, 0, 0, [], 0)),
  (105, (.lstore 6, 107, 6, 0, [], 0)),
  (107, (.iinc 8 1, 110, 8, 0, [(1, 0)], 0)),
  (110, (.goto (-23), 113, 87, 0, [], 0)),
  (113, (.lload 6, 115, 6, 0, [], 0)),
  (115, (.lreturn, 116, 0, 0, [], 0))]
def cp_Likely_of : List (List Nat) := [[], [], [466, 11], [], [], [], [187], [134], [], [], [], [0, 470], [], [], [], [187], [134], [], [], [], [], [], [0, 470], [], [], [187], [142], [], [1, 471], [], [], [], [], [], [], [], [], [], [], [187], [145], [], [], [], [], [], [], [], [], [], [], [], [], [187], [148], [], [], [], [], [], [], []]
def cd_Likely_latestSaid : mm_C := [(0, (.aload_n 0, 1, 0, 0, [], 0)),
  (1, (.getfield 9, 4, 2, 0, [], 0)),
  (4, (.getfield 43, 7, 5, 4, [], 0)),
  (7, (.iload_n 1, 8, 1, 0, [], 0)),
  (8, (.iaload, 9, 0, 0, [], 0)),
  (9, (.istore_n 2, 10, 2, 0, [], 0)),
  (10, (.bipush 6, 12, 0, 0, [(6, 0)], 0)),
  (12, (.istore_n 3, 13, 3, 0, [], 0)),
  (13, (.iload_n 3, 14, 3, 0, [], 0)),
  (14, (.bipush 24, 16, 0, 0, [(24, 0)], 0)),
  (16, (.if_icmp .ge 24, 19, 40, 0, [], 0)),
  (19, (.iload_n 2, 20, 2, 0, [], 0)),
  (20, (.invokestatic 25, 23, 183, 1, [], 0)),
  (23, (.bipush 6, 25, 0, 0, [(6, 0)], 0)),
  (25, (.if_icmp .le 15, 28, 40, 0, [], 0)),
  (28, (.iload_n 2, 29, 2, 0, [], 0)),
  (29, (.iload_n 2, 30, 2, 0, [], 0)),
  (30, (.iconst 1, 31, 0, 0, [(1, 0)], 0)),
  (31, (.isub, 32, 0, 0, [], 0)),
  (32, (.iand, 33, 0, 0, [], 0)),
  (33, (.istore_n 2, 34, 2, 0, [], 0)),
  (34, (.iinc 3 1, 37, 3, 0, [(1, 0)], 0)),
  (37, (.goto (-24), 40, 13, 0, [], 0)),
  (40, (.iload_n 2, 41, 2, 0, [], 0)),
  (41, (.ireturn, 42, 0, 0, [], 0))]
def cp_Likely_latestSaid : List (List Nat) := [[], [187], [138], [], [], [], [], [], [], [], [], [], [0, 470], [], [], [], [], [], [], [], [], [], [], [], []]
def cd_Likely_aboveLine : mm_C := [(0, (.aload_n 0, 1, 0, 0, [], 0)),
  (1, (.iload_n 1, 2, 1, 0, [], 0)),
  (2, (.iload_n 2, 3, 2, 0, [], 0)),
  (3, (.invokevirtual 46, 6, 20, 3, [], 0)),
  (6, (.lstore_n 3, 7, 3, 0, [], 0)),
  (7, (.lload_n 3, 8, 3, 0, [], 0)),
  (8, (.aload_n 0, 9, 0, 0, [], 0)),
  (9, (.iload_n 1, 10, 1, 0, [], 0)),
  (10, (.invokevirtual 50, 13, 23, 2, [], 0)),
  (13, (.invokestatic 54, 16, 24, 2, [], 0)),
  (16, (.lstore 5, 18, 5, 0, [], 0)),
  (18, (.lload 5, 20, 5, 0, [], 0)),
  (20, (.lconst 0, 21, 0, 0, [], 0)),
  (21, (.lcmp, 22, 0, 0, [], 0)),
  (22, (.ifCond .ne 7, 25, 29, 0, [], 0)),
  (25, (.lconst 0, 26, 0, 0, [], 0)),
  (26, (.goto 7, 29, 33, 0, [], 0)),
  (29, (.lload_n 3, 30, 3, 0, [], 0)),
  (30, (.lload 5, 32, 5, 0, [], 0)),
  (32, (.ldiv, 33, 0, 0, [], 0)),
  (33, (.lreturn, 34, 0, 0, [], 0))]
def cp_Likely_aboveLine : List (List Nat) := [[], [], [], [480, 464], [], [], [], [], [481, 12], [0, 485], [], [], [], [], [], [], [], [], [], [], []]
def cd_Likely_ofAll : mm_C := [(0, (.lconst 0, 1, 0, 0, [], 0)),
  (1, (.lstore_n 2, 2, 2, 0, [], 0)),
  (2, (.iconst 0, 3, 0, 0, [(0, 0)], 0)),
  (3, (.istore 4, 5, 4, 0, [], 0)),
  (5, (.iload 4, 7, 4, 0, [], 0)),
  (7, (.bipush 90, 9, 0, 0, [(90, 0)], 0)),
  (9, (.if_icmp .ge 19, 12, 28, 0, [], 0)),
  (12, (.lload_n 2, 13, 2, 0, [], 0)),
  (13, (.aload_n 0, 14, 0, 0, [], 0)),
  (14, (.iload_n 1, 15, 1, 0, [], 0)),
  (15, (.iload 4, 17, 4, 0, [], 0)),
  (17, (.invokevirtual 46, 20, 20, 3, [], 0)),
  (20, (.ladd, 21, 0, 0, [], 0)),
  (21, (.lstore_n 2, 22, 2, 0, [], 0)),
  (22, (.iinc 4 1, 25, 4, 0, [(1, 0)], 0)),
  (25, (.goto (-20), 28, 5, 0, [], 0)),
  (28, (.lload_n 2, 29, 2, 0, [], 0)),
  (29, (.lreturn, 30, 0, 0, [], 0))]
def cp_Likely_ofAll : List (List Nat) := [[], [], [], [], [], [], [], [], [], [], [], [480, 464], [], [], [], [], [], []]
def cd_Likely_commonDivisor : mm_C := [(0, (.lload_n 0, 1, 0, 0, [], 0)),
  (1, (.lstore 4, 3, 4, 0, [], 0)),
  (3, (.lload_n 2, 4, 2, 0, [], 0)),
  (4, (.lstore 6, 6, 6, 0, [], 0)),
  (6, (.iconst 0, 7, 0, 0, [(0, 0)], 0)),
  (7, (.istore 8, 9, 8, 0, [], 0)),
  (9, (.iload 8, 11, 8, 0, [], 0)),
  (11, (.sipush 200, 14, 0, 0, [(200, 0)], 0)),
  (14, (.if_icmp .ge 31, 17, 45, 0, [], 0)),
  (17, (.lload 6, 19, 6, 0, [], 0)),
  (19, (.lconst 0, 20, 0, 0, [], 0)),
  (20, (.lcmp, 21, 0, 0, [], 0)),
  (21, (.ifCond .eq 24, 24, 45, 0, [], 0)),
  (24, (.lload 4, 26, 4, 0, [], 0)),
  (26, (.lload 6, 28, 6, 0, [], 0)),
  (28, (.lrem, 29, 0, 0, [], 0)),
  (29, (.lstore 9, 31, 9, 0, [], 0)),
  (31, (.lload 6, 33, 6, 0, [], 0)),
  (33, (.lstore 4, 35, 4, 0, [], 0)),
  (35, (.lload 9, 37, 9, 0, [], 0)),
  (37, (.lstore 6, 39, 6, 0, [], 0)),
  (39, (.iinc 8 1, 42, 8, 0, [(1, 0)], 0)),
  (42, (.goto (-33), 45, 9, 0, [], 0)),
  (45, (.lload 4, 47, 4, 0, [], 0)),
  (47, (.lreturn, 48, 0, 0, [], 0))]
def cp_Likely_commonDivisor : List (List Nat) := [[], [], [], [], [], [], [], [], [], [], [], [], [], [], [], [], [], [], [], [], [], [], [], [], []]
def cd_Likely_belowLine : mm_C := [(0, (.aload_n 0, 1, 0, 0, [], 0)),
  (1, (.iload_n 1, 2, 1, 0, [], 0)),
  (2, (.invokevirtual 50, 5, 23, 2, [], 0)),
  (5, (.lstore_n 3, 6, 3, 0, [], 0)),
  (6, (.aload_n 0, 7, 0, 0, [], 0)),
  (7, (.iload_n 1, 8, 1, 0, [], 0)),
  (8, (.iload_n 2, 9, 2, 0, [], 0)),
  (9, (.invokevirtual 46, 12, 20, 3, [], 0)),
  (12, (.lload_n 3, 13, 3, 0, [], 0)),
  (13, (.invokestatic 54, 16, 24, 2, [], 0)),
  (16, (.lstore 5, 18, 5, 0, [], 0)),
  (18, (.lload 5, 20, 5, 0, [], 0)),
  (20, (.lconst 0, 21, 0, 0, [], 0)),
  (21, (.lcmp, 22, 0, 0, [], 0)),
  (22, (.ifCond .ne 7, 25, 29, 0, [], 0)),
  (25, (.lconst 1, 26, 0, 0, [], 1)),
  (26, (.goto 7, 29, 33, 0, [], 0)),
  (29, (.lload_n 3, 30, 3, 0, [], 0)),
  (30, (.lload 5, 32, 5, 0, [], 0)),
  (32, (.ldiv, 33, 0, 0, [], 0)),
  (33, (.lreturn, 34, 0, 0, [], 0))]
def cp_Likely_belowLine : List (List Nat) := [[], [], [481, 12], [], [], [], [], [480, 464], [], [0, 485], [], [], [], [], [], [], [], [], [], [], []]
def cd_Likely_greatest : mm_C := [(0, (.iconst 0, 1, 0, 0, [(0, 0)], 0)),
  (1, (.istore_n 2, 2, 2, 0, [], 0)),
  (2, (.ldc2_w 58, 5, 0, 0, [], (-1))),
  (5, (.lstore_n 3, 6, 3, 0, [], 0)),
  (6, (.iconst 0, 7, 0, 0, [(0, 0)], 0)),
  (7, (.istore 5, 9, 5, 0, [], 0)),
  (9, (.iload 5, 11, 5, 0, [], 0)),
  (11, (.bipush 90, 13, 0, 0, [(90, 0)], 0)),
  (13, (.if_icmp .ge 31, 16, 44, 0, [], 0)),
  (16, (.aload_n 0, 17, 0, 0, [], 0)),
  (17, (.iload_n 1, 18, 1, 0, [], 0)),
  (18, (.iload 5, 20, 5, 0, [], 0)),
  (20, (.invokevirtual 46, 23, 20, 3, [], 0)),
  (23, (.lstore 6, 25, 6, 0, [], 0)),
  (25, (.lload 6, 27, 6, 0, [], 0)),
  (27, (.lload_n 3, 28, 3, 0, [], 0)),
  (28, (.lcmp, 29, 0, 0, [], 0)),
  (29, (.ifCond .le 9, 32, 38, 0, [], 0)),
  (32, (.iload 5, 34, 5, 0, [], 0)),
  (34, (.istore_n 2, 35, 2, 0, [], 0)),
  (35, (.lload 6, 37, 6, 0, [], 0)),
  (37, (.lstore_n 3, 38, 3, 0, [], 0)),
  (38, (.iinc 5 1, 41, 5, 0, [(1, 0)], 0)),
  (41, (.goto (-32), 44, 9, 0, [], 0)),
  (44, (.iload_n 2, 45, 2, 0, [], 0)),
  (45, (.ireturn, 46, 0, 0, [], 0))]
def cp_Likely_greatest : List (List Nat) := [[], [], [500], [], [], [], [], [], [], [], [], [], [480, 464], [], [], [], [], [], [], [], [], [], [], [], [], []]
def cd_Scene_init : mm_C := [(0, (.aload_n 0, 1, 0, 0, [], 0)),
  (1, (.invokespecial 3, 4, 0, 0, [], 1)),
  (4, (.aload_n 0, 5, 0, 0, [], 0)),
  (5, (.iconst 4, 6, 0, 0, [(4, 0)], 0)),
  (6, (.newarray .int, 8, 0, 4, [], 0)),
  (8, (.putfield 9, 11, 3, 0, [(0, 2)], 0)),
  (11, (.aload_n 0, 12, 0, 0, [], 0)),
  (12, (.iconst 3, 13, 0, 0, [(3, 0)], 0)),
  (13, (.newarray .int, 15, 0, 3, [], 0)),
  (15, (.putfield 15, 18, 3, 1, [(0, 2)], 0)),
  (18, (.aload_n 0, 19, 0, 0, [], 0)),
  (19, (.iconst 0, 20, 0, 0, [(0, 0)], 0)),
  (20, (.putfield 18, 23, 3, 2, [(0, 0)], 0)),
  (23, (.aload_n 0, 24, 0, 0, [], 0)),
  (24, (.iconst 0, 25, 0, 0, [(0, 0)], 0)),
  (25, (.putfield 22, 28, 3, 3, [(0, 0)], 0)),
  (28, (.return_, 29, 0, 0, [], 0))]
def cp_Scene_init : List (List Nat) := [[], [106, 76, 77], [], [], [94], [107], [], [], [94], [108], [], [], [109], [], [], [112], []]
def cd_Scene_addThing : mm_C := [(0, (.aload_n 0, 1, 0, 0, [], 0)),
  (1, (.getfield 18, 4, 3, 2, [], 0)),
  (4, (.aload_n 0, 5, 0, 0, [], 0)),
  (5, (.getfield 9, 8, 3, 0, [], 0)),
  (8, (.arraylength, 9, 0, 0, [], 0)),
  (9, (.if_icmp .ge 23, 12, 32, 0, [], 0)),
  (12, (.aload_n 0, 13, 0, 0, [], 0)),
  (13, (.getfield 9, 16, 3, 0, [], 0)),
  (16, (.aload_n 0, 17, 0, 0, [], 0)),
  (17, (.getfield 18, 20, 3, 2, [], 0)),
  (20, (.iload_n 1, 21, 1, 0, [], 0)),
  (21, (.iastore, 22, 0, 0, [], 0)),
  (22, (.aload_n 0, 23, 0, 0, [], 0)),
  (23, (.dup, 24, 0, 0, [], 0)),
  (24, (.getfield 18, 27, 3, 2, [], 0)),
  (27, (.iconst 1, 28, 0, 0, [(1, 0)], 0)),
  (28, (.iadd, 29, 0, 0, [], 0)),
  (29, (.putfield 18, 32, 3, 2, [(0, 0)], 0)),
  (32, (.return_, 33, 0, 0, [], 0))]
def cp_Scene_addThing : List (List Nat) := [[], [109], [], [107], [], [], [], [107], [], [109], [], [], [], [], [109], [], [], [109], []]
def cd_Scene_addDoing : mm_C := [(0, (.aload_n 0, 1, 0, 0, [], 0)),
  (1, (.getfield 22, 4, 3, 3, [], 0)),
  (4, (.aload_n 0, 5, 0, 0, [], 0)),
  (5, (.getfield 15, 8, 3, 1, [], 0)),
  (8, (.arraylength, 9, 0, 0, [], 0)),
  (9, (.if_icmp .ge 23, 12, 32, 0, [], 0)),
  (12, (.aload_n 0, 13, 0, 0, [], 0)),
  (13, (.getfield 15, 16, 3, 1, [], 0)),
  (16, (.aload_n 0, 17, 0, 0, [], 0)),
  (17, (.getfield 22, 20, 3, 3, [], 0)),
  (20, (.iload_n 1, 21, 1, 0, [], 0)),
  (21, (.iastore, 22, 0, 0, [], 0)),
  (22, (.aload_n 0, 23, 0, 0, [], 0)),
  (23, (.dup, 24, 0, 0, [], 0)),
  (24, (.getfield 22, 27, 3, 3, [], 0)),
  (27, (.iconst 1, 28, 0, 0, [(1, 0)], 0)),
  (28, (.iadd, 29, 0, 0, [], 0)),
  (29, (.putfield 22, 32, 3, 3, [(0, 0)], 0)),
  (32, (.return_, 33, 0, 0, [], 0))]
def cp_Scene_addDoing : List (List Nat) := [[], [112], [], [108], [], [], [], [108], [], [112], [], [], [], [], [112], [], [], [112], []]
def cd_Scene_holds : mm_C := [(0, (.iload_n 1, 1, 1, 0, [], 0)),
  (1, (.invokestatic 25, 4, 74, 1, [], 0)),
  (4, (.istore_n 2, 5, 2, 0, [], 0)),
  (5, (.iload_n 1, 6, 1, 0, [], 0)),
  (6, (.getstatic 29, 9, 1, 0, [], 0)),
  (9, (.iload_n 2, 10, 2, 0, [], 0)),
  (10, (.iaload, 11, 0, 0, [], 0)),
  (11, (.isub, 12, 0, 0, [], 0)),
  (12, (.istore_n 3, 13, 3, 0, [], 0)),
  (13, (.iload_n 2, 14, 2, 0, [], 0)),
  (14, (.tableswitch 160 0 6 #[42, 61, 67, 95, 103, 119, 135], 56, 174, 0, [(0, 56), (1, 75), (2, 81), (3, 109), (4, 117), (5, 133), (6, 149)], 0)),
  (56, (.aload_n 0, 57, 0, 0, [], 0)),
  (57, (.iconst 1, 58, 0, 0, [(1, 0)], 0)),
  (58, (.iload_n 3, 59, 3, 0, [], 0)),
  (59, (.ishl, 60, 0, 0, [], 0)),
  (60, (.iconst 1, 61, 0, 0, [(1, 0)], 0)),
  (61, (.iload_n 3, 62, 3, 0, [], 0)),
  (62, (.ishl, 63, 0, 0, [], 0)),
  (63, (.invokevirtual 32, 66, 31, 3, [], 0)),
  (66, (.ifCond .le 7, 69, 73, 0, [], 0)),
  (69, (.iconst 1, 70, 0, 0, [(1, 0)], 0)),
  (70, (.goto 4, 73, 74, 0, [], 0)),
  (73, (.iconst 0, 74, 0, 0, [(0, 0)], 0)),
  (74, (.ireturn, 75, 1, 0, [], 0)),
  (75, (.aload_n 0, 76, 0, 0, [], 0)),
  (76, (.iload_n 3, 77, 3, 0, [], 0)),
  (77, (.invokevirtual 36, 80, 33, 2, [], 0)),
  (80, (.ireturn, 81, 1, 0, [], 0)),
  (81, (.aload_n 0, 82, 0, 0, [], 0)),
  (82, (.iconst 1, 83, 0, 0, [(1, 0)], 0)),
  (83, (.iload_n 3, 84, 3, 0, [], 0)),
  (84, (.iconst 3, 85, 0, 0, [(3, 0)], 0)),
  (85, (.idiv, 86, 0, 0, [], 0)),
  (86, (.ishl, 87, 0, 0, [], 0)),
  (87, (.iconst 1, 88, 0, 0, [(1, 0)], 0)),
  (88, (.iload_n 3, 89, 3, 0, [], 0)),
  (89, (.iconst 3, 90, 0, 0, [(3, 0)], 0)),
  (90, (.idiv, 91, 0, 0, [], 0)),
  (91, (.ishl, 92, 0, 0, [], 0)),
  (92, (.invokevirtual 32, 95, 31, 3, [], 0)),
  (95, (.iload_n 3, 96, 3, 0, [], 0)),
  (96, (.iconst 3, 97, 0, 0, [(3, 0)], 0)),
  (97, (.irem, 98, 0, 0, [], 0)),
  (98, (.iconst 2, 99, 0, 0, [(2, 0)], 0)),
  (99, (.iadd, 100, 0, 0, [], 0)),
  (100, (.if_icmp .ne 7, 103, 107, 0, [], 0)),
  (103, (.iconst 1, 104, 0, 0, [(1, 0)], 0)),
  (104, (.goto 4, 107, 108, 0, [], 0)),
  (107, (.iconst 0, 108, 0, 0, [(0, 0)], 0)),
  (108, (.ireturn, 109, 1, 0, [], 0)),
  (109, (.aload_n 0, 110, 0, 0, [], 0)),
  (110, (.iload_n 3, 111, 3, 0, [], 0)),
  (111, (.iconst 0, 112, 0, 0, [(0, 0)], 0)),
  (112, (.iconst 0, 113, 0, 0, [(0, 0)], 0)),
  (113, (.invokevirtual 40, 116, 34, 4, [], 0)),
  (116, (.ireturn, 117, 1, 0, [], 0)),
  (117, (.aload_n 0, 118, 0, 0, [], 0)),
  (118, (.iload_n 3, 119, 3, 0, [], 0)),
  (119, (.bipush 6, 121, 0, 0, [(6, 0)], 0)),
  (121, (.idiv, 122, 0, 0, [], 0)),
  (122, (.iconst 1, 123, 0, 0, [(1, 0)], 0)),
  (123, (.iload_n 3, 124, 3, 0, [], 0)),
  (124, (.bipush 6, 126, 0, 0, [(6, 0)], 0)),
  (126, (.irem, 127, 0, 0, [], 0)),
  (127, (.ishl, 128, 0, 0, [], 0)),
  (128, (.iconst 0, 129, 0, 0, [(0, 0)], 0)),
  (129, (.invokevirtual 40, 132, 34, 4, [], 0)),
  (132, (.ireturn, 133, 1, 0, [], 0)),
  (133, (.aload_n 0, 134, 0, 0, [], 0)),
  (134, (.iload_n 3, 135, 3, 0, [], 0)),
  (135, (.bipush 6, 137, 0, 0, [(6, 0)], 0)),
  (137, (.idiv, 138, 0, 0, [], 0)),
  (138, (.iconst 0, 139, 0, 0, [(0, 0)], 0)),
  (139, (.iconst 1, 140, 0, 0, [(1, 0)], 0)),
  (140, (.iload_n 3, 141, 3, 0, [], 0)),
  (141, (.bipush 6, 143, 0, 0, [(6, 0)], 0)),
  (143, (.irem, 144, 0, 0, [], 0)),
  (144, (.ishl, 145, 0, 0, [], 0)),
  (145, (.invokevirtual 40, 148, 34, 4, [], 0)),
  (148, (.ireturn, 149, 1, 0, [], 0)),
  (149, (.aload_n 0, 150, 0, 0, [], 0)),
  (150, (.iconst 1, 151, 0, 0, [(1, 0)], 0)),
  (151, (.iload_n 3, 152, 3, 0, [], 0)),
  (152, (.ishl, 153, 0, 0, [], 0)),
  (153, (.bipush 64, 155, 0, 0, [(64, 0)], 0)),
  (155, (.ior, 156, 0, 0, [], 0)),
  (156, (.iconst 1, 157, 0, 0, [(1, 0)], 0)),
  (157, (.iload_n 3, 158, 3, 0, [], 0)),
  (158, (.ishl, 159, 0, 0, [], 0)),
  (159, (.bipush 64, 161, 0, 0, [(64, 0)], 0)),
  (161, (.ior, 162, 0, 0, [], 0)),
  (162, (.invokevirtual 32, 165, 31, 3, [], 0)),
  (165, (.ifCond .le 7, 168, 172, 0, [], 0)),
  (168, (.iconst 1, 169, 0, 0, [(1, 0)], 0)),
  (169, (.goto 4, 172, 173, 0, [], 0)),
  (172, (.iconst 0, 173, 0, 0, [(0, 0)], 0)),
  (173, (.ireturn, 174, 1, 0, [], 0)),
  (174, (.aload_n 0, 175, 0, 0, [], 0)),
  (175, (.iconst 1, 176, 0, 0, [(1, 0)], 0)),
  (176, (.iload_n 3, 177, 3, 0, [], 0)),
  (177, (.ishl, 178, 0, 0, [], 0)),
  (178, (.bipush 64, 180, 0, 0, [(64, 0)], 0)),
  (180, (.ior, 181, 0, 0, [], 0)),
  (181, (.iconst 1, 182, 0, 0, [(1, 0)], 0)),
  (182, (.iload_n 3, 183, 3, 0, [], 0)),
  (183, (.ishl, 184, 0, 0, [], 0)),
  (184, (.invokevirtual 32, 187, 31, 3, [], 0)),
  (187, (.ifCond .le 7, 190, 194, 0, [], 0)),
  (190, (.iconst 1, 191, 0, 0, [(1, 0)], 0)),
  (191, (.goto 4, 194, 195, 0, [], 0)),
  (194, (.iconst 0, 195, 0, 0, [(0, 0)], 0)),
  (195, (.ireturn, 196, 1, 0, [], 0))]
def cp_Scene_holds : List (List Nat) := [[], [1, 325], [], [], [1, 330], [], [], [], [], [], [], [], [], [], [], [], [], [], [331, 7], [], [], [], [], [], [], [], [339, 8], [], [], [], [], [], [], [], [], [], [], [], [], [331, 7], [], [], [], [], [], [], [], [], [], [], [], [], [], [], [345, 347], [], [], [], [], [], [], [], [], [], [], [], [345, 347], [], [], [], [], [], [], [], [], [], [], [], [345, 347], [], [], [], [], [], [], [], [], [], [], [], [], [331, 7], [], [], [], [], [], [], [], [], [], [], [], [], [], [], [331, 7], [], [], [], [], []]
def cd_Scene_countThings : mm_C := [(0, (.iconst 0, 1, 0, 0, [(0, 0)], 0)),
  (1, (.istore_n 3, 2, 3, 0, [], 0)),
  (2, (.iconst 0, 3, 0, 0, [(0, 0)], 0)),
  (3, (.istore 4, 5, 4, 0, [], 0)),
  (5, (.iload 4, 7, 4, 0, [], 0)),
  (7, (.aload_n 0, 8, 0, 0, [], 0)),
  (8, (.getfield 18, 11, 3, 2, [], 0)),
  (11, (.if_icmp .ge 24, 14, 35, 0, [], 0)),
  (14, (.aload_n 0, 15, 0, 0, [], 0)),
  (15, (.iload 4, 17, 4, 0, [], 0)),
  (17, (.invokevirtual 47, 20, 32, 2, [], 0)),
  (20, (.iload_n 1, 21, 1, 0, [], 0)),
  (21, (.iand, 22, 0, 0, [], 0)),
  (22, (.iload_n 2, 23, 2, 0, [], 0)),
  (23, (.if_icmp .ne 6, 26, 29, 0, [], 0)),
  (26, (.iinc 3 1, 29, 3, 0, [(1, 0)], 0)),
  (29, (.iinc 4 1, 32, 4, 0, [(1, 0)], 0)),
  (32, (.goto (-27), 35, 5, 0, [], 0)),
  (35, (.iload_n 3, 36, 3, 0, [], 0)),
  (36, (.ireturn, 37, 0, 0, [], 0))]
def cp_Scene_countThings : List (List Nat) := [[], [], [], [], [], [], [109], [], [], [], [335, 337], [], [], [], [], [], [], [], [], []]
def cd_Scene_thingAt : mm_C := [(0, (.iload_n 1, 1, 1, 0, [], 0)),
  (1, (.ifCond .lt 29, 4, 30, 0, [], 0)),
  (4, (.iload_n 1, 5, 1, 0, [], 0)),
  (5, (.aload_n 0, 6, 0, 0, [], 0)),
  (6, (.getfield 18, 9, 3, 2, [], 0)),
  (9, (.if_icmp .ge 21, 12, 30, 0, [], 0)),
  (12, (.iload_n 1, 13, 1, 0, [], 0)),
  (13, (.aload_n 0, 14, 0, 0, [], 0)),
  (14, (.getfield 9, 17, 3, 0, [], 0)),
  (17, (.arraylength, 18, 0, 0, [], 0)),
  (18, (.if_icmp .ge 12, 21, 30, 0, [], 0)),
  (21, (.aload_n 0, 22, 0, 0, [], 0)),
  (22, (.getfield 9, 25, 3, 0, [], 0)),
  (25, (.iload_n 1, 26, 1, 0, [], 0)),
  (26, (.iaload, 27, 0, 0, [], 0)),
  (27, (.goto 5, 30, 32, 0, [], 0)),
  (30, (.bipush (-9), 32, 0, 0, [((-9), 0)], 0)),
  (32, (.ireturn, 33, 0, 0, [], 0))]
def cp_Scene_thingAt : List (List Nat) := [[], [], [], [], [109], [], [], [], [107], [], [], [], [107], [], [], [], [], []]
def cd_Scene_holdsJoined : mm_C := [(0, (.iload_n 1, 1, 1, 0, [], 0)),
  (1, (.ifCond .lt 11, 4, 12, 0, [], 0)),
  (4, (.iload_n 1, 5, 1, 0, [], 0)),
  (5, (.getstatic 44, 8, 2, 0, [], 0)),
  (8, (.arraylength, 9, 0, 0, [], 0)),
  (9, (.if_icmp .lt 5, 12, 14, 0, [], 0)),
  (12, (.iconst 0, 13, 0, 0, [(0, 0)], 0)),
  (13, (.ireturn, 14, 1, 0, [], 0)),
  (14, (.aload_n 0, 15, 0, 0, [], 0)),
  (15, (.getstatic 44, 18, 2, 0, [], 0)),
  (18, (.iload_n 1, 19, 1, 0, [], 0)),
  (19, (.iaload, 20, 0, 0, [], 0)),
  (20, (.getstatic 44, 23, 2, 0, [], 0)),
  (23, (.iload_n 1, 24, 1, 0, [], 0)),
  (24, (.iaload, 25, 0, 0, [], 0)),
  (25, (.invokevirtual 32, 28, 31, 3, [], 0)),
  (28, (.ifCond .le 7, 31, 35, 0, [], 0)),
  (31, (.iconst 1, 32, 0, 0, [(1, 0)], 0)),
  (32, (.goto 4, 35, 36, 0, [], 0)),
  (35, (.iconst 0, 36, 0, 0, [(0, 0)], 0)),
  (36, (.ireturn, 37, 1, 0, [], 0))]
def cp_Scene_holdsJoined : List (List Nat) := [[], [], [], [1, 343], [], [], [], [], [], [1, 343], [], [], [1, 343], [], [], [331, 7], [], [], [], [], []]
def cd_Scene_isDone : mm_C := [(0, (.iconst 0, 1, 0, 0, [(0, 0)], 0)),
  (1, (.istore 4, 3, 4, 0, [], 0)),
  (3, (.iload 4, 5, 4, 0, [], 0)),
  (5, (.aload_n 0, 6, 0, 0, [], 0)),
  (6, (.getfield 22, 9, 3, 3, [], 0)),
  (9, (.if_icmp .ge 61, 12, 70, 0, [], 0)),
  (12, (.aload_n 0, 13, 0, 0, [], 0)),
  (13, (.iload 4, 15, 4, 0, [], 0)),
  (15, (.invokevirtual 50, 18, 35, 2, [], 0)),
  (18, (.istore 5, 20, 5, 0, [], 0)),
  (20, (.iload 5, 22, 5, 0, [], 0)),
  (22, (.bipush 10, 24, 0, 0, [(10, 0)], 0)),
  (24, (.idiv, 25, 0, 0, [], 0)),
  (25, (.bipush 10, 27, 0, 0, [(10, 0)], 0)),
  (27, (.irem, 28, 0, 0, [], 0)),
  (28, (.iload_n 1, 29, 1, 0, [], 0)),
  (29, (.if_icmp .ne 35, 32, 64, 0, [], 0)),
  (32, (.aload_n 0, 33, 0, 0, [], 0)),
  (33, (.iload 5, 35, 5, 0, [], 0)),
  (35, (.bipush 100, 37, 0, 0, [(100, 0)], 0)),
  (37, (.idiv, 38, 0, 0, [], 0)),
  (38, (.invokevirtual 47, 41, 32, 2, [], 0)),
  (41, (.iload_n 2, 42, 2, 0, [], 0)),
  (42, (.iand, 43, 0, 0, [], 0)),
  (43, (.iload_n 2, 44, 2, 0, [], 0)),
  (44, (.if_icmp .ne 20, 47, 64, 0, [], 0)),
  (47, (.aload_n 0, 48, 0, 0, [], 0)),
  (48, (.iload 5, 50, 5, 0, [], 0)),
  (50, (.bipush 10, 52, 0, 0, [(10, 0)], 0)),
  (52, (.irem, 53, 0, 0, [], 0)),
  (53, (.invokevirtual 47, 56, 32, 2, [], 0)),
  (56, (.iload_n 3, 57, 3, 0, [], 0)),
  (57, (.iand, 58, 0, 0, [], 0)),
  (58, (.iload_n 3, 59, 3, 0, [], 0)),
  (59, (.if_icmp .ne 5, 62, 64, 0, [], 0)),
  (62, (.iconst 1, 63, 0, 0, [(1, 0)], 0)),
  (63, (.ireturn, 64, 1, 0, [], 0)),
  (64, (.iinc 4 1, 67, 4, 0, [(1, 0)], 0)),
  (67, (.goto (-64), 70, 3, 0, [], 0)),
  (70, (.iconst 0, 71, 0, 0, [(0, 0)], 0)),
  (71, (.ireturn, 72, 1, 0, [], 0))]
def cp_Scene_isDone : List (List Nat) := [[], [], [], [], [112], [], [], [], [349, 351], [], [], [], [], [], [], [], [], [], [], [], [], [335, 337], [], [], [], [], [], [], [], [], [335, 337], [], [], [], [], [], [], [], [], [], []]
def cd_Scene_doingAt : mm_C := [(0, (.iload_n 1, 1, 1, 0, [], 0)),
  (1, (.ifCond .lt 29, 4, 30, 0, [], 0)),
  (4, (.iload_n 1, 5, 1, 0, [], 0)),
  (5, (.aload_n 0, 6, 0, 0, [], 0)),
  (6, (.getfield 22, 9, 3, 3, [], 0)),
  (9, (.if_icmp .ge 21, 12, 30, 0, [], 0)),
  (12, (.iload_n 1, 13, 1, 0, [], 0)),
  (13, (.aload_n 0, 14, 0, 0, [], 0)),
  (14, (.getfield 15, 17, 3, 1, [], 0)),
  (17, (.arraylength, 18, 0, 0, [], 0)),
  (18, (.if_icmp .ge 12, 21, 30, 0, [], 0)),
  (21, (.aload_n 0, 22, 0, 0, [], 0)),
  (22, (.getfield 15, 25, 3, 1, [], 0)),
  (25, (.iload_n 1, 26, 1, 0, [], 0)),
  (26, (.iaload, 27, 0, 0, [], 0)),
  (27, (.goto 5, 30, 32, 0, [], 0)),
  (30, (.bipush (-9), 32, 0, 0, [((-9), 0)], 0)),
  (32, (.ireturn, 33, 0, 0, [], 0))]
def cp_Scene_doingAt : List (List Nat) := [[], [], [], [], [112], [], [], [], [108], [], [], [], [108], [], [], [], [], []]
def cd_Text_init : mm_C := [(0, (.aload_n 0, 1, 0, 0, [], 0)),
  (1, (.invokespecial 3, 4, 0, 0, [], 1)),
  (4, (.aload_n 0, 5, 0, 0, [], 0)),
  (5, (.bipush 40, 7, 0, 0, [(40, 0)], 0)),
  (7, (.newarray .int, 9, 0, 40, [], 0)),
  (9, (.putfield 9, 12, 4, 0, [(0, 2)], 0)),
  (12, (.aload_n 0, 13, 0, 0, [], 0)),
  (13, (.iconst 0, 14, 0, 0, [(0, 0)], 0)),
  (14, (.putfield 15, 17, 4, 1, [(0, 0)], 0)),
  (17, (.aload_n 0, 18, 0, 0, [], 0)),
  (18, (.iconst 0, 19, 0, 0, [(0, 0)], 0)),
  (19, (.putfield 19, 22, 4, 2, [(0, 0)], 0)),
  (22, (.return_, 23, 0, 0, [], 0))]
def cp_Text_init : List (List Nat) := [[], [83, 76, 77], [], [], [94], [84], [], [], [85], [], [], [86], []]
def cd_Text_room : mm_C := [(0, (.aload_n 0, 1, 0, 0, [], 0)),
  (1, (.getfield 9, 4, 4, 0, [], 0)),
  (4, (.arraylength, 5, 0, 0, [], 0)),
  (5, (.aload_n 0, 6, 0, 0, [], 0)),
  (6, (.getfield 15, 9, 4, 1, [], 0)),
  (9, (.isub, 10, 0, 0, [], 0)),
  (10, (.ireturn, 11, 0, 0, [], 0))]
def cp_Text_room : List (List Nat) := [[], [84], [], [], [85], [], []]
def cd_Text_append : mm_C := [(0, (.iconst 0, 1, 0, 0, [(0, 0)], 0)),
  (1, (.istore 4, 3, 4, 0, [], 0)),
  (3, (.iload 4, 5, 4, 0, [], 0)),
  (5, (.iload_n 1, 6, 1, 0, [], 0)),
  (6, (.if_icmp .ge 52, 9, 58, 0, [], 0)),
  (9, (.aload_n 0, 10, 0, 0, [], 0)),
  (10, (.getfield 15, 13, 4, 1, [], 0)),
  (13, (.aload_n 0, 14, 0, 0, [], 0)),
  (14, (.getfield 9, 17, 4, 0, [], 0)),
  (17, (.arraylength, 18, 0, 0, [], 0)),
  (18, (.if_icmp .ge 40, 21, 58, 0, [], 0)),
  (21, (.aload_n 0, 22, 0, 0, [], 0)),
  (22, (.getfield 9, 25, 4, 0, [], 0)),
  (25, (.aload_n 0, 26, 0, 0, [], 0)),
  (26, (.getfield 15, 29, 4, 1, [], 0)),
  (29, (.lload_n 2, 30, 2, 0, [], 0)),
  (30, (.bipush 8, 32, 0, 0, [(8, 0)], 0)),
  (32, (.iload 4, 34, 4, 0, [], 0)),
  (34, (.imul, 35, 0, 0, [], 0)),
  (35, (.lushr, 36, 0, 0, [], 0)),
  (36, (.l2i, 37, 0, 0, [], 0)),
  (37, (.sipush 255, 40, 0, 0, [(255, 0)], 0)),
  (40, (.iand, 41, 0, 0, [], 0)),
  (41, (.iastore, 42, 0, 0, [], 0)),
  (42, (.aload_n 0, 43, 0, 0, [], 0)),
  (43, (.dup, 44, 0, 0, [], 0)),
  (44, (.getfield 15, 47, 4, 1, [], 0)),
  (47, (.iconst 1, 48, 0, 0, [(1, 0)], 0)),
  (48, (.iadd, 49, 0, 0, [], 0)),
  (49, (.putfield 15, 52, 4, 1, [(0, 0)], 0)),
  (52, (.iinc 4 1, 55, 4, 0, [(1, 0)], 0)),
  (55, (.goto (-52), 58, 3, 0, [], 0)),
  (58, (.aload_n 0, 59, 0, 0, [], 0)),
  (59, (.getfield 15, 62, 4, 1, [], 0)),
  (62, (.ireturn, 63, 0, 0, [], 0))]
def cp_Text_append : List (List Nat) := [[], [], [], [], [], [], [85], [], [84], [], [], [], [84], [], [85], [], [], [], [], [], [], [], [], [], [], [], [85], [], [], [85], [], [], [], [85], []]
def cd_Text_readScene : mm_C := [(0, (.aload_n 0, 1, 0, 0, [], 0)),
  (1, (.iconst 0, 2, 0, 0, [(0, 0)], 0)),
  (2, (.putfield 19, 5, 4, 2, [(0, 0)], 0)),
  (5, (.aload_n 0, 6, 0, 0, [], 0)),
  (6, (.aload_n 1, 7, 1, 0, [], 0)),
  (7, (.invokevirtual 22, 10, 40, 2, [], 0)),
  (10, (.ifCond .eq 46, 13, 56, 0, [], 0)),
  (13, (.aload_n 0, 14, 0, 0, [], 0)),
  (14, (.getfield 19, 17, 4, 2, [], 0)),
  (17, (.aload_n 0, 18, 0, 0, [], 0)),
  (18, (.getfield 15, 21, 4, 1, [], 0)),
  (21, (.if_icmp .eq 31, 24, 52, 0, [], 0)),
  (24, (.aload_n 0, 25, 0, 0, [], 0)),
  (25, (.bipush 59, 27, 0, 0, [(59, 0)], 0)),
  (27, (.invokevirtual 26, 30, 42, 2, [], 0)),
  (30, (.ifCond .eq 26, 33, 56, 0, [], 0)),
  (33, (.aload_n 0, 34, 0, 0, [], 0)),
  (34, (.aload_n 1, 35, 1, 0, [], 0)),
  (35, (.invokevirtual 30, 38, 44, 2, [], 0)),
  (38, (.ifCond .eq 18, 41, 56, 0, [], 0)),
  (41, (.aload_n 0, 42, 0, 0, [], 0)),
  (42, (.getfield 19, 45, 4, 2, [], 0)),
  (45, (.aload_n 0, 46, 0, 0, [], 0)),
  (46, (.getfield 15, 49, 4, 1, [], 0)),
  (49, (.if_icmp .ne 7, 52, 56, 0, [], 0)),
  (52, (.iconst 1, 53, 0, 0, [(1, 0)], 0)),
  (53, (.goto 4, 56, 57, 0, [], 0)),
  (56, (.iconst 0, 57, 0, 0, [(0, 0)], 0)),
  (57, (.ireturn, 58, 1, 0, [], 0))]
def cp_Text_readScene : List (List Nat) := [[], [], [86], [], [], [277, 1], [], [], [86], [], [85], [], [], [], [285, 3], [], [], [], [297, 5], [], [], [86], [], [85], [], [], [], [], []]
def cd_Text_readThings : mm_C := [(0, (.iconst 1, 1, 0, 0, [(1, 0)], 0)),
  (1, (.istore_n 2, 2, 2, 0, [], 0)),
  (2, (.iconst 0, 3, 0, 0, [(0, 0)], 0)),
  (3, (.istore_n 3, 4, 3, 0, [], 0)),
  (4, (.iload_n 3, 5, 3, 0, [], 0)),
  (5, (.iconst 4, 6, 0, 0, [(4, 0)], 0)),
  (6, (.if_icmp .ge 45, 9, 51, 0, [], 0)),
  (9, (.iload_n 2, 10, 2, 0, [], 0)),
  (10, (.ifCond .eq 41, 13, 51, 0, [], 0)),
  (13, (.aload_n 0, 14, 0, 0, [], 0)),
  (14, (.aload_n 1, 15, 1, 0, [], 0)),
  (15, (.invokevirtual 33, 18, 41, 2, [], 0)),
  (18, (.ifCond .ne 5, 21, 23, 0, [], 0)),
  (21, (.iconst 0, 22, 0, 0, [(0, 0)], 0)),
  (22, (.ireturn, 23, 1, 0, [], 0)),
  (23, (.iload_n 3, 24, 3, 0, [], 0)),
  (24, (.iconst 1, 25, 0, 0, [(1, 0)], 0)),
  (25, (.iadd, 26, 0, 0, [], 0)),
  (26, (.iconst 4, 27, 0, 0, [(4, 0)], 0)),
  (27, (.if_icmp .ge 16, 30, 43, 0, [], 0)),
  (30, (.aload_n 0, 31, 0, 0, [], 0)),
  (31, (.bipush 44, 33, 0, 0, [(44, 0)], 0)),
  (33, (.invokevirtual 26, 36, 42, 2, [], 0)),
  (36, (.ifCond .eq 7, 39, 43, 0, [], 0)),
  (39, (.iconst 1, 40, 0, 0, [(1, 0)], 0)),
  (40, (.goto 4, 43, 44, 0, [], 0)),
  (43, (.iconst 0, 44, 0, 0, [(0, 0)], 0)),
  (44, (.istore_n 2, 45, 2, 0, [], 0)),
  (45, (.iinc 3 1, 48, 3, 0, [(1, 0)], 0)),
  (48, (.goto (-44), 51, 4, 0, [], 0)),
  (51, (.iconst 1, 52, 0, 0, [(1, 0)], 0)),
  (52, (.ireturn, 53, 1, 0, [], 0))]
def cp_Text_readThings : List (List Nat) := [[], [], [], [], [], [], [], [], [], [], [], [281, 2], [], [], [], [], [], [], [], [], [], [], [285, 3], [], [], [], [], [], [], [], [], []]
def cd_Text_readThing : mm_C := [(0, (.iconst 0, 1, 0, 0, [(0, 0)], 0)),
  (1, (.istore_n 2, 2, 2, 0, [], 0)),
  (2, (.iconst 0, 3, 0, 0, [(0, 0)], 0)),
  (3, (.istore_n 3, 4, 3, 0, [], 0)),
  (4, (.iload_n 3, 5, 3, 0, [], 0)),
  (5, (.bipush 6, 7, 0, 0, [(6, 0)], 0)),
  (7, (.if_icmp .ge 26, 10, 33, 0, [], 0)),
  (10, (.aload_n 0, 11, 0, 0, [], 0)),
  (11, (.bipush 97, 13, 0, 0, [(97, 0)], 0)),
  (13, (.iload_n 3, 14, 3, 0, [], 0)),
  (14, (.iadd, 15, 0, 0, [], 0)),
  (15, (.invokevirtual 26, 18, 42, 2, [], 0)),
  (18, (.ifCond .eq 9, 21, 27, 0, [], 0)),
  (21, (.iload_n 2, 22, 2, 0, [], 0)),
  (22, (.iconst 1, 23, 0, 0, [(1, 0)], 0)),
  (23, (.iload_n 3, 24, 3, 0, [], 0)),
  (24, (.ishl, 25, 0, 0, [], 0)),
  (25, (.ior, 26, 0, 0, [], 0)),
  (26, (.istore_n 2, 27, 2, 0, [], 0)),
  (27, (.iinc 3 1, 30, 3, 0, [(1, 0)], 0)),
  (30, (.goto (-26), 33, 4, 0, [], 0)),
  (33, (.iload_n 2, 34, 2, 0, [], 0)),
  (34, (.ifCond .ne 5, 37, 39, 0, [], 0)),
  (37, (.iconst 0, 38, 0, 0, [(0, 0)], 0)),
  (38, (.ireturn, 39, 1, 0, [], 0)),
  (39, (.aload_n 1, 40, 1, 0, [], 0)),
  (40, (.aload_n 0, 41, 0, 0, [], 0)),
  (41, (.bipush 42, 43, 0, 0, [(42, 0)], 0)),
  (43, (.invokevirtual 26, 46, 42, 2, [], 0)),
  (46, (.ifCond .eq 10, 49, 56, 0, [], 0)),
  (49, (.iload_n 2, 50, 2, 0, [], 0)),
  (50, (.bipush 64, 52, 0, 0, [(64, 0)], 0)),
  (52, (.ior, 53, 0, 0, [], 0)),
  (53, (.goto 4, 56, 57, 0, [], 0)),
  (56, (.iload_n 2, 57, 2, 0, [], 0)),
  (57, (.invokevirtual 36, 60, 28, 2, [], 0)),
  (60, (.iconst 1, 61, 0, 0, [(1, 0)], 0)),
  (61, (.ireturn, 62, 1, 0, [], 0))]
def cp_Text_readThing : List (List Nat) := [[], [], [], [], [], [], [], [], [], [], [], [285, 3], [], [], [], [], [], [], [], [], [], [], [], [], [], [], [], [], [285, 3], [], [], [], [], [], [], [293, 295], [], []]
def cd_Text_take : mm_C := [(0, (.aload_n 0, 1, 0, 0, [], 0)),
  (1, (.iload_n 1, 2, 1, 0, [], 0)),
  (2, (.iconst 1, 3, 0, 0, [(1, 0)], 0)),
  (3, (.iconst (-1), 4, 0, 0, [((-1), 0)], 0)),
  (4, (.invokevirtual 48, 7, 43, 4, [], 0)),
  (7, (.ifCond .ne 7, 10, 14, 0, [], 0)),
  (10, (.iconst 1, 11, 0, 0, [(1, 0)], 0)),
  (11, (.goto 4, 14, 15, 0, [], 0)),
  (14, (.iconst 0, 15, 0, 0, [(0, 0)], 0)),
  (15, (.ireturn, 16, 1, 0, [], 0))]
def cp_Text_take : List (List Nat) := [[], [], [], [], [289, 4], [], [], [], [], []]
def cd_Text_takeOneOf : mm_C := [(0, (.aload_n 0, 1, 0, 0, [], 0)),
  (1, (.getfield 19, 4, 4, 2, [], 0)),
  (4, (.aload_n 0, 5, 0, 0, [], 0)),
  (5, (.getfield 15, 8, 4, 1, [], 0)),
  (8, (.if_icmp .ge 15, 11, 23, 0, [], 0)),
  (11, (.aload_n 0, 12, 0, 0, [], 0)),
  (12, (.getfield 19, 15, 4, 2, [], 0)),
  (15, (.aload_n 0, 16, 0, 0, [], 0)),
  (16, (.getfield 9, 19, 4, 0, [], 0)),
  (19, (.arraylength, 20, 0, 0, [], 0)),
  (20, (.if_icmp .lt 5, 23, 25, 0, [], 0)),
  (23, (.iconst (-1), 24, 0, 0, [((-1), 0)], 0)),
  (24, (.ireturn, 25, 0, 0, [], 0)),
  (25, (.aload_n 0, 26, 0, 0, [], 0)),
  (26, (.getfield 9, 29, 4, 0, [], 0)),
  (29, (.aload_n 0, 30, 0, 0, [], 0)),
  (30, (.getfield 19, 33, 4, 2, [], 0)),
  (33, (.iaload, 34, 0, 0, [], 0)),
  (34, (.iload_n 1, 35, 1, 0, [], 0)),
  (35, (.isub, 36, 0, 0, [], 0)),
  (36, (.istore 4, 38, 4, 0, [], 0)),
  (38, (.iload 4, 40, 4, 0, [], 0)),
  (40, (.ifCond .lt 15, 43, 55, 0, [], 0)),
  (43, (.iload 4, 45, 4, 0, [], 0)),
  (45, (.iload_n 2, 46, 2, 0, [], 0)),
  (46, (.if_icmp .ge 9, 49, 55, 0, [], 0)),
  (49, (.iload 4, 51, 4, 0, [], 0)),
  (51, (.iload_n 3, 52, 3, 0, [], 0)),
  (52, (.if_icmp .ne 5, 55, 57, 0, [], 0)),
  (55, (.iconst (-1), 56, 0, 0, [((-1), 0)], 0)),
  (56, (.ireturn, 57, 0, 0, [], 0)),
  (57, (.aload_n 0, 58, 0, 0, [], 0)),
  (58, (.dup, 59, 0, 0, [], 0)),
  (59, (.getfield 19, 62, 4, 2, [], 0)),
  (62, (.iconst 1, 63, 0, 0, [(1, 0)], 0)),
  (63, (.iadd, 64, 0, 0, [], 0)),
  (64, (.putfield 19, 67, 4, 2, [(0, 0)], 0)),
  (67, (.iload 4, 69, 4, 0, [], 0)),
  (69, (.ireturn, 70, 0, 0, [], 0))]
def cp_Text_takeOneOf : List (List Nat) := [[], [86], [], [85], [], [], [86], [], [84], [], [], [], [], [], [84], [], [86], [], [], [], [], [], [], [], [], [], [], [], [], [], [], [], [], [86], [], [], [86], [], []]
def cd_Text_readDoings : mm_C := [(0, (.iconst 1, 1, 0, 0, [(1, 0)], 0)),
  (1, (.istore_n 2, 2, 2, 0, [], 0)),
  (2, (.iconst 0, 3, 0, 0, [(0, 0)], 0)),
  (3, (.istore_n 3, 4, 3, 0, [], 0)),
  (4, (.iload_n 3, 5, 3, 0, [], 0)),
  (5, (.iconst 3, 6, 0, 0, [(3, 0)], 0)),
  (6, (.if_icmp .ge 45, 9, 51, 0, [], 0)),
  (9, (.iload_n 2, 10, 2, 0, [], 0)),
  (10, (.ifCond .eq 41, 13, 51, 0, [], 0)),
  (13, (.aload_n 0, 14, 0, 0, [], 0)),
  (14, (.aload_n 1, 15, 1, 0, [], 0)),
  (15, (.invokevirtual 42, 18, 45, 2, [], 0)),
  (18, (.ifCond .ne 5, 21, 23, 0, [], 0)),
  (21, (.iconst 0, 22, 0, 0, [(0, 0)], 0)),
  (22, (.ireturn, 23, 1, 0, [], 0)),
  (23, (.iload_n 3, 24, 3, 0, [], 0)),
  (24, (.iconst 1, 25, 0, 0, [(1, 0)], 0)),
  (25, (.iadd, 26, 0, 0, [], 0)),
  (26, (.iconst 3, 27, 0, 0, [(3, 0)], 0)),
  (27, (.if_icmp .ge 16, 30, 43, 0, [], 0)),
  (30, (.aload_n 0, 31, 0, 0, [], 0)),
  (31, (.bipush 44, 33, 0, 0, [(44, 0)], 0)),
  (33, (.invokevirtual 26, 36, 42, 2, [], 0)),
  (36, (.ifCond .eq 7, 39, 43, 0, [], 0)),
  (39, (.iconst 1, 40, 0, 0, [(1, 0)], 0)),
  (40, (.goto 4, 43, 44, 0, [], 0)),
  (43, (.iconst 0, 44, 0, 0, [(0, 0)], 0)),
  (44, (.istore_n 2, 45, 2, 0, [], 0)),
  (45, (.iinc 3 1, 48, 3, 0, [(1, 0)], 0)),
  (48, (.goto (-44), 51, 4, 0, [], 0)),
  (51, (.iconst 1, 52, 0, 0, [(1, 0)], 0)),
  (52, (.ireturn, 53, 1, 0, [], 0))]
def cp_Text_readDoings : List (List Nat) := [[], [], [], [], [], [], [], [], [], [], [], [301, 6], [], [], [], [], [], [], [], [], [], [], [285, 3], [], [], [], [], [], [], [], [], []]
def cd_Text_readDoing : mm_C := [(0, (.aload_n 0, 1, 0, 0, [], 0)),
  (1, (.bipush 48, 3, 0, 0, [(48, 0)], 0)),
  (3, (.aload_n 1, 4, 1, 0, [], 0)),
  (4, (.getfield 45, 7, 3, 2, [], 0)),
  (7, (.iconst (-1), 8, 0, 0, [((-1), 0)], 0)),
  (8, (.invokevirtual 48, 11, 43, 4, [], 0)),
  (11, (.istore_n 2, 12, 2, 0, [], 0)),
  (12, (.iload_n 2, 13, 2, 0, [], 0)),
  (13, (.ifCond .ge 5, 16, 18, 0, [], 0)),
  (16, (.iconst 0, 17, 0, 0, [(0, 0)], 0)),
  (17, (.ireturn, 18, 1, 0, [], 0)),
  (18, (.aload_n 0, 19, 0, 0, [], 0)),
  (19, (.bipush 120, 21, 0, 0, [(120, 0)], 0)),
  (21, (.iconst 3, 22, 0, 0, [(3, 0)], 0)),
  (22, (.iconst (-1), 23, 0, 0, [((-1), 0)], 0)),
  (23, (.invokevirtual 48, 26, 43, 4, [], 0)),
  (26, (.istore_n 3, 27, 3, 0, [], 0)),
  (27, (.iload_n 3, 28, 3, 0, [], 0)),
  (28, (.ifCond .ge 5, 31, 33, 0, [], 0)),
  (31, (.iconst 0, 32, 0, 0, [(0, 0)], 0)),
  (32, (.ireturn, 33, 1, 0, [], 0)),
  (33, (.aload_n 0, 34, 0, 0, [], 0)),
  (34, (.bipush 48, 36, 0, 0, [(48, 0)], 0)),
  (36, (.aload_n 1, 37, 1, 0, [], 0)),
  (37, (.getfield 45, 40, 3, 2, [], 0)),
  (40, (.iload_n 2, 41, 2, 0, [], 0)),
  (41, (.invokevirtual 48, 44, 43, 4, [], 0)),
  (44, (.istore 4, 46, 4, 0, [], 0)),
  (46, (.iload 4, 48, 4, 0, [], 0)),
  (48, (.ifCond .ge 5, 51, 53, 0, [], 0)),
  (51, (.iconst 0, 52, 0, 0, [(0, 0)], 0)),
  (52, (.ireturn, 53, 1, 0, [], 0)),
  (53, (.aload_n 1, 54, 1, 0, [], 0)),
  (54, (.bipush 100, 56, 0, 0, [(100, 0)], 0)),
  (56, (.iload_n 2, 57, 2, 0, [], 0)),
  (57, (.imul, 58, 0, 0, [], 0)),
  (58, (.bipush 10, 60, 0, 0, [(10, 0)], 0)),
  (60, (.iload_n 3, 61, 3, 0, [], 0)),
  (61, (.imul, 62, 0, 0, [], 0)),
  (62, (.iadd, 63, 0, 0, [], 0)),
  (63, (.iload 4, 65, 4, 0, [], 0)),
  (65, (.iadd, 66, 0, 0, [], 0)),
  (66, (.invokevirtual 52, 69, 29, 2, [], 0)),
  (69, (.iconst 1, 70, 0, 0, [(1, 0)], 0)),
  (70, (.ireturn, 71, 1, 0, [], 0))]
def cp_Text_readDoing : List (List Nat) := [[], [], [], [111], [], [289, 4], [], [], [], [], [], [], [], [], [], [289, 4], [], [], [], [], [], [], [], [], [111], [], [289, 4], [], [], [], [], [], [], [], [], [], [], [], [], [], [], [], [305, 307], [], []]
def cd_Text_place : mm_C := [(0, (.aload_n 0, 1, 0, 0, [], 0)),
  (1, (.getfield 19, 4, 4, 2, [], 0)),
  (4, (.ireturn, 5, 0, 0, [], 0))]
def cp_Text_place : List (List Nat) := [[], [86], []]
def cd_Text_empty : mm_C := [(0, (.aload_n 0, 1, 0, 0, [], 0)),
  (1, (.iconst 0, 2, 0, 0, [(0, 0)], 0)),
  (2, (.putfield 15, 5, 4, 1, [(0, 0)], 0)),
  (5, (.return_, 6, 0, 0, [], 0))]
def cp_Text_empty : List (List Nat) := [[], [], [85], []]
def cd_Text_length : mm_C := [(0, (.aload_n 0, 1, 0, 0, [], 0)),
  (1, (.getfield 15, 4, 4, 1, [], 0)),
  (4, (.ireturn, 5, 0, 0, [], 0))]
def cp_Text_length : List (List Nat) := [[], [85], []]
def cd_Told_init : mm_C := [(0, (.aload_n 0, 1, 0, 0, [], 0)),
  (1, (.invokespecial 3, 4, 0, 0, [], 1)),
  (4, (.aload_n 0, 5, 0, 0, [], 0)),
  (5, (.new 9, 8, 3, 4, [], 0)),
  (8, (.dup, 9, 0, 0, [], 0)),
  (9, (.invokespecial 11, 12, 27, 1, [], 0)),
  (12, (.putfield 12, 15, 5, 0, [(0, 2)], 0)),
  (15, (.aload_n 0, 16, 0, 0, [], 0)),
  (16, (.bipush 24, 18, 0, 0, [(24, 0)], 0)),
  (18, (.anewarray 9, 21, 0, 24, [], 0)),
  (21, (.putfield 18, 24, 5, 1, [(0, 2)], 0)),
  (24, (.aload_n 0, 25, 0, 0, [], 0)),
  (25, (.iconst 0, 26, 0, 0, [(0, 0)], 0)),
  (26, (.putfield 22, 29, 5, 2, [(0, 0)], 0)),
  (29, (.aload_n 0, 30, 0, 0, [], 0)),
  (30, (.bipush 90, 32, 0, 0, [(90, 0)], 0)),
  (32, (.newarray .int, 34, 0, 90, [], 0)),
  (34, (.putfield 26, 37, 5, 3, [(0, 2)], 0)),
  (37, (.aload_n 0, 38, 0, 0, [], 0)),
  (38, (.bipush 6, 40, 0, 0, [(6, 0)], 0)),
  (40, (.newarray .int, 42, 0, 6, [], 0)),
  (42, (.putfield 30, 45, 5, 4, [(0, 2)], 0)),
  (45, (.aload_n 0, 46, 0, 0, [], 0)),
  (46, (.bipush 8, 48, 0, 0, [(8, 0)], 0)),
  (48, (.newarray .int, 50, 0, 8, [], 0)),
  (50, (.putfield 33, 53, 5, 5, [(0, 2)], 0)),
  (53, (.aload_n 0, 54, 0, 0, [], 0)),
  (54, (.bipush 90, 56, 0, 0, [(90, 0)], 0)),
  (56, (.putfield 36, 59, 5, 6, [(0, 0)], 0)),
  (59, (.aload_n 0, 60, 0, 0, [], 0)),
  (60, (.bipush 10, 62, 0, 0, [(10, 0)], 0)),
  (62, (.putfield 39, 65, 5, 7, [(0, 0)], 0)),
  (65, (.aload_n 0, 66, 0, 0, [], 0)),
  (66, (.bipush 6, 68, 0, 0, [(6, 0)], 0)),
  (68, (.newarray .int, 70, 0, 6, [], 0)),
  (70, (.putfield 42, 73, 5, 8, [(0, 2)], 0)),
  (73, (.aload_n 0, 74, 0, 0, [], 0)),
  (74, (.bipush 20, 76, 0, 0, [(20, 0)], 0)),
  (76, (.newarray .int, 78, 0, 20, [], 0)),
  (78, (.putfield 45, 81, 5, 9, [(0, 2)], 0)),
  (81, (.aload_n 0, 82, 0, 0, [], 0)),
  (82, (.bipush 20, 84, 0, 0, [(20, 0)], 0)),
  (84, (.newarray .int, 86, 0, 20, [], 0)),
  (86, (.putfield 48, 89, 5, 10, [(0, 2)], 0)),
  (89, (.aload_n 0, 90, 0, 0, [], 0)),
  (90, (.iconst 0, 91, 0, 0, [(0, 0)], 0)),
  (91, (.putfield 51, 94, 5, 11, [(0, 0)], 0)),
  (94, (.iconst 0, 95, 0, 0, [(0, 0)], 0)),
  (95, (.istore_n 1, 96, 1, 0, [], 0)),
  (96, (.iload_n 1, 97, 1, 0, [], 0)),
  (97, (.aload_n 0, 98, 0, 0, [], 0)),
  (98, (.getfield 18, 101, 5, 1, [], 0)),
  (101, (.arraylength, 102, 0, 0, [], 0)),
  (102, (.if_icmp .ge 19, 105, 121, 0, [], 0)),
  (105, (.aload_n 0, 106, 0, 0, [], 0)),
  (106, (.getfield 18, 109, 5, 1, [], 0)),
  (109, (.iload_n 1, 110, 1, 0, [], 0)),
  (110, (.aload_n 0, 111, 0, 0, [], 0)),
  (111, (.getfield 12, 114, 5, 0, [], 0)),
  (114, (.aastore, 115, 3, 0, [], 0)),
  (115, (.iinc 1 1, 118, 1, 0, [(1, 0)], 0)),
  (118, (.goto (-22), 121, 96, 0, [], 0)),
  (121, (.aload_n 0, 122, 0, 0, [], 0)),
  (122, (.getfield 33, 125, 5, 5, [], 0)),
  (125, (.bipush 10, 127, 0, 0, [(10, 0)], 0)),
  (127, (.invokestatic 54, 130, 182, 2, [], 0)),
  (130, (.aload_n 0, 131, 0, 0, [], 0)),
  (131, (.getfield 42, 134, 5, 8, [], 0)),
  (134, (.bipush (-9), 136, 0, 0, [((-9), 0)], 0)),
  (136, (.invokestatic 54, 139, 182, 2, [], 0)),
  (139, (.return_, 140, 0, 0, [], 0))]
def cp_Told_init : List (List Nat) := [[], [100, 76, 77], [], [101, 102, 61], [], [1, 103], [127], [], [], [101], [128], [], [], [130], [], [], [94], [133], [], [], [94], [137], [], [], [94], [141], [], [], [144], [], [], [147], [], [], [94], [150], [], [], [94], [152], [], [], [94], [153], [], [], [154], [], [], [], [], [128], [], [], [], [128], [], [], [127], [], [], [], [], [141], [], [0, 124], [], [150], [], [0, 124], []]
def cd_Told_addScene : mm_C := [(0, (.aload_n 0, 1, 0, 0, [], 0)),
  (1, (.getfield 22, 4, 5, 2, [], 0)),
  (4, (.istore_n 2, 5, 2, 0, [], 0)),
  (5, (.iload_n 2, 6, 2, 0, [], 0)),
  (6, (.aload_n 0, 7, 0, 0, [], 0)),
  (7, (.getfield 18, 10, 5, 1, [], 0)),
  (10, (.arraylength, 11, 0, 0, [], 0)),
  (11, (.if_icmp .ge 54, 14, 65, 0, [], 0)),
  (14, (.aload_n 0, 15, 0, 0, [], 0)),
  (15, (.getfield 18, 18, 5, 1, [], 0)),
  (18, (.iload_n 2, 19, 2, 0, [], 0)),
  (19, (.aload_n 1, 20, 1, 0, [], 0)),
  (20, (.aastore, 21, 3, 0, [], 0)),
  (21, (.iconst 0, 22, 0, 0, [(0, 0)], 0)),
  (22, (.istore_n 3, 23, 3, 0, [], 0)),
  (23, (.iload_n 3, 24, 3, 0, [], 0)),
  (24, (.bipush 90, 26, 0, 0, [(90, 0)], 0)),
  (26, (.if_icmp .ge 29, 29, 55, 0, [], 0)),
  (29, (.aload_n 1, 30, 1, 0, [], 0)),
  (30, (.iload_n 3, 31, 3, 0, [], 0)),
  (31, (.invokevirtual 66, 34, 30, 2, [], 0)),
  (34, (.ifCond .eq 15, 37, 49, 0, [], 0)),
  (37, (.aload_n 0, 38, 0, 0, [], 0)),
  (38, (.getfield 26, 41, 5, 3, [], 0)),
  (41, (.iload_n 3, 42, 3, 0, [], 0)),
  (42, (.dup2, 43, 0, 0, [], 0)),
  (43, (.iaload, 44, 0, 0, [], 0)),
  (44, (.iconst 1, 45, 0, 0, [(1, 0)], 0)),
  (45, (.iload_n 2, 46, 2, 0, [], 0)),
  (46, (.ishl, 47, 0, 0, [], 0)),
  (47, (.ior, 48, 0, 0, [], 0)),
  (48, (.iastore, 49, 0, 0, [], 0)),
  (49, (.iinc 3 1, 52, 3, 0, [(1, 0)], 0)),
  (52, (.goto (-29), 55, 23, 0, [], 0)),
  (55, (.aload_n 0, 56, 0, 0, [], 0)),
  (56, (.dup, 57, 0, 0, [], 0)),
  (57, (.getfield 22, 60, 5, 2, [], 0)),
  (60, (.iconst 1, 61, 0, 0, [(1, 0)], 0)),
  (61, (.iadd, 62, 0, 0, [], 0)),
  (62, (.putfield 22, 65, 5, 2, [(0, 0)], 0)),
  (65, (.iload_n 2, 66, 2, 0, [], 0)),
  (66, (.ireturn, 67, 0, 0, [], 0))]
def cp_Told_addScene : List (List Nat) := [[], [130], [], [], [], [128], [], [], [], [128], [], [], [], [], [], [], [], [], [], [], [321, 323], [], [], [133], [], [], [], [], [], [], [], [], [], [], [], [], [130], [], [], [130], [], []]
def cd_Told_dropLatest : mm_C := [(0, (.aload_n 0, 1, 0, 0, [], 0)),
  (1, (.getfield 22, 4, 5, 2, [], 0)),
  (4, (.ifCond .le 91, 7, 95, 0, [], 0)),
  (7, (.aload_n 0, 8, 0, 0, [], 0)),
  (8, (.dup, 9, 0, 0, [], 0)),
  (9, (.getfield 22, 12, 5, 2, [], 0)),
  (12, (.iconst 1, 13, 0, 0, [(1, 0)], 0)),
  (13, (.isub, 14, 0, 0, [], 0)),
  (14, (.putfield 22, 17, 5, 2, [(0, 0)], 0)),
  (17, (.iconst 1, 18, 0, 0, [(1, 0)], 0)),
  (18, (.aload_n 0, 19, 0, 0, [], 0)),
  (19, (.getfield 22, 22, 5, 2, [], 0)),
  (22, (.ishl, 23, 0, 0, [], 0)),
  (23, (.iconst (-1), 24, 0, 0, [((-1), 0)], 0)),
  (24, (.ixor, 25, 0, 0, [], 0)),
  (25, (.istore_n 1, 26, 1, 0, [], 0)),
  (26, (.aload_n 0, 27, 0, 0, [], 0)),
  (27, (.getfield 18, 30, 5, 1, [], 0)),
  (30, (.aload_n 0, 31, 0, 0, [], 0)),
  (31, (.getfield 22, 34, 5, 2, [], 0)),
  (34, (.aload_n 0, 35, 0, 0, [], 0)),
  (35, (.getfield 12, 38, 5, 0, [], 0)),
  (38, (.aastore, 39, 3, 0, [], 0)),
  (39, (.iconst 0, 40, 0, 0, [(0, 0)], 0)),
  (40, (.istore_n 2, 41, 2, 0, [], 0)),
  (41, (.iload_n 2, 42, 2, 0, [], 0)),
  (42, (.bipush 90, 44, 0, 0, [(90, 0)], 0)),
  (44, (.if_icmp .ge 19, 47, 63, 0, [], 0)),
  (47, (.aload_n 0, 48, 0, 0, [], 0)),
  (48, (.getfield 26, 51, 5, 3, [], 0)),
  (51, (.iload_n 2, 52, 2, 0, [], 0)),
  (52, (.dup2, 53, 0, 0, [], 0)),
  (53, (.iaload, 54, 0, 0, [], 0)),
  (54, (.iload_n 1, 55, 1, 0, [], 0)),
  (55, (.iand, 56, 0, 0, [], 0)),
  (56, (.iastore, 57, 0, 0, [], 0)),
  (57, (.iinc 2 1, 60, 2, 0, [(1, 0)], 0)),
  (60, (.goto (-19), 63, 41, 0, [], 0)),
  (63, (.iconst 0, 64, 0, 0, [(0, 0)], 0)),
  (64, (.istore_n 2, 65, 2, 0, [], 0)),
  (65, (.iload_n 2, 66, 2, 0, [], 0)),
  (66, (.bipush 6, 68, 0, 0, [(6, 0)], 0)),
  (68, (.if_icmp .ge 19, 71, 87, 0, [], 0)),
  (71, (.aload_n 0, 72, 0, 0, [], 0)),
  (72, (.getfield 30, 75, 5, 4, [], 0)),
  (75, (.iload_n 2, 76, 2, 0, [], 0)),
  (76, (.dup2, 77, 0, 0, [], 0)),
  (77, (.iaload, 78, 0, 0, [], 0)),
  (78, (.iload_n 1, 79, 1, 0, [], 0)),
  (79, (.iand, 80, 0, 0, [], 0)),
  (80, (.iastore, 81, 0, 0, [], 0)),
  (81, (.iinc 2 1, 84, 2, 0, [(1, 0)], 0)),
  (84, (.goto (-19), 87, 65, 0, [], 0)),
  (87, (.aload_n 0, 88, 0, 0, [], 0)),
  (88, (.aload_n 0, 89, 0, 0, [], 0)),
  (89, (.getfield 22, 92, 5, 2, [], 0)),
  (92, (.invokevirtual 70, 95, 52, 2, [], 0)),
  (95, (.aload_n 0, 96, 0, 0, [], 0)),
  (96, (.getfield 22, 99, 5, 2, [], 0)),
  (99, (.ireturn, 100, 0, 0, [], 0))]
def cp_Told_dropLatest : List (List Nat) := [[], [130], [], [], [], [130], [], [], [130], [], [], [130], [], [], [], [], [], [128], [], [130], [], [127], [], [], [], [], [], [], [], [133], [], [], [], [], [], [], [], [], [], [], [], [], [], [], [137], [], [], [], [], [], [], [], [], [], [], [130], [361, 9], [], [130], []]
def cd_Told_dropSayingsOf : mm_C := [(0, (.iconst 0, 1, 0, 0, [(0, 0)], 0)),
  (1, (.istore_n 2, 2, 2, 0, [], 0)),
  (2, (.iconst 0, 3, 0, 0, [(0, 0)], 0)),
  (3, (.istore_n 3, 4, 3, 0, [], 0)),
  (4, (.iload_n 3, 5, 3, 0, [], 0)),
  (5, (.aload_n 0, 6, 0, 0, [], 0)),
  (6, (.getfield 51, 9, 5, 11, [], 0)),
  (9, (.if_icmp .ge 46, 12, 55, 0, [], 0)),
  (12, (.aload_n 0, 13, 0, 0, [], 0)),
  (13, (.getfield 45, 16, 5, 9, [], 0)),
  (16, (.iload_n 3, 17, 3, 0, [], 0)),
  (17, (.iaload, 18, 0, 0, [], 0)),
  (18, (.iload_n 1, 19, 1, 0, [], 0)),
  (19, (.if_icmp .eq 30, 22, 49, 0, [], 0)),
  (22, (.aload_n 0, 23, 0, 0, [], 0)),
  (23, (.getfield 45, 26, 5, 9, [], 0)),
  (26, (.iload_n 2, 27, 2, 0, [], 0)),
  (27, (.aload_n 0, 28, 0, 0, [], 0)),
  (28, (.getfield 45, 31, 5, 9, [], 0)),
  (31, (.iload_n 3, 32, 3, 0, [], 0)),
  (32, (.iaload, 33, 0, 0, [], 0)),
  (33, (.iastore, 34, 0, 0, [], 0)),
  (34, (.aload_n 0, 35, 0, 0, [], 0)),
  (35, (.getfield 48, 38, 5, 10, [], 0)),
  (38, (.iload_n 2, 39, 2, 0, [], 0)),
  (39, (.aload_n 0, 40, 0, 0, [], 0)),
  (40, (.getfield 48, 43, 5, 10, [], 0)),
  (43, (.iload_n 3, 44, 3, 0, [], 0)),
  (44, (.iaload, 45, 0, 0, [], 0)),
  (45, (.iastore, 46, 0, 0, [], 0)),
  (46, (.iinc 2 1, 49, 2, 0, [(1, 0)], 0)),
  (49, (.iinc 3 1, 52, 3, 0, [(1, 0)], 0)),
  (52, (.goto (-48), 55, 4, 0, [], 0)),
  (55, (.aload_n 0, 56, 0, 0, [], 0)),
  (56, (.iload_n 2, 57, 2, 0, [], 0)),
  (57, (.putfield 51, 60, 5, 11, [(0, 0)], 0)),
  (60, (.return_, 61, 0, 0, [], 0))]
def cp_Told_dropSayingsOf : List (List Nat) := [[], [], [], [], [], [], [154], [], [], [152], [], [], [], [], [], [152], [], [], [152], [], [], [], [], [153], [], [], [153], [], [], [], [], [], [], [], [], [154], []]
def cd_Told_tellSaid : mm_C := [(0, (.aload_n 0, 1, 0, 0, [], 0)),
  (1, (.getfield 30, 4, 5, 4, [], 0)),
  (4, (.iload_n 2, 5, 2, 0, [], 0)),
  (5, (.iaload, 6, 0, 0, [], 0)),
  (6, (.iload_n 1, 7, 1, 0, [], 0)),
  (7, (.invokestatic 74, 10, 81, 2, [], 0)),
  (10, (.iload_n 3, 11, 3, 0, [], 0)),
  (11, (.if_icmp .ne 5, 14, 16, 0, [], 0)),
  (14, (.iconst 0, 15, 0, 0, [(0, 0)], 0)),
  (15, (.ireturn, 16, 1, 0, [], 0)),
  (16, (.aload_n 0, 17, 0, 0, [], 0)),
  (17, (.getfield 30, 20, 5, 4, [], 0)),
  (20, (.iload_n 2, 21, 2, 0, [], 0)),
  (21, (.dup2, 22, 0, 0, [], 0)),
  (22, (.iaload, 23, 0, 0, [], 0)),
  (23, (.iconst 1, 24, 0, 0, [(1, 0)], 0)),
  (24, (.iload_n 1, 25, 1, 0, [], 0)),
  (25, (.ishl, 26, 0, 0, [], 0)),
  (26, (.ixor, 27, 0, 0, [], 0)),
  (27, (.iastore, 28, 0, 0, [], 0)),
  (28, (.iconst 1, 29, 0, 0, [(1, 0)], 0)),
  (29, (.ireturn, 30, 1, 0, [], 0))]
def cp_Told_tellSaid : List (List Nat) := [[], [137], [], [], [], [1, 390], [], [], [], [], [], [137], [], [], [], [], [], [], [], [], [], []]
def cd_Told_countLeft : mm_C := [(0, (.iconst 0, 1, 0, 0, [(0, 0)], 0)),
  (1, (.istore_n 3, 2, 3, 0, [], 0)),
  (2, (.iconst 0, 3, 0, 0, [(0, 0)], 0)),
  (3, (.istore 4, 5, 4, 0, [], 0)),
  (5, (.iload 4, 7, 4, 0, [], 0)),
  (7, (.bipush 90, 9, 0, 0, [(90, 0)], 0)),
  (9, (.if_icmp .ge 23, 12, 32, 0, [], 0)),
  (12, (.aload_n 0, 13, 0, 0, [], 0)),
  (13, (.iload_n 1, 14, 1, 0, [], 0)),
  (14, (.iload 4, 16, 4, 0, [], 0)),
  (16, (.iload_n 2, 17, 2, 0, [], 0)),
  (17, (.invokevirtual 90, 20, 55, 4, [], 0)),
  (20, (.ifCond .eq 6, 23, 26, 0, [], 0)),
  (23, (.iinc 3 1, 26, 3, 0, [(1, 0)], 0)),
  (26, (.iinc 4 1, 29, 4, 0, [(1, 0)], 0)),
  (29, (.goto (-24), 32, 5, 0, [], 0)),
  (32, (.iload_n 3, 33, 3, 0, [], 0)),
  (33, (.ireturn, 34, 0, 0, [], 0))]
def cp_Told_countLeft : List (List Nat) := [[], [], [], [], [], [], [], [], [], [], [], [428, 430], [], [], [], [], [], []]
def cd_Told_isLeft : mm_C := [(0, (.aload_n 0, 1, 0, 0, [], 0)),
  (1, (.getfield 30, 4, 5, 4, [], 0)),
  (4, (.iload_n 1, 5, 1, 0, [], 0)),
  (5, (.iaload, 6, 0, 0, [], 0)),
  (6, (.aload_n 0, 7, 0, 0, [], 0)),
  (7, (.getfield 26, 10, 5, 3, [], 0)),
  (10, (.iload_n 2, 11, 2, 0, [], 0)),
  (11, (.iaload, 12, 0, 0, [], 0)),
  (12, (.iconst (-1), 13, 0, 0, [((-1), 0)], 0)),
  (13, (.ixor, 14, 0, 0, [], 0)),
  (14, (.iand, 15, 0, 0, [], 0)),
  (15, (.invokestatic 84, 18, 183, 1, [], 0)),
  (18, (.iload_n 3, 19, 3, 0, [], 0)),
  (19, (.if_icmp .gt 7, 22, 26, 0, [], 0)),
  (22, (.iconst 1, 23, 0, 0, [(1, 0)], 0)),
  (23, (.goto 4, 26, 27, 0, [], 0)),
  (26, (.iconst 0, 27, 0, 0, [(0, 0)], 0)),
  (27, (.ireturn, 28, 1, 0, [], 0))]
def cp_Told_isLeft : List (List Nat) := [[], [137], [], [], [], [133], [], [], [], [], [], [0, 432], [], [], [], [], [], []]
def cd_Told_leftAt : mm_C := [(0, (.iconst 0, 1, 0, 0, [(0, 0)], 0)),
  (1, (.istore 4, 3, 4, 0, [], 0)),
  (3, (.iconst 0, 4, 0, 0, [(0, 0)], 0)),
  (4, (.istore 5, 6, 5, 0, [], 0)),
  (6, (.iload 5, 8, 5, 0, [], 0)),
  (8, (.bipush 90, 10, 0, 0, [(90, 0)], 0)),
  (10, (.if_icmp .ge 32, 13, 42, 0, [], 0)),
  (13, (.aload_n 0, 14, 0, 0, [], 0)),
  (14, (.iload_n 1, 15, 1, 0, [], 0)),
  (15, (.iload 5, 17, 5, 0, [], 0)),
  (17, (.iload_n 2, 18, 2, 0, [], 0)),
  (18, (.invokevirtual 90, 21, 55, 4, [], 0)),
  (21, (.ifCond .eq 15, 24, 36, 0, [], 0)),
  (24, (.iload 4, 26, 4, 0, [], 0)),
  (26, (.iload_n 3, 27, 3, 0, [], 0)),
  (27, (.if_icmp .ne 6, 30, 33, 0, [], 0)),
  (30, (.iload 5, 32, 5, 0, [], 0)),
  (32, (.ireturn, 33, 0, 0, [], 0)),
  (33, (.iinc 4 1, 36, 4, 0, [(1, 0)], 0)),
  (36, (.iinc 5 1, 39, 5, 0, [(1, 0)], 0)),
  (39, (.goto (-33), 42, 6, 0, [], 0)),
  (42, (.bipush (-9), 44, 0, 0, [((-9), 0)], 0)),
  (44, (.ireturn, 45, 0, 0, [], 0))]
def cp_Told_leftAt : List (List Nat) := [[], [], [], [], [], [], [], [], [], [], [], [428, 430], [], [], [], [], [], [], [], [], [], [], []]
def cd_Told_heaviestLeft : mm_C := [(0, (.bipush (-9), 2, 0, 0, [((-9), 0)], 0)),
  (2, (.istore_n 3, 3, 3, 0, [], 0)),
  (3, (.iconst 0, 4, 0, 0, [(0, 0)], 0)),
  (4, (.istore 4, 6, 4, 0, [], 0)),
  (6, (.iconst 0, 7, 0, 0, [(0, 0)], 0)),
  (7, (.istore 5, 9, 5, 0, [], 0)),
  (9, (.iload 5, 11, 5, 0, [], 0)),
  (11, (.bipush 90, 13, 0, 0, [(90, 0)], 0)),
  (13, (.if_icmp .ge 46, 16, 59, 0, [], 0)),
  (16, (.aload_n 0, 17, 0, 0, [], 0)),
  (17, (.getfield 33, 20, 5, 5, [], 0)),
  (20, (.iload 5, 22, 5, 0, [], 0)),
  (22, (.invokestatic 94, 25, 74, 1, [], 0)),
  (25, (.iaload, 26, 0, 0, [], 0)),
  (26, (.istore 6, 28, 6, 0, [], 0)),
  (28, (.iload 6, 30, 6, 0, [], 0)),
  (30, (.iload 4, 32, 4, 0, [], 0)),
  (32, (.if_icmp .le 21, 35, 53, 0, [], 0)),
  (35, (.aload_n 0, 36, 0, 0, [], 0)),
  (36, (.iload_n 1, 37, 1, 0, [], 0)),
  (37, (.iload 5, 39, 5, 0, [], 0)),
  (39, (.iload_n 2, 40, 2, 0, [], 0)),
  (40, (.invokevirtual 90, 43, 55, 4, [], 0)),
  (43, (.ifCond .eq 10, 46, 53, 0, [], 0)),
  (46, (.iload 5, 48, 5, 0, [], 0)),
  (48, (.istore_n 3, 49, 3, 0, [], 0)),
  (49, (.iload 6, 51, 6, 0, [], 0)),
  (51, (.istore 4, 53, 4, 0, [], 0)),
  (53, (.iinc 5 1, 56, 5, 0, [(1, 0)], 0)),
  (56, (.goto (-47), 59, 9, 0, [], 0)),
  (59, (.iload_n 3, 60, 3, 0, [], 0)),
  (60, (.ireturn, 61, 0, 0, [], 0))]
def cp_Told_heaviestLeft : List (List Nat) := [[], [], [], [], [], [], [], [], [], [], [141], [], [1, 445], [], [], [], [], [], [], [], [], [], [428, 430], [], [], [], [], [], [], [], [], []]
def cd_Told_countTwos : mm_C := [(0, (.iconst 0, 1, 0, 0, [(0, 0)], 0)),
  (1, (.istore_n 2, 2, 2, 0, [], 0)),
  (2, (.iconst 0, 3, 0, 0, [(0, 0)], 0)),
  (3, (.istore_n 3, 4, 3, 0, [], 0)),
  (4, (.iload_n 3, 5, 3, 0, [], 0)),
  (5, (.bipush 90, 7, 0, 0, [(90, 0)], 0)),
  (7, (.if_icmp .ge 41, 10, 48, 0, [], 0)),
  (10, (.iload_n 3, 11, 3, 0, [], 0)),
  (11, (.iconst 1, 12, 0, 0, [(1, 0)], 0)),
  (12, (.iadd, 13, 0, 0, [], 0)),
  (13, (.istore 4, 15, 4, 0, [], 0)),
  (15, (.iload 4, 17, 4, 0, [], 0)),
  (17, (.bipush 90, 19, 0, 0, [(90, 0)], 0)),
  (19, (.if_icmp .ge 23, 22, 42, 0, [], 0)),
  (22, (.aload_n 0, 23, 0, 0, [], 0)),
  (23, (.iload_n 1, 24, 1, 0, [], 0)),
  (24, (.iload_n 3, 25, 3, 0, [], 0)),
  (25, (.iload 4, 27, 4, 0, [], 0)),
  (27, (.invokevirtual 97, 30, 59, 4, [], 0)),
  (30, (.ifCond .eq 6, 33, 36, 0, [], 0)),
  (33, (.iinc 2 1, 36, 2, 0, [(1, 0)], 0)),
  (36, (.iinc 4 1, 39, 4, 0, [(1, 0)], 0)),
  (39, (.goto (-24), 42, 15, 0, [], 0)),
  (42, (.iinc 3 1, 45, 3, 0, [(1, 0)], 0)),
  (45, (.goto (-41), 48, 4, 0, [], 0)),
  (48, (.iload_n 2, 49, 2, 0, [], 0)),
  (49, (.ireturn, 50, 0, 0, [], 0))]
def cp_Told_countTwos : List (List Nat) := [[], [], [], [], [], [], [], [], [], [], [], [], [], [], [], [], [], [], [549, 17], [], [], [], [], [], [], [], []]
def cd_Told_isTwo : mm_C := [(0, (.aload_n 0, 1, 0, 0, [], 0)),
  (1, (.getfield 30, 4, 5, 4, [], 0)),
  (4, (.iload_n 1, 5, 1, 0, [], 0)),
  (5, (.iaload, 6, 0, 0, [], 0)),
  (6, (.aload_n 0, 7, 0, 0, [], 0)),
  (7, (.getfield 26, 10, 5, 3, [], 0)),
  (10, (.iload_n 2, 11, 2, 0, [], 0)),
  (11, (.iaload, 12, 0, 0, [], 0)),
  (12, (.aload_n 0, 13, 0, 0, [], 0)),
  (13, (.getfield 26, 16, 5, 3, [], 0)),
  (16, (.iload_n 3, 17, 3, 0, [], 0)),
  (17, (.iaload, 18, 0, 0, [], 0)),
  (18, (.ior, 19, 0, 0, [], 0)),
  (19, (.iconst (-1), 20, 0, 0, [((-1), 0)], 0)),
  (20, (.ixor, 21, 0, 0, [], 0)),
  (21, (.iand, 22, 0, 0, [], 0)),
  (22, (.ifCond .ne 27, 25, 49, 0, [], 0)),
  (25, (.aload_n 0, 26, 0, 0, [], 0)),
  (26, (.iload_n 1, 27, 1, 0, [], 0)),
  (27, (.iload_n 2, 28, 2, 0, [], 0)),
  (28, (.iconst 0, 29, 0, 0, [(0, 0)], 0)),
  (29, (.invokevirtual 90, 32, 55, 4, [], 0)),
  (32, (.ifCond .ne 17, 35, 49, 0, [], 0)),
  (35, (.aload_n 0, 36, 0, 0, [], 0)),
  (36, (.iload_n 1, 37, 1, 0, [], 0)),
  (37, (.iload_n 3, 38, 3, 0, [], 0)),
  (38, (.iconst 0, 39, 0, 0, [(0, 0)], 0)),
  (39, (.invokevirtual 90, 42, 55, 4, [], 0)),
  (42, (.ifCond .ne 7, 45, 49, 0, [], 0)),
  (45, (.iconst 1, 46, 0, 0, [(1, 0)], 0)),
  (46, (.goto 4, 49, 50, 0, [], 0)),
  (49, (.iconst 0, 50, 0, 0, [(0, 0)], 0)),
  (50, (.ireturn, 51, 1, 0, [], 0))]
def cp_Told_isTwo : List (List Nat) := [[], [137], [], [], [], [133], [], [], [], [133], [], [], [], [], [], [], [], [], [], [], [], [428, 430], [], [], [], [], [], [428, 430], [], [], [], [], []]
def cd_Told_firstTwo : mm_C := [(0, (.iconst 0, 1, 0, 0, [(0, 0)], 0)),
  (1, (.istore_n 2, 2, 2, 0, [], 0)),
  (2, (.iload_n 2, 3, 2, 0, [], 0)),
  (3, (.bipush 90, 5, 0, 0, [(90, 0)], 0)),
  (5, (.if_icmp .ge 42, 8, 47, 0, [], 0)),
  (8, (.iload_n 2, 9, 2, 0, [], 0)),
  (9, (.iconst 1, 10, 0, 0, [(1, 0)], 0)),
  (10, (.iadd, 11, 0, 0, [], 0)),
  (11, (.istore_n 3, 12, 3, 0, [], 0)),
  (12, (.iload_n 3, 13, 3, 0, [], 0)),
  (13, (.bipush 90, 15, 0, 0, [(90, 0)], 0)),
  (15, (.if_icmp .ge 26, 18, 41, 0, [], 0)),
  (18, (.aload_n 0, 19, 0, 0, [], 0)),
  (19, (.iload_n 1, 20, 1, 0, [], 0)),
  (20, (.iload_n 2, 21, 2, 0, [], 0)),
  (21, (.iload_n 3, 22, 3, 0, [], 0)),
  (22, (.invokevirtual 97, 25, 59, 4, [], 0)),
  (25, (.ifCond .eq 10, 28, 35, 0, [], 0)),
  (28, (.bipush 100, 30, 0, 0, [(100, 0)], 0)),
  (30, (.iload_n 2, 31, 2, 0, [], 0)),
  (31, (.imul, 32, 0, 0, [], 0)),
  (32, (.iload_n 3, 33, 3, 0, [], 0)),
  (33, (.iadd, 34, 0, 0, [], 0)),
  (34, (.ireturn, 35, 0, 0, [], 0)),
  (35, (.iinc 3 1, 38, 3, 0, [(1, 0)], 0)),
  (38, (.goto (-26), 41, 12, 0, [], 0)),
  (41, (.iinc 2 1, 44, 2, 0, [(1, 0)], 0)),
  (44, (.goto (-42), 47, 2, 0, [], 0)),
  (47, (.bipush (-9), 49, 0, 0, [((-9), 0)], 0)),
  (49, (.ireturn, 50, 0, 0, [], 0))]
def cp_Told_firstTwo : List (List Nat) := [[], [], [], [], [], [], [], [], [], [], [], [], [], [], [], [], [549, 17], [], [], [], [], [], [], [], [], [], [], [], [], []]
def cd_Told_addSaying : mm_C := [(0, (.aload_n 0, 1, 0, 0, [], 0)),
  (1, (.getfield 51, 4, 5, 11, [], 0)),
  (4, (.bipush 20, 6, 0, 0, [(20, 0)], 0)),
  (6, (.if_icmp .ge 33, 9, 39, 0, [], 0)),
  (9, (.aload_n 0, 10, 0, 0, [], 0)),
  (10, (.getfield 45, 13, 5, 9, [], 0)),
  (13, (.aload_n 0, 14, 0, 0, [], 0)),
  (14, (.getfield 51, 17, 5, 11, [], 0)),
  (17, (.iload_n 1, 18, 1, 0, [], 0)),
  (18, (.iastore, 19, 0, 0, [], 0)),
  (19, (.aload_n 0, 20, 0, 0, [], 0)),
  (20, (.getfield 48, 23, 5, 10, [], 0)),
  (23, (.aload_n 0, 24, 0, 0, [], 0)),
  (24, (.getfield 51, 27, 5, 11, [], 0)),
  (27, (.iload_n 2, 28, 2, 0, [], 0)),
  (28, (.iastore, 29, 0, 0, [], 0)),
  (29, (.aload_n 0, 30, 0, 0, [], 0)),
  (30, (.dup, 31, 0, 0, [], 0)),
  (31, (.getfield 51, 34, 5, 11, [], 0)),
  (34, (.iconst 1, 35, 0, 0, [(1, 0)], 0)),
  (35, (.iadd, 36, 0, 0, [], 0)),
  (36, (.putfield 51, 39, 5, 11, [(0, 0)], 0)),
  (39, (.aload_n 0, 40, 0, 0, [], 0)),
  (40, (.getfield 51, 43, 5, 11, [], 0)),
  (43, (.ireturn, 44, 0, 0, [], 0))]
def cp_Told_addSaying : List (List Nat) := [[], [154], [], [], [], [152], [], [154], [], [], [], [153], [], [154], [], [], [], [], [154], [], [], [154], [], [154], []]
def cd_Told_fittingOrders : mm_C := [(0, (.iconst 0, 1, 0, 0, [(0, 0)], 0)),
  (1, (.istore_n 1, 2, 1, 0, [], 0)),
  (2, (.iconst 0, 3, 0, 0, [(0, 0)], 0)),
  (3, (.istore_n 2, 4, 2, 0, [], 0)),
  (4, (.iload_n 2, 5, 2, 0, [], 0)),
  (5, (.bipush 6, 7, 0, 0, [(6, 0)], 0)),
  (7, (.if_icmp .ge 68, 10, 75, 0, [], 0)),
  (10, (.iconst 1, 11, 0, 0, [(1, 0)], 0)),
  (11, (.istore_n 3, 12, 3, 0, [], 0)),
  (12, (.iconst 0, 13, 0, 0, [(0, 0)], 0)),
  (13, (.istore 4, 15, 4, 0, [], 0)),
  (15, (.iload 4, 17, 4, 0, [], 0)),
  (17, (.aload_n 0, 18, 0, 0, [], 0)),
  (18, (.getfield 51, 21, 5, 11, [], 0)),
  (21, (.if_icmp .ge 38, 24, 59, 0, [], 0)),
  (24, (.iload_n 3, 25, 3, 0, [], 0)),
  (25, (.ifCond .eq 34, 28, 59, 0, [], 0)),
  (28, (.aload_n 0, 29, 0, 0, [], 0)),
  (29, (.aload_n 0, 30, 0, 0, [], 0)),
  (30, (.getfield 18, 33, 5, 1, [], 0)),
  (33, (.aload_n 0, 34, 0, 0, [], 0)),
  (34, (.getfield 45, 37, 5, 9, [], 0)),
  (37, (.iload 4, 39, 4, 0, [], 0)),
  (39, (.iaload, 40, 0, 0, [], 0)),
  (40, (.aaload, 41, 0, 0, [], 0)),
  (41, (.aload_n 0, 42, 0, 0, [], 0)),
  (42, (.getfield 48, 45, 5, 10, [], 0)),
  (45, (.iload 4, 47, 4, 0, [], 0)),
  (47, (.iaload, 48, 0, 0, [], 0)),
  (48, (.iload_n 2, 49, 2, 0, [], 0)),
  (49, (.invokevirtual 100, 52, 63, 4, [], 0)),
  (52, (.istore_n 3, 53, 3, 0, [], 0)),
  (53, (.iinc 4 1, 56, 4, 0, [(1, 0)], 0)),
  (56, (.goto (-41), 59, 15, 0, [], 0)),
  (59, (.iload_n 3, 60, 3, 0, [], 0)),
  (60, (.ifCond .eq 9, 63, 69, 0, [], 0)),
  (63, (.iload_n 1, 64, 1, 0, [], 0)),
  (64, (.iconst 1, 65, 0, 0, [(1, 0)], 0)),
  (65, (.iload_n 2, 66, 2, 0, [], 0)),
  (66, (.ishl, 67, 0, 0, [], 0)),
  (67, (.ior, 68, 0, 0, [], 0)),
  (68, (.istore_n 1, 69, 1, 0, [], 0)),
  (69, (.iinc 2 1, 72, 2, 0, [(1, 0)], 0)),
  (72, (.goto (-68), 75, 4, 0, [], 0)),
  (75, (.iload_n 1, 76, 1, 0, [], 0)),
  (76, (.ireturn, 77, 0, 0, [], 0))]
def cp_Told_fittingOrders : List (List Nat) := [[], [], [], [], [], [], [], [], [], [], [], [], [], [154], [], [], [], [], [], [128], [], [152], [], [], [], [], [153], [], [], [], [583, 18], [], [], [], [], [], [], [], [], [], [], [], [], [], [], []]
def cd_Told_fits : mm_C := [(0, (.aload_n 0, 1, 0, 0, [], 0)),
  (1, (.getfield 42, 4, 5, 8, [], 0)),
  (4, (.iload_n 2, 5, 2, 0, [], 0)),
  (5, (.getstatic 104, 8, 3, 0, [], 0)),
  (8, (.iload_n 3, 9, 3, 0, [], 0)),
  (9, (.iaload, 10, 0, 0, [], 0)),
  (10, (.invokestatic 107, 13, 102, 2, [], 0)),
  (13, (.iaload, 14, 0, 0, [], 0)),
  (14, (.istore 4, 16, 4, 0, [], 0)),
  (16, (.aload_n 0, 17, 0, 0, [], 0)),
  (17, (.getfield 42, 20, 5, 8, [], 0)),
  (20, (.iload_n 2, 21, 2, 0, [], 0)),
  (21, (.getstatic 111, 24, 4, 0, [], 0)),
  (24, (.iload_n 3, 25, 3, 0, [], 0)),
  (25, (.iaload, 26, 0, 0, [], 0)),
  (26, (.invokestatic 107, 29, 102, 2, [], 0)),
  (29, (.iaload, 30, 0, 0, [], 0)),
  (30, (.bipush 39, 32, 0, 0, [(39, 0)], 0)),
  (32, (.isub, 33, 0, 0, [], 0)),
  (33, (.istore 5, 35, 5, 0, [], 0)),
  (35, (.aload_n 0, 36, 0, 0, [], 0)),
  (36, (.getfield 42, 39, 5, 8, [], 0)),
  (39, (.iload_n 2, 40, 2, 0, [], 0)),
  (40, (.getstatic 114, 43, 5, 0, [], 0)),
  (43, (.iload_n 3, 44, 3, 0, [], 0)),
  (44, (.iaload, 45, 0, 0, [], 0)),
  (45, (.invokestatic 107, 48, 102, 2, [], 0)),
  (48, (.iaload, 49, 0, 0, [], 0)),
  (49, (.istore 6, 51, 6, 0, [], 0)),
  (51, (.iload 4, 53, 4, 0, [], 0)),
  (53, (.invokestatic 117, 56, 64, 1, [], 0)),
  (56, (.ifCond .eq 43, 59, 99, 0, [], 0)),
  (59, (.iload 6, 61, 6, 0, [], 0)),
  (61, (.invokestatic 117, 64, 64, 1, [], 0)),
  (64, (.ifCond .eq 35, 67, 99, 0, [], 0)),
  (67, (.iload 5, 69, 5, 0, [], 0)),
  (69, (.ifCond .lt 30, 72, 99, 0, [], 0)),
  (72, (.iload 5, 74, 5, 0, [], 0)),
  (74, (.iconst 3, 75, 0, 0, [(3, 0)], 0)),
  (75, (.if_icmp .ge 24, 78, 99, 0, [], 0)),
  (78, (.aload_n 1, 79, 1, 0, [], 0)),
  (79, (.iload 5, 81, 5, 0, [], 0)),
  (81, (.iconst 1, 82, 0, 0, [(1, 0)], 0)),
  (82, (.iload 4, 84, 4, 0, [], 0)),
  (84, (.ishl, 85, 0, 0, [], 0)),
  (85, (.iconst 1, 86, 0, 0, [(1, 0)], 0)),
  (86, (.iload 6, 88, 6, 0, [], 0)),
  (88, (.ishl, 89, 0, 0, [], 0)),
  (89, (.invokevirtual 120, 92, 34, 4, [], 0)),
  (92, (.ifCond .eq 7, 95, 99, 0, [], 0)),
  (95, (.iconst 1, 96, 0, 0, [(1, 0)], 0)),
  (96, (.goto 4, 99, 100, 0, [], 0)),
  (99, (.iconst 0, 100, 0, 0, [(0, 0)], 0)),
  (100, (.ireturn, 101, 1, 0, [], 0))]
def cp_Told_fits : List (List Nat) := [[], [150], [], [1, 587], [], [], [1, 589], [], [], [], [150], [], [1, 590], [], [], [1, 589], [], [], [], [], [], [150], [], [1, 592], [], [], [1, 589], [], [], [], [0, 594], [], [], [0, 594], [], [], [], [], [], [], [], [], [], [], [], [], [], [], [597, 347], [], [], [], [], []]
def cd_Told_isMark : mm_C := [(0, (.iload_n 0, 1, 0, 0, [], 0)),
  (1, (.ifCond .lt 13, 4, 14, 0, [], 0)),
  (4, (.iload_n 0, 5, 0, 0, [], 0)),
  (5, (.bipush 6, 7, 0, 0, [(6, 0)], 0)),
  (7, (.if_icmp .ge 7, 10, 14, 0, [], 0)),
  (10, (.iconst 1, 11, 0, 0, [(1, 0)], 0)),
  (11, (.goto 4, 14, 15, 0, [], 0)),
  (14, (.iconst 0, 15, 0, 0, [(0, 0)], 0)),
  (15, (.ireturn, 16, 1, 0, [], 0))]
def cp_Told_isMark : List (List Nat) := [[], [], [], [], [], [], [], [], []]
def cd_Told_countUnparted : mm_C := [(0, (.iconst 0, 1, 0, 0, [(0, 0)], 0)),
  (1, (.istore_n 1, 2, 1, 0, [], 0)),
  (2, (.iconst 0, 3, 0, 0, [(0, 0)], 0)),
  (3, (.istore_n 2, 4, 2, 0, [], 0)),
  (4, (.iload_n 2, 5, 2, 0, [], 0)),
  (5, (.bipush 90, 7, 0, 0, [(90, 0)], 0)),
  (7, (.if_icmp .ge 43, 10, 50, 0, [], 0)),
  (10, (.iload_n 2, 11, 2, 0, [], 0)),
  (11, (.iconst 1, 12, 0, 0, [(1, 0)], 0)),
  (12, (.iadd, 13, 0, 0, [], 0)),
  (13, (.istore_n 3, 14, 3, 0, [], 0)),
  (14, (.iload_n 3, 15, 3, 0, [], 0)),
  (15, (.bipush 90, 17, 0, 0, [(90, 0)], 0)),
  (17, (.if_icmp .ge 27, 20, 44, 0, [], 0)),
  (20, (.aload_n 0, 21, 0, 0, [], 0)),
  (21, (.getfield 26, 24, 5, 3, [], 0)),
  (24, (.iload_n 2, 25, 2, 0, [], 0)),
  (25, (.iaload, 26, 0, 0, [], 0)),
  (26, (.aload_n 0, 27, 0, 0, [], 0)),
  (27, (.getfield 26, 30, 5, 3, [], 0)),
  (30, (.iload_n 3, 31, 3, 0, [], 0)),
  (31, (.iaload, 32, 0, 0, [], 0)),
  (32, (.if_icmp .ne 6, 35, 38, 0, [], 0)),
  (35, (.iinc 1 1, 38, 1, 0, [(1, 0)], 0)),
  (38, (.iinc 3 1, 41, 3, 0, [(1, 0)], 0)),
  (41, (.goto (-27), 44, 14, 0, [], 0)),
  (44, (.iinc 2 1, 47, 2, 0, [(1, 0)], 0)),
  (47, (.goto (-43), 50, 4, 0, [], 0)),
  (50, (.iload_n 1, 51, 1, 0, [], 0)),
  (51, (.ireturn, 52, 0, 0, [], 0))]
def cp_Told_countUnparted : List (List Nat) := [[], [], [], [], [], [], [], [], [], [], [], [], [], [], [], [133], [], [], [], [133], [], [], [], [], [], [], [], [], [], []]
def cd_Told_copyFrom : mm_C := [(0, (.iconst 0, 1, 0, 0, [(0, 0)], 0)),
  (1, (.istore_n 2, 2, 2, 0, [], 0)),
  (2, (.iload_n 2, 3, 2, 0, [], 0)),
  (3, (.aload_n 0, 4, 0, 0, [], 0)),
  (4, (.getfield 18, 7, 5, 1, [], 0)),
  (7, (.arraylength, 8, 0, 0, [], 0)),
  (8, (.if_icmp .ge 21, 11, 29, 0, [], 0)),
  (11, (.aload_n 0, 12, 0, 0, [], 0)),
  (12, (.getfield 18, 15, 5, 1, [], 0)),
  (15, (.iload_n 2, 16, 2, 0, [], 0)),
  (16, (.aload_n 1, 17, 1, 0, [], 0)),
  (17, (.getfield 18, 20, 5, 1, [], 0)),
  (20, (.iload_n 2, 21, 2, 0, [], 0)),
  (21, (.aaload, 22, 0, 0, [], 0)),
  (22, (.aastore, 23, 3, 0, [], 0)),
  (23, (.iinc 2 1, 26, 2, 0, [(1, 0)], 0)),
  (26, (.goto (-24), 29, 2, 0, [], 0)),
  (29, (.aload_n 0, 30, 0, 0, [], 0)),
  (30, (.aload_n 1, 31, 1, 0, [], 0)),
  (31, (.getfield 22, 34, 5, 2, [], 0)),
  (34, (.putfield 22, 37, 5, 2, [(0, 0)], 0)),
  (37, (.aload_n 1, 38, 1, 0, [], 0)),
  (38, (.getfield 26, 41, 5, 3, [], 0)),
  (41, (.iconst 0, 42, 0, 0, [(0, 0)], 0)),
  (42, (.aload_n 0, 43, 0, 0, [], 0)),
  (43, (.getfield 26, 46, 5, 3, [], 0)),
  (46, (.iconst 0, 47, 0, 0, [(0, 0)], 0)),
  (47, (.bipush 90, 49, 0, 0, [(90, 0)], 0)),
  (49, (.invokestatic 60, 52, 0, 0, [], 1)),
  (52, (.aload_n 1, 53, 1, 0, [], 0)),
  (53, (.getfield 30, 56, 5, 4, [], 0)),
  (56, (.iconst 0, 57, 0, 0, [(0, 0)], 0)),
  (57, (.aload_n 0, 58, 0, 0, [], 0)),
  (58, (.getfield 30, 61, 5, 4, [], 0)),
  (61, (.iconst 0, 62, 0, 0, [(0, 0)], 0)),
  (62, (.bipush 6, 64, 0, 0, [(6, 0)], 0)),
  (64, (.invokestatic 60, 67, 0, 0, [], 1)),
  (67, (.aload_n 1, 68, 1, 0, [], 0)),
  (68, (.getfield 33, 71, 5, 5, [], 0)),
  (71, (.iconst 0, 72, 0, 0, [(0, 0)], 0)),
  (72, (.aload_n 0, 73, 0, 0, [], 0)),
  (73, (.getfield 33, 76, 5, 5, [], 0)),
  (76, (.iconst 0, 77, 0, 0, [(0, 0)], 0)),
  (77, (.bipush 8, 79, 0, 0, [(8, 0)], 0)),
  (79, (.invokestatic 60, 82, 0, 0, [], 1)),
  (82, (.aload_n 0, 83, 0, 0, [], 0)),
  (83, (.aload_n 1, 84, 1, 0, [], 0)),
  (84, (.getfield 36, 87, 5, 6, [], 0)),
  (87, (.putfield 36, 90, 5, 6, [(0, 0)], 0)),
  (90, (.aload_n 0, 91, 0, 0, [], 0)),
  (91, (.aload_n 1, 92, 1, 0, [], 0)),
  (92, (.getfield 39, 95, 5, 7, [], 0)),
  (95, (.putfield 39, 98, 5, 7, [(0, 0)], 0)),
  (98, (.aload_n 1, 99, 1, 0, [], 0)),
  (99, (.getfield 42, 102, 5, 8, [], 0)),
  (102, (.iconst 0, 103, 0, 0, [(0, 0)], 0)),
  (103, (.aload_n 0, 104, 0, 0, [], 0)),
  (104, (.getfield 42, 107, 5, 8, [], 0)),
  (107, (.iconst 0, 108, 0, 0, [(0, 0)], 0)),
  (108, (.bipush 6, 110, 0, 0, [(6, 0)], 0)),
  (110, (.invokestatic 60, 113, 0, 0, [], 1)),
  (113, (.aload_n 1, 114, 1, 0, [], 0)),
  (114, (.getfield 45, 117, 5, 9, [], 0)),
  (117, (.iconst 0, 118, 0, 0, [(0, 0)], 0)),
  (118, (.aload_n 0, 119, 0, 0, [], 0)),
  (119, (.getfield 45, 122, 5, 9, [], 0)),
  (122, (.iconst 0, 123, 0, 0, [(0, 0)], 0)),
  (123, (.bipush 20, 125, 0, 0, [(20, 0)], 0)),
  (125, (.invokestatic 60, 128, 0, 0, [], 1)),
  (128, (.aload_n 1, 129, 1, 0, [], 0)),
  (129, (.getfield 48, 132, 5, 10, [], 0)),
  (132, (.iconst 0, 133, 0, 0, [(0, 0)], 0)),
  (133, (.aload_n 0, 134, 0, 0, [], 0)),
  (134, (.getfield 48, 137, 5, 10, [], 0)),
  (137, (.iconst 0, 138, 0, 0, [(0, 0)], 0)),
  (138, (.bipush 20, 140, 0, 0, [(20, 0)], 0)),
  (140, (.invokestatic 60, 143, 0, 0, [], 1)),
  (143, (.aload_n 0, 144, 0, 0, [], 0)),
  (144, (.aload_n 1, 145, 1, 0, [], 0)),
  (145, (.getfield 51, 148, 5, 11, [], 0)),
  (148, (.putfield 51, 151, 5, 11, [(0, 0)], 0)),
  (151, (.return_, 152, 0, 0, [], 0))]
def cp_Told_copyFrom : List (List Nat) := [[], [], [], [], [128], [], [], [], [128], [], [], [128], [], [], [], [], [], [], [], [130], [130], [], [133], [], [], [133], [], [], [685, 687, 686, 69], [], [137], [], [], [137], [], [], [685, 687, 686, 69], [], [141], [], [], [141], [], [], [685, 687, 686, 69], [], [], [144], [144], [], [], [147], [147], [], [150], [], [], [150], [], [], [685, 687, 686, 69], [], [152], [], [], [152], [], [], [685, 687, 686, 69], [], [153], [], [], [153], [], [], [685, 687, 686, 69], [], [], [154], [154], []]
def cd_Told_countThings : mm_C := [(0, (.iconst 0, 1, 0, 0, [(0, 0)], 0)),
  (1, (.istore_n 1, 2, 1, 0, [], 0)),
  (2, (.iconst 0, 3, 0, 0, [(0, 0)], 0)),
  (3, (.istore_n 2, 4, 2, 0, [], 0)),
  (4, (.iload_n 2, 5, 2, 0, [], 0)),
  (5, (.aload_n 0, 6, 0, 0, [], 0)),
  (6, (.getfield 22, 9, 5, 2, [], 0)),
  (9, (.if_icmp .ge 21, 12, 30, 0, [], 0)),
  (12, (.iload_n 1, 13, 1, 0, [], 0)),
  (13, (.aload_n 0, 14, 0, 0, [], 0)),
  (14, (.getfield 18, 17, 5, 1, [], 0)),
  (17, (.iload_n 2, 18, 2, 0, [], 0)),
  (18, (.aaload, 19, 0, 0, [], 0)),
  (19, (.getfield 78, 22, 3, 2, [], 0)),
  (22, (.iadd, 23, 0, 0, [], 0)),
  (23, (.istore_n 1, 24, 1, 0, [], 0)),
  (24, (.iinc 2 1, 27, 2, 0, [(1, 0)], 0)),
  (27, (.goto (-23), 30, 4, 0, [], 0)),
  (30, (.iload_n 1, 31, 1, 0, [], 0)),
  (31, (.ireturn, 32, 0, 0, [], 0))]
def cp_Told_countThings : List (List Nat) := [[], [], [], [], [], [], [130], [], [], [], [128], [], [], [110], [], [], [], [], [], []]
def cd_Told_countDoings : mm_C := [(0, (.iconst 0, 1, 0, 0, [(0, 0)], 0)),
  (1, (.istore_n 1, 2, 1, 0, [], 0)),
  (2, (.iconst 0, 3, 0, 0, [(0, 0)], 0)),
  (3, (.istore_n 2, 4, 2, 0, [], 0)),
  (4, (.iload_n 2, 5, 2, 0, [], 0)),
  (5, (.aload_n 0, 6, 0, 0, [], 0)),
  (6, (.getfield 22, 9, 5, 2, [], 0)),
  (9, (.if_icmp .ge 21, 12, 30, 0, [], 0)),
  (12, (.iload_n 1, 13, 1, 0, [], 0)),
  (13, (.aload_n 0, 14, 0, 0, [], 0)),
  (14, (.getfield 18, 17, 5, 1, [], 0)),
  (17, (.iload_n 2, 18, 2, 0, [], 0)),
  (18, (.aaload, 19, 0, 0, [], 0)),
  (19, (.getfield 81, 22, 3, 3, [], 0)),
  (22, (.iadd, 23, 0, 0, [], 0)),
  (23, (.istore_n 1, 24, 1, 0, [], 0)),
  (24, (.iinc 2 1, 27, 2, 0, [(1, 0)], 0)),
  (27, (.goto (-23), 30, 4, 0, [], 0)),
  (30, (.iload_n 1, 31, 1, 0, [], 0)),
  (31, (.ireturn, 32, 0, 0, [], 0))]
def cp_Told_countDoings : List (List Nat) := [[], [], [], [], [], [], [130], [], [], [], [128], [], [], [113], [], [], [], [], [], []]
def cd_Told_countSaid : mm_C := [(0, (.iconst 0, 1, 0, 0, [(0, 0)], 0)),
  (1, (.istore_n 1, 2, 1, 0, [], 0)),
  (2, (.iconst 0, 3, 0, 0, [(0, 0)], 0)),
  (3, (.istore_n 2, 4, 2, 0, [], 0)),
  (4, (.iload_n 2, 5, 2, 0, [], 0)),
  (5, (.bipush 6, 7, 0, 0, [(6, 0)], 0)),
  (7, (.if_icmp .ge 21, 10, 28, 0, [], 0)),
  (10, (.iload_n 1, 11, 1, 0, [], 0)),
  (11, (.aload_n 0, 12, 0, 0, [], 0)),
  (12, (.getfield 30, 15, 5, 4, [], 0)),
  (15, (.iload_n 2, 16, 2, 0, [], 0)),
  (16, (.iaload, 17, 0, 0, [], 0)),
  (17, (.invokestatic 84, 20, 183, 1, [], 0)),
  (20, (.iadd, 21, 0, 0, [], 0)),
  (21, (.istore_n 1, 22, 1, 0, [], 0)),
  (22, (.iinc 2 1, 25, 2, 0, [(1, 0)], 0)),
  (25, (.goto (-21), 28, 4, 0, [], 0)),
  (28, (.iload_n 1, 29, 1, 0, [], 0)),
  (29, (.ireturn, 30, 0, 0, [], 0))]
def cp_Told_countSaid : List (List Nat) := [[], [], [], [], [], [], [], [], [], [137], [], [], [0, 432], [], [], [], [], [], []]
def cd_Word_init : mm_C := [(0, (.aload_n 0, 1, 0, 0, [], 0)),
  (1, (.invokespecial 1, 4, 0, 0, [], 1)),
  (4, (.aload_n 0, 5, 0, 0, [], 0)),
  (5, (.new 7, 8, 4, 3, [], 0)),
  (8, (.dup, 9, 0, 0, [], 0)),
  (9, (.invokespecial 9, 12, 36, 1, [], 0)),
  (12, (.putfield 10, 15, 6, 0, [(0, 2)], 0)),
  (15, (.aload_n 0, 16, 0, 0, [], 0)),
  (16, (.new 16, 19, 5, 12, [], 0)),
  (19, (.dup, 20, 0, 0, [], 0)),
  (20, (.invokespecial 18, 23, 49, 1, [], 0)),
  (23, (.putfield 19, 26, 6, 2, [(0, 2)], 0)),
  (26, (.aload_n 0, 27, 0, 0, [], 0)),
  (27, (.iconst 0, 28, 0, 0, [(0, 0)], 0)),
  (28, (.putfield 23, 31, 6, 3, [(0, 1)], 0)),
  (31, (.aload_n 0, 32, 0, 0, [], 0)),
  (32, (.bipush 7, 34, 0, 0, [(7, 0)], 0)),
  (34, (.newarray .int, 36, 0, 7, [], 0)),
  (36, (.putfield 27, 39, 6, 4, [(0, 2)], 0)),
  (39, (.new 16, 42, 5, 12, [], 0)),
  (42, (.dup, 43, 0, 0, [], 0)),
  (43, (.invokespecial 18, 46, 49, 1, [], 0)),
  (46, (.astore_n 1, 47, 1, 0, [], 0)),
  (47, (.aload_n 0, 48, 0, 0, [], 0)),
  (48, (.aload_n 1, 49, 1, 0, [], 0)),
  (49, (.putfield 31, 52, 6, 1, [(0, 2)], 0)),
  (52, (.aload_n 0, 53, 0, 0, [], 0)),
  (53, (.new 34, 56, 2, 1, [], 0)),
  (56, (.dup, 57, 0, 0, [], 0)),
  (57, (.aload_n 1, 58, 1, 0, [], 0)),
  (58, (.invokespecial 36, 61, 19, 2, [], 0)),
  (61, (.putfield 39, 64, 6, 5, [(0, 2)], 0)),
  (64, (.aload_n 0, 65, 0, 0, [], 0)),
  (65, (.new 43, 68, 1, 2, [], 0)),
  (68, (.dup, 69, 0, 0, [], 0)),
  (69, (.aload_n 1, 70, 1, 0, [], 0)),
  (70, (.invokespecial 45, 73, 12, 2, [], 0)),
  (73, (.putfield 46, 76, 6, 6, [(0, 2)], 0)),
  (76, (.aload_n 0, 77, 0, 0, [], 0)),
  (77, (.new 50, 80, 0, 5, [], 0)),
  (80, (.dup, 81, 0, 0, [], 0)),
  (81, (.aload_n 1, 82, 1, 0, [], 0)),
  (82, (.invokespecial 52, 85, 0, 2, [], 0)),
  (85, (.putfield 53, 88, 6, 7, [(0, 2)], 0)),
  (88, (.return_, 89, 0, 0, [], 0))]
def cp_Word_init : List (List Nat) := [[], [75, 76, 77], [], [78, 79, 59], [], [1, 80], [226], [], [95, 96, 60], [], [0, 97], [228], [], [], [229], [], [], [94], [230], [95, 96, 60], [], [0, 97], [], [], [], [227], [], [181, 182, 63], [], [], [0, 183], [231], [], [191, 192, 64], [], [], [0, 193], [232], [], [204, 205, 65], [], [], [0, 206], [233], []]
def cd_Word_feed : mm_C := [(0, (.iload_n 1, 1, 1, 0, [], 0)),
  (1, (.iconst 1, 2, 0, 0, [(1, 0)], 0)),
  (2, (.if_icmp .ge 10, 5, 12, 0, [], 0)),
  (5, (.aload_n 0, 6, 0, 0, [], 0)),
  (6, (.bipush (-4), 8, 0, 0, [((-4), 0)], 0)),
  (8, (.invokevirtual 57, 11, 72, 2, [], 0)),
  (11, (.ireturn, 12, 0, 0, [], 0)),
  (12, (.iload_n 1, 13, 1, 0, [], 0)),
  (13, (.bipush 8, 15, 0, 0, [(8, 0)], 0)),
  (15, (.if_icmp .gt 14, 18, 29, 0, [], 0)),
  (18, (.iload_n 1, 19, 1, 0, [], 0)),
  (19, (.aload_n 0, 20, 0, 0, [], 0)),
  (20, (.getfield 10, 23, 6, 0, [], 0)),
  (23, (.invokevirtual 61, 26, 37, 1, [], 0)),
  (26, (.if_icmp .le 10, 29, 36, 0, [], 0)),
  (29, (.aload_n 0, 30, 0, 0, [], 0)),
  (30, (.bipush (-6), 32, 0, 0, [((-6), 0)], 0)),
  (32, (.invokevirtual 57, 35, 72, 2, [], 0)),
  (35, (.ireturn, 36, 0, 0, [], 0)),
  (36, (.aload_n 0, 37, 0, 0, [], 0)),
  (37, (.getfield 10, 40, 6, 0, [], 0)),
  (40, (.iload_n 1, 41, 1, 0, [], 0)),
  (41, (.lload_n 2, 42, 2, 0, [], 0)),
  (42, (.invokevirtual 65, 45, 38, 3, [], 0)),
  (45, (.ireturn, 46, 0, 0, [], 0))]
def cp_Word_feed : List (List Nat) := [[], [], [], [], [], [255, 0], [], [], [], [], [], [], [226], [259, 261], [], [], [], [255, 0], [], [], [226], [], [], [263, 265], []]
def cd_Word_refuse : mm_C := [(0, (.iload_n 1, 1, 1, 0, [], 0)),
  (1, (.ineg, 2, 0, 0, [], 0)),
  (2, (.istore_n 2, 3, 2, 0, [], 0)),
  (3, (.iload_n 2, 4, 2, 0, [], 0)),
  (4, (.ifCond .le 22, 7, 26, 0, [], 0)),
  (7, (.iload_n 2, 8, 2, 0, [], 0)),
  (8, (.aload_n 0, 9, 0, 0, [], 0)),
  (9, (.getfield 27, 12, 6, 4, [], 0)),
  (12, (.arraylength, 13, 0, 0, [], 0)),
  (13, (.if_icmp .ge 13, 16, 26, 0, [], 0)),
  (16, (.aload_n 0, 17, 0, 0, [], 0)),
  (17, (.getfield 27, 20, 6, 4, [], 0)),
  (20, (.iload_n 2, 21, 2, 0, [], 0)),
  (21, (.dup2, 22, 0, 0, [], 0)),
  (22, (.iaload, 23, 0, 0, [], 0)),
  (23, (.iconst 1, 24, 0, 0, [(1, 0)], 0)),
  (24, (.iadd, 25, 0, 0, [], 0)),
  (25, (.iastore, 26, 0, 0, [], 0)),
  (26, (.iload_n 1, 27, 1, 0, [], 0)),
  (27, (.ireturn, 28, 0, 0, [], 0))]
def cp_Word_refuse : List (List Nat) := [[], [], [], [], [], [], [], [230], [], [], [], [230], [], [], [], [], [], [], [], []]
def cd_Word_scene : mm_C := [(0, (.aload_n 0, 1, 0, 0, [], 0)),
  (1, (.getfield 31, 4, 6, 1, [], 0)),
  (4, (.getfield 69, 7, 5, 2, [], 0)),
  (7, (.bipush 24, 9, 0, 0, [(24, 0)], 0)),
  (9, (.if_icmp .lt 10, 12, 19, 0, [], 0)),
  (12, (.aload_n 0, 13, 0, 0, [], 0)),
  (13, (.bipush (-6), 15, 0, 0, [((-6), 0)], 0)),
  (15, (.invokevirtual 57, 18, 72, 2, [], 0)),
  (18, (.ireturn, 19, 0, 0, [], 0)),
  (19, (.new 73, 22, 3, 4, [], 0)),
  (22, (.dup, 23, 0, 0, [], 0)),
  (23, (.invokespecial 75, 26, 27, 1, [], 0)),
  (26, (.astore_n 1, 27, 1, 0, [], 0)),
  (27, (.aload_n 0, 28, 0, 0, [], 0)),
  (28, (.getfield 10, 31, 6, 0, [], 0)),
  (31, (.aload_n 1, 32, 1, 0, [], 0)),
  (32, (.invokevirtual 76, 35, 39, 2, [], 0)),
  (35, (.istore_n 2, 36, 2, 0, [], 0)),
  (36, (.bipush (-20), 38, 0, 0, [((-20), 0)], 0)),
  (38, (.aload_n 0, 39, 0, 0, [], 0)),
  (39, (.getfield 10, 42, 6, 0, [], 0)),
  (42, (.invokevirtual 80, 45, 46, 1, [], 0)),
  (45, (.isub, 46, 0, 0, [], 0)),
  (46, (.istore_n 3, 47, 3, 0, [], 0)),
  (47, (.aload_n 0, 48, 0, 0, [], 0)),
  (48, (.getfield 10, 51, 6, 0, [], 0)),
  (51, (.invokevirtual 83, 54, 47, 1, [], 0)),
  (54, (.iload_n 2, 55, 2, 0, [], 0)),
  (55, (.ifCond .eq 14, 58, 69, 0, [], 0)),
  (58, (.aload_n 0, 59, 0, 0, [], 0)),
  (59, (.getfield 31, 62, 6, 1, [], 0)),
  (62, (.aload_n 1, 63, 1, 0, [], 0)),
  (63, (.invokevirtual 86, 66, 50, 2, [], 0)),
  (66, (.goto 4, 69, 70, 0, [], 0)),
  (69, (.iload_n 3, 70, 3, 0, [], 0)),
  (70, (.ireturn, 71, 0, 0, [], 0))]
def cp_Word_scene : List (List Nat) := [[], [227], [131], [], [], [], [], [255, 0], [], [271, 102, 61], [], [1, 272], [], [], [226], [], [273, 275], [], [], [], [226], [309, 311], [], [], [], [226], [313, 315], [], [], [], [227], [], [317, 319], [], [], []]
def cd_Word_kindOf : mm_C := [(0, (.iconst 0, 1, 0, 0, [(0, 0)], 0)),
  (1, (.istore_n 1, 2, 1, 0, [], 0)),
  (2, (.iconst 1, 3, 0, 0, [(1, 0)], 0)),
  (3, (.istore_n 2, 4, 2, 0, [], 0)),
  (4, (.iload_n 2, 5, 2, 0, [], 0)),
  (5, (.getstatic 240, 8, 1, 0, [], 0)),
  (8, (.arraylength, 9, 0, 0, [], 0)),
  (9, (.if_icmp .ge 20, 12, 29, 0, [], 0)),
  (12, (.iload_n 0, 13, 0, 0, [], 0)),
  (13, (.getstatic 240, 16, 1, 0, [], 0)),
  (16, (.iload_n 2, 17, 2, 0, [], 0)),
  (17, (.iaload, 18, 0, 0, [], 0)),
  (18, (.if_icmp .lt 5, 21, 23, 0, [], 0)),
  (21, (.iload_n 2, 22, 2, 0, [], 0)),
  (22, (.istore_n 1, 23, 1, 0, [], 0)),
  (23, (.iinc 2 1, 26, 2, 0, [(1, 0)], 0)),
  (26, (.goto (-22), 29, 4, 0, [], 0)),
  (29, (.iload_n 1, 30, 1, 0, [], 0)),
  (30, (.ireturn, 31, 0, 0, [], 0))]
def cp_Word_kindOf : List (List Nat) := [[], [], [], [], [], [0, 328], [], [], [], [0, 328], [], [], [], [], [], [], [], [], []]
def cd_Word_takeBack : mm_C := [(0, (.aload_n 0, 1, 0, 0, [], 0)),
  (1, (.getfield 31, 4, 6, 1, [], 0)),
  (4, (.getfield 69, 7, 5, 2, [], 0)),
  (7, (.ifCond .ne 10, 10, 17, 0, [], 0)),
  (10, (.aload_n 0, 11, 0, 0, [], 0)),
  (11, (.bipush (-3), 13, 0, 0, [((-3), 0)], 0)),
  (13, (.invokevirtual 57, 16, 72, 2, [], 0)),
  (16, (.ireturn, 17, 0, 0, [], 0)),
  (17, (.aload_n 0, 18, 0, 0, [], 0)),
  (18, (.getfield 31, 21, 6, 1, [], 0)),
  (21, (.invokevirtual 90, 24, 51, 1, [], 0)),
  (24, (.ireturn, 25, 0, 0, [], 0))]
def cp_Word_takeBack : List (List Nat) := [[], [227], [131], [], [], [], [255, 0], [], [], [227], [357, 359], []]
def cd_Word_thing : mm_C := [(0, (.aload_n 0, 1, 0, 0, [], 0)),
  (1, (.iload_n 1, 2, 1, 0, [], 0)),
  (2, (.invokevirtual 93, 5, 77, 2, [], 0)),
  (5, (.ifCond .eq 9, 8, 14, 0, [], 0)),
  (8, (.aload_n 0, 9, 0, 0, [], 0)),
  (9, (.iconst (-1), 10, 0, 0, [((-1), 0)], 0)),
  (10, (.invokevirtual 57, 13, 72, 2, [], 0)),
  (13, (.ireturn, 14, 0, 0, [], 0)),
  (14, (.aload_n 0, 15, 0, 0, [], 0)),
  (15, (.getfield 31, 18, 6, 1, [], 0)),
  (18, (.getfield 97, 21, 5, 1, [], 0)),
  (21, (.iload_n 1, 22, 1, 0, [], 0)),
  (22, (.aaload, 23, 0, 0, [], 0)),
  (23, (.iload_n 2, 24, 2, 0, [], 0)),
  (24, (.invokevirtual 101, 27, 32, 2, [], 0)),
  (27, (.ireturn, 28, 0, 0, [], 0))]
def cp_Word_thing : List (List Nat) := [[], [], [369, 10], [], [], [], [255, 0], [], [], [227], [129], [], [], [], [373, 337], []]
def cd_Word_noScene : mm_C := [(0, (.iload_n 1, 1, 1, 0, [], 0)),
  (1, (.ifCond .lt 14, 4, 15, 0, [], 0)),
  (4, (.iload_n 1, 5, 1, 0, [], 0)),
  (5, (.aload_n 0, 6, 0, 0, [], 0)),
  (6, (.getfield 31, 9, 6, 1, [], 0)),
  (9, (.getfield 69, 12, 5, 2, [], 0)),
  (12, (.if_icmp .lt 7, 15, 19, 0, [], 0)),
  (15, (.iconst 1, 16, 0, 0, [(1, 0)], 0)),
  (16, (.goto 4, 19, 20, 0, [], 0)),
  (19, (.iconst 0, 20, 0, 0, [(0, 0)], 0)),
  (20, (.ireturn, 21, 1, 0, [], 0))]
def cp_Word_noScene : List (List Nat) := [[], [], [], [], [227], [131], [], [], [], [], []]
def cd_Word_doing : mm_C := [(0, (.aload_n 0, 1, 0, 0, [], 0)),
  (1, (.iload_n 1, 2, 1, 0, [], 0)),
  (2, (.invokevirtual 93, 5, 77, 2, [], 0)),
  (5, (.ifCond .eq 9, 8, 14, 0, [], 0)),
  (8, (.aload_n 0, 9, 0, 0, [], 0)),
  (9, (.iconst (-1), 10, 0, 0, [((-1), 0)], 0)),
  (10, (.invokevirtual 57, 13, 72, 2, [], 0)),
  (13, (.ireturn, 14, 0, 0, [], 0)),
  (14, (.aload_n 0, 15, 0, 0, [], 0)),
  (15, (.getfield 31, 18, 6, 1, [], 0)),
  (18, (.getfield 97, 21, 5, 1, [], 0)),
  (21, (.iload_n 1, 22, 1, 0, [], 0)),
  (22, (.aaload, 23, 0, 0, [], 0)),
  (23, (.iload_n 2, 24, 2, 0, [], 0)),
  (24, (.invokevirtual 104, 27, 35, 2, [], 0)),
  (27, (.ireturn, 28, 0, 0, [], 0))]
def cp_Word_doing : List (List Nat) := [[], [], [369, 10], [], [], [], [255, 0], [], [], [227], [129], [], [], [], [378, 351], []]
def cd_Word_say : mm_C := [(0, (.aload_n 0, 1, 0, 0, [], 0)),
  (1, (.iload_n 1, 2, 1, 0, [], 0)),
  (2, (.invokevirtual 93, 5, 77, 2, [], 0)),
  (5, (.ifCond .ne 10, 8, 15, 0, [], 0)),
  (8, (.iload_n 2, 9, 2, 0, [], 0)),
  (9, (.invokestatic 107, 12, 80, 1, [], 0)),
  (12, (.ifCond .eq 9, 15, 21, 0, [], 0)),
  (15, (.aload_n 0, 16, 0, 0, [], 0)),
  (16, (.iconst (-1), 17, 0, 0, [((-1), 0)], 0)),
  (17, (.invokevirtual 57, 20, 72, 2, [], 0)),
  (20, (.ireturn, 21, 0, 0, [], 0)),
  (21, (.aload_n 0, 22, 0, 0, [], 0)),
  (22, (.getfield 31, 25, 6, 1, [], 0)),
  (25, (.iload_n 1, 26, 1, 0, [], 0)),
  (26, (.iload_n 2, 27, 2, 0, [], 0)),
  (27, (.iload_n 3, 28, 3, 0, [], 0)),
  (28, (.invokevirtual 110, 31, 53, 4, [], 0)),
  (31, (.ifCond .eq 7, 34, 38, 0, [], 0)),
  (34, (.iconst 1, 35, 0, 0, [(1, 0)], 0)),
  (35, (.goto 4, 38, 39, 0, [], 0)),
  (38, (.iconst 0, 39, 0, 0, [(0, 0)], 0)),
  (39, (.ireturn, 40, 0, 0, [], 0))]
def cp_Word_say : List (List Nat) := [[], [], [369, 10], [], [], [0, 383], [], [], [], [255, 0], [], [], [227], [], [], [], [386, 388], [], [], [], [], []]
def cd_Word_noWord : mm_C := [(0, (.iload_n 0, 1, 0, 0, [], 0)),
  (1, (.ifCond .lt 9, 4, 10, 0, [], 0)),
  (4, (.iload_n 0, 5, 0, 0, [], 0)),
  (5, (.bipush 6, 7, 0, 0, [(6, 0)], 0)),
  (7, (.if_icmp .lt 7, 10, 14, 0, [], 0)),
  (10, (.iconst 1, 11, 0, 0, [(1, 0)], 0)),
  (11, (.goto 4, 14, 15, 0, [], 0)),
  (14, (.iconst 0, 15, 0, 0, [(0, 0)], 0)),
  (15, (.ireturn, 16, 1, 0, [], 0))]
def cp_Word_noWord : List (List Nat) := [[], [], [], [], [], [], [], [], []]
def cd_Word_isIn : mm_C := [(0, (.iload_n 0, 1, 0, 0, [], 0)),
  (1, (.iload_n 1, 2, 1, 0, [], 0)),
  (2, (.iushr, 3, 0, 0, [], 0)),
  (3, (.iconst 1, 4, 0, 0, [(1, 0)], 0)),
  (4, (.iand, 5, 0, 0, [], 0)),
  (5, (.ifCond .eq 7, 8, 12, 0, [], 0)),
  (8, (.iconst 1, 9, 0, 0, [(1, 0)], 0)),
  (9, (.goto 4, 12, 13, 0, [], 0)),
  (12, (.iconst 0, 13, 0, 0, [(0, 0)], 0)),
  (13, (.ireturn, 14, 1, 0, [], 0))]
def cp_Word_isIn : List (List Nat) := [[], [], [], [], [], [], [], [], [], []]
def cd_Word_said : mm_C := [(0, (.iload_n 1, 1, 1, 0, [], 0)),
  (1, (.invokestatic 107, 4, 80, 1, [], 0)),
  (4, (.ifCond .eq 9, 7, 13, 0, [], 0)),
  (7, (.aload_n 0, 8, 0, 0, [], 0)),
  (8, (.iconst (-1), 9, 0, 0, [((-1), 0)], 0)),
  (9, (.invokevirtual 57, 12, 72, 2, [], 0)),
  (12, (.ireturn, 13, 0, 0, [], 0)),
  (13, (.aload_n 0, 14, 0, 0, [], 0)),
  (14, (.getfield 31, 17, 6, 1, [], 0)),
  (17, (.getfield 114, 20, 5, 4, [], 0)),
  (20, (.iload_n 1, 21, 1, 0, [], 0)),
  (21, (.iaload, 22, 0, 0, [], 0)),
  (22, (.invokestatic 117, 25, 183, 1, [], 0)),
  (25, (.ireturn, 26, 0, 0, [], 0))]
def cp_Word_said : List (List Nat) := [[], [0, 383], [], [], [], [255, 0], [], [], [227], [140], [], [], [0, 397], []]
def cd_Word_kind : mm_C := [(0, (.iload_n 1, 1, 1, 0, [], 0)),
  (1, (.invokestatic 122, 4, 84, 1, [], 0)),
  (4, (.ifCond .eq 9, 7, 13, 0, [], 0)),
  (7, (.aload_n 0, 8, 0, 0, [], 0)),
  (8, (.iconst (-1), 9, 0, 0, [((-1), 0)], 0)),
  (9, (.invokevirtual 57, 12, 72, 2, [], 0)),
  (12, (.ireturn, 13, 0, 0, [], 0)),
  (13, (.iload_n 1, 14, 1, 0, [], 0)),
  (14, (.invokestatic 125, 17, 74, 1, [], 0)),
  (17, (.ireturn, 18, 0, 0, [], 0))]
def cp_Word_kind : List (List Nat) := [[], [0, 407], [], [], [], [255, 0], [], [], [0, 410], []]
def cd_Word_noMeaning : mm_C := [(0, (.iload_n 0, 1, 0, 0, [], 0)),
  (1, (.ifCond .lt 9, 4, 10, 0, [], 0)),
  (4, (.iload_n 0, 5, 0, 0, [], 0)),
  (5, (.bipush 90, 7, 0, 0, [(90, 0)], 0)),
  (7, (.if_icmp .lt 7, 10, 14, 0, [], 0)),
  (10, (.iconst 1, 11, 0, 0, [(1, 0)], 0)),
  (11, (.goto 4, 14, 15, 0, [], 0)),
  (14, (.iconst 0, 15, 0, 0, [(0, 0)], 0)),
  (15, (.ireturn, 16, 1, 0, [], 0))]
def cp_Word_noMeaning : List (List Nat) := [[], [], [], [], [], [], [], [], []]
def cd_Word_weight : mm_C := [(0, (.iload_n 1, 1, 1, 0, [], 0)),
  (1, (.ifCond .lt 9, 4, 10, 0, [], 0)),
  (4, (.iload_n 1, 5, 1, 0, [], 0)),
  (5, (.bipush 8, 7, 0, 0, [(8, 0)], 0)),
  (7, (.if_icmp .lt 9, 10, 16, 0, [], 0)),
  (10, (.aload_n 0, 11, 0, 0, [], 0)),
  (11, (.iconst (-1), 12, 0, 0, [((-1), 0)], 0)),
  (12, (.invokevirtual 57, 15, 72, 2, [], 0)),
  (15, (.ireturn, 16, 0, 0, [], 0)),
  (16, (.iload_n 2, 17, 2, 0, [], 0)),
  (17, (.iconst 1, 18, 0, 0, [(1, 0)], 0)),
  (18, (.if_icmp .ge 10, 21, 28, 0, [], 0)),
  (21, (.aload_n 0, 22, 0, 0, [], 0)),
  (22, (.bipush (-4), 24, 0, 0, [((-4), 0)], 0)),
  (24, (.invokevirtual 57, 27, 72, 2, [], 0)),
  (27, (.ireturn, 28, 0, 0, [], 0)),
  (28, (.iload_n 2, 29, 2, 0, [], 0)),
  (29, (.bipush 99, 31, 0, 0, [(99, 0)], 0)),
  (31, (.if_icmp .le 10, 34, 41, 0, [], 0)),
  (34, (.aload_n 0, 35, 0, 0, [], 0)),
  (35, (.bipush (-6), 37, 0, 0, [((-6), 0)], 0)),
  (37, (.invokevirtual 57, 40, 72, 2, [], 0)),
  (40, (.ireturn, 41, 0, 0, [], 0)),
  (41, (.aload_n 0, 42, 0, 0, [], 0)),
  (42, (.getfield 31, 45, 6, 1, [], 0)),
  (45, (.getfield 128, 48, 5, 5, [], 0)),
  (48, (.iload_n 1, 49, 1, 0, [], 0)),
  (49, (.iaload, 50, 0, 0, [], 0)),
  (50, (.istore_n 3, 51, 3, 0, [], 0)),
  (51, (.aload_n 0, 52, 0, 0, [], 0)),
  (52, (.getfield 31, 55, 6, 1, [], 0)),
  (55, (.getfield 128, 58, 5, 5, [], 0)),
  (58, (.iload_n 1, 59, 1, 0, [], 0)),
  (59, (.iload_n 2, 60, 2, 0, [], 0)),
  (60, (.iastore, 61, 0, 0, [], 0)),
  (61, (.iload_n 3, 62, 3, 0, [], 0)),
  (62, (.ireturn, 63, 0, 0, [], 0))]
def cp_Word_weight : List (List Nat) := [[], [], [], [], [], [], [], [255, 0], [], [], [], [], [], [], [255, 0], [], [], [], [], [], [], [255, 0], [], [], [227], [143], [], [], [], [], [227], [143], [], [], [], [], []]
def cd_Word_has : mm_C := [(0, (.aload_n 0, 1, 0, 0, [], 0)),
  (1, (.iload_n 1, 2, 1, 0, [], 0)),
  (2, (.invokevirtual 93, 5, 77, 2, [], 0)),
  (5, (.ifCond .ne 10, 8, 15, 0, [], 0)),
  (8, (.iload_n 2, 9, 2, 0, [], 0)),
  (9, (.invokestatic 122, 12, 84, 1, [], 0)),
  (12, (.ifCond .eq 9, 15, 21, 0, [], 0)),
  (15, (.aload_n 0, 16, 0, 0, [], 0)),
  (16, (.iconst (-1), 17, 0, 0, [((-1), 0)], 0)),
  (17, (.invokevirtual 57, 20, 72, 2, [], 0)),
  (20, (.ireturn, 21, 0, 0, [], 0)),
  (21, (.aload_n 0, 22, 0, 0, [], 0)),
  (22, (.getfield 31, 25, 6, 1, [], 0)),
  (25, (.getfield 131, 28, 5, 3, [], 0)),
  (28, (.iload_n 2, 29, 2, 0, [], 0)),
  (29, (.iaload, 30, 0, 0, [], 0)),
  (30, (.iload_n 1, 31, 1, 0, [], 0)),
  (31, (.invokestatic 134, 34, 81, 2, [], 0)),
  (34, (.ifCond .eq 7, 37, 41, 0, [], 0)),
  (37, (.iconst 1, 38, 0, 0, [(1, 0)], 0)),
  (38, (.goto 4, 41, 42, 0, [], 0)),
  (41, (.iconst 0, 42, 0, 0, [(0, 0)], 0)),
  (42, (.ireturn, 43, 0, 0, [], 0))]
def cp_Word_has : List (List Nat) := [[], [], [369, 10], [], [], [0, 407], [], [], [], [255, 0], [], [], [227], [136], [], [], [], [0, 419], [], [], [], [], []]
def cd_Word_left : mm_C := [(0, (.iload_n 1, 1, 1, 0, [], 0)),
  (1, (.invokestatic 107, 4, 80, 1, [], 0)),
  (4, (.ifCond .eq 9, 7, 13, 0, [], 0)),
  (7, (.aload_n 0, 8, 0, 0, [], 0)),
  (8, (.iconst (-1), 9, 0, 0, [((-1), 0)], 0)),
  (9, (.invokevirtual 57, 12, 72, 2, [], 0)),
  (12, (.ireturn, 13, 0, 0, [], 0)),
  (13, (.iload_n 2, 14, 2, 0, [], 0)),
  (14, (.ifCond .lt 8, 17, 22, 0, [], 0)),
  (17, (.iload_n 3, 18, 3, 0, [], 0)),
  (18, (.iconst (-1), 19, 0, 0, [((-1), 0)], 0)),
  (19, (.if_icmp .ge 10, 22, 29, 0, [], 0)),
  (22, (.aload_n 0, 23, 0, 0, [], 0)),
  (23, (.bipush (-4), 25, 0, 0, [((-4), 0)], 0)),
  (25, (.invokevirtual 57, 28, 72, 2, [], 0)),
  (28, (.ireturn, 29, 0, 0, [], 0)),
  (29, (.iload_n 2, 30, 2, 0, [], 0)),
  (30, (.iconst 3, 31, 0, 0, [(3, 0)], 0)),
  (31, (.if_icmp .le 10, 34, 41, 0, [], 0)),
  (34, (.aload_n 0, 35, 0, 0, [], 0)),
  (35, (.bipush (-6), 37, 0, 0, [((-6), 0)], 0)),
  (37, (.invokevirtual 57, 40, 72, 2, [], 0)),
  (40, (.ireturn, 41, 0, 0, [], 0)),
  (41, (.iload_n 3, 42, 3, 0, [], 0)),
  (42, (.ifCond .ge 15, 45, 57, 0, [], 0)),
  (45, (.aload_n 0, 46, 0, 0, [], 0)),
  (46, (.getfield 31, 49, 6, 1, [], 0)),
  (49, (.iload_n 1, 50, 1, 0, [], 0)),
  (50, (.iload_n 2, 51, 2, 0, [], 0)),
  (51, (.invokevirtual 138, 54, 54, 3, [], 0)),
  (54, (.goto 13, 57, 67, 0, [], 0)),
  (57, (.aload_n 0, 58, 0, 0, [], 0)),
  (58, (.getfield 31, 61, 6, 1, [], 0)),
  (61, (.iload_n 1, 62, 1, 0, [], 0)),
  (62, (.iload_n 2, 63, 2, 0, [], 0)),
  (63, (.iload_n 3, 64, 3, 0, [], 0)),
  (64, (.invokevirtual 142, 67, 56, 4, [], 0)),
  (67, (.ireturn, 68, 0, 0, [], 0))]
def cp_Word_left : List (List Nat) := [[], [0, 383], [], [], [], [255, 0], [], [], [], [], [], [], [], [], [255, 0], [], [], [], [], [], [], [255, 0], [], [], [], [], [227], [], [], [424, 426], [], [], [227], [], [], [], [433, 435], []]
def cd_Word_plainest : mm_C := [(0, (.iload_n 1, 1, 1, 0, [], 0)),
  (1, (.invokestatic 107, 4, 80, 1, [], 0)),
  (4, (.ifCond .eq 9, 7, 13, 0, [], 0)),
  (7, (.aload_n 0, 8, 0, 0, [], 0)),
  (8, (.iconst (-1), 9, 0, 0, [((-1), 0)], 0)),
  (9, (.invokevirtual 57, 12, 72, 2, [], 0)),
  (12, (.ireturn, 13, 0, 0, [], 0)),
  (13, (.iload_n 2, 14, 2, 0, [], 0)),
  (14, (.ifCond .ge 10, 17, 24, 0, [], 0)),
  (17, (.aload_n 0, 18, 0, 0, [], 0)),
  (18, (.bipush (-4), 20, 0, 0, [((-4), 0)], 0)),
  (20, (.invokevirtual 57, 23, 72, 2, [], 0)),
  (23, (.ireturn, 24, 0, 0, [], 0)),
  (24, (.iload_n 2, 25, 2, 0, [], 0)),
  (25, (.iconst 3, 26, 0, 0, [(3, 0)], 0)),
  (26, (.if_icmp .le 10, 29, 36, 0, [], 0)),
  (29, (.aload_n 0, 30, 0, 0, [], 0)),
  (30, (.bipush (-6), 32, 0, 0, [((-6), 0)], 0)),
  (32, (.invokevirtual 57, 35, 72, 2, [], 0)),
  (35, (.ireturn, 36, 0, 0, [], 0)),
  (36, (.aload_n 0, 37, 0, 0, [], 0)),
  (37, (.getfield 31, 40, 6, 1, [], 0)),
  (40, (.iload_n 1, 41, 1, 0, [], 0)),
  (41, (.iload_n 2, 42, 2, 0, [], 0)),
  (42, (.invokevirtual 146, 45, 57, 3, [], 0)),
  (45, (.ireturn, 46, 0, 0, [], 0))]
def cp_Word_plainest : List (List Nat) := [[], [0, 383], [], [], [], [255, 0], [], [], [], [], [], [255, 0], [], [], [], [], [], [], [255, 0], [], [], [227], [], [], [441, 443], []]
def cd_Word_judge : mm_C := [(0, (.iload_n 1, 1, 1, 0, [], 0)),
  (1, (.invokestatic 107, 4, 80, 1, [], 0)),
  (4, (.ifCond .ne 10, 7, 14, 0, [], 0)),
  (7, (.iload_n 2, 8, 2, 0, [], 0)),
  (8, (.invokestatic 122, 11, 84, 1, [], 0)),
  (11, (.ifCond .eq 9, 14, 20, 0, [], 0)),
  (14, (.aload_n 0, 15, 0, 0, [], 0)),
  (15, (.iconst (-1), 16, 0, 0, [((-1), 0)], 0)),
  (16, (.invokevirtual 57, 19, 72, 2, [], 0)),
  (19, (.ireturn, 20, 0, 0, [], 0)),
  (20, (.aload_n 0, 21, 0, 0, [], 0)),
  (21, (.getfield 31, 24, 6, 1, [], 0)),
  (24, (.getfield 114, 27, 5, 4, [], 0)),
  (27, (.iload_n 1, 28, 1, 0, [], 0)),
  (28, (.iaload, 29, 0, 0, [], 0)),
  (29, (.aload_n 0, 30, 0, 0, [], 0)),
  (30, (.getfield 31, 33, 6, 1, [], 0)),
  (33, (.getfield 131, 36, 5, 3, [], 0)),
  (36, (.iload_n 2, 37, 2, 0, [], 0)),
  (37, (.iaload, 38, 0, 0, [], 0)),
  (38, (.iconst (-1), 39, 0, 0, [((-1), 0)], 0)),
  (39, (.ixor, 40, 0, 0, [], 0)),
  (40, (.iand, 41, 0, 0, [], 0)),
  (41, (.invokestatic 149, 44, 90, 1, [], 0)),
  (44, (.ireturn, 45, 0, 0, [], 0))]
def cp_Word_judge : List (List Nat) := [[], [0, 383], [], [], [0, 407], [], [], [], [255, 0], [], [], [227], [140], [], [], [], [227], [136], [], [], [], [], [], [0, 450], []]
def cd_Word_firstIn : mm_C := [(0, (.iconst 0, 1, 0, 0, [(0, 0)], 0)),
  (1, (.istore_n 1, 2, 1, 0, [], 0)),
  (2, (.iload_n 1, 3, 1, 0, [], 0)),
  (3, (.bipush 24, 5, 0, 0, [(24, 0)], 0)),
  (5, (.if_icmp .ge 19, 8, 24, 0, [], 0)),
  (8, (.iload_n 0, 9, 0, 0, [], 0)),
  (9, (.iload_n 1, 10, 1, 0, [], 0)),
  (10, (.invokestatic 134, 13, 81, 2, [], 0)),
  (13, (.ifCond .eq 5, 16, 18, 0, [], 0)),
  (16, (.iload_n 1, 17, 1, 0, [], 0)),
  (17, (.ireturn, 18, 0, 0, [], 0)),
  (18, (.iinc 1 1, 21, 1, 0, [(1, 0)], 0)),
  (21, (.goto (-19), 24, 2, 0, [], 0)),
  (24, (.bipush (-9), 26, 0, 0, [((-9), 0)], 0)),
  (26, (.ireturn, 27, 0, 0, [], 0))]
def cp_Word_firstIn : List (List Nat) := [[], [], [], [], [], [], [], [0, 419], [], [], [], [], [], [], []]
def cd_Word_set : mm_C := [(0, (.iload_n 1, 1, 1, 0, [], 0)),
  (1, (.ifCond .eq 15, 4, 16, 0, [], 0)),
  (4, (.iload_n 1, 5, 1, 0, [], 0)),
  (5, (.iconst 1, 6, 0, 0, [(1, 0)], 0)),
  (6, (.if_icmp .eq 10, 9, 16, 0, [], 0)),
  (9, (.aload_n 0, 10, 0, 0, [], 0)),
  (10, (.bipush (-2), 12, 0, 0, [((-2), 0)], 0)),
  (12, (.invokevirtual 57, 15, 72, 2, [], 0)),
  (15, (.ireturn, 16, 0, 0, [], 0)),
  (16, (.iload_n 2, 17, 2, 0, [], 0)),
  (17, (.iload_n 1, 18, 1, 0, [], 0)),
  (18, (.ifCond .ne 7, 21, 25, 0, [], 0)),
  (21, (.iconst 1, 22, 0, 0, [(1, 0)], 0)),
  (22, (.goto 4, 25, 26, 0, [], 0)),
  (25, (.iconst 0, 26, 0, 0, [(0, 0)], 0)),
  (26, (.if_icmp .ge 10, 29, 36, 0, [], 0)),
  (29, (.aload_n 0, 30, 0, 0, [], 0)),
  (30, (.bipush (-4), 32, 0, 0, [((-4), 0)], 0)),
  (32, (.invokevirtual 57, 35, 72, 2, [], 0)),
  (35, (.ireturn, 36, 0, 0, [], 0)),
  (36, (.iload_n 2, 37, 2, 0, [], 0)),
  (37, (.bipush 100, 39, 0, 0, [(100, 0)], 0)),
  (39, (.if_icmp .le 10, 42, 49, 0, [], 0)),
  (42, (.aload_n 0, 43, 0, 0, [], 0)),
  (43, (.bipush (-6), 45, 0, 0, [((-6), 0)], 0)),
  (45, (.invokevirtual 57, 48, 72, 2, [], 0)),
  (48, (.ireturn, 49, 0, 0, [], 0)),
  (49, (.iload_n 1, 50, 1, 0, [], 0)),
  (50, (.ifCond .ne 13, 53, 63, 0, [], 0)),
  (53, (.aload_n 0, 54, 0, 0, [], 0)),
  (54, (.getfield 31, 57, 6, 1, [], 0)),
  (57, (.getfield 152, 60, 5, 6, [], 0)),
  (60, (.goto 10, 63, 70, 0, [], 0)),
  (63, (.aload_n 0, 64, 0, 0, [], 0)),
  (64, (.getfield 31, 67, 6, 1, [], 0)),
  (67, (.getfield 155, 70, 5, 7, [], 0)),
  (70, (.istore_n 3, 71, 3, 0, [], 0)),
  (71, (.iload_n 1, 72, 1, 0, [], 0)),
  (72, (.ifCond .ne 14, 75, 86, 0, [], 0)),
  (75, (.aload_n 0, 76, 0, 0, [], 0)),
  (76, (.getfield 31, 79, 6, 1, [], 0)),
  (79, (.iload_n 2, 80, 2, 0, [], 0)),
  (80, (.putfield 152, 83, 5, 6, [(0, 0)], 0)),
  (83, (.goto 11, 86, 94, 0, [], 0)),
  (86, (.aload_n 0, 87, 0, 0, [], 0)),
  (87, (.getfield 31, 90, 6, 1, [], 0)),
  (90, (.iload_n 2, 91, 2, 0, [], 0)),
  (91, (.putfield 155, 94, 5, 7, [(0, 0)], 0)),
  (94, (.iload_n 3, 95, 3, 0, [], 0)),
  (95, (.ireturn, 96, 0, 0, [], 0))]
def cp_Word_set : List (List Nat) := [[], [], [], [], [], [], [], [255, 0], [], [], [], [], [], [], [], [], [], [], [255, 0], [], [], [], [], [], [], [255, 0], [], [], [], [], [227], [146], [], [], [227], [149], [], [], [], [], [227], [], [146], [], [], [227], [], [149], [], []]
def cd_Word_likelihood : mm_C := [(0, (.iload_n 1, 1, 1, 0, [], 0)),
  (1, (.invokestatic 107, 4, 80, 1, [], 0)),
  (4, (.ifCond .ne 10, 7, 14, 0, [], 0)),
  (7, (.iload_n 2, 8, 2, 0, [], 0)),
  (8, (.invokestatic 122, 11, 84, 1, [], 0)),
  (11, (.ifCond .eq 14, 14, 25, 0, [], 0)),
  (14, (.ldc2_w 158, 17, 0, 0, [], (-4000000000000000000))),
  (17, (.aload_n 0, 18, 0, 0, [], 0)),
  (18, (.iconst (-1), 19, 0, 0, [((-1), 0)], 0)),
  (19, (.invokevirtual 57, 22, 72, 2, [], 0)),
  (22, (.i2l, 23, 0, 0, [], 0)),
  (23, (.ladd, 24, 0, 0, [], 0)),
  (24, (.lreturn, 25, 0, 0, [], 0)),
  (25, (.aload_n 0, 26, 0, 0, [], 0)),
  (26, (.getfield 39, 29, 6, 5, [], 0)),
  (29, (.iload_n 1, 30, 1, 0, [], 0)),
  (30, (.iload_n 2, 31, 2, 0, [], 0)),
  (31, (.invokevirtual 160, 34, 20, 3, [], 0)),
  (34, (.lreturn, 35, 0, 0, [], 0))]
def cp_Word_likelihood : List (List Nat) := [[], [0, 383], [], [], [0, 407], [], [461], [], [], [255, 0], [], [], [], [], [231], [], [], [462, 464], []]
def cd_Word_chance : mm_C := [(0, (.iload_n 3, 1, 3, 0, [], 0)),
  (1, (.ifCond .eq 20, 4, 21, 0, [], 0)),
  (4, (.iload_n 3, 5, 3, 0, [], 0)),
  (5, (.iconst 1, 6, 0, 0, [(1, 0)], 0)),
  (6, (.if_icmp .eq 15, 9, 21, 0, [], 0)),
  (9, (.ldc2_w 158, 12, 0, 0, [], (-4000000000000000000))),
  (12, (.aload_n 0, 13, 0, 0, [], 0)),
  (13, (.bipush (-2), 15, 0, 0, [((-2), 0)], 0)),
  (15, (.invokevirtual 57, 18, 72, 2, [], 0)),
  (18, (.i2l, 19, 0, 0, [], 0)),
  (19, (.ladd, 20, 0, 0, [], 0)),
  (20, (.lreturn, 21, 0, 0, [], 0)),
  (21, (.iload_n 1, 22, 1, 0, [], 0)),
  (22, (.invokestatic 107, 25, 80, 1, [], 0)),
  (25, (.ifCond .ne 10, 28, 35, 0, [], 0)),
  (28, (.iload_n 2, 29, 2, 0, [], 0)),
  (29, (.invokestatic 122, 32, 84, 1, [], 0)),
  (32, (.ifCond .eq 14, 35, 46, 0, [], 0)),
  (35, (.ldc2_w 158, 38, 0, 0, [], (-4000000000000000000))),
  (38, (.aload_n 0, 39, 0, 0, [], 0)),
  (39, (.iconst (-1), 40, 0, 0, [((-1), 0)], 0)),
  (40, (.invokevirtual 57, 43, 72, 2, [], 0)),
  (43, (.i2l, 44, 0, 0, [], 0)),
  (44, (.ladd, 45, 0, 0, [], 0)),
  (45, (.lreturn, 46, 0, 0, [], 0)),
  (46, (.iload_n 3, 47, 3, 0, [], 0)),
  (47, (.ifCond .ne 15, 50, 62, 0, [], 0)),
  (50, (.aload_n 0, 51, 0, 0, [], 0)),
  (51, (.getfield 39, 54, 6, 5, [], 0)),
  (54, (.iload_n 1, 55, 1, 0, [], 0)),
  (55, (.iload_n 2, 56, 2, 0, [], 0)),
  (56, (.invokevirtual 164, 59, 22, 3, [], 0)),
  (59, (.goto 12, 62, 71, 0, [], 0)),
  (62, (.aload_n 0, 63, 0, 0, [], 0)),
  (63, (.getfield 39, 66, 6, 5, [], 0)),
  (66, (.iload_n 1, 67, 1, 0, [], 0)),
  (67, (.iload_n 2, 68, 2, 0, [], 0)),
  (68, (.invokevirtual 167, 71, 25, 3, [], 0)),
  (71, (.lreturn, 72, 0, 0, [], 0))]
def cp_Word_chance : List (List Nat) := [[], [], [], [], [], [461], [], [], [255, 0], [], [], [], [], [0, 383], [], [], [0, 407], [], [461], [], [], [255, 0], [], [], [], [], [], [], [231], [], [], [476, 478], [], [], [231], [], [], [488, 490], []]
def cd_Word_likeliest : mm_C := [(0, (.iload_n 1, 1, 1, 0, [], 0)),
  (1, (.invokestatic 107, 4, 80, 1, [], 0)),
  (4, (.ifCond .eq 9, 7, 13, 0, [], 0)),
  (7, (.aload_n 0, 8, 0, 0, [], 0)),
  (8, (.iconst (-1), 9, 0, 0, [((-1), 0)], 0)),
  (9, (.invokevirtual 57, 12, 72, 2, [], 0)),
  (12, (.ireturn, 13, 0, 0, [], 0)),
  (13, (.aload_n 0, 14, 0, 0, [], 0)),
  (14, (.getfield 39, 17, 6, 5, [], 0)),
  (17, (.iload_n 1, 18, 1, 0, [], 0)),
  (18, (.invokevirtual 170, 21, 26, 2, [], 0)),
  (21, (.ireturn, 22, 0, 0, [], 0))]
def cp_Word_likeliest : List (List Nat) := [[], [0, 383], [], [], [], [255, 0], [], [], [231], [], [496, 498], []]
def cd_Word_givings : mm_C := [(0, (.iload_n 1, 1, 1, 0, [], 0)),
  (1, (.invokestatic 173, 4, 96, 1, [], 0)),
  (4, (.ifCond .eq 9, 7, 13, 0, [], 0)),
  (7, (.aload_n 0, 8, 0, 0, [], 0)),
  (8, (.iconst (-1), 9, 0, 0, [((-1), 0)], 0)),
  (9, (.invokevirtual 57, 12, 72, 2, [], 0)),
  (12, (.ireturn, 13, 0, 0, [], 0)),
  (13, (.aload_n 0, 14, 0, 0, [], 0)),
  (14, (.getfield 46, 17, 6, 6, [], 0)),
  (17, (.iload_n 1, 18, 1, 0, [], 0)),
  (18, (.invokevirtual 176, 21, 13, 2, [], 0)),
  (21, (.ireturn, 22, 0, 0, [], 0))]
def cp_Word_givings : List (List Nat) := [[], [0, 505], [], [], [], [255, 0], [], [], [232], [], [508, 510], []]
def cd_Word_noSetToGive : mm_C := [(0, (.iload_n 0, 1, 0, 0, [], 0)),
  (1, (.ifCond .le 17, 4, 18, 0, [], 0)),
  (4, (.iload_n 0, 5, 0, 0, [], 0)),
  (5, (.bipush 64, 7, 0, 0, [(64, 0)], 0)),
  (7, (.if_icmp .ge 11, 10, 18, 0, [], 0)),
  (10, (.iload_n 0, 11, 0, 0, [], 0)),
  (11, (.invokestatic 117, 14, 183, 1, [], 0)),
  (14, (.iconst 3, 15, 0, 0, [(3, 0)], 0)),
  (15, (.if_icmp .le 7, 18, 22, 0, [], 0)),
  (18, (.iconst 1, 19, 0, 0, [(1, 0)], 0)),
  (19, (.goto 4, 22, 23, 0, [], 0)),
  (22, (.iconst 0, 23, 0, 0, [(0, 0)], 0)),
  (23, (.ireturn, 24, 1, 0, [], 0))]
def cp_Word_noSetToGive : List (List Nat) := [[], [], [], [], [], [], [0, 397], [], [], [], [], [], []]
def cd_Word_giving : mm_C := [(0, (.iload_n 1, 1, 1, 0, [], 0)),
  (1, (.invokestatic 173, 4, 96, 1, [], 0)),
  (4, (.ifCond .ne 18, 7, 22, 0, [], 0)),
  (7, (.iload_n 2, 8, 2, 0, [], 0)),
  (8, (.invokestatic 107, 11, 80, 1, [], 0)),
  (11, (.ifCond .ne 11, 14, 22, 0, [], 0)),
  (14, (.iload_n 1, 15, 1, 0, [], 0)),
  (15, (.iload_n 2, 16, 2, 0, [], 0)),
  (16, (.invokestatic 134, 19, 81, 2, [], 0)),
  (19, (.ifCond .ne 9, 22, 28, 0, [], 0)),
  (22, (.aload_n 0, 23, 0, 0, [], 0)),
  (23, (.iconst (-1), 24, 0, 0, [((-1), 0)], 0)),
  (24, (.invokevirtual 57, 27, 72, 2, [], 0)),
  (27, (.ireturn, 28, 0, 0, [], 0)),
  (28, (.aload_n 0, 29, 0, 0, [], 0)),
  (29, (.getfield 46, 32, 6, 6, [], 0)),
  (32, (.iload_n 1, 33, 1, 0, [], 0)),
  (33, (.iload_n 2, 34, 2, 0, [], 0)),
  (34, (.invokevirtual 179, 37, 17, 3, [], 0)),
  (37, (.ireturn, 38, 0, 0, [], 0))]
def cp_Word_giving : List (List Nat) := [[], [0, 505], [], [], [0, 383], [], [], [], [0, 419], [], [], [], [255, 0], [], [], [232], [], [], [533, 535], []]
def cd_Word_two : mm_C := [(0, (.iload_n 1, 1, 1, 0, [], 0)),
  (1, (.invokestatic 107, 4, 80, 1, [], 0)),
  (4, (.ifCond .eq 9, 7, 13, 0, [], 0)),
  (7, (.aload_n 0, 8, 0, 0, [], 0)),
  (8, (.iconst (-1), 9, 0, 0, [((-1), 0)], 0)),
  (9, (.invokevirtual 57, 12, 72, 2, [], 0)),
  (12, (.ireturn, 13, 0, 0, [], 0)),
  (13, (.iload_n 2, 14, 2, 0, [], 0)),
  (14, (.ifCond .eq 15, 17, 29, 0, [], 0)),
  (17, (.iload_n 2, 18, 2, 0, [], 0)),
  (18, (.iconst 1, 19, 0, 0, [(1, 0)], 0)),
  (19, (.if_icmp .eq 10, 22, 29, 0, [], 0)),
  (22, (.aload_n 0, 23, 0, 0, [], 0)),
  (23, (.bipush (-2), 25, 0, 0, [((-2), 0)], 0)),
  (25, (.invokevirtual 57, 28, 72, 2, [], 0)),
  (28, (.ireturn, 29, 0, 0, [], 0)),
  (29, (.iload_n 2, 30, 2, 0, [], 0)),
  (30, (.ifCond .ne 14, 33, 44, 0, [], 0)),
  (33, (.aload_n 0, 34, 0, 0, [], 0)),
  (34, (.getfield 31, 37, 6, 1, [], 0)),
  (37, (.iload_n 1, 38, 1, 0, [], 0)),
  (38, (.invokevirtual 182, 41, 58, 2, [], 0)),
  (41, (.goto 11, 44, 52, 0, [], 0)),
  (44, (.aload_n 0, 45, 0, 0, [], 0)),
  (45, (.getfield 31, 48, 6, 1, [], 0)),
  (48, (.iload_n 1, 49, 1, 0, [], 0)),
  (49, (.invokevirtual 185, 52, 60, 2, [], 0)),
  (52, (.ireturn, 53, 0, 0, [], 0))]
def cp_Word_two : List (List Nat) := [[], [0, 383], [], [], [], [255, 0], [], [], [], [], [], [], [], [], [255, 0], [], [], [], [], [227], [], [545, 547], [], [], [227], [], [553, 555], []]
def cd_Word_give : mm_C := [(0, (.iload_n 1, 1, 1, 0, [], 0)),
  (1, (.invokestatic 107, 4, 80, 1, [], 0)),
  (4, (.ifCond .ne 15, 7, 19, 0, [], 0)),
  (7, (.iload_n 2, 8, 2, 0, [], 0)),
  (8, (.iconst (-1), 9, 0, 0, [((-1), 0)], 0)),
  (9, (.if_icmp .eq 16, 12, 25, 0, [], 0)),
  (12, (.iload_n 2, 13, 2, 0, [], 0)),
  (13, (.invokestatic 122, 16, 84, 1, [], 0)),
  (16, (.ifCond .eq 9, 19, 25, 0, [], 0)),
  (19, (.aload_n 0, 20, 0, 0, [], 0)),
  (20, (.iconst (-1), 21, 0, 0, [((-1), 0)], 0)),
  (21, (.invokevirtual 57, 24, 72, 2, [], 0)),
  (24, (.ireturn, 25, 0, 0, [], 0)),
  (25, (.aload_n 0, 26, 0, 0, [], 0)),
  (26, (.getfield 31, 29, 6, 1, [], 0)),
  (29, (.getfield 188, 32, 5, 8, [], 0)),
  (32, (.iload_n 1, 33, 1, 0, [], 0)),
  (33, (.iaload, 34, 0, 0, [], 0)),
  (34, (.istore_n 3, 35, 3, 0, [], 0)),
  (35, (.aload_n 0, 36, 0, 0, [], 0)),
  (36, (.getfield 31, 39, 6, 1, [], 0)),
  (39, (.getfield 188, 42, 5, 8, [], 0)),
  (42, (.iload_n 1, 43, 1, 0, [], 0)),
  (43, (.iload_n 2, 44, 2, 0, [], 0)),
  (44, (.iconst (-1), 45, 0, 0, [((-1), 0)], 0)),
  (45, (.if_icmp .ne 8, 48, 53, 0, [], 0)),
  (48, (.bipush (-9), 50, 0, 0, [((-9), 0)], 0)),
  (50, (.goto 4, 53, 54, 0, [], 0)),
  (53, (.iload_n 2, 54, 2, 0, [], 0)),
  (54, (.iastore, 55, 0, 0, [], 0)),
  (55, (.iload_n 3, 56, 3, 0, [], 0)),
  (56, (.ireturn, 57, 0, 0, [], 0))]
def cp_Word_give : List (List Nat) := [[], [0, 383], [], [], [], [], [], [0, 407], [], [], [], [255, 0], [], [], [227], [151], [], [], [], [], [227], [151], [], [], [], [], [], [], [], [], [], []]
def cd_Word_saying : mm_C := [(0, (.aload_n 0, 1, 0, 0, [], 0)),
  (1, (.iload_n 1, 2, 1, 0, [], 0)),
  (2, (.invokevirtual 93, 5, 77, 2, [], 0)),
  (5, (.ifCond .ne 10, 8, 15, 0, [], 0)),
  (8, (.iload_n 2, 9, 2, 0, [], 0)),
  (9, (.invokestatic 191, 12, 101, 1, [], 0)),
  (12, (.ifCond .eq 9, 15, 21, 0, [], 0)),
  (15, (.aload_n 0, 16, 0, 0, [], 0)),
  (16, (.iconst (-1), 17, 0, 0, [((-1), 0)], 0)),
  (17, (.invokevirtual 57, 20, 72, 2, [], 0)),
  (20, (.ireturn, 21, 0, 0, [], 0)),
  (21, (.aload_n 0, 22, 0, 0, [], 0)),
  (22, (.getfield 31, 25, 6, 1, [], 0)),
  (25, (.getfield 194, 28, 5, 11, [], 0)),
  (28, (.bipush 20, 30, 0, 0, [(20, 0)], 0)),
  (30, (.if_icmp .lt 10, 33, 40, 0, [], 0)),
  (33, (.aload_n 0, 34, 0, 0, [], 0)),
  (34, (.bipush (-6), 36, 0, 0, [((-6), 0)], 0)),
  (36, (.invokevirtual 57, 39, 72, 2, [], 0)),
  (39, (.ireturn, 40, 0, 0, [], 0)),
  (40, (.aload_n 0, 41, 0, 0, [], 0)),
  (41, (.getfield 31, 44, 6, 1, [], 0)),
  (44, (.iload_n 1, 45, 1, 0, [], 0)),
  (45, (.iload_n 2, 46, 2, 0, [], 0)),
  (46, (.invokevirtual 197, 49, 61, 3, [], 0)),
  (49, (.ireturn, 50, 0, 0, [], 0))]
def cp_Word_saying : List (List Nat) := [[], [], [369, 10], [], [], [0, 565], [], [], [], [255, 0], [], [], [227], [155], [], [], [], [], [255, 0], [], [], [227], [], [], [571, 573], []]
def cd_Word_noThreeWords : mm_C := [(0, (.iload_n 0, 1, 0, 0, [], 0)),
  (1, (.ifCond .ge 5, 4, 6, 0, [], 0)),
  (4, (.iconst 1, 5, 0, 0, [(1, 0)], 0)),
  (5, (.ireturn, 6, 1, 0, [], 0)),
  (6, (.iload_n 0, 7, 0, 0, [], 0)),
  (7, (.iconst 0, 8, 0, 0, [(0, 0)], 0)),
  (8, (.invokestatic 237, 11, 102, 2, [], 0)),
  (11, (.istore_n 1, 12, 1, 0, [], 0)),
  (12, (.iload_n 0, 13, 0, 0, [], 0)),
  (13, (.iconst 1, 14, 0, 0, [(1, 0)], 0)),
  (14, (.invokestatic 237, 17, 102, 2, [], 0)),
  (17, (.istore_n 2, 18, 2, 0, [], 0)),
  (18, (.iload_n 0, 19, 0, 0, [], 0)),
  (19, (.iconst 2, 20, 0, 0, [(2, 0)], 0)),
  (20, (.invokestatic 237, 23, 102, 2, [], 0)),
  (23, (.istore_n 3, 24, 3, 0, [], 0)),
  (24, (.iload_n 1, 25, 1, 0, [], 0)),
  (25, (.invokestatic 107, 28, 80, 1, [], 0)),
  (28, (.ifCond .ne 32, 31, 60, 0, [], 0)),
  (31, (.iload_n 2, 32, 2, 0, [], 0)),
  (32, (.invokestatic 107, 35, 80, 1, [], 0)),
  (35, (.ifCond .ne 25, 38, 60, 0, [], 0)),
  (38, (.iload_n 3, 39, 3, 0, [], 0)),
  (39, (.invokestatic 107, 42, 80, 1, [], 0)),
  (42, (.ifCond .ne 18, 45, 60, 0, [], 0)),
  (45, (.iload_n 1, 46, 1, 0, [], 0)),
  (46, (.iload_n 2, 47, 2, 0, [], 0)),
  (47, (.if_icmp .eq 13, 50, 60, 0, [], 0)),
  (50, (.iload_n 1, 51, 1, 0, [], 0)),
  (51, (.iload_n 3, 52, 3, 0, [], 0)),
  (52, (.if_icmp .eq 8, 55, 60, 0, [], 0)),
  (55, (.iload_n 2, 56, 2, 0, [], 0)),
  (56, (.iload_n 3, 57, 3, 0, [], 0)),
  (57, (.if_icmp .ne 7, 60, 64, 0, [], 0)),
  (60, (.iconst 1, 61, 0, 0, [(1, 0)], 0)),
  (61, (.goto 4, 64, 65, 0, [], 0)),
  (64, (.iconst 0, 65, 0, 0, [(0, 0)], 0)),
  (65, (.ireturn, 66, 1, 0, [], 0))]
def cp_Word_noThreeWords : List (List Nat) := [[], [], [], [], [], [], [0, 568], [], [], [], [0, 568], [], [], [], [0, 568], [], [], [0, 383], [], [], [0, 383], [], [], [0, 383], [], [], [], [], [], [], [], [], [], [], [], [], [], []]
def cd_Word_wordAt : mm_C := [(0, (.iload_n 1, 1, 1, 0, [], 0)),
  (1, (.lookupswitch 40 #[(0, 27), (1, 32)], 28, 41, 0, [(0, 28), (1, 33)], 0)),
  (28, (.iload_n 0, 29, 0, 0, [], 0)),
  (29, (.bipush 100, 31, 0, 0, [(100, 0)], 0)),
  (31, (.idiv, 32, 0, 0, [], 0)),
  (32, (.ireturn, 33, 0, 0, [], 0)),
  (33, (.iload_n 0, 34, 0, 0, [], 0)),
  (34, (.bipush 10, 36, 0, 0, [(10, 0)], 0)),
  (36, (.idiv, 37, 0, 0, [], 0)),
  (37, (.bipush 10, 39, 0, 0, [(10, 0)], 0)),
  (39, (.irem, 40, 0, 0, [], 0)),
  (40, (.ireturn, 41, 0, 0, [], 0)),
  (41, (.iload_n 0, 42, 0, 0, [], 0)),
  (42, (.bipush 10, 44, 0, 0, [(10, 0)], 0)),
  (44, (.irem, 45, 0, 0, [], 0)),
  (45, (.ireturn, 46, 0, 0, [], 0))]
def cp_Word_wordAt : List (List Nat) := [[], [], [], [], [], [], [], [], [], [], [], [], [], [], [], []]
def cd_Word_orders : mm_C := [(0, (.aload_n 0, 1, 0, 0, [], 0)),
  (1, (.getfield 31, 4, 6, 1, [], 0)),
  (4, (.invokevirtual 200, 7, 62, 1, [], 0)),
  (7, (.ireturn, 8, 0, 0, [], 0))]
def cp_Word_orders : List (List Nat) := [[], [227], [579, 581], []]
def cd_Word_next : mm_C := [(0, (.iload_n 1, 1, 1, 0, [], 0)),
  (1, (.invokestatic 107, 4, 80, 1, [], 0)),
  (4, (.ifCond .eq 9, 7, 13, 0, [], 0)),
  (7, (.aload_n 0, 8, 0, 0, [], 0)),
  (8, (.iconst (-1), 9, 0, 0, [((-1), 0)], 0)),
  (9, (.invokevirtual 57, 12, 72, 2, [], 0)),
  (12, (.ireturn, 13, 0, 0, [], 0)),
  (13, (.aload_n 0, 14, 0, 0, [], 0)),
  (14, (.getfield 53, 17, 6, 7, [], 0)),
  (17, (.iload_n 1, 18, 1, 0, [], 0)),
  (18, (.invokevirtual 203, 21, 1, 2, [], 0)),
  (21, (.ireturn, 22, 0, 0, [], 0))]
def cp_Word_next : List (List Nat) := [[], [0, 383], [], [], [], [255, 0], [], [], [233], [], [602, 604], []]
def cd_Word_enough : mm_C := [(0, (.iload_n 1, 1, 1, 0, [], 0)),
  (1, (.invokestatic 107, 4, 80, 1, [], 0)),
  (4, (.ifCond .eq 9, 7, 13, 0, [], 0)),
  (7, (.aload_n 0, 8, 0, 0, [], 0)),
  (8, (.iconst (-1), 9, 0, 0, [((-1), 0)], 0)),
  (9, (.invokevirtual 57, 12, 72, 2, [], 0)),
  (12, (.ireturn, 13, 0, 0, [], 0)),
  (13, (.aload_n 0, 14, 0, 0, [], 0)),
  (14, (.getfield 53, 17, 6, 7, [], 0)),
  (17, (.iload_n 1, 18, 1, 0, [], 0)),
  (18, (.invokevirtual 206, 21, 4, 2, [], 0)),
  (21, (.ireturn, 22, 0, 0, [], 0))]
def cp_Word_enough : List (List Nat) := [[], [0, 383], [], [], [], [255, 0], [], [], [233], [], [624, 626], []]
def cd_Word_help : mm_C := [(0, (.iload_n 1, 1, 1, 0, [], 0)),
  (1, (.invokestatic 107, 4, 80, 1, [], 0)),
  (4, (.ifCond .ne 10, 7, 14, 0, [], 0)),
  (7, (.iload_n 2, 8, 2, 0, [], 0)),
  (8, (.invokestatic 122, 11, 84, 1, [], 0)),
  (11, (.ifCond .eq 9, 14, 20, 0, [], 0)),
  (14, (.aload_n 0, 15, 0, 0, [], 0)),
  (15, (.iconst (-1), 16, 0, 0, [((-1), 0)], 0)),
  (16, (.invokevirtual 57, 19, 72, 2, [], 0)),
  (19, (.ireturn, 20, 0, 0, [], 0)),
  (20, (.iload_n 3, 21, 3, 0, [], 0)),
  (21, (.iconst 1, 22, 0, 0, [(1, 0)], 0)),
  (22, (.if_icmp .ge 10, 25, 32, 0, [], 0)),
  (25, (.aload_n 0, 26, 0, 0, [], 0)),
  (26, (.bipush (-4), 28, 0, 0, [((-4), 0)], 0)),
  (28, (.invokevirtual 57, 31, 72, 2, [], 0)),
  (31, (.ireturn, 32, 0, 0, [], 0)),
  (32, (.iload_n 3, 33, 3, 0, [], 0)),
  (33, (.iconst 3, 34, 0, 0, [(3, 0)], 0)),
  (34, (.if_icmp .le 10, 37, 44, 0, [], 0)),
  (37, (.aload_n 0, 38, 0, 0, [], 0)),
  (38, (.bipush (-6), 40, 0, 0, [((-6), 0)], 0)),
  (40, (.invokevirtual 57, 43, 72, 2, [], 0)),
  (43, (.ireturn, 44, 0, 0, [], 0)),
  (44, (.aload_n 0, 45, 0, 0, [], 0)),
  (45, (.getfield 31, 48, 6, 1, [], 0)),
  (48, (.iload_n 1, 49, 1, 0, [], 0)),
  (49, (.iload_n 2, 50, 2, 0, [], 0)),
  (50, (.iconst 0, 51, 0, 0, [(0, 0)], 0)),
  (51, (.invokevirtual 209, 54, 55, 4, [], 0)),
  (54, (.ifCond .ne 10, 57, 64, 0, [], 0)),
  (57, (.aload_n 0, 58, 0, 0, [], 0)),
  (58, (.bipush (-3), 60, 0, 0, [((-3), 0)], 0)),
  (60, (.invokevirtual 57, 63, 72, 2, [], 0)),
  (63, (.ireturn, 64, 0, 0, [], 0)),
  (64, (.aload_n 0, 65, 0, 0, [], 0)),
  (65, (.getfield 53, 68, 6, 7, [], 0)),
  (68, (.iload_n 1, 69, 1, 0, [], 0)),
  (69, (.iload_n 2, 70, 2, 0, [], 0)),
  (70, (.iload_n 3, 71, 3, 0, [], 0)),
  (71, (.invokevirtual 213, 74, 11, 4, [], 0)),
  (74, (.ireturn, 75, 0, 0, [], 0))]
def cp_Word_help : List (List Nat) := [[], [0, 383], [], [], [0, 407], [], [], [], [255, 0], [], [], [], [], [], [], [255, 0], [], [], [], [], [], [], [255, 0], [], [], [227], [], [], [], [656, 430], [], [], [], [255, 0], [], [], [233], [], [], [], [657, 659], []]
def cd_Word_never : mm_C := [(0, (.aload_n 0, 1, 0, 0, [], 0)),
  (1, (.getfield 31, 4, 6, 1, [], 0)),
  (4, (.invokevirtual 216, 7, 65, 1, [], 0)),
  (7, (.ireturn, 8, 0, 0, [], 0))]
def cp_Word_never : List (List Nat) := [[], [227], [665, 667], []]
def cd_Word_same : mm_C := [(0, (.iload_n 1, 1, 1, 0, [], 0)),
  (1, (.invokestatic 122, 4, 84, 1, [], 0)),
  (4, (.ifCond .ne 10, 7, 14, 0, [], 0)),
  (7, (.iload_n 2, 8, 2, 0, [], 0)),
  (8, (.invokestatic 122, 11, 84, 1, [], 0)),
  (11, (.ifCond .eq 9, 14, 20, 0, [], 0)),
  (14, (.aload_n 0, 15, 0, 0, [], 0)),
  (15, (.iconst (-1), 16, 0, 0, [((-1), 0)], 0)),
  (16, (.invokevirtual 57, 19, 72, 2, [], 0)),
  (19, (.ireturn, 20, 0, 0, [], 0)),
  (20, (.aload_n 0, 21, 0, 0, [], 0)),
  (21, (.getfield 31, 24, 6, 1, [], 0)),
  (24, (.getfield 131, 27, 5, 3, [], 0)),
  (27, (.iload_n 1, 28, 1, 0, [], 0)),
  (28, (.iaload, 29, 0, 0, [], 0)),
  (29, (.aload_n 0, 30, 0, 0, [], 0)),
  (30, (.getfield 31, 33, 6, 1, [], 0)),
  (33, (.getfield 131, 36, 5, 3, [], 0)),
  (36, (.iload_n 2, 37, 2, 0, [], 0)),
  (37, (.iaload, 38, 0, 0, [], 0)),
  (38, (.if_icmp .ne 7, 41, 45, 0, [], 0)),
  (41, (.iconst 1, 42, 0, 0, [(1, 0)], 0)),
  (42, (.goto 4, 45, 46, 0, [], 0)),
  (45, (.iconst 0, 46, 0, 0, [(0, 0)], 0)),
  (46, (.ireturn, 47, 0, 0, [], 0))]
def cp_Word_same : List (List Nat) := [[], [0, 407], [], [], [0, 407], [], [], [], [255, 0], [], [], [227], [136], [], [], [], [227], [136], [], [], [], [], [], [], []]
def cd_Word_part : mm_C := [(0, (.iload_n 1, 1, 1, 0, [], 0)),
  (1, (.invokestatic 122, 4, 84, 1, [], 0)),
  (4, (.ifCond .ne 10, 7, 14, 0, [], 0)),
  (7, (.iload_n 2, 8, 2, 0, [], 0)),
  (8, (.invokestatic 122, 11, 84, 1, [], 0)),
  (11, (.ifCond .eq 9, 14, 20, 0, [], 0)),
  (14, (.aload_n 0, 15, 0, 0, [], 0)),
  (15, (.iconst (-1), 16, 0, 0, [((-1), 0)], 0)),
  (16, (.invokevirtual 57, 19, 72, 2, [], 0)),
  (19, (.ireturn, 20, 0, 0, [], 0)),
  (20, (.aload_n 0, 21, 0, 0, [], 0)),
  (21, (.getfield 31, 24, 6, 1, [], 0)),
  (24, (.getfield 131, 27, 5, 3, [], 0)),
  (27, (.iload_n 1, 28, 1, 0, [], 0)),
  (28, (.iaload, 29, 0, 0, [], 0)),
  (29, (.aload_n 0, 30, 0, 0, [], 0)),
  (30, (.getfield 31, 33, 6, 1, [], 0)),
  (33, (.getfield 131, 36, 5, 3, [], 0)),
  (36, (.iload_n 2, 37, 2, 0, [], 0)),
  (37, (.iaload, 38, 0, 0, [], 0)),
  (38, (.ixor, 39, 0, 0, [], 0)),
  (39, (.invokestatic 149, 42, 90, 1, [], 0)),
  (42, (.ireturn, 43, 0, 0, [], 0))]
def cp_Word_part : List (List Nat) := [[], [0, 407], [], [], [0, 407], [], [], [], [255, 0], [], [], [227], [136], [], [], [], [227], [136], [], [], [], [0, 450], []]
def cd_Word_image : mm_C := [(0, (.aload_n 0, 1, 0, 0, [], 0)),
  (1, (.getfield 19, 4, 6, 2, [], 0)),
  (4, (.aload_n 0, 5, 0, 0, [], 0)),
  (5, (.getfield 31, 8, 6, 1, [], 0)),
  (8, (.invokevirtual 219, 11, 66, 2, [], 0)),
  (11, (.aload_n 0, 12, 0, 0, [], 0)),
  (12, (.iconst 1, 13, 0, 0, [(1, 0)], 0)),
  (13, (.putfield 23, 16, 6, 3, [(0, 1)], 0)),
  (16, (.aload_n 0, 17, 0, 0, [], 0)),
  (17, (.getfield 19, 20, 6, 2, [], 0)),
  (20, (.getfield 69, 23, 5, 2, [], 0)),
  (23, (.ireturn, 24, 0, 0, [], 0))]
def cp_Word_image : List (List Nat) := [[], [228], [], [227], [681, 683], [], [], [229], [], [228], [131], []]
def cd_Word_restore : mm_C := [(0, (.aload_n 0, 1, 0, 0, [], 0)),
  (1, (.getfield 23, 4, 6, 3, [], 0)),
  (4, (.ifCond .ne 10, 7, 14, 0, [], 0)),
  (7, (.aload_n 0, 8, 0, 0, [], 0)),
  (8, (.bipush (-3), 10, 0, 0, [((-3), 0)], 0)),
  (10, (.invokevirtual 57, 13, 72, 2, [], 0)),
  (13, (.ireturn, 14, 0, 0, [], 0)),
  (14, (.aload_n 0, 15, 0, 0, [], 0)),
  (15, (.getfield 31, 18, 6, 1, [], 0)),
  (18, (.aload_n 0, 19, 0, 0, [], 0)),
  (19, (.getfield 19, 22, 6, 2, [], 0)),
  (22, (.invokevirtual 219, 25, 66, 2, [], 0)),
  (25, (.aload_n 0, 26, 0, 0, [], 0)),
  (26, (.getfield 31, 29, 6, 1, [], 0)),
  (29, (.getfield 69, 32, 5, 2, [], 0)),
  (32, (.ireturn, 33, 0, 0, [], 0))]
def cp_Word_restore : List (List Nat) := [[], [229], [], [], [], [255, 0], [], [], [227], [], [228], [681, 683], [], [227], [131], []]
def cd_Word_count : mm_C := [(0, (.iload_n 1, 1, 1, 0, [], 0)),
  (1, (.tableswitch 87 0 5 #[39, 47, 55, 63, 71, 79], 40, 88, 0, [(0, 40), (1, 48), (2, 56), (3, 64), (4, 72), (5, 80)], 0)),
  (40, (.aload_n 0, 41, 0, 0, [], 0)),
  (41, (.getfield 31, 44, 6, 1, [], 0)),
  (44, (.getfield 69, 47, 5, 2, [], 0)),
  (47, (.ireturn, 48, 0, 0, [], 0)),
  (48, (.aload_n 0, 49, 0, 0, [], 0)),
  (49, (.getfield 31, 52, 6, 1, [], 0)),
  (52, (.invokevirtual 222, 55, 67, 1, [], 0)),
  (55, (.ireturn, 56, 0, 0, [], 0)),
  (56, (.aload_n 0, 57, 0, 0, [], 0)),
  (57, (.getfield 31, 60, 6, 1, [], 0)),
  (60, (.invokevirtual 225, 63, 68, 1, [], 0)),
  (63, (.ireturn, 64, 0, 0, [], 0)),
  (64, (.aload_n 0, 65, 0, 0, [], 0)),
  (65, (.getfield 31, 68, 6, 1, [], 0)),
  (68, (.invokevirtual 228, 71, 69, 1, [], 0)),
  (71, (.ireturn, 72, 0, 0, [], 0)),
  (72, (.aload_n 0, 73, 0, 0, [], 0)),
  (73, (.getfield 31, 76, 6, 1, [], 0)),
  (76, (.getfield 194, 79, 5, 11, [], 0)),
  (79, (.ireturn, 80, 0, 0, [], 0)),
  (80, (.aload_n 0, 81, 0, 0, [], 0)),
  (81, (.getfield 10, 84, 6, 0, [], 0)),
  (84, (.invokevirtual 231, 87, 48, 1, [], 0)),
  (87, (.ireturn, 88, 0, 0, [], 0)),
  (88, (.aload_n 0, 89, 0, 0, [], 0)),
  (89, (.iload_n 1, 90, 1, 0, [], 0)),
  (90, (.invokevirtual 234, 93, 113, 2, [], 0)),
  (93, (.ireturn, 94, 0, 0, [], 0))]
def cp_Word_count : List (List Nat) := [[], [], [], [227], [131], [], [], [227], [696, 698], [], [], [227], [700, 702], [], [], [227], [704, 706], [], [], [227], [155], [], [], [226], [708, 710], [], [], [], [712, 27], []]
def cd_Word_countRefusals : mm_C := [(0, (.iload_n 1, 1, 1, 0, [], 0)),
  (1, (.bipush 10, 3, 0, 0, [(10, 0)], 0)),
  (3, (.if_icmp .le 15, 6, 18, 0, [], 0)),
  (6, (.iload_n 1, 7, 1, 0, [], 0)),
  (7, (.bipush 10, 9, 0, 0, [(10, 0)], 0)),
  (9, (.aload_n 0, 10, 0, 0, [], 0)),
  (10, (.getfield 27, 13, 6, 4, [], 0)),
  (13, (.arraylength, 14, 0, 0, [], 0)),
  (14, (.iadd, 15, 0, 0, [], 0)),
  (15, (.if_icmp .lt 6, 18, 21, 0, [], 0)),
  (18, (.bipush (-9), 20, 0, 0, [((-9), 0)], 0)),
  (20, (.ireturn, 21, 0, 0, [], 0)),
  (21, (.aload_n 0, 22, 0, 0, [], 0)),
  (22, (.getfield 27, 25, 6, 4, [], 0)),
  (25, (.iload_n 1, 26, 1, 0, [], 0)),
  (26, (.bipush 10, 28, 0, 0, [(10, 0)], 0)),
  (28, (.isub, 29, 0, 0, [], 0)),
  (29, (.iaload, 30, 0, 0, [], 0)),
  (30, (.ireturn, 31, 0, 0, [], 0))]
def cp_Word_countRefusals : List (List Nat) := [[], [], [], [], [], [], [230], [], [], [], [], [], [], [230], [], [], [], [], []]
def cd_Model_init : mm_C := [(0, (.aload_n 0, 1, 0, 0, [], 0)),
  (1, (.invokespecial 1, 4, 0, 0, [], 1)),
  (4, (.aload_n 0, 5, 0, 0, [], 0)),
  (5, (.bipush 24, 7, 0, 0, [(24, 0)], 0)),
  (7, (.newarray .int, 9, 0, 24, [], 0)),
  (9, (.putfield 7, 12, 7, 1, [(0, 2)], 0)),
  (12, (.aload_n 0, 13, 0, 0, [], 0)),
  (13, (.bipush 96, 15, 0, 0, [(96, 0)], 0)),
  (15, (.newarray .int, 17, 0, 96, [], 0)),
  (17, (.putfield 13, 20, 7, 2, [(0, 2)], 0)),
  (20, (.aload_n 0, 21, 0, 0, [], 0)),
  (21, (.bipush 24, 23, 0, 0, [(24, 0)], 0)),
  (23, (.newarray .int, 25, 0, 24, [], 0)),
  (25, (.putfield 16, 28, 7, 3, [(0, 2)], 0)),
  (28, (.aload_n 0, 29, 0, 0, [], 0)),
  (29, (.sipush 216, 32, 0, 0, [(216, 0)], 0)),
  (32, (.newarray .int, 34, 0, 216, [], 0)),
  (34, (.putfield 19, 37, 7, 4, [(0, 2)], 0)),
  (37, (.aload_n 0, 38, 0, 0, [], 0)),
  (38, (.sipush 144, 41, 0, 0, [(144, 0)], 0)),
  (41, (.newarray .boolean, 43, 1, 144, [], 0)),
  (43, (.putfield 22, 46, 7, 5, [(0, 2)], 0)),
  (46, (.aload_n 0, 47, 0, 0, [], 0)),
  (47, (.sipush 2160, 50, 0, 0, [(2160, 0)], 0)),
  (50, (.newarray .boolean, 52, 1, 2160, [], 0)),
  (52, (.putfield 26, 55, 7, 6, [(0, 2)], 0)),
  (55, (.aload_n 0, 56, 0, 0, [], 0)),
  (56, (.bipush 8, 58, 0, 0, [(8, 0)], 0)),
  (58, (.newarray .int, 60, 0, 8, [], 0)),
  (60, (.dup, 61, 0, 0, [], 0)),
  (61, (.iconst 0, 62, 0, 0, [(0, 0)], 0)),
  (62, (.bipush 10, 64, 0, 0, [(10, 0)], 0)),
  (64, (.iastore, 65, 0, 0, [], 0)),
  (65, (.dup, 66, 0, 0, [], 0)),
  (66, (.iconst 1, 67, 0, 0, [(1, 0)], 0)),
  (67, (.bipush 10, 69, 0, 0, [(10, 0)], 0)),
  (69, (.iastore, 70, 0, 0, [], 0)),
  (70, (.dup, 71, 0, 0, [], 0)),
  (71, (.iconst 2, 72, 0, 0, [(2, 0)], 0)),
  (72, (.bipush 10, 74, 0, 0, [(10, 0)], 0)),
  (74, (.iastore, 75, 0, 0, [], 0)),
  (75, (.dup, 76, 0, 0, [], 0)),
  (76, (.iconst 3, 77, 0, 0, [(3, 0)], 0)),
  (77, (.bipush 10, 79, 0, 0, [(10, 0)], 0)),
  (79, (.iastore, 80, 0, 0, [], 0)),
  (80, (.dup, 81, 0, 0, [], 0)),
  (81, (.iconst 4, 82, 0, 0, [(4, 0)], 0)),
  (82, (.bipush 10, 84, 0, 0, [(10, 0)], 0)),
  (84, (.iastore, 85, 0, 0, [], 0)),
  (85, (.dup, 86, 0, 0, [], 0)),
  (86, (.iconst 5, 87, 0, 0, [(5, 0)], 0)),
  (87, (.bipush 10, 89, 0, 0, [(10, 0)], 0)),
  (89, (.iastore, 90, 0, 0, [], 0)),
  (90, (.dup, 91, 0, 0, [], 0)),
  (91, (.bipush 6, 93, 0, 0, [(6, 0)], 0)),
  (93, (.bipush 10, 95, 0, 0, [(10, 0)], 0)),
  (95, (.iastore, 96, 0, 0, [], 0)),
  (96, (.dup, 97, 0, 0, [], 0)),
  (97, (.bipush 7, 99, 0, 0, [(7, 0)], 0)),
  (99, (.bipush 10, 101, 0, 0, [(10, 0)], 0)),
  (101, (.iastore, 102, 0, 0, [], 0)),
  (102, (.putfield 29, 105, 7, 7, [(0, 2)], 0)),
  (105, (.aload_n 0, 106, 0, 0, [], 0)),
  (106, (.bipush 90, 108, 0, 0, [(90, 0)], 0)),
  (108, (.putfield 32, 111, 7, 8, [(0, 0)], 0)),
  (111, (.aload_n 0, 112, 0, 0, [], 0)),
  (112, (.bipush 10, 114, 0, 0, [(10, 0)], 0)),
  (114, (.putfield 36, 117, 7, 9, [(0, 0)], 0)),
  (117, (.aload_n 0, 118, 0, 0, [], 0)),
  (118, (.bipush 6, 120, 0, 0, [(6, 0)], 0)),
  (120, (.newarray .int, 122, 0, 6, [], 0)),
  (122, (.dup, 123, 0, 0, [], 0)),
  (123, (.iconst 0, 124, 0, 0, [(0, 0)], 0)),
  (124, (.iconst (-1), 125, 0, 0, [((-1), 0)], 0)),
  (125, (.iastore, 126, 0, 0, [], 0)),
  (126, (.dup, 127, 0, 0, [], 0)),
  (127, (.iconst 1, 128, 0, 0, [(1, 0)], 0)),
  (128, (.iconst (-1), 129, 0, 0, [((-1), 0)], 0)),
  (129, (.iastore, 130, 0, 0, [], 0)),
  (130, (.dup, 131, 0, 0, [], 0)),
  (131, (.iconst 2, 132, 0, 0, [(2, 0)], 0)),
  (132, (.iconst (-1), 133, 0, 0, [((-1), 0)], 0)),
  (133, (.iastore, 134, 0, 0, [], 0)),
  (134, (.dup, 135, 0, 0, [], 0)),
  (135, (.iconst 3, 136, 0, 0, [(3, 0)], 0)),
  (136, (.iconst (-1), 137, 0, 0, [((-1), 0)], 0)),
  (137, (.iastore, 138, 0, 0, [], 0)),
  (138, (.dup, 139, 0, 0, [], 0)),
  (139, (.iconst 4, 140, 0, 0, [(4, 0)], 0)),
  (140, (.iconst (-1), 141, 0, 0, [((-1), 0)], 0)),
  (141, (.iastore, 142, 0, 0, [], 0)),
  (142, (.dup, 143, 0, 0, [], 0)),
  (143, (.iconst 5, 144, 0, 0, [(5, 0)], 0)),
  (144, (.iconst (-1), 145, 0, 0, [((-1), 0)], 0)),
  (145, (.iastore, 146, 0, 0, [], 0)),
  (146, (.putfield 39, 149, 7, 10, [(0, 2)], 0)),
  (149, (.aload_n 0, 150, 0, 0, [], 0)),
  (150, (.bipush 20, 152, 0, 0, [(20, 0)], 0)),
  (152, (.newarray .int, 154, 0, 20, [], 0)),
  (154, (.putfield 42, 157, 7, 12, [(0, 2)], 0)),
  (157, (.aload_n 0, 158, 0, 0, [], 0)),
  (158, (.bipush 20, 160, 0, 0, [(20, 0)], 0)),
  (160, (.newarray .int, 162, 0, 20, [], 0)),
  (162, (.putfield 45, 165, 7, 13, [(0, 2)], 0)),
  (165, (.aload_n 0, 166, 0, 0, [], 0)),
  (166, (.bipush 40, 168, 0, 0, [(40, 0)], 0)),
  (168, (.newarray .int, 170, 0, 40, [], 0)),
  (170, (.putfield 48, 173, 7, 14, [(0, 2)], 0)),
  (173, (.aload_n 0, 174, 0, 0, [], 0)),
  (174, (.bipush 7, 176, 0, 0, [(7, 0)], 0)),
  (176, (.newarray .int, 178, 0, 7, [], 0)),
  (178, (.putfield 51, 181, 7, 16, [(0, 2)], 0)),
  (181, (.aload_n 0, 182, 0, 0, [], 0)),
  (182, (.iconst 3, 183, 0, 0, [(3, 0)], 0)),
  (183, (.newarray .int, 185, 0, 3, [], 0)),
  (185, (.putfield 54, 188, 7, 20, [(0, 2)], 0)),
  (188, (.aload_n 0, 189, 0, 0, [], 0)),
  (189, (.iconst 3, 190, 0, 0, [(3, 0)], 0)),
  (190, (.newarray .int, 192, 0, 3, [], 0)),
  (192, (.putfield 57, 195, 7, 22, [(0, 2)], 0)),
  (195, (.aload_n 0, 196, 0, 0, [], 0)),
  (196, (.bipush 12, 198, 0, 0, [(12, 0)], 0)),
  (198, (.newarray .int, 200, 0, 12, [], 0)),
  (200, (.putfield 60, 203, 7, 23, [(0, 2)], 0)),
  (203, (.aload_n 0, 204, 0, 0, [], 0)),
  (204, (.bipush 90, 206, 0, 0, [(90, 0)], 0)),
  (206, (.newarray .int, 208, 0, 90, [], 0)),
  (208, (.putfield 63, 211, 7, 25, [(0, 2)], 0)),
  (211, (.aload_n 0, 212, 0, 0, [], 0)),
  (212, (.sipush 700, 215, 0, 0, [(700, 0)], 0)),
  (215, (.newarray .int, 217, 0, 700, [], 0)),
  (217, (.putfield 66, 220, 7, 28, [(0, 2)], 0)),
  (220, (.aload_n 0, 221, 0, 0, [], 0)),
  (221, (.iconst 0, 222, 0, 0, [(0, 0)], 0)),
  (222, (.putfield 69, 225, 7, 15, [(0, 0)], 0)),
  (225, (.return_, 226, 0, 0, [], 0))]
def cp_Model_init : List (List Nat) := [[], [721, 76, 77], [], [], [94], [723], [], [], [94], [724], [], [], [94], [725], [], [], [94], [726], [], [], [816], [727], [], [], [816], [728], [], [], [94], [], [], [], [], [], [], [], [], [], [], [], [], [], [], [], [], [], [], [], [], [], [], [], [], [], [], [], [], [], [], [], [], [729], [], [], [730], [], [], [731], [], [], [94], [], [], [], [], [], [], [], [], [], [], [], [], [], [], [], [], [], [], [], [], [], [], [], [], [732], [], [], [94], [734], [], [], [94], [735], [], [], [94], [736], [], [], [94], [738], [], [], [94], [742], [], [], [94], [744], [], [], [94], [745], [], [], [94], [747], [], [], [94], [750], [], [], [737], []]
def cd_Model_feed : mm_C := [(0, (.iload_n 1, 1, 1, 0, [], 0)),
  (1, (.iconst 1, 2, 0, 0, [(1, 0)], 0)),
  (2, (.if_icmp .ge 10, 5, 12, 0, [], 0)),
  (5, (.aload_n 0, 6, 0, 0, [], 0)),
  (6, (.bipush (-4), 8, 0, 0, [((-4), 0)], 0)),
  (8, (.invokevirtual 83, 11, 116, 2, [], 0)),
  (11, (.ireturn, 12, 0, 0, [], 0)),
  (12, (.iload_n 1, 13, 1, 0, [], 0)),
  (13, (.bipush 8, 15, 0, 0, [(8, 0)], 0)),
  (15, (.if_icmp .gt 14, 18, 29, 0, [], 0)),
  (18, (.aload_n 0, 19, 0, 0, [], 0)),
  (19, (.getfield 69, 22, 7, 15, [], 0)),
  (22, (.iload_n 1, 23, 1, 0, [], 0)),
  (23, (.iadd, 24, 0, 0, [], 0)),
  (24, (.bipush 40, 26, 0, 0, [(40, 0)], 0)),
  (26, (.if_icmp .le 10, 29, 36, 0, [], 0)),
  (29, (.aload_n 0, 30, 0, 0, [], 0)),
  (30, (.bipush (-6), 32, 0, 0, [((-6), 0)], 0)),
  (32, (.invokevirtual 83, 35, 116, 2, [], 0)),
  (35, (.ireturn, 36, 0, 0, [], 0)),
  (36, (.iconst 0, 37, 0, 0, [(0, 0)], 0)),
  (37, (.istore 4, 39, 4, 0, [], 0)),
  (39, (.iload 4, 41, 4, 0, [], 0)),
  (41, (.iload_n 1, 42, 1, 0, [], 0)),
  (42, (.if_icmp .ge 40, 45, 82, 0, [], 0)),
  (45, (.aload_n 0, 46, 0, 0, [], 0)),
  (46, (.getfield 48, 49, 7, 14, [], 0)),
  (49, (.aload_n 0, 50, 0, 0, [], 0)),
  (50, (.getfield 69, 53, 7, 15, [], 0)),
  (53, (.lload_n 2, 54, 2, 0, [], 0)),
  (54, (.bipush 8, 56, 0, 0, [(8, 0)], 0)),
  (56, (.iload 4, 58, 4, 0, [], 0)),
  (58, (.imul, 59, 0, 0, [], 0)),
  (59, (.lshr, 60, 0, 0, [], 0)),
  (60, (.ldc2_w 87, 63, 0, 0, [], 255)),
  (63, (.land, 64, 0, 0, [], 0)),
  (64, (.l2i, 65, 0, 0, [], 0)),
  (65, (.iastore, 66, 0, 0, [], 0)),
  (66, (.aload_n 0, 67, 0, 0, [], 0)),
  (67, (.dup, 68, 0, 0, [], 0)),
  (68, (.getfield 69, 71, 7, 15, [], 0)),
  (71, (.iconst 1, 72, 0, 0, [(1, 0)], 0)),
  (72, (.iadd, 73, 0, 0, [], 0)),
  (73, (.putfield 69, 76, 7, 15, [(0, 0)], 0)),
  (76, (.iinc 4 1, 79, 4, 0, [(1, 0)], 0)),
  (79, (.goto (-40), 82, 39, 0, [], 0)),
  (82, (.aload_n 0, 83, 0, 0, [], 0)),
  (83, (.getfield 69, 86, 7, 15, [], 0)),
  (86, (.ireturn, 87, 0, 0, [], 0))]
def cp_Model_feed : List (List Nat) := [[], [], [], [], [], [821, 28], [], [], [], [], [], [737], [], [], [], [], [], [], [821, 28], [], [], [], [], [], [], [], [736], [], [737], [], [], [], [], [], [825], [], [], [], [], [], [737], [], [], [737], [], [], [], [737], []]
def cd_Model_refuse : mm_C := [(0, (.aload_n 0, 1, 0, 0, [], 0)),
  (1, (.getfield 51, 4, 7, 16, [], 0)),
  (4, (.iload_n 1, 5, 1, 0, [], 0)),
  (5, (.ineg, 6, 0, 0, [], 0)),
  (6, (.dup2, 7, 0, 0, [], 0)),
  (7, (.iaload, 8, 0, 0, [], 0)),
  (8, (.iconst 1, 9, 0, 0, [(1, 0)], 0)),
  (9, (.iadd, 10, 0, 0, [], 0)),
  (10, (.iastore, 11, 0, 0, [], 0)),
  (11, (.iload_n 1, 12, 1, 0, [], 0)),
  (12, (.ireturn, 13, 0, 0, [], 0))]
def cp_Model_refuse : List (List Nat) := [[], [738], [], [], [], [], [], [], [], [], []]
def cd_Model_scene : mm_C := [(0, (.aload_n 0, 1, 0, 0, [], 0)),
  (1, (.getfield 72, 4, 7, 0, [], 0)),
  (4, (.bipush 24, 6, 0, 0, [(24, 0)], 0)),
  (6, (.if_icmp .ne 10, 9, 16, 0, [], 0)),
  (9, (.aload_n 0, 10, 0, 0, [], 0)),
  (10, (.bipush (-6), 12, 0, 0, [((-6), 0)], 0)),
  (12, (.invokevirtual 83, 15, 116, 2, [], 0)),
  (15, (.ireturn, 16, 0, 0, [], 0)),
  (16, (.aload_n 0, 17, 0, 0, [], 0)),
  (17, (.iconst 0, 18, 0, 0, [(0, 0)], 0)),
  (18, (.putfield 89, 21, 7, 17, [(0, 0)], 0)),
  (21, (.aload_n 0, 22, 0, 0, [], 0)),
  (22, (.aload_n 0, 23, 0, 0, [], 0)),
  (23, (.getfield 69, 26, 7, 15, [], 0)),
  (26, (.putfield 92, 29, 7, 18, [(0, 0)], 0)),
  (29, (.aload_n 0, 30, 0, 0, [], 0)),
  (30, (.iconst 0, 31, 0, 0, [(0, 0)], 0)),
  (31, (.putfield 69, 34, 7, 15, [(0, 0)], 0)),
  (34, (.aload_n 0, 35, 0, 0, [], 0)),
  (35, (.iconst 0, 36, 0, 0, [(0, 0)], 0)),
  (36, (.putfield 101, 39, 7, 19, [(0, 1)], 0)),
  (39, (.aload_n 0, 40, 0, 0, [], 0)),
  (40, (.aload_n 0, 41, 0, 0, [], 0)),
  (41, (.getfield 72, 44, 7, 0, [], 0)),
  (44, (.invokevirtual 118, 47, 118, 2, [], 0)),
  (47, (.aload_n 0, 48, 0, 0, [], 0)),
  (48, (.getfield 101, 51, 7, 19, [], 0)),
  (51, (.ifCond .eq 11, 54, 62, 0, [], 0)),
  (54, (.bipush (-20), 56, 0, 0, [((-20), 0)], 0)),
  (56, (.aload_n 0, 57, 0, 0, [], 0)),
  (57, (.getfield 89, 60, 7, 17, [], 0)),
  (60, (.isub, 61, 0, 0, [], 0)),
  (61, (.ireturn, 62, 0, 0, [], 0)),
  (62, (.iconst 0, 63, 0, 0, [(0, 0)], 0)),
  (63, (.istore_n 1, 64, 1, 0, [], 0)),
  (64, (.iload_n 1, 65, 1, 0, [], 0)),
  (65, (.bipush 6, 67, 0, 0, [(6, 0)], 0)),
  (67, (.if_icmp .ge 24, 70, 91, 0, [], 0)),
  (70, (.aload_n 0, 71, 0, 0, [], 0)),
  (71, (.getfield 22, 74, 7, 5, [], 0)),
  (74, (.bipush 6, 76, 0, 0, [(6, 0)], 0)),
  (76, (.aload_n 0, 77, 0, 0, [], 0)),
  (77, (.getfield 72, 80, 7, 0, [], 0)),
  (80, (.imul, 81, 0, 0, [], 0)),
  (81, (.iload_n 1, 82, 1, 0, [], 0)),
  (82, (.iadd, 83, 0, 0, [], 0)),
  (83, (.iconst 0, 84, 0, 0, [(0, 0)], 0)),
  (84, (.bastore, 85, 0, 0, [], 0)),
  (85, (.iinc 1 1, 88, 1, 0, [(1, 0)], 0)),
  (88, (.goto (-24), 91, 64, 0, [], 0)),
  (91, (.aload_n 0, 92, 0, 0, [], 0)),
  (92, (.aload_n 0, 93, 0, 0, [], 0)),
  (93, (.getfield 72, 96, 7, 0, [], 0)),
  (96, (.invokevirtual 121, 99, 124, 2, [], 0)),
  (99, (.aload_n 0, 100, 0, 0, [], 0)),
  (100, (.dup, 101, 0, 0, [], 0)),
  (101, (.getfield 72, 104, 7, 0, [], 0)),
  (104, (.iconst 1, 105, 0, 0, [(1, 0)], 0)),
  (105, (.iadd, 106, 0, 0, [], 0)),
  (106, (.putfield 72, 109, 7, 0, [(0, 0)], 0)),
  (109, (.aload_n 0, 110, 0, 0, [], 0)),
  (110, (.getfield 72, 113, 7, 0, [], 0)),
  (113, (.iconst 1, 114, 0, 0, [(1, 0)], 0)),
  (114, (.isub, 115, 0, 0, [], 0)),
  (115, (.ireturn, 116, 0, 0, [], 0))]
def cp_Model_scene : List (List Nat) := [[], [722], [], [], [], [], [821, 28], [], [], [], [739], [], [], [737], [740], [], [], [737], [], [], [741], [], [], [722], [830, 29], [], [741], [], [], [], [739], [], [], [], [], [], [], [], [], [727], [], [], [722], [], [], [], [], [], [], [], [], [], [722], [855, 34], [], [], [722], [], [], [722], [], [722], [], [], []]
def cd_Model_readScene : mm_C := [(0, (.aload_n 0, 1, 0, 0, [], 0)),
  (1, (.getfield 7, 4, 7, 1, [], 0)),
  (4, (.iload_n 1, 5, 1, 0, [], 0)),
  (5, (.iconst 0, 6, 0, 0, [(0, 0)], 0)),
  (6, (.iastore, 7, 0, 0, [], 0)),
  (7, (.aload_n 0, 8, 0, 0, [], 0)),
  (8, (.getfield 16, 11, 7, 3, [], 0)),
  (11, (.iload_n 1, 12, 1, 0, [], 0)),
  (12, (.iconst 0, 13, 0, 0, [(0, 0)], 0)),
  (13, (.iastore, 14, 0, 0, [], 0)),
  (14, (.aload_n 0, 15, 0, 0, [], 0)),
  (15, (.iload_n 1, 16, 1, 0, [], 0)),
  (16, (.invokevirtual 111, 19, 119, 2, [], 0)),
  (19, (.aload_n 0, 20, 0, 0, [], 0)),
  (20, (.getfield 101, 23, 7, 19, [], 0)),
  (23, (.ifCond .ne 56, 26, 79, 0, [], 0)),
  (26, (.aload_n 0, 27, 0, 0, [], 0)),
  (27, (.invokevirtual 95, 30, 120, 1, [], 0)),
  (30, (.bipush 44, 32, 0, 0, [(44, 0)], 0)),
  (32, (.if_icmp .ne 47, 35, 79, 0, [], 0)),
  (35, (.aload_n 0, 36, 0, 0, [], 0)),
  (36, (.aload_n 0, 37, 0, 0, [], 0)),
  (37, (.getfield 7, 40, 7, 1, [], 0)),
  (40, (.iload_n 1, 41, 1, 0, [], 0)),
  (41, (.iaload, 42, 0, 0, [], 0)),
  (42, (.iconst 4, 43, 0, 0, [(4, 0)], 0)),
  (43, (.if_icmp .ne 7, 46, 50, 0, [], 0)),
  (46, (.iconst 1, 47, 0, 0, [(1, 0)], 0)),
  (47, (.goto 4, 50, 51, 0, [], 0)),
  (50, (.iconst 0, 51, 0, 0, [(0, 0)], 0)),
  (51, (.putfield 101, 54, 7, 19, [(0, 1)], 0)),
  (54, (.aload_n 0, 55, 0, 0, [], 0)),
  (55, (.getfield 101, 58, 7, 19, [], 0)),
  (58, (.ifCond .ne (-39), 61, 19, 0, [], 0)),
  (61, (.aload_n 0, 62, 0, 0, [], 0)),
  (62, (.dup, 63, 0, 0, [], 0)),
  (63, (.getfield 89, 66, 7, 17, [], 0)),
  (66, (.iconst 1, 67, 0, 0, [(1, 0)], 0)),
  (67, (.iadd, 68, 0, 0, [], 0)),
  (68, (.putfield 89, 71, 7, 17, [(0, 0)], 0)),
  (71, (.aload_n 0, 72, 0, 0, [], 0)),
  (72, (.iload_n 1, 73, 1, 0, [], 0)),
  (73, (.invokevirtual 111, 76, 119, 2, [], 0)),
  (76, (.goto (-57), 79, 19, 0, [], 0)),
  (79, (.aload_n 0, 80, 0, 0, [], 0)),
  (80, (.getfield 101, 83, 7, 19, [], 0)),
  (83, (.ifCond .ne 87, 86, 170, 0, [], 0)),
  (86, (.aload_n 0, 87, 0, 0, [], 0)),
  (87, (.invokevirtual 95, 90, 120, 1, [], 0)),
  (90, (.bipush 59, 92, 0, 0, [(59, 0)], 0)),
  (92, (.if_icmp .ne 78, 95, 170, 0, [], 0)),
  (95, (.aload_n 0, 96, 0, 0, [], 0)),
  (96, (.dup, 97, 0, 0, [], 0)),
  (97, (.getfield 89, 100, 7, 17, [], 0)),
  (100, (.iconst 1, 101, 0, 0, [(1, 0)], 0)),
  (101, (.iadd, 102, 0, 0, [], 0)),
  (102, (.putfield 89, 105, 7, 17, [(0, 0)], 0)),
  (105, (.aload_n 0, 106, 0, 0, [], 0)),
  (106, (.iload_n 1, 107, 1, 0, [], 0)),
  (107, (.invokevirtual 115, 110, 122, 2, [], 0)),
  (110, (.aload_n 0, 111, 0, 0, [], 0)),
  (111, (.getfield 101, 114, 7, 19, [], 0)),
  (114, (.ifCond .ne 56, 117, 170, 0, [], 0)),
  (117, (.aload_n 0, 118, 0, 0, [], 0)),
  (118, (.invokevirtual 95, 121, 120, 1, [], 0)),
  (121, (.bipush 44, 123, 0, 0, [(44, 0)], 0)),
  (123, (.if_icmp .ne 47, 126, 170, 0, [], 0)),
  (126, (.aload_n 0, 127, 0, 0, [], 0)),
  (127, (.aload_n 0, 128, 0, 0, [], 0)),
  (128, (.getfield 16, 131, 7, 3, [], 0)),
  (131, (.iload_n 1, 132, 1, 0, [], 0)),
  (132, (.iaload, 133, 0, 0, [], 0)),
  (133, (.iconst 3, 134, 0, 0, [(3, 0)], 0)),
  (134, (.if_icmp .ne 7, 137, 141, 0, [], 0)),
  (137, (.iconst 1, 138, 0, 0, [(1, 0)], 0)),
  (138, (.goto 4, 141, 142, 0, [], 0)),
  (141, (.iconst 0, 142, 0, 0, [(0, 0)], 0)),
  (142, (.putfield 101, 145, 7, 19, [(0, 1)], 0)),
  (145, (.aload_n 0, 146, 0, 0, [], 0)),
  (146, (.getfield 101, 149, 7, 19, [], 0)),
  (149, (.ifCond .ne (-39), 152, 110, 0, [], 0)),
  (152, (.aload_n 0, 153, 0, 0, [], 0)),
  (153, (.dup, 154, 0, 0, [], 0)),
  (154, (.getfield 89, 157, 7, 17, [], 0)),
  (157, (.iconst 1, 158, 0, 0, [(1, 0)], 0)),
  (158, (.iadd, 159, 0, 0, [], 0)),
  (159, (.putfield 89, 162, 7, 17, [(0, 0)], 0)),
  (162, (.aload_n 0, 163, 0, 0, [], 0)),
  (163, (.iload_n 1, 164, 1, 0, [], 0)),
  (164, (.invokevirtual 115, 167, 122, 2, [], 0)),
  (167, (.goto (-57), 170, 110, 0, [], 0)),
  (170, (.aload_n 0, 171, 0, 0, [], 0)),
  (171, (.aload_n 0, 172, 0, 0, [], 0)),
  (172, (.getfield 101, 175, 7, 19, [], 0)),
  (175, (.ifCond .ne 14, 178, 189, 0, [], 0)),
  (178, (.aload_n 0, 179, 0, 0, [], 0)),
  (179, (.getfield 89, 182, 7, 17, [], 0)),
  (182, (.aload_n 0, 183, 0, 0, [], 0)),
  (183, (.getfield 92, 186, 7, 18, [], 0)),
  (186, (.if_icmp .ge 7, 189, 193, 0, [], 0)),
  (189, (.iconst 1, 190, 0, 0, [(1, 0)], 0)),
  (190, (.goto 4, 193, 194, 0, [], 0)),
  (193, (.iconst 0, 194, 0, 0, [(0, 0)], 0)),
  (194, (.putfield 101, 197, 7, 19, [(0, 1)], 0)),
  (197, (.return_, 198, 0, 0, [], 0))]
def cp_Model_readScene : List (List Nat) := [[], [723], [], [], [], [], [725], [], [], [], [], [], [834, 30], [], [741], [], [], [838, 31], [], [], [], [], [723], [], [], [], [], [], [], [], [741], [], [741], [], [], [], [739], [], [], [739], [], [], [834, 30], [], [], [741], [], [], [838, 31], [], [], [], [], [739], [], [], [739], [], [], [846, 32], [], [741], [], [], [838, 31], [], [], [], [], [725], [], [], [], [], [], [], [], [741], [], [741], [], [], [], [739], [], [], [739], [], [], [846, 32], [], [], [], [741], [], [], [739], [], [740], [], [], [], [], [741], []]
def cd_Model_readThing : mm_C := [(0, (.bipush 96, 2, 0, 0, [(96, 0)], 0)),
  (2, (.istore_n 2, 3, 2, 0, [], 0)),
  (3, (.iconst 0, 4, 0, 0, [(0, 0)], 0)),
  (4, (.istore_n 3, 5, 3, 0, [], 0)),
  (5, (.aload_n 0, 6, 0, 0, [], 0)),
  (6, (.invokevirtual 95, 9, 120, 1, [], 0)),
  (9, (.i2l, 10, 0, 0, [], 0)),
  (10, (.iload_n 2, 11, 2, 0, [], 0)),
  (11, (.iconst 1, 12, 0, 0, [(1, 0)], 0)),
  (12, (.iadd, 13, 0, 0, [], 0)),
  (13, (.i2l, 14, 0, 0, [], 0)),
  (14, (.ldc2_w 99, 17, 0, 0, [], 102)),
  (17, (.invokestatic 75, 20, 121, 3, [], 0)),
  (20, (.ifCond .eq 30, 23, 50, 0, [], 0)),
  (23, (.aload_n 0, 24, 0, 0, [], 0)),
  (24, (.invokevirtual 95, 27, 120, 1, [], 0)),
  (27, (.istore_n 2, 28, 2, 0, [], 0)),
  (28, (.iload_n 3, 29, 3, 0, [], 0)),
  (29, (.iconst 1, 30, 0, 0, [(1, 0)], 0)),
  (30, (.iload_n 2, 31, 2, 0, [], 0)),
  (31, (.bipush 97, 33, 0, 0, [(97, 0)], 0)),
  (33, (.isub, 34, 0, 0, [], 0)),
  (34, (.ishl, 35, 0, 0, [], 0)),
  (35, (.ior, 36, 0, 0, [], 0)),
  (36, (.istore_n 3, 37, 3, 0, [], 0)),
  (37, (.aload_n 0, 38, 0, 0, [], 0)),
  (38, (.dup, 39, 0, 0, [], 0)),
  (39, (.getfield 89, 42, 7, 17, [], 0)),
  (42, (.iconst 1, 43, 0, 0, [(1, 0)], 0)),
  (43, (.iadd, 44, 0, 0, [], 0)),
  (44, (.putfield 89, 47, 7, 17, [(0, 0)], 0)),
  (47, (.goto (-42), 50, 5, 0, [], 0)),
  (50, (.aload_n 0, 51, 0, 0, [], 0)),
  (51, (.iload_n 3, 52, 3, 0, [], 0)),
  (52, (.ifCond .ne 7, 55, 59, 0, [], 0)),
  (55, (.iconst 1, 56, 0, 0, [(1, 0)], 0)),
  (56, (.goto 4, 59, 60, 0, [], 0)),
  (59, (.iconst 0, 60, 0, 0, [(0, 0)], 0)),
  (60, (.putfield 101, 63, 7, 19, [(0, 1)], 0)),
  (63, (.aload_n 0, 64, 0, 0, [], 0)),
  (64, (.getfield 101, 67, 7, 19, [], 0)),
  (67, (.ifCond .ne 27, 70, 94, 0, [], 0)),
  (70, (.aload_n 0, 71, 0, 0, [], 0)),
  (71, (.invokevirtual 95, 74, 120, 1, [], 0)),
  (74, (.bipush 42, 76, 0, 0, [(42, 0)], 0)),
  (76, (.if_icmp .ne 18, 79, 94, 0, [], 0)),
  (79, (.iload_n 3, 80, 3, 0, [], 0)),
  (80, (.bipush 64, 82, 0, 0, [(64, 0)], 0)),
  (82, (.ior, 83, 0, 0, [], 0)),
  (83, (.istore_n 3, 84, 3, 0, [], 0)),
  (84, (.aload_n 0, 85, 0, 0, [], 0)),
  (85, (.dup, 86, 0, 0, [], 0)),
  (86, (.getfield 89, 89, 7, 17, [], 0)),
  (89, (.iconst 1, 90, 0, 0, [(1, 0)], 0)),
  (90, (.iadd, 91, 0, 0, [], 0)),
  (91, (.putfield 89, 94, 7, 17, [(0, 0)], 0)),
  (94, (.aload_n 0, 95, 0, 0, [], 0)),
  (95, (.getfield 13, 98, 7, 2, [], 0)),
  (98, (.iconst 4, 99, 0, 0, [(4, 0)], 0)),
  (99, (.iload_n 1, 100, 1, 0, [], 0)),
  (100, (.imul, 101, 0, 0, [], 0)),
  (101, (.aload_n 0, 102, 0, 0, [], 0)),
  (102, (.getfield 7, 105, 7, 1, [], 0)),
  (105, (.iload_n 1, 106, 1, 0, [], 0)),
  (106, (.iaload, 107, 0, 0, [], 0)),
  (107, (.iadd, 108, 0, 0, [], 0)),
  (108, (.iload_n 3, 109, 3, 0, [], 0)),
  (109, (.iastore, 110, 0, 0, [], 0)),
  (110, (.aload_n 0, 111, 0, 0, [], 0)),
  (111, (.getfield 7, 114, 7, 1, [], 0)),
  (114, (.iload_n 1, 115, 1, 0, [], 0)),
  (115, (.dup2, 116, 0, 0, [], 0)),
  (116, (.iaload, 117, 0, 0, [], 0)),
  (117, (.aload_n 0, 118, 0, 0, [], 0)),
  (118, (.getfield 101, 121, 7, 19, [], 0)),
  (121, (.ifCond .eq 7, 124, 128, 0, [], 0)),
  (124, (.iconst 0, 125, 0, 0, [(0, 0)], 0)),
  (125, (.goto 4, 128, 129, 0, [], 0)),
  (128, (.iconst 1, 129, 0, 0, [(1, 0)], 0)),
  (129, (.iadd, 130, 0, 0, [], 0)),
  (130, (.iastore, 131, 0, 0, [], 0)),
  (131, (.return_, 132, 0, 0, [], 0))]
def cp_Model_readThing : List (List Nat) := [[], [], [], [], [], [838, 31], [], [], [], [], [], [842], [0, 843], [], [], [838, 31], [], [], [], [], [], [], [], [], [], [], [], [739], [], [], [739], [], [], [], [], [], [], [], [741], [], [741], [], [], [838, 31], [], [], [], [], [], [], [], [], [739], [], [], [739], [], [724], [], [], [], [], [723], [], [], [], [], [], [], [723], [], [], [], [], [741], [], [], [], [], [], [], []]
def cd_Model_here : mm_C := [(0, (.aload_n 0, 1, 0, 0, [], 0)),
  (1, (.getfield 89, 4, 7, 17, [], 0)),
  (4, (.aload_n 0, 5, 0, 0, [], 0)),
  (5, (.getfield 92, 8, 7, 18, [], 0)),
  (8, (.if_icmp .lt 7, 11, 15, 0, [], 0)),
  (11, (.iconst (-1), 12, 0, 0, [((-1), 0)], 0)),
  (12, (.goto 12, 15, 24, 0, [], 0)),
  (15, (.aload_n 0, 16, 0, 0, [], 0)),
  (16, (.getfield 48, 19, 7, 14, [], 0)),
  (19, (.aload_n 0, 20, 0, 0, [], 0)),
  (20, (.getfield 89, 23, 7, 17, [], 0)),
  (23, (.iaload, 24, 0, 0, [], 0)),
  (24, (.ireturn, 25, 0, 0, [], 0))]
def cp_Model_here : List (List Nat) := [[], [739], [], [740], [], [], [], [], [736], [], [739], [], []]
def cd_Model_in : mm_C := [(0, (.lload_n 0, 1, 0, 0, [], 0)),
  (1, (.lload_n 2, 2, 2, 0, [], 0)),
  (2, (.lcmp, 3, 0, 0, [], 0)),
  (3, (.ifCond .lt 14, 6, 17, 0, [], 0)),
  (6, (.lload_n 0, 7, 0, 0, [], 0)),
  (7, (.lload 4, 9, 4, 0, [], 0)),
  (9, (.lcmp, 10, 0, 0, [], 0)),
  (10, (.ifCond .gt 7, 13, 17, 0, [], 0)),
  (13, (.iconst 1, 14, 0, 0, [(1, 0)], 0)),
  (14, (.goto 4, 17, 18, 0, [], 0)),
  (17, (.iconst 0, 18, 0, 0, [(0, 0)], 0)),
  (18, (.ireturn, 19, 1, 0, [], 0))]
def cp_Model_in : List (List Nat) := [[], [], [], [], [], [], [], [], [], [], [], []]
def cd_Model_readDoing : mm_C := [(0, (.aload_n 0, 1, 0, 0, [], 0)),
  (1, (.iload_n 1, 2, 1, 0, [], 0)),
  (2, (.iconst (-1), 3, 0, 0, [((-1), 0)], 0)),
  (3, (.invokevirtual 105, 6, 123, 3, [], 0)),
  (6, (.istore_n 2, 7, 2, 0, [], 0)),
  (7, (.aload_n 0, 8, 0, 0, [], 0)),
  (8, (.invokevirtual 95, 11, 120, 1, [], 0)),
  (11, (.bipush 120, 13, 0, 0, [(120, 0)], 0)),
  (13, (.isub, 14, 0, 0, [], 0)),
  (14, (.istore_n 3, 15, 3, 0, [], 0)),
  (15, (.aload_n 0, 16, 0, 0, [], 0)),
  (16, (.aload_n 0, 17, 0, 0, [], 0)),
  (17, (.getfield 101, 20, 7, 19, [], 0)),
  (20, (.ifCond .ne 15, 23, 35, 0, [], 0)),
  (23, (.iload_n 3, 24, 3, 0, [], 0)),
  (24, (.i2l, 25, 0, 0, [], 0)),
  (25, (.lconst 0, 26, 0, 0, [], 0)),
  (26, (.ldc2_w 109, 29, 0, 0, [], 2)),
  (29, (.invokestatic 75, 32, 121, 3, [], 0)),
  (32, (.ifCond .ne 7, 35, 39, 0, [], 0)),
  (35, (.iconst 1, 36, 0, 0, [(1, 0)], 0)),
  (36, (.goto 4, 39, 40, 0, [], 0)),
  (39, (.iconst 0, 40, 0, 0, [(0, 0)], 0)),
  (40, (.putfield 101, 43, 7, 19, [(0, 1)], 0)),
  (43, (.aload_n 0, 44, 0, 0, [], 0)),
  (44, (.dup, 45, 0, 0, [], 0)),
  (45, (.getfield 89, 48, 7, 17, [], 0)),
  (48, (.aload_n 0, 49, 0, 0, [], 0)),
  (49, (.getfield 101, 52, 7, 19, [], 0)),
  (52, (.ifCond .eq 7, 55, 59, 0, [], 0)),
  (55, (.iconst 0, 56, 0, 0, [(0, 0)], 0)),
  (56, (.goto 4, 59, 60, 0, [], 0)),
  (59, (.iconst 1, 60, 0, 0, [(1, 0)], 0)),
  (60, (.iadd, 61, 0, 0, [], 0)),
  (61, (.putfield 89, 64, 7, 17, [(0, 0)], 0)),
  (64, (.aload_n 0, 65, 0, 0, [], 0)),
  (65, (.getfield 101, 68, 7, 19, [], 0)),
  (68, (.ifCond .eq 7, 71, 75, 0, [], 0)),
  (71, (.iconst 0, 72, 0, 0, [(0, 0)], 0)),
  (72, (.goto 9, 75, 81, 0, [], 0)),
  (75, (.aload_n 0, 76, 0, 0, [], 0)),
  (76, (.iload_n 1, 77, 1, 0, [], 0)),
  (77, (.iload_n 2, 78, 2, 0, [], 0)),
  (78, (.invokevirtual 105, 81, 123, 3, [], 0)),
  (81, (.istore 4, 83, 4, 0, [], 0)),
  (83, (.aload_n 0, 84, 0, 0, [], 0)),
  (84, (.getfield 101, 87, 7, 19, [], 0)),
  (87, (.ifCond .ne 57, 90, 144, 0, [], 0)),
  (90, (.bipush 9, 92, 0, 0, [(9, 0)], 0)),
  (92, (.iload_n 1, 93, 1, 0, [], 0)),
  (93, (.imul, 94, 0, 0, [], 0)),
  (94, (.iconst 3, 95, 0, 0, [(3, 0)], 0)),
  (95, (.aload_n 0, 96, 0, 0, [], 0)),
  (96, (.getfield 16, 99, 7, 3, [], 0)),
  (99, (.iload_n 1, 100, 1, 0, [], 0)),
  (100, (.iaload, 101, 0, 0, [], 0)),
  (101, (.imul, 102, 0, 0, [], 0)),
  (102, (.iadd, 103, 0, 0, [], 0)),
  (103, (.istore 5, 105, 5, 0, [], 0)),
  (105, (.aload_n 0, 106, 0, 0, [], 0)),
  (106, (.getfield 19, 109, 7, 4, [], 0)),
  (109, (.iload 5, 111, 5, 0, [], 0)),
  (111, (.iload_n 2, 112, 2, 0, [], 0)),
  (112, (.iastore, 113, 0, 0, [], 0)),
  (113, (.aload_n 0, 114, 0, 0, [], 0)),
  (114, (.getfield 19, 117, 7, 4, [], 0)),
  (117, (.iload 5, 119, 5, 0, [], 0)),
  (119, (.iconst 1, 120, 0, 0, [(1, 0)], 0)),
  (120, (.iadd, 121, 0, 0, [], 0)),
  (121, (.iload_n 3, 122, 3, 0, [], 0)),
  (122, (.iastore, 123, 0, 0, [], 0)),
  (123, (.aload_n 0, 124, 0, 0, [], 0)),
  (124, (.getfield 19, 127, 7, 4, [], 0)),
  (127, (.iload 5, 129, 5, 0, [], 0)),
  (129, (.iconst 2, 130, 0, 0, [(2, 0)], 0)),
  (130, (.iadd, 131, 0, 0, [], 0)),
  (131, (.iload 4, 133, 4, 0, [], 0)),
  (133, (.iastore, 134, 0, 0, [], 0)),
  (134, (.aload_n 0, 135, 0, 0, [], 0)),
  (135, (.getfield 16, 138, 7, 3, [], 0)),
  (138, (.iload_n 1, 139, 1, 0, [], 0)),
  (139, (.dup2, 140, 0, 0, [], 0)),
  (140, (.iaload, 141, 0, 0, [], 0)),
  (141, (.iconst 1, 142, 0, 0, [(1, 0)], 0)),
  (142, (.iadd, 143, 0, 0, [], 0)),
  (143, (.iastore, 144, 0, 0, [], 0)),
  (144, (.return_, 145, 0, 0, [], 0))]
def cp_Model_readDoing : List (List Nat) := [[], [], [], [850, 33], [], [], [838, 31], [], [], [], [], [], [741], [], [], [], [], [854], [0, 843], [], [], [], [], [741], [], [], [739], [], [741], [], [], [], [], [], [739], [], [741], [], [], [], [], [], [], [850, 33], [], [], [741], [], [], [], [], [], [], [725], [], [], [], [], [], [], [726], [], [], [], [], [726], [], [], [], [], [], [], [726], [], [], [], [], [], [], [725], [], [], [], [], [], [], []]
def cd_Model_readPlace : mm_C := [(0, (.aload_n 0, 1, 0, 0, [], 0)),
  (1, (.invokevirtual 95, 4, 120, 1, [], 0)),
  (4, (.bipush 48, 6, 0, 0, [(48, 0)], 0)),
  (6, (.isub, 7, 0, 0, [], 0)),
  (7, (.istore_n 3, 8, 3, 0, [], 0)),
  (8, (.aload_n 0, 9, 0, 0, [], 0)),
  (9, (.aload_n 0, 10, 0, 0, [], 0)),
  (10, (.getfield 101, 13, 7, 19, [], 0)),
  (13, (.ifCond .ne 26, 16, 39, 0, [], 0)),
  (16, (.iload_n 3, 17, 3, 0, [], 0)),
  (17, (.i2l, 18, 0, 0, [], 0)),
  (18, (.lconst 0, 19, 0, 0, [], 0)),
  (19, (.aload_n 0, 20, 0, 0, [], 0)),
  (20, (.getfield 7, 23, 7, 1, [], 0)),
  (23, (.iload_n 1, 24, 1, 0, [], 0)),
  (24, (.iaload, 25, 0, 0, [], 0)),
  (25, (.iconst 1, 26, 0, 0, [(1, 0)], 0)),
  (26, (.isub, 27, 0, 0, [], 0)),
  (27, (.i2l, 28, 0, 0, [], 0)),
  (28, (.invokestatic 75, 31, 121, 3, [], 0)),
  (31, (.ifCond .eq 8, 34, 39, 0, [], 0)),
  (34, (.iload_n 3, 35, 3, 0, [], 0)),
  (35, (.iload_n 2, 36, 2, 0, [], 0)),
  (36, (.if_icmp .ne 7, 39, 43, 0, [], 0)),
  (39, (.iconst 1, 40, 0, 0, [(1, 0)], 0)),
  (40, (.goto 4, 43, 44, 0, [], 0)),
  (43, (.iconst 0, 44, 0, 0, [(0, 0)], 0)),
  (44, (.putfield 101, 47, 7, 19, [(0, 1)], 0)),
  (47, (.aload_n 0, 48, 0, 0, [], 0)),
  (48, (.dup, 49, 0, 0, [], 0)),
  (49, (.getfield 89, 52, 7, 17, [], 0)),
  (52, (.aload_n 0, 53, 0, 0, [], 0)),
  (53, (.getfield 101, 56, 7, 19, [], 0)),
  (56, (.ifCond .eq 7, 59, 63, 0, [], 0)),
  (59, (.iconst 0, 60, 0, 0, [(0, 0)], 0)),
  (60, (.goto 4, 63, 64, 0, [], 0)),
  (63, (.iconst 1, 64, 0, 0, [(1, 0)], 0)),
  (64, (.iadd, 65, 0, 0, [], 0)),
  (65, (.putfield 89, 68, 7, 17, [(0, 0)], 0)),
  (68, (.iload_n 3, 69, 3, 0, [], 0)),
  (69, (.ireturn, 70, 0, 0, [], 0))]
def cp_Model_readPlace : List (List Nat) := [[], [838, 31], [], [], [], [], [], [741], [], [], [], [], [], [723], [], [], [], [], [], [0, 843], [], [], [], [], [], [], [], [741], [], [], [739], [], [741], [], [], [], [], [], [739], [], []]
def cd_Model_findHas : mm_C := [(0, (.bipush 90, 2, 0, 0, [(90, 0)], 0)),
  (2, (.iload_n 1, 3, 1, 0, [], 0)),
  (3, (.imul, 4, 0, 0, [], 0)),
  (4, (.istore_n 2, 5, 2, 0, [], 0)),
  (5, (.iconst 0, 6, 0, 0, [(0, 0)], 0)),
  (6, (.istore_n 3, 7, 3, 0, [], 0)),
  (7, (.iload_n 3, 8, 3, 0, [], 0)),
  (8, (.bipush 90, 10, 0, 0, [(90, 0)], 0)),
  (10, (.if_icmp .ge 18, 13, 28, 0, [], 0)),
  (13, (.aload_n 0, 14, 0, 0, [], 0)),
  (14, (.getfield 26, 17, 7, 6, [], 0)),
  (17, (.iload_n 2, 18, 2, 0, [], 0)),
  (18, (.iload_n 3, 19, 3, 0, [], 0)),
  (19, (.iadd, 20, 0, 0, [], 0)),
  (20, (.iconst 0, 21, 0, 0, [(0, 0)], 0)),
  (21, (.bastore, 22, 0, 0, [], 0)),
  (22, (.iinc 3 1, 25, 3, 0, [(1, 0)], 0)),
  (25, (.goto (-18), 28, 7, 0, [], 0)),
  (28, (.bipush 6, 30, 0, 0, [(6, 0)], 0)),
  (30, (.istore_n 3, 31, 3, 0, [], 0)),
  (31, (.iconst 0, 32, 0, 0, [(0, 0)], 0)),
  (32, (.istore 4, 34, 4, 0, [], 0)),
  (34, (.iload 4, 36, 4, 0, [], 0)),
  (36, (.bipush 6, 38, 0, 0, [(6, 0)], 0)),
  (38, (.if_icmp .ge 441, 41, 479, 0, [], 0)),
  (41, (.aload_n 0, 42, 0, 0, [], 0)),
  (42, (.getfield 26, 45, 7, 6, [], 0)),
  (45, (.iload_n 2, 46, 2, 0, [], 0)),
  (46, (.iload 4, 48, 4, 0, [], 0)),
  (48, (.iadd, 49, 0, 0, [], 0)),
  (49, (.aload_n 0, 50, 0, 0, [], 0)),
  (50, (.iload_n 1, 51, 1, 0, [], 0)),
  (51, (.iload 4, 53, 4, 0, [], 0)),
  (53, (.invokevirtual 128, 56, 125, 3, [], 0)),
  (56, (.ifCond .le 7, 59, 63, 0, [], 0)),
  (59, (.iconst 1, 60, 0, 0, [(1, 0)], 0)),
  (60, (.goto 4, 63, 64, 0, [], 0)),
  (63, (.iconst 0, 64, 0, 0, [(0, 0)], 0)),
  (64, (.bastore, 65, 0, 0, [], 0)),
  (65, (.iload 4, 67, 4, 0, [], 0)),
  (67, (.iconst 1, 68, 0, 0, [(1, 0)], 0)),
  (68, (.iadd, 69, 0, 0, [], 0)),
  (69, (.istore 5, 71, 5, 0, [], 0)),
  (71, (.iload 5, 73, 5, 0, [], 0)),
  (73, (.bipush 6, 75, 0, 0, [(6, 0)], 0)),
  (75, (.if_icmp .ge 80, 78, 155, 0, [], 0)),
  (78, (.iconst 0, 79, 0, 0, [(0, 0)], 0)),
  (79, (.istore 6, 81, 6, 0, [], 0)),
  (81, (.iload 6, 83, 6, 0, [], 0)),
  (83, (.aload_n 0, 84, 0, 0, [], 0)),
  (84, (.getfield 7, 87, 7, 1, [], 0)),
  (87, (.iload_n 1, 88, 1, 0, [], 0)),
  (88, (.iaload, 89, 0, 0, [], 0)),
  (89, (.if_icmp .ge 57, 92, 146, 0, [], 0)),
  (92, (.aload_n 0, 93, 0, 0, [], 0)),
  (93, (.getfield 26, 96, 7, 6, [], 0)),
  (96, (.iload_n 2, 97, 2, 0, [], 0)),
  (97, (.iload_n 3, 98, 3, 0, [], 0)),
  (98, (.iadd, 99, 0, 0, [], 0)),
  (99, (.aload_n 0, 100, 0, 0, [], 0)),
  (100, (.getfield 26, 103, 7, 6, [], 0)),
  (103, (.iload_n 2, 104, 2, 0, [], 0)),
  (104, (.iload_n 3, 105, 3, 0, [], 0)),
  (105, (.iadd, 106, 0, 0, [], 0)),
  (106, (.baload, 107, 0, 0, [], 0)),
  (107, (.ifCond .ne 27, 110, 134, 0, [], 0)),
  (110, (.aload_n 0, 111, 0, 0, [], 0)),
  (111, (.iload_n 1, 112, 1, 0, [], 0)),
  (112, (.iload 6, 114, 6, 0, [], 0)),
  (114, (.iload 4, 116, 4, 0, [], 0)),
  (116, (.invokevirtual 124, 119, 126, 4, [], 0)),
  (119, (.ifCond .eq 19, 122, 138, 0, [], 0)),
  (122, (.aload_n 0, 123, 0, 0, [], 0)),
  (123, (.iload_n 1, 124, 1, 0, [], 0)),
  (124, (.iload 6, 126, 6, 0, [], 0)),
  (126, (.iload 5, 128, 5, 0, [], 0)),
  (128, (.invokevirtual 124, 131, 126, 4, [], 0)),
  (131, (.ifCond .eq 7, 134, 138, 0, [], 0)),
  (134, (.iconst 1, 135, 0, 0, [(1, 0)], 0)),
  (135, (.goto 4, 138, 139, 0, [], 0)),
  (138, (.iconst 0, 139, 0, 0, [(0, 0)], 0)),
  (139, (.bastore, 140, 0, 0, [], 0)),
  (140, (.iinc 6 1, 143, 6, 0, [(1, 0)], 0)),
  (143, (.goto (-62), 146, 81, 0, [], 0)),
  (146, (.iinc 3 1, 149, 3, 0, [(1, 0)], 0)),
  (149, (.iinc 5 1, 152, 5, 0, [(1, 0)], 0)),
  (152, (.goto (-81), 155, 71, 0, [], 0)),
  (155, (.iconst 2, 156, 0, 0, [(2, 0)], 0)),
  (156, (.istore 5, 158, 5, 0, [], 0)),
  (158, (.iload 5, 160, 5, 0, [], 0)),
  (160, (.iconst 5, 161, 0, 0, [(5, 0)], 0)),
  (161, (.if_icmp .ge 45, 164, 206, 0, [], 0)),
  (164, (.aload_n 0, 165, 0, 0, [], 0)),
  (165, (.getfield 26, 168, 7, 6, [], 0)),
  (168, (.iload_n 2, 169, 2, 0, [], 0)),
  (169, (.bipush 21, 171, 0, 0, [(21, 0)], 0)),
  (171, (.iadd, 172, 0, 0, [], 0)),
  (172, (.iconst 3, 173, 0, 0, [(3, 0)], 0)),
  (173, (.iload 4, 175, 4, 0, [], 0)),
  (175, (.imul, 176, 0, 0, [], 0)),
  (176, (.iadd, 177, 0, 0, [], 0)),
  (177, (.iload 5, 179, 5, 0, [], 0)),
  (179, (.iadd, 180, 0, 0, [], 0)),
  (180, (.iconst 2, 181, 0, 0, [(2, 0)], 0)),
  (181, (.isub, 182, 0, 0, [], 0)),
  (182, (.aload_n 0, 183, 0, 0, [], 0)),
  (183, (.iload_n 1, 184, 1, 0, [], 0)),
  (184, (.iload 4, 186, 4, 0, [], 0)),
  (186, (.invokevirtual 128, 189, 125, 3, [], 0)),
  (189, (.iload 5, 191, 5, 0, [], 0)),
  (191, (.if_icmp .ne 7, 194, 198, 0, [], 0)),
  (194, (.iconst 1, 195, 0, 0, [(1, 0)], 0)),
  (195, (.goto 4, 198, 199, 0, [], 0)),
  (198, (.iconst 0, 199, 0, 0, [(0, 0)], 0)),
  (199, (.bastore, 200, 0, 0, [], 0)),
  (200, (.iinc 5 1, 203, 5, 0, [(1, 0)], 0)),
  (203, (.goto (-45), 206, 158, 0, [], 0)),
  (206, (.iconst 0, 207, 0, 0, [(0, 0)], 0)),
  (207, (.istore 5, 209, 5, 0, [], 0)),
  (209, (.iload 5, 211, 5, 0, [], 0)),
  (211, (.aload_n 0, 212, 0, 0, [], 0)),
  (212, (.getfield 7, 215, 7, 1, [], 0)),
  (215, (.iload_n 1, 216, 1, 0, [], 0)),
  (216, (.iaload, 217, 0, 0, [], 0)),
  (217, (.if_icmp .ge 78, 220, 295, 0, [], 0)),
  (220, (.aload_n 0, 221, 0, 0, [], 0)),
  (221, (.getfield 13, 224, 7, 2, [], 0)),
  (224, (.iconst 4, 225, 0, 0, [(4, 0)], 0)),
  (225, (.iload_n 1, 226, 1, 0, [], 0)),
  (226, (.imul, 227, 0, 0, [], 0)),
  (227, (.iload 5, 229, 5, 0, [], 0)),
  (229, (.iadd, 230, 0, 0, [], 0)),
  (230, (.iaload, 231, 0, 0, [], 0)),
  (231, (.bipush 64, 233, 0, 0, [(64, 0)], 0)),
  (233, (.if_icmp .lt 8, 236, 241, 0, [], 0)),
  (236, (.bipush 78, 238, 0, 0, [(78, 0)], 0)),
  (238, (.goto 5, 241, 243, 0, [], 0)),
  (241, (.bipush 84, 243, 0, 0, [(84, 0)], 0)),
  (243, (.istore 6, 245, 6, 0, [], 0)),
  (245, (.aload_n 0, 246, 0, 0, [], 0)),
  (246, (.getfield 26, 249, 7, 6, [], 0)),
  (249, (.iload_n 2, 250, 2, 0, [], 0)),
  (250, (.iload 6, 252, 6, 0, [], 0)),
  (252, (.iadd, 253, 0, 0, [], 0)),
  (253, (.iload 4, 255, 4, 0, [], 0)),
  (255, (.iadd, 256, 0, 0, [], 0)),
  (256, (.aload_n 0, 257, 0, 0, [], 0)),
  (257, (.getfield 26, 260, 7, 6, [], 0)),
  (260, (.iload_n 2, 261, 2, 0, [], 0)),
  (261, (.iload 6, 263, 6, 0, [], 0)),
  (263, (.iadd, 264, 0, 0, [], 0)),
  (264, (.iload 4, 266, 4, 0, [], 0)),
  (266, (.iadd, 267, 0, 0, [], 0)),
  (267, (.baload, 268, 0, 0, [], 0)),
  (268, (.ifCond .ne 15, 271, 283, 0, [], 0)),
  (271, (.aload_n 0, 272, 0, 0, [], 0)),
  (272, (.iload_n 1, 273, 1, 0, [], 0)),
  (273, (.iload 5, 275, 5, 0, [], 0)),
  (275, (.iload 4, 277, 4, 0, [], 0)),
  (277, (.invokevirtual 124, 280, 126, 4, [], 0)),
  (280, (.ifCond .eq 7, 283, 287, 0, [], 0)),
  (283, (.iconst 1, 284, 0, 0, [(1, 0)], 0)),
  (284, (.goto 4, 287, 288, 0, [], 0)),
  (287, (.iconst 0, 288, 0, 0, [(0, 0)], 0)),
  (288, (.bastore, 289, 0, 0, [], 0)),
  (289, (.iinc 5 1, 292, 5, 0, [(1, 0)], 0)),
  (292, (.goto (-83), 295, 209, 0, [], 0)),
  (295, (.bipush 9, 297, 0, 0, [(9, 0)], 0)),
  (297, (.iload_n 1, 298, 1, 0, [], 0)),
  (298, (.imul, 299, 0, 0, [], 0)),
  (299, (.istore 5, 301, 5, 0, [], 0)),
  (301, (.iload 5, 303, 5, 0, [], 0)),
  (303, (.bipush 9, 305, 0, 0, [(9, 0)], 0)),
  (305, (.iload_n 1, 306, 1, 0, [], 0)),
  (306, (.imul, 307, 0, 0, [], 0)),
  (307, (.iconst 3, 308, 0, 0, [(3, 0)], 0)),
  (308, (.aload_n 0, 309, 0, 0, [], 0)),
  (309, (.getfield 16, 312, 7, 3, [], 0)),
  (312, (.iload_n 1, 313, 1, 0, [], 0)),
  (313, (.iaload, 314, 0, 0, [], 0)),
  (314, (.imul, 315, 0, 0, [], 0)),
  (315, (.iadd, 316, 0, 0, [], 0)),
  (316, (.if_icmp .ge 157, 319, 473, 0, [], 0)),
  (319, (.aload_n 0, 320, 0, 0, [], 0)),
  (320, (.getfield 19, 323, 7, 4, [], 0)),
  (323, (.iload 5, 325, 5, 0, [], 0)),
  (325, (.iconst 1, 326, 0, 0, [(1, 0)], 0)),
  (326, (.iadd, 327, 0, 0, [], 0)),
  (327, (.iaload, 328, 0, 0, [], 0)),
  (328, (.istore 6, 330, 6, 0, [], 0)),
  (330, (.aload_n 0, 331, 0, 0, [], 0)),
  (331, (.getfield 26, 334, 7, 6, [], 0)),
  (334, (.iload_n 2, 335, 2, 0, [], 0)),
  (335, (.bipush 39, 337, 0, 0, [(39, 0)], 0)),
  (337, (.iadd, 338, 0, 0, [], 0)),
  (338, (.iload 6, 340, 6, 0, [], 0)),
  (340, (.iadd, 341, 0, 0, [], 0)),
  (341, (.iconst 1, 342, 0, 0, [(1, 0)], 0)),
  (342, (.bastore, 343, 0, 0, [], 0)),
  (343, (.aload_n 0, 344, 0, 0, [], 0)),
  (344, (.getfield 26, 347, 7, 6, [], 0)),
  (347, (.iload_n 2, 348, 2, 0, [], 0)),
  (348, (.bipush 42, 350, 0, 0, [(42, 0)], 0)),
  (350, (.iadd, 351, 0, 0, [], 0)),
  (351, (.bipush 6, 353, 0, 0, [(6, 0)], 0)),
  (353, (.iload 6, 355, 6, 0, [], 0)),
  (355, (.imul, 356, 0, 0, [], 0)),
  (356, (.iadd, 357, 0, 0, [], 0)),
  (357, (.iload 4, 359, 4, 0, [], 0)),
  (359, (.iadd, 360, 0, 0, [], 0)),
  (360, (.aload_n 0, 361, 0, 0, [], 0)),
  (361, (.getfield 26, 364, 7, 6, [], 0)),
  (364, (.iload_n 2, 365, 2, 0, [], 0)),
  (365, (.bipush 42, 367, 0, 0, [(42, 0)], 0)),
  (367, (.iadd, 368, 0, 0, [], 0)),
  (368, (.bipush 6, 370, 0, 0, [(6, 0)], 0)),
  (370, (.iload 6, 372, 6, 0, [], 0)),
  (372, (.imul, 373, 0, 0, [], 0)),
  (373, (.iadd, 374, 0, 0, [], 0)),
  (374, (.iload 4, 376, 4, 0, [], 0)),
  (376, (.iadd, 377, 0, 0, [], 0)),
  (377, (.baload, 378, 0, 0, [], 0)),
  (378, (.ifCond .ne 20, 381, 398, 0, [], 0)),
  (381, (.aload_n 0, 382, 0, 0, [], 0)),
  (382, (.iload_n 1, 383, 1, 0, [], 0)),
  (383, (.aload_n 0, 384, 0, 0, [], 0)),
  (384, (.getfield 19, 387, 7, 4, [], 0)),
  (387, (.iload 5, 389, 5, 0, [], 0)),
  (389, (.iaload, 390, 0, 0, [], 0)),
  (390, (.iload 4, 392, 4, 0, [], 0)),
  (392, (.invokevirtual 124, 395, 126, 4, [], 0)),
  (395, (.ifCond .eq 7, 398, 402, 0, [], 0)),
  (398, (.iconst 1, 399, 0, 0, [(1, 0)], 0)),
  (399, (.goto 4, 402, 403, 0, [], 0)),
  (402, (.iconst 0, 403, 0, 0, [(0, 0)], 0)),
  (403, (.bastore, 404, 0, 0, [], 0)),
  (404, (.aload_n 0, 405, 0, 0, [], 0)),
  (405, (.getfield 26, 408, 7, 6, [], 0)),
  (408, (.iload_n 2, 409, 2, 0, [], 0)),
  (409, (.bipush 60, 411, 0, 0, [(60, 0)], 0)),
  (411, (.iadd, 412, 0, 0, [], 0)),
  (412, (.bipush 6, 414, 0, 0, [(6, 0)], 0)),
  (414, (.iload 6, 416, 6, 0, [], 0)),
  (416, (.imul, 417, 0, 0, [], 0)),
  (417, (.iadd, 418, 0, 0, [], 0)),
  (418, (.iload 4, 420, 4, 0, [], 0)),
  (420, (.iadd, 421, 0, 0, [], 0)),
  (421, (.aload_n 0, 422, 0, 0, [], 0)),
  (422, (.getfield 26, 425, 7, 6, [], 0)),
  (425, (.iload_n 2, 426, 2, 0, [], 0)),
  (426, (.bipush 60, 428, 0, 0, [(60, 0)], 0)),
  (428, (.iadd, 429, 0, 0, [], 0)),
  (429, (.bipush 6, 431, 0, 0, [(6, 0)], 0)),
  (431, (.iload 6, 433, 6, 0, [], 0)),
  (433, (.imul, 434, 0, 0, [], 0)),
  (434, (.iadd, 435, 0, 0, [], 0)),
  (435, (.iload 4, 437, 4, 0, [], 0)),
  (437, (.iadd, 438, 0, 0, [], 0)),
  (438, (.baload, 439, 0, 0, [], 0)),
  (439, (.ifCond .ne 22, 442, 461, 0, [], 0)),
  (442, (.aload_n 0, 443, 0, 0, [], 0)),
  (443, (.iload_n 1, 444, 1, 0, [], 0)),
  (444, (.aload_n 0, 445, 0, 0, [], 0)),
  (445, (.getfield 19, 448, 7, 4, [], 0)),
  (448, (.iload 5, 450, 5, 0, [], 0)),
  (450, (.iconst 2, 451, 0, 0, [(2, 0)], 0)),
  (451, (.iadd, 452, 0, 0, [], 0)),
  (452, (.iaload, 453, 0, 0, [], 0)),
  (453, (.iload 4, 455, 4, 0, [], 0)),
  (455, (.invokevirtual 124, 458, 126, 4, [], 0)),
  (458, (.ifCond .eq 7, 461, 465, 0, [], 0)),
  (461, (.iconst 1, 462, 0, 0, [(1, 0)], 0)),
  (462, (.goto 4, 465, 466, 0, [], 0)),
  (465, (.iconst 0, 466, 0, 0, [(0, 0)], 0)),
  (466, (.bastore, 467, 0, 0, [], 0)),
  (467, (.iinc 5 3, 470, 5, 0, [(3, 0)], 0)),
  (470, (.goto (-169), 473, 301, 0, [], 0)),
  (473, (.iinc 4 1, 476, 4, 0, [(1, 0)], 0)),
  (476, (.goto (-442), 479, 34, 0, [], 0)),
  (479, (.return_, 480, 0, 0, [], 0))]
def cp_Model_findHas : List (List Nat) := [[], [], [], [], [], [], [], [], [], [], [728], [], [], [], [], [], [], [], [], [], [], [], [], [], [], [], [728], [], [], [], [], [], [], [859, 35], [], [], [], [], [], [], [], [], [], [], [], [], [], [], [], [], [723], [], [], [], [], [728], [], [], [], [], [728], [], [], [], [], [], [], [], [], [], [863, 36], [], [], [], [], [], [863, 36], [], [], [], [], [], [], [], [], [], [], [], [], [], [], [], [], [728], [], [], [], [], [], [], [], [], [], [], [], [], [], [], [859, 35], [], [], [], [], [], [], [], [], [], [], [], [], [723], [], [], [], [], [724], [], [], [], [], [], [], [], [], [], [], [], [], [], [728], [], [], [], [], [], [], [728], [], [], [], [], [], [], [], [], [], [], [], [863, 36], [], [], [], [], [], [], [], [], [], [], [], [], [], [], [], [], [], [725], [], [], [], [], [], [], [726], [], [], [], [], [], [], [728], [], [], [], [], [], [], [], [], [728], [], [], [], [], [], [], [], [], [], [], [728], [], [], [], [], [], [], [], [], [], [], [], [], [], [], [726], [], [], [], [863, 36], [], [], [], [], [], [], [728], [], [], [], [], [], [], [], [], [], [], [728], [], [], [], [], [], [], [], [], [], [], [], [], [], [], [726], [], [], [], [], [], [863, 36], [], [], [], [], [], [], [], [], [], []]
def cd_Model_manyWith : mm_C := [(0, (.iconst 0, 1, 0, 0, [(0, 0)], 0)),
  (1, (.istore_n 3, 2, 3, 0, [], 0)),
  (2, (.iconst 0, 3, 0, 0, [(0, 0)], 0)),
  (3, (.istore 4, 5, 4, 0, [], 0)),
  (5, (.iload 4, 7, 4, 0, [], 0)),
  (7, (.aload_n 0, 8, 0, 0, [], 0)),
  (8, (.getfield 7, 11, 7, 1, [], 0)),
  (11, (.iload_n 1, 12, 1, 0, [], 0)),
  (12, (.iaload, 13, 0, 0, [], 0)),
  (13, (.if_icmp .ge 28, 16, 41, 0, [], 0)),
  (16, (.iload_n 3, 17, 3, 0, [], 0)),
  (17, (.aload_n 0, 18, 0, 0, [], 0)),
  (18, (.iload_n 1, 19, 1, 0, [], 0)),
  (19, (.iload 4, 21, 4, 0, [], 0)),
  (21, (.iload_n 2, 22, 2, 0, [], 0)),
  (22, (.invokevirtual 124, 25, 126, 4, [], 0)),
  (25, (.ifCond .eq 7, 28, 32, 0, [], 0)),
  (28, (.iconst 1, 29, 0, 0, [(1, 0)], 0)),
  (29, (.goto 4, 32, 33, 0, [], 0)),
  (32, (.iconst 0, 33, 0, 0, [(0, 0)], 0)),
  (33, (.iadd, 34, 0, 0, [], 0)),
  (34, (.istore_n 3, 35, 3, 0, [], 0)),
  (35, (.iinc 4 1, 38, 4, 0, [(1, 0)], 0)),
  (38, (.goto (-33), 41, 5, 0, [], 0)),
  (41, (.iload_n 3, 42, 3, 0, [], 0)),
  (42, (.ireturn, 43, 0, 0, [], 0))]
def cp_Model_manyWith : List (List Nat) := [[], [], [], [], [], [], [723], [], [], [], [], [], [], [], [], [863, 36], [], [], [], [], [], [], [], [], [], []]
def cd_Model_hasMark : mm_C := [(0, (.aload_n 0, 1, 0, 0, [], 0)),
  (1, (.getfield 13, 4, 7, 2, [], 0)),
  (4, (.iconst 4, 5, 0, 0, [(4, 0)], 0)),
  (5, (.iload_n 1, 6, 1, 0, [], 0)),
  (6, (.imul, 7, 0, 0, [], 0)),
  (7, (.iload_n 2, 8, 2, 0, [], 0)),
  (8, (.iadd, 9, 0, 0, [], 0)),
  (9, (.iaload, 10, 0, 0, [], 0)),
  (10, (.iload_n 3, 11, 3, 0, [], 0)),
  (11, (.ishr, 12, 0, 0, [], 0)),
  (12, (.iconst 1, 13, 0, 0, [(1, 0)], 0)),
  (13, (.iand, 14, 0, 0, [], 0)),
  (14, (.iconst 1, 15, 0, 0, [(1, 0)], 0)),
  (15, (.if_icmp .ne 7, 18, 22, 0, [], 0)),
  (18, (.iconst 1, 19, 0, 0, [(1, 0)], 0)),
  (19, (.goto 4, 22, 23, 0, [], 0)),
  (22, (.iconst 0, 23, 0, 0, [(0, 0)], 0)),
  (23, (.ireturn, 24, 1, 0, [], 0))]
def cp_Model_hasMark : List (List Nat) := [[], [724], [], [], [], [], [], [], [], [], [], [], [], [], [], [], [], []]
def cd_Model_takeBack : mm_C := [(0, (.aload_n 0, 1, 0, 0, [], 0)),
  (1, (.getfield 72, 4, 7, 0, [], 0)),
  (4, (.ifCond .ne 10, 7, 14, 0, [], 0)),
  (7, (.aload_n 0, 8, 0, 0, [], 0)),
  (8, (.bipush (-3), 10, 0, 0, [((-3), 0)], 0)),
  (10, (.invokevirtual 83, 13, 116, 2, [], 0)),
  (13, (.ireturn, 14, 0, 0, [], 0)),
  (14, (.aload_n 0, 15, 0, 0, [], 0)),
  (15, (.dup, 16, 0, 0, [], 0)),
  (16, (.getfield 72, 19, 7, 0, [], 0)),
  (19, (.iconst 1, 20, 0, 0, [(1, 0)], 0)),
  (20, (.isub, 21, 0, 0, [], 0)),
  (21, (.putfield 72, 24, 7, 0, [(0, 0)], 0)),
  (24, (.iconst 0, 25, 0, 0, [(0, 0)], 0)),
  (25, (.istore_n 1, 26, 1, 0, [], 0)),
  (26, (.iconst 0, 27, 0, 0, [(0, 0)], 0)),
  (27, (.istore_n 2, 28, 2, 0, [], 0)),
  (28, (.iload_n 2, 29, 2, 0, [], 0)),
  (29, (.aload_n 0, 30, 0, 0, [], 0)),
  (30, (.getfield 131, 33, 7, 11, [], 0)),
  (33, (.if_icmp .ge 49, 36, 82, 0, [], 0)),
  (36, (.aload_n 0, 37, 0, 0, [], 0)),
  (37, (.getfield 42, 40, 7, 12, [], 0)),
  (40, (.iload_n 2, 41, 2, 0, [], 0)),
  (41, (.iaload, 42, 0, 0, [], 0)),
  (42, (.aload_n 0, 43, 0, 0, [], 0)),
  (43, (.getfield 72, 46, 7, 0, [], 0)),
  (46, (.if_icmp .eq 30, 49, 76, 0, [], 0)),
  (49, (.aload_n 0, 50, 0, 0, [], 0)),
  (50, (.getfield 42, 53, 7, 12, [], 0)),
  (53, (.iload_n 1, 54, 1, 0, [], 0)),
  (54, (.aload_n 0, 55, 0, 0, [], 0)),
  (55, (.getfield 42, 58, 7, 12, [], 0)),
  (58, (.iload_n 2, 59, 2, 0, [], 0)),
  (59, (.iaload, 60, 0, 0, [], 0)),
  (60, (.iastore, 61, 0, 0, [], 0)),
  (61, (.aload_n 0, 62, 0, 0, [], 0)),
  (62, (.getfield 45, 65, 7, 13, [], 0)),
  (65, (.iload_n 1, 66, 1, 0, [], 0)),
  (66, (.aload_n 0, 67, 0, 0, [], 0)),
  (67, (.getfield 45, 70, 7, 13, [], 0)),
  (70, (.iload_n 2, 71, 2, 0, [], 0)),
  (71, (.iaload, 72, 0, 0, [], 0)),
  (72, (.iastore, 73, 0, 0, [], 0)),
  (73, (.iinc 1 1, 76, 1, 0, [(1, 0)], 0)),
  (76, (.iinc 2 1, 79, 2, 0, [(1, 0)], 0)),
  (79, (.goto (-51), 82, 28, 0, [], 0)),
  (82, (.aload_n 0, 83, 0, 0, [], 0)),
  (83, (.iload_n 1, 84, 1, 0, [], 0)),
  (84, (.putfield 131, 87, 7, 11, [(0, 0)], 0)),
  (87, (.aload_n 0, 88, 0, 0, [], 0)),
  (88, (.getfield 72, 91, 7, 0, [], 0)),
  (91, (.ireturn, 92, 0, 0, [], 0))]
def cp_Model_takeBack : List (List Nat) := [[], [722], [], [], [], [821, 28], [], [], [], [722], [], [], [722], [], [], [], [], [], [], [733], [], [], [734], [], [], [], [722], [], [], [734], [], [], [734], [], [], [], [], [735], [], [], [735], [], [], [], [], [], [], [], [], [733], [], [722], []]
def cd_Model_thing : mm_C := [(0, (.aload_n 0, 1, 0, 0, [], 0)),
  (1, (.iload_n 1, 2, 1, 0, [], 0)),
  (2, (.invokevirtual 134, 5, 129, 2, [], 0)),
  (5, (.ifCond .ne 9, 8, 14, 0, [], 0)),
  (8, (.aload_n 0, 9, 0, 0, [], 0)),
  (9, (.iconst (-1), 10, 0, 0, [((-1), 0)], 0)),
  (10, (.invokevirtual 83, 13, 116, 2, [], 0)),
  (13, (.ireturn, 14, 0, 0, [], 0)),
  (14, (.iload_n 2, 15, 2, 0, [], 0)),
  (15, (.i2l, 16, 0, 0, [], 0)),
  (16, (.lconst 0, 17, 0, 0, [], 0)),
  (17, (.aload_n 0, 18, 0, 0, [], 0)),
  (18, (.getfield 7, 21, 7, 1, [], 0)),
  (21, (.iload_n 1, 22, 1, 0, [], 0)),
  (22, (.iaload, 23, 0, 0, [], 0)),
  (23, (.iconst 1, 24, 0, 0, [(1, 0)], 0)),
  (24, (.isub, 25, 0, 0, [], 0)),
  (25, (.i2l, 26, 0, 0, [], 0)),
  (26, (.invokestatic 75, 29, 121, 3, [], 0)),
  (29, (.ifCond .eq 16, 32, 45, 0, [], 0)),
  (32, (.aload_n 0, 33, 0, 0, [], 0)),
  (33, (.getfield 13, 36, 7, 2, [], 0)),
  (36, (.iconst 4, 37, 0, 0, [(4, 0)], 0)),
  (37, (.iload_n 1, 38, 1, 0, [], 0)),
  (38, (.imul, 39, 0, 0, [], 0)),
  (39, (.iload_n 2, 40, 2, 0, [], 0)),
  (40, (.iadd, 41, 0, 0, [], 0)),
  (41, (.iaload, 42, 0, 0, [], 0)),
  (42, (.goto 5, 45, 47, 0, [], 0)),
  (45, (.bipush (-9), 47, 0, 0, [((-9), 0)], 0)),
  (47, (.ireturn, 48, 0, 0, [], 0))]
def cp_Model_thing : List (List Nat) := [[], [], [875, 37], [], [], [], [821, 28], [], [], [], [], [], [723], [], [], [], [], [], [0, 843], [], [], [724], [], [], [], [], [], [], [], [], []]
def cd_Model_isScene : mm_C := [(0, (.iload_n 1, 1, 1, 0, [], 0)),
  (1, (.i2l, 2, 0, 0, [], 0)),
  (2, (.lconst 0, 3, 0, 0, [], 0)),
  (3, (.aload_n 0, 4, 0, 0, [], 0)),
  (4, (.getfield 72, 7, 7, 0, [], 0)),
  (7, (.iconst 1, 8, 0, 0, [(1, 0)], 0)),
  (8, (.isub, 9, 0, 0, [], 0)),
  (9, (.i2l, 10, 0, 0, [], 0)),
  (10, (.invokestatic 75, 13, 121, 3, [], 0)),
  (13, (.ireturn, 14, 1, 0, [], 0))]
def cp_Model_isScene : List (List Nat) := [[], [], [], [], [722], [], [], [], [0, 843], []]
def cd_Model_doing : mm_C := [(0, (.aload_n 0, 1, 0, 0, [], 0)),
  (1, (.iload_n 1, 2, 1, 0, [], 0)),
  (2, (.invokevirtual 134, 5, 129, 2, [], 0)),
  (5, (.ifCond .ne 9, 8, 14, 0, [], 0)),
  (8, (.aload_n 0, 9, 0, 0, [], 0)),
  (9, (.iconst (-1), 10, 0, 0, [((-1), 0)], 0)),
  (10, (.invokevirtual 83, 13, 116, 2, [], 0)),
  (13, (.ireturn, 14, 0, 0, [], 0)),
  (14, (.bipush 9, 16, 0, 0, [(9, 0)], 0)),
  (16, (.iload_n 1, 17, 1, 0, [], 0)),
  (17, (.imul, 18, 0, 0, [], 0)),
  (18, (.iconst 3, 19, 0, 0, [(3, 0)], 0)),
  (19, (.iload_n 2, 20, 2, 0, [], 0)),
  (20, (.imul, 21, 0, 0, [], 0)),
  (21, (.iadd, 22, 0, 0, [], 0)),
  (22, (.istore_n 3, 23, 3, 0, [], 0)),
  (23, (.iload_n 2, 24, 2, 0, [], 0)),
  (24, (.i2l, 25, 0, 0, [], 0)),
  (25, (.lconst 0, 26, 0, 0, [], 0)),
  (26, (.aload_n 0, 27, 0, 0, [], 0)),
  (27, (.getfield 16, 30, 7, 3, [], 0)),
  (30, (.iload_n 1, 31, 1, 0, [], 0)),
  (31, (.iaload, 32, 0, 0, [], 0)),
  (32, (.iconst 1, 33, 0, 0, [(1, 0)], 0)),
  (33, (.isub, 34, 0, 0, [], 0)),
  (34, (.i2l, 35, 0, 0, [], 0)),
  (35, (.invokestatic 75, 38, 121, 3, [], 0)),
  (38, (.ifCond .eq 36, 41, 74, 0, [], 0)),
  (41, (.bipush 100, 43, 0, 0, [(100, 0)], 0)),
  (43, (.aload_n 0, 44, 0, 0, [], 0)),
  (44, (.getfield 19, 47, 7, 4, [], 0)),
  (47, (.iload_n 3, 48, 3, 0, [], 0)),
  (48, (.iaload, 49, 0, 0, [], 0)),
  (49, (.imul, 50, 0, 0, [], 0)),
  (50, (.bipush 10, 52, 0, 0, [(10, 0)], 0)),
  (52, (.aload_n 0, 53, 0, 0, [], 0)),
  (53, (.getfield 19, 56, 7, 4, [], 0)),
  (56, (.iload_n 3, 57, 3, 0, [], 0)),
  (57, (.iconst 1, 58, 0, 0, [(1, 0)], 0)),
  (58, (.iadd, 59, 0, 0, [], 0)),
  (59, (.iaload, 60, 0, 0, [], 0)),
  (60, (.imul, 61, 0, 0, [], 0)),
  (61, (.iadd, 62, 0, 0, [], 0)),
  (62, (.aload_n 0, 63, 0, 0, [], 0)),
  (63, (.getfield 19, 66, 7, 4, [], 0)),
  (66, (.iload_n 3, 67, 3, 0, [], 0)),
  (67, (.iconst 2, 68, 0, 0, [(2, 0)], 0)),
  (68, (.iadd, 69, 0, 0, [], 0)),
  (69, (.iaload, 70, 0, 0, [], 0)),
  (70, (.iadd, 71, 0, 0, [], 0)),
  (71, (.goto 5, 74, 76, 0, [], 0)),
  (74, (.bipush (-9), 76, 0, 0, [((-9), 0)], 0)),
  (76, (.ireturn, 77, 0, 0, [], 0))]
def cp_Model_doing : List (List Nat) := [[], [], [875, 37], [], [], [], [821, 28], [], [], [], [], [], [], [], [], [], [], [], [], [], [725], [], [], [], [], [], [0, 843], [], [], [], [726], [], [], [], [], [], [726], [], [], [], [], [], [], [], [726], [], [], [], [], [], [], [], []]
def cd_Model_say : mm_C := [(0, (.aload_n 0, 1, 0, 0, [], 0)),
  (1, (.iload_n 1, 2, 1, 0, [], 0)),
  (2, (.invokevirtual 134, 5, 129, 2, [], 0)),
  (5, (.ifCond .eq 10, 8, 15, 0, [], 0)),
  (8, (.iload_n 2, 9, 2, 0, [], 0)),
  (9, (.invokestatic 138, 12, 132, 1, [], 0)),
  (12, (.ifCond .ne 9, 15, 21, 0, [], 0)),
  (15, (.aload_n 0, 16, 0, 0, [], 0)),
  (16, (.iconst (-1), 17, 0, 0, [((-1), 0)], 0)),
  (17, (.invokevirtual 83, 20, 116, 2, [], 0)),
  (20, (.ireturn, 21, 0, 0, [], 0)),
  (21, (.aload_n 0, 22, 0, 0, [], 0)),
  (22, (.getfield 22, 25, 7, 5, [], 0)),
  (25, (.bipush 6, 27, 0, 0, [(6, 0)], 0)),
  (27, (.iload_n 1, 28, 1, 0, [], 0)),
  (28, (.imul, 29, 0, 0, [], 0)),
  (29, (.iload_n 2, 30, 2, 0, [], 0)),
  (30, (.iadd, 31, 0, 0, [], 0)),
  (31, (.baload, 32, 0, 0, [], 0)),
  (32, (.istore 4, 34, 4, 0, [], 0)),
  (34, (.aload_n 0, 35, 0, 0, [], 0)),
  (35, (.getfield 22, 38, 7, 5, [], 0)),
  (38, (.bipush 6, 40, 0, 0, [(6, 0)], 0)),
  (40, (.iload_n 1, 41, 1, 0, [], 0)),
  (41, (.imul, 42, 0, 0, [], 0)),
  (42, (.iload_n 2, 43, 2, 0, [], 0)),
  (43, (.iadd, 44, 0, 0, [], 0)),
  (44, (.iload_n 3, 45, 3, 0, [], 0)),
  (45, (.bastore, 46, 0, 0, [], 0)),
  (46, (.iload 4, 48, 4, 0, [], 0)),
  (48, (.iload_n 3, 49, 3, 0, [], 0)),
  (49, (.if_icmp .ne 7, 52, 56, 0, [], 0)),
  (52, (.iconst 0, 53, 0, 0, [(0, 0)], 0)),
  (53, (.goto 4, 56, 57, 0, [], 0)),
  (56, (.iconst 1, 57, 0, 0, [(1, 0)], 0)),
  (57, (.ireturn, 58, 0, 0, [], 0))]
def cp_Model_say : List (List Nat) := [[], [], [875, 37], [], [], [0, 887], [], [], [], [821, 28], [], [], [727], [], [], [], [], [], [], [], [], [727], [], [], [], [], [], [], [], [], [], [], [], [], [], []]
def cd_Model_isWord : mm_C := [(0, (.iload_n 0, 1, 0, 0, [], 0)),
  (1, (.i2l, 2, 0, 0, [], 0)),
  (2, (.lconst 0, 3, 0, 0, [], 0)),
  (3, (.ldc2_w 79, 6, 0, 0, [], 5)),
  (6, (.invokestatic 75, 9, 121, 3, [], 0)),
  (9, (.ireturn, 10, 1, 0, [], 0))]
def cp_Model_isWord : List (List Nat) := [[], [], [], [890], [0, 843], []]
def cd_Model_said : mm_C := [(0, (.iload_n 1, 1, 1, 0, [], 0)),
  (1, (.invokestatic 138, 4, 132, 1, [], 0)),
  (4, (.ifCond .eq 11, 7, 15, 0, [], 0)),
  (7, (.aload_n 0, 8, 0, 0, [], 0)),
  (8, (.iload_n 1, 9, 1, 0, [], 0)),
  (9, (.invokevirtual 141, 12, 134, 2, [], 0)),
  (12, (.goto 8, 15, 20, 0, [], 0)),
  (15, (.aload_n 0, 16, 0, 0, [], 0)),
  (16, (.iconst (-1), 17, 0, 0, [((-1), 0)], 0)),
  (17, (.invokevirtual 83, 20, 116, 2, [], 0)),
  (20, (.ireturn, 21, 0, 0, [], 0))]
def cp_Model_said : List (List Nat) := [[], [0, 887], [], [], [], [895, 38], [], [], [], [821, 28], []]
def cd_Model_saidIn : mm_C := [(0, (.iconst 0, 1, 0, 0, [(0, 0)], 0)),
  (1, (.istore_n 2, 2, 2, 0, [], 0)),
  (2, (.iconst 0, 3, 0, 0, [(0, 0)], 0)),
  (3, (.istore_n 3, 4, 3, 0, [], 0)),
  (4, (.iload_n 3, 5, 3, 0, [], 0)),
  (5, (.aload_n 0, 6, 0, 0, [], 0)),
  (6, (.getfield 72, 9, 7, 0, [], 0)),
  (9, (.if_icmp .ge 31, 12, 40, 0, [], 0)),
  (12, (.iload_n 2, 13, 2, 0, [], 0)),
  (13, (.aload_n 0, 14, 0, 0, [], 0)),
  (14, (.getfield 22, 17, 7, 5, [], 0)),
  (17, (.bipush 6, 19, 0, 0, [(6, 0)], 0)),
  (19, (.iload_n 3, 20, 3, 0, [], 0)),
  (20, (.imul, 21, 0, 0, [], 0)),
  (21, (.iload_n 1, 22, 1, 0, [], 0)),
  (22, (.iadd, 23, 0, 0, [], 0)),
  (23, (.baload, 24, 0, 0, [], 0)),
  (24, (.ifCond .eq 7, 27, 31, 0, [], 0)),
  (27, (.iconst 1, 28, 0, 0, [(1, 0)], 0)),
  (28, (.goto 4, 31, 32, 0, [], 0)),
  (31, (.iconst 0, 32, 0, 0, [(0, 0)], 0)),
  (32, (.iadd, 33, 0, 0, [], 0)),
  (33, (.istore_n 2, 34, 2, 0, [], 0)),
  (34, (.iinc 3 1, 37, 3, 0, [(1, 0)], 0)),
  (37, (.goto (-33), 40, 4, 0, [], 0)),
  (40, (.iload_n 2, 41, 2, 0, [], 0)),
  (41, (.ireturn, 42, 0, 0, [], 0))]
def cp_Model_saidIn : List (List Nat) := [[], [], [], [], [], [], [722], [], [], [], [727], [], [], [], [], [], [], [], [], [], [], [], [], [], [], [], []]
def cd_Model_kind : mm_C := [(0, (.iload_n 1, 1, 1, 0, [], 0)),
  (1, (.invokestatic 144, 4, 136, 1, [], 0)),
  (4, (.ifCond .eq 10, 7, 14, 0, [], 0)),
  (7, (.iload_n 1, 8, 1, 0, [], 0)),
  (8, (.invokestatic 147, 11, 137, 1, [], 0)),
  (11, (.goto 8, 14, 19, 0, [], 0)),
  (14, (.aload_n 0, 15, 0, 0, [], 0)),
  (15, (.iconst (-1), 16, 0, 0, [((-1), 0)], 0)),
  (16, (.invokevirtual 83, 19, 116, 2, [], 0)),
  (19, (.ireturn, 20, 0, 0, [], 0))]
def cp_Model_kind : List (List Nat) := [[], [0, 903], [], [], [0, 907], [], [], [], [821, 28], []]
def cd_Model_isMeaning : mm_C := [(0, (.iload_n 0, 1, 0, 0, [], 0)),
  (1, (.i2l, 2, 0, 0, [], 0)),
  (2, (.lconst 0, 3, 0, 0, [], 0)),
  (3, (.ldc2_w 81, 6, 0, 0, [], 89)),
  (6, (.invokestatic 75, 9, 121, 3, [], 0)),
  (9, (.ireturn, 10, 1, 0, [], 0))]
def cp_Model_isMeaning : List (List Nat) := [[], [], [], [906], [0, 843], []]
def cd_Model_kindOf : mm_C := [(0, (.iload_n 0, 1, 0, 0, [], 0)),
  (1, (.bipush 6, 3, 0, 0, [(6, 0)], 0)),
  (3, (.if_icmp .ge 7, 6, 10, 0, [], 0)),
  (6, (.iconst 0, 7, 0, 0, [(0, 0)], 0)),
  (7, (.goto 66, 10, 73, 0, [], 0)),
  (10, (.iload_n 0, 11, 0, 0, [], 0)),
  (11, (.bipush 21, 13, 0, 0, [(21, 0)], 0)),
  (13, (.if_icmp .ge 7, 16, 20, 0, [], 0)),
  (16, (.iconst 1, 17, 0, 0, [(1, 0)], 0)),
  (17, (.goto 56, 20, 73, 0, [], 0)),
  (20, (.iload_n 0, 21, 0, 0, [], 0)),
  (21, (.bipush 39, 23, 0, 0, [(39, 0)], 0)),
  (23, (.if_icmp .ge 7, 26, 30, 0, [], 0)),
  (26, (.iconst 2, 27, 0, 0, [(2, 0)], 0)),
  (27, (.goto 46, 30, 73, 0, [], 0)),
  (30, (.iload_n 0, 31, 0, 0, [], 0)),
  (31, (.bipush 42, 33, 0, 0, [(42, 0)], 0)),
  (33, (.if_icmp .ge 7, 36, 40, 0, [], 0)),
  (36, (.iconst 3, 37, 0, 0, [(3, 0)], 0)),
  (37, (.goto 36, 40, 73, 0, [], 0)),
  (40, (.iload_n 0, 41, 0, 0, [], 0)),
  (41, (.bipush 60, 43, 0, 0, [(60, 0)], 0)),
  (43, (.if_icmp .ge 7, 46, 50, 0, [], 0)),
  (46, (.iconst 4, 47, 0, 0, [(4, 0)], 0)),
  (47, (.goto 26, 50, 73, 0, [], 0)),
  (50, (.iload_n 0, 51, 0, 0, [], 0)),
  (51, (.bipush 78, 53, 0, 0, [(78, 0)], 0)),
  (53, (.if_icmp .ge 7, 56, 60, 0, [], 0)),
  (56, (.iconst 5, 57, 0, 0, [(5, 0)], 0)),
  (57, (.goto 16, 60, 73, 0, [], 0)),
  (60, (.iload_n 0, 61, 0, 0, [], 0)),
  (61, (.bipush 84, 63, 0, 0, [(84, 0)], 0)),
  (63, (.if_icmp .ge 8, 66, 71, 0, [], 0)),
  (66, (.bipush 6, 68, 0, 0, [(6, 0)], 0)),
  (68, (.goto 5, 71, 73, 0, [], 0)),
  (71, (.bipush 7, 73, 0, 0, [(7, 0)], 0)),
  (73, (.ireturn, 74, 0, 0, [], 0))]
def cp_Model_kindOf : List (List Nat) := [[], [], [], [], [], [], [], [], [], [], [], [], [], [], [], [], [], [], [], [], [], [], [], [], [], [], [], [], [], [], [], [], [], [], [], [], []]
def cd_Model_weight : mm_C := [(0, (.iload_n 1, 1, 1, 0, [], 0)),
  (1, (.i2l, 2, 0, 0, [], 0)),
  (2, (.lconst 0, 3, 0, 0, [], 0)),
  (3, (.ldc2_w 150, 6, 0, 0, [], 7)),
  (6, (.invokestatic 75, 9, 121, 3, [], 0)),
  (9, (.ifCond .ne 9, 12, 18, 0, [], 0)),
  (12, (.aload_n 0, 13, 0, 0, [], 0)),
  (13, (.iconst (-1), 14, 0, 0, [((-1), 0)], 0)),
  (14, (.invokevirtual 83, 17, 116, 2, [], 0)),
  (17, (.ireturn, 18, 0, 0, [], 0)),
  (18, (.iload_n 2, 19, 2, 0, [], 0)),
  (19, (.iconst 1, 20, 0, 0, [(1, 0)], 0)),
  (20, (.if_icmp .ge 10, 23, 30, 0, [], 0)),
  (23, (.aload_n 0, 24, 0, 0, [], 0)),
  (24, (.bipush (-4), 26, 0, 0, [((-4), 0)], 0)),
  (26, (.invokevirtual 83, 29, 116, 2, [], 0)),
  (29, (.ireturn, 30, 0, 0, [], 0)),
  (30, (.iload_n 2, 31, 2, 0, [], 0)),
  (31, (.bipush 99, 33, 0, 0, [(99, 0)], 0)),
  (33, (.if_icmp .le 10, 36, 43, 0, [], 0)),
  (36, (.aload_n 0, 37, 0, 0, [], 0)),
  (37, (.bipush (-6), 39, 0, 0, [((-6), 0)], 0)),
  (39, (.invokevirtual 83, 42, 116, 2, [], 0)),
  (42, (.ireturn, 43, 0, 0, [], 0)),
  (43, (.aload_n 0, 44, 0, 0, [], 0)),
  (44, (.getfield 29, 47, 7, 7, [], 0)),
  (47, (.iload_n 1, 48, 1, 0, [], 0)),
  (48, (.iaload, 49, 0, 0, [], 0)),
  (49, (.istore_n 3, 50, 3, 0, [], 0)),
  (50, (.aload_n 0, 51, 0, 0, [], 0)),
  (51, (.getfield 29, 54, 7, 7, [], 0)),
  (54, (.iload_n 1, 55, 1, 0, [], 0)),
  (55, (.iload_n 2, 56, 2, 0, [], 0)),
  (56, (.iastore, 57, 0, 0, [], 0)),
  (57, (.iload_n 3, 58, 3, 0, [], 0)),
  (58, (.ireturn, 59, 0, 0, [], 0))]
def cp_Model_weight : List (List Nat) := [[], [], [], [914], [0, 843], [], [], [], [821, 28], [], [], [], [], [], [], [821, 28], [], [], [], [], [], [], [821, 28], [], [], [729], [], [], [], [], [729], [], [], [], [], []]
def cd_Model_has : mm_C := [(0, (.aload_n 0, 1, 0, 0, [], 0)),
  (1, (.iload_n 1, 2, 1, 0, [], 0)),
  (2, (.invokevirtual 134, 5, 129, 2, [], 0)),
  (5, (.ifCond .eq 32, 8, 37, 0, [], 0)),
  (8, (.iload_n 2, 9, 2, 0, [], 0)),
  (9, (.invokestatic 144, 12, 136, 1, [], 0)),
  (12, (.ifCond .eq 25, 15, 37, 0, [], 0)),
  (15, (.aload_n 0, 16, 0, 0, [], 0)),
  (16, (.getfield 26, 19, 7, 6, [], 0)),
  (19, (.bipush 90, 21, 0, 0, [(90, 0)], 0)),
  (21, (.iload_n 1, 22, 1, 0, [], 0)),
  (22, (.imul, 23, 0, 0, [], 0)),
  (23, (.iload_n 2, 24, 2, 0, [], 0)),
  (24, (.iadd, 25, 0, 0, [], 0)),
  (25, (.baload, 26, 0, 0, [], 0)),
  (26, (.ifCond .eq 7, 29, 33, 0, [], 0)),
  (29, (.iconst 1, 30, 0, 0, [(1, 0)], 0)),
  (30, (.goto 12, 33, 42, 0, [], 0)),
  (33, (.iconst 0, 34, 0, 0, [(0, 0)], 0)),
  (34, (.goto 8, 37, 42, 0, [], 0)),
  (37, (.aload_n 0, 38, 0, 0, [], 0)),
  (38, (.iconst (-1), 39, 0, 0, [((-1), 0)], 0)),
  (39, (.invokevirtual 83, 42, 116, 2, [], 0)),
  (42, (.ireturn, 43, 0, 0, [], 0))]
def cp_Model_has : List (List Nat) := [[], [], [875, 37], [], [], [0, 903], [], [], [728], [], [], [], [], [], [], [], [], [], [], [], [], [], [821, 28], []]
def cd_Model_left : mm_C := [(0, (.iload_n 1, 1, 1, 0, [], 0)),
  (1, (.invokestatic 138, 4, 132, 1, [], 0)),
  (4, (.ifCond .ne 9, 7, 13, 0, [], 0)),
  (7, (.aload_n 0, 8, 0, 0, [], 0)),
  (8, (.iconst (-1), 9, 0, 0, [((-1), 0)], 0)),
  (9, (.invokevirtual 83, 12, 116, 2, [], 0)),
  (12, (.ireturn, 13, 0, 0, [], 0)),
  (13, (.iload_n 2, 14, 2, 0, [], 0)),
  (14, (.ifCond .lt 8, 17, 22, 0, [], 0)),
  (17, (.iload_n 3, 18, 3, 0, [], 0)),
  (18, (.iconst (-1), 19, 0, 0, [((-1), 0)], 0)),
  (19, (.if_icmp .ge 10, 22, 29, 0, [], 0)),
  (22, (.aload_n 0, 23, 0, 0, [], 0)),
  (23, (.bipush (-4), 25, 0, 0, [((-4), 0)], 0)),
  (25, (.invokevirtual 83, 28, 116, 2, [], 0)),
  (28, (.ireturn, 29, 0, 0, [], 0)),
  (29, (.iload_n 2, 30, 2, 0, [], 0)),
  (30, (.iconst 3, 31, 0, 0, [(3, 0)], 0)),
  (31, (.if_icmp .le 10, 34, 41, 0, [], 0)),
  (34, (.aload_n 0, 35, 0, 0, [], 0)),
  (35, (.bipush (-6), 37, 0, 0, [((-6), 0)], 0)),
  (37, (.invokevirtual 83, 40, 116, 2, [], 0)),
  (40, (.ireturn, 41, 0, 0, [], 0)),
  (41, (.iconst 0, 42, 0, 0, [(0, 0)], 0)),
  (42, (.istore 4, 44, 4, 0, [], 0)),
  (44, (.iconst 0, 45, 0, 0, [(0, 0)], 0)),
  (45, (.istore 5, 47, 5, 0, [], 0)),
  (47, (.iload 5, 49, 5, 0, [], 0)),
  (49, (.bipush 90, 51, 0, 0, [(90, 0)], 0)),
  (51, (.if_icmp .ge 32, 54, 83, 0, [], 0)),
  (54, (.aload_n 0, 55, 0, 0, [], 0)),
  (55, (.iload_n 1, 56, 1, 0, [], 0)),
  (56, (.iload_n 2, 57, 2, 0, [], 0)),
  (57, (.iload 5, 59, 5, 0, [], 0)),
  (59, (.invokevirtual 152, 62, 141, 4, [], 0)),
  (62, (.ifCond .eq 15, 65, 77, 0, [], 0)),
  (65, (.iload 4, 67, 4, 0, [], 0)),
  (67, (.iload_n 3, 68, 3, 0, [], 0)),
  (68, (.if_icmp .ne 6, 71, 74, 0, [], 0)),
  (71, (.iload 5, 73, 5, 0, [], 0)),
  (73, (.ireturn, 74, 0, 0, [], 0)),
  (74, (.iinc 4 1, 77, 4, 0, [(1, 0)], 0)),
  (77, (.iinc 5 1, 80, 5, 0, [(1, 0)], 0)),
  (80, (.goto (-33), 83, 47, 0, [], 0)),
  (83, (.iload_n 3, 84, 3, 0, [], 0)),
  (84, (.ifCond .ge 8, 87, 92, 0, [], 0)),
  (87, (.iload 4, 89, 4, 0, [], 0)),
  (89, (.goto 5, 92, 94, 0, [], 0)),
  (92, (.bipush (-9), 94, 0, 0, [((-9), 0)], 0)),
  (94, (.ireturn, 95, 0, 0, [], 0))]
def cp_Model_left : List (List Nat) := [[], [0, 887], [], [], [], [821, 28], [], [], [], [], [], [], [], [], [821, 28], [], [], [], [], [], [], [821, 28], [], [], [], [], [], [], [], [], [], [], [], [], [923, 39], [], [], [], [], [], [], [], [], [], [], [], [], [], [], []]
def cd_Model_isLeft : mm_C := [(0, (.iconst 0, 1, 0, 0, [(0, 0)], 0)),
  (1, (.istore 4, 3, 4, 0, [], 0)),
  (3, (.iconst 0, 4, 0, 0, [(0, 0)], 0)),
  (4, (.istore 5, 6, 5, 0, [], 0)),
  (6, (.iload 5, 8, 5, 0, [], 0)),
  (8, (.aload_n 0, 9, 0, 0, [], 0)),
  (9, (.getfield 72, 12, 7, 0, [], 0)),
  (12, (.if_icmp .ge 49, 15, 61, 0, [], 0)),
  (15, (.iload 4, 17, 4, 0, [], 0)),
  (17, (.aload_n 0, 18, 0, 0, [], 0)),
  (18, (.getfield 22, 21, 7, 5, [], 0)),
  (21, (.bipush 6, 23, 0, 0, [(6, 0)], 0)),
  (23, (.iload 5, 25, 5, 0, [], 0)),
  (25, (.imul, 26, 0, 0, [], 0)),
  (26, (.iload_n 1, 27, 1, 0, [], 0)),
  (27, (.iadd, 28, 0, 0, [], 0)),
  (28, (.baload, 29, 0, 0, [], 0)),
  (29, (.ifCond .eq 22, 32, 51, 0, [], 0)),
  (32, (.aload_n 0, 33, 0, 0, [], 0)),
  (33, (.getfield 26, 36, 7, 6, [], 0)),
  (36, (.bipush 90, 38, 0, 0, [(90, 0)], 0)),
  (38, (.iload 5, 40, 5, 0, [], 0)),
  (40, (.imul, 41, 0, 0, [], 0)),
  (41, (.iload_n 3, 42, 3, 0, [], 0)),
  (42, (.iadd, 43, 0, 0, [], 0)),
  (43, (.baload, 44, 0, 0, [], 0)),
  (44, (.ifCond .ne 7, 47, 51, 0, [], 0)),
  (47, (.iconst 1, 48, 0, 0, [(1, 0)], 0)),
  (48, (.goto 4, 51, 52, 0, [], 0)),
  (51, (.iconst 0, 52, 0, 0, [(0, 0)], 0)),
  (52, (.iadd, 53, 0, 0, [], 0)),
  (53, (.istore 4, 55, 4, 0, [], 0)),
  (55, (.iinc 5 1, 58, 5, 0, [(1, 0)], 0)),
  (58, (.goto (-52), 61, 6, 0, [], 0)),
  (61, (.iload 4, 63, 4, 0, [], 0)),
  (63, (.iload_n 2, 64, 2, 0, [], 0)),
  (64, (.if_icmp .gt 7, 67, 71, 0, [], 0)),
  (67, (.iconst 1, 68, 0, 0, [(1, 0)], 0)),
  (68, (.goto 4, 71, 72, 0, [], 0)),
  (71, (.iconst 0, 72, 0, 0, [(0, 0)], 0)),
  (72, (.ireturn, 73, 1, 0, [], 0))]
def cp_Model_isLeft : List (List Nat) := [[], [], [], [], [], [], [722], [], [], [], [727], [], [], [], [], [], [], [], [], [728], [], [], [], [], [], [], [], [], [], [], [], [], [], [], [], [], [], [], [], [], []]
def cd_Model_plainest : mm_C := [(0, (.iload_n 1, 1, 1, 0, [], 0)),
  (1, (.invokestatic 138, 4, 132, 1, [], 0)),
  (4, (.ifCond .ne 9, 7, 13, 0, [], 0)),
  (7, (.aload_n 0, 8, 0, 0, [], 0)),
  (8, (.iconst (-1), 9, 0, 0, [((-1), 0)], 0)),
  (9, (.invokevirtual 83, 12, 116, 2, [], 0)),
  (12, (.ireturn, 13, 0, 0, [], 0)),
  (13, (.iload_n 2, 14, 2, 0, [], 0)),
  (14, (.ifCond .ge 10, 17, 24, 0, [], 0)),
  (17, (.aload_n 0, 18, 0, 0, [], 0)),
  (18, (.bipush (-4), 20, 0, 0, [((-4), 0)], 0)),
  (20, (.invokevirtual 83, 23, 116, 2, [], 0)),
  (23, (.ireturn, 24, 0, 0, [], 0)),
  (24, (.iload_n 2, 25, 2, 0, [], 0)),
  (25, (.iconst 3, 26, 0, 0, [(3, 0)], 0)),
  (26, (.if_icmp .le 10, 29, 36, 0, [], 0)),
  (29, (.aload_n 0, 30, 0, 0, [], 0)),
  (30, (.bipush (-6), 32, 0, 0, [((-6), 0)], 0)),
  (32, (.invokevirtual 83, 35, 116, 2, [], 0)),
  (35, (.ireturn, 36, 0, 0, [], 0)),
  (36, (.bipush (-9), 38, 0, 0, [((-9), 0)], 0)),
  (38, (.istore_n 3, 39, 3, 0, [], 0)),
  (39, (.iconst 0, 40, 0, 0, [(0, 0)], 0)),
  (40, (.istore 4, 42, 4, 0, [], 0)),
  (42, (.iload 4, 44, 4, 0, [], 0)),
  (44, (.bipush 90, 46, 0, 0, [(90, 0)], 0)),
  (46, (.if_icmp .ge 65, 49, 111, 0, [], 0)),
  (49, (.iload_n 3, 50, 3, 0, [], 0)),
  (50, (.ifCond .lt 25, 53, 75, 0, [], 0)),
  (53, (.aload_n 0, 54, 0, 0, [], 0)),
  (54, (.getfield 29, 57, 7, 7, [], 0)),
  (57, (.iload 4, 59, 4, 0, [], 0)),
  (59, (.invokestatic 147, 62, 137, 1, [], 0)),
  (62, (.iaload, 63, 0, 0, [], 0)),
  (63, (.aload_n 0, 64, 0, 0, [], 0)),
  (64, (.getfield 29, 67, 7, 7, [], 0)),
  (67, (.iload_n 3, 68, 3, 0, [], 0)),
  (68, (.invokestatic 147, 71, 137, 1, [], 0)),
  (71, (.iaload, 72, 0, 0, [], 0)),
  (72, (.if_icmp .le 7, 75, 79, 0, [], 0)),
  (75, (.iconst 1, 76, 0, 0, [(1, 0)], 0)),
  (76, (.goto 4, 79, 80, 0, [], 0)),
  (79, (.iconst 0, 80, 0, 0, [(0, 0)], 0)),
  (80, (.istore 5, 82, 5, 0, [], 0)),
  (82, (.iload 5, 84, 5, 0, [], 0)),
  (84, (.ifCond .eq 19, 87, 103, 0, [], 0)),
  (87, (.aload_n 0, 88, 0, 0, [], 0)),
  (88, (.iload_n 1, 89, 1, 0, [], 0)),
  (89, (.iload_n 2, 90, 2, 0, [], 0)),
  (90, (.iload 4, 92, 4, 0, [], 0)),
  (92, (.invokevirtual 152, 95, 141, 4, [], 0)),
  (95, (.ifCond .eq 8, 98, 103, 0, [], 0)),
  (98, (.iload 4, 100, 4, 0, [], 0)),
  (100, (.goto 4, 103, 104, 0, [], 0)),
  (103, (.iload_n 3, 104, 3, 0, [], 0)),
  (104, (.istore_n 3, 105, 3, 0, [], 0)),
  (105, (.iinc 4 1, 108, 4, 0, [(1, 0)], 0)),
  (108, (.goto (-66), 111, 42, 0, [], 0)),
  (111, (.iload_n 3, 112, 3, 0, [], 0)),
  (112, (.ireturn, 113, 0, 0, [], 0))]
def cp_Model_plainest : List (List Nat) := [[], [0, 887], [], [], [], [821, 28], [], [], [], [], [], [821, 28], [], [], [], [], [], [], [821, 28], [], [], [], [], [], [], [], [], [], [], [], [729], [], [0, 907], [], [], [729], [], [0, 907], [], [], [], [], [], [], [], [], [], [], [], [], [923, 39], [], [], [], [], [], [], [], [], []]
def cd_Model_judge : mm_C := [(0, (.iload_n 1, 1, 1, 0, [], 0)),
  (1, (.invokestatic 138, 4, 132, 1, [], 0)),
  (4, (.ifCond .eq 10, 7, 14, 0, [], 0)),
  (7, (.iload_n 2, 8, 2, 0, [], 0)),
  (8, (.invokestatic 144, 11, 136, 1, [], 0)),
  (11, (.ifCond .ne 9, 14, 20, 0, [], 0)),
  (14, (.aload_n 0, 15, 0, 0, [], 0)),
  (15, (.iconst (-1), 16, 0, 0, [((-1), 0)], 0)),
  (16, (.invokevirtual 83, 19, 116, 2, [], 0)),
  (19, (.ireturn, 20, 0, 0, [], 0)),
  (20, (.iconst 0, 21, 0, 0, [(0, 0)], 0)),
  (21, (.istore_n 3, 22, 3, 0, [], 0)),
  (22, (.iload_n 3, 23, 3, 0, [], 0)),
  (23, (.aload_n 0, 24, 0, 0, [], 0)),
  (24, (.getfield 72, 27, 7, 0, [], 0)),
  (27, (.if_icmp .ge 39, 30, 66, 0, [], 0)),
  (30, (.aload_n 0, 31, 0, 0, [], 0)),
  (31, (.getfield 22, 34, 7, 5, [], 0)),
  (34, (.bipush 6, 36, 0, 0, [(6, 0)], 0)),
  (36, (.iload_n 3, 37, 3, 0, [], 0)),
  (37, (.imul, 38, 0, 0, [], 0)),
  (38, (.iload_n 1, 39, 1, 0, [], 0)),
  (39, (.iadd, 40, 0, 0, [], 0)),
  (40, (.baload, 41, 0, 0, [], 0)),
  (41, (.ifCond .eq 19, 44, 60, 0, [], 0)),
  (44, (.aload_n 0, 45, 0, 0, [], 0)),
  (45, (.getfield 26, 48, 7, 6, [], 0)),
  (48, (.bipush 90, 50, 0, 0, [(90, 0)], 0)),
  (50, (.iload_n 3, 51, 3, 0, [], 0)),
  (51, (.imul, 52, 0, 0, [], 0)),
  (52, (.iload_n 2, 53, 2, 0, [], 0)),
  (53, (.iadd, 54, 0, 0, [], 0)),
  (54, (.baload, 55, 0, 0, [], 0)),
  (55, (.ifCond .ne 5, 58, 60, 0, [], 0)),
  (58, (.iload_n 3, 59, 3, 0, [], 0)),
  (59, (.ireturn, 60, 0, 0, [], 0)),
  (60, (.iinc 3 1, 63, 3, 0, [(1, 0)], 0)),
  (63, (.goto (-41), 66, 22, 0, [], 0)),
  (66, (.bipush (-9), 68, 0, 0, [((-9), 0)], 0)),
  (68, (.ireturn, 69, 0, 0, [], 0))]
def cp_Model_judge : List (List Nat) := [[], [0, 887], [], [], [0, 903], [], [], [], [821, 28], [], [], [], [], [], [722], [], [], [727], [], [], [], [], [], [], [], [], [728], [], [], [], [], [], [], [], [], [], [], [], [], []]
def cd_Model_set : mm_C := [(0, (.iload_n 1, 1, 1, 0, [], 0)),
  (1, (.i2l, 2, 0, 0, [], 0)),
  (2, (.lconst 0, 3, 0, 0, [], 0)),
  (3, (.lconst 1, 4, 0, 0, [], 1)),
  (4, (.invokestatic 75, 7, 121, 3, [], 0)),
  (7, (.ifCond .ne 10, 10, 17, 0, [], 0)),
  (10, (.aload_n 0, 11, 0, 0, [], 0)),
  (11, (.bipush (-2), 13, 0, 0, [((-2), 0)], 0)),
  (13, (.invokevirtual 83, 16, 116, 2, [], 0)),
  (16, (.ireturn, 17, 0, 0, [], 0)),
  (17, (.iload_n 2, 18, 2, 0, [], 0)),
  (18, (.iconst 1, 19, 0, 0, [(1, 0)], 0)),
  (19, (.iload_n 1, 20, 1, 0, [], 0)),
  (20, (.isub, 21, 0, 0, [], 0)),
  (21, (.if_icmp .ge 10, 24, 31, 0, [], 0)),
  (24, (.aload_n 0, 25, 0, 0, [], 0)),
  (25, (.bipush (-4), 27, 0, 0, [((-4), 0)], 0)),
  (27, (.invokevirtual 83, 30, 116, 2, [], 0)),
  (30, (.ireturn, 31, 0, 0, [], 0)),
  (31, (.iload_n 2, 32, 2, 0, [], 0)),
  (32, (.bipush 100, 34, 0, 0, [(100, 0)], 0)),
  (34, (.if_icmp .le 10, 37, 44, 0, [], 0)),
  (37, (.aload_n 0, 38, 0, 0, [], 0)),
  (38, (.bipush (-6), 40, 0, 0, [((-6), 0)], 0)),
  (40, (.invokevirtual 83, 43, 116, 2, [], 0)),
  (43, (.ireturn, 44, 0, 0, [], 0)),
  (44, (.iload_n 1, 45, 1, 0, [], 0)),
  (45, (.ifCond .ne 10, 48, 55, 0, [], 0)),
  (48, (.aload_n 0, 49, 0, 0, [], 0)),
  (49, (.getfield 32, 52, 7, 8, [], 0)),
  (52, (.goto 7, 55, 59, 0, [], 0)),
  (55, (.aload_n 0, 56, 0, 0, [], 0)),
  (56, (.getfield 36, 59, 7, 9, [], 0)),
  (59, (.istore_n 3, 60, 3, 0, [], 0)),
  (60, (.aload_n 0, 61, 0, 0, [], 0)),
  (61, (.iload_n 1, 62, 1, 0, [], 0)),
  (62, (.ifCond .ne 7, 65, 69, 0, [], 0)),
  (65, (.iload_n 2, 66, 2, 0, [], 0)),
  (66, (.goto 7, 69, 73, 0, [], 0)),
  (69, (.aload_n 0, 70, 0, 0, [], 0)),
  (70, (.getfield 32, 73, 7, 8, [], 0)),
  (73, (.putfield 32, 76, 7, 8, [(0, 0)], 0)),
  (76, (.aload_n 0, 77, 0, 0, [], 0)),
  (77, (.iload_n 1, 78, 1, 0, [], 0)),
  (78, (.iconst 1, 79, 0, 0, [(1, 0)], 0)),
  (79, (.if_icmp .ne 7, 82, 86, 0, [], 0)),
  (82, (.iload_n 2, 83, 2, 0, [], 0)),
  (83, (.goto 7, 86, 90, 0, [], 0)),
  (86, (.aload_n 0, 87, 0, 0, [], 0)),
  (87, (.getfield 36, 90, 7, 9, [], 0)),
  (90, (.putfield 36, 93, 7, 9, [(0, 0)], 0)),
  (93, (.iload_n 3, 94, 3, 0, [], 0)),
  (94, (.ireturn, 95, 0, 0, [], 0))]
def cp_Model_set : List (List Nat) := [[], [], [], [], [0, 843], [], [], [], [821, 28], [], [], [], [], [], [], [], [], [821, 28], [], [], [], [], [], [], [821, 28], [], [], [], [], [730], [], [], [731], [], [], [], [], [], [], [], [730], [730], [], [], [], [], [], [], [], [731], [731], [], []]
def cd_Model_likelihood : mm_C := [(0, (.iload_n 1, 1, 1, 0, [], 0)),
  (1, (.invokestatic 138, 4, 132, 1, [], 0)),
  (4, (.ifCond .eq 19, 7, 23, 0, [], 0)),
  (7, (.iload_n 2, 8, 2, 0, [], 0)),
  (8, (.invokestatic 144, 11, 136, 1, [], 0)),
  (11, (.ifCond .eq 12, 14, 23, 0, [], 0)),
  (14, (.aload_n 0, 15, 0, 0, [], 0)),
  (15, (.iload_n 1, 16, 1, 0, [], 0)),
  (16, (.iload_n 2, 17, 2, 0, [], 0)),
  (17, (.invokevirtual 155, 20, 146, 3, [], 0)),
  (20, (.goto 13, 23, 33, 0, [], 0)),
  (23, (.ldc2_w 159, 26, 0, 0, [], (-4000000000000000000))),
  (26, (.aload_n 0, 27, 0, 0, [], 0)),
  (27, (.iconst (-1), 28, 0, 0, [((-1), 0)], 0)),
  (28, (.invokevirtual 83, 31, 116, 2, [], 0)),
  (31, (.i2l, 32, 0, 0, [], 0)),
  (32, (.ladd, 33, 0, 0, [], 0)),
  (33, (.lreturn, 34, 0, 0, [], 0))]
def cp_Model_likelihood : List (List Nat) := [[], [0, 887], [], [], [0, 903], [], [], [], [], [943, 40], [], [947], [], [], [821, 28], [], [], []]
def cd_Model_likelihoodOf : mm_C := [(0, (.aload_n 0, 1, 0, 0, [], 0)),
  (1, (.getfield 29, 4, 7, 7, [], 0)),
  (4, (.iload_n 2, 5, 2, 0, [], 0)),
  (5, (.invokestatic 147, 8, 137, 1, [], 0)),
  (8, (.iaload, 9, 0, 0, [], 0)),
  (9, (.i2l, 10, 0, 0, [], 0)),
  (10, (.lstore_n 3, 11, 3, 0, [], 0)),
  (11, (.iconst 0, 12, 0, 0, [(0, 0)], 0)),
  (12, (.istore 5, 14, 5, 0, [], 0)),
  (14, (.aload_n 0, 15, 0, 0, [], 0)),
  (15, (.getfield 72, 18, 7, 0, [], 0)),
  (18, (.iconst 1, 19, 0, 0, [(1, 0)], 0)),
  (19, (.isub, 20, 0, 0, [], 0)),
  (20, (.istore 6, 22, 6, 0, [], 0)),
  (22, (.iload 6, 24, 6, 0, [], 0)),
  (24, (.ifCond .lt 65, 27, 89, 0, [], 0)),
  (27, (.iload 5, 29, 5, 0, [], 0)),
  (29, (.bipush 6, 31, 0, 0, [(6, 0)], 0)),
  (31, (.if_icmp .ge 58, 34, 89, 0, [], 0)),
  (34, (.aload_n 0, 35, 0, 0, [], 0)),
  (35, (.getfield 22, 38, 7, 5, [], 0)),
  (38, (.bipush 6, 40, 0, 0, [(6, 0)], 0)),
  (40, (.iload 6, 42, 6, 0, [], 0)),
  (42, (.imul, 43, 0, 0, [], 0)),
  (43, (.iload_n 1, 44, 1, 0, [], 0)),
  (44, (.iadd, 45, 0, 0, [], 0)),
  (45, (.baload, 46, 0, 0, [], 0)),
  (46, (.ifCond .eq 37, 49, 83, 0, [], 0)),
  (49, (.lload_n 3, 50, 3, 0, [], 0)),
  (50, (.aload_n 0, 51, 0, 0, [], 0)),
  (51, (.getfield 26, 54, 7, 6, [], 0)),
  (54, (.bipush 90, 56, 0, 0, [(90, 0)], 0)),
  (56, (.iload 6, 58, 6, 0, [], 0)),
  (58, (.imul, 59, 0, 0, [], 0)),
  (59, (.iload_n 2, 60, 2, 0, [], 0)),
  (60, (.iadd, 61, 0, 0, [], 0)),
  (61, (.baload, 62, 0, 0, [], 0)),
  (62, (.ifCond .eq 11, 65, 73, 0, [], 0)),
  (65, (.aload_n 0, 66, 0, 0, [], 0)),
  (66, (.getfield 32, 69, 7, 8, [], 0)),
  (69, (.i2l, 70, 0, 0, [], 0)),
  (70, (.goto 8, 73, 78, 0, [], 0)),
  (73, (.aload_n 0, 74, 0, 0, [], 0)),
  (74, (.getfield 36, 77, 7, 9, [], 0)),
  (77, (.i2l, 78, 0, 0, [], 0)),
  (78, (.lmul, 79, 0, 0, [], 0)),
  (79, (.lstore_n 3, 80, 3, 0, [], 0)),
  (80, (.iinc 5 1, 83, 5, 0, [(1, 0)], 0)),
  (83, (.iinc 6 (-1), 86, 6, 0, [((-1), 0)], 0)),
  (86, (.goto (-64), 89, 22, 0, [], 0)),
  (89, (.lload_n 3, 90, 3, 0, [], 0)),
  (90, (.lreturn, 91, 0, 0, [], 0))]
def cp_Model_likelihoodOf : List (List Nat) := [[], [729], [], [0, 907], [], [], [], [], [], [], [722], [], [], [], [], [], [], [], [], [], [727], [], [], [], [], [], [], [], [], [], [728], [], [], [], [], [], [], [], [], [730], [], [], [], [731], [], [], [], [], [], [], [], []]
def cd_Model_chance : mm_C := [(0, (.iload_n 3, 1, 3, 0, [], 0)),
  (1, (.i2l, 2, 0, 0, [], 0)),
  (2, (.lconst 0, 3, 0, 0, [], 0)),
  (3, (.lconst 1, 4, 0, 0, [], 1)),
  (4, (.invokestatic 75, 7, 121, 3, [], 0)),
  (7, (.ifCond .ne 15, 10, 22, 0, [], 0)),
  (10, (.ldc2_w 159, 13, 0, 0, [], (-4000000000000000000))),
  (13, (.aload_n 0, 14, 0, 0, [], 0)),
  (14, (.bipush (-2), 16, 0, 0, [((-2), 0)], 0)),
  (16, (.invokevirtual 83, 19, 116, 2, [], 0)),
  (19, (.i2l, 20, 0, 0, [], 0)),
  (20, (.ladd, 21, 0, 0, [], 0)),
  (21, (.lreturn, 22, 0, 0, [], 0)),
  (22, (.iload_n 1, 23, 1, 0, [], 0)),
  (23, (.invokestatic 138, 26, 132, 1, [], 0)),
  (26, (.ifCond .eq 10, 29, 36, 0, [], 0)),
  (29, (.iload_n 2, 30, 2, 0, [], 0)),
  (30, (.invokestatic 144, 33, 136, 1, [], 0)),
  (33, (.ifCond .ne 14, 36, 47, 0, [], 0)),
  (36, (.ldc2_w 159, 39, 0, 0, [], (-4000000000000000000))),
  (39, (.aload_n 0, 40, 0, 0, [], 0)),
  (40, (.iconst (-1), 41, 0, 0, [((-1), 0)], 0)),
  (41, (.invokevirtual 83, 44, 116, 2, [], 0)),
  (44, (.i2l, 45, 0, 0, [], 0)),
  (45, (.ladd, 46, 0, 0, [], 0)),
  (46, (.lreturn, 47, 0, 0, [], 0)),
  (47, (.lconst 0, 48, 0, 0, [], 0)),
  (48, (.lstore 4, 50, 4, 0, [], 0)),
  (50, (.iconst 0, 51, 0, 0, [(0, 0)], 0)),
  (51, (.istore 6, 53, 6, 0, [], 0)),
  (53, (.iload 6, 55, 6, 0, [], 0)),
  (55, (.bipush 90, 57, 0, 0, [(90, 0)], 0)),
  (57, (.if_icmp .ge 21, 60, 78, 0, [], 0)),
  (60, (.lload 4, 62, 4, 0, [], 0)),
  (62, (.aload_n 0, 63, 0, 0, [], 0)),
  (63, (.iload_n 1, 64, 1, 0, [], 0)),
  (64, (.iload 6, 66, 6, 0, [], 0)),
  (66, (.invokevirtual 155, 69, 146, 3, [], 0)),
  (69, (.ladd, 70, 0, 0, [], 0)),
  (70, (.lstore 4, 72, 4, 0, [], 0)),
  (72, (.iinc 6 1, 75, 6, 0, [(1, 0)], 0)),
  (75, (.goto (-22), 78, 53, 0, [], 0)),
  (78, (.aload_n 0, 79, 0, 0, [], 0)),
  (79, (.iload_n 1, 80, 1, 0, [], 0)),
  (80, (.iload_n 2, 81, 2, 0, [], 0)),
  (81, (.invokevirtual 155, 84, 146, 3, [], 0)),
  (84, (.lstore 6, 86, 6, 0, [], 0)),
  (86, (.lload 6, 88, 6, 0, [], 0)),
  (88, (.lconst 0, 89, 0, 0, [], 0)),
  (89, (.lcmp, 90, 0, 0, [], 0)),
  (90, (.ifCond .ne 6, 93, 96, 0, [], 0)),
  (93, (.iload_n 3, 94, 3, 0, [], 0)),
  (94, (.i2l, 95, 0, 0, [], 0)),
  (95, (.lreturn, 96, 0, 0, [], 0)),
  (96, (.lload 6, 98, 6, 0, [], 0)),
  (98, (.lload 4, 100, 4, 0, [], 0)),
  (100, (.invokestatic 161, 103, 148, 2, [], 0)),
  (103, (.lstore 8, 105, 8, 0, [], 0)),
  (105, (.iload_n 3, 106, 3, 0, [], 0)),
  (106, (.ifCond .ne 11, 109, 117, 0, [], 0)),
  (109, (.lload 6, 111, 6, 0, [], 0)),
  (111, (.lload 8, 113, 8, 0, [], 0)),
  (113, (.ldiv, 114, 0, 0, [], 0)),
  (114, (.goto 8, 117, 122, 0, [], 0)),
  (117, (.lload 4, 119, 4, 0, [], 0)),
  (119, (.lload 8, 121, 8, 0, [], 0)),
  (121, (.ldiv, 122, 0, 0, [], 0)),
  (122, (.lreturn, 123, 0, 0, [], 0))]
def cp_Model_chance : List (List Nat) := [[], [], [], [], [0, 843], [], [947], [], [], [821, 28], [], [], [], [], [0, 887], [], [], [0, 903], [], [947], [], [], [821, 28], [], [], [], [], [], [], [], [], [], [], [], [], [], [], [943, 40], [], [], [], [], [], [], [], [943, 40], [], [], [], [], [], [], [], [], [], [], [0, 952], [], [], [], [], [], [], [], [], [], [], []]
def cd_Model_divisor : mm_C := [(0, (.lload_n 0, 1, 0, 0, [], 0)),
  (1, (.lstore 4, 3, 4, 0, [], 0)),
  (3, (.lload_n 2, 4, 2, 0, [], 0)),
  (4, (.lstore 6, 6, 6, 0, [], 0)),
  (6, (.lload 6, 8, 6, 0, [], 0)),
  (8, (.lconst 0, 9, 0, 0, [], 0)),
  (9, (.lcmp, 10, 0, 0, [], 0)),
  (10, (.ifCond .eq 21, 13, 31, 0, [], 0)),
  (13, (.lload 4, 15, 4, 0, [], 0)),
  (15, (.lload 6, 17, 6, 0, [], 0)),
  (17, (.lrem, 18, 0, 0, [], 0)),
  (18, (.lstore 8, 20, 8, 0, [], 0)),
  (20, (.lload 6, 22, 6, 0, [], 0)),
  (22, (.lstore 4, 24, 4, 0, [], 0)),
  (24, (.lload 8, 26, 8, 0, [], 0)),
  (26, (.lstore 6, 28, 6, 0, [], 0)),
  (28, (.goto (-22), 31, 6, 0, [], 0)),
  (31, (.lload 4, 33, 4, 0, [], 0)),
  (33, (.lreturn, 34, 0, 0, [], 0))]
def cp_Model_divisor : List (List Nat) := [[], [], [], [], [], [], [], [], [], [], [], [], [], [], [], [], [], [], []]
def cd_Model_likeliest : mm_C := [(0, (.iload_n 1, 1, 1, 0, [], 0)),
  (1, (.invokestatic 138, 4, 132, 1, [], 0)),
  (4, (.ifCond .ne 9, 7, 13, 0, [], 0)),
  (7, (.aload_n 0, 8, 0, 0, [], 0)),
  (8, (.iconst (-1), 9, 0, 0, [((-1), 0)], 0)),
  (9, (.invokevirtual 83, 12, 116, 2, [], 0)),
  (12, (.ireturn, 13, 0, 0, [], 0)),
  (13, (.iconst 0, 14, 0, 0, [(0, 0)], 0)),
  (14, (.istore_n 2, 15, 2, 0, [], 0)),
  (15, (.iconst 1, 16, 0, 0, [(1, 0)], 0)),
  (16, (.istore_n 3, 17, 3, 0, [], 0)),
  (17, (.iload_n 3, 18, 3, 0, [], 0)),
  (18, (.bipush 90, 20, 0, 0, [(90, 0)], 0)),
  (20, (.if_icmp .ge 31, 23, 51, 0, [], 0)),
  (23, (.aload_n 0, 24, 0, 0, [], 0)),
  (24, (.iload_n 1, 25, 1, 0, [], 0)),
  (25, (.iload_n 3, 26, 3, 0, [], 0)),
  (26, (.invokevirtual 155, 29, 146, 3, [], 0)),
  (29, (.aload_n 0, 30, 0, 0, [], 0)),
  (30, (.iload_n 1, 31, 1, 0, [], 0)),
  (31, (.iload_n 2, 32, 2, 0, [], 0)),
  (32, (.invokevirtual 155, 35, 146, 3, [], 0)),
  (35, (.lcmp, 36, 0, 0, [], 0)),
  (36, (.ifCond .le 7, 39, 43, 0, [], 0)),
  (39, (.iload_n 3, 40, 3, 0, [], 0)),
  (40, (.goto 4, 43, 44, 0, [], 0)),
  (43, (.iload_n 2, 44, 2, 0, [], 0)),
  (44, (.istore_n 2, 45, 2, 0, [], 0)),
  (45, (.iinc 3 1, 48, 3, 0, [(1, 0)], 0)),
  (48, (.goto (-31), 51, 17, 0, [], 0)),
  (51, (.iload_n 2, 52, 2, 0, [], 0)),
  (52, (.ireturn, 53, 0, 0, [], 0))]
def cp_Model_likeliest : List (List Nat) := [[], [0, 887], [], [], [], [821, 28], [], [], [], [], [], [], [], [], [], [], [], [943, 40], [], [], [], [943, 40], [], [], [], [], [], [], [], [], [], []]
def cd_Model_givings : mm_C := [(0, (.aload_n 0, 1, 0, 0, [], 0)),
  (1, (.iload_n 1, 2, 1, 0, [], 0)),
  (2, (.invokevirtual 173, 5, 151, 2, [], 0)),
  (5, (.ifCond .ne 9, 8, 14, 0, [], 0)),
  (8, (.aload_n 0, 9, 0, 0, [], 0)),
  (9, (.iconst (-1), 10, 0, 0, [((-1), 0)], 0)),
  (10, (.invokevirtual 83, 13, 116, 2, [], 0)),
  (13, (.ireturn, 14, 0, 0, [], 0)),
  (14, (.aload_n 0, 15, 0, 0, [], 0)),
  (15, (.iload_n 1, 16, 1, 0, [], 0)),
  (16, (.invokevirtual 176, 19, 153, 2, [], 0)),
  (19, (.aload_n 0, 20, 0, 0, [], 0)),
  (20, (.iconst 1, 21, 0, 0, [(1, 0)], 0)),
  (21, (.invokevirtual 179, 24, 154, 2, [], 0)),
  (24, (.istore_n 2, 25, 2, 0, [], 0)),
  (25, (.aload_n 0, 26, 0, 0, [], 0)),
  (26, (.getfield 170, 29, 7, 21, [], 0)),
  (29, (.iconst 1, 30, 0, 0, [(1, 0)], 0)),
  (30, (.if_icmp .ne 5, 33, 35, 0, [], 0)),
  (33, (.iload_n 2, 34, 2, 0, [], 0)),
  (34, (.ireturn, 35, 0, 0, [], 0)),
  (35, (.aload_n 0, 36, 0, 0, [], 0)),
  (36, (.iconst 2, 37, 0, 0, [(2, 0)], 0)),
  (37, (.invokevirtual 179, 40, 154, 2, [], 0)),
  (40, (.istore_n 3, 41, 3, 0, [], 0)),
  (41, (.aload_n 0, 42, 0, 0, [], 0)),
  (42, (.getfield 170, 45, 7, 21, [], 0)),
  (45, (.iconst 2, 46, 0, 0, [(2, 0)], 0)),
  (46, (.if_icmp .ne 13, 49, 59, 0, [], 0)),
  (49, (.iload_n 2, 50, 2, 0, [], 0)),
  (50, (.iload_n 3, 51, 3, 0, [], 0)),
  (51, (.imul, 52, 0, 0, [], 0)),
  (52, (.aload_n 0, 53, 0, 0, [], 0)),
  (53, (.iconst 3, 54, 0, 0, [(3, 0)], 0)),
  (54, (.invokevirtual 179, 57, 154, 2, [], 0)),
  (57, (.isub, 58, 0, 0, [], 0)),
  (58, (.ireturn, 59, 0, 0, [], 0)),
  (59, (.aload_n 0, 60, 0, 0, [], 0)),
  (60, (.iconst 4, 61, 0, 0, [(4, 0)], 0)),
  (61, (.invokevirtual 179, 64, 154, 2, [], 0)),
  (64, (.istore 4, 66, 4, 0, [], 0)),
  (66, (.iload_n 2, 67, 2, 0, [], 0)),
  (67, (.iload_n 3, 68, 3, 0, [], 0)),
  (68, (.imul, 69, 0, 0, [], 0)),
  (69, (.iload 4, 71, 4, 0, [], 0)),
  (71, (.imul, 72, 0, 0, [], 0)),
  (72, (.aload_n 0, 73, 0, 0, [], 0)),
  (73, (.iconst 3, 74, 0, 0, [(3, 0)], 0)),
  (74, (.invokevirtual 179, 77, 154, 2, [], 0)),
  (77, (.iload 4, 79, 4, 0, [], 0)),
  (79, (.imul, 80, 0, 0, [], 0)),
  (80, (.isub, 81, 0, 0, [], 0)),
  (81, (.aload_n 0, 82, 0, 0, [], 0)),
  (82, (.iconst 5, 83, 0, 0, [(5, 0)], 0)),
  (83, (.invokevirtual 179, 86, 154, 2, [], 0)),
  (86, (.iload_n 3, 87, 3, 0, [], 0)),
  (87, (.imul, 88, 0, 0, [], 0)),
  (88, (.isub, 89, 0, 0, [], 0)),
  (89, (.aload_n 0, 90, 0, 0, [], 0)),
  (90, (.bipush 6, 92, 0, 0, [(6, 0)], 0)),
  (92, (.invokevirtual 179, 95, 154, 2, [], 0)),
  (95, (.iload_n 2, 96, 2, 0, [], 0)),
  (96, (.imul, 97, 0, 0, [], 0)),
  (97, (.isub, 98, 0, 0, [], 0)),
  (98, (.iconst 2, 99, 0, 0, [(2, 0)], 0)),
  (99, (.aload_n 0, 100, 0, 0, [], 0)),
  (100, (.bipush 7, 102, 0, 0, [(7, 0)], 0)),
  (102, (.invokevirtual 179, 105, 154, 2, [], 0)),
  (105, (.imul, 106, 0, 0, [], 0)),
  (106, (.iadd, 107, 0, 0, [], 0)),
  (107, (.ireturn, 108, 0, 0, [], 0))]
def cp_Model_givings : List (List Nat) := [[], [], [963, 41], [], [], [], [821, 28], [], [], [], [971, 42], [], [], [975, 43], [], [], [743], [], [], [], [], [], [], [975, 43], [], [], [743], [], [], [], [], [], [], [], [975, 43], [], [], [], [], [975, 43], [], [], [], [], [], [], [], [], [975, 43], [], [], [], [], [], [975, 43], [], [], [], [], [], [975, 43], [], [], [], [], [], [], [975, 43], [], [], []]
def cd_Model_isSet : mm_C := [(0, (.iload_n 1, 1, 1, 0, [], 0)),
  (1, (.i2l, 2, 0, 0, [], 0)),
  (2, (.lconst 1, 3, 0, 0, [], 1)),
  (3, (.ldc2_w 165, 6, 0, 0, [], 63)),
  (6, (.invokestatic 75, 9, 121, 3, [], 0)),
  (9, (.ifCond .eq 15, 12, 24, 0, [], 0)),
  (12, (.iload_n 1, 13, 1, 0, [], 0)),
  (13, (.invokestatic 167, 16, 152, 1, [], 0)),
  (16, (.iconst 3, 17, 0, 0, [(3, 0)], 0)),
  (17, (.if_icmp .gt 7, 20, 24, 0, [], 0)),
  (20, (.iconst 1, 21, 0, 0, [(1, 0)], 0)),
  (21, (.goto 4, 24, 25, 0, [], 0)),
  (24, (.iconst 0, 25, 0, 0, [(0, 0)], 0)),
  (25, (.ireturn, 26, 1, 0, [], 0))]
def cp_Model_isSet : List (List Nat) := [[], [], [], [967], [0, 843], [], [], [0, 968], [], [], [], [], [], []]
def cd_Model_ones : mm_C := [(0, (.iconst 0, 1, 0, 0, [(0, 0)], 0)),
  (1, (.istore_n 1, 2, 1, 0, [], 0)),
  (2, (.iload_n 0, 3, 0, 0, [], 0)),
  (3, (.istore_n 2, 4, 2, 0, [], 0)),
  (4, (.iload_n 2, 5, 2, 0, [], 0)),
  (5, (.ifCond .le 16, 8, 21, 0, [], 0)),
  (8, (.iload_n 1, 9, 1, 0, [], 0)),
  (9, (.iload_n 2, 10, 2, 0, [], 0)),
  (10, (.iconst 2, 11, 0, 0, [(2, 0)], 0)),
  (11, (.irem, 12, 0, 0, [], 0)),
  (12, (.iadd, 13, 0, 0, [], 0)),
  (13, (.istore_n 1, 14, 1, 0, [], 0)),
  (14, (.iload_n 2, 15, 2, 0, [], 0)),
  (15, (.iconst 2, 16, 0, 0, [(2, 0)], 0)),
  (16, (.idiv, 17, 0, 0, [], 0)),
  (17, (.istore_n 2, 18, 2, 0, [], 0)),
  (18, (.goto (-14), 21, 4, 0, [], 0)),
  (21, (.iload_n 1, 22, 1, 0, [], 0)),
  (22, (.ireturn, 23, 0, 0, [], 0))]
def cp_Model_ones : List (List Nat) := [[], [], [], [], [], [], [], [], [], [], [], [], [], [], [], [], [], [], []]
def cd_Model_findWords : mm_C := [(0, (.aload_n 0, 1, 0, 0, [], 0)),
  (1, (.iconst 0, 2, 0, 0, [(0, 0)], 0)),
  (2, (.putfield 170, 5, 7, 21, [(0, 0)], 0)),
  (5, (.iconst 0, 6, 0, 0, [(0, 0)], 0)),
  (6, (.istore_n 2, 7, 2, 0, [], 0)),
  (7, (.iload_n 2, 8, 2, 0, [], 0)),
  (8, (.bipush 6, 10, 0, 0, [(6, 0)], 0)),
  (10, (.if_icmp .ge 38, 13, 48, 0, [], 0)),
  (13, (.iload_n 1, 14, 1, 0, [], 0)),
  (14, (.iload_n 2, 15, 2, 0, [], 0)),
  (15, (.ishr, 16, 0, 0, [], 0)),
  (16, (.iconst 1, 17, 0, 0, [(1, 0)], 0)),
  (17, (.iand, 18, 0, 0, [], 0)),
  (18, (.iconst 1, 19, 0, 0, [(1, 0)], 0)),
  (19, (.if_icmp .ne 23, 22, 42, 0, [], 0)),
  (22, (.aload_n 0, 23, 0, 0, [], 0)),
  (23, (.getfield 54, 26, 7, 20, [], 0)),
  (26, (.aload_n 0, 27, 0, 0, [], 0)),
  (27, (.getfield 170, 30, 7, 21, [], 0)),
  (30, (.iload_n 2, 31, 2, 0, [], 0)),
  (31, (.iastore, 32, 0, 0, [], 0)),
  (32, (.aload_n 0, 33, 0, 0, [], 0)),
  (33, (.dup, 34, 0, 0, [], 0)),
  (34, (.getfield 170, 37, 7, 21, [], 0)),
  (37, (.iconst 1, 38, 0, 0, [(1, 0)], 0)),
  (38, (.iadd, 39, 0, 0, [], 0)),
  (39, (.putfield 170, 42, 7, 21, [(0, 0)], 0)),
  (42, (.iinc 2 1, 45, 2, 0, [(1, 0)], 0)),
  (45, (.goto (-38), 48, 7, 0, [], 0)),
  (48, (.return_, 49, 0, 0, [], 0))]
def cp_Model_findWords : List (List Nat) := [[], [], [743], [], [], [], [], [], [], [], [], [], [], [], [], [], [742], [], [743], [], [], [], [], [743], [], [], [743], [], [], []]
def cd_Model_commonTo : mm_C := [(0, (.iconst 0, 1, 0, 0, [(0, 0)], 0)),
  (1, (.istore_n 2, 2, 2, 0, [], 0)),
  (2, (.iconst 0, 3, 0, 0, [(0, 0)], 0)),
  (3, (.istore_n 3, 4, 3, 0, [], 0)),
  (4, (.iload_n 3, 5, 3, 0, [], 0)),
  (5, (.bipush 90, 7, 0, 0, [(90, 0)], 0)),
  (7, (.if_icmp .ge 80, 10, 87, 0, [], 0)),
  (10, (.iconst 1, 11, 0, 0, [(1, 0)], 0)),
  (11, (.istore 4, 13, 4, 0, [], 0)),
  (13, (.iconst 0, 14, 0, 0, [(0, 0)], 0)),
  (14, (.istore 5, 16, 5, 0, [], 0)),
  (16, (.iload 5, 18, 5, 0, [], 0)),
  (18, (.aload_n 0, 19, 0, 0, [], 0)),
  (19, (.getfield 170, 22, 7, 21, [], 0)),
  (22, (.if_icmp .ge 46, 25, 68, 0, [], 0)),
  (25, (.iload 4, 27, 4, 0, [], 0)),
  (27, (.ifCond .eq 32, 30, 59, 0, [], 0)),
  (30, (.iload_n 1, 31, 1, 0, [], 0)),
  (31, (.iload 5, 33, 5, 0, [], 0)),
  (33, (.ishr, 34, 0, 0, [], 0)),
  (34, (.iconst 1, 35, 0, 0, [(1, 0)], 0)),
  (35, (.iand, 36, 0, 0, [], 0)),
  (36, (.ifCond .eq 19, 39, 55, 0, [], 0)),
  (39, (.aload_n 0, 40, 0, 0, [], 0)),
  (40, (.aload_n 0, 41, 0, 0, [], 0)),
  (41, (.getfield 54, 44, 7, 20, [], 0)),
  (44, (.iload 5, 46, 5, 0, [], 0)),
  (46, (.iaload, 47, 0, 0, [], 0)),
  (47, (.iconst 0, 48, 0, 0, [(0, 0)], 0)),
  (48, (.iload_n 3, 49, 3, 0, [], 0)),
  (49, (.invokevirtual 152, 52, 141, 4, [], 0)),
  (52, (.ifCond .eq 7, 55, 59, 0, [], 0)),
  (55, (.iconst 1, 56, 0, 0, [(1, 0)], 0)),
  (56, (.goto 4, 59, 60, 0, [], 0)),
  (59, (.iconst 0, 60, 0, 0, [(0, 0)], 0)),
  (60, (.istore 4, 62, 4, 0, [], 0)),
  (62, (.iinc 5 1, 65, 5, 0, [(1, 0)], 0)),
  (65, (.goto (-49), 68, 16, 0, [], 0)),
  (68, (.iload_n 2, 69, 2, 0, [], 0)),
  (69, (.iload 4, 71, 4, 0, [], 0)),
  (71, (.ifCond .eq 7, 74, 78, 0, [], 0)),
  (74, (.iconst 1, 75, 0, 0, [(1, 0)], 0)),
  (75, (.goto 4, 78, 79, 0, [], 0)),
  (78, (.iconst 0, 79, 0, 0, [(0, 0)], 0)),
  (79, (.iadd, 80, 0, 0, [], 0)),
  (80, (.istore_n 2, 81, 2, 0, [], 0)),
  (81, (.iinc 3 1, 84, 3, 0, [(1, 0)], 0)),
  (84, (.goto (-80), 87, 4, 0, [], 0)),
  (87, (.iload_n 2, 88, 2, 0, [], 0)),
  (88, (.ireturn, 89, 0, 0, [], 0))]
def cp_Model_commonTo : List (List Nat) := [[], [], [], [], [], [], [], [], [], [], [], [], [], [743], [], [], [], [], [], [], [], [], [], [], [], [742], [], [], [], [], [923, 39], [], [], [], [], [], [], [], [], [], [], [], [], [], [], [], [], [], [], []]
def cd_Model_giving : mm_C := [(0, (.aload_n 0, 1, 0, 0, [], 0)),
  (1, (.iload_n 1, 2, 1, 0, [], 0)),
  (2, (.invokevirtual 173, 5, 151, 2, [], 0)),
  (5, (.ifCond .eq 18, 8, 23, 0, [], 0)),
  (8, (.iload_n 2, 9, 2, 0, [], 0)),
  (9, (.invokestatic 138, 12, 132, 1, [], 0)),
  (12, (.ifCond .eq 11, 15, 23, 0, [], 0)),
  (15, (.iload_n 1, 16, 1, 0, [], 0)),
  (16, (.iload_n 2, 17, 2, 0, [], 0)),
  (17, (.ishr, 18, 0, 0, [], 0)),
  (18, (.iconst 1, 19, 0, 0, [(1, 0)], 0)),
  (19, (.iand, 20, 0, 0, [], 0)),
  (20, (.ifCond .ne 9, 23, 29, 0, [], 0)),
  (23, (.aload_n 0, 24, 0, 0, [], 0)),
  (24, (.iconst (-1), 25, 0, 0, [((-1), 0)], 0)),
  (25, (.invokevirtual 83, 28, 116, 2, [], 0)),
  (28, (.ireturn, 29, 0, 0, [], 0)),
  (29, (.aload_n 0, 30, 0, 0, [], 0)),
  (30, (.iload_n 1, 31, 1, 0, [], 0)),
  (31, (.invokevirtual 176, 34, 153, 2, [], 0)),
  (34, (.aload_n 0, 35, 0, 0, [], 0)),
  (35, (.iconst 0, 36, 0, 0, [(0, 0)], 0)),
  (36, (.invokevirtual 188, 39, 156, 2, [], 0)),
  (39, (.ifCond .ne 6, 42, 45, 0, [], 0)),
  (42, (.bipush (-9), 44, 0, 0, [((-9), 0)], 0)),
  (44, (.ireturn, 45, 0, 0, [], 0)),
  (45, (.bipush (-9), 47, 0, 0, [((-9), 0)], 0)),
  (47, (.istore_n 3, 48, 3, 0, [], 0)),
  (48, (.iconst 0, 49, 0, 0, [(0, 0)], 0)),
  (49, (.istore 4, 51, 4, 0, [], 0)),
  (51, (.iload 4, 53, 4, 0, [], 0)),
  (53, (.aload_n 0, 54, 0, 0, [], 0)),
  (54, (.getfield 170, 57, 7, 21, [], 0)),
  (57, (.if_icmp .ge 32, 60, 89, 0, [], 0)),
  (60, (.aload_n 0, 61, 0, 0, [], 0)),
  (61, (.getfield 54, 64, 7, 20, [], 0)),
  (64, (.iload 4, 66, 4, 0, [], 0)),
  (66, (.iaload, 67, 0, 0, [], 0)),
  (67, (.iload_n 2, 68, 2, 0, [], 0)),
  (68, (.if_icmp .ne 13, 71, 81, 0, [], 0)),
  (71, (.aload_n 0, 72, 0, 0, [], 0)),
  (72, (.getfield 57, 75, 7, 22, [], 0)),
  (75, (.iload 4, 77, 4, 0, [], 0)),
  (77, (.iaload, 78, 0, 0, [], 0)),
  (78, (.goto 4, 81, 82, 0, [], 0)),
  (81, (.iload_n 3, 82, 3, 0, [], 0)),
  (82, (.istore_n 3, 83, 3, 0, [], 0)),
  (83, (.iinc 4 1, 86, 4, 0, [(1, 0)], 0)),
  (86, (.goto (-35), 89, 51, 0, [], 0)),
  (89, (.iload_n 3, 90, 3, 0, [], 0)),
  (90, (.ireturn, 91, 0, 0, [], 0))]
def cp_Model_giving : List (List Nat) := [[], [], [963, 41], [], [], [0, 887], [], [], [], [], [], [], [], [], [], [821, 28], [], [], [], [971, 42], [], [], [983, 44], [], [], [], [], [], [], [], [], [], [743], [], [], [742], [], [], [], [], [], [744], [], [], [], [], [], [], [], [], []]
def cd_Model_findFirst : mm_C := [(0, (.iconst 0, 1, 0, 0, [(0, 0)], 0)),
  (1, (.istore_n 2, 2, 2, 0, [], 0)),
  (2, (.iload_n 2, 3, 2, 0, [], 0)),
  (3, (.bipush 90, 5, 0, 0, [(90, 0)], 0)),
  (5, (.if_icmp .ge 91, 8, 96, 0, [], 0)),
  (8, (.aload_n 0, 9, 0, 0, [], 0)),
  (9, (.aload_n 0, 10, 0, 0, [], 0)),
  (10, (.getfield 54, 13, 7, 20, [], 0)),
  (13, (.iload_n 1, 14, 1, 0, [], 0)),
  (14, (.iaload, 15, 0, 0, [], 0)),
  (15, (.iconst 0, 16, 0, 0, [(0, 0)], 0)),
  (16, (.iload_n 2, 17, 2, 0, [], 0)),
  (17, (.invokevirtual 152, 20, 141, 4, [], 0)),
  (20, (.istore_n 3, 21, 3, 0, [], 0)),
  (21, (.iconst 0, 22, 0, 0, [(0, 0)], 0)),
  (22, (.istore 4, 24, 4, 0, [], 0)),
  (24, (.iload 4, 26, 4, 0, [], 0)),
  (26, (.iload_n 1, 27, 1, 0, [], 0)),
  (27, (.if_icmp .ge 30, 30, 57, 0, [], 0)),
  (30, (.iload_n 3, 31, 3, 0, [], 0)),
  (31, (.ifCond .eq 18, 34, 49, 0, [], 0)),
  (34, (.aload_n 0, 35, 0, 0, [], 0)),
  (35, (.getfield 57, 38, 7, 22, [], 0)),
  (38, (.iload 4, 40, 4, 0, [], 0)),
  (40, (.iaload, 41, 0, 0, [], 0)),
  (41, (.iload_n 2, 42, 2, 0, [], 0)),
  (42, (.if_icmp .eq 7, 45, 49, 0, [], 0)),
  (45, (.iconst 1, 46, 0, 0, [(1, 0)], 0)),
  (46, (.goto 4, 49, 50, 0, [], 0)),
  (49, (.iconst 0, 50, 0, 0, [(0, 0)], 0)),
  (50, (.istore_n 3, 51, 3, 0, [], 0)),
  (51, (.iinc 4 1, 54, 4, 0, [(1, 0)], 0)),
  (54, (.goto (-30), 57, 24, 0, [], 0)),
  (57, (.iload_n 3, 58, 3, 0, [], 0)),
  (58, (.ifCond .eq 32, 61, 90, 0, [], 0)),
  (61, (.aload_n 0, 62, 0, 0, [], 0)),
  (62, (.getfield 57, 65, 7, 22, [], 0)),
  (65, (.iload_n 1, 66, 1, 0, [], 0)),
  (66, (.iload_n 2, 67, 2, 0, [], 0)),
  (67, (.iastore, 68, 0, 0, [], 0)),
  (68, (.iload_n 1, 69, 1, 0, [], 0)),
  (69, (.iconst 1, 70, 0, 0, [(1, 0)], 0)),
  (70, (.iadd, 71, 0, 0, [], 0)),
  (71, (.aload_n 0, 72, 0, 0, [], 0)),
  (72, (.getfield 170, 75, 7, 21, [], 0)),
  (75, (.if_icmp .eq 13, 78, 88, 0, [], 0)),
  (78, (.aload_n 0, 79, 0, 0, [], 0)),
  (79, (.iload_n 1, 80, 1, 0, [], 0)),
  (80, (.iconst 1, 81, 0, 0, [(1, 0)], 0)),
  (81, (.iadd, 82, 0, 0, [], 0)),
  (82, (.invokevirtual 182, 85, 157, 2, [], 0)),
  (85, (.ifCond .eq 5, 88, 90, 0, [], 0)),
  (88, (.iconst 1, 89, 0, 0, [(1, 0)], 0)),
  (89, (.ireturn, 90, 1, 0, [], 0)),
  (90, (.iinc 2 1, 93, 2, 0, [(1, 0)], 0)),
  (93, (.goto (-91), 96, 2, 0, [], 0)),
  (96, (.iconst 0, 97, 0, 0, [(0, 0)], 0)),
  (97, (.ireturn, 98, 1, 0, [], 0))]
def cp_Model_findFirst : List (List Nat) := [[], [], [], [], [], [], [], [742], [], [], [], [], [923, 39], [], [], [], [], [], [], [], [], [], [744], [], [], [], [], [], [], [], [], [], [], [], [], [], [744], [], [], [], [], [], [], [], [743], [], [], [], [], [], [987, 45], [], [], [], [], [], [], []]
def cd_Model_canHave : mm_C := [(0, (.iconst 0, 1, 0, 0, [(0, 0)], 0)),
  (1, (.istore_n 2, 2, 2, 0, [], 0)),
  (2, (.iload_n 2, 3, 2, 0, [], 0)),
  (3, (.bipush 90, 5, 0, 0, [(90, 0)], 0)),
  (5, (.if_icmp .ge 91, 8, 96, 0, [], 0)),
  (8, (.aload_n 0, 9, 0, 0, [], 0)),
  (9, (.aload_n 0, 10, 0, 0, [], 0)),
  (10, (.getfield 54, 13, 7, 20, [], 0)),
  (13, (.iload_n 1, 14, 1, 0, [], 0)),
  (14, (.iaload, 15, 0, 0, [], 0)),
  (15, (.iconst 0, 16, 0, 0, [(0, 0)], 0)),
  (16, (.iload_n 2, 17, 2, 0, [], 0)),
  (17, (.invokevirtual 152, 20, 141, 4, [], 0)),
  (20, (.istore_n 3, 21, 3, 0, [], 0)),
  (21, (.iconst 0, 22, 0, 0, [(0, 0)], 0)),
  (22, (.istore 4, 24, 4, 0, [], 0)),
  (24, (.iload 4, 26, 4, 0, [], 0)),
  (26, (.iload_n 1, 27, 1, 0, [], 0)),
  (27, (.if_icmp .ge 30, 30, 57, 0, [], 0)),
  (30, (.iload_n 3, 31, 3, 0, [], 0)),
  (31, (.ifCond .eq 18, 34, 49, 0, [], 0)),
  (34, (.aload_n 0, 35, 0, 0, [], 0)),
  (35, (.getfield 57, 38, 7, 22, [], 0)),
  (38, (.iload 4, 40, 4, 0, [], 0)),
  (40, (.iaload, 41, 0, 0, [], 0)),
  (41, (.iload_n 2, 42, 2, 0, [], 0)),
  (42, (.if_icmp .eq 7, 45, 49, 0, [], 0)),
  (45, (.iconst 1, 46, 0, 0, [(1, 0)], 0)),
  (46, (.goto 4, 49, 50, 0, [], 0)),
  (49, (.iconst 0, 50, 0, 0, [(0, 0)], 0)),
  (50, (.istore_n 3, 51, 3, 0, [], 0)),
  (51, (.iinc 4 1, 54, 4, 0, [(1, 0)], 0)),
  (54, (.goto (-30), 57, 24, 0, [], 0)),
  (57, (.iload_n 3, 58, 3, 0, [], 0)),
  (58, (.ifCond .eq 32, 61, 90, 0, [], 0)),
  (61, (.aload_n 0, 62, 0, 0, [], 0)),
  (62, (.getfield 57, 65, 7, 22, [], 0)),
  (65, (.iload_n 1, 66, 1, 0, [], 0)),
  (66, (.iload_n 2, 67, 2, 0, [], 0)),
  (67, (.iastore, 68, 0, 0, [], 0)),
  (68, (.iload_n 1, 69, 1, 0, [], 0)),
  (69, (.iconst 1, 70, 0, 0, [(1, 0)], 0)),
  (70, (.iadd, 71, 0, 0, [], 0)),
  (71, (.aload_n 0, 72, 0, 0, [], 0)),
  (72, (.getfield 170, 75, 7, 21, [], 0)),
  (75, (.if_icmp .eq 13, 78, 88, 0, [], 0)),
  (78, (.aload_n 0, 79, 0, 0, [], 0)),
  (79, (.iload_n 1, 80, 1, 0, [], 0)),
  (80, (.iconst 1, 81, 0, 0, [(1, 0)], 0)),
  (81, (.iadd, 82, 0, 0, [], 0)),
  (82, (.invokevirtual 185, 85, 158, 2, [], 0)),
  (85, (.ifCond .eq 5, 88, 90, 0, [], 0)),
  (88, (.iconst 1, 89, 0, 0, [(1, 0)], 0)),
  (89, (.ireturn, 90, 1, 0, [], 0)),
  (90, (.iinc 2 1, 93, 2, 0, [(1, 0)], 0)),
  (93, (.goto (-91), 96, 2, 0, [], 0)),
  (96, (.iconst 0, 97, 0, 0, [(0, 0)], 0)),
  (97, (.ireturn, 98, 1, 0, [], 0))]
def cp_Model_canHave : List (List Nat) := [[], [], [], [], [], [], [], [742], [], [], [], [], [923, 39], [], [], [], [], [], [], [], [], [], [744], [], [], [], [], [], [], [], [], [], [], [], [], [], [744], [], [], [], [], [], [], [], [743], [], [], [], [], [], [991, 46], [], [], [], [], [], [], []]
def cd_Model_isOneLeft : mm_C := [(0, (.iconst 0, 1, 0, 0, [(0, 0)], 0)),
  (1, (.istore_n 2, 2, 2, 0, [], 0)),
  (2, (.iload_n 2, 3, 2, 0, [], 0)),
  (3, (.bipush 90, 5, 0, 0, [(90, 0)], 0)),
  (5, (.if_icmp .ge 53, 8, 58, 0, [], 0)),
  (8, (.aload_n 0, 9, 0, 0, [], 0)),
  (9, (.aload_n 0, 10, 0, 0, [], 0)),
  (10, (.getfield 54, 13, 7, 20, [], 0)),
  (13, (.iload_n 1, 14, 1, 0, [], 0)),
  (14, (.iaload, 15, 0, 0, [], 0)),
  (15, (.iconst 0, 16, 0, 0, [(0, 0)], 0)),
  (16, (.iload_n 2, 17, 2, 0, [], 0)),
  (17, (.invokevirtual 152, 20, 141, 4, [], 0)),
  (20, (.ifCond .eq 32, 23, 52, 0, [], 0)),
  (23, (.aload_n 0, 24, 0, 0, [], 0)),
  (24, (.getfield 57, 27, 7, 22, [], 0)),
  (27, (.iconst 0, 28, 0, 0, [(0, 0)], 0)),
  (28, (.iaload, 29, 0, 0, [], 0)),
  (29, (.iload_n 2, 30, 2, 0, [], 0)),
  (30, (.if_icmp .eq 22, 33, 52, 0, [], 0)),
  (33, (.aload_n 0, 34, 0, 0, [], 0)),
  (34, (.getfield 57, 37, 7, 22, [], 0)),
  (37, (.iconst 1, 38, 0, 0, [(1, 0)], 0)),
  (38, (.iaload, 39, 0, 0, [], 0)),
  (39, (.iload_n 2, 40, 2, 0, [], 0)),
  (40, (.if_icmp .eq 12, 43, 52, 0, [], 0)),
  (43, (.aload_n 0, 44, 0, 0, [], 0)),
  (44, (.getfield 57, 47, 7, 22, [], 0)),
  (47, (.iload_n 1, 48, 1, 0, [], 0)),
  (48, (.iload_n 2, 49, 2, 0, [], 0)),
  (49, (.iastore, 50, 0, 0, [], 0)),
  (50, (.iconst 1, 51, 0, 0, [(1, 0)], 0)),
  (51, (.ireturn, 52, 1, 0, [], 0)),
  (52, (.iinc 2 1, 55, 2, 0, [(1, 0)], 0)),
  (55, (.goto (-53), 58, 2, 0, [], 0)),
  (58, (.iconst 0, 59, 0, 0, [(0, 0)], 0)),
  (59, (.ireturn, 60, 1, 0, [], 0))]
def cp_Model_isOneLeft : List (List Nat) := [[], [], [], [], [], [], [], [742], [], [], [], [], [923, 39], [], [], [744], [], [], [], [], [], [744], [], [], [], [], [], [744], [], [], [], [], [], [], [], [], []]
def cd_Model_two : mm_C := [(0, (.iload_n 1, 1, 1, 0, [], 0)),
  (1, (.invokestatic 138, 4, 132, 1, [], 0)),
  (4, (.ifCond .ne 9, 7, 13, 0, [], 0)),
  (7, (.aload_n 0, 8, 0, 0, [], 0)),
  (8, (.iconst (-1), 9, 0, 0, [((-1), 0)], 0)),
  (9, (.invokevirtual 83, 12, 116, 2, [], 0)),
  (12, (.ireturn, 13, 0, 0, [], 0)),
  (13, (.iload_n 2, 14, 2, 0, [], 0)),
  (14, (.i2l, 15, 0, 0, [], 0)),
  (15, (.lconst 0, 16, 0, 0, [], 0)),
  (16, (.lconst 1, 17, 0, 0, [], 1)),
  (17, (.invokestatic 75, 20, 121, 3, [], 0)),
  (20, (.ifCond .ne 10, 23, 30, 0, [], 0)),
  (23, (.aload_n 0, 24, 0, 0, [], 0)),
  (24, (.bipush (-2), 26, 0, 0, [((-2), 0)], 0)),
  (26, (.invokevirtual 83, 29, 116, 2, [], 0)),
  (29, (.ireturn, 30, 0, 0, [], 0)),
  (30, (.iconst 0, 31, 0, 0, [(0, 0)], 0)),
  (31, (.istore_n 3, 32, 3, 0, [], 0)),
  (32, (.bipush (-9), 34, 0, 0, [((-9), 0)], 0)),
  (34, (.istore 4, 36, 4, 0, [], 0)),
  (36, (.iconst 0, 37, 0, 0, [(0, 0)], 0)),
  (37, (.istore 5, 39, 5, 0, [], 0)),
  (39, (.iload 5, 41, 5, 0, [], 0)),
  (41, (.bipush 90, 43, 0, 0, [(90, 0)], 0)),
  (43, (.if_icmp .ge 171, 46, 214, 0, [], 0)),
  (46, (.iload 5, 48, 5, 0, [], 0)),
  (48, (.iconst 1, 49, 0, 0, [(1, 0)], 0)),
  (49, (.iadd, 50, 0, 0, [], 0)),
  (50, (.istore 6, 52, 6, 0, [], 0)),
  (52, (.iload 6, 54, 6, 0, [], 0)),
  (54, (.bipush 90, 56, 0, 0, [(90, 0)], 0)),
  (56, (.if_icmp .ge 152, 59, 208, 0, [], 0)),
  (59, (.aload_n 0, 60, 0, 0, [], 0)),
  (60, (.iload_n 1, 61, 1, 0, [], 0)),
  (61, (.iconst 0, 62, 0, 0, [(0, 0)], 0)),
  (62, (.iload 5, 64, 5, 0, [], 0)),
  (64, (.invokevirtual 152, 67, 141, 4, [], 0)),
  (67, (.ifCond .ne 18, 70, 85, 0, [], 0)),
  (70, (.aload_n 0, 71, 0, 0, [], 0)),
  (71, (.iload_n 1, 72, 1, 0, [], 0)),
  (72, (.iconst 0, 73, 0, 0, [(0, 0)], 0)),
  (73, (.iload 6, 75, 6, 0, [], 0)),
  (75, (.invokevirtual 152, 78, 141, 4, [], 0)),
  (78, (.ifCond .ne 7, 81, 85, 0, [], 0)),
  (81, (.iconst 1, 82, 0, 0, [(1, 0)], 0)),
  (82, (.goto 4, 85, 86, 0, [], 0)),
  (85, (.iconst 0, 86, 0, 0, [(0, 0)], 0)),
  (86, (.istore 7, 88, 7, 0, [], 0)),
  (88, (.iconst 0, 89, 0, 0, [(0, 0)], 0)),
  (89, (.istore 8, 91, 8, 0, [], 0)),
  (91, (.iload 8, 93, 8, 0, [], 0)),
  (93, (.aload_n 0, 94, 0, 0, [], 0)),
  (94, (.getfield 72, 97, 7, 0, [], 0)),
  (97, (.if_icmp .ge 68, 100, 165, 0, [], 0)),
  (100, (.iload 7, 102, 7, 0, [], 0)),
  (102, (.ifCond .eq 63, 105, 165, 0, [], 0)),
  (105, (.aload_n 0, 106, 0, 0, [], 0)),
  (106, (.getfield 22, 109, 7, 5, [], 0)),
  (109, (.bipush 6, 111, 0, 0, [(6, 0)], 0)),
  (111, (.iload 8, 113, 8, 0, [], 0)),
  (113, (.imul, 114, 0, 0, [], 0)),
  (114, (.iload_n 1, 115, 1, 0, [], 0)),
  (115, (.iadd, 116, 0, 0, [], 0)),
  (116, (.baload, 117, 0, 0, [], 0)),
  (117, (.ifCond .eq 35, 120, 152, 0, [], 0)),
  (120, (.aload_n 0, 121, 0, 0, [], 0)),
  (121, (.getfield 26, 124, 7, 6, [], 0)),
  (124, (.bipush 90, 126, 0, 0, [(90, 0)], 0)),
  (126, (.iload 8, 128, 8, 0, [], 0)),
  (128, (.imul, 129, 0, 0, [], 0)),
  (129, (.iload 5, 131, 5, 0, [], 0)),
  (131, (.iadd, 132, 0, 0, [], 0)),
  (132, (.baload, 133, 0, 0, [], 0)),
  (133, (.ifCond .ne 19, 136, 152, 0, [], 0)),
  (136, (.aload_n 0, 137, 0, 0, [], 0)),
  (137, (.getfield 26, 140, 7, 6, [], 0)),
  (140, (.bipush 90, 142, 0, 0, [(90, 0)], 0)),
  (142, (.iload 8, 144, 8, 0, [], 0)),
  (144, (.imul, 145, 0, 0, [], 0)),
  (145, (.iload 6, 147, 6, 0, [], 0)),
  (147, (.iadd, 148, 0, 0, [], 0)),
  (148, (.baload, 149, 0, 0, [], 0)),
  (149, (.ifCond .eq 7, 152, 156, 0, [], 0)),
  (152, (.iconst 1, 153, 0, 0, [(1, 0)], 0)),
  (153, (.goto 4, 156, 157, 0, [], 0)),
  (156, (.iconst 0, 157, 0, 0, [(0, 0)], 0)),
  (157, (.istore 7, 159, 7, 0, [], 0)),
  (159, (.iinc 8 1, 162, 8, 0, [(1, 0)], 0)),
  (162, (.goto (-71), 165, 91, 0, [], 0)),
  (165, (.iload 7, 167, 7, 0, [], 0)),
  (167, (.ifCond .eq 18, 170, 185, 0, [], 0)),
  (170, (.iload_n 3, 171, 3, 0, [], 0)),
  (171, (.ifCond .ne 14, 174, 185, 0, [], 0)),
  (174, (.bipush 100, 176, 0, 0, [(100, 0)], 0)),
  (176, (.iload 5, 178, 5, 0, [], 0)),
  (178, (.imul, 179, 0, 0, [], 0)),
  (179, (.iload 6, 181, 6, 0, [], 0)),
  (181, (.iadd, 182, 0, 0, [], 0)),
  (182, (.goto 5, 185, 187, 0, [], 0)),
  (185, (.iload 4, 187, 4, 0, [], 0)),
  (187, (.istore 4, 189, 4, 0, [], 0)),
  (189, (.iload_n 3, 190, 3, 0, [], 0)),
  (190, (.iload 7, 192, 7, 0, [], 0)),
  (192, (.ifCond .eq 7, 195, 199, 0, [], 0)),
  (195, (.iconst 1, 196, 0, 0, [(1, 0)], 0)),
  (196, (.goto 4, 199, 200, 0, [], 0)),
  (199, (.iconst 0, 200, 0, 0, [(0, 0)], 0)),
  (200, (.iadd, 201, 0, 0, [], 0)),
  (201, (.istore_n 3, 202, 3, 0, [], 0)),
  (202, (.iinc 6 1, 205, 6, 0, [(1, 0)], 0)),
  (205, (.goto (-153), 208, 52, 0, [], 0)),
  (208, (.iinc 5 1, 211, 5, 0, [(1, 0)], 0)),
  (211, (.goto (-172), 214, 39, 0, [], 0)),
  (214, (.iload_n 2, 215, 2, 0, [], 0)),
  (215, (.ifCond .ne 7, 218, 222, 0, [], 0)),
  (218, (.iload_n 3, 219, 3, 0, [], 0)),
  (219, (.goto 5, 222, 224, 0, [], 0)),
  (222, (.iload 4, 224, 4, 0, [], 0)),
  (224, (.ireturn, 225, 0, 0, [], 0))]
def cp_Model_two : List (List Nat) := [[], [0, 887], [], [], [], [821, 28], [], [], [], [], [], [0, 843], [], [], [], [821, 28], [], [], [], [], [], [], [], [], [], [], [], [], [], [], [], [], [], [], [], [], [], [923, 39], [], [], [], [], [], [923, 39], [], [], [], [], [], [], [], [], [], [722], [], [], [], [], [727], [], [], [], [], [], [], [], [], [728], [], [], [], [], [], [], [], [], [728], [], [], [], [], [], [], [], [], [], [], [], [], [], [], [], [], [], [], [], [], [], [], [], [], [], [], [], [], [], [], [], [], [], [], [], [], [], [], [], [], [], [], []]
def cd_Model_give : mm_C := [(0, (.iload_n 1, 1, 1, 0, [], 0)),
  (1, (.invokestatic 138, 4, 132, 1, [], 0)),
  (4, (.ifCond .eq 15, 7, 19, 0, [], 0)),
  (7, (.iload_n 2, 8, 2, 0, [], 0)),
  (8, (.iconst (-1), 9, 0, 0, [((-1), 0)], 0)),
  (9, (.if_icmp .eq 16, 12, 25, 0, [], 0)),
  (12, (.iload_n 2, 13, 2, 0, [], 0)),
  (13, (.invokestatic 144, 16, 136, 1, [], 0)),
  (16, (.ifCond .ne 9, 19, 25, 0, [], 0)),
  (19, (.aload_n 0, 20, 0, 0, [], 0)),
  (20, (.iconst (-1), 21, 0, 0, [((-1), 0)], 0)),
  (21, (.invokevirtual 83, 24, 116, 2, [], 0)),
  (24, (.ireturn, 25, 0, 0, [], 0)),
  (25, (.aload_n 0, 26, 0, 0, [], 0)),
  (26, (.getfield 39, 29, 7, 10, [], 0)),
  (29, (.iload_n 1, 30, 1, 0, [], 0)),
  (30, (.iaload, 31, 0, 0, [], 0)),
  (31, (.istore_n 3, 32, 3, 0, [], 0)),
  (32, (.aload_n 0, 33, 0, 0, [], 0)),
  (33, (.getfield 39, 36, 7, 10, [], 0)),
  (36, (.iload_n 1, 37, 1, 0, [], 0)),
  (37, (.iload_n 2, 38, 2, 0, [], 0)),
  (38, (.iastore, 39, 0, 0, [], 0)),
  (39, (.iload_n 3, 40, 3, 0, [], 0)),
  (40, (.ifCond .ge 8, 43, 48, 0, [], 0)),
  (43, (.bipush (-9), 45, 0, 0, [((-9), 0)], 0)),
  (45, (.goto 4, 48, 49, 0, [], 0)),
  (48, (.iload_n 3, 49, 3, 0, [], 0)),
  (49, (.ireturn, 50, 0, 0, [], 0))]
def cp_Model_give : List (List Nat) := [[], [0, 887], [], [], [], [], [], [0, 903], [], [], [], [821, 28], [], [], [732], [], [], [], [], [732], [], [], [], [], [], [], [], [], []]
def cd_Model_saying : mm_C := [(0, (.iload_n 2, 1, 2, 0, [], 0)),
  (1, (.bipush 100, 3, 0, 0, [(100, 0)], 0)),
  (3, (.idiv, 4, 0, 0, [], 0)),
  (4, (.istore_n 3, 5, 3, 0, [], 0)),
  (5, (.iload_n 2, 6, 2, 0, [], 0)),
  (6, (.bipush 10, 8, 0, 0, [(10, 0)], 0)),
  (8, (.idiv, 9, 0, 0, [], 0)),
  (9, (.bipush 10, 11, 0, 0, [(10, 0)], 0)),
  (11, (.irem, 12, 0, 0, [], 0)),
  (12, (.istore 4, 14, 4, 0, [], 0)),
  (14, (.iload_n 2, 15, 2, 0, [], 0)),
  (15, (.bipush 10, 17, 0, 0, [(10, 0)], 0)),
  (17, (.irem, 18, 0, 0, [], 0)),
  (18, (.istore 5, 20, 5, 0, [], 0)),
  (20, (.aload_n 0, 21, 0, 0, [], 0)),
  (21, (.iload_n 1, 22, 1, 0, [], 0)),
  (22, (.invokevirtual 134, 25, 129, 2, [], 0)),
  (25, (.ifCond .eq 43, 28, 68, 0, [], 0)),
  (28, (.iload_n 2, 29, 2, 0, [], 0)),
  (29, (.ifCond .lt 39, 32, 68, 0, [], 0)),
  (32, (.iload_n 3, 33, 3, 0, [], 0)),
  (33, (.iconst 5, 34, 0, 0, [(5, 0)], 0)),
  (34, (.if_icmp .gt 34, 37, 68, 0, [], 0)),
  (37, (.iload 4, 39, 4, 0, [], 0)),
  (39, (.iconst 5, 40, 0, 0, [(5, 0)], 0)),
  (40, (.if_icmp .gt 28, 43, 68, 0, [], 0)),
  (43, (.iload 5, 45, 5, 0, [], 0)),
  (45, (.iconst 5, 46, 0, 0, [(5, 0)], 0)),
  (46, (.if_icmp .gt 22, 49, 68, 0, [], 0)),
  (49, (.iload_n 3, 50, 3, 0, [], 0)),
  (50, (.iload 4, 52, 4, 0, [], 0)),
  (52, (.if_icmp .eq 16, 55, 68, 0, [], 0)),
  (55, (.iload_n 3, 56, 3, 0, [], 0)),
  (56, (.iload 5, 58, 5, 0, [], 0)),
  (58, (.if_icmp .eq 10, 61, 68, 0, [], 0)),
  (61, (.iload 4, 63, 4, 0, [], 0)),
  (63, (.iload 5, 65, 5, 0, [], 0)),
  (65, (.if_icmp .ne 9, 68, 74, 0, [], 0)),
  (68, (.aload_n 0, 69, 0, 0, [], 0)),
  (69, (.iconst (-1), 70, 0, 0, [((-1), 0)], 0)),
  (70, (.invokevirtual 83, 73, 116, 2, [], 0)),
  (73, (.ireturn, 74, 0, 0, [], 0)),
  (74, (.aload_n 0, 75, 0, 0, [], 0)),
  (75, (.getfield 131, 78, 7, 11, [], 0)),
  (78, (.bipush 20, 80, 0, 0, [(20, 0)], 0)),
  (80, (.if_icmp .ne 10, 83, 90, 0, [], 0)),
  (83, (.aload_n 0, 84, 0, 0, [], 0)),
  (84, (.bipush (-6), 86, 0, 0, [((-6), 0)], 0)),
  (86, (.invokevirtual 83, 89, 116, 2, [], 0)),
  (89, (.ireturn, 90, 0, 0, [], 0)),
  (90, (.aload_n 0, 91, 0, 0, [], 0)),
  (91, (.getfield 42, 94, 7, 12, [], 0)),
  (94, (.aload_n 0, 95, 0, 0, [], 0)),
  (95, (.getfield 131, 98, 7, 11, [], 0)),
  (98, (.iload_n 1, 99, 1, 0, [], 0)),
  (99, (.iastore, 100, 0, 0, [], 0)),
  (100, (.aload_n 0, 101, 0, 0, [], 0)),
  (101, (.getfield 45, 104, 7, 13, [], 0)),
  (104, (.aload_n 0, 105, 0, 0, [], 0)),
  (105, (.getfield 131, 108, 7, 11, [], 0)),
  (108, (.iload_n 2, 109, 2, 0, [], 0)),
  (109, (.iastore, 110, 0, 0, [], 0)),
  (110, (.aload_n 0, 111, 0, 0, [], 0)),
  (111, (.dup, 112, 0, 0, [], 0)),
  (112, (.getfield 131, 115, 7, 11, [], 0)),
  (115, (.iconst 1, 116, 0, 0, [(1, 0)], 0)),
  (116, (.iadd, 117, 0, 0, [], 0)),
  (117, (.putfield 131, 120, 7, 11, [(0, 0)], 0)),
  (120, (.aload_n 0, 121, 0, 0, [], 0)),
  (121, (.getfield 131, 124, 7, 11, [], 0)),
  (124, (.ireturn, 125, 0, 0, [], 0))]
def cp_Model_saying : List (List Nat) := [[], [], [], [], [], [], [], [], [], [], [], [], [], [], [], [], [875, 37], [], [], [], [], [], [], [], [], [], [], [], [], [], [], [], [], [], [], [], [], [], [], [], [821, 28], [], [], [733], [], [], [], [], [821, 28], [], [], [734], [], [733], [], [], [], [735], [], [733], [], [], [], [], [733], [], [], [733], [], [733], []]
def cd_Model_orders : mm_C := [(0, (.iconst 0, 1, 0, 0, [(0, 0)], 0)),
  (1, (.istore_n 1, 2, 1, 0, [], 0)),
  (2, (.iconst 0, 3, 0, 0, [(0, 0)], 0)),
  (3, (.istore_n 2, 4, 2, 0, [], 0)),
  (4, (.iload_n 2, 5, 2, 0, [], 0)),
  (5, (.bipush 6, 7, 0, 0, [(6, 0)], 0)),
  (7, (.if_icmp .ge 63, 10, 70, 0, [], 0)),
  (10, (.iconst 1, 11, 0, 0, [(1, 0)], 0)),
  (11, (.istore_n 3, 12, 3, 0, [], 0)),
  (12, (.iconst 0, 13, 0, 0, [(0, 0)], 0)),
  (13, (.istore 4, 15, 4, 0, [], 0)),
  (15, (.iload 4, 17, 4, 0, [], 0)),
  (17, (.aload_n 0, 18, 0, 0, [], 0)),
  (18, (.getfield 131, 21, 7, 11, [], 0)),
  (21, (.if_icmp .ge 29, 24, 50, 0, [], 0)),
  (24, (.iload_n 3, 25, 3, 0, [], 0)),
  (25, (.ifCond .eq 17, 28, 42, 0, [], 0)),
  (28, (.aload_n 0, 29, 0, 0, [], 0)),
  (29, (.iload 4, 31, 4, 0, [], 0)),
  (31, (.iload_n 2, 32, 2, 0, [], 0)),
  (32, (.invokevirtual 199, 35, 163, 3, [], 0)),
  (35, (.ifCond .eq 7, 38, 42, 0, [], 0)),
  (38, (.iconst 1, 39, 0, 0, [(1, 0)], 0)),
  (39, (.goto 4, 42, 43, 0, [], 0)),
  (42, (.iconst 0, 43, 0, 0, [(0, 0)], 0)),
  (43, (.istore_n 3, 44, 3, 0, [], 0)),
  (44, (.iinc 4 1, 47, 4, 0, [(1, 0)], 0)),
  (47, (.goto (-32), 50, 15, 0, [], 0)),
  (50, (.iload_n 1, 51, 1, 0, [], 0)),
  (51, (.iload_n 3, 52, 3, 0, [], 0)),
  (52, (.ifCond .eq 9, 55, 61, 0, [], 0)),
  (55, (.iconst 1, 56, 0, 0, [(1, 0)], 0)),
  (56, (.iload_n 2, 57, 2, 0, [], 0)),
  (57, (.ishl, 58, 0, 0, [], 0)),
  (58, (.goto 4, 61, 62, 0, [], 0)),
  (61, (.iconst 0, 62, 0, 0, [(0, 0)], 0)),
  (62, (.ior, 63, 0, 0, [], 0)),
  (63, (.istore_n 1, 64, 1, 0, [], 0)),
  (64, (.iinc 2 1, 67, 2, 0, [(1, 0)], 0)),
  (67, (.goto (-63), 70, 4, 0, [], 0)),
  (70, (.iload_n 1, 71, 1, 0, [], 0)),
  (71, (.ireturn, 72, 0, 0, [], 0))]
def cp_Model_orders : List (List Nat) := [[], [], [], [], [], [], [], [], [], [], [], [], [], [733], [], [], [], [], [], [], [1011, 47], [], [], [], [], [], [], [], [], [], [], [], [], [], [], [], [], [], [], [], [], []]
def cd_Model_fits : mm_C := [(0, (.aload_n 0, 1, 0, 0, [], 0)),
  (1, (.getfield 42, 4, 7, 12, [], 0)),
  (4, (.iload_n 1, 5, 1, 0, [], 0)),
  (5, (.iaload, 6, 0, 0, [], 0)),
  (6, (.istore_n 3, 7, 3, 0, [], 0)),
  (7, (.aload_n 0, 8, 0, 0, [], 0)),
  (8, (.getfield 39, 11, 7, 10, [], 0)),
  (11, (.aload_n 0, 12, 0, 0, [], 0)),
  (12, (.getfield 45, 15, 7, 13, [], 0)),
  (15, (.iload_n 1, 16, 1, 0, [], 0)),
  (16, (.iaload, 17, 0, 0, [], 0)),
  (17, (.bipush 100, 19, 0, 0, [(100, 0)], 0)),
  (19, (.idiv, 20, 0, 0, [], 0)),
  (20, (.iaload, 21, 0, 0, [], 0)),
  (21, (.istore 4, 23, 4, 0, [], 0)),
  (23, (.aload_n 0, 24, 0, 0, [], 0)),
  (24, (.getfield 39, 27, 7, 10, [], 0)),
  (27, (.aload_n 0, 28, 0, 0, [], 0)),
  (28, (.getfield 45, 31, 7, 13, [], 0)),
  (31, (.iload_n 1, 32, 1, 0, [], 0)),
  (32, (.iaload, 33, 0, 0, [], 0)),
  (33, (.bipush 10, 35, 0, 0, [(10, 0)], 0)),
  (35, (.idiv, 36, 0, 0, [], 0)),
  (36, (.bipush 10, 38, 0, 0, [(10, 0)], 0)),
  (38, (.irem, 39, 0, 0, [], 0)),
  (39, (.iaload, 40, 0, 0, [], 0)),
  (40, (.istore 5, 42, 5, 0, [], 0)),
  (42, (.aload_n 0, 43, 0, 0, [], 0)),
  (43, (.getfield 39, 46, 7, 10, [], 0)),
  (46, (.aload_n 0, 47, 0, 0, [], 0)),
  (47, (.getfield 45, 50, 7, 13, [], 0)),
  (50, (.iload_n 1, 51, 1, 0, [], 0)),
  (51, (.iaload, 52, 0, 0, [], 0)),
  (52, (.bipush 10, 54, 0, 0, [(10, 0)], 0)),
  (54, (.irem, 55, 0, 0, [], 0)),
  (55, (.iaload, 56, 0, 0, [], 0)),
  (56, (.istore 6, 58, 6, 0, [], 0)),
  (58, (.iload_n 2, 59, 2, 0, [], 0)),
  (59, (.tableswitch 93 0 4 #[33, 45, 57, 69, 81], 92, 152, 0, [(0, 92), (1, 104), (2, 116), (3, 128), (4, 140)], 0)),
  (92, (.aload_n 0, 93, 0, 0, [], 0)),
  (93, (.iload_n 3, 94, 3, 0, [], 0)),
  (94, (.iload 4, 96, 4, 0, [], 0)),
  (96, (.iload 5, 98, 5, 0, [], 0)),
  (98, (.iload 6, 100, 6, 0, [], 0)),
  (100, (.invokevirtual 195, 103, 164, 5, [], 0)),
  (103, (.ireturn, 104, 1, 0, [], 0)),
  (104, (.aload_n 0, 105, 0, 0, [], 0)),
  (105, (.iload_n 3, 106, 3, 0, [], 0)),
  (106, (.iload 4, 108, 4, 0, [], 0)),
  (108, (.iload 6, 110, 6, 0, [], 0)),
  (110, (.iload 5, 112, 5, 0, [], 0)),
  (112, (.invokevirtual 195, 115, 164, 5, [], 0)),
  (115, (.ireturn, 116, 1, 0, [], 0)),
  (116, (.aload_n 0, 117, 0, 0, [], 0)),
  (117, (.iload_n 3, 118, 3, 0, [], 0)),
  (118, (.iload 5, 120, 5, 0, [], 0)),
  (120, (.iload 4, 122, 4, 0, [], 0)),
  (122, (.iload 6, 124, 6, 0, [], 0)),
  (124, (.invokevirtual 195, 127, 164, 5, [], 0)),
  (127, (.ireturn, 128, 1, 0, [], 0)),
  (128, (.aload_n 0, 129, 0, 0, [], 0)),
  (129, (.iload_n 3, 130, 3, 0, [], 0)),
  (130, (.iload 6, 132, 6, 0, [], 0)),
  (132, (.iload 4, 134, 4, 0, [], 0)),
  (134, (.iload 5, 136, 5, 0, [], 0)),
  (136, (.invokevirtual 195, 139, 164, 5, [], 0)),
  (139, (.ireturn, 140, 1, 0, [], 0)),
  (140, (.aload_n 0, 141, 0, 0, [], 0)),
  (141, (.iload_n 3, 142, 3, 0, [], 0)),
  (142, (.iload 5, 144, 5, 0, [], 0)),
  (144, (.iload 6, 146, 6, 0, [], 0)),
  (146, (.iload 4, 148, 4, 0, [], 0)),
  (148, (.invokevirtual 195, 151, 164, 5, [], 0)),
  (151, (.ireturn, 152, 1, 0, [], 0)),
  (152, (.aload_n 0, 153, 0, 0, [], 0)),
  (153, (.iload_n 3, 154, 3, 0, [], 0)),
  (154, (.iload 6, 156, 6, 0, [], 0)),
  (156, (.iload 5, 158, 5, 0, [], 0)),
  (158, (.iload 4, 160, 4, 0, [], 0)),
  (160, (.invokevirtual 195, 163, 164, 5, [], 0)),
  (163, (.ireturn, 164, 1, 0, [], 0))]
def cp_Model_fits : List (List Nat) := [[], [734], [], [], [], [], [732], [], [735], [], [], [], [], [], [], [], [732], [], [735], [], [], [], [], [], [], [], [], [], [732], [], [735], [], [], [], [], [], [], [], [], [], [], [], [], [], [1015, 48], [], [], [], [], [], [], [1015, 48], [], [], [], [], [], [], [1015, 48], [], [], [], [], [], [], [1015, 48], [], [], [], [], [], [], [1015, 48], [], [], [], [], [], [], [1015, 48], []]
def cd_Model_isDone : mm_C := [(0, (.iload_n 2, 1, 2, 0, [], 0)),
  (1, (.i2l, 2, 0, 0, [], 0)),
  (2, (.lconst 0, 3, 0, 0, [], 0)),
  (3, (.ldc2_w 79, 6, 0, 0, [], 5)),
  (6, (.invokestatic 75, 9, 121, 3, [], 0)),
  (9, (.ifCond .eq 30, 12, 39, 0, [], 0)),
  (12, (.iload 4, 14, 4, 0, [], 0)),
  (14, (.i2l, 15, 0, 0, [], 0)),
  (15, (.lconst 0, 16, 0, 0, [], 0)),
  (16, (.ldc2_w 79, 19, 0, 0, [], 5)),
  (19, (.invokestatic 75, 22, 121, 3, [], 0)),
  (22, (.ifCond .eq 17, 25, 39, 0, [], 0)),
  (25, (.iload_n 3, 26, 3, 0, [], 0)),
  (26, (.i2l, 27, 0, 0, [], 0)),
  (27, (.ldc2_w 191, 30, 0, 0, [], 39)),
  (30, (.ldc2_w 193, 33, 0, 0, [], 41)),
  (33, (.invokestatic 75, 36, 121, 3, [], 0)),
  (36, (.ifCond .ne 5, 39, 41, 0, [], 0)),
  (39, (.iconst 0, 40, 0, 0, [(0, 0)], 0)),
  (40, (.ireturn, 41, 1, 0, [], 0)),
  (41, (.iconst 0, 42, 0, 0, [(0, 0)], 0)),
  (42, (.istore 5, 44, 5, 0, [], 0)),
  (44, (.bipush 9, 46, 0, 0, [(9, 0)], 0)),
  (46, (.iload_n 1, 47, 1, 0, [], 0)),
  (47, (.imul, 48, 0, 0, [], 0)),
  (48, (.istore 6, 50, 6, 0, [], 0)),
  (50, (.iload 6, 52, 6, 0, [], 0)),
  (52, (.bipush 9, 54, 0, 0, [(9, 0)], 0)),
  (54, (.iload_n 1, 55, 1, 0, [], 0)),
  (55, (.imul, 56, 0, 0, [], 0)),
  (56, (.iconst 3, 57, 0, 0, [(3, 0)], 0)),
  (57, (.aload_n 0, 58, 0, 0, [], 0)),
  (58, (.getfield 16, 61, 7, 3, [], 0)),
  (61, (.iload_n 1, 62, 1, 0, [], 0)),
  (62, (.iaload, 63, 0, 0, [], 0)),
  (63, (.imul, 64, 0, 0, [], 0)),
  (64, (.iadd, 65, 0, 0, [], 0)),
  (65, (.if_icmp .ge 72, 68, 137, 0, [], 0)),
  (68, (.iload 5, 70, 5, 0, [], 0)),
  (70, (.ifCond .ne 54, 73, 124, 0, [], 0)),
  (73, (.aload_n 0, 74, 0, 0, [], 0)),
  (74, (.getfield 19, 77, 7, 4, [], 0)),
  (77, (.iload 6, 79, 6, 0, [], 0)),
  (79, (.iconst 1, 80, 0, 0, [(1, 0)], 0)),
  (80, (.iadd, 81, 0, 0, [], 0)),
  (81, (.iaload, 82, 0, 0, [], 0)),
  (82, (.iload_n 3, 83, 3, 0, [], 0)),
  (83, (.bipush 39, 85, 0, 0, [(39, 0)], 0)),
  (85, (.isub, 86, 0, 0, [], 0)),
  (86, (.if_icmp .ne 42, 89, 128, 0, [], 0)),
  (89, (.aload_n 0, 90, 0, 0, [], 0)),
  (90, (.iload_n 1, 91, 1, 0, [], 0)),
  (91, (.aload_n 0, 92, 0, 0, [], 0)),
  (92, (.getfield 19, 95, 7, 4, [], 0)),
  (95, (.iload 6, 97, 6, 0, [], 0)),
  (97, (.iaload, 98, 0, 0, [], 0)),
  (98, (.iload_n 2, 99, 2, 0, [], 0)),
  (99, (.invokevirtual 124, 102, 126, 4, [], 0)),
  (102, (.ifCond .eq 26, 105, 128, 0, [], 0)),
  (105, (.aload_n 0, 106, 0, 0, [], 0)),
  (106, (.iload_n 1, 107, 1, 0, [], 0)),
  (107, (.aload_n 0, 108, 0, 0, [], 0)),
  (108, (.getfield 19, 111, 7, 4, [], 0)),
  (111, (.iload 6, 113, 6, 0, [], 0)),
  (113, (.iconst 2, 114, 0, 0, [(2, 0)], 0)),
  (114, (.iadd, 115, 0, 0, [], 0)),
  (115, (.iaload, 116, 0, 0, [], 0)),
  (116, (.iload 4, 118, 4, 0, [], 0)),
  (118, (.invokevirtual 124, 121, 126, 4, [], 0)),
  (121, (.ifCond .eq 7, 124, 128, 0, [], 0)),
  (124, (.iconst 1, 125, 0, 0, [(1, 0)], 0)),
  (125, (.goto 4, 128, 129, 0, [], 0)),
  (128, (.iconst 0, 129, 0, 0, [(0, 0)], 0)),
  (129, (.istore 5, 131, 5, 0, [], 0)),
  (131, (.iinc 6 3, 134, 6, 0, [(3, 0)], 0)),
  (134, (.goto (-84), 137, 50, 0, [], 0)),
  (137, (.iload 5, 139, 5, 0, [], 0)),
  (139, (.ireturn, 140, 1, 0, [], 0))]
def cp_Model_isDone : List (List Nat) := [[], [], [], [890], [0, 843], [], [], [], [], [890], [0, 843], [], [], [], [1019], [1020], [0, 843], [], [], [], [], [], [], [], [], [], [], [], [], [], [], [], [725], [], [], [], [], [], [], [], [], [726], [], [], [], [], [], [], [], [], [], [], [], [726], [], [], [], [863, 36], [], [], [], [], [726], [], [], [], [], [], [863, 36], [], [], [], [], [], [], [], [], []]
def cd_Model_next : mm_C := [(0, (.iload_n 1, 1, 1, 0, [], 0)),
  (1, (.invokestatic 138, 4, 132, 1, [], 0)),
  (4, (.ifCond .ne 9, 7, 13, 0, [], 0)),
  (7, (.aload_n 0, 8, 0, 0, [], 0)),
  (8, (.iconst (-1), 9, 0, 0, [((-1), 0)], 0)),
  (9, (.invokevirtual 83, 12, 116, 2, [], 0)),
  (12, (.ireturn, 13, 0, 0, [], 0)),
  (13, (.bipush (-9), 15, 0, 0, [((-9), 0)], 0)),
  (15, (.istore_n 2, 16, 2, 0, [], 0)),
  (16, (.iconst 0, 17, 0, 0, [(0, 0)], 0)),
  (17, (.istore_n 3, 18, 3, 0, [], 0)),
  (18, (.iconst 0, 19, 0, 0, [(0, 0)], 0)),
  (19, (.istore 4, 21, 4, 0, [], 0)),
  (21, (.iload 4, 23, 4, 0, [], 0)),
  (23, (.aload_n 0, 24, 0, 0, [], 0)),
  (24, (.getfield 72, 27, 7, 0, [], 0)),
  (27, (.if_icmp .ge 150, 30, 177, 0, [], 0)),
  (30, (.aload_n 0, 31, 0, 0, [], 0)),
  (31, (.getfield 22, 34, 7, 5, [], 0)),
  (34, (.bipush 6, 36, 0, 0, [(6, 0)], 0)),
  (36, (.iload 4, 38, 4, 0, [], 0)),
  (38, (.imul, 39, 0, 0, [], 0)),
  (39, (.iload_n 1, 40, 1, 0, [], 0)),
  (40, (.iadd, 41, 0, 0, [], 0)),
  (41, (.baload, 42, 0, 0, [], 0)),
  (42, (.ifCond .ne 129, 45, 171, 0, [], 0)),
  (45, (.iconst 0, 46, 0, 0, [(0, 0)], 0)),
  (46, (.istore 5, 48, 5, 0, [], 0)),
  (48, (.iconst 0, 49, 0, 0, [(0, 0)], 0)),
  (49, (.istore 6, 51, 6, 0, [], 0)),
  (51, (.iconst 0, 52, 0, 0, [(0, 0)], 0)),
  (52, (.istore 7, 54, 7, 0, [], 0)),
  (54, (.iload 7, 56, 7, 0, [], 0)),
  (56, (.bipush 90, 58, 0, 0, [(90, 0)], 0)),
  (58, (.if_icmp .ge 81, 61, 139, 0, [], 0)),
  (61, (.aload_n 0, 62, 0, 0, [], 0)),
  (62, (.iload_n 1, 63, 1, 0, [], 0)),
  (63, (.iconst 0, 64, 0, 0, [(0, 0)], 0)),
  (64, (.iload 7, 66, 7, 0, [], 0)),
  (66, (.invokevirtual 152, 69, 141, 4, [], 0)),
  (69, (.istore 8, 71, 8, 0, [], 0)),
  (71, (.iload 5, 73, 5, 0, [], 0)),
  (73, (.iload 8, 75, 8, 0, [], 0)),
  (75, (.ifCond .eq 23, 78, 98, 0, [], 0)),
  (78, (.aload_n 0, 79, 0, 0, [], 0)),
  (79, (.getfield 26, 82, 7, 6, [], 0)),
  (82, (.bipush 90, 84, 0, 0, [(90, 0)], 0)),
  (84, (.iload 4, 86, 4, 0, [], 0)),
  (86, (.imul, 87, 0, 0, [], 0)),
  (87, (.iload 7, 89, 7, 0, [], 0)),
  (89, (.iadd, 90, 0, 0, [], 0)),
  (90, (.baload, 91, 0, 0, [], 0)),
  (91, (.ifCond .eq 7, 94, 98, 0, [], 0)),
  (94, (.iconst 1, 95, 0, 0, [(1, 0)], 0)),
  (95, (.goto 4, 98, 99, 0, [], 0)),
  (98, (.iconst 0, 99, 0, 0, [(0, 0)], 0)),
  (99, (.iadd, 100, 0, 0, [], 0)),
  (100, (.istore 5, 102, 5, 0, [], 0)),
  (102, (.iload 6, 104, 6, 0, [], 0)),
  (104, (.iload 8, 106, 8, 0, [], 0)),
  (106, (.ifCond .eq 23, 109, 129, 0, [], 0)),
  (109, (.aload_n 0, 110, 0, 0, [], 0)),
  (110, (.getfield 26, 113, 7, 6, [], 0)),
  (113, (.bipush 90, 115, 0, 0, [(90, 0)], 0)),
  (115, (.iload 4, 117, 4, 0, [], 0)),
  (117, (.imul, 118, 0, 0, [], 0)),
  (118, (.iload 7, 120, 7, 0, [], 0)),
  (120, (.iadd, 121, 0, 0, [], 0)),
  (121, (.baload, 122, 0, 0, [], 0)),
  (122, (.ifCond .ne 7, 125, 129, 0, [], 0)),
  (125, (.iconst 1, 126, 0, 0, [(1, 0)], 0)),
  (126, (.goto 4, 129, 130, 0, [], 0)),
  (129, (.iconst 0, 130, 0, 0, [(0, 0)], 0)),
  (130, (.iadd, 131, 0, 0, [], 0)),
  (131, (.istore 6, 133, 6, 0, [], 0)),
  (133, (.iinc 7 1, 136, 7, 0, [(1, 0)], 0)),
  (136, (.goto (-82), 139, 54, 0, [], 0)),
  (139, (.iload 5, 141, 5, 0, [], 0)),
  (141, (.iload 6, 143, 6, 0, [], 0)),
  (143, (.if_icmp .le 8, 146, 151, 0, [], 0)),
  (146, (.iload 5, 148, 5, 0, [], 0)),
  (148, (.goto 5, 151, 153, 0, [], 0)),
  (151, (.iload 6, 153, 6, 0, [], 0)),
  (153, (.istore 7, 155, 7, 0, [], 0)),
  (155, (.iload_n 2, 156, 2, 0, [], 0)),
  (156, (.ifCond .lt 9, 159, 165, 0, [], 0)),
  (159, (.iload 7, 161, 7, 0, [], 0)),
  (161, (.iload_n 3, 162, 3, 0, [], 0)),
  (162, (.if_icmp .ge 9, 165, 171, 0, [], 0)),
  (165, (.iload 4, 167, 4, 0, [], 0)),
  (167, (.istore_n 2, 168, 2, 0, [], 0)),
  (168, (.iload 7, 170, 7, 0, [], 0)),
  (170, (.istore_n 3, 171, 3, 0, [], 0)),
  (171, (.iinc 4 1, 174, 4, 0, [(1, 0)], 0)),
  (174, (.goto (-153), 177, 21, 0, [], 0)),
  (177, (.iload_n 2, 178, 2, 0, [], 0)),
  (178, (.ireturn, 179, 0, 0, [], 0))]
def cp_Model_next : List (List Nat) := [[], [0, 887], [], [], [], [821, 28], [], [], [], [], [], [], [], [], [], [722], [], [], [727], [], [], [], [], [], [], [], [], [], [], [], [], [], [], [], [], [], [], [], [], [923, 39], [], [], [], [], [], [728], [], [], [], [], [], [], [], [], [], [], [], [], [], [], [], [], [728], [], [], [], [], [], [], [], [], [], [], [], [], [], [], [], [], [], [], [], [], [], [], [], [], [], [], [], [], [], [], [], [], [], []]
def cd_Model_enough : mm_C := [(0, (.iload_n 1, 1, 1, 0, [], 0)),
  (1, (.invokestatic 138, 4, 132, 1, [], 0)),
  (4, (.ifCond .ne 9, 7, 13, 0, [], 0)),
  (7, (.aload_n 0, 8, 0, 0, [], 0)),
  (8, (.iconst (-1), 9, 0, 0, [((-1), 0)], 0)),
  (9, (.invokevirtual 83, 12, 116, 2, [], 0)),
  (12, (.ireturn, 13, 0, 0, [], 0)),
  (13, (.aload_n 0, 14, 0, 0, [], 0)),
  (14, (.iload_n 1, 15, 1, 0, [], 0)),
  (15, (.invokevirtual 209, 18, 167, 2, [], 0)),
  (18, (.aload_n 0, 19, 0, 0, [], 0)),
  (19, (.iload_n 1, 20, 1, 0, [], 0)),
  (20, (.invokevirtual 212, 23, 168, 2, [], 0)),
  (23, (.iconst (-1), 24, 0, 0, [((-1), 0)], 0)),
  (24, (.istore_n 2, 25, 2, 0, [], 0)),
  (25, (.iconst 0, 26, 0, 0, [(0, 0)], 0)),
  (26, (.istore_n 3, 27, 3, 0, [], 0)),
  (27, (.iload_n 3, 28, 3, 0, [], 0)),
  (28, (.iconst 1, 29, 0, 0, [(1, 0)], 0)),
  (29, (.aload_n 0, 30, 0, 0, [], 0)),
  (30, (.getfield 203, 33, 7, 24, [], 0)),
  (33, (.ishl, 34, 0, 0, [], 0)),
  (34, (.if_icmp .ge 55, 37, 89, 0, [], 0)),
  (37, (.aload_n 0, 38, 0, 0, [], 0)),
  (38, (.getfield 206, 41, 7, 26, [], 0)),
  (41, (.bipush 8, 43, 0, 0, [(8, 0)], 0)),
  (43, (.if_icmp .gt 46, 46, 89, 0, [], 0)),
  (46, (.iload_n 3, 47, 3, 0, [], 0)),
  (47, (.invokestatic 167, 50, 152, 1, [], 0)),
  (50, (.iconst 3, 51, 0, 0, [(3, 0)], 0)),
  (51, (.if_icmp .gt 32, 54, 83, 0, [], 0)),
  (54, (.iload_n 2, 55, 2, 0, [], 0)),
  (55, (.ifCond .lt 14, 58, 69, 0, [], 0)),
  (58, (.iload_n 3, 59, 3, 0, [], 0)),
  (59, (.invokestatic 167, 62, 152, 1, [], 0)),
  (62, (.iload_n 2, 63, 2, 0, [], 0)),
  (63, (.invokestatic 167, 66, 152, 1, [], 0)),
  (66, (.if_icmp .ge 17, 69, 83, 0, [], 0)),
  (69, (.aload_n 0, 70, 0, 0, [], 0)),
  (70, (.iload_n 3, 71, 3, 0, [], 0)),
  (71, (.invokevirtual 215, 74, 169, 2, [], 0)),
  (74, (.ifCond .eq 7, 77, 81, 0, [], 0)),
  (77, (.iload_n 3, 78, 3, 0, [], 0)),
  (78, (.goto 4, 81, 82, 0, [], 0)),
  (81, (.iload_n 2, 82, 2, 0, [], 0)),
  (82, (.istore_n 2, 83, 2, 0, [], 0)),
  (83, (.iinc 3 1, 86, 3, 0, [(1, 0)], 0)),
  (86, (.goto (-59), 89, 27, 0, [], 0)),
  (89, (.iload_n 2, 90, 2, 0, [], 0)),
  (90, (.ifCond .ge 8, 93, 98, 0, [], 0)),
  (93, (.bipush (-9), 95, 0, 0, [((-9), 0)], 0)),
  (95, (.goto 8, 98, 103, 0, [], 0)),
  (98, (.aload_n 0, 99, 0, 0, [], 0)),
  (99, (.iload_n 2, 100, 2, 0, [], 0)),
  (100, (.invokevirtual 218, 103, 170, 2, [], 0)),
  (103, (.ireturn, 104, 0, 0, [], 0))]
def cp_Model_enough : List (List Nat) := [[], [0, 887], [], [], [], [821, 28], [], [], [], [1029, 49], [], [], [1033, 50], [], [], [], [], [], [], [], [746], [], [], [], [748], [], [], [], [0, 968], [], [], [], [], [], [0, 968], [], [0, 968], [], [], [], [1037, 51], [], [], [], [], [], [], [], [], [], [], [], [], [], [1041, 52], []]
def cd_Model_findShown : mm_C := [(0, (.aload_n 0, 1, 0, 0, [], 0)),
  (1, (.iconst 0, 2, 0, 0, [(0, 0)], 0)),
  (2, (.putfield 203, 5, 7, 24, [(0, 0)], 0)),
  (5, (.iconst 0, 6, 0, 0, [(0, 0)], 0)),
  (6, (.istore_n 2, 7, 2, 0, [], 0)),
  (7, (.iload_n 2, 8, 2, 0, [], 0)),
  (8, (.aload_n 0, 9, 0, 0, [], 0)),
  (9, (.getfield 72, 12, 7, 0, [], 0)),
  (12, (.if_icmp .ge 52, 15, 64, 0, [], 0)),
  (15, (.aload_n 0, 16, 0, 0, [], 0)),
  (16, (.getfield 203, 19, 7, 24, [], 0)),
  (19, (.bipush 12, 21, 0, 0, [(12, 0)], 0)),
  (21, (.if_icmp .ge 43, 24, 64, 0, [], 0)),
  (24, (.aload_n 0, 25, 0, 0, [], 0)),
  (25, (.getfield 22, 28, 7, 5, [], 0)),
  (28, (.bipush 6, 30, 0, 0, [(6, 0)], 0)),
  (30, (.iload_n 2, 31, 2, 0, [], 0)),
  (31, (.imul, 32, 0, 0, [], 0)),
  (32, (.iload_n 1, 33, 1, 0, [], 0)),
  (33, (.iadd, 34, 0, 0, [], 0)),
  (34, (.baload, 35, 0, 0, [], 0)),
  (35, (.ifCond .ne 23, 38, 58, 0, [], 0)),
  (38, (.aload_n 0, 39, 0, 0, [], 0)),
  (39, (.getfield 60, 42, 7, 23, [], 0)),
  (42, (.aload_n 0, 43, 0, 0, [], 0)),
  (43, (.getfield 203, 46, 7, 24, [], 0)),
  (46, (.iload_n 2, 47, 2, 0, [], 0)),
  (47, (.iastore, 48, 0, 0, [], 0)),
  (48, (.aload_n 0, 49, 0, 0, [], 0)),
  (49, (.dup, 50, 0, 0, [], 0)),
  (50, (.getfield 203, 53, 7, 24, [], 0)),
  (53, (.iconst 1, 54, 0, 0, [(1, 0)], 0)),
  (54, (.iadd, 55, 0, 0, [], 0)),
  (55, (.putfield 203, 58, 7, 24, [(0, 0)], 0)),
  (58, (.iinc 2 1, 61, 2, 0, [(1, 0)], 0)),
  (61, (.goto (-54), 64, 7, 0, [], 0)),
  (64, (.return_, 65, 0, 0, [], 0))]
def cp_Model_findShown : List (List Nat) := [[], [], [746], [], [], [], [], [722], [], [], [746], [], [], [], [727], [], [], [], [], [], [], [], [], [745], [], [746], [], [], [], [], [746], [], [], [746], [], [], []]
def cd_Model_findUnlike : mm_C := [(0, (.aload_n 0, 1, 0, 0, [], 0)),
  (1, (.iconst 0, 2, 0, 0, [(0, 0)], 0)),
  (2, (.putfield 206, 5, 7, 26, [(0, 0)], 0)),
  (5, (.iconst 0, 6, 0, 0, [(0, 0)], 0)),
  (6, (.istore_n 2, 7, 2, 0, [], 0)),
  (7, (.iload_n 2, 8, 2, 0, [], 0)),
  (8, (.bipush 90, 10, 0, 0, [(90, 0)], 0)),
  (10, (.if_icmp .ge 143, 13, 153, 0, [], 0)),
  (13, (.aload_n 0, 14, 0, 0, [], 0)),
  (14, (.iload_n 1, 15, 1, 0, [], 0)),
  (15, (.iconst 0, 16, 0, 0, [(0, 0)], 0)),
  (16, (.iload_n 2, 17, 2, 0, [], 0)),
  (17, (.invokevirtual 152, 20, 141, 4, [], 0)),
  (20, (.ifCond .eq 127, 23, 147, 0, [], 0)),
  (23, (.iconst 0, 24, 0, 0, [(0, 0)], 0)),
  (24, (.istore_n 3, 25, 3, 0, [], 0)),
  (25, (.iconst 0, 26, 0, 0, [(0, 0)], 0)),
  (26, (.istore 4, 28, 4, 0, [], 0)),
  (28, (.iload 4, 30, 4, 0, [], 0)),
  (30, (.aload_n 0, 31, 0, 0, [], 0)),
  (31, (.getfield 203, 34, 7, 24, [], 0)),
  (34, (.if_icmp .ge 40, 37, 74, 0, [], 0)),
  (37, (.iload_n 3, 38, 3, 0, [], 0)),
  (38, (.aload_n 0, 39, 0, 0, [], 0)),
  (39, (.getfield 26, 42, 7, 6, [], 0)),
  (42, (.bipush 90, 44, 0, 0, [(90, 0)], 0)),
  (44, (.aload_n 0, 45, 0, 0, [], 0)),
  (45, (.getfield 60, 48, 7, 23, [], 0)),
  (48, (.iload 4, 50, 4, 0, [], 0)),
  (50, (.iaload, 51, 0, 0, [], 0)),
  (51, (.imul, 52, 0, 0, [], 0)),
  (52, (.iload_n 2, 53, 2, 0, [], 0)),
  (53, (.iadd, 54, 0, 0, [], 0)),
  (54, (.baload, 55, 0, 0, [], 0)),
  (55, (.ifCond .eq 10, 58, 65, 0, [], 0)),
  (58, (.iconst 1, 59, 0, 0, [(1, 0)], 0)),
  (59, (.iload 4, 61, 4, 0, [], 0)),
  (61, (.ishl, 62, 0, 0, [], 0)),
  (62, (.goto 4, 65, 66, 0, [], 0)),
  (65, (.iconst 0, 66, 0, 0, [(0, 0)], 0)),
  (66, (.ior, 67, 0, 0, [], 0)),
  (67, (.istore_n 3, 68, 3, 0, [], 0)),
  (68, (.iinc 4 1, 71, 4, 0, [(1, 0)], 0)),
  (71, (.goto (-43), 74, 28, 0, [], 0)),
  (74, (.iconst 1, 75, 0, 0, [(1, 0)], 0)),
  (75, (.istore 4, 77, 4, 0, [], 0)),
  (77, (.iconst 0, 78, 0, 0, [(0, 0)], 0)),
  (78, (.istore 5, 80, 5, 0, [], 0)),
  (80, (.iload 5, 82, 5, 0, [], 0)),
  (82, (.aload_n 0, 83, 0, 0, [], 0)),
  (83, (.getfield 206, 86, 7, 26, [], 0)),
  (86, (.if_icmp .ge 32, 89, 118, 0, [], 0)),
  (89, (.iload 4, 91, 4, 0, [], 0)),
  (91, (.ifCond .eq 18, 94, 109, 0, [], 0)),
  (94, (.aload_n 0, 95, 0, 0, [], 0)),
  (95, (.getfield 63, 98, 7, 25, [], 0)),
  (98, (.iload 5, 100, 5, 0, [], 0)),
  (100, (.iaload, 101, 0, 0, [], 0)),
  (101, (.iload_n 3, 102, 3, 0, [], 0)),
  (102, (.if_icmp .eq 7, 105, 109, 0, [], 0)),
  (105, (.iconst 1, 106, 0, 0, [(1, 0)], 0)),
  (106, (.goto 4, 109, 110, 0, [], 0)),
  (109, (.iconst 0, 110, 0, 0, [(0, 0)], 0)),
  (110, (.istore 4, 112, 4, 0, [], 0)),
  (112, (.iinc 5 1, 115, 5, 0, [(1, 0)], 0)),
  (115, (.goto (-35), 118, 80, 0, [], 0)),
  (118, (.aload_n 0, 119, 0, 0, [], 0)),
  (119, (.getfield 63, 122, 7, 25, [], 0)),
  (122, (.aload_n 0, 123, 0, 0, [], 0)),
  (123, (.getfield 206, 126, 7, 26, [], 0)),
  (126, (.iload_n 3, 127, 3, 0, [], 0)),
  (127, (.iastore, 128, 0, 0, [], 0)),
  (128, (.aload_n 0, 129, 0, 0, [], 0)),
  (129, (.dup, 130, 0, 0, [], 0)),
  (130, (.getfield 206, 133, 7, 26, [], 0)),
  (133, (.iload 4, 135, 4, 0, [], 0)),
  (135, (.ifCond .eq 7, 138, 142, 0, [], 0)),
  (138, (.iconst 1, 139, 0, 0, [(1, 0)], 0)),
  (139, (.goto 4, 142, 143, 0, [], 0)),
  (142, (.iconst 0, 143, 0, 0, [(0, 0)], 0)),
  (143, (.iadd, 144, 0, 0, [], 0)),
  (144, (.putfield 206, 147, 7, 26, [(0, 0)], 0)),
  (147, (.iinc 2 1, 150, 2, 0, [(1, 0)], 0)),
  (150, (.goto (-143), 153, 7, 0, [], 0)),
  (153, (.return_, 154, 0, 0, [], 0))]
def cp_Model_findUnlike : List (List Nat) := [[], [], [748], [], [], [], [], [], [], [], [], [], [923, 39], [], [], [], [], [], [], [], [746], [], [], [], [728], [], [], [745], [], [], [], [], [], [], [], [], [], [], [], [], [], [], [], [], [], [], [], [], [], [], [748], [], [], [], [], [747], [], [], [], [], [], [], [], [], [], [], [], [747], [], [748], [], [], [], [], [748], [], [], [], [], [], [], [748], [], [], []]
def cd_Model_partsAll : mm_C := [(0, (.iconst 0, 1, 0, 0, [(0, 0)], 0)),
  (1, (.istore_n 2, 2, 2, 0, [], 0)),
  (2, (.iload_n 2, 3, 2, 0, [], 0)),
  (3, (.aload_n 0, 4, 0, 0, [], 0)),
  (4, (.getfield 206, 7, 7, 26, [], 0)),
  (7, (.if_icmp .ge 43, 10, 50, 0, [], 0)),
  (10, (.iconst 0, 11, 0, 0, [(0, 0)], 0)),
  (11, (.istore_n 3, 12, 3, 0, [], 0)),
  (12, (.iload_n 3, 13, 3, 0, [], 0)),
  (13, (.iload_n 2, 14, 2, 0, [], 0)),
  (14, (.if_icmp .ge 30, 17, 44, 0, [], 0)),
  (17, (.aload_n 0, 18, 0, 0, [], 0)),
  (18, (.getfield 63, 21, 7, 25, [], 0)),
  (21, (.iload_n 2, 22, 2, 0, [], 0)),
  (22, (.iaload, 23, 0, 0, [], 0)),
  (23, (.iload_n 1, 24, 1, 0, [], 0)),
  (24, (.iand, 25, 0, 0, [], 0)),
  (25, (.aload_n 0, 26, 0, 0, [], 0)),
  (26, (.getfield 63, 29, 7, 25, [], 0)),
  (29, (.iload_n 3, 30, 3, 0, [], 0)),
  (30, (.iaload, 31, 0, 0, [], 0)),
  (31, (.iload_n 1, 32, 1, 0, [], 0)),
  (32, (.iand, 33, 0, 0, [], 0)),
  (33, (.if_icmp .ne 5, 36, 38, 0, [], 0)),
  (36, (.iconst 0, 37, 0, 0, [(0, 0)], 0)),
  (37, (.ireturn, 38, 1, 0, [], 0)),
  (38, (.iinc 3 1, 41, 3, 0, [(1, 0)], 0)),
  (41, (.goto (-29), 44, 12, 0, [], 0)),
  (44, (.iinc 2 1, 47, 2, 0, [(1, 0)], 0)),
  (47, (.goto (-45), 50, 2, 0, [], 0)),
  (50, (.iconst 1, 51, 0, 0, [(1, 0)], 0)),
  (51, (.ireturn, 52, 1, 0, [], 0))]
def cp_Model_partsAll : List (List Nat) := [[], [], [], [], [748], [], [], [], [], [], [], [], [747], [], [], [], [], [], [747], [], [], [], [], [], [], [], [], [], [], [], [], []]
def cd_Model_scenesOf : mm_C := [(0, (.iconst 0, 1, 0, 0, [(0, 0)], 0)),
  (1, (.istore_n 2, 2, 2, 0, [], 0)),
  (2, (.iconst 0, 3, 0, 0, [(0, 0)], 0)),
  (3, (.istore_n 3, 4, 3, 0, [], 0)),
  (4, (.iload_n 3, 5, 3, 0, [], 0)),
  (5, (.aload_n 0, 6, 0, 0, [], 0)),
  (6, (.getfield 203, 9, 7, 24, [], 0)),
  (9, (.if_icmp .ge 24, 12, 33, 0, [], 0)),
  (12, (.iload_n 2, 13, 2, 0, [], 0)),
  (13, (.iload_n 1, 14, 1, 0, [], 0)),
  (14, (.iload_n 3, 15, 3, 0, [], 0)),
  (15, (.ishr, 16, 0, 0, [], 0)),
  (16, (.iconst 1, 17, 0, 0, [(1, 0)], 0)),
  (17, (.iand, 18, 0, 0, [], 0)),
  (18, (.aload_n 0, 19, 0, 0, [], 0)),
  (19, (.getfield 60, 22, 7, 23, [], 0)),
  (22, (.iload_n 3, 23, 3, 0, [], 0)),
  (23, (.iaload, 24, 0, 0, [], 0)),
  (24, (.ishl, 25, 0, 0, [], 0)),
  (25, (.ior, 26, 0, 0, [], 0)),
  (26, (.istore_n 2, 27, 2, 0, [], 0)),
  (27, (.iinc 3 1, 30, 3, 0, [(1, 0)], 0)),
  (30, (.goto (-26), 33, 4, 0, [], 0)),
  (33, (.iload_n 2, 34, 2, 0, [], 0)),
  (34, (.ireturn, 35, 0, 0, [], 0))]
def cp_Model_scenesOf : List (List Nat) := [[], [], [], [], [], [], [746], [], [], [], [], [], [], [], [], [745], [], [], [], [], [], [], [], [], []]
def cd_Model_help : mm_C := [(0, (.iload_n 1, 1, 1, 0, [], 0)),
  (1, (.invokestatic 138, 4, 132, 1, [], 0)),
  (4, (.ifCond .eq 10, 7, 14, 0, [], 0)),
  (7, (.iload_n 2, 8, 2, 0, [], 0)),
  (8, (.invokestatic 144, 11, 136, 1, [], 0)),
  (11, (.ifCond .ne 9, 14, 20, 0, [], 0)),
  (14, (.aload_n 0, 15, 0, 0, [], 0)),
  (15, (.iconst (-1), 16, 0, 0, [((-1), 0)], 0)),
  (16, (.invokevirtual 83, 19, 116, 2, [], 0)),
  (19, (.ireturn, 20, 0, 0, [], 0)),
  (20, (.iload_n 3, 21, 3, 0, [], 0)),
  (21, (.iconst 1, 22, 0, 0, [(1, 0)], 0)),
  (22, (.if_icmp .ge 10, 25, 32, 0, [], 0)),
  (25, (.aload_n 0, 26, 0, 0, [], 0)),
  (26, (.bipush (-4), 28, 0, 0, [((-4), 0)], 0)),
  (28, (.invokevirtual 83, 31, 116, 2, [], 0)),
  (31, (.ireturn, 32, 0, 0, [], 0)),
  (32, (.iload_n 3, 33, 3, 0, [], 0)),
  (33, (.iconst 3, 34, 0, 0, [(3, 0)], 0)),
  (34, (.if_icmp .le 10, 37, 44, 0, [], 0)),
  (37, (.aload_n 0, 38, 0, 0, [], 0)),
  (38, (.bipush (-6), 40, 0, 0, [((-6), 0)], 0)),
  (40, (.invokevirtual 83, 43, 116, 2, [], 0)),
  (43, (.ireturn, 44, 0, 0, [], 0)),
  (44, (.aload_n 0, 45, 0, 0, [], 0)),
  (45, (.iload_n 1, 46, 1, 0, [], 0)),
  (46, (.iconst 0, 47, 0, 0, [(0, 0)], 0)),
  (47, (.iload_n 2, 48, 2, 0, [], 0)),
  (48, (.invokevirtual 152, 51, 141, 4, [], 0)),
  (51, (.ifCond .ne 10, 54, 61, 0, [], 0)),
  (54, (.aload_n 0, 55, 0, 0, [], 0)),
  (55, (.bipush (-3), 57, 0, 0, [((-3), 0)], 0)),
  (57, (.invokevirtual 83, 60, 116, 2, [], 0)),
  (60, (.ireturn, 61, 0, 0, [], 0)),
  (61, (.aload_n 0, 62, 0, 0, [], 0)),
  (62, (.iload_n 1, 63, 1, 0, [], 0)),
  (63, (.invokevirtual 209, 66, 167, 2, [], 0)),
  (66, (.iconst (-1), 67, 0, 0, [((-1), 0)], 0)),
  (67, (.istore 4, 69, 4, 0, [], 0)),
  (69, (.iconst 0, 70, 0, 0, [(0, 0)], 0)),
  (70, (.istore 5, 72, 5, 0, [], 0)),
  (72, (.iconst 0, 73, 0, 0, [(0, 0)], 0)),
  (73, (.istore 6, 75, 6, 0, [], 0)),
  (75, (.iload 6, 77, 6, 0, [], 0)),
  (77, (.iconst 1, 78, 0, 0, [(1, 0)], 0)),
  (78, (.aload_n 0, 79, 0, 0, [], 0)),
  (79, (.getfield 203, 82, 7, 24, [], 0)),
  (82, (.ishl, 83, 0, 0, [], 0)),
  (83, (.if_icmp .ge 119, 86, 202, 0, [], 0)),
  (86, (.iload 6, 88, 6, 0, [], 0)),
  (88, (.invokestatic 167, 91, 152, 1, [], 0)),
  (91, (.iload_n 3, 92, 3, 0, [], 0)),
  (92, (.if_icmp .ne 7, 95, 99, 0, [], 0)),
  (95, (.iconst 1, 96, 0, 0, [(1, 0)], 0)),
  (96, (.goto 4, 99, 100, 0, [], 0)),
  (99, (.iconst 0, 100, 0, 0, [(0, 0)], 0)),
  (100, (.istore 7, 102, 7, 0, [], 0)),
  (102, (.iconst 0, 103, 0, 0, [(0, 0)], 0)),
  (103, (.istore 8, 105, 8, 0, [], 0)),
  (105, (.iload 8, 107, 8, 0, [], 0)),
  (107, (.aload_n 0, 108, 0, 0, [], 0)),
  (108, (.getfield 203, 111, 7, 24, [], 0)),
  (111, (.if_icmp .ge 51, 114, 162, 0, [], 0)),
  (114, (.iload 7, 116, 7, 0, [], 0)),
  (116, (.ifCond .eq 46, 119, 162, 0, [], 0)),
  (119, (.iload 6, 121, 6, 0, [], 0)),
  (121, (.iload 8, 123, 8, 0, [], 0)),
  (123, (.ishr, 124, 0, 0, [], 0)),
  (124, (.iconst 1, 125, 0, 0, [(1, 0)], 0)),
  (125, (.iand, 126, 0, 0, [], 0)),
  (126, (.ifCond .eq 23, 129, 149, 0, [], 0)),
  (129, (.aload_n 0, 130, 0, 0, [], 0)),
  (130, (.getfield 26, 133, 7, 6, [], 0)),
  (133, (.bipush 90, 135, 0, 0, [(90, 0)], 0)),
  (135, (.aload_n 0, 136, 0, 0, [], 0)),
  (136, (.getfield 60, 139, 7, 23, [], 0)),
  (139, (.iload 8, 141, 8, 0, [], 0)),
  (141, (.iaload, 142, 0, 0, [], 0)),
  (142, (.imul, 143, 0, 0, [], 0)),
  (143, (.iload_n 2, 144, 2, 0, [], 0)),
  (144, (.iadd, 145, 0, 0, [], 0)),
  (145, (.baload, 146, 0, 0, [], 0)),
  (146, (.ifCond .eq 7, 149, 153, 0, [], 0)),
  (149, (.iconst 1, 150, 0, 0, [(1, 0)], 0)),
  (150, (.goto 4, 153, 154, 0, [], 0)),
  (153, (.iconst 0, 154, 0, 0, [(0, 0)], 0)),
  (154, (.istore 7, 156, 7, 0, [], 0)),
  (156, (.iinc 8 1, 159, 8, 0, [(1, 0)], 0)),
  (159, (.goto (-54), 162, 105, 0, [], 0)),
  (162, (.iload 7, 164, 7, 0, [], 0)),
  (164, (.ifCond .eq 32, 167, 196, 0, [], 0)),
  (167, (.aload_n 0, 168, 0, 0, [], 0)),
  (168, (.iload_n 1, 169, 1, 0, [], 0)),
  (169, (.iload 6, 171, 6, 0, [], 0)),
  (171, (.invokevirtual 221, 174, 172, 3, [], 0)),
  (174, (.istore 8, 176, 8, 0, [], 0)),
  (176, (.iload 4, 178, 4, 0, [], 0)),
  (178, (.ifCond .lt 10, 181, 188, 0, [], 0)),
  (181, (.iload 8, 183, 8, 0, [], 0)),
  (183, (.iload 5, 185, 5, 0, [], 0)),
  (185, (.if_icmp .ge 11, 188, 196, 0, [], 0)),
  (188, (.iload 6, 190, 6, 0, [], 0)),
  (190, (.istore 4, 192, 4, 0, [], 0)),
  (192, (.iload 8, 194, 8, 0, [], 0)),
  (194, (.istore 5, 196, 5, 0, [], 0)),
  (196, (.iinc 6 1, 199, 6, 0, [(1, 0)], 0)),
  (199, (.goto (-124), 202, 75, 0, [], 0)),
  (202, (.iload 4, 204, 4, 0, [], 0)),
  (204, (.ifCond .ge 8, 207, 212, 0, [], 0)),
  (207, (.bipush (-9), 209, 0, 0, [((-9), 0)], 0)),
  (209, (.goto 9, 212, 218, 0, [], 0)),
  (212, (.aload_n 0, 213, 0, 0, [], 0)),
  (213, (.iload 4, 215, 4, 0, [], 0)),
  (215, (.invokevirtual 218, 218, 170, 2, [], 0)),
  (218, (.ireturn, 219, 0, 0, [], 0))]
def cp_Model_help : List (List Nat) := [[], [0, 887], [], [], [0, 903], [], [], [], [821, 28], [], [], [], [], [], [], [821, 28], [], [], [], [], [], [], [821, 28], [], [], [], [], [], [923, 39], [], [], [], [821, 28], [], [], [], [1029, 49], [], [], [], [], [], [], [], [], [], [746], [], [], [], [0, 968], [], [], [], [], [], [], [], [], [], [], [746], [], [], [], [], [], [], [], [], [], [], [728], [], [], [745], [], [], [], [], [], [], [], [], [], [], [], [], [], [], [], [], [], [], [1049, 53], [], [], [], [], [], [], [], [], [], [], [], [], [], [], [], [], [], [], [1041, 52], []]
def cd_Model_leftBy : mm_C := [(0, (.iconst 0, 1, 0, 0, [(0, 0)], 0)),
  (1, (.istore_n 3, 2, 3, 0, [], 0)),
  (2, (.iconst 0, 3, 0, 0, [(0, 0)], 0)),
  (3, (.istore 4, 5, 4, 0, [], 0)),
  (5, (.iload 4, 7, 4, 0, [], 0)),
  (7, (.bipush 90, 9, 0, 0, [(90, 0)], 0)),
  (9, (.if_icmp .ge 92, 12, 101, 0, [], 0)),
  (12, (.aload_n 0, 13, 0, 0, [], 0)),
  (13, (.iload_n 1, 14, 1, 0, [], 0)),
  (14, (.iconst 0, 15, 0, 0, [(0, 0)], 0)),
  (15, (.iload 4, 17, 4, 0, [], 0)),
  (17, (.invokevirtual 152, 20, 141, 4, [], 0)),
  (20, (.istore 5, 22, 5, 0, [], 0)),
  (22, (.iconst 0, 23, 0, 0, [(0, 0)], 0)),
  (23, (.istore 6, 25, 6, 0, [], 0)),
  (25, (.iload 6, 27, 6, 0, [], 0)),
  (27, (.aload_n 0, 28, 0, 0, [], 0)),
  (28, (.getfield 203, 31, 7, 24, [], 0)),
  (31, (.if_icmp .ge 51, 34, 82, 0, [], 0)),
  (34, (.iload 5, 36, 5, 0, [], 0)),
  (36, (.ifCond .eq 46, 39, 82, 0, [], 0)),
  (39, (.iload_n 2, 40, 2, 0, [], 0)),
  (40, (.iload 6, 42, 6, 0, [], 0)),
  (42, (.ishr, 43, 0, 0, [], 0)),
  (43, (.iconst 1, 44, 0, 0, [(1, 0)], 0)),
  (44, (.iand, 45, 0, 0, [], 0)),
  (45, (.ifCond .eq 24, 48, 69, 0, [], 0)),
  (48, (.aload_n 0, 49, 0, 0, [], 0)),
  (49, (.getfield 26, 52, 7, 6, [], 0)),
  (52, (.bipush 90, 54, 0, 0, [(90, 0)], 0)),
  (54, (.aload_n 0, 55, 0, 0, [], 0)),
  (55, (.getfield 60, 58, 7, 23, [], 0)),
  (58, (.iload 6, 60, 6, 0, [], 0)),
  (60, (.iaload, 61, 0, 0, [], 0)),
  (61, (.imul, 62, 0, 0, [], 0)),
  (62, (.iload 4, 64, 4, 0, [], 0)),
  (64, (.iadd, 65, 0, 0, [], 0)),
  (65, (.baload, 66, 0, 0, [], 0)),
  (66, (.ifCond .eq 7, 69, 73, 0, [], 0)),
  (69, (.iconst 1, 70, 0, 0, [(1, 0)], 0)),
  (70, (.goto 4, 73, 74, 0, [], 0)),
  (73, (.iconst 0, 74, 0, 0, [(0, 0)], 0)),
  (74, (.istore 5, 76, 5, 0, [], 0)),
  (76, (.iinc 6 1, 79, 6, 0, [(1, 0)], 0)),
  (79, (.goto (-54), 82, 25, 0, [], 0)),
  (82, (.iload_n 3, 83, 3, 0, [], 0)),
  (83, (.iload 5, 85, 5, 0, [], 0)),
  (85, (.ifCond .eq 7, 88, 92, 0, [], 0)),
  (88, (.iconst 1, 89, 0, 0, [(1, 0)], 0)),
  (89, (.goto 4, 92, 93, 0, [], 0)),
  (92, (.iconst 0, 93, 0, 0, [(0, 0)], 0)),
  (93, (.iadd, 94, 0, 0, [], 0)),
  (94, (.istore_n 3, 95, 3, 0, [], 0)),
  (95, (.iinc 4 1, 98, 4, 0, [(1, 0)], 0)),
  (98, (.goto (-93), 101, 5, 0, [], 0)),
  (101, (.iload_n 3, 102, 3, 0, [], 0)),
  (102, (.ireturn, 103, 0, 0, [], 0))]
def cp_Model_leftBy : List (List Nat) := [[], [], [], [], [], [], [], [], [], [], [], [923, 39], [], [], [], [], [], [746], [], [], [], [], [], [], [], [], [], [], [728], [], [], [745], [], [], [], [], [], [], [], [], [], [], [], [], [], [], [], [], [], [], [], [], [], [], [], [], []]
def cd_Model_never : mm_C := [(0, (.iconst 0, 1, 0, 0, [(0, 0)], 0)),
  (1, (.istore_n 1, 2, 1, 0, [], 0)),
  (2, (.iconst 0, 3, 0, 0, [(0, 0)], 0)),
  (3, (.istore_n 2, 4, 2, 0, [], 0)),
  (4, (.iload_n 2, 5, 2, 0, [], 0)),
  (5, (.bipush 90, 7, 0, 0, [(90, 0)], 0)),
  (7, (.if_icmp .ge 39, 10, 46, 0, [], 0)),
  (10, (.iconst 0, 11, 0, 0, [(0, 0)], 0)),
  (11, (.istore_n 3, 12, 3, 0, [], 0)),
  (12, (.iload_n 3, 13, 3, 0, [], 0)),
  (13, (.iload_n 2, 14, 2, 0, [], 0)),
  (14, (.if_icmp .ge 26, 17, 40, 0, [], 0)),
  (17, (.iload_n 1, 18, 1, 0, [], 0)),
  (18, (.aload_n 0, 19, 0, 0, [], 0)),
  (19, (.iload_n 2, 20, 2, 0, [], 0)),
  (20, (.iload_n 3, 21, 3, 0, [], 0)),
  (21, (.invokevirtual 224, 24, 174, 3, [], 0)),
  (24, (.ifCond .ge 7, 27, 31, 0, [], 0)),
  (27, (.iconst 1, 28, 0, 0, [(1, 0)], 0)),
  (28, (.goto 4, 31, 32, 0, [], 0)),
  (31, (.iconst 0, 32, 0, 0, [(0, 0)], 0)),
  (32, (.iadd, 33, 0, 0, [], 0)),
  (33, (.istore_n 1, 34, 1, 0, [], 0)),
  (34, (.iinc 3 1, 37, 3, 0, [(1, 0)], 0)),
  (37, (.goto (-25), 40, 12, 0, [], 0)),
  (40, (.iinc 2 1, 43, 2, 0, [(1, 0)], 0)),
  (43, (.goto (-39), 46, 4, 0, [], 0)),
  (46, (.iload_n 1, 47, 1, 0, [], 0)),
  (47, (.ireturn, 48, 0, 0, [], 0))]
def cp_Model_never : List (List Nat) := [[], [], [], [], [], [], [], [], [], [], [], [], [], [], [], [], [1057, 54], [], [], [], [], [], [], [], [], [], [], [], []]
def cd_Model_partOf : mm_C := [(0, (.iconst 0, 1, 0, 0, [(0, 0)], 0)),
  (1, (.istore_n 3, 2, 3, 0, [], 0)),
  (2, (.iload_n 3, 3, 3, 0, [], 0)),
  (3, (.aload_n 0, 4, 0, 0, [], 0)),
  (4, (.getfield 72, 7, 7, 0, [], 0)),
  (7, (.if_icmp .ge 36, 10, 43, 0, [], 0)),
  (10, (.aload_n 0, 11, 0, 0, [], 0)),
  (11, (.getfield 26, 14, 7, 6, [], 0)),
  (14, (.bipush 90, 16, 0, 0, [(90, 0)], 0)),
  (16, (.iload_n 3, 17, 3, 0, [], 0)),
  (17, (.imul, 18, 0, 0, [], 0)),
  (18, (.iload_n 1, 19, 1, 0, [], 0)),
  (19, (.iadd, 20, 0, 0, [], 0)),
  (20, (.baload, 21, 0, 0, [], 0)),
  (21, (.aload_n 0, 22, 0, 0, [], 0)),
  (22, (.getfield 26, 25, 7, 6, [], 0)),
  (25, (.bipush 90, 27, 0, 0, [(90, 0)], 0)),
  (27, (.iload_n 3, 28, 3, 0, [], 0)),
  (28, (.imul, 29, 0, 0, [], 0)),
  (29, (.iload_n 2, 30, 2, 0, [], 0)),
  (30, (.iadd, 31, 0, 0, [], 0)),
  (31, (.baload, 32, 0, 0, [], 0)),
  (32, (.if_icmp .eq 5, 35, 37, 0, [], 0)),
  (35, (.iload_n 3, 36, 3, 0, [], 0)),
  (36, (.ireturn, 37, 0, 0, [], 0)),
  (37, (.iinc 3 1, 40, 3, 0, [(1, 0)], 0)),
  (40, (.goto (-38), 43, 2, 0, [], 0)),
  (43, (.bipush (-9), 45, 0, 0, [((-9), 0)], 0)),
  (45, (.ireturn, 46, 0, 0, [], 0))]
def cp_Model_partOf : List (List Nat) := [[], [], [], [], [722], [], [], [728], [], [], [], [], [], [], [], [728], [], [], [], [], [], [], [], [], [], [], [], [], []]
def cd_Model_same : mm_C := [(0, (.iload_n 1, 1, 1, 0, [], 0)),
  (1, (.invokestatic 144, 4, 136, 1, [], 0)),
  (4, (.ifCond .eq 27, 7, 31, 0, [], 0)),
  (7, (.iload_n 2, 8, 2, 0, [], 0)),
  (8, (.invokestatic 144, 11, 136, 1, [], 0)),
  (11, (.ifCond .eq 20, 14, 31, 0, [], 0)),
  (14, (.aload_n 0, 15, 0, 0, [], 0)),
  (15, (.iload_n 1, 16, 1, 0, [], 0)),
  (16, (.iload_n 2, 17, 2, 0, [], 0)),
  (17, (.invokevirtual 224, 20, 174, 3, [], 0)),
  (20, (.ifCond .ge 7, 23, 27, 0, [], 0)),
  (23, (.iconst 1, 24, 0, 0, [(1, 0)], 0)),
  (24, (.goto 12, 27, 36, 0, [], 0)),
  (27, (.iconst 0, 28, 0, 0, [(0, 0)], 0)),
  (28, (.goto 8, 31, 36, 0, [], 0)),
  (31, (.aload_n 0, 32, 0, 0, [], 0)),
  (32, (.iconst (-1), 33, 0, 0, [((-1), 0)], 0)),
  (33, (.invokevirtual 83, 36, 116, 2, [], 0)),
  (36, (.ireturn, 37, 0, 0, [], 0))]
def cp_Model_same : List (List Nat) := [[], [0, 903], [], [], [0, 903], [], [], [], [], [1057, 54], [], [], [], [], [], [], [], [821, 28], []]
def cd_Model_part : mm_C := [(0, (.iload_n 1, 1, 1, 0, [], 0)),
  (1, (.invokestatic 144, 4, 136, 1, [], 0)),
  (4, (.ifCond .eq 19, 7, 23, 0, [], 0)),
  (7, (.iload_n 2, 8, 2, 0, [], 0)),
  (8, (.invokestatic 144, 11, 136, 1, [], 0)),
  (11, (.ifCond .eq 12, 14, 23, 0, [], 0)),
  (14, (.aload_n 0, 15, 0, 0, [], 0)),
  (15, (.iload_n 1, 16, 1, 0, [], 0)),
  (16, (.iload_n 2, 17, 2, 0, [], 0)),
  (17, (.invokevirtual 224, 20, 174, 3, [], 0)),
  (20, (.goto 8, 23, 28, 0, [], 0)),
  (23, (.aload_n 0, 24, 0, 0, [], 0)),
  (24, (.iconst (-1), 25, 0, 0, [((-1), 0)], 0)),
  (25, (.invokevirtual 83, 28, 116, 2, [], 0)),
  (28, (.ireturn, 29, 0, 0, [], 0))]
def cp_Model_part : List (List Nat) := [[], [0, 903], [], [], [0, 903], [], [], [], [], [1057, 54], [], [], [], [821, 28], []]
def cd_Model_image : mm_C := [(0, (.aload_n 0, 1, 0, 0, [], 0)),
  (1, (.iconst 1, 2, 0, 0, [(1, 0)], 0)),
  (2, (.putfield 236, 5, 7, 27, [(0, 1)], 0)),
  (5, (.aload_n 0, 6, 0, 0, [], 0)),
  (6, (.iconst 1, 7, 0, 0, [(1, 0)], 0)),
  (7, (.putfield 227, 10, 7, 30, [(0, 1)], 0)),
  (10, (.aload_n 0, 11, 0, 0, [], 0)),
  (11, (.invokevirtual 239, 14, 178, 1, [], 0)),
  (14, (.aload_n 0, 15, 0, 0, [], 0)),
  (15, (.getfield 72, 18, 7, 0, [], 0)),
  (18, (.ireturn, 19, 0, 0, [], 0))]
def cp_Model_image : List (List Nat) := [[], [], [749], [], [], [752], [], [1073, 55], [], [722], []]
def cd_Model_moveAll : mm_C := [(0, (.aload_n 0, 1, 0, 0, [], 0)),
  (1, (.iconst 0, 2, 0, 0, [(0, 0)], 0)),
  (2, (.putfield 230, 5, 7, 29, [(0, 0)], 0)),
  (5, (.aload_n 0, 6, 0, 0, [], 0)),
  (6, (.aload_n 0, 7, 0, 0, [], 0)),
  (7, (.aload_n 0, 8, 0, 0, [], 0)),
  (8, (.getfield 72, 11, 7, 0, [], 0)),
  (11, (.invokevirtual 233, 14, 179, 2, [], 0)),
  (14, (.putfield 72, 17, 7, 0, [(0, 0)], 0)),
  (17, (.iconst 0, 18, 0, 0, [(0, 0)], 0)),
  (18, (.istore_n 1, 19, 1, 0, [], 0)),
  (19, (.iload_n 1, 20, 1, 0, [], 0)),
  (20, (.bipush 24, 22, 0, 0, [(24, 0)], 0)),
  (22, (.if_icmp .ge 169, 25, 191, 0, [], 0)),
  (25, (.aload_n 0, 26, 0, 0, [], 0)),
  (26, (.getfield 7, 29, 7, 1, [], 0)),
  (29, (.iload_n 1, 30, 1, 0, [], 0)),
  (30, (.aload_n 0, 31, 0, 0, [], 0)),
  (31, (.aload_n 0, 32, 0, 0, [], 0)),
  (32, (.getfield 7, 35, 7, 1, [], 0)),
  (35, (.iload_n 1, 36, 1, 0, [], 0)),
  (36, (.iaload, 37, 0, 0, [], 0)),
  (37, (.invokevirtual 233, 40, 179, 2, [], 0)),
  (40, (.iastore, 41, 0, 0, [], 0)),
  (41, (.aload_n 0, 42, 0, 0, [], 0)),
  (42, (.getfield 16, 45, 7, 3, [], 0)),
  (45, (.iload_n 1, 46, 1, 0, [], 0)),
  (46, (.aload_n 0, 47, 0, 0, [], 0)),
  (47, (.aload_n 0, 48, 0, 0, [], 0)),
  (48, (.getfield 16, 51, 7, 3, [], 0)),
  (51, (.iload_n 1, 52, 1, 0, [], 0)),
  (52, (.iaload, 53, 0, 0, [], 0)),
  (53, (.invokevirtual 233, 56, 179, 2, [], 0)),
  (56, (.iastore, 57, 0, 0, [], 0)),
  (57, (.iconst 4, 58, 0, 0, [(4, 0)], 0)),
  (58, (.iload_n 1, 59, 1, 0, [], 0)),
  (59, (.imul, 60, 0, 0, [], 0)),
  (60, (.istore_n 2, 61, 2, 0, [], 0)),
  (61, (.iload_n 2, 62, 2, 0, [], 0)),
  (62, (.iconst 4, 63, 0, 0, [(4, 0)], 0)),
  (63, (.iload_n 1, 64, 1, 0, [], 0)),
  (64, (.imul, 65, 0, 0, [], 0)),
  (65, (.iconst 4, 66, 0, 0, [(4, 0)], 0)),
  (66, (.iadd, 67, 0, 0, [], 0)),
  (67, (.if_icmp .ge 25, 70, 92, 0, [], 0)),
  (70, (.aload_n 0, 71, 0, 0, [], 0)),
  (71, (.getfield 13, 74, 7, 2, [], 0)),
  (74, (.iload_n 2, 75, 2, 0, [], 0)),
  (75, (.aload_n 0, 76, 0, 0, [], 0)),
  (76, (.aload_n 0, 77, 0, 0, [], 0)),
  (77, (.getfield 13, 80, 7, 2, [], 0)),
  (80, (.iload_n 2, 81, 2, 0, [], 0)),
  (81, (.iaload, 82, 0, 0, [], 0)),
  (82, (.invokevirtual 233, 85, 179, 2, [], 0)),
  (85, (.iastore, 86, 0, 0, [], 0)),
  (86, (.iinc 2 1, 89, 2, 0, [(1, 0)], 0)),
  (89, (.goto (-28), 92, 61, 0, [], 0)),
  (92, (.bipush 9, 94, 0, 0, [(9, 0)], 0)),
  (94, (.iload_n 1, 95, 1, 0, [], 0)),
  (95, (.imul, 96, 0, 0, [], 0)),
  (96, (.istore_n 2, 97, 2, 0, [], 0)),
  (97, (.iload_n 2, 98, 2, 0, [], 0)),
  (98, (.bipush 9, 100, 0, 0, [(9, 0)], 0)),
  (100, (.iload_n 1, 101, 1, 0, [], 0)),
  (101, (.imul, 102, 0, 0, [], 0)),
  (102, (.bipush 9, 104, 0, 0, [(9, 0)], 0)),
  (104, (.iadd, 105, 0, 0, [], 0)),
  (105, (.if_icmp .ge 25, 108, 130, 0, [], 0)),
  (108, (.aload_n 0, 109, 0, 0, [], 0)),
  (109, (.getfield 19, 112, 7, 4, [], 0)),
  (112, (.iload_n 2, 113, 2, 0, [], 0)),
  (113, (.aload_n 0, 114, 0, 0, [], 0)),
  (114, (.aload_n 0, 115, 0, 0, [], 0)),
  (115, (.getfield 19, 118, 7, 4, [], 0)),
  (118, (.iload_n 2, 119, 2, 0, [], 0)),
  (119, (.iaload, 120, 0, 0, [], 0)),
  (120, (.invokevirtual 233, 123, 179, 2, [], 0)),
  (123, (.iastore, 124, 0, 0, [], 0)),
  (124, (.iinc 2 1, 127, 2, 0, [(1, 0)], 0)),
  (127, (.goto (-30), 130, 97, 0, [], 0)),
  (130, (.bipush 6, 132, 0, 0, [(6, 0)], 0)),
  (132, (.iload_n 1, 133, 1, 0, [], 0)),
  (133, (.imul, 134, 0, 0, [], 0)),
  (134, (.istore_n 2, 135, 2, 0, [], 0)),
  (135, (.iload_n 2, 136, 2, 0, [], 0)),
  (136, (.bipush 6, 138, 0, 0, [(6, 0)], 0)),
  (138, (.iload_n 1, 139, 1, 0, [], 0)),
  (139, (.imul, 140, 0, 0, [], 0)),
  (140, (.bipush 6, 142, 0, 0, [(6, 0)], 0)),
  (142, (.iadd, 143, 0, 0, [], 0)),
  (143, (.if_icmp .ge 42, 146, 185, 0, [], 0)),
  (146, (.aload_n 0, 147, 0, 0, [], 0)),
  (147, (.getfield 22, 150, 7, 5, [], 0)),
  (150, (.iload_n 2, 151, 2, 0, [], 0)),
  (151, (.aload_n 0, 152, 0, 0, [], 0)),
  (152, (.aload_n 0, 153, 0, 0, [], 0)),
  (153, (.getfield 22, 156, 7, 5, [], 0)),
  (156, (.iload_n 2, 157, 2, 0, [], 0)),
  (157, (.baload, 158, 0, 0, [], 0)),
  (158, (.ifCond .eq 7, 161, 165, 0, [], 0)),
  (161, (.iconst 1, 162, 0, 0, [(1, 0)], 0)),
  (162, (.goto 4, 165, 166, 0, [], 0)),
  (165, (.iconst 0, 166, 0, 0, [(0, 0)], 0)),
  (166, (.invokevirtual 233, 169, 179, 2, [], 0)),
  (169, (.iconst 1, 170, 0, 0, [(1, 0)], 0)),
  (170, (.if_icmp .ne 7, 173, 177, 0, [], 0)),
  (173, (.iconst 1, 174, 0, 0, [(1, 0)], 0)),
  (174, (.goto 4, 177, 178, 0, [], 0)),
  (177, (.iconst 0, 178, 0, 0, [(0, 0)], 0)),
  (178, (.bastore, 179, 0, 0, [], 0)),
  (179, (.iinc 2 1, 182, 2, 0, [(1, 0)], 0)),
  (182, (.goto (-47), 185, 135, 0, [], 0)),
  (185, (.iinc 1 1, 188, 1, 0, [(1, 0)], 0)),
  (188, (.goto (-169), 191, 19, 0, [], 0)),
  (191, (.iconst 0, 192, 0, 0, [(0, 0)], 0)),
  (192, (.istore_n 1, 193, 1, 0, [], 0)),
  (193, (.iload_n 1, 194, 1, 0, [], 0)),
  (194, (.bipush 8, 196, 0, 0, [(8, 0)], 0)),
  (196, (.if_icmp .ge 25, 199, 221, 0, [], 0)),
  (199, (.aload_n 0, 200, 0, 0, [], 0)),
  (200, (.getfield 29, 203, 7, 7, [], 0)),
  (203, (.iload_n 1, 204, 1, 0, [], 0)),
  (204, (.aload_n 0, 205, 0, 0, [], 0)),
  (205, (.aload_n 0, 206, 0, 0, [], 0)),
  (206, (.getfield 29, 209, 7, 7, [], 0)),
  (209, (.iload_n 1, 210, 1, 0, [], 0)),
  (210, (.iaload, 211, 0, 0, [], 0)),
  (211, (.invokevirtual 233, 214, 179, 2, [], 0)),
  (214, (.iastore, 215, 0, 0, [], 0)),
  (215, (.iinc 1 1, 218, 1, 0, [(1, 0)], 0)),
  (218, (.goto (-25), 221, 193, 0, [], 0)),
  (221, (.aload_n 0, 222, 0, 0, [], 0)),
  (222, (.aload_n 0, 223, 0, 0, [], 0)),
  (223, (.aload_n 0, 224, 0, 0, [], 0)),
  (224, (.getfield 32, 227, 7, 8, [], 0)),
  (227, (.invokevirtual 233, 230, 179, 2, [], 0)),
  (230, (.putfield 32, 233, 7, 8, [(0, 0)], 0)),
  (233, (.aload_n 0, 234, 0, 0, [], 0)),
  (234, (.aload_n 0, 235, 0, 0, [], 0)),
  (235, (.aload_n 0, 236, 0, 0, [], 0)),
  (236, (.getfield 36, 239, 7, 9, [], 0)),
  (239, (.invokevirtual 233, 242, 179, 2, [], 0)),
  (242, (.putfield 36, 245, 7, 9, [(0, 0)], 0)),
  (245, (.iconst 0, 246, 0, 0, [(0, 0)], 0)),
  (246, (.istore_n 1, 247, 1, 0, [], 0)),
  (247, (.iload_n 1, 248, 1, 0, [], 0)),
  (248, (.bipush 6, 250, 0, 0, [(6, 0)], 0)),
  (250, (.if_icmp .ge 25, 253, 275, 0, [], 0)),
  (253, (.aload_n 0, 254, 0, 0, [], 0)),
  (254, (.getfield 39, 257, 7, 10, [], 0)),
  (257, (.iload_n 1, 258, 1, 0, [], 0)),
  (258, (.aload_n 0, 259, 0, 0, [], 0)),
  (259, (.aload_n 0, 260, 0, 0, [], 0)),
  (260, (.getfield 39, 263, 7, 10, [], 0)),
  (263, (.iload_n 1, 264, 1, 0, [], 0)),
  (264, (.iaload, 265, 0, 0, [], 0)),
  (265, (.invokevirtual 233, 268, 179, 2, [], 0)),
  (268, (.iastore, 269, 0, 0, [], 0)),
  (269, (.iinc 1 1, 272, 1, 0, [(1, 0)], 0)),
  (272, (.goto (-25), 275, 247, 0, [], 0)),
  (275, (.aload_n 0, 276, 0, 0, [], 0)),
  (276, (.aload_n 0, 277, 0, 0, [], 0)),
  (277, (.aload_n 0, 278, 0, 0, [], 0)),
  (278, (.getfield 131, 281, 7, 11, [], 0)),
  (281, (.invokevirtual 233, 284, 179, 2, [], 0)),
  (284, (.putfield 131, 287, 7, 11, [(0, 0)], 0)),
  (287, (.iconst 0, 288, 0, 0, [(0, 0)], 0)),
  (288, (.istore_n 1, 289, 1, 0, [], 0)),
  (289, (.iload_n 1, 290, 1, 0, [], 0)),
  (290, (.bipush 20, 292, 0, 0, [(20, 0)], 0)),
  (292, (.if_icmp .ge 41, 295, 333, 0, [], 0)),
  (295, (.aload_n 0, 296, 0, 0, [], 0)),
  (296, (.getfield 42, 299, 7, 12, [], 0)),
  (299, (.iload_n 1, 300, 1, 0, [], 0)),
  (300, (.aload_n 0, 301, 0, 0, [], 0)),
  (301, (.aload_n 0, 302, 0, 0, [], 0)),
  (302, (.getfield 42, 305, 7, 12, [], 0)),
  (305, (.iload_n 1, 306, 1, 0, [], 0)),
  (306, (.iaload, 307, 0, 0, [], 0)),
  (307, (.invokevirtual 233, 310, 179, 2, [], 0)),
  (310, (.iastore, 311, 0, 0, [], 0)),
  (311, (.aload_n 0, 312, 0, 0, [], 0)),
  (312, (.getfield 45, 315, 7, 13, [], 0)),
  (315, (.iload_n 1, 316, 1, 0, [], 0)),
  (316, (.aload_n 0, 317, 0, 0, [], 0)),
  (317, (.aload_n 0, 318, 0, 0, [], 0)),
  (318, (.getfield 45, 321, 7, 13, [], 0)),
  (321, (.iload_n 1, 322, 1, 0, [], 0)),
  (322, (.iaload, 323, 0, 0, [], 0)),
  (323, (.invokevirtual 233, 326, 179, 2, [], 0)),
  (326, (.iastore, 327, 0, 0, [], 0)),
  (327, (.iinc 1 1, 330, 1, 0, [(1, 0)], 0)),
  (330, (.goto (-41), 333, 289, 0, [], 0)),
  (333, (.return_, 334, 0, 0, [], 0))]
def cp_Model_moveAll : List (List Nat) := [[], [], [751], [], [], [], [722], [1077, 56], [722], [], [], [], [], [], [], [723], [], [], [], [723], [], [], [1077, 56], [], [], [725], [], [], [], [725], [], [], [1077, 56], [], [], [], [], [], [], [], [], [], [], [], [], [], [724], [], [], [], [724], [], [], [1077, 56], [], [], [], [], [], [], [], [], [], [], [], [], [], [], [], [726], [], [], [], [726], [], [], [1077, 56], [], [], [], [], [], [], [], [], [], [], [], [], [], [], [], [727], [], [], [], [727], [], [], [], [], [], [], [1077, 56], [], [], [], [], [], [], [], [], [], [], [], [], [], [], [], [], [729], [], [], [], [729], [], [], [1077, 56], [], [], [], [], [], [], [730], [1077, 56], [730], [], [], [], [731], [1077, 56], [731], [], [], [], [], [], [], [732], [], [], [], [732], [], [], [1077, 56], [], [], [], [], [], [], [733], [1077, 56], [733], [], [], [], [], [], [], [734], [], [], [], [734], [], [], [1077, 56], [], [], [735], [], [], [], [735], [], [], [1077, 56], [], [], [], []]
def cd_Model_move : mm_C := [(0, (.aload_n 0, 1, 0, 0, [], 0)),
  (1, (.getfield 227, 4, 7, 30, [], 0)),
  (4, (.ifCond .eq 13, 7, 17, 0, [], 0)),
  (7, (.aload_n 0, 8, 0, 0, [], 0)),
  (8, (.getfield 66, 11, 7, 28, [], 0)),
  (11, (.aload_n 0, 12, 0, 0, [], 0)),
  (12, (.getfield 230, 15, 7, 29, [], 0)),
  (15, (.iload_n 1, 16, 1, 0, [], 0)),
  (16, (.iastore, 17, 0, 0, [], 0)),
  (17, (.aload_n 0, 18, 0, 0, [], 0)),
  (18, (.dup, 19, 0, 0, [], 0)),
  (19, (.getfield 230, 22, 7, 29, [], 0)),
  (22, (.iconst 1, 23, 0, 0, [(1, 0)], 0)),
  (23, (.iadd, 24, 0, 0, [], 0)),
  (24, (.putfield 230, 27, 7, 29, [(0, 0)], 0)),
  (27, (.aload_n 0, 28, 0, 0, [], 0)),
  (28, (.getfield 66, 31, 7, 28, [], 0)),
  (31, (.aload_n 0, 32, 0, 0, [], 0)),
  (32, (.getfield 230, 35, 7, 29, [], 0)),
  (35, (.iconst 1, 36, 0, 0, [(1, 0)], 0)),
  (36, (.isub, 37, 0, 0, [], 0)),
  (37, (.iaload, 38, 0, 0, [], 0)),
  (38, (.ireturn, 39, 0, 0, [], 0))]
def cp_Model_move : List (List Nat) := [[], [752], [], [], [750], [], [751], [], [], [], [], [751], [], [], [751], [], [750], [], [751], [], [], [], []]
def cd_Model_restore : mm_C := [(0, (.aload_n 0, 1, 0, 0, [], 0)),
  (1, (.getfield 236, 4, 7, 27, [], 0)),
  (4, (.ifCond .ne 10, 7, 14, 0, [], 0)),
  (7, (.aload_n 0, 8, 0, 0, [], 0)),
  (8, (.bipush (-3), 10, 0, 0, [((-3), 0)], 0)),
  (10, (.invokevirtual 83, 13, 116, 2, [], 0)),
  (13, (.ireturn, 14, 0, 0, [], 0)),
  (14, (.aload_n 0, 15, 0, 0, [], 0)),
  (15, (.iconst 0, 16, 0, 0, [(0, 0)], 0)),
  (16, (.putfield 227, 19, 7, 30, [(0, 1)], 0)),
  (19, (.aload_n 0, 20, 0, 0, [], 0)),
  (20, (.invokevirtual 239, 23, 178, 1, [], 0)),
  (23, (.iconst 0, 24, 0, 0, [(0, 0)], 0)),
  (24, (.istore_n 1, 25, 1, 0, [], 0)),
  (25, (.iload_n 1, 26, 1, 0, [], 0)),
  (26, (.aload_n 0, 27, 0, 0, [], 0)),
  (27, (.getfield 72, 30, 7, 0, [], 0)),
  (30, (.if_icmp .ge 14, 33, 44, 0, [], 0)),
  (33, (.aload_n 0, 34, 0, 0, [], 0)),
  (34, (.iload_n 1, 35, 1, 0, [], 0)),
  (35, (.invokevirtual 121, 38, 124, 2, [], 0)),
  (38, (.iinc 1 1, 41, 1, 0, [(1, 0)], 0)),
  (41, (.goto (-16), 44, 25, 0, [], 0)),
  (44, (.aload_n 0, 45, 0, 0, [], 0)),
  (45, (.getfield 72, 48, 7, 0, [], 0)),
  (48, (.ireturn, 49, 0, 0, [], 0))]
def cp_Model_restore : List (List Nat) := [[], [749], [], [], [], [821, 28], [], [], [], [752], [], [1073, 55], [], [], [], [], [722], [], [], [], [855, 34], [], [], [], [722], []]
def cd_Model_count : mm_C := [(0, (.iconst 0, 1, 0, 0, [(0, 0)], 0)),
  (1, (.istore_n 2, 2, 2, 0, [], 0)),
  (2, (.iload_n 1, 3, 1, 0, [], 0)),
  (3, (.tableswitch 130 0 5 #[37, 42, 69, 96, 120, 125], 40, 133, 0, [(0, 40), (1, 45), (2, 72), (3, 99), (4, 123), (5, 128)], 0)),
  (40, (.aload_n 0, 41, 0, 0, [], 0)),
  (41, (.getfield 72, 44, 7, 0, [], 0)),
  (44, (.ireturn, 45, 0, 0, [], 0)),
  (45, (.iconst 0, 46, 0, 0, [(0, 0)], 0)),
  (46, (.istore_n 3, 47, 3, 0, [], 0)),
  (47, (.iload_n 3, 48, 3, 0, [], 0)),
  (48, (.aload_n 0, 49, 0, 0, [], 0)),
  (49, (.getfield 72, 52, 7, 0, [], 0)),
  (52, (.if_icmp .ge 18, 55, 70, 0, [], 0)),
  (55, (.iload_n 2, 56, 2, 0, [], 0)),
  (56, (.aload_n 0, 57, 0, 0, [], 0)),
  (57, (.getfield 7, 60, 7, 1, [], 0)),
  (60, (.iload_n 3, 61, 3, 0, [], 0)),
  (61, (.iaload, 62, 0, 0, [], 0)),
  (62, (.iadd, 63, 0, 0, [], 0)),
  (63, (.istore_n 2, 64, 2, 0, [], 0)),
  (64, (.iinc 3 1, 67, 3, 0, [(1, 0)], 0)),
  (67, (.goto (-20), 70, 47, 0, [], 0)),
  (70, (.iload_n 2, 71, 2, 0, [], 0)),
  (71, (.ireturn, 72, 0, 0, [], 0)),
  (72, (.iconst 0, 73, 0, 0, [(0, 0)], 0)),
  (73, (.istore_n 3, 74, 3, 0, [], 0)),
  (74, (.iload_n 3, 75, 3, 0, [], 0)),
  (75, (.aload_n 0, 76, 0, 0, [], 0)),
  (76, (.getfield 72, 79, 7, 0, [], 0)),
  (79, (.if_icmp .ge 18, 82, 97, 0, [], 0)),
  (82, (.iload_n 2, 83, 2, 0, [], 0)),
  (83, (.aload_n 0, 84, 0, 0, [], 0)),
  (84, (.getfield 16, 87, 7, 3, [], 0)),
  (87, (.iload_n 3, 88, 3, 0, [], 0)),
  (88, (.iaload, 89, 0, 0, [], 0)),
  (89, (.iadd, 90, 0, 0, [], 0)),
  (90, (.istore_n 2, 91, 2, 0, [], 0)),
  (91, (.iinc 3 1, 94, 3, 0, [(1, 0)], 0)),
  (94, (.goto (-20), 97, 74, 0, [], 0)),
  (97, (.iload_n 2, 98, 2, 0, [], 0)),
  (98, (.ireturn, 99, 0, 0, [], 0)),
  (99, (.iconst 0, 100, 0, 0, [(0, 0)], 0)),
  (100, (.istore_n 3, 101, 3, 0, [], 0)),
  (101, (.iload_n 3, 102, 3, 0, [], 0)),
  (102, (.bipush 6, 104, 0, 0, [(6, 0)], 0)),
  (104, (.if_icmp .ge 17, 107, 121, 0, [], 0)),
  (107, (.iload_n 2, 108, 2, 0, [], 0)),
  (108, (.aload_n 0, 109, 0, 0, [], 0)),
  (109, (.iload_n 3, 110, 3, 0, [], 0)),
  (110, (.invokevirtual 141, 113, 134, 2, [], 0)),
  (113, (.iadd, 114, 0, 0, [], 0)),
  (114, (.istore_n 2, 115, 2, 0, [], 0)),
  (115, (.iinc 3 1, 118, 3, 0, [(1, 0)], 0)),
  (118, (.goto (-17), 121, 101, 0, [], 0)),
  (121, (.iload_n 2, 122, 2, 0, [], 0)),
  (122, (.ireturn, 123, 0, 0, [], 0)),
  (123, (.aload_n 0, 124, 0, 0, [], 0)),
  (124, (.getfield 131, 127, 7, 11, [], 0)),
  (127, (.ireturn, 128, 0, 0, [], 0)),
  (128, (.aload_n 0, 129, 0, 0, [], 0)),
  (129, (.getfield 69, 132, 7, 15, [], 0)),
  (132, (.ireturn, 133, 0, 0, [], 0)),
  (133, (.iload_n 1, 134, 1, 0, [], 0)),
  (134, (.i2l, 135, 0, 0, [], 0)),
  (135, (.ldc2_w 242, 138, 0, 0, [], 11)),
  (138, (.ldc2_w 244, 141, 0, 0, [], 16)),
  (141, (.invokestatic 75, 144, 121, 3, [], 0)),
  (144, (.ifCond .eq 15, 147, 159, 0, [], 0)),
  (147, (.aload_n 0, 148, 0, 0, [], 0)),
  (148, (.getfield 51, 151, 7, 16, [], 0)),
  (151, (.iload_n 1, 152, 1, 0, [], 0)),
  (152, (.bipush 10, 154, 0, 0, [(10, 0)], 0)),
  (154, (.isub, 155, 0, 0, [], 0)),
  (155, (.iaload, 156, 0, 0, [], 0)),
  (156, (.goto 5, 159, 161, 0, [], 0)),
  (159, (.bipush (-9), 161, 0, 0, [((-9), 0)], 0)),
  (161, (.ireturn, 162, 0, 0, [], 0))]
def cp_Model_count : List (List Nat) := [[], [], [], [], [], [722], [], [], [], [], [], [722], [], [], [], [723], [], [], [], [], [], [], [], [], [], [], [], [], [722], [], [], [], [725], [], [], [], [], [], [], [], [], [], [], [], [], [], [], [], [], [895, 38], [], [], [], [], [], [], [], [733], [], [], [737], [], [], [], [1089], [1090], [0, 843], [], [], [738], [], [], [], [], [], [], []]
def cd_Arrays_fill : mm_C := [(0, (.iconst 0, 1, 0, 0, [(0, 0)], 0)),
  (1, (.istore_n 2, 2, 2, 0, [], 0)),
  (2, (.aload_n 0, 3, 0, 0, [], 0)),
  (3, (.arraylength, 4, 0, 0, [], 0)),
  (4, (.istore_n 3, 5, 3, 0, [], 0)),
  (5, (.iload_n 2, 6, 2, 0, [], 0)),
  (6, (.iload_n 3, 7, 3, 0, [], 0)),
  (7, (.if_icmp .ge 13, 10, 20, 0, [], 0)),
  (10, (.aload_n 0, 11, 0, 0, [], 0)),
  (11, (.iload_n 2, 12, 2, 0, [], 0)),
  (12, (.iload_n 1, 13, 1, 0, [], 0)),
  (13, (.iastore, 14, 0, 0, [], 0)),
  (14, (.iinc 2 1, 17, 2, 0, [(1, 0)], 0)),
  (17, (.goto (-12), 20, 5, 0, [], 0)),
  (20, (.return_, 21, 0, 0, [], 0))]
def cp_Arrays_fill : List (List Nat) := [[], [], [], [], [], [], [], [], [], [], [], [], [], [], []]
def cd_Integer_bitCount : mm_C := [(0, (.iload_n 0, 1, 0, 0, [], 0)),
  (1, (.iload_n 0, 2, 0, 0, [], 0)),
  (2, (.iconst 1, 3, 0, 0, [(1, 0)], 0)),
  (3, (.iushr, 4, 0, 0, [], 0)),
  (4, (.ldc_w 265, 7, 0, 0, [(1431655765, 0)], 0)),
  (7, (.iand, 8, 0, 0, [], 0)),
  (8, (.isub, 9, 0, 0, [], 0)),
  (9, (.istore_n 0, 10, 0, 0, [], 0)),
  (10, (.iload_n 0, 11, 0, 0, [], 0)),
  (11, (.ldc_w 266, 14, 0, 0, [(858993459, 0)], 0)),
  (14, (.iand, 15, 0, 0, [], 0)),
  (15, (.iload_n 0, 16, 0, 0, [], 0)),
  (16, (.iconst 2, 17, 0, 0, [(2, 0)], 0)),
  (17, (.iushr, 18, 0, 0, [], 0)),
  (18, (.ldc_w 266, 21, 0, 0, [(858993459, 0)], 0)),
  (21, (.iand, 22, 0, 0, [], 0)),
  (22, (.iadd, 23, 0, 0, [], 0)),
  (23, (.istore_n 0, 24, 0, 0, [], 0)),
  (24, (.iload_n 0, 25, 0, 0, [], 0)),
  (25, (.iload_n 0, 26, 0, 0, [], 0)),
  (26, (.iconst 4, 27, 0, 0, [(4, 0)], 0)),
  (27, (.iushr, 28, 0, 0, [], 0)),
  (28, (.iadd, 29, 0, 0, [], 0)),
  (29, (.ldc_w 267, 32, 0, 0, [(252645135, 0)], 0)),
  (32, (.iand, 33, 0, 0, [], 0)),
  (33, (.istore_n 0, 34, 0, 0, [], 0)),
  (34, (.iload_n 0, 35, 0, 0, [], 0)),
  (35, (.iload_n 0, 36, 0, 0, [], 0)),
  (36, (.bipush 8, 38, 0, 0, [(8, 0)], 0)),
  (38, (.iushr, 39, 0, 0, [], 0)),
  (39, (.iadd, 40, 0, 0, [], 0)),
  (40, (.istore_n 0, 41, 0, 0, [], 0)),
  (41, (.iload_n 0, 42, 0, 0, [], 0)),
  (42, (.iload_n 0, 43, 0, 0, [], 0)),
  (43, (.bipush 16, 45, 0, 0, [(16, 0)], 0)),
  (45, (.iushr, 46, 0, 0, [], 0)),
  (46, (.iadd, 47, 0, 0, [], 0)),
  (47, (.istore_n 0, 48, 0, 0, [], 0)),
  (48, (.iload_n 0, 49, 0, 0, [], 0)),
  (49, (.bipush 63, 51, 0, 0, [(63, 0)], 0)),
  (51, (.iand, 52, 0, 0, [], 0)),
  (52, (.ireturn, 53, 0, 0, [], 0))]
def cp_Integer_bitCount : List (List Nat) := [[], [], [], [], [400], [], [], [], [], [401], [], [], [], [], [401], [], [], [], [], [], [], [], [], [402], [], [], [], [], [], [], [], [], [], [], [], [], [], [], [], [], [], []]
end
section
def cd_law_1 : mm_C := [(0, (.new 7, 3, 6, 8, [], 0)),
  (3, (.dup, 4, 0, 0, [], 0)),
  (4, (.invokespecial 9, 7, 70, 1, [], 0)),
  (7, (.astore_n 1, 8, 1, 0, [], 0)),
  (8, (.new 10, 11, 7, 31, [], 0)),
  (11, (.dup, 12, 0, 0, [], 0)),
  (12, (.invokespecial 12, 15, 114, 1, [], 0)),
  (15, (.astore_n 2, 16, 2, 0, [], 0)),
  (16, (.iconst 0, 17, 0, 0, [(0, 0)], 0)),
  (17, (.istore_n 3, 18, 3, 0, [], 0)),
  (18, (.iload_n 3, 19, 3, 0, [], 0)),
  (19, (.aload_n 0, 20, 0, 0, [], 0)),
  (20, (.arraylength, 21, 0, 0, [], 0)),
  (21, (.iconst 4, 22, 0, 0, [(4, 0)], 0)),
  (22, (.isub, 23, 0, 0, [], 0)),
  (23, (.if_icmp .gt 1113, 26, 1136, 0, [], 0)),
  (26, (.aload_n 0, 27, 0, 0, [], 0)),
  (27, (.iload_n 3, 28, 3, 0, [], 0)),
  (28, (.iaload, 29, 0, 0, [], 0)),
  (29, (.bipush 31, 31, 0, 0, [(31, 0)], 0)),
  (31, (.iand, 32, 0, 0, [], 0)),
  (32, (.tableswitch 1098 0 31 #[144, 207, 220, 233, 266, 299, 358, 381, 404, 437, 470, 513, 546, 579, 612, 646, 690, 713, 736, 769, 802, 835, 868, 881, 904, 927, 970, 983, 1016, 1049, 1062, 1075], 176, 1130, 0, [(0, 176), (1, 239), (2, 252), (3, 265), (4, 298), (5, 331), (6, 390), (7, 413), (8, 436), (9, 469), (10, 502), (11, 545), (12, 578), (13, 611), (14, 644), (15, 678), (16, 722), (17, 745), (18, 768), (19, 801), (20, 834), (21, 867), (22, 900), (23, 913), (24, 936), (25, 959), (26, 1002), (27, 1015), (28, 1048), (29, 1081), (30, 1094), (31, 1107)], 0)),
  (176, (.aload_n 1, 177, 1, 0, [], 0)),
  (177, (.aload_n 0, 178, 0, 0, [], 0)),
  (178, (.iload_n 3, 179, 3, 0, [], 0)),
  (179, (.iconst 1, 180, 0, 0, [(1, 0)], 0)),
  (180, (.iadd, 181, 0, 0, [], 0)),
  (181, (.iaload, 182, 0, 0, [], 0)),
  (182, (.aload_n 0, 183, 0, 0, [], 0)),
  (183, (.iload_n 3, 184, 3, 0, [], 0)),
  (184, (.iconst 2, 185, 0, 0, [(2, 0)], 0)),
  (185, (.iadd, 186, 0, 0, [], 0)),
  (186, (.iaload, 187, 0, 0, [], 0)),
  (187, (.i2l, 188, 0, 0, [], 0)),
  (188, (.bipush 32, 190, 0, 0, [(32, 0)], 0)),
  (190, (.lshl, 191, 0, 0, [], 0)),
  (191, (.aload_n 0, 192, 0, 0, [], 0)),
  (192, (.iload_n 3, 193, 3, 0, [], 0)),
  (193, (.iconst 3, 194, 0, 0, [(3, 0)], 0)),
  (194, (.iadd, 195, 0, 0, [], 0)),
  (195, (.iaload, 196, 0, 0, [], 0)),
  (196, (.i2l, 197, 0, 0, [], 0)),
  (197, (.ldc2_w 13, 200, 0, 0, [], 4294967295)),
  (200, (.land, 201, 0, 0, [], 0)),
  (201, (.lor, 202, 0, 0, [], 0)),
  (202, (.invokevirtual 15, 205, 71, 3, [], 0)),
  (205, (.aload_n 2, 206, 2, 0, [], 0)),
  (206, (.aload_n 0, 207, 0, 0, [], 0)),
  (207, (.iload_n 3, 208, 3, 0, [], 0)),
  (208, (.iconst 1, 209, 0, 0, [(1, 0)], 0))]
def cp_law_1 : List (List Nat) := [[70, 71, 58], [], [0, 72], [], [716, 717, 66], [], [0, 718], [], [], [], [], [], [], [], [], [], [], [], [], [], [], [], [], [], [], [], [], [], [], [], [], [], [], [], [], [], [], [], [], [], [], [], [1091], [], [], [251, 253], [], [], [], []]
def cd_law_2 : mm_C := [(209, (.iadd, 210, 0, 0, [], 0)),
  (210, (.iaload, 211, 0, 0, [], 0)),
  (211, (.aload_n 0, 212, 0, 0, [], 0)),
  (212, (.iload_n 3, 213, 3, 0, [], 0)),
  (213, (.iconst 2, 214, 0, 0, [(2, 0)], 0)),
  (214, (.iadd, 215, 0, 0, [], 0)),
  (215, (.iaload, 216, 0, 0, [], 0)),
  (216, (.i2l, 217, 0, 0, [], 0)),
  (217, (.bipush 32, 219, 0, 0, [(32, 0)], 0)),
  (219, (.lshl, 220, 0, 0, [], 0)),
  (220, (.aload_n 0, 221, 0, 0, [], 0)),
  (221, (.iload_n 3, 222, 3, 0, [], 0)),
  (222, (.iconst 3, 223, 0, 0, [(3, 0)], 0)),
  (223, (.iadd, 224, 0, 0, [], 0)),
  (224, (.iaload, 225, 0, 0, [], 0)),
  (225, (.i2l, 226, 0, 0, [], 0)),
  (226, (.ldc2_w 13, 229, 0, 0, [], 4294967295)),
  (229, (.land, 230, 0, 0, [], 0)),
  (230, (.lor, 231, 0, 0, [], 0)),
  (231, (.invokevirtual 19, 234, 115, 3, [], 0)),
  (234, (.if_icmp .eq 896, 237, 1130, 0, [], 0)),
  (237, (.iconst 0, 238, 0, 0, [(0, 0)], 0)),
  (238, (.ireturn, 239, 1, 0, [], 0)),
  (239, (.aload_n 1, 240, 1, 0, [], 0)),
  (240, (.invokevirtual 20, 243, 73, 1, [], 0)),
  (243, (.aload_n 2, 244, 2, 0, [], 0)),
  (244, (.invokevirtual 24, 247, 117, 1, [], 0)),
  (247, (.if_icmp .eq 883, 250, 1130, 0, [], 0)),
  (250, (.iconst 0, 251, 0, 0, [(0, 0)], 0)),
  (251, (.ireturn, 252, 1, 0, [], 0)),
  (252, (.aload_n 1, 253, 1, 0, [], 0)),
  (253, (.invokevirtual 25, 256, 75, 1, [], 0)),
  (256, (.aload_n 2, 257, 2, 0, [], 0)),
  (257, (.invokevirtual 28, 260, 127, 1, [], 0)),
  (260, (.if_icmp .eq 870, 263, 1130, 0, [], 0)),
  (263, (.iconst 0, 264, 0, 0, [(0, 0)], 0)),
  (264, (.ireturn, 265, 1, 0, [], 0)),
  (265, (.aload_n 1, 266, 1, 0, [], 0)),
  (266, (.aload_n 0, 267, 0, 0, [], 0)),
  (267, (.iload_n 3, 268, 3, 0, [], 0)),
  (268, (.iconst 1, 269, 0, 0, [(1, 0)], 0)),
  (269, (.iadd, 270, 0, 0, [], 0)),
  (270, (.iaload, 271, 0, 0, [], 0)),
  (271, (.aload_n 0, 272, 0, 0, [], 0)),
  (272, (.iload_n 3, 273, 3, 0, [], 0)),
  (273, (.iconst 2, 274, 0, 0, [(2, 0)], 0)),
  (274, (.iadd, 275, 0, 0, [], 0)),
  (275, (.iaload, 276, 0, 0, [], 0)),
  (276, (.invokevirtual 29, 279, 76, 3, [], 0)),
  (279, (.aload_n 2, 280, 2, 0, [], 0))]
def cp_law_2 : List (List Nat) := [[], [], [], [], [], [], [], [], [], [], [], [], [], [], [], [], [1091], [], [], [817, 819], [], [], [], [], [267, 269], [], [826, 828], [], [], [], [], [353, 355], [], [867, 869], [], [], [], [], [], [], [], [], [], [], [], [], [], [], [365, 367], []]
def cd_law_3 : mm_C := [(280, (.aload_n 0, 281, 0, 0, [], 0)),
  (281, (.iload_n 3, 282, 3, 0, [], 0)),
  (282, (.iconst 1, 283, 0, 0, [(1, 0)], 0)),
  (283, (.iadd, 284, 0, 0, [], 0)),
  (284, (.iaload, 285, 0, 0, [], 0)),
  (285, (.aload_n 0, 286, 0, 0, [], 0)),
  (286, (.iload_n 3, 287, 3, 0, [], 0)),
  (287, (.iconst 2, 288, 0, 0, [(2, 0)], 0)),
  (288, (.iadd, 289, 0, 0, [], 0)),
  (289, (.iaload, 290, 0, 0, [], 0)),
  (290, (.invokevirtual 33, 293, 128, 3, [], 0)),
  (293, (.if_icmp .eq 837, 296, 1130, 0, [], 0)),
  (296, (.iconst 0, 297, 0, 0, [(0, 0)], 0)),
  (297, (.ireturn, 298, 1, 0, [], 0)),
  (298, (.aload_n 1, 299, 1, 0, [], 0)),
  (299, (.aload_n 0, 300, 0, 0, [], 0)),
  (300, (.iload_n 3, 301, 3, 0, [], 0)),
  (301, (.iconst 1, 302, 0, 0, [(1, 0)], 0)),
  (302, (.iadd, 303, 0, 0, [], 0)),
  (303, (.iaload, 304, 0, 0, [], 0)),
  (304, (.aload_n 0, 305, 0, 0, [], 0)),
  (305, (.iload_n 3, 306, 3, 0, [], 0)),
  (306, (.iconst 2, 307, 0, 0, [(2, 0)], 0)),
  (307, (.iadd, 308, 0, 0, [], 0)),
  (308, (.iaload, 309, 0, 0, [], 0)),
  (309, (.invokevirtual 34, 312, 78, 3, [], 0)),
  (312, (.aload_n 2, 313, 2, 0, [], 0)),
  (313, (.aload_n 0, 314, 0, 0, [], 0)),
  (314, (.iload_n 3, 315, 3, 0, [], 0)),
  (315, (.iconst 1, 316, 0, 0, [(1, 0)], 0)),
  (316, (.iadd, 317, 0, 0, [], 0)),
  (317, (.iaload, 318, 0, 0, [], 0)),
  (318, (.aload_n 0, 319, 0, 0, [], 0)),
  (319, (.iload_n 3, 320, 3, 0, [], 0)),
  (320, (.iconst 2, 321, 0, 0, [(2, 0)], 0)),
  (321, (.iadd, 322, 0, 0, [], 0)),
  (322, (.iaload, 323, 0, 0, [], 0)),
  (323, (.invokevirtual 37, 326, 130, 3, [], 0)),
  (326, (.if_icmp .eq 804, 329, 1130, 0, [], 0)),
  (329, (.iconst 0, 330, 0, 0, [(0, 0)], 0)),
  (330, (.ireturn, 331, 1, 0, [], 0)),
  (331, (.aload_n 1, 332, 1, 0, [], 0)),
  (332, (.aload_n 0, 333, 0, 0, [], 0)),
  (333, (.iload_n 3, 334, 3, 0, [], 0)),
  (334, (.iconst 1, 335, 0, 0, [(1, 0)], 0)),
  (335, (.iadd, 336, 0, 0, [], 0)),
  (336, (.iaload, 337, 0, 0, [], 0)),
  (337, (.aload_n 0, 338, 0, 0, [], 0)),
  (338, (.iload_n 3, 339, 3, 0, [], 0)),
  (339, (.iconst 2, 340, 0, 0, [(2, 0)], 0))]
def cp_law_3 : List (List Nat) := [[], [], [], [], [], [], [], [], [], [], [871, 873], [], [], [], [], [], [], [], [], [], [], [], [], [], [], [374, 376], [], [], [], [], [], [], [], [], [], [], [], [879, 881], [], [], [], [], [], [], [], [], [], [], [], []]
def cd_law_4 : mm_C := [(340, (.iadd, 341, 0, 0, [], 0)),
  (341, (.iaload, 342, 0, 0, [], 0)),
  (342, (.aload_n 0, 343, 0, 0, [], 0)),
  (343, (.iload_n 3, 344, 3, 0, [], 0)),
  (344, (.iconst 3, 345, 0, 0, [(3, 0)], 0)),
  (345, (.iadd, 346, 0, 0, [], 0)),
  (346, (.iaload, 347, 0, 0, [], 0)),
  (347, (.ifCond .eq 7, 350, 354, 0, [], 0)),
  (350, (.iconst 1, 351, 0, 0, [(1, 0)], 0)),
  (351, (.goto 4, 354, 355, 0, [], 0)),
  (354, (.iconst 0, 355, 0, 0, [(0, 0)], 0)),
  (355, (.invokevirtual 38, 358, 79, 4, [], 0)),
  (358, (.aload_n 2, 359, 2, 0, [], 0)),
  (359, (.aload_n 0, 360, 0, 0, [], 0)),
  (360, (.iload_n 3, 361, 3, 0, [], 0)),
  (361, (.iconst 1, 362, 0, 0, [(1, 0)], 0)),
  (362, (.iadd, 363, 0, 0, [], 0)),
  (363, (.iaload, 364, 0, 0, [], 0)),
  (364, (.aload_n 0, 365, 0, 0, [], 0)),
  (365, (.iload_n 3, 366, 3, 0, [], 0)),
  (366, (.iconst 2, 367, 0, 0, [(2, 0)], 0)),
  (367, (.iadd, 368, 0, 0, [], 0)),
  (368, (.iaload, 369, 0, 0, [], 0)),
  (369, (.aload_n 0, 370, 0, 0, [], 0)),
  (370, (.iload_n 3, 371, 3, 0, [], 0)),
  (371, (.iconst 3, 372, 0, 0, [(3, 0)], 0)),
  (372, (.iadd, 373, 0, 0, [], 0)),
  (373, (.iaload, 374, 0, 0, [], 0)),
  (374, (.ifCond .eq 7, 377, 381, 0, [], 0)),
  (377, (.iconst 1, 378, 0, 0, [(1, 0)], 0)),
  (378, (.goto 4, 381, 382, 0, [], 0)),
  (381, (.iconst 0, 382, 0, 0, [(0, 0)], 0)),
  (382, (.invokevirtual 42, 385, 131, 4, [], 0)),
  (385, (.if_icmp .eq 745, 388, 1130, 0, [], 0)),
  (388, (.iconst 0, 389, 0, 0, [(0, 0)], 0)),
  (389, (.ireturn, 390, 1, 0, [], 0)),
  (390, (.aload_n 1, 391, 1, 0, [], 0)),
  (391, (.aload_n 0, 392, 0, 0, [], 0)),
  (392, (.iload_n 3, 393, 3, 0, [], 0)),
  (393, (.iconst 1, 394, 0, 0, [(1, 0)], 0)),
  (394, (.iadd, 395, 0, 0, [], 0)),
  (395, (.iaload, 396, 0, 0, [], 0)),
  (396, (.invokevirtual 43, 399, 82, 2, [], 0)),
  (399, (.aload_n 2, 400, 2, 0, [], 0)),
  (400, (.aload_n 0, 401, 0, 0, [], 0)),
  (401, (.iload_n 3, 402, 3, 0, [], 0)),
  (402, (.iconst 1, 403, 0, 0, [(1, 0)], 0)),
  (403, (.iadd, 404, 0, 0, [], 0)),
  (404, (.iaload, 405, 0, 0, [], 0)),
  (405, (.invokevirtual 47, 408, 133, 2, [], 0))]
def cp_law_4 : List (List Nat) := [[], [], [], [], [], [], [], [], [], [], [], [379, 381], [], [], [], [], [], [], [], [], [], [], [], [], [], [], [], [], [], [], [], [], [883, 885], [], [], [], [], [], [], [], [], [], [393, 395], [], [], [], [], [], [], [891, 893]]
def cd_law_5 : mm_C := [(408, (.if_icmp .eq 722, 411, 1130, 0, [], 0)),
  (411, (.iconst 0, 412, 0, 0, [(0, 0)], 0)),
  (412, (.ireturn, 413, 1, 0, [], 0)),
  (413, (.aload_n 1, 414, 1, 0, [], 0)),
  (414, (.aload_n 0, 415, 0, 0, [], 0)),
  (415, (.iload_n 3, 416, 3, 0, [], 0)),
  (416, (.iconst 1, 417, 0, 0, [(1, 0)], 0)),
  (417, (.iadd, 418, 0, 0, [], 0)),
  (418, (.iaload, 419, 0, 0, [], 0)),
  (419, (.invokevirtual 48, 422, 83, 2, [], 0)),
  (422, (.aload_n 2, 423, 2, 0, [], 0)),
  (423, (.aload_n 0, 424, 0, 0, [], 0)),
  (424, (.iload_n 3, 425, 3, 0, [], 0)),
  (425, (.iconst 1, 426, 0, 0, [(1, 0)], 0)),
  (426, (.iadd, 427, 0, 0, [], 0)),
  (427, (.iaload, 428, 0, 0, [], 0)),
  (428, (.invokevirtual 51, 431, 135, 2, [], 0)),
  (431, (.if_icmp .eq 699, 434, 1130, 0, [], 0)),
  (434, (.iconst 0, 435, 0, 0, [(0, 0)], 0)),
  (435, (.ireturn, 436, 1, 0, [], 0)),
  (436, (.aload_n 1, 437, 1, 0, [], 0)),
  (437, (.aload_n 0, 438, 0, 0, [], 0)),
  (438, (.iload_n 3, 439, 3, 0, [], 0)),
  (439, (.iconst 1, 440, 0, 0, [(1, 0)], 0)),
  (440, (.iadd, 441, 0, 0, [], 0)),
  (441, (.iaload, 442, 0, 0, [], 0)),
  (442, (.aload_n 0, 443, 0, 0, [], 0)),
  (443, (.iload_n 3, 444, 3, 0, [], 0)),
  (444, (.iconst 2, 445, 0, 0, [(2, 0)], 0)),
  (445, (.iadd, 446, 0, 0, [], 0)),
  (446, (.iaload, 447, 0, 0, [], 0)),
  (447, (.invokevirtual 52, 450, 85, 3, [], 0)),
  (450, (.aload_n 2, 451, 2, 0, [], 0)),
  (451, (.aload_n 0, 452, 0, 0, [], 0)),
  (452, (.iload_n 3, 453, 3, 0, [], 0)),
  (453, (.iconst 1, 454, 0, 0, [(1, 0)], 0)),
  (454, (.iadd, 455, 0, 0, [], 0)),
  (455, (.iaload, 456, 0, 0, [], 0)),
  (456, (.aload_n 0, 457, 0, 0, [], 0)),
  (457, (.iload_n 3, 458, 3, 0, [], 0)),
  (458, (.iconst 2, 459, 0, 0, [(2, 0)], 0)),
  (459, (.iadd, 460, 0, 0, [], 0)),
  (460, (.iaload, 461, 0, 0, [], 0)),
  (461, (.invokevirtual 55, 464, 138, 3, [], 0)),
  (464, (.if_icmp .eq 666, 467, 1130, 0, [], 0)),
  (467, (.iconst 0, 468, 0, 0, [(0, 0)], 0)),
  (468, (.ireturn, 469, 1, 0, [], 0)),
  (469, (.aload_n 1, 470, 1, 0, [], 0)),
  (470, (.aload_n 0, 471, 0, 0, [], 0)),
  (471, (.iload_n 3, 472, 3, 0, [], 0))]
def cp_law_5 : List (List Nat) := [[], [], [], [], [], [], [], [], [], [403, 405], [], [], [], [], [], [], [899, 901], [], [], [], [], [], [], [], [], [], [], [], [], [], [], [411, 413], [], [], [], [], [], [], [], [], [], [], [], [910, 912], [], [], [], [], [], []]
def cd_law_6 : mm_C := [(472, (.iconst 1, 473, 0, 0, [(1, 0)], 0)),
  (473, (.iadd, 474, 0, 0, [], 0)),
  (474, (.iaload, 475, 0, 0, [], 0)),
  (475, (.aload_n 0, 476, 0, 0, [], 0)),
  (476, (.iload_n 3, 477, 3, 0, [], 0)),
  (477, (.iconst 2, 478, 0, 0, [(2, 0)], 0)),
  (478, (.iadd, 479, 0, 0, [], 0)),
  (479, (.iaload, 480, 0, 0, [], 0)),
  (480, (.invokevirtual 56, 483, 86, 3, [], 0)),
  (483, (.aload_n 2, 484, 2, 0, [], 0)),
  (484, (.aload_n 0, 485, 0, 0, [], 0)),
  (485, (.iload_n 3, 486, 3, 0, [], 0)),
  (486, (.iconst 1, 487, 0, 0, [(1, 0)], 0)),
  (487, (.iadd, 488, 0, 0, [], 0)),
  (488, (.iaload, 489, 0, 0, [], 0)),
  (489, (.aload_n 0, 490, 0, 0, [], 0)),
  (490, (.iload_n 3, 491, 3, 0, [], 0)),
  (491, (.iconst 2, 492, 0, 0, [(2, 0)], 0)),
  (492, (.iadd, 493, 0, 0, [], 0)),
  (493, (.iaload, 494, 0, 0, [], 0)),
  (494, (.invokevirtual 59, 497, 139, 3, [], 0)),
  (497, (.if_icmp .eq 633, 500, 1130, 0, [], 0)),
  (500, (.iconst 0, 501, 0, 0, [(0, 0)], 0)),
  (501, (.ireturn, 502, 1, 0, [], 0)),
  (502, (.aload_n 1, 503, 1, 0, [], 0)),
  (503, (.aload_n 0, 504, 0, 0, [], 0)),
  (504, (.iload_n 3, 505, 3, 0, [], 0)),
  (505, (.iconst 1, 506, 0, 0, [(1, 0)], 0)),
  (506, (.iadd, 507, 0, 0, [], 0)),
  (507, (.iaload, 508, 0, 0, [], 0)),
  (508, (.aload_n 0, 509, 0, 0, [], 0)),
  (509, (.iload_n 3, 510, 3, 0, [], 0)),
  (510, (.iconst 2, 511, 0, 0, [(2, 0)], 0)),
  (511, (.iadd, 512, 0, 0, [], 0)),
  (512, (.iaload, 513, 0, 0, [], 0)),
  (513, (.aload_n 0, 514, 0, 0, [], 0)),
  (514, (.iload_n 3, 515, 3, 0, [], 0)),
  (515, (.iconst 3, 516, 0, 0, [(3, 0)], 0)),
  (516, (.iadd, 517, 0, 0, [], 0)),
  (517, (.iaload, 518, 0, 0, [], 0)),
  (518, (.invokevirtual 60, 521, 87, 4, [], 0)),
  (521, (.aload_n 2, 522, 2, 0, [], 0)),
  (522, (.aload_n 0, 523, 0, 0, [], 0)),
  (523, (.iload_n 3, 524, 3, 0, [], 0)),
  (524, (.iconst 1, 525, 0, 0, [(1, 0)], 0)),
  (525, (.iadd, 526, 0, 0, [], 0)),
  (526, (.iaload, 527, 0, 0, [], 0)),
  (527, (.aload_n 0, 528, 0, 0, [], 0)),
  (528, (.iload_n 3, 529, 3, 0, [], 0)),
  (529, (.iconst 2, 530, 0, 0, [(2, 0)], 0))]
def cp_law_6 : List (List Nat) := [[], [], [], [], [], [], [], [], [415, 417], [], [], [], [], [], [], [], [], [], [], [], [915, 917], [], [], [], [], [], [], [], [], [], [], [], [], [], [], [], [], [], [], [], [420, 422], [], [], [], [], [], [], [], [], []]
def cd_law_7 : mm_C := [(530, (.iadd, 531, 0, 0, [], 0)),
  (531, (.iaload, 532, 0, 0, [], 0)),
  (532, (.aload_n 0, 533, 0, 0, [], 0)),
  (533, (.iload_n 3, 534, 3, 0, [], 0)),
  (534, (.iconst 3, 535, 0, 0, [(3, 0)], 0)),
  (535, (.iadd, 536, 0, 0, [], 0)),
  (536, (.iaload, 537, 0, 0, [], 0)),
  (537, (.invokevirtual 64, 540, 140, 4, [], 0)),
  (540, (.if_icmp .eq 590, 543, 1130, 0, [], 0)),
  (543, (.iconst 0, 544, 0, 0, [(0, 0)], 0)),
  (544, (.ireturn, 545, 1, 0, [], 0)),
  (545, (.aload_n 1, 546, 1, 0, [], 0)),
  (546, (.aload_n 0, 547, 0, 0, [], 0)),
  (547, (.iload_n 3, 548, 3, 0, [], 0)),
  (548, (.iconst 1, 549, 0, 0, [(1, 0)], 0)),
  (549, (.iadd, 550, 0, 0, [], 0)),
  (550, (.iaload, 551, 0, 0, [], 0)),
  (551, (.aload_n 0, 552, 0, 0, [], 0)),
  (552, (.iload_n 3, 553, 3, 0, [], 0)),
  (553, (.iconst 2, 554, 0, 0, [(2, 0)], 0)),
  (554, (.iadd, 555, 0, 0, [], 0)),
  (555, (.iaload, 556, 0, 0, [], 0)),
  (556, (.invokevirtual 65, 559, 88, 3, [], 0)),
  (559, (.aload_n 2, 560, 2, 0, [], 0)),
  (560, (.aload_n 0, 561, 0, 0, [], 0)),
  (561, (.iload_n 3, 562, 3, 0, [], 0)),
  (562, (.iconst 1, 563, 0, 0, [(1, 0)], 0)),
  (563, (.iadd, 564, 0, 0, [], 0)),
  (564, (.iaload, 565, 0, 0, [], 0)),
  (565, (.aload_n 0, 566, 0, 0, [], 0)),
  (566, (.iload_n 3, 567, 3, 0, [], 0)),
  (567, (.iconst 2, 568, 0, 0, [(2, 0)], 0)),
  (568, (.iadd, 569, 0, 0, [], 0)),
  (569, (.iaload, 570, 0, 0, [], 0)),
  (570, (.invokevirtual 68, 573, 142, 3, [], 0)),
  (573, (.if_icmp .eq 557, 576, 1130, 0, [], 0)),
  (576, (.iconst 0, 577, 0, 0, [(0, 0)], 0)),
  (577, (.ireturn, 578, 1, 0, [], 0)),
  (578, (.aload_n 1, 579, 1, 0, [], 0)),
  (579, (.aload_n 0, 580, 0, 0, [], 0)),
  (580, (.iload_n 3, 581, 3, 0, [], 0)),
  (581, (.iconst 1, 582, 0, 0, [(1, 0)], 0)),
  (582, (.iadd, 583, 0, 0, [], 0)),
  (583, (.iaload, 584, 0, 0, [], 0)),
  (584, (.aload_n 0, 585, 0, 0, [], 0)),
  (585, (.iload_n 3, 586, 3, 0, [], 0)),
  (586, (.iconst 2, 587, 0, 0, [(2, 0)], 0)),
  (587, (.iadd, 588, 0, 0, [], 0)),
  (588, (.iaload, 589, 0, 0, [], 0)),
  (589, (.invokevirtual 69, 592, 89, 3, [], 0))]
def cp_law_7 : List (List Nat) := [[], [], [], [], [], [], [], [919, 921], [], [], [], [], [], [], [], [], [], [], [], [], [], [], [437, 439], [], [], [], [], [], [], [], [], [], [], [], [927, 929], [], [], [], [], [], [], [], [], [], [], [], [], [], [], [446, 448]]
def cd_law_8 : mm_C := [(592, (.aload_n 2, 593, 2, 0, [], 0)),
  (593, (.aload_n 0, 594, 0, 0, [], 0)),
  (594, (.iload_n 3, 595, 3, 0, [], 0)),
  (595, (.iconst 1, 596, 0, 0, [(1, 0)], 0)),
  (596, (.iadd, 597, 0, 0, [], 0)),
  (597, (.iaload, 598, 0, 0, [], 0)),
  (598, (.aload_n 0, 599, 0, 0, [], 0)),
  (599, (.iload_n 3, 600, 3, 0, [], 0)),
  (600, (.iconst 2, 601, 0, 0, [(2, 0)], 0)),
  (601, (.iadd, 602, 0, 0, [], 0)),
  (602, (.iaload, 603, 0, 0, [], 0)),
  (603, (.invokevirtual 72, 606, 143, 3, [], 0)),
  (606, (.if_icmp .eq 524, 609, 1130, 0, [], 0)),
  (609, (.iconst 0, 610, 0, 0, [(0, 0)], 0)),
  (610, (.ireturn, 611, 1, 0, [], 0)),
  (611, (.aload_n 1, 612, 1, 0, [], 0)),
  (612, (.aload_n 0, 613, 0, 0, [], 0)),
  (613, (.iload_n 3, 614, 3, 0, [], 0)),
  (614, (.iconst 1, 615, 0, 0, [(1, 0)], 0)),
  (615, (.iadd, 616, 0, 0, [], 0)),
  (616, (.iaload, 617, 0, 0, [], 0)),
  (617, (.aload_n 0, 618, 0, 0, [], 0)),
  (618, (.iload_n 3, 619, 3, 0, [], 0)),
  (619, (.iconst 2, 620, 0, 0, [(2, 0)], 0)),
  (620, (.iadd, 621, 0, 0, [], 0)),
  (621, (.iaload, 622, 0, 0, [], 0)),
  (622, (.invokevirtual 73, 625, 91, 3, [], 0)),
  (625, (.aload_n 2, 626, 2, 0, [], 0)),
  (626, (.aload_n 0, 627, 0, 0, [], 0)),
  (627, (.iload_n 3, 628, 3, 0, [], 0)),
  (628, (.iconst 1, 629, 0, 0, [(1, 0)], 0)),
  (629, (.iadd, 630, 0, 0, [], 0)),
  (630, (.iaload, 631, 0, 0, [], 0)),
  (631, (.aload_n 0, 632, 0, 0, [], 0)),
  (632, (.iload_n 3, 633, 3, 0, [], 0)),
  (633, (.iconst 2, 634, 0, 0, [(2, 0)], 0)),
  (634, (.iadd, 635, 0, 0, [], 0)),
  (635, (.iaload, 636, 0, 0, [], 0)),
  (636, (.invokevirtual 76, 639, 144, 3, [], 0)),
  (639, (.if_icmp .eq 491, 642, 1130, 0, [], 0)),
  (642, (.iconst 0, 643, 0, 0, [(0, 0)], 0)),
  (643, (.ireturn, 644, 1, 0, [], 0)),
  (644, (.aload_n 1, 645, 1, 0, [], 0)),
  (645, (.aload_n 0, 646, 0, 0, [], 0)),
  (646, (.iload_n 3, 647, 3, 0, [], 0)),
  (647, (.iconst 1, 648, 0, 0, [(1, 0)], 0)),
  (648, (.iadd, 649, 0, 0, [], 0)),
  (649, (.iaload, 650, 0, 0, [], 0)),
  (650, (.aload_n 0, 651, 0, 0, [], 0)),
  (651, (.iload_n 3, 652, 3, 0, [], 0))]
def cp_law_8 : List (List Nat) := [[], [], [], [], [], [], [], [], [], [], [], [931, 933], [], [], [], [], [], [], [], [], [], [], [], [], [], [], [453, 455], [], [], [], [], [], [], [], [], [], [], [], [935, 937], [], [], [], [], [], [], [], [], [], [], []]
def cd_law_9 : mm_C := [(652, (.iconst 2, 653, 0, 0, [(2, 0)], 0)),
  (653, (.iadd, 654, 0, 0, [], 0)),
  (654, (.iaload, 655, 0, 0, [], 0)),
  (655, (.invokevirtual 77, 658, 92, 3, [], 0)),
  (658, (.aload_n 2, 659, 2, 0, [], 0)),
  (659, (.aload_n 0, 660, 0, 0, [], 0)),
  (660, (.iload_n 3, 661, 3, 0, [], 0)),
  (661, (.iconst 1, 662, 0, 0, [(1, 0)], 0)),
  (662, (.iadd, 663, 0, 0, [], 0)),
  (663, (.iaload, 664, 0, 0, [], 0)),
  (664, (.aload_n 0, 665, 0, 0, [], 0)),
  (665, (.iload_n 3, 666, 3, 0, [], 0)),
  (666, (.iconst 2, 667, 0, 0, [(2, 0)], 0)),
  (667, (.iadd, 668, 0, 0, [], 0)),
  (668, (.iaload, 669, 0, 0, [], 0)),
  (669, (.invokevirtual 81, 672, 145, 3, [], 0)),
  (672, (.lcmp, 673, 0, 0, [], 0)),
  (673, (.ifCond .eq 457, 676, 1130, 0, [], 0)),
  (676, (.iconst 0, 677, 0, 0, [(0, 0)], 0)),
  (677, (.ireturn, 678, 1, 0, [], 0)),
  (678, (.aload_n 1, 679, 1, 0, [], 0)),
  (679, (.aload_n 0, 680, 0, 0, [], 0)),
  (680, (.iload_n 3, 681, 3, 0, [], 0)),
  (681, (.iconst 1, 682, 0, 0, [(1, 0)], 0)),
  (682, (.iadd, 683, 0, 0, [], 0)),
  (683, (.iaload, 684, 0, 0, [], 0)),
  (684, (.aload_n 0, 685, 0, 0, [], 0)),
  (685, (.iload_n 3, 686, 3, 0, [], 0)),
  (686, (.iconst 2, 687, 0, 0, [(2, 0)], 0)),
  (687, (.iadd, 688, 0, 0, [], 0)),
  (688, (.iaload, 689, 0, 0, [], 0)),
  (689, (.aload_n 0, 690, 0, 0, [], 0)),
  (690, (.iload_n 3, 691, 3, 0, [], 0)),
  (691, (.iconst 3, 692, 0, 0, [(3, 0)], 0)),
  (692, (.iadd, 693, 0, 0, [], 0)),
  (693, (.iaload, 694, 0, 0, [], 0)),
  (694, (.invokevirtual 82, 697, 93, 4, [], 0)),
  (697, (.aload_n 2, 698, 2, 0, [], 0)),
  (698, (.aload_n 0, 699, 0, 0, [], 0)),
  (699, (.iload_n 3, 700, 3, 0, [], 0)),
  (700, (.iconst 1, 701, 0, 0, [(1, 0)], 0)),
  (701, (.iadd, 702, 0, 0, [], 0)),
  (702, (.iaload, 703, 0, 0, [], 0)),
  (703, (.aload_n 0, 704, 0, 0, [], 0)),
  (704, (.iload_n 3, 705, 3, 0, [], 0)),
  (705, (.iconst 2, 706, 0, 0, [(2, 0)], 0)),
  (706, (.iadd, 707, 0, 0, [], 0)),
  (707, (.iaload, 708, 0, 0, [], 0)),
  (708, (.aload_n 0, 709, 0, 0, [], 0)),
  (709, (.iload_n 3, 710, 3, 0, [], 0))]
def cp_law_9 : List (List Nat) := [[], [], [], [457, 459], [], [], [], [], [], [], [], [], [], [], [], [939, 941], [], [], [], [], [], [], [], [], [], [], [], [], [], [], [], [], [], [], [], [], [472, 474], [], [], [], [], [], [], [], [], [], [], [], [], []]
def cd_law_10 : mm_C := [(710, (.iconst 3, 711, 0, 0, [(3, 0)], 0)),
  (711, (.iadd, 712, 0, 0, [], 0)),
  (712, (.iaload, 713, 0, 0, [], 0)),
  (713, (.invokevirtual 86, 716, 147, 4, [], 0)),
  (716, (.lcmp, 717, 0, 0, [], 0)),
  (717, (.ifCond .eq 413, 720, 1130, 0, [], 0)),
  (720, (.iconst 0, 721, 0, 0, [(0, 0)], 0)),
  (721, (.ireturn, 722, 1, 0, [], 0)),
  (722, (.aload_n 1, 723, 1, 0, [], 0)),
  (723, (.aload_n 0, 724, 0, 0, [], 0)),
  (724, (.iload_n 3, 725, 3, 0, [], 0)),
  (725, (.iconst 1, 726, 0, 0, [(1, 0)], 0)),
  (726, (.iadd, 727, 0, 0, [], 0)),
  (727, (.iaload, 728, 0, 0, [], 0)),
  (728, (.invokevirtual 87, 731, 94, 2, [], 0)),
  (731, (.aload_n 2, 732, 2, 0, [], 0)),
  (732, (.aload_n 0, 733, 0, 0, [], 0)),
  (733, (.iload_n 3, 734, 3, 0, [], 0)),
  (734, (.iconst 1, 735, 0, 0, [(1, 0)], 0)),
  (735, (.iadd, 736, 0, 0, [], 0)),
  (736, (.iaload, 737, 0, 0, [], 0)),
  (737, (.invokevirtual 90, 740, 149, 2, [], 0)),
  (740, (.if_icmp .eq 390, 743, 1130, 0, [], 0)),
  (743, (.iconst 0, 744, 0, 0, [(0, 0)], 0)),
  (744, (.ireturn, 745, 1, 0, [], 0)),
  (745, (.aload_n 1, 746, 1, 0, [], 0)),
  (746, (.aload_n 0, 747, 0, 0, [], 0)),
  (747, (.iload_n 3, 748, 3, 0, [], 0)),
  (748, (.iconst 1, 749, 0, 0, [(1, 0)], 0)),
  (749, (.iadd, 750, 0, 0, [], 0)),
  (750, (.iaload, 751, 0, 0, [], 0)),
  (751, (.invokevirtual 91, 754, 95, 2, [], 0)),
  (754, (.aload_n 2, 755, 2, 0, [], 0)),
  (755, (.aload_n 0, 756, 0, 0, [], 0)),
  (756, (.iload_n 3, 757, 3, 0, [], 0)),
  (757, (.iconst 1, 758, 0, 0, [(1, 0)], 0)),
  (758, (.iadd, 759, 0, 0, [], 0)),
  (759, (.iaload, 760, 0, 0, [], 0)),
  (760, (.invokevirtual 94, 763, 150, 2, [], 0)),
  (763, (.if_icmp .eq 367, 766, 1130, 0, [], 0)),
  (766, (.iconst 0, 767, 0, 0, [(0, 0)], 0)),
  (767, (.ireturn, 768, 1, 0, [], 0)),
  (768, (.aload_n 1, 769, 1, 0, [], 0)),
  (769, (.aload_n 0, 770, 0, 0, [], 0)),
  (770, (.iload_n 3, 771, 3, 0, [], 0)),
  (771, (.iconst 1, 772, 0, 0, [(1, 0)], 0)),
  (772, (.iadd, 773, 0, 0, [], 0)),
  (773, (.iaload, 774, 0, 0, [], 0)),
  (774, (.aload_n 0, 775, 0, 0, [], 0)),
  (775, (.iload_n 3, 776, 3, 0, [], 0))]
def cp_law_10 : List (List Nat) := [[], [], [], [948, 950], [], [], [], [], [], [], [], [], [], [], [492, 494], [], [], [], [], [], [], [955, 957], [], [], [], [], [], [], [], [], [], [501, 503], [], [], [], [], [], [], [959, 961], [], [], [], [], [], [], [], [], [], [], []]
def cd_law_11 : mm_C := [(776, (.iconst 2, 777, 0, 0, [(2, 0)], 0)),
  (777, (.iadd, 778, 0, 0, [], 0)),
  (778, (.iaload, 779, 0, 0, [], 0)),
  (779, (.invokevirtual 95, 782, 97, 3, [], 0)),
  (782, (.aload_n 2, 783, 2, 0, [], 0)),
  (783, (.aload_n 0, 784, 0, 0, [], 0)),
  (784, (.iload_n 3, 785, 3, 0, [], 0)),
  (785, (.iconst 1, 786, 0, 0, [(1, 0)], 0)),
  (786, (.iadd, 787, 0, 0, [], 0)),
  (787, (.iaload, 788, 0, 0, [], 0)),
  (788, (.aload_n 0, 789, 0, 0, [], 0)),
  (789, (.iload_n 3, 790, 3, 0, [], 0)),
  (790, (.iconst 2, 791, 0, 0, [(2, 0)], 0)),
  (791, (.iadd, 792, 0, 0, [], 0)),
  (792, (.iaload, 793, 0, 0, [], 0)),
  (793, (.invokevirtual 98, 796, 155, 3, [], 0)),
  (796, (.if_icmp .eq 334, 799, 1130, 0, [], 0)),
  (799, (.iconst 0, 800, 0, 0, [(0, 0)], 0)),
  (800, (.ireturn, 801, 1, 0, [], 0)),
  (801, (.aload_n 1, 802, 1, 0, [], 0)),
  (802, (.aload_n 0, 803, 0, 0, [], 0)),
  (803, (.iload_n 3, 804, 3, 0, [], 0)),
  (804, (.iconst 1, 805, 0, 0, [(1, 0)], 0)),
  (805, (.iadd, 806, 0, 0, [], 0)),
  (806, (.iaload, 807, 0, 0, [], 0)),
  (807, (.aload_n 0, 808, 0, 0, [], 0)),
  (808, (.iload_n 3, 809, 3, 0, [], 0)),
  (809, (.iconst 2, 810, 0, 0, [(2, 0)], 0)),
  (810, (.iadd, 811, 0, 0, [], 0)),
  (811, (.iaload, 812, 0, 0, [], 0)),
  (812, (.invokevirtual 99, 815, 98, 3, [], 0)),
  (815, (.aload_n 2, 816, 2, 0, [], 0)),
  (816, (.aload_n 0, 817, 0, 0, [], 0)),
  (817, (.iload_n 3, 818, 3, 0, [], 0)),
  (818, (.iconst 1, 819, 0, 0, [(1, 0)], 0)),
  (819, (.iadd, 820, 0, 0, [], 0)),
  (820, (.iaload, 821, 0, 0, [], 0)),
  (821, (.aload_n 0, 822, 0, 0, [], 0)),
  (822, (.iload_n 3, 823, 3, 0, [], 0)),
  (823, (.iconst 2, 824, 0, 0, [(2, 0)], 0)),
  (824, (.iadd, 825, 0, 0, [], 0)),
  (825, (.iaload, 826, 0, 0, [], 0)),
  (826, (.invokevirtual 102, 829, 159, 3, [], 0)),
  (829, (.if_icmp .eq 301, 832, 1130, 0, [], 0)),
  (832, (.iconst 0, 833, 0, 0, [(0, 0)], 0)),
  (833, (.ireturn, 834, 1, 0, [], 0)),
  (834, (.aload_n 1, 835, 1, 0, [], 0)),
  (835, (.aload_n 0, 836, 0, 0, [], 0)),
  (836, (.iload_n 3, 837, 3, 0, [], 0)),
  (837, (.iconst 1, 838, 0, 0, [(1, 0)], 0))]
def cp_law_11 : List (List Nat) := [[], [], [], [529, 531], [], [], [], [], [], [], [], [], [], [], [], [979, 981], [], [], [], [], [], [], [], [], [], [], [], [], [], [], [541, 543], [], [], [], [], [], [], [], [], [], [], [], [995, 997], [], [], [], [], [], [], []]
def cd_law_12 : mm_C := [(838, (.iadd, 839, 0, 0, [], 0)),
  (839, (.iaload, 840, 0, 0, [], 0)),
  (840, (.aload_n 0, 841, 0, 0, [], 0)),
  (841, (.iload_n 3, 842, 3, 0, [], 0)),
  (842, (.iconst 2, 843, 0, 0, [(2, 0)], 0)),
  (843, (.iadd, 844, 0, 0, [], 0)),
  (844, (.iaload, 845, 0, 0, [], 0)),
  (845, (.invokevirtual 103, 848, 99, 3, [], 0)),
  (848, (.aload_n 2, 849, 2, 0, [], 0)),
  (849, (.aload_n 0, 850, 0, 0, [], 0)),
  (850, (.iload_n 3, 851, 3, 0, [], 0)),
  (851, (.iconst 1, 852, 0, 0, [(1, 0)], 0)),
  (852, (.iadd, 853, 0, 0, [], 0)),
  (853, (.iaload, 854, 0, 0, [], 0)),
  (854, (.aload_n 0, 855, 0, 0, [], 0)),
  (855, (.iload_n 3, 856, 3, 0, [], 0)),
  (856, (.iconst 2, 857, 0, 0, [(2, 0)], 0)),
  (857, (.iadd, 858, 0, 0, [], 0)),
  (858, (.iaload, 859, 0, 0, [], 0)),
  (859, (.invokevirtual 106, 862, 160, 3, [], 0)),
  (862, (.if_icmp .eq 268, 865, 1130, 0, [], 0)),
  (865, (.iconst 0, 866, 0, 0, [(0, 0)], 0)),
  (866, (.ireturn, 867, 1, 0, [], 0)),
  (867, (.aload_n 1, 868, 1, 0, [], 0)),
  (868, (.aload_n 0, 869, 0, 0, [], 0)),
  (869, (.iload_n 3, 870, 3, 0, [], 0)),
  (870, (.iconst 1, 871, 0, 0, [(1, 0)], 0)),
  (871, (.iadd, 872, 0, 0, [], 0)),
  (872, (.iaload, 873, 0, 0, [], 0)),
  (873, (.aload_n 0, 874, 0, 0, [], 0)),
  (874, (.iload_n 3, 875, 3, 0, [], 0)),
  (875, (.iconst 2, 876, 0, 0, [(2, 0)], 0)),
  (876, (.iadd, 877, 0, 0, [], 0)),
  (877, (.iaload, 878, 0, 0, [], 0)),
  (878, (.invokevirtual 107, 881, 100, 3, [], 0)),
  (881, (.aload_n 2, 882, 2, 0, [], 0)),
  (882, (.aload_n 0, 883, 0, 0, [], 0)),
  (883, (.iload_n 3, 884, 3, 0, [], 0)),
  (884, (.iconst 1, 885, 0, 0, [(1, 0)], 0)),
  (885, (.iadd, 886, 0, 0, [], 0)),
  (886, (.iaload, 887, 0, 0, [], 0)),
  (887, (.aload_n 0, 888, 0, 0, [], 0)),
  (888, (.iload_n 3, 889, 3, 0, [], 0)),
  (889, (.iconst 2, 890, 0, 0, [(2, 0)], 0)),
  (890, (.iadd, 891, 0, 0, [], 0)),
  (891, (.iaload, 892, 0, 0, [], 0)),
  (892, (.invokevirtual 110, 895, 161, 3, [], 0)),
  (895, (.if_icmp .eq 235, 898, 1130, 0, [], 0)),
  (898, (.iconst 0, 899, 0, 0, [(0, 0)], 0)),
  (899, (.ireturn, 900, 1, 0, [], 0))]
def cp_law_12 : List (List Nat) := [[], [], [], [], [], [], [], [557, 559], [], [], [], [], [], [], [], [], [], [], [], [999, 1001], [], [], [], [], [], [], [], [], [], [], [], [], [], [], [561, 563], [], [], [], [], [], [], [], [], [], [], [], [1003, 1005], [], [], []]
def cd_law_13 : mm_C := [(900, (.aload_n 1, 901, 1, 0, [], 0)),
  (901, (.invokevirtual 111, 904, 103, 1, [], 0)),
  (904, (.aload_n 2, 905, 2, 0, [], 0)),
  (905, (.invokevirtual 114, 908, 162, 1, [], 0)),
  (908, (.if_icmp .eq 222, 911, 1130, 0, [], 0)),
  (911, (.iconst 0, 912, 0, 0, [(0, 0)], 0)),
  (912, (.ireturn, 913, 1, 0, [], 0)),
  (913, (.aload_n 1, 914, 1, 0, [], 0)),
  (914, (.aload_n 0, 915, 0, 0, [], 0)),
  (915, (.iload_n 3, 916, 3, 0, [], 0)),
  (916, (.iconst 1, 917, 0, 0, [(1, 0)], 0)),
  (917, (.iadd, 918, 0, 0, [], 0)),
  (918, (.iaload, 919, 0, 0, [], 0)),
  (919, (.invokevirtual 115, 922, 104, 2, [], 0)),
  (922, (.aload_n 2, 923, 2, 0, [], 0)),
  (923, (.aload_n 0, 924, 0, 0, [], 0)),
  (924, (.iload_n 3, 925, 3, 0, [], 0)),
  (925, (.iconst 1, 926, 0, 0, [(1, 0)], 0)),
  (926, (.iadd, 927, 0, 0, [], 0)),
  (927, (.iaload, 928, 0, 0, [], 0)),
  (928, (.invokevirtual 118, 931, 165, 2, [], 0)),
  (931, (.if_icmp .eq 199, 934, 1130, 0, [], 0)),
  (934, (.iconst 0, 935, 0, 0, [(0, 0)], 0)),
  (935, (.ireturn, 936, 1, 0, [], 0)),
  (936, (.aload_n 1, 937, 1, 0, [], 0)),
  (937, (.aload_n 0, 938, 0, 0, [], 0)),
  (938, (.iload_n 3, 939, 3, 0, [], 0)),
  (939, (.iconst 1, 940, 0, 0, [(1, 0)], 0)),
  (940, (.iadd, 941, 0, 0, [], 0)),
  (941, (.iaload, 942, 0, 0, [], 0)),
  (942, (.invokevirtual 119, 945, 105, 2, [], 0)),
  (945, (.aload_n 2, 946, 2, 0, [], 0)),
  (946, (.aload_n 0, 947, 0, 0, [], 0)),
  (947, (.iload_n 3, 948, 3, 0, [], 0)),
  (948, (.iconst 1, 949, 0, 0, [(1, 0)], 0)),
  (949, (.iadd, 950, 0, 0, [], 0)),
  (950, (.iaload, 951, 0, 0, [], 0)),
  (951, (.invokevirtual 122, 954, 166, 2, [], 0)),
  (954, (.if_icmp .eq 176, 957, 1130, 0, [], 0)),
  (957, (.iconst 0, 958, 0, 0, [(0, 0)], 0)),
  (958, (.ireturn, 959, 1, 0, [], 0)),
  (959, (.aload_n 1, 960, 1, 0, [], 0)),
  (960, (.aload_n 0, 961, 0, 0, [], 0)),
  (961, (.iload_n 3, 962, 3, 0, [], 0)),
  (962, (.iconst 1, 963, 0, 0, [(1, 0)], 0)),
  (963, (.iadd, 964, 0, 0, [], 0)),
  (964, (.iaload, 965, 0, 0, [], 0)),
  (965, (.aload_n 0, 966, 0, 0, [], 0)),
  (966, (.iload_n 3, 967, 3, 0, [], 0)),
  (967, (.iconst 2, 968, 0, 0, [(2, 0)], 0))]
def cp_law_13 : List (List Nat) := [[], [575, 577], [], [1007, 1009], [], [], [], [], [], [], [], [], [], [598, 600], [], [], [], [], [], [], [1021, 1023], [], [], [], [], [], [], [], [], [], [620, 622], [], [], [], [], [], [], [1025, 1027], [], [], [], [], [], [], [], [], [], [], [], []]
def cd_law_14 : mm_C := [(968, (.iadd, 969, 0, 0, [], 0)),
  (969, (.iaload, 970, 0, 0, [], 0)),
  (970, (.aload_n 0, 971, 0, 0, [], 0)),
  (971, (.iload_n 3, 972, 3, 0, [], 0)),
  (972, (.iconst 3, 973, 0, 0, [(3, 0)], 0)),
  (973, (.iadd, 974, 0, 0, [], 0)),
  (974, (.iaload, 975, 0, 0, [], 0)),
  (975, (.invokevirtual 123, 978, 106, 4, [], 0)),
  (978, (.aload_n 2, 979, 2, 0, [], 0)),
  (979, (.aload_n 0, 980, 0, 0, [], 0)),
  (980, (.iload_n 3, 981, 3, 0, [], 0)),
  (981, (.iconst 1, 982, 0, 0, [(1, 0)], 0)),
  (982, (.iadd, 983, 0, 0, [], 0)),
  (983, (.iaload, 984, 0, 0, [], 0)),
  (984, (.aload_n 0, 985, 0, 0, [], 0)),
  (985, (.iload_n 3, 986, 3, 0, [], 0)),
  (986, (.iconst 2, 987, 0, 0, [(2, 0)], 0)),
  (987, (.iadd, 988, 0, 0, [], 0)),
  (988, (.iaload, 989, 0, 0, [], 0)),
  (989, (.aload_n 0, 990, 0, 0, [], 0)),
  (990, (.iload_n 3, 991, 3, 0, [], 0)),
  (991, (.iconst 3, 992, 0, 0, [(3, 0)], 0)),
  (992, (.iadd, 993, 0, 0, [], 0)),
  (993, (.iaload, 994, 0, 0, [], 0)),
  (994, (.invokevirtual 126, 997, 171, 4, [], 0)),
  (997, (.if_icmp .eq 133, 1000, 1130, 0, [], 0)),
  (1000, (.iconst 0, 1001, 0, 0, [(0, 0)], 0)),
  (1001, (.ireturn, 1002, 1, 0, [], 0)),
  (1002, (.aload_n 1, 1003, 1, 0, [], 0)),
  (1003, (.invokevirtual 127, 1006, 107, 1, [], 0)),
  (1006, (.aload_n 2, 1007, 2, 0, [], 0)),
  (1007, (.invokevirtual 130, 1010, 173, 1, [], 0)),
  (1010, (.if_icmp .eq 120, 1013, 1130, 0, [], 0)),
  (1013, (.iconst 0, 1014, 0, 0, [(0, 0)], 0)),
  (1014, (.ireturn, 1015, 1, 0, [], 0)),
  (1015, (.aload_n 1, 1016, 1, 0, [], 0)),
  (1016, (.aload_n 0, 1017, 0, 0, [], 0)),
  (1017, (.iload_n 3, 1018, 3, 0, [], 0)),
  (1018, (.iconst 1, 1019, 0, 0, [(1, 0)], 0)),
  (1019, (.iadd, 1020, 0, 0, [], 0)),
  (1020, (.iaload, 1021, 0, 0, [], 0)),
  (1021, (.aload_n 0, 1022, 0, 0, [], 0)),
  (1022, (.iload_n 3, 1023, 3, 0, [], 0)),
  (1023, (.iconst 2, 1024, 0, 0, [(2, 0)], 0)),
  (1024, (.iadd, 1025, 0, 0, [], 0)),
  (1025, (.iaload, 1026, 0, 0, [], 0)),
  (1026, (.invokevirtual 131, 1029, 108, 3, [], 0)),
  (1029, (.aload_n 2, 1030, 2, 0, [], 0)),
  (1030, (.aload_n 0, 1031, 0, 0, [], 0)),
  (1031, (.iload_n 3, 1032, 3, 0, [], 0))]
def cp_law_14 : List (List Nat) := [[], [], [], [], [], [], [], [652, 654], [], [], [], [], [], [], [], [], [], [], [], [], [], [], [], [], [1045, 1047], [], [], [], [], [661, 663], [], [1053, 1055], [], [], [], [], [], [], [], [], [], [], [], [], [], [], [669, 671], [], [], []]
def cd_law_15 : mm_C := [(1032, (.iconst 1, 1033, 0, 0, [(1, 0)], 0)),
  (1033, (.iadd, 1034, 0, 0, [], 0)),
  (1034, (.iaload, 1035, 0, 0, [], 0)),
  (1035, (.aload_n 0, 1036, 0, 0, [], 0)),
  (1036, (.iload_n 3, 1037, 3, 0, [], 0)),
  (1037, (.iconst 2, 1038, 0, 0, [(2, 0)], 0)),
  (1038, (.iadd, 1039, 0, 0, [], 0)),
  (1039, (.iaload, 1040, 0, 0, [], 0)),
  (1040, (.invokevirtual 134, 1043, 175, 3, [], 0)),
  (1043, (.if_icmp .eq 87, 1046, 1130, 0, [], 0)),
  (1046, (.iconst 0, 1047, 0, 0, [(0, 0)], 0)),
  (1047, (.ireturn, 1048, 1, 0, [], 0)),
  (1048, (.aload_n 1, 1049, 1, 0, [], 0)),
  (1049, (.aload_n 0, 1050, 0, 0, [], 0)),
  (1050, (.iload_n 3, 1051, 3, 0, [], 0)),
  (1051, (.iconst 1, 1052, 0, 0, [(1, 0)], 0)),
  (1052, (.iadd, 1053, 0, 0, [], 0)),
  (1053, (.iaload, 1054, 0, 0, [], 0)),
  (1054, (.aload_n 0, 1055, 0, 0, [], 0)),
  (1055, (.iload_n 3, 1056, 3, 0, [], 0)),
  (1056, (.iconst 2, 1057, 0, 0, [(2, 0)], 0)),
  (1057, (.iadd, 1058, 0, 0, [], 0)),
  (1058, (.iaload, 1059, 0, 0, [], 0)),
  (1059, (.invokevirtual 135, 1062, 109, 3, [], 0)),
  (1062, (.aload_n 2, 1063, 2, 0, [], 0)),
  (1063, (.aload_n 0, 1064, 0, 0, [], 0)),
  (1064, (.iload_n 3, 1065, 3, 0, [], 0)),
  (1065, (.iconst 1, 1066, 0, 0, [(1, 0)], 0)),
  (1066, (.iadd, 1067, 0, 0, [], 0)),
  (1067, (.iaload, 1068, 0, 0, [], 0)),
  (1068, (.aload_n 0, 1069, 0, 0, [], 0)),
  (1069, (.iload_n 3, 1070, 3, 0, [], 0)),
  (1070, (.iconst 2, 1071, 0, 0, [(2, 0)], 0)),
  (1071, (.iadd, 1072, 0, 0, [], 0)),
  (1072, (.iaload, 1073, 0, 0, [], 0)),
  (1073, (.invokevirtual 138, 1076, 176, 3, [], 0)),
  (1076, (.if_icmp .eq 54, 1079, 1130, 0, [], 0)),
  (1079, (.iconst 0, 1080, 0, 0, [(0, 0)], 0)),
  (1080, (.ireturn, 1081, 1, 0, [], 0)),
  (1081, (.aload_n 1, 1082, 1, 0, [], 0)),
  (1082, (.invokevirtual 139, 1085, 110, 1, [], 0)),
  (1085, (.aload_n 2, 1086, 2, 0, [], 0)),
  (1086, (.invokevirtual 142, 1089, 177, 1, [], 0)),
  (1089, (.if_icmp .eq 41, 1092, 1130, 0, [], 0)),
  (1092, (.iconst 0, 1093, 0, 0, [(0, 0)], 0)),
  (1093, (.ireturn, 1094, 1, 0, [], 0)),
  (1094, (.aload_n 1, 1095, 1, 0, [], 0)),
  (1095, (.invokevirtual 143, 1098, 111, 1, [], 0)),
  (1098, (.aload_n 2, 1099, 2, 0, [], 0)),
  (1099, (.invokevirtual 146, 1102, 180, 1, [], 0))]
def cp_law_15 : List (List Nat) := [[], [], [], [], [], [], [], [], [1061, 1063], [], [], [], [], [], [], [], [], [], [], [], [], [], [], [673, 675], [], [], [], [], [], [], [], [], [], [], [], [1065, 1067], [], [], [], [], [677, 679], [], [1069, 1071], [], [], [], [], [688, 690], [], [1081, 1083]]
def cd_law_16 : mm_C := [(1102, (.if_icmp .eq 28, 1105, 1130, 0, [], 0)),
  (1105, (.iconst 0, 1106, 0, 0, [(0, 0)], 0)),
  (1106, (.ireturn, 1107, 1, 0, [], 0)),
  (1107, (.aload_n 1, 1108, 1, 0, [], 0)),
  (1108, (.aload_n 0, 1109, 0, 0, [], 0)),
  (1109, (.iload_n 3, 1110, 3, 0, [], 0)),
  (1110, (.iconst 1, 1111, 0, 0, [(1, 0)], 0)),
  (1111, (.iadd, 1112, 0, 0, [], 0)),
  (1112, (.iaload, 1113, 0, 0, [], 0)),
  (1113, (.invokevirtual 147, 1116, 112, 2, [], 0)),
  (1116, (.aload_n 2, 1117, 2, 0, [], 0)),
  (1117, (.aload_n 0, 1118, 0, 0, [], 0)),
  (1118, (.iload_n 3, 1119, 3, 0, [], 0)),
  (1119, (.iconst 1, 1120, 0, 0, [(1, 0)], 0)),
  (1120, (.iadd, 1121, 0, 0, [], 0)),
  (1121, (.iaload, 1122, 0, 0, [], 0)),
  (1122, (.invokevirtual 150, 1125, 181, 2, [], 0)),
  (1125, (.if_icmp .eq 5, 1128, 1130, 0, [], 0)),
  (1128, (.iconst 0, 1129, 0, 0, [(0, 0)], 0)),
  (1129, (.ireturn, 1130, 1, 0, [], 0)),
  (1130, (.iinc 3 4, 1133, 3, 0, [(4, 0)], 0)),
  (1133, (.goto (-1115), 1136, 18, 0, [], 0)),
  (1136, (.iconst 1, 1137, 0, 0, [(1, 0)], 0)),
  (1137, (.ireturn, 1138, 1, 0, [], 0))]
def cp_law_16 : List (List Nat) := [[], [], [], [], [], [], [], [], [], [692, 694], [], [], [], [], [], [], [1085, 1087], [], [], [], [], [], [], []]
def cd_law : mm_C := cd_law_1 ++ (cd_law_2 ++ (cd_law_3 ++ (cd_law_4 ++ (cd_law_5 ++ (cd_law_6 ++ (cd_law_7 ++ (cd_law_8 ++ (cd_law_9 ++ (cd_law_10 ++ (cd_law_11 ++ (cd_law_12 ++ (cd_law_13 ++ (cd_law_14 ++ (cd_law_15 ++ (cd_law_16)))))))))))))))
end
section
/-! the table of methods -/
def mm_Tl : List (mm_N × mm_C) := [(((⟨"WhichWord$Chooser", "<init>", "(LWhichWord$Told;)V"⟩ : MethodName), prog_2_method_1_code, 2, none, 1), cd_Chooser_init),
  (((⟨"WhichWord$Chooser", "evenest", "(I)I"⟩ : MethodName), prog_2_method_2_code, 9, (some .int), 1), cd_Chooser_evenest),
  (((⟨"WhichWord$Chooser", "shownFor", "(I)I"⟩ : MethodName), prog_2_method_5_code, 2, (some .int), 1), cd_Chooser_shownFor),
  (((⟨"WhichWord$Chooser", "countLeftHad", "(II)I"⟩ : MethodName), prog_2_method_7_code, 5, (some .int), 1), cd_Chooser_countLeftHad),
  (((⟨"WhichWord$Chooser", "fewestParting", "(I)I"⟩ : MethodName), prog_2_method_3_code, 5, (some .int), 1), cd_Chooser_fewestParting),
  (((⟨"WhichWord$Chooser", "firstShownFor", "(I)I"⟩ : MethodName), prog_2_method_6_code, 6, (some .int), 1), cd_Chooser_firstShownFor),
  (((⟨"WhichWord$Chooser", "listUnlike", "(II)V"⟩ : MethodName), prog_2_method_8_code, 4, none, 1), cd_Chooser_listUnlike),
  (((⟨"WhichWord$Chooser", "addUnlike", "(I)V"⟩ : MethodName), prog_2_method_9_code, 3, none, 1), cd_Chooser_addUnlike),
  (((⟨"WhichWord$Chooser", "listSets", "(II)V"⟩ : MethodName), prog_2_method_11_code, 3, none, 1), cd_Chooser_listSets),
  (((⟨"WhichWord$Chooser", "addSets", "(IIII)V"⟩ : MethodName), prog_2_method_12_code, 6, none, 1), cd_Chooser_addSets),
  (((⟨"WhichWord$Chooser", "partsAll", "(I)Z"⟩ : MethodName), prog_2_method_10_code, 4, (some .boolean), 1), cd_Chooser_partsAll),
  (((⟨"WhichWord$Chooser", "mostTelling", "(III)I"⟩ : MethodName), prog_2_method_4_code, 8, (some .int), 1), cd_Chooser_mostTelling),
  (((⟨"WhichWord$Giver", "<init>", "(LWhichWord$Told;)V"⟩ : MethodName), prog_3_method_1_code, 2, none, 2), cd_Giver_init),
  (((⟨"WhichWord$Giver", "countWays", "(I)I"⟩ : MethodName), prog_3_method_2_code, 2, (some .int), 2), cd_Giver_countWays),
  (((⟨"WhichWord$Giver", "countLefts", "(I)V"⟩ : MethodName), prog_3_method_4_code, 3, none, 2), cd_Giver_countLefts),
  (((⟨"WhichWord$Giver", "ways", "(III)I"⟩ : MethodName), prog_3_method_6_code, 8, (some .int), 2), cd_Giver_ways),
  (((⟨"WhichWord$Giver", "lost", "(II)I"⟩ : MethodName), prog_3_method_7_code, 3, (some .int), 2), cd_Giver_lost),
  (((⟨"WhichWord$Giver", "firstFor", "(II)I"⟩ : MethodName), prog_3_method_3_code, 8, (some .int), 2), cd_Giver_firstFor),
  (((⟨"WhichWord$Giver", "leastFor", "(IIII)I"⟩ : MethodName), prog_3_method_5_code, 6, (some .int), 2), cd_Giver_leastFor),
  (((⟨"WhichWord$Likely", "<init>", "(LWhichWord$Told;)V"⟩ : MethodName), prog_4_method_1_code, 2, none, 3), cd_Likely_init),
  (((⟨"WhichWord$Likely", "of", "(II)J"⟩ : MethodName), prog_4_method_2_code, 9, (some .long), 3), cd_Likely_of),
  (((⟨"WhichWord$Likely", "latestSaid", "(I)I"⟩ : MethodName), prog_4_method_3_code, 4, (some .int), 3), cd_Likely_latestSaid),
  (((⟨"WhichWord$Likely", "aboveLine", "(II)J"⟩ : MethodName), prog_4_method_5_code, 7, (some .long), 3), cd_Likely_aboveLine),
  (((⟨"WhichWord$Likely", "ofAll", "(I)J"⟩ : MethodName), prog_4_method_4_code, 5, (some .long), 3), cd_Likely_ofAll),
  (((⟨"WhichWord$Likely", "commonDivisor", "(JJ)J"⟩ : MethodName), prog_4_method_7_code, 11, (some .long), 0), cd_Likely_commonDivisor),
  (((⟨"WhichWord$Likely", "belowLine", "(II)J"⟩ : MethodName), prog_4_method_6_code, 7, (some .long), 3), cd_Likely_belowLine),
  (((⟨"WhichWord$Likely", "greatest", "(I)I"⟩ : MethodName), prog_4_method_8_code, 8, (some .int), 3), cd_Likely_greatest),
  (((⟨"WhichWord$Scene", "<init>", "()V"⟩ : MethodName), prog_5_method_1_code, 1, none, 4), cd_Scene_init),
  (((⟨"WhichWord$Scene", "addThing", "(I)V"⟩ : MethodName), prog_5_method_2_code, 2, none, 4), cd_Scene_addThing),
  (((⟨"WhichWord$Scene", "addDoing", "(I)V"⟩ : MethodName), prog_5_method_3_code, 2, none, 4), cd_Scene_addDoing),
  (((⟨"WhichWord$Scene", "holds", "(I)Z"⟩ : MethodName), prog_5_method_6_code, 4, (some .boolean), 4), cd_Scene_holds),
  (((⟨"WhichWord$Scene", "countThings", "(II)I"⟩ : MethodName), prog_5_method_8_code, 5, (some .int), 4), cd_Scene_countThings),
  (((⟨"WhichWord$Scene", "thingAt", "(I)I"⟩ : MethodName), prog_5_method_4_code, 2, (some .int), 4), cd_Scene_thingAt),
  (((⟨"WhichWord$Scene", "holdsJoined", "(I)Z"⟩ : MethodName), prog_5_method_7_code, 2, (some .boolean), 4), cd_Scene_holdsJoined),
  (((⟨"WhichWord$Scene", "isDone", "(III)Z"⟩ : MethodName), prog_5_method_9_code, 6, (some .boolean), 4), cd_Scene_isDone),
  (((⟨"WhichWord$Scene", "doingAt", "(I)I"⟩ : MethodName), prog_5_method_5_code, 2, (some .int), 4), cd_Scene_doingAt),
  (((⟨"WhichWord$Text", "<init>", "()V"⟩ : MethodName), prog_6_method_1_code, 1, none, 5), cd_Text_init),
  (((⟨"WhichWord$Text", "room", "()I"⟩ : MethodName), prog_6_method_3_code, 1, (some .int), 5), cd_Text_room),
  (((⟨"WhichWord$Text", "append", "(IJ)I"⟩ : MethodName), prog_6_method_6_code, 5, (some .int), 5), cd_Text_append),
  (((⟨"WhichWord$Text", "readScene", "(LWhichWord$Scene;)Z"⟩ : MethodName), prog_6_method_7_code, 2, (some .boolean), 5), cd_Text_readScene),
  (((⟨"WhichWord$Text", "readThings", "(LWhichWord$Scene;)Z"⟩ : MethodName), prog_6_method_8_code, 4, (some .boolean), 5), cd_Text_readThings),
  (((⟨"WhichWord$Text", "readThing", "(LWhichWord$Scene;)Z"⟩ : MethodName), prog_6_method_9_code, 4, (some .boolean), 5), cd_Text_readThing),
  (((⟨"WhichWord$Text", "take", "(I)Z"⟩ : MethodName), prog_6_method_12_code, 2, (some .boolean), 5), cd_Text_take),
  (((⟨"WhichWord$Text", "takeOneOf", "(III)I"⟩ : MethodName), prog_6_method_13_code, 5, (some .int), 5), cd_Text_takeOneOf),
  (((⟨"WhichWord$Text", "readDoings", "(LWhichWord$Scene;)Z"⟩ : MethodName), prog_6_method_10_code, 4, (some .boolean), 5), cd_Text_readDoings),
  (((⟨"WhichWord$Text", "readDoing", "(LWhichWord$Scene;)Z"⟩ : MethodName), prog_6_method_11_code, 5, (some .boolean), 5), cd_Text_readDoing),
  (((⟨"WhichWord$Text", "place", "()I"⟩ : MethodName), prog_6_method_4_code, 1, (some .int), 5), cd_Text_place),
  (((⟨"WhichWord$Text", "empty", "()V"⟩ : MethodName), prog_6_method_5_code, 1, none, 5), cd_Text_empty),
  (((⟨"WhichWord$Text", "length", "()I"⟩ : MethodName), prog_6_method_2_code, 1, (some .int), 5), cd_Text_length),
  (((⟨"WhichWord$Told", "<init>", "()V"⟩ : MethodName), prog_7_method_1_code, 2, none, 6), cd_Told_init),
  (((⟨"WhichWord$Told", "addScene", "(LWhichWord$Scene;)I"⟩ : MethodName), prog_7_method_3_code, 4, (some .int), 6), cd_Told_addScene),
  (((⟨"WhichWord$Told", "dropLatest", "()I"⟩ : MethodName), prog_7_method_4_code, 3, (some .int), 6), cd_Told_dropLatest),
  (((⟨"WhichWord$Told", "dropSayingsOf", "(I)V"⟩ : MethodName), prog_7_method_5_code, 4, none, 6), cd_Told_dropSayingsOf),
  (((⟨"WhichWord$Told", "tellSaid", "(IIZ)Z"⟩ : MethodName), prog_7_method_6_code, 4, (some .boolean), 6), cd_Told_tellSaid),
  (((⟨"WhichWord$Told", "countLeft", "(II)I"⟩ : MethodName), prog_7_method_12_code, 5, (some .int), 6), cd_Told_countLeft),
  (((⟨"WhichWord$Told", "isLeft", "(III)Z"⟩ : MethodName), prog_7_method_11_code, 4, (some .boolean), 6), cd_Told_isLeft),
  (((⟨"WhichWord$Told", "leftAt", "(III)I"⟩ : MethodName), prog_7_method_13_code, 6, (some .int), 6), cd_Told_leftAt),
  (((⟨"WhichWord$Told", "heaviestLeft", "(II)I"⟩ : MethodName), prog_7_method_14_code, 7, (some .int), 6), cd_Told_heaviestLeft),
  (((⟨"WhichWord$Told", "countTwos", "(I)I"⟩ : MethodName), prog_7_method_16_code, 5, (some .int), 6), cd_Told_countTwos),
  (((⟨"WhichWord$Told", "isTwo", "(III)Z"⟩ : MethodName), prog_7_method_15_code, 4, (some .boolean), 6), cd_Told_isTwo),
  (((⟨"WhichWord$Told", "firstTwo", "(I)I"⟩ : MethodName), prog_7_method_17_code, 4, (some .int), 6), cd_Told_firstTwo),
  (((⟨"WhichWord$Told", "addSaying", "(II)I"⟩ : MethodName), prog_7_method_7_code, 3, (some .int), 6), cd_Told_addSaying),
  (((⟨"WhichWord$Told", "fittingOrders", "()I"⟩ : MethodName), prog_7_method_19_code, 5, (some .int), 6), cd_Told_fittingOrders),
  (((⟨"WhichWord$Told", "fits", "(LWhichWord$Scene;II)Z"⟩ : MethodName), prog_7_method_20_code, 7, (some .boolean), 6), cd_Told_fits),
  (((⟨"WhichWord$Told", "isMark", "(I)Z"⟩ : MethodName), prog_7_method_21_code, 1, (some .boolean), 0), cd_Told_isMark),
  (((⟨"WhichWord$Told", "countUnparted", "()I"⟩ : MethodName), prog_7_method_18_code, 4, (some .int), 6), cd_Told_countUnparted),
  (((⟨"WhichWord$Told", "copyFrom", "(LWhichWord$Told;)V"⟩ : MethodName), prog_7_method_2_code, 3, none, 6), cd_Told_copyFrom),
  (((⟨"WhichWord$Told", "countThings", "()I"⟩ : MethodName), prog_7_method_8_code, 3, (some .int), 6), cd_Told_countThings),
  (((⟨"WhichWord$Told", "countDoings", "()I"⟩ : MethodName), prog_7_method_9_code, 3, (some .int), 6), cd_Told_countDoings),
  (((⟨"WhichWord$Told", "countSaid", "()I"⟩ : MethodName), prog_7_method_10_code, 3, (some .int), 6), cd_Told_countSaid),
  (((⟨"WhichWord", "<init>", "()V"⟩ : MethodName), prog_1_method_1_code, 2, none, 7), cd_Word_init),
  (((⟨"WhichWord", "feed", "(IJ)I"⟩ : MethodName), prog_1_method_2_code, 4, (some .int), 7), cd_Word_feed),
  (((⟨"WhichWord", "refuse", "(I)I"⟩ : MethodName), prog_1_method_35_code, 3, (some .int), 7), cd_Word_refuse),
  (((⟨"WhichWord", "scene", "()I"⟩ : MethodName), prog_1_method_3_code, 4, (some .int), 7), cd_Word_scene),
  (((⟨"WhichWord", "kindOf", "(I)I"⟩ : MethodName), prog_1_method_42_code, 3, (some .int), 0), cd_Word_kindOf),
  (((⟨"WhichWord", "takeBack", "()I"⟩ : MethodName), prog_1_method_4_code, 1, (some .int), 7), cd_Word_takeBack),
  (((⟨"WhichWord", "thing", "(II)I"⟩ : MethodName), prog_1_method_5_code, 3, (some .int), 7), cd_Word_thing),
  (((⟨"WhichWord", "noScene", "(I)Z"⟩ : MethodName), prog_1_method_36_code, 2, (some .boolean), 7), cd_Word_noScene),
  (((⟨"WhichWord", "doing", "(II)I"⟩ : MethodName), prog_1_method_6_code, 3, (some .int), 7), cd_Word_doing),
  (((⟨"WhichWord", "say", "(IIZ)I"⟩ : MethodName), prog_1_method_7_code, 4, (some .int), 7), cd_Word_say),
  (((⟨"WhichWord", "noWord", "(I)Z"⟩ : MethodName), prog_1_method_37_code, 1, (some .boolean), 0), cd_Word_noWord),
  (((⟨"WhichWord", "isIn", "(II)Z"⟩ : MethodName), prog_1_method_43_code, 2, (some .boolean), 0), cd_Word_isIn),
  (((⟨"WhichWord", "said", "(I)I"⟩ : MethodName), prog_1_method_8_code, 2, (some .int), 7), cd_Word_said),
  (((⟨"WhichWord", "kind", "(I)I"⟩ : MethodName), prog_1_method_9_code, 2, (some .int), 7), cd_Word_kind),
  (((⟨"WhichWord", "noMeaning", "(I)Z"⟩ : MethodName), prog_1_method_38_code, 1, (some .boolean), 0), cd_Word_noMeaning),
  (((⟨"WhichWord", "weight", "(II)I"⟩ : MethodName), prog_1_method_10_code, 4, (some .int), 7), cd_Word_weight),
  (((⟨"WhichWord", "has", "(II)I"⟩ : MethodName), prog_1_method_11_code, 3, (some .int), 7), cd_Word_has),
  (((⟨"WhichWord", "left", "(III)I"⟩ : MethodName), prog_1_method_12_code, 4, (some .int), 7), cd_Word_left),
  (((⟨"WhichWord", "plainest", "(II)I"⟩ : MethodName), prog_1_method_13_code, 3, (some .int), 7), cd_Word_plainest),
  (((⟨"WhichWord", "judge", "(II)I"⟩ : MethodName), prog_1_method_14_code, 3, (some .int), 7), cd_Word_judge),
  (((⟨"WhichWord", "firstIn", "(I)I"⟩ : MethodName), prog_1_method_44_code, 2, (some .int), 0), cd_Word_firstIn),
  (((⟨"WhichWord", "set", "(II)I"⟩ : MethodName), prog_1_method_15_code, 4, (some .int), 7), cd_Word_set),
  (((⟨"WhichWord", "likelihood", "(II)J"⟩ : MethodName), prog_1_method_16_code, 3, (some .long), 7), cd_Word_likelihood),
  (((⟨"WhichWord", "chance", "(III)J"⟩ : MethodName), prog_1_method_17_code, 4, (some .long), 7), cd_Word_chance),
  (((⟨"WhichWord", "likeliest", "(I)I"⟩ : MethodName), prog_1_method_18_code, 2, (some .int), 7), cd_Word_likeliest),
  (((⟨"WhichWord", "givings", "(I)I"⟩ : MethodName), prog_1_method_19_code, 2, (some .int), 7), cd_Word_givings),
  (((⟨"WhichWord", "noSetToGive", "(I)Z"⟩ : MethodName), prog_1_method_39_code, 1, (some .boolean), 0), cd_Word_noSetToGive),
  (((⟨"WhichWord", "giving", "(II)I"⟩ : MethodName), prog_1_method_20_code, 3, (some .int), 7), cd_Word_giving),
  (((⟨"WhichWord", "two", "(II)I"⟩ : MethodName), prog_1_method_21_code, 3, (some .int), 7), cd_Word_two),
  (((⟨"WhichWord", "give", "(II)I"⟩ : MethodName), prog_1_method_22_code, 4, (some .int), 7), cd_Word_give),
  (((⟨"WhichWord", "saying", "(II)I"⟩ : MethodName), prog_1_method_23_code, 3, (some .int), 7), cd_Word_saying),
  (((⟨"WhichWord", "noThreeWords", "(I)Z"⟩ : MethodName), prog_1_method_40_code, 4, (some .boolean), 0), cd_Word_noThreeWords),
  (((⟨"WhichWord", "wordAt", "(II)I"⟩ : MethodName), prog_1_method_41_code, 2, (some .int), 0), cd_Word_wordAt),
  (((⟨"WhichWord", "orders", "()I"⟩ : MethodName), prog_1_method_24_code, 1, (some .int), 7), cd_Word_orders),
  (((⟨"WhichWord", "next", "(I)I"⟩ : MethodName), prog_1_method_25_code, 2, (some .int), 7), cd_Word_next),
  (((⟨"WhichWord", "enough", "(I)I"⟩ : MethodName), prog_1_method_26_code, 2, (some .int), 7), cd_Word_enough),
  (((⟨"WhichWord", "help", "(III)I"⟩ : MethodName), prog_1_method_27_code, 4, (some .int), 7), cd_Word_help),
  (((⟨"WhichWord", "never", "()I"⟩ : MethodName), prog_1_method_28_code, 1, (some .int), 7), cd_Word_never),
  (((⟨"WhichWord", "same", "(II)I"⟩ : MethodName), prog_1_method_29_code, 3, (some .int), 7), cd_Word_same),
  (((⟨"WhichWord", "part", "(II)I"⟩ : MethodName), prog_1_method_30_code, 3, (some .int), 7), cd_Word_part),
  (((⟨"WhichWord", "image", "()I"⟩ : MethodName), prog_1_method_31_code, 1, (some .int), 7), cd_Word_image),
  (((⟨"WhichWord", "restore", "()I"⟩ : MethodName), prog_1_method_32_code, 1, (some .int), 7), cd_Word_restore),
  (((⟨"WhichWord", "count", "(I)I"⟩ : MethodName), prog_1_method_33_code, 2, (some .int), 7), cd_Word_count),
  (((⟨"WhichWord", "countRefusals", "(I)I"⟩ : MethodName), prog_1_method_34_code, 2, (some .int), 7), cd_Word_countRefusals),
  (((⟨"WhichWordModel", "<init>", "()V"⟩ : MethodName), prog_9_method_1_code, 1, none, 8), cd_Model_init),
  (((⟨"WhichWordModel", "feed", "(IJ)I"⟩ : MethodName), prog_9_method_9_code, 5, (some .int), 8), cd_Model_feed),
  (((⟨"WhichWordModel", "refuse", "(I)I"⟩ : MethodName), prog_9_method_4_code, 2, (some .int), 8), cd_Model_refuse),
  (((⟨"WhichWordModel", "scene", "()I"⟩ : MethodName), prog_9_method_15_code, 2, (some .int), 8), cd_Model_scene),
  (((⟨"WhichWordModel", "readScene", "(I)V"⟩ : MethodName), prog_9_method_14_code, 2, none, 8), cd_Model_readScene),
  (((⟨"WhichWordModel", "readThing", "(I)V"⟩ : MethodName), prog_9_method_11_code, 4, none, 8), cd_Model_readThing),
  (((⟨"WhichWordModel", "here", "()I"⟩ : MethodName), prog_9_method_10_code, 1, (some .int), 8), cd_Model_here),
  (((⟨"WhichWordModel", "in", "(JJJ)Z"⟩ : MethodName), prog_9_method_3_code, 6, (some .boolean), 0), cd_Model_in),
  (((⟨"WhichWordModel", "readDoing", "(I)V"⟩ : MethodName), prog_9_method_13_code, 6, none, 8), cd_Model_readDoing),
  (((⟨"WhichWordModel", "readPlace", "(II)I"⟩ : MethodName), prog_9_method_12_code, 4, (some .int), 8), cd_Model_readPlace),
  (((⟨"WhichWordModel", "findHas", "(I)V"⟩ : MethodName), prog_9_method_18_code, 7, none, 8), cd_Model_findHas),
  (((⟨"WhichWordModel", "manyWith", "(II)I"⟩ : MethodName), prog_9_method_17_code, 5, (some .int), 8), cd_Model_manyWith),
  (((⟨"WhichWordModel", "hasMark", "(III)Z"⟩ : MethodName), prog_9_method_16_code, 4, (some .boolean), 8), cd_Model_hasMark),
  (((⟨"WhichWordModel", "takeBack", "()I"⟩ : MethodName), prog_9_method_20_code, 3, (some .int), 8), cd_Model_takeBack),
  (((⟨"WhichWordModel", "thing", "(II)I"⟩ : MethodName), prog_9_method_21_code, 3, (some .int), 8), cd_Model_thing),
  (((⟨"WhichWordModel", "isScene", "(I)Z"⟩ : MethodName), prog_9_method_5_code, 2, (some .boolean), 8), cd_Model_isScene),
  (((⟨"WhichWordModel", "doing", "(II)I"⟩ : MethodName), prog_9_method_22_code, 4, (some .int), 8), cd_Model_doing),
  (((⟨"WhichWordModel", "say", "(IIZ)I"⟩ : MethodName), prog_9_method_23_code, 5, (some .int), 8), cd_Model_say),
  (((⟨"WhichWordModel", "isWord", "(I)Z"⟩ : MethodName), prog_9_method_6_code, 1, (some .boolean), 0), cd_Model_isWord),
  (((⟨"WhichWordModel", "said", "(I)I"⟩ : MethodName), prog_9_method_25_code, 2, (some .int), 8), cd_Model_said),
  (((⟨"WhichWordModel", "saidIn", "(I)I"⟩ : MethodName), prog_9_method_24_code, 4, (some .int), 8), cd_Model_saidIn),
  (((⟨"WhichWordModel", "kind", "(I)I"⟩ : MethodName), prog_9_method_26_code, 2, (some .int), 8), cd_Model_kind),
  (((⟨"WhichWordModel", "isMeaning", "(I)Z"⟩ : MethodName), prog_9_method_7_code, 1, (some .boolean), 0), cd_Model_isMeaning),
  (((⟨"WhichWordModel", "kindOf", "(I)I"⟩ : MethodName), prog_9_method_19_code, 1, (some .int), 0), cd_Model_kindOf),
  (((⟨"WhichWordModel", "weight", "(II)I"⟩ : MethodName), prog_9_method_27_code, 4, (some .int), 8), cd_Model_weight),
  (((⟨"WhichWordModel", "has", "(II)I"⟩ : MethodName), prog_9_method_28_code, 3, (some .int), 8), cd_Model_has),
  (((⟨"WhichWordModel", "left", "(III)I"⟩ : MethodName), prog_9_method_30_code, 6, (some .int), 8), cd_Model_left),
  (((⟨"WhichWordModel", "isLeft", "(III)Z"⟩ : MethodName), prog_9_method_29_code, 6, (some .boolean), 8), cd_Model_isLeft),
  (((⟨"WhichWordModel", "plainest", "(II)I"⟩ : MethodName), prog_9_method_31_code, 6, (some .int), 8), cd_Model_plainest),
  (((⟨"WhichWordModel", "judge", "(II)I"⟩ : MethodName), prog_9_method_32_code, 4, (some .int), 8), cd_Model_judge),
  (((⟨"WhichWordModel", "set", "(II)I"⟩ : MethodName), prog_9_method_33_code, 4, (some .int), 8), cd_Model_set),
  (((⟨"WhichWordModel", "likelihood", "(II)J"⟩ : MethodName), prog_9_method_35_code, 3, (some .long), 8), cd_Model_likelihood),
  (((⟨"WhichWordModel", "likelihoodOf", "(II)J"⟩ : MethodName), prog_9_method_34_code, 7, (some .long), 8), cd_Model_likelihoodOf),
  (((⟨"WhichWordModel", "chance", "(III)J"⟩ : MethodName), prog_9_method_37_code, 10, (some .long), 8), cd_Model_chance),
  (((⟨"WhichWordModel", "divisor", "(JJ)J"⟩ : MethodName), prog_9_method_36_code, 10, (some .long), 0), cd_Model_divisor),
  (((⟨"WhichWordModel", "likeliest", "(I)I"⟩ : MethodName), prog_9_method_38_code, 4, (some .int), 8), cd_Model_likeliest),
  (((⟨"WhichWordModel", "givings", "(I)I"⟩ : MethodName), prog_9_method_42_code, 5, (some .int), 8), cd_Model_givings),
  (((⟨"WhichWordModel", "isSet", "(I)Z"⟩ : MethodName), prog_9_method_39_code, 2, (some .boolean), 8), cd_Model_isSet),
  (((⟨"WhichWordModel", "ones", "(I)I"⟩ : MethodName), prog_9_method_8_code, 3, (some .int), 0), cd_Model_ones),
  (((⟨"WhichWordModel", "findWords", "(I)V"⟩ : MethodName), prog_9_method_40_code, 3, none, 8), cd_Model_findWords),
  (((⟨"WhichWordModel", "commonTo", "(I)I"⟩ : MethodName), prog_9_method_41_code, 6, (some .int), 8), cd_Model_commonTo),
  (((⟨"WhichWordModel", "giving", "(II)I"⟩ : MethodName), prog_9_method_46_code, 5, (some .int), 8), cd_Model_giving),
  (((⟨"WhichWordModel", "findFirst", "(I)Z"⟩ : MethodName), prog_9_method_43_code, 5, (some .boolean), 8), cd_Model_findFirst),
  (((⟨"WhichWordModel", "canHave", "(I)Z"⟩ : MethodName), prog_9_method_44_code, 5, (some .boolean), 8), cd_Model_canHave),
  (((⟨"WhichWordModel", "isOneLeft", "(I)Z"⟩ : MethodName), prog_9_method_45_code, 3, (some .boolean), 8), cd_Model_isOneLeft),
  (((⟨"WhichWordModel", "two", "(II)I"⟩ : MethodName), prog_9_method_47_code, 9, (some .int), 8), cd_Model_two),
  (((⟨"WhichWordModel", "give", "(II)I"⟩ : MethodName), prog_9_method_48_code, 4, (some .int), 8), cd_Model_give),
  (((⟨"WhichWordModel", "saying", "(II)I"⟩ : MethodName), prog_9_method_49_code, 6, (some .int), 8), cd_Model_saying),
  (((⟨"WhichWordModel", "orders", "()I"⟩ : MethodName), prog_9_method_52_code, 5, (some .int), 8), cd_Model_orders),
  (((⟨"WhichWordModel", "fits", "(II)Z"⟩ : MethodName), prog_9_method_51_code, 7, (some .boolean), 8), cd_Model_fits),
  (((⟨"WhichWordModel", "isDone", "(IIII)Z"⟩ : MethodName), prog_9_method_50_code, 7, (some .boolean), 8), cd_Model_isDone),
  (((⟨"WhichWordModel", "next", "(I)I"⟩ : MethodName), prog_9_method_53_code, 9, (some .int), 8), cd_Model_next),
  (((⟨"WhichWordModel", "enough", "(I)I"⟩ : MethodName), prog_9_method_58_code, 4, (some .int), 8), cd_Model_enough),
  (((⟨"WhichWordModel", "findShown", "(I)V"⟩ : MethodName), prog_9_method_54_code, 3, none, 8), cd_Model_findShown),
  (((⟨"WhichWordModel", "findUnlike", "(I)V"⟩ : MethodName), prog_9_method_55_code, 6, none, 8), cd_Model_findUnlike),
  (((⟨"WhichWordModel", "partsAll", "(I)Z"⟩ : MethodName), prog_9_method_56_code, 4, (some .boolean), 8), cd_Model_partsAll),
  (((⟨"WhichWordModel", "scenesOf", "(I)I"⟩ : MethodName), prog_9_method_57_code, 4, (some .int), 8), cd_Model_scenesOf),
  (((⟨"WhichWordModel", "help", "(III)I"⟩ : MethodName), prog_9_method_59_code, 9, (some .int), 8), cd_Model_help),
  (((⟨"WhichWordModel", "leftBy", "(II)I"⟩ : MethodName), prog_9_method_60_code, 7, (some .int), 8), cd_Model_leftBy),
  (((⟨"WhichWordModel", "never", "()I"⟩ : MethodName), prog_9_method_62_code, 4, (some .int), 8), cd_Model_never),
  (((⟨"WhichWordModel", "partOf", "(II)I"⟩ : MethodName), prog_9_method_61_code, 4, (some .int), 8), cd_Model_partOf),
  (((⟨"WhichWordModel", "same", "(II)I"⟩ : MethodName), prog_9_method_63_code, 3, (some .int), 8), cd_Model_same),
  (((⟨"WhichWordModel", "part", "(II)I"⟩ : MethodName), prog_9_method_64_code, 3, (some .int), 8), cd_Model_part),
  (((⟨"WhichWordModel", "image", "()I"⟩ : MethodName), prog_9_method_67_code, 1, (some .int), 8), cd_Model_image),
  (((⟨"WhichWordModel", "moveAll", "()V"⟩ : MethodName), prog_9_method_66_code, 3, none, 8), cd_Model_moveAll),
  (((⟨"WhichWordModel", "move", "(I)I"⟩ : MethodName), prog_9_method_65_code, 2, (some .int), 8), cd_Model_move),
  (((⟨"WhichWordModel", "restore", "()I"⟩ : MethodName), prog_9_method_68_code, 2, (some .int), 8), cd_Model_restore),
  (((⟨"WhichWordModel", "count", "(I)I"⟩ : MethodName), prog_9_method_69_code, 4, (some .int), 8), cd_Model_count),
  (((⟨"java/util/Arrays", "fill", "([II)V"⟩ : MethodName), prog_13_method_103_code, 4, none, 0), cd_Arrays_fill),
  (((⟨"java/lang/Integer", "bitCount", "(I)I"⟩ : MethodName), prog_10_method_49_code, 1, (some .int), 0), cd_Integer_bitCount)]
def mm_T (j : Nat) : mm_N × mm_C := match mm_nth mm_Tl j with
  | some q => q
  | none => ((⟨"", "", ""⟩, ⟨#[]⟩, 0, none, 0), [])
def mm_Yt (j : Nat) : mm_N := (mm_T j).1
def mm_Pt (j : Nat) : mm_Y := ((mm_T j).2, (mm_T j).1.2.2.1, (mm_T j).1.2.2.2.2)
def mm_Al (j : Nat) : Nat × Nat := match Nat.beq j 0 with
  | true => (2, 310)
  | false => match Nat.beq j 12 with
  | true => (1, 6)
  | false => match Nat.beq j 27 with
  | true => (2, 7)
  | false => match Nat.beq j 36 with
  | true => (1, 40)
  | false => match Nat.beq j 49 with
  | true => (10, 185)
  | false => match Nat.beq j 70 with
  | true => (31, 768)
  | false => match Nat.beq j 73 with
  | true => (3, 11)
  | false => match Nat.beq j 114 with
  | true => (17, 3573)
  | false => (0, 0)
def mm_Df : Nat → List Value
  | 0 => [.null, .null, .int 0, .null, .int 0]
  | 1 => [.null, .null]
  | 2 => [.null]
  | 3 => [.null, .null, .int 0, .int 0]
  | 4 => [.null, .int 0, .int 0]
  | 5 => [.null, .null, .int 0, .null, .null, .null, .int 0, .int 0, .null, .null, .null, .int 0]
  | 6 => [.null, .null, .null, .int 0, .null, .null, .null, .null]
  | _ => [.int 0, .null, .null, .null, .null, .null, .null, .null, .int 0, .int 0, .null, .int 0, .null, .null, .null, .int 0, .null, .int 0, .int 0, .int 0, .null, .int 0, .null, .null, .int 0, .null, .int 0, .int 0, .null, .int 0, .int 0]
theorem mm_Df_ok : ∀ (a : Nat) (q : vw_C), vwCl[a]? = some q → (∀ j, j < q.2.2 → defaultValue (mm_ty a j) = vp_V (mm_Df a) j) ∧ ∀ v ∈ mm_Df a, mm_v (fun x => x + 1) v = v := by
  intro a q h
  match a, h with
  | 0, h => cases h; exact ⟨by decide +kernel, by decide +kernel⟩
  | 1, h => cases h; exact ⟨by decide +kernel, by decide +kernel⟩
  | 2, h => cases h; exact ⟨by decide +kernel, by decide +kernel⟩
  | 3, h => cases h; exact ⟨by decide +kernel, by decide +kernel⟩
  | 4, h => cases h; exact ⟨by decide +kernel, by decide +kernel⟩
  | 5, h => cases h; exact ⟨by decide +kernel, by decide +kernel⟩
  | 6, h => cases h; exact ⟨by decide +kernel, by decide +kernel⟩
  | 7, h => cases h; exact ⟨by decide +kernel, by decide +kernel⟩
  | k + 8, h => simp [vwCl] at h
abbrev j_Chooser_init : Nat := 0
abbrev j_Chooser_evenest : Nat := 1
abbrev j_Chooser_shownFor : Nat := 2
abbrev j_Chooser_countLeftHad : Nat := 3
abbrev j_Chooser_fewestParting : Nat := 4
abbrev j_Chooser_firstShownFor : Nat := 5
abbrev j_Chooser_listUnlike : Nat := 6
abbrev j_Chooser_addUnlike : Nat := 7
abbrev j_Chooser_listSets : Nat := 8
abbrev j_Chooser_addSets : Nat := 9
abbrev j_Chooser_partsAll : Nat := 10
abbrev j_Chooser_mostTelling : Nat := 11
abbrev j_Giver_init : Nat := 12
abbrev j_Giver_countWays : Nat := 13
abbrev j_Giver_countLefts : Nat := 14
abbrev j_Giver_ways : Nat := 15
abbrev j_Giver_lost : Nat := 16
abbrev j_Giver_firstFor : Nat := 17
abbrev j_Giver_leastFor : Nat := 18
abbrev j_Likely_init : Nat := 19
abbrev j_Likely_of : Nat := 20
abbrev j_Likely_latestSaid : Nat := 21
abbrev j_Likely_aboveLine : Nat := 22
abbrev j_Likely_ofAll : Nat := 23
abbrev j_Likely_commonDivisor : Nat := 24
abbrev j_Likely_belowLine : Nat := 25
abbrev j_Likely_greatest : Nat := 26
abbrev j_Scene_init : Nat := 27
abbrev j_Scene_addThing : Nat := 28
abbrev j_Scene_addDoing : Nat := 29
abbrev j_Scene_holds : Nat := 30
abbrev j_Scene_countThings : Nat := 31
abbrev j_Scene_thingAt : Nat := 32
abbrev j_Scene_holdsJoined : Nat := 33
abbrev j_Scene_isDone : Nat := 34
abbrev j_Scene_doingAt : Nat := 35
abbrev j_Text_init : Nat := 36
abbrev j_Text_room : Nat := 37
abbrev j_Text_append : Nat := 38
abbrev j_Text_readScene : Nat := 39
abbrev j_Text_readThings : Nat := 40
abbrev j_Text_readThing : Nat := 41
abbrev j_Text_take : Nat := 42
abbrev j_Text_takeOneOf : Nat := 43
abbrev j_Text_readDoings : Nat := 44
abbrev j_Text_readDoing : Nat := 45
abbrev j_Text_place : Nat := 46
abbrev j_Text_empty : Nat := 47
abbrev j_Text_length : Nat := 48
abbrev j_Told_init : Nat := 49
abbrev j_Told_addScene : Nat := 50
abbrev j_Told_dropLatest : Nat := 51
abbrev j_Told_dropSayingsOf : Nat := 52
abbrev j_Told_tellSaid : Nat := 53
abbrev j_Told_countLeft : Nat := 54
abbrev j_Told_isLeft : Nat := 55
abbrev j_Told_leftAt : Nat := 56
abbrev j_Told_heaviestLeft : Nat := 57
abbrev j_Told_countTwos : Nat := 58
abbrev j_Told_isTwo : Nat := 59
abbrev j_Told_firstTwo : Nat := 60
abbrev j_Told_addSaying : Nat := 61
abbrev j_Told_fittingOrders : Nat := 62
abbrev j_Told_fits : Nat := 63
abbrev j_Told_isMark : Nat := 64
abbrev j_Told_countUnparted : Nat := 65
abbrev j_Told_copyFrom : Nat := 66
abbrev j_Told_countThings : Nat := 67
abbrev j_Told_countDoings : Nat := 68
abbrev j_Told_countSaid : Nat := 69
abbrev j_Word_init : Nat := 70
abbrev j_Word_feed : Nat := 71
abbrev j_Word_refuse : Nat := 72
abbrev j_Word_scene : Nat := 73
abbrev j_Word_kindOf : Nat := 74
abbrev j_Word_takeBack : Nat := 75
abbrev j_Word_thing : Nat := 76
abbrev j_Word_noScene : Nat := 77
abbrev j_Word_doing : Nat := 78
abbrev j_Word_say : Nat := 79
abbrev j_Word_noWord : Nat := 80
abbrev j_Word_isIn : Nat := 81
abbrev j_Word_said : Nat := 82
abbrev j_Word_kind : Nat := 83
abbrev j_Word_noMeaning : Nat := 84
abbrev j_Word_weight : Nat := 85
abbrev j_Word_has : Nat := 86
abbrev j_Word_left : Nat := 87
abbrev j_Word_plainest : Nat := 88
abbrev j_Word_judge : Nat := 89
abbrev j_Word_firstIn : Nat := 90
abbrev j_Word_set : Nat := 91
abbrev j_Word_likelihood : Nat := 92
abbrev j_Word_chance : Nat := 93
abbrev j_Word_likeliest : Nat := 94
abbrev j_Word_givings : Nat := 95
abbrev j_Word_noSetToGive : Nat := 96
abbrev j_Word_giving : Nat := 97
abbrev j_Word_two : Nat := 98
abbrev j_Word_give : Nat := 99
abbrev j_Word_saying : Nat := 100
abbrev j_Word_noThreeWords : Nat := 101
abbrev j_Word_wordAt : Nat := 102
abbrev j_Word_orders : Nat := 103
abbrev j_Word_next : Nat := 104
abbrev j_Word_enough : Nat := 105
abbrev j_Word_help : Nat := 106
abbrev j_Word_never : Nat := 107
abbrev j_Word_same : Nat := 108
abbrev j_Word_part : Nat := 109
abbrev j_Word_image : Nat := 110
abbrev j_Word_restore : Nat := 111
abbrev j_Word_count : Nat := 112
abbrev j_Word_countRefusals : Nat := 113
abbrev j_Model_init : Nat := 114
abbrev j_Model_feed : Nat := 115
abbrev j_Model_refuse : Nat := 116
abbrev j_Model_scene : Nat := 117
abbrev j_Model_readScene : Nat := 118
abbrev j_Model_readThing : Nat := 119
abbrev j_Model_here : Nat := 120
abbrev j_Model_in : Nat := 121
abbrev j_Model_readDoing : Nat := 122
abbrev j_Model_readPlace : Nat := 123
abbrev j_Model_findHas : Nat := 124
abbrev j_Model_manyWith : Nat := 125
abbrev j_Model_hasMark : Nat := 126
abbrev j_Model_takeBack : Nat := 127
abbrev j_Model_thing : Nat := 128
abbrev j_Model_isScene : Nat := 129
abbrev j_Model_doing : Nat := 130
abbrev j_Model_say : Nat := 131
abbrev j_Model_isWord : Nat := 132
abbrev j_Model_said : Nat := 133
abbrev j_Model_saidIn : Nat := 134
abbrev j_Model_kind : Nat := 135
abbrev j_Model_isMeaning : Nat := 136
abbrev j_Model_kindOf : Nat := 137
abbrev j_Model_weight : Nat := 138
abbrev j_Model_has : Nat := 139
abbrev j_Model_left : Nat := 140
abbrev j_Model_isLeft : Nat := 141
abbrev j_Model_plainest : Nat := 142
abbrev j_Model_judge : Nat := 143
abbrev j_Model_set : Nat := 144
abbrev j_Model_likelihood : Nat := 145
abbrev j_Model_likelihoodOf : Nat := 146
abbrev j_Model_chance : Nat := 147
abbrev j_Model_divisor : Nat := 148
abbrev j_Model_likeliest : Nat := 149
abbrev j_Model_givings : Nat := 150
abbrev j_Model_isSet : Nat := 151
abbrev j_Model_ones : Nat := 152
abbrev j_Model_findWords : Nat := 153
abbrev j_Model_commonTo : Nat := 154
abbrev j_Model_giving : Nat := 155
abbrev j_Model_findFirst : Nat := 156
abbrev j_Model_canHave : Nat := 157
abbrev j_Model_isOneLeft : Nat := 158
abbrev j_Model_two : Nat := 159
abbrev j_Model_give : Nat := 160
abbrev j_Model_saying : Nat := 161
abbrev j_Model_orders : Nat := 162
abbrev j_Model_fits : Nat := 163
abbrev j_Model_isDone : Nat := 164
abbrev j_Model_next : Nat := 165
abbrev j_Model_enough : Nat := 166
abbrev j_Model_findShown : Nat := 167
abbrev j_Model_findUnlike : Nat := 168
abbrev j_Model_partsAll : Nat := 169
abbrev j_Model_scenesOf : Nat := 170
abbrev j_Model_help : Nat := 171
abbrev j_Model_leftBy : Nat := 172
abbrev j_Model_never : Nat := 173
abbrev j_Model_partOf : Nat := 174
abbrev j_Model_same : Nat := 175
abbrev j_Model_part : Nat := 176
abbrev j_Model_image : Nat := 177
abbrev j_Model_moveAll : Nat := 178
abbrev j_Model_move : Nat := 179
abbrev j_Model_restore : Nat := 180
abbrev j_Model_count : Nat := 181
abbrev j_Arrays_fill : Nat := 182
abbrev j_Integer_bitCount : Nat := 183
def mm_chkY (q : mm_N) (ps : List Nat) : Bool :=
  match ps with
  | [j, k] => (mm_w j (.initialized q.1.cls) && (Jvm.plainName q.1.cls && Nat.ble q.2.2.1 60)) && ((decide (q.1.cls ≠ "java/lang/invoke/MethodHandle") && decide (q.1.cls ≠ "java/lang/invoke/VarHandle")) && match q.2.2.2.2 with
    | 0 => mm_w k (.static q.1)
    | ci + 1 => mm_w k (.instanceMethod q.1) && match vwCl[ci]? with
      | some w => decide (w.1 = q.1.cls)
      | none => false)
  | _ => false
theorem mm_chkY_ok {q : mm_N} {ps : List Nat} (hc : Jvm.Cond.code q.1 q.2.1 q.2.2.1 q.2.2.2.1 ∈ lw_tbl) (h : mm_chkY q ps = true) : mm_okY q := by
  have k3 : ∀ {b d : Bool}, (b && d) = true → b = true ∧ d = true := fun {b d} h => (Bool.and_eq_true b d) ▸ h
  unfold mm_chkY at h
  split at h
  · obtain ⟨g1, g2⟩ := k3 h
    obtain ⟨g5, g6⟩ := k3 g1
    obtain ⟨g7, g8⟩ := k3 g6
    obtain ⟨g9, g10⟩ := k3 g2
    obtain ⟨g11, g12⟩ := k3 g9
    refine ⟨⟨hc, mm_w_ok g5, g7, Nat.le_of_ble_eq_true g8⟩, ⟨of_decide_eq_true g11, of_decide_eq_true g12⟩, ?_⟩
    split at g10
    · rename_i he
      rw [he]
      exact mm_w_ok g10
    · rename_i ci he
      rw [he]
      obtain ⟨g13, g14⟩ := k3 g10
      refine ⟨mm_w_ok g13, ?_⟩
      split at g14
      · rename_i w hw
        exact ⟨w, hw, of_decide_eq_true g14⟩
      · cases g14
  · cases h
theorem mm_in1 {w : Jvm.Cond} (h : w ∈ tables_1_1) : w ∈ lw_tbl := List.mem_append_right _ (List.mem_append_left _ h)
theorem mm_in2 {w : Jvm.Cond} (h : w ∈ tables_1_2) : w ∈ lw_tbl := List.mem_append_right _ (List.mem_append_right _ (List.mem_append_left _ h))
theorem mm_in3 {w : Jvm.Cond} (h : w ∈ tables_1_3) : w ∈ lw_tbl := List.mem_append_right _ (List.mem_append_right _ (List.mem_append_right _ (List.mem_append_left _ h)))
theorem mm_in4 {w : Jvm.Cond} (h : w ∈ tables_1_4) : w ∈ lw_tbl := List.mem_append_right _ (List.mem_append_right _ (List.mem_append_right _ (List.mem_append_right _ (List.mem_append_left _ h))))
theorem mm_in5 {w : Jvm.Cond} (h : w ∈ tables_1_5) : w ∈ lw_tbl := List.mem_append_right _ (List.mem_append_right _ (List.mem_append_right _ (List.mem_append_right _ (List.mem_append_right _ h))))
theorem mm_okY_0 : mm_okY ((⟨"WhichWord$Chooser", "<init>", "(LWhichWord$Told;)V"⟩ : MethodName), prog_2_method_1_code, 2, none, 1) := mm_chkY_ok (ps := [65, 207]) (mm_in1 (List.mem_of_getElem? (i := 151) rfl)) (by decide +kernel)
theorem mm_okY_1 : mm_okY ((⟨"WhichWord$Chooser", "evenest", "(I)I"⟩ : MethodName), prog_2_method_2_code, 9, (some .int), 1) := mm_chkY_ok (ps := [65, 603]) (mm_in3 (List.mem_of_getElem? (i := 68) rfl)) (by decide +kernel)
theorem mm_okY_2 : mm_okY ((⟨"WhichWord$Chooser", "shownFor", "(I)I"⟩ : MethodName), prog_2_method_5_code, 2, (some .int), 1) := mm_chkY_ok (ps := [65, 608]) (mm_in3 (List.mem_of_getElem? (i := 72) rfl)) (by decide +kernel)
theorem mm_okY_3 : mm_okY ((⟨"WhichWord$Chooser", "countLeftHad", "(II)I"⟩ : MethodName), prog_2_method_7_code, 5, (some .int), 1) := mm_chkY_ok (ps := [65, 614]) (mm_in3 (List.mem_of_getElem? (i := 78) rfl)) (by decide +kernel)
theorem mm_okY_4 : mm_okY ((⟨"WhichWord$Chooser", "fewestParting", "(I)I"⟩ : MethodName), prog_2_method_3_code, 5, (some .int), 1) := mm_chkY_ok (ps := [65, 625]) (mm_in3 (List.mem_of_getElem? (i := 90) rfl)) (by decide +kernel)
theorem mm_okY_5 : mm_okY ((⟨"WhichWord$Chooser", "firstShownFor", "(I)I"⟩ : MethodName), prog_2_method_6_code, 6, (some .int), 1) := mm_chkY_ok (ps := [65, 630]) (mm_in3 (List.mem_of_getElem? (i := 94) rfl)) (by decide +kernel)
theorem mm_okY_6 : mm_okY ((⟨"WhichWord$Chooser", "listUnlike", "(II)V"⟩ : MethodName), prog_2_method_8_code, 4, none, 1) := mm_chkY_ok (ps := [65, 634]) (mm_in3 (List.mem_of_getElem? (i := 98) rfl)) (by decide +kernel)
theorem mm_okY_7 : mm_okY ((⟨"WhichWord$Chooser", "addUnlike", "(I)V"⟩ : MethodName), prog_2_method_9_code, 3, none, 1) := mm_chkY_ok (ps := [65, 638]) (mm_in3 (List.mem_of_getElem? (i := 102) rfl)) (by decide +kernel)
theorem mm_okY_8 : mm_okY ((⟨"WhichWord$Chooser", "listSets", "(II)V"⟩ : MethodName), prog_2_method_11_code, 3, none, 1) := mm_chkY_ok (ps := [65, 642]) (mm_in3 (List.mem_of_getElem? (i := 106) rfl)) (by decide +kernel)
theorem mm_okY_9 : mm_okY ((⟨"WhichWord$Chooser", "addSets", "(IIII)V"⟩ : MethodName), prog_2_method_12_code, 6, none, 1) := mm_chkY_ok (ps := [65, 646]) (mm_in3 (List.mem_of_getElem? (i := 110) rfl)) (by decide +kernel)
theorem mm_okY_10 : mm_okY ((⟨"WhichWord$Chooser", "partsAll", "(I)Z"⟩ : MethodName), prog_2_method_10_code, 4, (some .boolean), 1) := mm_chkY_ok (ps := [65, 650]) (mm_in3 (List.mem_of_getElem? (i := 114) rfl)) (by decide +kernel)
theorem mm_okY_11 : mm_okY ((⟨"WhichWord$Chooser", "mostTelling", "(III)I"⟩ : MethodName), prog_2_method_4_code, 8, (some .int), 1) := mm_chkY_ok (ps := [65, 658]) (mm_in3 (List.mem_of_getElem? (i := 123) rfl)) (by decide +kernel)
theorem mm_okY_12 : mm_okY ((⟨"WhichWord$Giver", "<init>", "(LWhichWord$Told;)V"⟩ : MethodName), prog_3_method_1_code, 2, none, 2) := mm_chkY_ok (ps := [64, 194]) (mm_in1 (List.mem_of_getElem? (i := 138) rfl)) (by decide +kernel)
theorem mm_okY_13 : mm_okY ((⟨"WhichWord$Giver", "countWays", "(I)I"⟩ : MethodName), prog_3_method_2_code, 2, (some .int), 2) := mm_chkY_ok (ps := [64, 509]) (mm_in2 (List.mem_of_getElem? (i := 214) rfl)) (by decide +kernel)
theorem mm_okY_14 : mm_okY ((⟨"WhichWord$Giver", "countLefts", "(I)V"⟩ : MethodName), prog_3_method_4_code, 3, none, 2) := mm_chkY_ok (ps := [64, 514]) (mm_in2 (List.mem_of_getElem? (i := 218) rfl)) (by decide +kernel)
theorem mm_okY_15 : mm_okY ((⟨"WhichWord$Giver", "ways", "(III)I"⟩ : MethodName), prog_3_method_6_code, 8, (some .int), 2) := mm_chkY_ok (ps := [64, 520]) (mm_in2 (List.mem_of_getElem? (i := 224) rfl)) (by decide +kernel)
theorem mm_okY_16 : mm_okY ((⟨"WhichWord$Giver", "lost", "(II)I"⟩ : MethodName), prog_3_method_7_code, 3, (some .int), 2) := mm_chkY_ok (ps := [64, 526]) (mm_in2 (List.mem_of_getElem? (i := 230) rfl)) (by decide +kernel)
theorem mm_okY_17 : mm_okY ((⟨"WhichWord$Giver", "firstFor", "(II)I"⟩ : MethodName), prog_3_method_3_code, 8, (some .int), 2) := mm_chkY_ok (ps := [64, 534]) (mm_in2 (List.mem_of_getElem? (i := 239) rfl)) (by decide +kernel)
theorem mm_okY_18 : mm_okY ((⟨"WhichWord$Giver", "leastFor", "(IIII)I"⟩ : MethodName), prog_3_method_5_code, 6, (some .int), 2) := mm_chkY_ok (ps := [64, 539]) (mm_in3 (List.mem_of_getElem? (i := 3) rfl)) (by decide +kernel)
theorem mm_okY_19 : mm_okY ((⟨"WhichWord$Likely", "<init>", "(LWhichWord$Told;)V"⟩ : MethodName), prog_4_method_1_code, 2, none, 3) := mm_chkY_ok (ps := [63, 184]) (mm_in1 (List.mem_of_getElem? (i := 128) rfl)) (by decide +kernel)
theorem mm_okY_20 : mm_okY ((⟨"WhichWord$Likely", "of", "(II)J"⟩ : MethodName), prog_4_method_2_code, 9, (some .long), 3) := mm_chkY_ok (ps := [63, 463]) (mm_in2 (List.mem_of_getElem? (i := 168) rfl)) (by decide +kernel)
theorem mm_okY_21 : mm_okY ((⟨"WhichWord$Likely", "latestSaid", "(I)I"⟩ : MethodName), prog_4_method_3_code, 4, (some .int), 3) := mm_chkY_ok (ps := [63, 468]) (mm_in2 (List.mem_of_getElem? (i := 172) rfl)) (by decide +kernel)
theorem mm_okY_22 : mm_okY ((⟨"WhichWord$Likely", "aboveLine", "(II)J"⟩ : MethodName), prog_4_method_5_code, 7, (some .long), 3) := mm_chkY_ok (ps := [63, 477]) (mm_in2 (List.mem_of_getElem? (i := 182) rfl)) (by decide +kernel)
theorem mm_okY_23 : mm_okY ((⟨"WhichWord$Likely", "ofAll", "(I)J"⟩ : MethodName), prog_4_method_4_code, 5, (some .long), 3) := mm_chkY_ok (ps := [63, 483]) (mm_in2 (List.mem_of_getElem? (i := 187) rfl)) (by decide +kernel)
theorem mm_okY_24 : mm_okY ((⟨"WhichWord$Likely", "commonDivisor", "(JJ)J"⟩ : MethodName), prog_4_method_7_code, 11, (some .long), 0) := mm_chkY_ok (ps := [63, 486]) (mm_in2 (List.mem_of_getElem? (i := 190) rfl)) (by decide +kernel)
theorem mm_okY_25 : mm_okY ((⟨"WhichWord$Likely", "belowLine", "(II)J"⟩ : MethodName), prog_4_method_6_code, 7, (some .long), 3) := mm_chkY_ok (ps := [63, 489]) (mm_in2 (List.mem_of_getElem? (i := 194) rfl)) (by decide +kernel)
theorem mm_okY_26 : mm_okY ((⟨"WhichWord$Likely", "greatest", "(I)I"⟩ : MethodName), prog_4_method_8_code, 8, (some .int), 3) := mm_chkY_ok (ps := [63, 497]) (mm_in2 (List.mem_of_getElem? (i := 202) rfl)) (by decide +kernel)
theorem mm_okY_27 : mm_okY ((⟨"WhichWord$Scene", "<init>", "()V"⟩ : MethodName), prog_5_method_1_code, 1, none, 4) := mm_chkY_ok (ps := [61, 104]) (mm_in1 (List.mem_of_getElem? (i := 48) rfl)) (by decide +kernel)
theorem mm_okY_28 : mm_okY ((⟨"WhichWord$Scene", "addThing", "(I)V"⟩ : MethodName), prog_5_method_2_code, 2, none, 4) := mm_chkY_ok (ps := [61, 294]) (mm_in1 (List.mem_of_getElem? (i := 239) rfl)) (by decide +kernel)
theorem mm_okY_29 : mm_okY ((⟨"WhichWord$Scene", "addDoing", "(I)V"⟩ : MethodName), prog_5_method_3_code, 2, none, 4) := mm_chkY_ok (ps := [61, 306]) (mm_in2 (List.mem_of_getElem? (i := 11) rfl)) (by decide +kernel)
theorem mm_okY_30 : mm_okY ((⟨"WhichWord$Scene", "holds", "(I)Z"⟩ : MethodName), prog_5_method_6_code, 4, (some .boolean), 4) := mm_chkY_ok (ps := [61, 322]) (mm_in2 (List.mem_of_getElem? (i := 27) rfl)) (by decide +kernel)
theorem mm_okY_31 : mm_okY ((⟨"WhichWord$Scene", "countThings", "(II)I"⟩ : MethodName), prog_5_method_8_code, 5, (some .int), 4) := mm_chkY_ok (ps := [61, 333]) (mm_in2 (List.mem_of_getElem? (i := 37) rfl)) (by decide +kernel)
theorem mm_okY_32 : mm_okY ((⟨"WhichWord$Scene", "thingAt", "(I)I"⟩ : MethodName), prog_5_method_4_code, 2, (some .int), 4) := mm_chkY_ok (ps := [61, 336]) (mm_in2 (List.mem_of_getElem? (i := 41) rfl)) (by decide +kernel)
theorem mm_okY_33 : mm_okY ((⟨"WhichWord$Scene", "holdsJoined", "(I)Z"⟩ : MethodName), prog_5_method_7_code, 2, (some .boolean), 4) := mm_chkY_ok (ps := [61, 341]) (mm_in2 (List.mem_of_getElem? (i := 45) rfl)) (by decide +kernel)
theorem mm_okY_34 : mm_okY ((⟨"WhichWord$Scene", "isDone", "(III)Z"⟩ : MethodName), prog_5_method_9_code, 6, (some .boolean), 4) := mm_chkY_ok (ps := [61, 346]) (mm_in2 (List.mem_of_getElem? (i := 51) rfl)) (by decide +kernel)
theorem mm_okY_35 : mm_okY ((⟨"WhichWord$Scene", "doingAt", "(I)I"⟩ : MethodName), prog_5_method_5_code, 2, (some .int), 4) := mm_chkY_ok (ps := [61, 350]) (mm_in2 (List.mem_of_getElem? (i := 55) rfl)) (by decide +kernel)
theorem mm_okY_36 : mm_okY ((⟨"WhichWord$Text", "<init>", "()V"⟩ : MethodName), prog_6_method_1_code, 1, none, 5) := mm_chkY_ok (ps := [59, 81]) (mm_in1 (List.mem_of_getElem? (i := 25) rfl)) (by decide +kernel)
theorem mm_okY_37 : mm_okY ((⟨"WhichWord$Text", "room", "()I"⟩ : MethodName), prog_6_method_3_code, 1, (some .int), 5) := mm_chkY_ok (ps := [59, 260]) (mm_in1 (List.mem_of_getElem? (i := 205) rfl)) (by decide +kernel)
theorem mm_okY_38 : mm_okY ((⟨"WhichWord$Text", "append", "(IJ)I"⟩ : MethodName), prog_6_method_6_code, 5, (some .int), 5) := mm_chkY_ok (ps := [59, 264]) (mm_in1 (List.mem_of_getElem? (i := 209) rfl)) (by decide +kernel)
theorem mm_okY_39 : mm_okY ((⟨"WhichWord$Text", "readScene", "(LWhichWord$Scene;)Z"⟩ : MethodName), prog_6_method_7_code, 2, (some .boolean), 5) := mm_chkY_ok (ps := [59, 274]) (mm_in1 (List.mem_of_getElem? (i := 219) rfl)) (by decide +kernel)
theorem mm_okY_40 : mm_okY ((⟨"WhichWord$Text", "readThings", "(LWhichWord$Scene;)Z"⟩ : MethodName), prog_6_method_8_code, 4, (some .boolean), 5) := mm_chkY_ok (ps := [59, 279]) (mm_in1 (List.mem_of_getElem? (i := 223) rfl)) (by decide +kernel)
theorem mm_okY_41 : mm_okY ((⟨"WhichWord$Text", "readThing", "(LWhichWord$Scene;)Z"⟩ : MethodName), prog_6_method_9_code, 4, (some .boolean), 5) := mm_chkY_ok (ps := [59, 283]) (mm_in1 (List.mem_of_getElem? (i := 227) rfl)) (by decide +kernel)
theorem mm_okY_42 : mm_okY ((⟨"WhichWord$Text", "take", "(I)Z"⟩ : MethodName), prog_6_method_12_code, 2, (some .boolean), 5) := mm_chkY_ok (ps := [59, 287]) (mm_in1 (List.mem_of_getElem? (i := 231) rfl)) (by decide +kernel)
theorem mm_okY_43 : mm_okY ((⟨"WhichWord$Text", "takeOneOf", "(III)I"⟩ : MethodName), prog_6_method_13_code, 5, (some .int), 5) := mm_chkY_ok (ps := [59, 291]) (mm_in1 (List.mem_of_getElem? (i := 235) rfl)) (by decide +kernel)
theorem mm_okY_44 : mm_okY ((⟨"WhichWord$Text", "readDoings", "(LWhichWord$Scene;)Z"⟩ : MethodName), prog_6_method_10_code, 4, (some .boolean), 5) := mm_chkY_ok (ps := [59, 299]) (mm_in2 (List.mem_of_getElem? (i := 3) rfl)) (by decide +kernel)
theorem mm_okY_45 : mm_okY ((⟨"WhichWord$Text", "readDoing", "(LWhichWord$Scene;)Z"⟩ : MethodName), prog_6_method_11_code, 5, (some .boolean), 5) := mm_chkY_ok (ps := [59, 303]) (mm_in2 (List.mem_of_getElem? (i := 7) rfl)) (by decide +kernel)
theorem mm_okY_46 : mm_okY ((⟨"WhichWord$Text", "place", "()I"⟩ : MethodName), prog_6_method_4_code, 1, (some .int), 5) := mm_chkY_ok (ps := [59, 310]) (mm_in2 (List.mem_of_getElem? (i := 15) rfl)) (by decide +kernel)
theorem mm_okY_47 : mm_okY ((⟨"WhichWord$Text", "empty", "()V"⟩ : MethodName), prog_6_method_5_code, 1, none, 5) := mm_chkY_ok (ps := [59, 314]) (mm_in2 (List.mem_of_getElem? (i := 19) rfl)) (by decide +kernel)
theorem mm_okY_48 : mm_okY ((⟨"WhichWord$Text", "length", "()I"⟩ : MethodName), prog_6_method_2_code, 1, (some .int), 5) := mm_chkY_ok (ps := [59, 709]) (mm_in3 (List.mem_of_getElem? (i := 174) rfl)) (by decide +kernel)
theorem mm_okY_49 : mm_okY ((⟨"WhichWord$Told", "<init>", "()V"⟩ : MethodName), prog_7_method_1_code, 2, none, 6) := mm_chkY_ok (ps := [60, 98]) (mm_in1 (List.mem_of_getElem? (i := 42) rfl)) (by decide +kernel)
theorem mm_okY_50 : mm_okY ((⟨"WhichWord$Told", "addScene", "(LWhichWord$Scene;)I"⟩ : MethodName), prog_7_method_3_code, 4, (some .int), 6) := mm_chkY_ok (ps := [60, 318]) (mm_in2 (List.mem_of_getElem? (i := 23) rfl)) (by decide +kernel)
theorem mm_okY_51 : mm_okY ((⟨"WhichWord$Told", "dropLatest", "()I"⟩ : MethodName), prog_7_method_4_code, 3, (some .int), 6) := mm_chkY_ok (ps := [60, 358]) (mm_in2 (List.mem_of_getElem? (i := 63) rfl)) (by decide +kernel)
theorem mm_okY_52 : mm_okY ((⟨"WhichWord$Told", "dropSayingsOf", "(I)V"⟩ : MethodName), prog_7_method_5_code, 4, none, 6) := mm_chkY_ok (ps := [60, 363]) (mm_in2 (List.mem_of_getElem? (i := 67) rfl)) (by decide +kernel)
theorem mm_okY_53 : mm_okY ((⟨"WhichWord$Told", "tellSaid", "(IIZ)Z"⟩ : MethodName), prog_7_method_6_code, 4, (some .boolean), 6) := mm_chkY_ok (ps := [60, 387]) (mm_in2 (List.mem_of_getElem? (i := 92) rfl)) (by decide +kernel)
theorem mm_okY_54 : mm_okY ((⟨"WhichWord$Told", "countLeft", "(II)I"⟩ : MethodName), prog_7_method_12_code, 5, (some .int), 6) := mm_chkY_ok (ps := [60, 425]) (mm_in2 (List.mem_of_getElem? (i := 130) rfl)) (by decide +kernel)
theorem mm_okY_55 : mm_okY ((⟨"WhichWord$Told", "isLeft", "(III)Z"⟩ : MethodName), prog_7_method_11_code, 4, (some .boolean), 6) := mm_chkY_ok (ps := [60, 429]) (mm_in2 (List.mem_of_getElem? (i := 134) rfl)) (by decide +kernel)
theorem mm_okY_56 : mm_okY ((⟨"WhichWord$Told", "leftAt", "(III)I"⟩ : MethodName), prog_7_method_13_code, 6, (some .int), 6) := mm_chkY_ok (ps := [60, 434]) (mm_in2 (List.mem_of_getElem? (i := 139) rfl)) (by decide +kernel)
theorem mm_okY_57 : mm_okY ((⟨"WhichWord$Told", "heaviestLeft", "(II)I"⟩ : MethodName), prog_7_method_14_code, 7, (some .int), 6) := mm_chkY_ok (ps := [60, 442]) (mm_in2 (List.mem_of_getElem? (i := 147) rfl)) (by decide +kernel)
theorem mm_okY_58 : mm_okY ((⟨"WhichWord$Told", "countTwos", "(I)I"⟩ : MethodName), prog_7_method_16_code, 5, (some .int), 6) := mm_chkY_ok (ps := [60, 546]) (mm_in3 (List.mem_of_getElem? (i := 11) rfl)) (by decide +kernel)
theorem mm_okY_59 : mm_okY ((⟨"WhichWord$Told", "isTwo", "(III)Z"⟩ : MethodName), prog_7_method_15_code, 4, (some .boolean), 6) := mm_chkY_ok (ps := [60, 551]) (mm_in3 (List.mem_of_getElem? (i := 15) rfl)) (by decide +kernel)
theorem mm_okY_60 : mm_okY ((⟨"WhichWord$Told", "firstTwo", "(I)I"⟩ : MethodName), prog_7_method_17_code, 4, (some .int), 6) := mm_chkY_ok (ps := [60, 554]) (mm_in3 (List.mem_of_getElem? (i := 19) rfl)) (by decide +kernel)
theorem mm_okY_61 : mm_okY ((⟨"WhichWord$Told", "addSaying", "(II)I"⟩ : MethodName), prog_7_method_7_code, 3, (some .int), 6) := mm_chkY_ok (ps := [60, 572]) (mm_in3 (List.mem_of_getElem? (i := 37) rfl)) (by decide +kernel)
theorem mm_okY_62 : mm_okY ((⟨"WhichWord$Told", "fittingOrders", "()I"⟩ : MethodName), prog_7_method_19_code, 5, (some .int), 6) := mm_chkY_ok (ps := [60, 580]) (mm_in3 (List.mem_of_getElem? (i := 45) rfl)) (by decide +kernel)
theorem mm_okY_63 : mm_okY ((⟨"WhichWord$Told", "fits", "(LWhichWord$Scene;II)Z"⟩ : MethodName), prog_7_method_20_code, 7, (some .boolean), 6) := mm_chkY_ok (ps := [60, 585]) (mm_in3 (List.mem_of_getElem? (i := 49) rfl)) (by decide +kernel)
theorem mm_okY_64 : mm_okY ((⟨"WhichWord$Told", "isMark", "(I)Z"⟩ : MethodName), prog_7_method_21_code, 1, (some .boolean), 0) := mm_chkY_ok (ps := [60, 595]) (mm_in3 (List.mem_of_getElem? (i := 59) rfl)) (by decide +kernel)
theorem mm_okY_65 : mm_okY ((⟨"WhichWord$Told", "countUnparted", "()I"⟩ : MethodName), prog_7_method_18_code, 4, (some .int), 6) := mm_chkY_ok (ps := [60, 666]) (mm_in3 (List.mem_of_getElem? (i := 131) rfl)) (by decide +kernel)
theorem mm_okY_66 : mm_okY ((⟨"WhichWord$Told", "copyFrom", "(LWhichWord$Told;)V"⟩ : MethodName), prog_7_method_2_code, 3, none, 6) := mm_chkY_ok (ps := [60, 682]) (mm_in3 (List.mem_of_getElem? (i := 147) rfl)) (by decide +kernel)
theorem mm_okY_67 : mm_okY ((⟨"WhichWord$Told", "countThings", "()I"⟩ : MethodName), prog_7_method_8_code, 3, (some .int), 6) := mm_chkY_ok (ps := [60, 697]) (mm_in3 (List.mem_of_getElem? (i := 162) rfl)) (by decide +kernel)
theorem mm_okY_68 : mm_okY ((⟨"WhichWord$Told", "countDoings", "()I"⟩ : MethodName), prog_7_method_9_code, 3, (some .int), 6) := mm_chkY_ok (ps := [60, 701]) (mm_in3 (List.mem_of_getElem? (i := 166) rfl)) (by decide +kernel)
theorem mm_okY_69 : mm_okY ((⟨"WhichWord$Told", "countSaid", "()I"⟩ : MethodName), prog_7_method_10_code, 3, (some .int), 6) := mm_chkY_ok (ps := [60, 705]) (mm_in3 (List.mem_of_getElem? (i := 170) rfl)) (by decide +kernel)
theorem mm_okY_70 : mm_okY ((⟨"WhichWord", "<init>", "()V"⟩ : MethodName), prog_1_method_1_code, 2, none, 7) := mm_chkY_ok (ps := [58, 73]) (mm_in1 (List.mem_of_getElem? (i := 17) rfl)) (by decide +kernel)
theorem mm_okY_71 : mm_okY ((⟨"WhichWord", "feed", "(IJ)I"⟩ : MethodName), prog_1_method_2_code, 4, (some .int), 7) := mm_chkY_ok (ps := [58, 252]) (mm_in1 (List.mem_of_getElem? (i := 197) rfl)) (by decide +kernel)
theorem mm_okY_72 : mm_okY ((⟨"WhichWord", "refuse", "(I)I"⟩ : MethodName), prog_1_method_35_code, 3, (some .int), 7) := mm_chkY_ok (ps := [58, 257]) (mm_in1 (List.mem_of_getElem? (i := 201) rfl)) (by decide +kernel)
theorem mm_okY_73 : mm_okY ((⟨"WhichWord", "scene", "()I"⟩ : MethodName), prog_1_method_3_code, 4, (some .int), 7) := mm_chkY_ok (ps := [58, 268]) (mm_in1 (List.mem_of_getElem? (i := 213) rfl)) (by decide +kernel)
theorem mm_okY_74 : mm_okY ((⟨"WhichWord", "kindOf", "(I)I"⟩ : MethodName), prog_1_method_42_code, 3, (some .int), 0) := mm_chkY_ok (ps := [58, 326]) (mm_in2 (List.mem_of_getElem? (i := 30) rfl)) (by decide +kernel)
theorem mm_okY_75 : mm_okY ((⟨"WhichWord", "takeBack", "()I"⟩ : MethodName), prog_1_method_4_code, 1, (some .int), 7) := mm_chkY_ok (ps := [58, 354]) (mm_in2 (List.mem_of_getElem? (i := 59) rfl)) (by decide +kernel)
theorem mm_okY_76 : mm_okY ((⟨"WhichWord", "thing", "(II)I"⟩ : MethodName), prog_1_method_5_code, 3, (some .int), 7) := mm_chkY_ok (ps := [58, 366]) (mm_in2 (List.mem_of_getElem? (i := 71) rfl)) (by decide +kernel)
theorem mm_okY_77 : mm_okY ((⟨"WhichWord", "noScene", "(I)Z"⟩ : MethodName), prog_1_method_36_code, 2, (some .boolean), 7) := mm_chkY_ok (ps := [58, 371]) (mm_in2 (List.mem_of_getElem? (i := 75) rfl)) (by decide +kernel)
theorem mm_okY_78 : mm_okY ((⟨"WhichWord", "doing", "(II)I"⟩ : MethodName), prog_1_method_6_code, 3, (some .int), 7) := mm_chkY_ok (ps := [58, 375]) (mm_in2 (List.mem_of_getElem? (i := 80) rfl)) (by decide +kernel)
theorem mm_okY_79 : mm_okY ((⟨"WhichWord", "say", "(IIZ)I"⟩ : MethodName), prog_1_method_7_code, 4, (some .int), 7) := mm_chkY_ok (ps := [58, 380]) (mm_in2 (List.mem_of_getElem? (i := 85) rfl)) (by decide +kernel)
theorem mm_okY_80 : mm_okY ((⟨"WhichWord", "noWord", "(I)Z"⟩ : MethodName), prog_1_method_37_code, 1, (some .boolean), 0) := mm_chkY_ok (ps := [58, 384]) (mm_in2 (List.mem_of_getElem? (i := 88) rfl)) (by decide +kernel)
theorem mm_okY_81 : mm_okY ((⟨"WhichWord", "isIn", "(II)Z"⟩ : MethodName), prog_1_method_43_code, 2, (some .boolean), 0) := mm_chkY_ok (ps := [58, 391]) (mm_in2 (List.mem_of_getElem? (i := 95) rfl)) (by decide +kernel)
theorem mm_okY_82 : mm_okY ((⟨"WhichWord", "said", "(I)I"⟩ : MethodName), prog_1_method_8_code, 2, (some .int), 7) := mm_chkY_ok (ps := [58, 394]) (mm_in2 (List.mem_of_getElem? (i := 99) rfl)) (by decide +kernel)
theorem mm_okY_83 : mm_okY ((⟨"WhichWord", "kind", "(I)I"⟩ : MethodName), prog_1_method_9_code, 2, (some .int), 7) := mm_chkY_ok (ps := [58, 404]) (mm_in2 (List.mem_of_getElem? (i := 109) rfl)) (by decide +kernel)
theorem mm_okY_84 : mm_okY ((⟨"WhichWord", "noMeaning", "(I)Z"⟩ : MethodName), prog_1_method_38_code, 1, (some .boolean), 0) := mm_chkY_ok (ps := [58, 408]) (mm_in2 (List.mem_of_getElem? (i := 112) rfl)) (by decide +kernel)
theorem mm_okY_85 : mm_okY ((⟨"WhichWord", "weight", "(II)I"⟩ : MethodName), prog_1_method_10_code, 4, (some .int), 7) := mm_chkY_ok (ps := [58, 412]) (mm_in2 (List.mem_of_getElem? (i := 117) rfl)) (by decide +kernel)
theorem mm_okY_86 : mm_okY ((⟨"WhichWord", "has", "(II)I"⟩ : MethodName), prog_1_method_11_code, 3, (some .int), 7) := mm_chkY_ok (ps := [58, 416]) (mm_in2 (List.mem_of_getElem? (i := 121) rfl)) (by decide +kernel)
theorem mm_okY_87 : mm_okY ((⟨"WhichWord", "left", "(III)I"⟩ : MethodName), prog_1_method_12_code, 4, (some .int), 7) := mm_chkY_ok (ps := [58, 421]) (mm_in2 (List.mem_of_getElem? (i := 126) rfl)) (by decide +kernel)
theorem mm_okY_88 : mm_okY ((⟨"WhichWord", "plainest", "(II)I"⟩ : MethodName), prog_1_method_13_code, 3, (some .int), 7) := mm_chkY_ok (ps := [58, 438]) (mm_in2 (List.mem_of_getElem? (i := 143) rfl)) (by decide +kernel)
theorem mm_okY_89 : mm_okY ((⟨"WhichWord", "judge", "(II)I"⟩ : MethodName), prog_1_method_14_code, 3, (some .int), 7) := mm_chkY_ok (ps := [58, 447]) (mm_in2 (List.mem_of_getElem? (i := 152) rfl)) (by decide +kernel)
theorem mm_okY_90 : mm_okY ((⟨"WhichWord", "firstIn", "(I)I"⟩ : MethodName), prog_1_method_44_code, 2, (some .int), 0) := mm_chkY_ok (ps := [58, 451]) (mm_in2 (List.mem_of_getElem? (i := 155) rfl)) (by decide +kernel)
theorem mm_okY_91 : mm_okY ((⟨"WhichWord", "set", "(II)I"⟩ : MethodName), prog_1_method_15_code, 4, (some .int), 7) := mm_chkY_ok (ps := [58, 454]) (mm_in2 (List.mem_of_getElem? (i := 159) rfl)) (by decide +kernel)
theorem mm_okY_92 : mm_okY ((⟨"WhichWord", "likelihood", "(II)J"⟩ : MethodName), prog_1_method_16_code, 3, (some .long), 7) := mm_chkY_ok (ps := [58, 458]) (mm_in2 (List.mem_of_getElem? (i := 163) rfl)) (by decide +kernel)
theorem mm_okY_93 : mm_okY ((⟨"WhichWord", "chance", "(III)J"⟩ : MethodName), prog_1_method_17_code, 4, (some .long), 7) := mm_chkY_ok (ps := [58, 473]) (mm_in2 (List.mem_of_getElem? (i := 178) rfl)) (by decide +kernel)
theorem mm_okY_94 : mm_okY ((⟨"WhichWord", "likeliest", "(I)I"⟩ : MethodName), prog_1_method_18_code, 2, (some .int), 7) := mm_chkY_ok (ps := [58, 493]) (mm_in2 (List.mem_of_getElem? (i := 198) rfl)) (by decide +kernel)
theorem mm_okY_95 : mm_okY ((⟨"WhichWord", "givings", "(I)I"⟩ : MethodName), prog_1_method_19_code, 2, (some .int), 7) := mm_chkY_ok (ps := [58, 502]) (mm_in2 (List.mem_of_getElem? (i := 207) rfl)) (by decide +kernel)
theorem mm_okY_96 : mm_okY ((⟨"WhichWord", "noSetToGive", "(I)Z"⟩ : MethodName), prog_1_method_39_code, 1, (some .boolean), 0) := mm_chkY_ok (ps := [58, 506]) (mm_in2 (List.mem_of_getElem? (i := 210) rfl)) (by decide +kernel)
theorem mm_okY_97 : mm_okY ((⟨"WhichWord", "giving", "(II)I"⟩ : MethodName), prog_1_method_20_code, 3, (some .int), 7) := mm_chkY_ok (ps := [58, 530]) (mm_in2 (List.mem_of_getElem? (i := 235) rfl)) (by decide +kernel)
theorem mm_okY_98 : mm_okY ((⟨"WhichWord", "two", "(II)I"⟩ : MethodName), prog_1_method_21_code, 3, (some .int), 7) := mm_chkY_ok (ps := [58, 542]) (mm_in3 (List.mem_of_getElem? (i := 7) rfl)) (by decide +kernel)
theorem mm_okY_99 : mm_okY ((⟨"WhichWord", "give", "(II)I"⟩ : MethodName), prog_1_method_22_code, 4, (some .int), 7) := mm_chkY_ok (ps := [58, 558]) (mm_in3 (List.mem_of_getElem? (i := 23) rfl)) (by decide +kernel)
theorem mm_okY_100 : mm_okY ((⟨"WhichWord", "saying", "(II)I"⟩ : MethodName), prog_1_method_23_code, 3, (some .int), 7) := mm_chkY_ok (ps := [58, 562]) (mm_in3 (List.mem_of_getElem? (i := 27) rfl)) (by decide +kernel)
theorem mm_okY_101 : mm_okY ((⟨"WhichWord", "noThreeWords", "(I)Z"⟩ : MethodName), prog_1_method_40_code, 4, (some .boolean), 0) := mm_chkY_ok (ps := [58, 566]) (mm_in3 (List.mem_of_getElem? (i := 30) rfl)) (by decide +kernel)
theorem mm_okY_102 : mm_okY ((⟨"WhichWord", "wordAt", "(II)I"⟩ : MethodName), prog_1_method_41_code, 2, (some .int), 0) := mm_chkY_ok (ps := [58, 569]) (mm_in3 (List.mem_of_getElem? (i := 33) rfl)) (by decide +kernel)
theorem mm_okY_103 : mm_okY ((⟨"WhichWord", "orders", "()I"⟩ : MethodName), prog_1_method_24_code, 1, (some .int), 7) := mm_chkY_ok (ps := [58, 576]) (mm_in3 (List.mem_of_getElem? (i := 41) rfl)) (by decide +kernel)
theorem mm_okY_104 : mm_okY ((⟨"WhichWord", "next", "(I)I"⟩ : MethodName), prog_1_method_25_code, 2, (some .int), 7) := mm_chkY_ok (ps := [58, 599]) (mm_in3 (List.mem_of_getElem? (i := 64) rfl)) (by decide +kernel)
theorem mm_okY_105 : mm_okY ((⟨"WhichWord", "enough", "(I)I"⟩ : MethodName), prog_1_method_26_code, 2, (some .int), 7) := mm_chkY_ok (ps := [58, 621]) (mm_in3 (List.mem_of_getElem? (i := 86) rfl)) (by decide +kernel)
theorem mm_okY_106 : mm_okY ((⟨"WhichWord", "help", "(III)I"⟩ : MethodName), prog_1_method_27_code, 4, (some .int), 7) := mm_chkY_ok (ps := [58, 653]) (mm_in3 (List.mem_of_getElem? (i := 118) rfl)) (by decide +kernel)
theorem mm_okY_107 : mm_okY ((⟨"WhichWord", "never", "()I"⟩ : MethodName), prog_1_method_28_code, 1, (some .int), 7) := mm_chkY_ok (ps := [58, 662]) (mm_in3 (List.mem_of_getElem? (i := 127) rfl)) (by decide +kernel)
theorem mm_okY_108 : mm_okY ((⟨"WhichWord", "same", "(II)I"⟩ : MethodName), prog_1_method_29_code, 3, (some .int), 7) := mm_chkY_ok (ps := [58, 670]) (mm_in3 (List.mem_of_getElem? (i := 135) rfl)) (by decide +kernel)
theorem mm_okY_109 : mm_okY ((⟨"WhichWord", "part", "(II)I"⟩ : MethodName), prog_1_method_30_code, 3, (some .int), 7) := mm_chkY_ok (ps := [58, 674]) (mm_in3 (List.mem_of_getElem? (i := 139) rfl)) (by decide +kernel)
theorem mm_okY_110 : mm_okY ((⟨"WhichWord", "image", "()I"⟩ : MethodName), prog_1_method_31_code, 1, (some .int), 7) := mm_chkY_ok (ps := [58, 678]) (mm_in3 (List.mem_of_getElem? (i := 143) rfl)) (by decide +kernel)
theorem mm_okY_111 : mm_okY ((⟨"WhichWord", "restore", "()I"⟩ : MethodName), prog_1_method_32_code, 1, (some .int), 7) := mm_chkY_ok (ps := [58, 689]) (mm_in3 (List.mem_of_getElem? (i := 154) rfl)) (by decide +kernel)
theorem mm_okY_112 : mm_okY ((⟨"WhichWord", "count", "(I)I"⟩ : MethodName), prog_1_method_33_code, 2, (some .int), 7) := mm_chkY_ok (ps := [58, 693]) (mm_in3 (List.mem_of_getElem? (i := 158) rfl)) (by decide +kernel)
theorem mm_okY_113 : mm_okY ((⟨"WhichWord", "countRefusals", "(I)I"⟩ : MethodName), prog_1_method_34_code, 2, (some .int), 7) := mm_chkY_ok (ps := [58, 714]) (mm_in3 (List.mem_of_getElem? (i := 178) rfl)) (by decide +kernel)
theorem mm_okY_114 : mm_okY ((⟨"WhichWordModel", "<init>", "()V"⟩ : MethodName), prog_9_method_1_code, 1, none, 8) := mm_chkY_ok (ps := [66, 719]) (mm_in3 (List.mem_of_getElem? (i := 183) rfl)) (by decide +kernel)
theorem mm_okY_115 : mm_okY ((⟨"WhichWordModel", "feed", "(IJ)I"⟩ : MethodName), prog_9_method_9_code, 5, (some .int), 8) := mm_chkY_ok (ps := [66, 818]) (mm_in4 (List.mem_of_getElem? (i := 43) rfl)) (by decide +kernel)
theorem mm_okY_116 : mm_okY ((⟨"WhichWordModel", "refuse", "(I)I"⟩ : MethodName), prog_9_method_4_code, 2, (some .int), 8) := mm_chkY_ok (ps := [66, 823]) (mm_in4 (List.mem_of_getElem? (i := 47) rfl)) (by decide +kernel)
theorem mm_okY_117 : mm_okY ((⟨"WhichWordModel", "scene", "()I"⟩ : MethodName), prog_9_method_15_code, 2, (some .int), 8) := mm_chkY_ok (ps := [66, 827]) (mm_in4 (List.mem_of_getElem? (i := 52) rfl)) (by decide +kernel)
theorem mm_okY_118 : mm_okY ((⟨"WhichWordModel", "readScene", "(I)V"⟩ : MethodName), prog_9_method_14_code, 2, none, 8) := mm_chkY_ok (ps := [66, 832]) (mm_in4 (List.mem_of_getElem? (i := 56) rfl)) (by decide +kernel)
theorem mm_okY_119 : mm_okY ((⟨"WhichWordModel", "readThing", "(I)V"⟩ : MethodName), prog_9_method_11_code, 4, none, 8) := mm_chkY_ok (ps := [66, 836]) (mm_in4 (List.mem_of_getElem? (i := 60) rfl)) (by decide +kernel)
theorem mm_okY_120 : mm_okY ((⟨"WhichWordModel", "here", "()I"⟩ : MethodName), prog_9_method_10_code, 1, (some .int), 8) := mm_chkY_ok (ps := [66, 840]) (mm_in4 (List.mem_of_getElem? (i := 64) rfl)) (by decide +kernel)
theorem mm_okY_121 : mm_okY ((⟨"WhichWordModel", "in", "(JJJ)Z"⟩ : MethodName), prog_9_method_3_code, 6, (some .boolean), 0) := mm_chkY_ok (ps := [66, 844]) (mm_in4 (List.mem_of_getElem? (i := 68) rfl)) (by decide +kernel)
theorem mm_okY_122 : mm_okY ((⟨"WhichWordModel", "readDoing", "(I)V"⟩ : MethodName), prog_9_method_13_code, 6, none, 8) := mm_chkY_ok (ps := [66, 848]) (mm_in4 (List.mem_of_getElem? (i := 72) rfl)) (by decide +kernel)
theorem mm_okY_123 : mm_okY ((⟨"WhichWordModel", "readPlace", "(II)I"⟩ : MethodName), prog_9_method_12_code, 4, (some .int), 8) := mm_chkY_ok (ps := [66, 852]) (mm_in4 (List.mem_of_getElem? (i := 76) rfl)) (by decide +kernel)
theorem mm_okY_124 : mm_okY ((⟨"WhichWordModel", "findHas", "(I)V"⟩ : MethodName), prog_9_method_18_code, 7, none, 8) := mm_chkY_ok (ps := [66, 857]) (mm_in4 (List.mem_of_getElem? (i := 81) rfl)) (by decide +kernel)
theorem mm_okY_125 : mm_okY ((⟨"WhichWordModel", "manyWith", "(II)I"⟩ : MethodName), prog_9_method_17_code, 5, (some .int), 8) := mm_chkY_ok (ps := [66, 861]) (mm_in4 (List.mem_of_getElem? (i := 85) rfl)) (by decide +kernel)
theorem mm_okY_126 : mm_okY ((⟨"WhichWordModel", "hasMark", "(III)Z"⟩ : MethodName), prog_9_method_16_code, 4, (some .boolean), 8) := mm_chkY_ok (ps := [66, 865]) (mm_in4 (List.mem_of_getElem? (i := 89) rfl)) (by decide +kernel)
theorem mm_okY_127 : mm_okY ((⟨"WhichWordModel", "takeBack", "()I"⟩ : MethodName), prog_9_method_20_code, 3, (some .int), 8) := mm_chkY_ok (ps := [66, 868]) (mm_in4 (List.mem_of_getElem? (i := 93) rfl)) (by decide +kernel)
theorem mm_okY_128 : mm_okY ((⟨"WhichWordModel", "thing", "(II)I"⟩ : MethodName), prog_9_method_21_code, 3, (some .int), 8) := mm_chkY_ok (ps := [66, 872]) (mm_in4 (List.mem_of_getElem? (i := 97) rfl)) (by decide +kernel)
theorem mm_okY_129 : mm_okY ((⟨"WhichWordModel", "isScene", "(I)Z"⟩ : MethodName), prog_9_method_5_code, 2, (some .boolean), 8) := mm_chkY_ok (ps := [66, 877]) (mm_in4 (List.mem_of_getElem? (i := 101) rfl)) (by decide +kernel)
theorem mm_okY_130 : mm_okY ((⟨"WhichWordModel", "doing", "(II)I"⟩ : MethodName), prog_9_method_22_code, 4, (some .int), 8) := mm_chkY_ok (ps := [66, 880]) (mm_in4 (List.mem_of_getElem? (i := 105) rfl)) (by decide +kernel)
theorem mm_okY_131 : mm_okY ((⟨"WhichWordModel", "say", "(IIZ)I"⟩ : MethodName), prog_9_method_23_code, 5, (some .int), 8) := mm_chkY_ok (ps := [66, 884]) (mm_in4 (List.mem_of_getElem? (i := 109) rfl)) (by decide +kernel)
theorem mm_okY_132 : mm_okY ((⟨"WhichWordModel", "isWord", "(I)Z"⟩ : MethodName), prog_9_method_6_code, 1, (some .boolean), 0) := mm_chkY_ok (ps := [66, 888]) (mm_in4 (List.mem_of_getElem? (i := 112) rfl)) (by decide +kernel)
theorem mm_okY_133 : mm_okY ((⟨"WhichWordModel", "said", "(I)I"⟩ : MethodName), prog_9_method_25_code, 2, (some .int), 8) := mm_chkY_ok (ps := [66, 892]) (mm_in4 (List.mem_of_getElem? (i := 117) rfl)) (by decide +kernel)
theorem mm_okY_134 : mm_okY ((⟨"WhichWordModel", "saidIn", "(I)I"⟩ : MethodName), prog_9_method_24_code, 4, (some .int), 8) := mm_chkY_ok (ps := [66, 897]) (mm_in4 (List.mem_of_getElem? (i := 121) rfl)) (by decide +kernel)
theorem mm_okY_135 : mm_okY ((⟨"WhichWordModel", "kind", "(I)I"⟩ : MethodName), prog_9_method_26_code, 2, (some .int), 8) := mm_chkY_ok (ps := [66, 900]) (mm_in4 (List.mem_of_getElem? (i := 125) rfl)) (by decide +kernel)
theorem mm_okY_136 : mm_okY ((⟨"WhichWordModel", "isMeaning", "(I)Z"⟩ : MethodName), prog_9_method_7_code, 1, (some .boolean), 0) := mm_chkY_ok (ps := [66, 904]) (mm_in4 (List.mem_of_getElem? (i := 128) rfl)) (by decide +kernel)
theorem mm_okY_137 : mm_okY ((⟨"WhichWordModel", "kindOf", "(I)I"⟩ : MethodName), prog_9_method_19_code, 1, (some .int), 0) := mm_chkY_ok (ps := [66, 908]) (mm_in4 (List.mem_of_getElem? (i := 132) rfl)) (by decide +kernel)
theorem mm_okY_138 : mm_okY ((⟨"WhichWordModel", "weight", "(II)I"⟩ : MethodName), prog_9_method_27_code, 4, (some .int), 8) := mm_chkY_ok (ps := [66, 911]) (mm_in4 (List.mem_of_getElem? (i := 136) rfl)) (by decide +kernel)
theorem mm_okY_139 : mm_okY ((⟨"WhichWordModel", "has", "(II)I"⟩ : MethodName), prog_9_method_28_code, 3, (some .int), 8) := mm_chkY_ok (ps := [66, 916]) (mm_in4 (List.mem_of_getElem? (i := 141) rfl)) (by decide +kernel)
theorem mm_okY_140 : mm_okY ((⟨"WhichWordModel", "left", "(III)I"⟩ : MethodName), prog_9_method_30_code, 6, (some .int), 8) := mm_chkY_ok (ps := [66, 920]) (mm_in4 (List.mem_of_getElem? (i := 145) rfl)) (by decide +kernel)
theorem mm_okY_141 : mm_okY ((⟨"WhichWordModel", "isLeft", "(III)Z"⟩ : MethodName), prog_9_method_29_code, 6, (some .boolean), 8) := mm_chkY_ok (ps := [66, 925]) (mm_in4 (List.mem_of_getElem? (i := 149) rfl)) (by decide +kernel)
theorem mm_okY_142 : mm_okY ((⟨"WhichWordModel", "plainest", "(II)I"⟩ : MethodName), prog_9_method_31_code, 6, (some .int), 8) := mm_chkY_ok (ps := [66, 928]) (mm_in4 (List.mem_of_getElem? (i := 153) rfl)) (by decide +kernel)
theorem mm_okY_143 : mm_okY ((⟨"WhichWordModel", "judge", "(II)I"⟩ : MethodName), prog_9_method_32_code, 4, (some .int), 8) := mm_chkY_ok (ps := [66, 932]) (mm_in4 (List.mem_of_getElem? (i := 157) rfl)) (by decide +kernel)
theorem mm_okY_144 : mm_okY ((⟨"WhichWordModel", "set", "(II)I"⟩ : MethodName), prog_9_method_33_code, 4, (some .int), 8) := mm_chkY_ok (ps := [66, 936]) (mm_in4 (List.mem_of_getElem? (i := 161) rfl)) (by decide +kernel)
theorem mm_okY_145 : mm_okY ((⟨"WhichWordModel", "likelihood", "(II)J"⟩ : MethodName), prog_9_method_35_code, 3, (some .long), 8) := mm_chkY_ok (ps := [66, 940]) (mm_in4 (List.mem_of_getElem? (i := 165) rfl)) (by decide +kernel)
theorem mm_okY_146 : mm_okY ((⟨"WhichWordModel", "likelihoodOf", "(II)J"⟩ : MethodName), prog_9_method_34_code, 7, (some .long), 8) := mm_chkY_ok (ps := [66, 945]) (mm_in4 (List.mem_of_getElem? (i := 169) rfl)) (by decide +kernel)
theorem mm_okY_147 : mm_okY ((⟨"WhichWordModel", "chance", "(III)J"⟩ : MethodName), prog_9_method_37_code, 10, (some .long), 8) := mm_chkY_ok (ps := [66, 949]) (mm_in4 (List.mem_of_getElem? (i := 174) rfl)) (by decide +kernel)
theorem mm_okY_148 : mm_okY ((⟨"WhichWordModel", "divisor", "(JJ)J"⟩ : MethodName), prog_9_method_36_code, 10, (some .long), 0) := mm_chkY_ok (ps := [66, 953]) (mm_in4 (List.mem_of_getElem? (i := 177) rfl)) (by decide +kernel)
theorem mm_okY_149 : mm_okY ((⟨"WhichWordModel", "likeliest", "(I)I"⟩ : MethodName), prog_9_method_38_code, 4, (some .int), 8) := mm_chkY_ok (ps := [66, 956]) (mm_in4 (List.mem_of_getElem? (i := 181) rfl)) (by decide +kernel)
theorem mm_okY_150 : mm_okY ((⟨"WhichWordModel", "givings", "(I)I"⟩ : MethodName), prog_9_method_42_code, 5, (some .int), 8) := mm_chkY_ok (ps := [66, 960]) (mm_in4 (List.mem_of_getElem? (i := 185) rfl)) (by decide +kernel)
theorem mm_okY_151 : mm_okY ((⟨"WhichWordModel", "isSet", "(I)Z"⟩ : MethodName), prog_9_method_39_code, 2, (some .boolean), 8) := mm_chkY_ok (ps := [66, 965]) (mm_in4 (List.mem_of_getElem? (i := 189) rfl)) (by decide +kernel)
theorem mm_okY_152 : mm_okY ((⟨"WhichWordModel", "ones", "(I)I"⟩ : MethodName), prog_9_method_8_code, 3, (some .int), 0) := mm_chkY_ok (ps := [66, 969]) (mm_in4 (List.mem_of_getElem? (i := 193) rfl)) (by decide +kernel)
theorem mm_okY_153 : mm_okY ((⟨"WhichWordModel", "findWords", "(I)V"⟩ : MethodName), prog_9_method_40_code, 3, none, 8) := mm_chkY_ok (ps := [66, 973]) (mm_in4 (List.mem_of_getElem? (i := 197) rfl)) (by decide +kernel)
theorem mm_okY_154 : mm_okY ((⟨"WhichWordModel", "commonTo", "(I)I"⟩ : MethodName), prog_9_method_41_code, 6, (some .int), 8) := mm_chkY_ok (ps := [66, 977]) (mm_in4 (List.mem_of_getElem? (i := 201) rfl)) (by decide +kernel)
theorem mm_okY_155 : mm_okY ((⟨"WhichWordModel", "giving", "(II)I"⟩ : MethodName), prog_9_method_46_code, 5, (some .int), 8) := mm_chkY_ok (ps := [66, 980]) (mm_in4 (List.mem_of_getElem? (i := 205) rfl)) (by decide +kernel)
theorem mm_okY_156 : mm_okY ((⟨"WhichWordModel", "findFirst", "(I)Z"⟩ : MethodName), prog_9_method_43_code, 5, (some .boolean), 8) := mm_chkY_ok (ps := [66, 985]) (mm_in4 (List.mem_of_getElem? (i := 209) rfl)) (by decide +kernel)
theorem mm_okY_157 : mm_okY ((⟨"WhichWordModel", "canHave", "(I)Z"⟩ : MethodName), prog_9_method_44_code, 5, (some .boolean), 8) := mm_chkY_ok (ps := [66, 989]) (mm_in4 (List.mem_of_getElem? (i := 213) rfl)) (by decide +kernel)
theorem mm_okY_158 : mm_okY ((⟨"WhichWordModel", "isOneLeft", "(I)Z"⟩ : MethodName), prog_9_method_45_code, 3, (some .boolean), 8) := mm_chkY_ok (ps := [66, 993]) (mm_in4 (List.mem_of_getElem? (i := 217) rfl)) (by decide +kernel)
theorem mm_okY_159 : mm_okY ((⟨"WhichWordModel", "two", "(II)I"⟩ : MethodName), prog_9_method_47_code, 9, (some .int), 8) := mm_chkY_ok (ps := [66, 996]) (mm_in4 (List.mem_of_getElem? (i := 221) rfl)) (by decide +kernel)
theorem mm_okY_160 : mm_okY ((⟨"WhichWordModel", "give", "(II)I"⟩ : MethodName), prog_9_method_48_code, 4, (some .int), 8) := mm_chkY_ok (ps := [66, 1000]) (mm_in4 (List.mem_of_getElem? (i := 225) rfl)) (by decide +kernel)
theorem mm_okY_161 : mm_okY ((⟨"WhichWordModel", "saying", "(II)I"⟩ : MethodName), prog_9_method_49_code, 6, (some .int), 8) := mm_chkY_ok (ps := [66, 1004]) (mm_in4 (List.mem_of_getElem? (i := 229) rfl)) (by decide +kernel)
theorem mm_okY_162 : mm_okY ((⟨"WhichWordModel", "orders", "()I"⟩ : MethodName), prog_9_method_52_code, 5, (some .int), 8) := mm_chkY_ok (ps := [66, 1008]) (mm_in4 (List.mem_of_getElem? (i := 233) rfl)) (by decide +kernel)
theorem mm_okY_163 : mm_okY ((⟨"WhichWordModel", "fits", "(II)Z"⟩ : MethodName), prog_9_method_51_code, 7, (some .boolean), 8) := mm_chkY_ok (ps := [66, 1013]) (mm_in4 (List.mem_of_getElem? (i := 237) rfl)) (by decide +kernel)
theorem mm_okY_164 : mm_okY ((⟨"WhichWordModel", "isDone", "(IIII)Z"⟩ : MethodName), prog_9_method_50_code, 7, (some .boolean), 8) := mm_chkY_ok (ps := [66, 1017]) (mm_in5 (List.mem_of_getElem? (i := 1) rfl)) (by decide +kernel)
theorem mm_okY_165 : mm_okY ((⟨"WhichWordModel", "next", "(I)I"⟩ : MethodName), prog_9_method_53_code, 9, (some .int), 8) := mm_chkY_ok (ps := [66, 1022]) (mm_in5 (List.mem_of_getElem? (i := 7) rfl)) (by decide +kernel)
theorem mm_okY_166 : mm_okY ((⟨"WhichWordModel", "enough", "(I)I"⟩ : MethodName), prog_9_method_58_code, 4, (some .int), 8) := mm_chkY_ok (ps := [66, 1026]) (mm_in5 (List.mem_of_getElem? (i := 11) rfl)) (by decide +kernel)
theorem mm_okY_167 : mm_okY ((⟨"WhichWordModel", "findShown", "(I)V"⟩ : MethodName), prog_9_method_54_code, 3, none, 8) := mm_chkY_ok (ps := [66, 1031]) (mm_in5 (List.mem_of_getElem? (i := 15) rfl)) (by decide +kernel)
theorem mm_okY_168 : mm_okY ((⟨"WhichWordModel", "findUnlike", "(I)V"⟩ : MethodName), prog_9_method_55_code, 6, none, 8) := mm_chkY_ok (ps := [66, 1035]) (mm_in5 (List.mem_of_getElem? (i := 19) rfl)) (by decide +kernel)
theorem mm_okY_169 : mm_okY ((⟨"WhichWordModel", "partsAll", "(I)Z"⟩ : MethodName), prog_9_method_56_code, 4, (some .boolean), 8) := mm_chkY_ok (ps := [66, 1039]) (mm_in5 (List.mem_of_getElem? (i := 23) rfl)) (by decide +kernel)
theorem mm_okY_170 : mm_okY ((⟨"WhichWordModel", "scenesOf", "(I)I"⟩ : MethodName), prog_9_method_57_code, 4, (some .int), 8) := mm_chkY_ok (ps := [66, 1043]) (mm_in5 (List.mem_of_getElem? (i := 27) rfl)) (by decide +kernel)
theorem mm_okY_171 : mm_okY ((⟨"WhichWordModel", "help", "(III)I"⟩ : MethodName), prog_9_method_59_code, 9, (some .int), 8) := mm_chkY_ok (ps := [66, 1046]) (mm_in5 (List.mem_of_getElem? (i := 31) rfl)) (by decide +kernel)
theorem mm_okY_172 : mm_okY ((⟨"WhichWordModel", "leftBy", "(II)I"⟩ : MethodName), prog_9_method_60_code, 7, (some .int), 8) := mm_chkY_ok (ps := [66, 1051]) (mm_in5 (List.mem_of_getElem? (i := 35) rfl)) (by decide +kernel)
theorem mm_okY_173 : mm_okY ((⟨"WhichWordModel", "never", "()I"⟩ : MethodName), prog_9_method_62_code, 4, (some .int), 8) := mm_chkY_ok (ps := [66, 1054]) (mm_in5 (List.mem_of_getElem? (i := 39) rfl)) (by decide +kernel)
theorem mm_okY_174 : mm_okY ((⟨"WhichWordModel", "partOf", "(II)I"⟩ : MethodName), prog_9_method_61_code, 4, (some .int), 8) := mm_chkY_ok (ps := [66, 1059]) (mm_in5 (List.mem_of_getElem? (i := 43) rfl)) (by decide +kernel)
theorem mm_okY_175 : mm_okY ((⟨"WhichWordModel", "same", "(II)I"⟩ : MethodName), prog_9_method_63_code, 3, (some .int), 8) := mm_chkY_ok (ps := [66, 1062]) (mm_in5 (List.mem_of_getElem? (i := 47) rfl)) (by decide +kernel)
theorem mm_okY_176 : mm_okY ((⟨"WhichWordModel", "part", "(II)I"⟩ : MethodName), prog_9_method_64_code, 3, (some .int), 8) := mm_chkY_ok (ps := [66, 1066]) (mm_in5 (List.mem_of_getElem? (i := 51) rfl)) (by decide +kernel)
theorem mm_okY_177 : mm_okY ((⟨"WhichWordModel", "image", "()I"⟩ : MethodName), prog_9_method_67_code, 1, (some .int), 8) := mm_chkY_ok (ps := [66, 1070]) (mm_in5 (List.mem_of_getElem? (i := 55) rfl)) (by decide +kernel)
theorem mm_okY_178 : mm_okY ((⟨"WhichWordModel", "moveAll", "()V"⟩ : MethodName), prog_9_method_66_code, 3, none, 8) := mm_chkY_ok (ps := [66, 1075]) (mm_in5 (List.mem_of_getElem? (i := 59) rfl)) (by decide +kernel)
theorem mm_okY_179 : mm_okY ((⟨"WhichWordModel", "move", "(I)I"⟩ : MethodName), prog_9_method_65_code, 2, (some .int), 8) := mm_chkY_ok (ps := [66, 1079]) (mm_in5 (List.mem_of_getElem? (i := 63) rfl)) (by decide +kernel)
theorem mm_okY_180 : mm_okY ((⟨"WhichWordModel", "restore", "()I"⟩ : MethodName), prog_9_method_68_code, 2, (some .int), 8) := mm_chkY_ok (ps := [66, 1082]) (mm_in5 (List.mem_of_getElem? (i := 67) rfl)) (by decide +kernel)
theorem mm_okY_181 : mm_okY ((⟨"WhichWordModel", "count", "(I)I"⟩ : MethodName), prog_9_method_69_code, 4, (some .int), 8) := mm_chkY_ok (ps := [66, 1086]) (mm_in5 (List.mem_of_getElem? (i := 71) rfl)) (by decide +kernel)
theorem mm_okY_182 : mm_okY ((⟨"java/util/Arrays", "fill", "([II)V"⟩ : MethodName), prog_13_method_103_code, 4, none, 0) := mm_chkY_ok (ps := [62, 125]) (mm_in1 (List.mem_of_getElem? (i := 69) rfl)) (by decide +kernel)
theorem mm_okY_183 : mm_okY ((⟨"java/lang/Integer", "bitCount", "(I)I"⟩ : MethodName), prog_10_method_49_code, 1, (some .int), 0) := mm_chkY_ok (ps := [67, 398]) (mm_in2 (List.mem_of_getElem? (i := 102) rfl)) (by decide +kernel)
theorem mm_okY_lt_20 : ∀ j, j < 20 → mm_okY (mm_Yt j) := (lt_s (lt_s (lt_s (lt_s (lt_s (lt_s (lt_s (lt_s (lt_s (lt_s (lt_s (lt_s (lt_s (lt_s (lt_s (lt_s (lt_s (lt_s (lt_s (lt_s (fun a h => absurd h (Nat.not_lt_zero a)) mm_okY_0) mm_okY_1) mm_okY_2) mm_okY_3) mm_okY_4) mm_okY_5) mm_okY_6) mm_okY_7) mm_okY_8) mm_okY_9) mm_okY_10) mm_okY_11) mm_okY_12) mm_okY_13) mm_okY_14) mm_okY_15) mm_okY_16) mm_okY_17) mm_okY_18) mm_okY_19)
theorem mm_okY_lt_40 : ∀ j, j < 40 → mm_okY (mm_Yt j) := (lt_s (lt_s (lt_s (lt_s (lt_s (lt_s (lt_s (lt_s (lt_s (lt_s (lt_s (lt_s (lt_s (lt_s (lt_s (lt_s (lt_s (lt_s (lt_s (lt_s mm_okY_lt_20 mm_okY_20) mm_okY_21) mm_okY_22) mm_okY_23) mm_okY_24) mm_okY_25) mm_okY_26) mm_okY_27) mm_okY_28) mm_okY_29) mm_okY_30) mm_okY_31) mm_okY_32) mm_okY_33) mm_okY_34) mm_okY_35) mm_okY_36) mm_okY_37) mm_okY_38) mm_okY_39)
theorem mm_okY_lt_60 : ∀ j, j < 60 → mm_okY (mm_Yt j) := (lt_s (lt_s (lt_s (lt_s (lt_s (lt_s (lt_s (lt_s (lt_s (lt_s (lt_s (lt_s (lt_s (lt_s (lt_s (lt_s (lt_s (lt_s (lt_s (lt_s mm_okY_lt_40 mm_okY_40) mm_okY_41) mm_okY_42) mm_okY_43) mm_okY_44) mm_okY_45) mm_okY_46) mm_okY_47) mm_okY_48) mm_okY_49) mm_okY_50) mm_okY_51) mm_okY_52) mm_okY_53) mm_okY_54) mm_okY_55) mm_okY_56) mm_okY_57) mm_okY_58) mm_okY_59)
theorem mm_okY_lt_80 : ∀ j, j < 80 → mm_okY (mm_Yt j) := (lt_s (lt_s (lt_s (lt_s (lt_s (lt_s (lt_s (lt_s (lt_s (lt_s (lt_s (lt_s (lt_s (lt_s (lt_s (lt_s (lt_s (lt_s (lt_s (lt_s mm_okY_lt_60 mm_okY_60) mm_okY_61) mm_okY_62) mm_okY_63) mm_okY_64) mm_okY_65) mm_okY_66) mm_okY_67) mm_okY_68) mm_okY_69) mm_okY_70) mm_okY_71) mm_okY_72) mm_okY_73) mm_okY_74) mm_okY_75) mm_okY_76) mm_okY_77) mm_okY_78) mm_okY_79)
theorem mm_okY_lt_100 : ∀ j, j < 100 → mm_okY (mm_Yt j) := (lt_s (lt_s (lt_s (lt_s (lt_s (lt_s (lt_s (lt_s (lt_s (lt_s (lt_s (lt_s (lt_s (lt_s (lt_s (lt_s (lt_s (lt_s (lt_s (lt_s mm_okY_lt_80 mm_okY_80) mm_okY_81) mm_okY_82) mm_okY_83) mm_okY_84) mm_okY_85) mm_okY_86) mm_okY_87) mm_okY_88) mm_okY_89) mm_okY_90) mm_okY_91) mm_okY_92) mm_okY_93) mm_okY_94) mm_okY_95) mm_okY_96) mm_okY_97) mm_okY_98) mm_okY_99)
theorem mm_okY_lt_120 : ∀ j, j < 120 → mm_okY (mm_Yt j) := (lt_s (lt_s (lt_s (lt_s (lt_s (lt_s (lt_s (lt_s (lt_s (lt_s (lt_s (lt_s (lt_s (lt_s (lt_s (lt_s (lt_s (lt_s (lt_s (lt_s mm_okY_lt_100 mm_okY_100) mm_okY_101) mm_okY_102) mm_okY_103) mm_okY_104) mm_okY_105) mm_okY_106) mm_okY_107) mm_okY_108) mm_okY_109) mm_okY_110) mm_okY_111) mm_okY_112) mm_okY_113) mm_okY_114) mm_okY_115) mm_okY_116) mm_okY_117) mm_okY_118) mm_okY_119)
theorem mm_okY_lt_140 : ∀ j, j < 140 → mm_okY (mm_Yt j) := (lt_s (lt_s (lt_s (lt_s (lt_s (lt_s (lt_s (lt_s (lt_s (lt_s (lt_s (lt_s (lt_s (lt_s (lt_s (lt_s (lt_s (lt_s (lt_s (lt_s mm_okY_lt_120 mm_okY_120) mm_okY_121) mm_okY_122) mm_okY_123) mm_okY_124) mm_okY_125) mm_okY_126) mm_okY_127) mm_okY_128) mm_okY_129) mm_okY_130) mm_okY_131) mm_okY_132) mm_okY_133) mm_okY_134) mm_okY_135) mm_okY_136) mm_okY_137) mm_okY_138) mm_okY_139)
theorem mm_okY_lt_160 : ∀ j, j < 160 → mm_okY (mm_Yt j) := (lt_s (lt_s (lt_s (lt_s (lt_s (lt_s (lt_s (lt_s (lt_s (lt_s (lt_s (lt_s (lt_s (lt_s (lt_s (lt_s (lt_s (lt_s (lt_s (lt_s mm_okY_lt_140 mm_okY_140) mm_okY_141) mm_okY_142) mm_okY_143) mm_okY_144) mm_okY_145) mm_okY_146) mm_okY_147) mm_okY_148) mm_okY_149) mm_okY_150) mm_okY_151) mm_okY_152) mm_okY_153) mm_okY_154) mm_okY_155) mm_okY_156) mm_okY_157) mm_okY_158) mm_okY_159)
theorem mm_okY_lt_180 : ∀ j, j < 180 → mm_okY (mm_Yt j) := (lt_s (lt_s (lt_s (lt_s (lt_s (lt_s (lt_s (lt_s (lt_s (lt_s (lt_s (lt_s (lt_s (lt_s (lt_s (lt_s (lt_s (lt_s (lt_s (lt_s mm_okY_lt_160 mm_okY_160) mm_okY_161) mm_okY_162) mm_okY_163) mm_okY_164) mm_okY_165) mm_okY_166) mm_okY_167) mm_okY_168) mm_okY_169) mm_okY_170) mm_okY_171) mm_okY_172) mm_okY_173) mm_okY_174) mm_okY_175) mm_okY_176) mm_okY_177) mm_okY_178) mm_okY_179)
theorem mm_okY_lt_184 : ∀ j, j < 184 → mm_okY (mm_Yt j) := (lt_s (lt_s (lt_s (lt_s mm_okY_lt_180 mm_okY_180) mm_okY_181) mm_okY_182) mm_okY_183)
theorem mm_Yt_ok : ∀ j, j < 184 → mm_okY (mm_Yt j) := mm_okY_lt_184
end
section
/-! every method's resolved code is its code -/
theorem ck_Chooser_init : mm_chkL 184 mm_Yt "WhichWord$Chooser" true prog_2_method_1_code none cd_Chooser_init cp_Chooser_init = true := by decide +kernel
theorem ck_Chooser_evenest : mm_chkL 184 mm_Yt "WhichWord$Chooser" false prog_2_method_2_code (some .int) cd_Chooser_evenest cp_Chooser_evenest = true := by decide +kernel
theorem ck_Chooser_shownFor : mm_chkL 184 mm_Yt "WhichWord$Chooser" false prog_2_method_5_code (some .int) cd_Chooser_shownFor cp_Chooser_shownFor = true := by decide +kernel
theorem ck_Chooser_countLeftHad : mm_chkL 184 mm_Yt "WhichWord$Chooser" false prog_2_method_7_code (some .int) cd_Chooser_countLeftHad cp_Chooser_countLeftHad = true := by decide +kernel
theorem ck_Chooser_fewestParting : mm_chkL 184 mm_Yt "WhichWord$Chooser" false prog_2_method_3_code (some .int) cd_Chooser_fewestParting cp_Chooser_fewestParting = true := by decide +kernel
theorem ck_Chooser_firstShownFor : mm_chkL 184 mm_Yt "WhichWord$Chooser" false prog_2_method_6_code (some .int) cd_Chooser_firstShownFor cp_Chooser_firstShownFor = true := by decide +kernel
theorem ck_Chooser_listUnlike : mm_chkL 184 mm_Yt "WhichWord$Chooser" false prog_2_method_8_code none cd_Chooser_listUnlike cp_Chooser_listUnlike = true := by decide +kernel
theorem ck_Chooser_addUnlike : mm_chkL 184 mm_Yt "WhichWord$Chooser" false prog_2_method_9_code none cd_Chooser_addUnlike cp_Chooser_addUnlike = true := by decide +kernel
theorem ck_Chooser_listSets : mm_chkL 184 mm_Yt "WhichWord$Chooser" false prog_2_method_11_code none cd_Chooser_listSets cp_Chooser_listSets = true := by decide +kernel
theorem ck_Chooser_addSets : mm_chkL 184 mm_Yt "WhichWord$Chooser" false prog_2_method_12_code none cd_Chooser_addSets cp_Chooser_addSets = true := by decide +kernel
theorem ck_Chooser_partsAll : mm_chkL 184 mm_Yt "WhichWord$Chooser" false prog_2_method_10_code (some .boolean) cd_Chooser_partsAll cp_Chooser_partsAll = true := by decide +kernel
theorem ck_Chooser_mostTelling : mm_chkL 184 mm_Yt "WhichWord$Chooser" false prog_2_method_4_code (some .int) cd_Chooser_mostTelling cp_Chooser_mostTelling = true := by decide +kernel
theorem ck_Giver_init : mm_chkL 184 mm_Yt "WhichWord$Giver" true prog_3_method_1_code none cd_Giver_init cp_Giver_init = true := by decide +kernel
theorem ck_Giver_countWays : mm_chkL 184 mm_Yt "WhichWord$Giver" false prog_3_method_2_code (some .int) cd_Giver_countWays cp_Giver_countWays = true := by decide +kernel
theorem ck_Giver_countLefts : mm_chkL 184 mm_Yt "WhichWord$Giver" false prog_3_method_4_code none cd_Giver_countLefts cp_Giver_countLefts = true := by decide +kernel
theorem ck_Giver_ways : mm_chkL 184 mm_Yt "WhichWord$Giver" false prog_3_method_6_code (some .int) cd_Giver_ways cp_Giver_ways = true := by decide +kernel
theorem ck_Giver_lost : mm_chkL 184 mm_Yt "WhichWord$Giver" false prog_3_method_7_code (some .int) cd_Giver_lost cp_Giver_lost = true := by decide +kernel
theorem ck_Giver_firstFor : mm_chkL 184 mm_Yt "WhichWord$Giver" false prog_3_method_3_code (some .int) cd_Giver_firstFor cp_Giver_firstFor = true := by decide +kernel
theorem ck_Giver_leastFor : mm_chkL 184 mm_Yt "WhichWord$Giver" false prog_3_method_5_code (some .int) cd_Giver_leastFor cp_Giver_leastFor = true := by decide +kernel
theorem ck_Likely_init : mm_chkL 184 mm_Yt "WhichWord$Likely" true prog_4_method_1_code none cd_Likely_init cp_Likely_init = true := by decide +kernel
theorem ck_Likely_of : mm_chkL 184 mm_Yt "WhichWord$Likely" false prog_4_method_2_code (some .long) cd_Likely_of cp_Likely_of = true := by decide +kernel
theorem ck_Likely_latestSaid : mm_chkL 184 mm_Yt "WhichWord$Likely" false prog_4_method_3_code (some .int) cd_Likely_latestSaid cp_Likely_latestSaid = true := by decide +kernel
theorem ck_Likely_aboveLine : mm_chkL 184 mm_Yt "WhichWord$Likely" false prog_4_method_5_code (some .long) cd_Likely_aboveLine cp_Likely_aboveLine = true := by decide +kernel
theorem ck_Likely_ofAll : mm_chkL 184 mm_Yt "WhichWord$Likely" false prog_4_method_4_code (some .long) cd_Likely_ofAll cp_Likely_ofAll = true := by decide +kernel
theorem ck_Likely_commonDivisor : mm_chkL 184 mm_Yt "WhichWord$Likely" false prog_4_method_7_code (some .long) cd_Likely_commonDivisor cp_Likely_commonDivisor = true := by decide +kernel
theorem ck_Likely_belowLine : mm_chkL 184 mm_Yt "WhichWord$Likely" false prog_4_method_6_code (some .long) cd_Likely_belowLine cp_Likely_belowLine = true := by decide +kernel
theorem ck_Likely_greatest : mm_chkL 184 mm_Yt "WhichWord$Likely" false prog_4_method_8_code (some .int) cd_Likely_greatest cp_Likely_greatest = true := by decide +kernel
theorem ck_Scene_init : mm_chkL 184 mm_Yt "WhichWord$Scene" true prog_5_method_1_code none cd_Scene_init cp_Scene_init = true := by decide +kernel
theorem ck_Scene_addThing : mm_chkL 184 mm_Yt "WhichWord$Scene" false prog_5_method_2_code none cd_Scene_addThing cp_Scene_addThing = true := by decide +kernel
theorem ck_Scene_addDoing : mm_chkL 184 mm_Yt "WhichWord$Scene" false prog_5_method_3_code none cd_Scene_addDoing cp_Scene_addDoing = true := by decide +kernel
theorem ck_Scene_holds : mm_chkL 184 mm_Yt "WhichWord$Scene" false prog_5_method_6_code (some .boolean) cd_Scene_holds cp_Scene_holds = true := by decide +kernel
theorem ck_Scene_countThings : mm_chkL 184 mm_Yt "WhichWord$Scene" false prog_5_method_8_code (some .int) cd_Scene_countThings cp_Scene_countThings = true := by decide +kernel
theorem ck_Scene_thingAt : mm_chkL 184 mm_Yt "WhichWord$Scene" false prog_5_method_4_code (some .int) cd_Scene_thingAt cp_Scene_thingAt = true := by decide +kernel
theorem ck_Scene_holdsJoined : mm_chkL 184 mm_Yt "WhichWord$Scene" false prog_5_method_7_code (some .boolean) cd_Scene_holdsJoined cp_Scene_holdsJoined = true := by decide +kernel
theorem ck_Scene_isDone : mm_chkL 184 mm_Yt "WhichWord$Scene" false prog_5_method_9_code (some .boolean) cd_Scene_isDone cp_Scene_isDone = true := by decide +kernel
theorem ck_Scene_doingAt : mm_chkL 184 mm_Yt "WhichWord$Scene" false prog_5_method_5_code (some .int) cd_Scene_doingAt cp_Scene_doingAt = true := by decide +kernel
theorem ck_Text_init : mm_chkL 184 mm_Yt "WhichWord$Text" true prog_6_method_1_code none cd_Text_init cp_Text_init = true := by decide +kernel
theorem ck_Text_room : mm_chkL 184 mm_Yt "WhichWord$Text" false prog_6_method_3_code (some .int) cd_Text_room cp_Text_room = true := by decide +kernel
theorem ck_Text_append : mm_chkL 184 mm_Yt "WhichWord$Text" false prog_6_method_6_code (some .int) cd_Text_append cp_Text_append = true := by decide +kernel
theorem ck_Text_readScene : mm_chkL 184 mm_Yt "WhichWord$Text" false prog_6_method_7_code (some .boolean) cd_Text_readScene cp_Text_readScene = true := by decide +kernel
theorem ck_Text_readThings : mm_chkL 184 mm_Yt "WhichWord$Text" false prog_6_method_8_code (some .boolean) cd_Text_readThings cp_Text_readThings = true := by decide +kernel
theorem ck_Text_readThing : mm_chkL 184 mm_Yt "WhichWord$Text" false prog_6_method_9_code (some .boolean) cd_Text_readThing cp_Text_readThing = true := by decide +kernel
theorem ck_Text_take : mm_chkL 184 mm_Yt "WhichWord$Text" false prog_6_method_12_code (some .boolean) cd_Text_take cp_Text_take = true := by decide +kernel
theorem ck_Text_takeOneOf : mm_chkL 184 mm_Yt "WhichWord$Text" false prog_6_method_13_code (some .int) cd_Text_takeOneOf cp_Text_takeOneOf = true := by decide +kernel
theorem ck_Text_readDoings : mm_chkL 184 mm_Yt "WhichWord$Text" false prog_6_method_10_code (some .boolean) cd_Text_readDoings cp_Text_readDoings = true := by decide +kernel
theorem ck_Text_readDoing : mm_chkL 184 mm_Yt "WhichWord$Text" false prog_6_method_11_code (some .boolean) cd_Text_readDoing cp_Text_readDoing = true := by decide +kernel
theorem ck_Text_place : mm_chkL 184 mm_Yt "WhichWord$Text" false prog_6_method_4_code (some .int) cd_Text_place cp_Text_place = true := by decide +kernel
theorem ck_Text_empty : mm_chkL 184 mm_Yt "WhichWord$Text" false prog_6_method_5_code none cd_Text_empty cp_Text_empty = true := by decide +kernel
theorem ck_Text_length : mm_chkL 184 mm_Yt "WhichWord$Text" false prog_6_method_2_code (some .int) cd_Text_length cp_Text_length = true := by decide +kernel
theorem ck_Told_init : mm_chkL 184 mm_Yt "WhichWord$Told" true prog_7_method_1_code none cd_Told_init cp_Told_init = true := by decide +kernel
theorem ck_Told_addScene : mm_chkL 184 mm_Yt "WhichWord$Told" false prog_7_method_3_code (some .int) cd_Told_addScene cp_Told_addScene = true := by decide +kernel
theorem ck_Told_dropLatest : mm_chkL 184 mm_Yt "WhichWord$Told" false prog_7_method_4_code (some .int) cd_Told_dropLatest cp_Told_dropLatest = true := by decide +kernel
theorem ck_Told_dropSayingsOf : mm_chkL 184 mm_Yt "WhichWord$Told" false prog_7_method_5_code none cd_Told_dropSayingsOf cp_Told_dropSayingsOf = true := by decide +kernel
theorem ck_Told_tellSaid : mm_chkL 184 mm_Yt "WhichWord$Told" false prog_7_method_6_code (some .boolean) cd_Told_tellSaid cp_Told_tellSaid = true := by decide +kernel
theorem ck_Told_countLeft : mm_chkL 184 mm_Yt "WhichWord$Told" false prog_7_method_12_code (some .int) cd_Told_countLeft cp_Told_countLeft = true := by decide +kernel
theorem ck_Told_isLeft : mm_chkL 184 mm_Yt "WhichWord$Told" false prog_7_method_11_code (some .boolean) cd_Told_isLeft cp_Told_isLeft = true := by decide +kernel
theorem ck_Told_leftAt : mm_chkL 184 mm_Yt "WhichWord$Told" false prog_7_method_13_code (some .int) cd_Told_leftAt cp_Told_leftAt = true := by decide +kernel
theorem ck_Told_heaviestLeft : mm_chkL 184 mm_Yt "WhichWord$Told" false prog_7_method_14_code (some .int) cd_Told_heaviestLeft cp_Told_heaviestLeft = true := by decide +kernel
theorem ck_Told_countTwos : mm_chkL 184 mm_Yt "WhichWord$Told" false prog_7_method_16_code (some .int) cd_Told_countTwos cp_Told_countTwos = true := by decide +kernel
theorem ck_Told_isTwo : mm_chkL 184 mm_Yt "WhichWord$Told" false prog_7_method_15_code (some .boolean) cd_Told_isTwo cp_Told_isTwo = true := by decide +kernel
theorem ck_Told_firstTwo : mm_chkL 184 mm_Yt "WhichWord$Told" false prog_7_method_17_code (some .int) cd_Told_firstTwo cp_Told_firstTwo = true := by decide +kernel
theorem ck_Told_addSaying : mm_chkL 184 mm_Yt "WhichWord$Told" false prog_7_method_7_code (some .int) cd_Told_addSaying cp_Told_addSaying = true := by decide +kernel
theorem ck_Told_fittingOrders : mm_chkL 184 mm_Yt "WhichWord$Told" false prog_7_method_19_code (some .int) cd_Told_fittingOrders cp_Told_fittingOrders = true := by decide +kernel
theorem ck_Told_fits : mm_chkL 184 mm_Yt "WhichWord$Told" false prog_7_method_20_code (some .boolean) cd_Told_fits cp_Told_fits = true := by decide +kernel
theorem ck_Told_isMark : mm_chkL 184 mm_Yt "WhichWord$Told" false prog_7_method_21_code (some .boolean) cd_Told_isMark cp_Told_isMark = true := by decide +kernel
theorem ck_Told_countUnparted : mm_chkL 184 mm_Yt "WhichWord$Told" false prog_7_method_18_code (some .int) cd_Told_countUnparted cp_Told_countUnparted = true := by decide +kernel
theorem ck_Told_copyFrom : mm_chkL 184 mm_Yt "WhichWord$Told" false prog_7_method_2_code none cd_Told_copyFrom cp_Told_copyFrom = true := by decide +kernel
theorem ck_Told_countThings : mm_chkL 184 mm_Yt "WhichWord$Told" false prog_7_method_8_code (some .int) cd_Told_countThings cp_Told_countThings = true := by decide +kernel
theorem ck_Told_countDoings : mm_chkL 184 mm_Yt "WhichWord$Told" false prog_7_method_9_code (some .int) cd_Told_countDoings cp_Told_countDoings = true := by decide +kernel
theorem ck_Told_countSaid : mm_chkL 184 mm_Yt "WhichWord$Told" false prog_7_method_10_code (some .int) cd_Told_countSaid cp_Told_countSaid = true := by decide +kernel
theorem ck_Word_init : mm_chkL 184 mm_Yt "WhichWord" true prog_1_method_1_code none cd_Word_init cp_Word_init = true := by decide +kernel
theorem ck_Word_feed : mm_chkL 184 mm_Yt "WhichWord" false prog_1_method_2_code (some .int) cd_Word_feed cp_Word_feed = true := by decide +kernel
theorem ck_Word_refuse : mm_chkL 184 mm_Yt "WhichWord" false prog_1_method_35_code (some .int) cd_Word_refuse cp_Word_refuse = true := by decide +kernel
theorem ck_Word_scene : mm_chkL 184 mm_Yt "WhichWord" false prog_1_method_3_code (some .int) cd_Word_scene cp_Word_scene = true := by decide +kernel
theorem ck_Word_kindOf : mm_chkL 184 mm_Yt "WhichWord" false prog_1_method_42_code (some .int) cd_Word_kindOf cp_Word_kindOf = true := by decide +kernel
theorem ck_Word_takeBack : mm_chkL 184 mm_Yt "WhichWord" false prog_1_method_4_code (some .int) cd_Word_takeBack cp_Word_takeBack = true := by decide +kernel
theorem ck_Word_thing : mm_chkL 184 mm_Yt "WhichWord" false prog_1_method_5_code (some .int) cd_Word_thing cp_Word_thing = true := by decide +kernel
theorem ck_Word_noScene : mm_chkL 184 mm_Yt "WhichWord" false prog_1_method_36_code (some .boolean) cd_Word_noScene cp_Word_noScene = true := by decide +kernel
theorem ck_Word_doing : mm_chkL 184 mm_Yt "WhichWord" false prog_1_method_6_code (some .int) cd_Word_doing cp_Word_doing = true := by decide +kernel
theorem ck_Word_say : mm_chkL 184 mm_Yt "WhichWord" false prog_1_method_7_code (some .int) cd_Word_say cp_Word_say = true := by decide +kernel
theorem ck_Word_noWord : mm_chkL 184 mm_Yt "WhichWord" false prog_1_method_37_code (some .boolean) cd_Word_noWord cp_Word_noWord = true := by decide +kernel
theorem ck_Word_isIn : mm_chkL 184 mm_Yt "WhichWord" false prog_1_method_43_code (some .boolean) cd_Word_isIn cp_Word_isIn = true := by decide +kernel
theorem ck_Word_said : mm_chkL 184 mm_Yt "WhichWord" false prog_1_method_8_code (some .int) cd_Word_said cp_Word_said = true := by decide +kernel
theorem ck_Word_kind : mm_chkL 184 mm_Yt "WhichWord" false prog_1_method_9_code (some .int) cd_Word_kind cp_Word_kind = true := by decide +kernel
theorem ck_Word_noMeaning : mm_chkL 184 mm_Yt "WhichWord" false prog_1_method_38_code (some .boolean) cd_Word_noMeaning cp_Word_noMeaning = true := by decide +kernel
theorem ck_Word_weight : mm_chkL 184 mm_Yt "WhichWord" false prog_1_method_10_code (some .int) cd_Word_weight cp_Word_weight = true := by decide +kernel
theorem ck_Word_has : mm_chkL 184 mm_Yt "WhichWord" false prog_1_method_11_code (some .int) cd_Word_has cp_Word_has = true := by decide +kernel
theorem ck_Word_left : mm_chkL 184 mm_Yt "WhichWord" false prog_1_method_12_code (some .int) cd_Word_left cp_Word_left = true := by decide +kernel
theorem ck_Word_plainest : mm_chkL 184 mm_Yt "WhichWord" false prog_1_method_13_code (some .int) cd_Word_plainest cp_Word_plainest = true := by decide +kernel
theorem ck_Word_judge : mm_chkL 184 mm_Yt "WhichWord" false prog_1_method_14_code (some .int) cd_Word_judge cp_Word_judge = true := by decide +kernel
theorem ck_Word_firstIn : mm_chkL 184 mm_Yt "WhichWord" false prog_1_method_44_code (some .int) cd_Word_firstIn cp_Word_firstIn = true := by decide +kernel
theorem ck_Word_set : mm_chkL 184 mm_Yt "WhichWord" false prog_1_method_15_code (some .int) cd_Word_set cp_Word_set = true := by decide +kernel
theorem ck_Word_likelihood : mm_chkL 184 mm_Yt "WhichWord" false prog_1_method_16_code (some .long) cd_Word_likelihood cp_Word_likelihood = true := by decide +kernel
theorem ck_Word_chance : mm_chkL 184 mm_Yt "WhichWord" false prog_1_method_17_code (some .long) cd_Word_chance cp_Word_chance = true := by decide +kernel
theorem ck_Word_likeliest : mm_chkL 184 mm_Yt "WhichWord" false prog_1_method_18_code (some .int) cd_Word_likeliest cp_Word_likeliest = true := by decide +kernel
theorem ck_Word_givings : mm_chkL 184 mm_Yt "WhichWord" false prog_1_method_19_code (some .int) cd_Word_givings cp_Word_givings = true := by decide +kernel
theorem ck_Word_noSetToGive : mm_chkL 184 mm_Yt "WhichWord" false prog_1_method_39_code (some .boolean) cd_Word_noSetToGive cp_Word_noSetToGive = true := by decide +kernel
theorem ck_Word_giving : mm_chkL 184 mm_Yt "WhichWord" false prog_1_method_20_code (some .int) cd_Word_giving cp_Word_giving = true := by decide +kernel
theorem ck_Word_two : mm_chkL 184 mm_Yt "WhichWord" false prog_1_method_21_code (some .int) cd_Word_two cp_Word_two = true := by decide +kernel
theorem ck_Word_give : mm_chkL 184 mm_Yt "WhichWord" false prog_1_method_22_code (some .int) cd_Word_give cp_Word_give = true := by decide +kernel
theorem ck_Word_saying : mm_chkL 184 mm_Yt "WhichWord" false prog_1_method_23_code (some .int) cd_Word_saying cp_Word_saying = true := by decide +kernel
theorem ck_Word_noThreeWords : mm_chkL 184 mm_Yt "WhichWord" false prog_1_method_40_code (some .boolean) cd_Word_noThreeWords cp_Word_noThreeWords = true := by decide +kernel
theorem ck_Word_wordAt : mm_chkL 184 mm_Yt "WhichWord" false prog_1_method_41_code (some .int) cd_Word_wordAt cp_Word_wordAt = true := by decide +kernel
theorem ck_Word_orders : mm_chkL 184 mm_Yt "WhichWord" false prog_1_method_24_code (some .int) cd_Word_orders cp_Word_orders = true := by decide +kernel
theorem ck_Word_next : mm_chkL 184 mm_Yt "WhichWord" false prog_1_method_25_code (some .int) cd_Word_next cp_Word_next = true := by decide +kernel
theorem ck_Word_enough : mm_chkL 184 mm_Yt "WhichWord" false prog_1_method_26_code (some .int) cd_Word_enough cp_Word_enough = true := by decide +kernel
theorem ck_Word_help : mm_chkL 184 mm_Yt "WhichWord" false prog_1_method_27_code (some .int) cd_Word_help cp_Word_help = true := by decide +kernel
theorem ck_Word_never : mm_chkL 184 mm_Yt "WhichWord" false prog_1_method_28_code (some .int) cd_Word_never cp_Word_never = true := by decide +kernel
theorem ck_Word_same : mm_chkL 184 mm_Yt "WhichWord" false prog_1_method_29_code (some .int) cd_Word_same cp_Word_same = true := by decide +kernel
theorem ck_Word_part : mm_chkL 184 mm_Yt "WhichWord" false prog_1_method_30_code (some .int) cd_Word_part cp_Word_part = true := by decide +kernel
theorem ck_Word_image : mm_chkL 184 mm_Yt "WhichWord" false prog_1_method_31_code (some .int) cd_Word_image cp_Word_image = true := by decide +kernel
theorem ck_Word_restore : mm_chkL 184 mm_Yt "WhichWord" false prog_1_method_32_code (some .int) cd_Word_restore cp_Word_restore = true := by decide +kernel
theorem ck_Word_count : mm_chkL 184 mm_Yt "WhichWord" false prog_1_method_33_code (some .int) cd_Word_count cp_Word_count = true := by decide +kernel
theorem ck_Word_countRefusals : mm_chkL 184 mm_Yt "WhichWord" false prog_1_method_34_code (some .int) cd_Word_countRefusals cp_Word_countRefusals = true := by decide +kernel
theorem ck_Model_init : mm_chkL 184 mm_Yt "WhichWordModel" true prog_9_method_1_code none cd_Model_init cp_Model_init = true := by decide +kernel
theorem ck_Model_feed : mm_chkL 184 mm_Yt "WhichWordModel" false prog_9_method_9_code (some .int) cd_Model_feed cp_Model_feed = true := by decide +kernel
theorem ck_Model_refuse : mm_chkL 184 mm_Yt "WhichWordModel" false prog_9_method_4_code (some .int) cd_Model_refuse cp_Model_refuse = true := by decide +kernel
theorem ck_Model_scene : mm_chkL 184 mm_Yt "WhichWordModel" false prog_9_method_15_code (some .int) cd_Model_scene cp_Model_scene = true := by decide +kernel
theorem ck_Model_readScene : mm_chkL 184 mm_Yt "WhichWordModel" false prog_9_method_14_code none cd_Model_readScene cp_Model_readScene = true := by decide +kernel
theorem ck_Model_readThing : mm_chkL 184 mm_Yt "WhichWordModel" false prog_9_method_11_code none cd_Model_readThing cp_Model_readThing = true := by decide +kernel
theorem ck_Model_here : mm_chkL 184 mm_Yt "WhichWordModel" false prog_9_method_10_code (some .int) cd_Model_here cp_Model_here = true := by decide +kernel
theorem ck_Model_in : mm_chkL 184 mm_Yt "WhichWordModel" false prog_9_method_3_code (some .boolean) cd_Model_in cp_Model_in = true := by decide +kernel
theorem ck_Model_readDoing : mm_chkL 184 mm_Yt "WhichWordModel" false prog_9_method_13_code none cd_Model_readDoing cp_Model_readDoing = true := by decide +kernel
theorem ck_Model_readPlace : mm_chkL 184 mm_Yt "WhichWordModel" false prog_9_method_12_code (some .int) cd_Model_readPlace cp_Model_readPlace = true := by decide +kernel
theorem ck_Model_findHas : mm_chkL 184 mm_Yt "WhichWordModel" false prog_9_method_18_code none cd_Model_findHas cp_Model_findHas = true := by decide +kernel
theorem ck_Model_manyWith : mm_chkL 184 mm_Yt "WhichWordModel" false prog_9_method_17_code (some .int) cd_Model_manyWith cp_Model_manyWith = true := by decide +kernel
theorem ck_Model_hasMark : mm_chkL 184 mm_Yt "WhichWordModel" false prog_9_method_16_code (some .boolean) cd_Model_hasMark cp_Model_hasMark = true := by decide +kernel
theorem ck_Model_takeBack : mm_chkL 184 mm_Yt "WhichWordModel" false prog_9_method_20_code (some .int) cd_Model_takeBack cp_Model_takeBack = true := by decide +kernel
theorem ck_Model_thing : mm_chkL 184 mm_Yt "WhichWordModel" false prog_9_method_21_code (some .int) cd_Model_thing cp_Model_thing = true := by decide +kernel
theorem ck_Model_isScene : mm_chkL 184 mm_Yt "WhichWordModel" false prog_9_method_5_code (some .boolean) cd_Model_isScene cp_Model_isScene = true := by decide +kernel
theorem ck_Model_doing : mm_chkL 184 mm_Yt "WhichWordModel" false prog_9_method_22_code (some .int) cd_Model_doing cp_Model_doing = true := by decide +kernel
theorem ck_Model_say : mm_chkL 184 mm_Yt "WhichWordModel" false prog_9_method_23_code (some .int) cd_Model_say cp_Model_say = true := by decide +kernel
theorem ck_Model_isWord : mm_chkL 184 mm_Yt "WhichWordModel" false prog_9_method_6_code (some .boolean) cd_Model_isWord cp_Model_isWord = true := by decide +kernel
theorem ck_Model_said : mm_chkL 184 mm_Yt "WhichWordModel" false prog_9_method_25_code (some .int) cd_Model_said cp_Model_said = true := by decide +kernel
theorem ck_Model_saidIn : mm_chkL 184 mm_Yt "WhichWordModel" false prog_9_method_24_code (some .int) cd_Model_saidIn cp_Model_saidIn = true := by decide +kernel
theorem ck_Model_kind : mm_chkL 184 mm_Yt "WhichWordModel" false prog_9_method_26_code (some .int) cd_Model_kind cp_Model_kind = true := by decide +kernel
theorem ck_Model_isMeaning : mm_chkL 184 mm_Yt "WhichWordModel" false prog_9_method_7_code (some .boolean) cd_Model_isMeaning cp_Model_isMeaning = true := by decide +kernel
theorem ck_Model_kindOf : mm_chkL 184 mm_Yt "WhichWordModel" false prog_9_method_19_code (some .int) cd_Model_kindOf cp_Model_kindOf = true := by decide +kernel
theorem ck_Model_weight : mm_chkL 184 mm_Yt "WhichWordModel" false prog_9_method_27_code (some .int) cd_Model_weight cp_Model_weight = true := by decide +kernel
theorem ck_Model_has : mm_chkL 184 mm_Yt "WhichWordModel" false prog_9_method_28_code (some .int) cd_Model_has cp_Model_has = true := by decide +kernel
theorem ck_Model_left : mm_chkL 184 mm_Yt "WhichWordModel" false prog_9_method_30_code (some .int) cd_Model_left cp_Model_left = true := by decide +kernel
theorem ck_Model_isLeft : mm_chkL 184 mm_Yt "WhichWordModel" false prog_9_method_29_code (some .boolean) cd_Model_isLeft cp_Model_isLeft = true := by decide +kernel
theorem ck_Model_plainest : mm_chkL 184 mm_Yt "WhichWordModel" false prog_9_method_31_code (some .int) cd_Model_plainest cp_Model_plainest = true := by decide +kernel
theorem ck_Model_judge : mm_chkL 184 mm_Yt "WhichWordModel" false prog_9_method_32_code (some .int) cd_Model_judge cp_Model_judge = true := by decide +kernel
theorem ck_Model_set : mm_chkL 184 mm_Yt "WhichWordModel" false prog_9_method_33_code (some .int) cd_Model_set cp_Model_set = true := by decide +kernel
theorem ck_Model_likelihood : mm_chkL 184 mm_Yt "WhichWordModel" false prog_9_method_35_code (some .long) cd_Model_likelihood cp_Model_likelihood = true := by decide +kernel
theorem ck_Model_likelihoodOf : mm_chkL 184 mm_Yt "WhichWordModel" false prog_9_method_34_code (some .long) cd_Model_likelihoodOf cp_Model_likelihoodOf = true := by decide +kernel
theorem ck_Model_chance : mm_chkL 184 mm_Yt "WhichWordModel" false prog_9_method_37_code (some .long) cd_Model_chance cp_Model_chance = true := by decide +kernel
theorem ck_Model_divisor : mm_chkL 184 mm_Yt "WhichWordModel" false prog_9_method_36_code (some .long) cd_Model_divisor cp_Model_divisor = true := by decide +kernel
theorem ck_Model_likeliest : mm_chkL 184 mm_Yt "WhichWordModel" false prog_9_method_38_code (some .int) cd_Model_likeliest cp_Model_likeliest = true := by decide +kernel
theorem ck_Model_givings : mm_chkL 184 mm_Yt "WhichWordModel" false prog_9_method_42_code (some .int) cd_Model_givings cp_Model_givings = true := by decide +kernel
theorem ck_Model_isSet : mm_chkL 184 mm_Yt "WhichWordModel" false prog_9_method_39_code (some .boolean) cd_Model_isSet cp_Model_isSet = true := by decide +kernel
theorem ck_Model_ones : mm_chkL 184 mm_Yt "WhichWordModel" false prog_9_method_8_code (some .int) cd_Model_ones cp_Model_ones = true := by decide +kernel
theorem ck_Model_findWords : mm_chkL 184 mm_Yt "WhichWordModel" false prog_9_method_40_code none cd_Model_findWords cp_Model_findWords = true := by decide +kernel
theorem ck_Model_commonTo : mm_chkL 184 mm_Yt "WhichWordModel" false prog_9_method_41_code (some .int) cd_Model_commonTo cp_Model_commonTo = true := by decide +kernel
theorem ck_Model_giving : mm_chkL 184 mm_Yt "WhichWordModel" false prog_9_method_46_code (some .int) cd_Model_giving cp_Model_giving = true := by decide +kernel
theorem ck_Model_findFirst : mm_chkL 184 mm_Yt "WhichWordModel" false prog_9_method_43_code (some .boolean) cd_Model_findFirst cp_Model_findFirst = true := by decide +kernel
theorem ck_Model_canHave : mm_chkL 184 mm_Yt "WhichWordModel" false prog_9_method_44_code (some .boolean) cd_Model_canHave cp_Model_canHave = true := by decide +kernel
theorem ck_Model_isOneLeft : mm_chkL 184 mm_Yt "WhichWordModel" false prog_9_method_45_code (some .boolean) cd_Model_isOneLeft cp_Model_isOneLeft = true := by decide +kernel
theorem ck_Model_two : mm_chkL 184 mm_Yt "WhichWordModel" false prog_9_method_47_code (some .int) cd_Model_two cp_Model_two = true := by decide +kernel
theorem ck_Model_give : mm_chkL 184 mm_Yt "WhichWordModel" false prog_9_method_48_code (some .int) cd_Model_give cp_Model_give = true := by decide +kernel
theorem ck_Model_saying : mm_chkL 184 mm_Yt "WhichWordModel" false prog_9_method_49_code (some .int) cd_Model_saying cp_Model_saying = true := by decide +kernel
theorem ck_Model_orders : mm_chkL 184 mm_Yt "WhichWordModel" false prog_9_method_52_code (some .int) cd_Model_orders cp_Model_orders = true := by decide +kernel
theorem ck_Model_fits : mm_chkL 184 mm_Yt "WhichWordModel" false prog_9_method_51_code (some .boolean) cd_Model_fits cp_Model_fits = true := by decide +kernel
theorem ck_Model_isDone : mm_chkL 184 mm_Yt "WhichWordModel" false prog_9_method_50_code (some .boolean) cd_Model_isDone cp_Model_isDone = true := by decide +kernel
theorem ck_Model_next : mm_chkL 184 mm_Yt "WhichWordModel" false prog_9_method_53_code (some .int) cd_Model_next cp_Model_next = true := by decide +kernel
theorem ck_Model_enough : mm_chkL 184 mm_Yt "WhichWordModel" false prog_9_method_58_code (some .int) cd_Model_enough cp_Model_enough = true := by decide +kernel
theorem ck_Model_findShown : mm_chkL 184 mm_Yt "WhichWordModel" false prog_9_method_54_code none cd_Model_findShown cp_Model_findShown = true := by decide +kernel
theorem ck_Model_findUnlike : mm_chkL 184 mm_Yt "WhichWordModel" false prog_9_method_55_code none cd_Model_findUnlike cp_Model_findUnlike = true := by decide +kernel
theorem ck_Model_partsAll : mm_chkL 184 mm_Yt "WhichWordModel" false prog_9_method_56_code (some .boolean) cd_Model_partsAll cp_Model_partsAll = true := by decide +kernel
theorem ck_Model_scenesOf : mm_chkL 184 mm_Yt "WhichWordModel" false prog_9_method_57_code (some .int) cd_Model_scenesOf cp_Model_scenesOf = true := by decide +kernel
theorem ck_Model_help : mm_chkL 184 mm_Yt "WhichWordModel" false prog_9_method_59_code (some .int) cd_Model_help cp_Model_help = true := by decide +kernel
theorem ck_Model_leftBy : mm_chkL 184 mm_Yt "WhichWordModel" false prog_9_method_60_code (some .int) cd_Model_leftBy cp_Model_leftBy = true := by decide +kernel
theorem ck_Model_never : mm_chkL 184 mm_Yt "WhichWordModel" false prog_9_method_62_code (some .int) cd_Model_never cp_Model_never = true := by decide +kernel
theorem ck_Model_partOf : mm_chkL 184 mm_Yt "WhichWordModel" false prog_9_method_61_code (some .int) cd_Model_partOf cp_Model_partOf = true := by decide +kernel
theorem ck_Model_same : mm_chkL 184 mm_Yt "WhichWordModel" false prog_9_method_63_code (some .int) cd_Model_same cp_Model_same = true := by decide +kernel
theorem ck_Model_part : mm_chkL 184 mm_Yt "WhichWordModel" false prog_9_method_64_code (some .int) cd_Model_part cp_Model_part = true := by decide +kernel
theorem ck_Model_image : mm_chkL 184 mm_Yt "WhichWordModel" false prog_9_method_67_code (some .int) cd_Model_image cp_Model_image = true := by decide +kernel
theorem ck_Model_moveAll : mm_chkL 184 mm_Yt "WhichWordModel" false prog_9_method_66_code none cd_Model_moveAll cp_Model_moveAll = true := by decide +kernel
theorem ck_Model_move : mm_chkL 184 mm_Yt "WhichWordModel" false prog_9_method_65_code (some .int) cd_Model_move cp_Model_move = true := by decide +kernel
theorem ck_Model_restore : mm_chkL 184 mm_Yt "WhichWordModel" false prog_9_method_68_code (some .int) cd_Model_restore cp_Model_restore = true := by decide +kernel
theorem ck_Model_count : mm_chkL 184 mm_Yt "WhichWordModel" false prog_9_method_69_code (some .int) cd_Model_count cp_Model_count = true := by decide +kernel
theorem ck_Arrays_fill : mm_chkL 184 mm_Yt "java/util/Arrays" false prog_13_method_103_code none cd_Arrays_fill cp_Arrays_fill = true := by decide +kernel
theorem ck_Integer_bitCount : mm_chkL 184 mm_Yt "java/lang/Integer" false prog_10_method_49_code (some .int) cd_Integer_bitCount cp_Integer_bitCount = true := by decide +kernel
end
section
/-! the program -/
def mm_okP (j : Nat) : Prop := ∀ (pc : Nat) (q : mm_I), mm_find (mm_Pt j).1 pc = some q → mm_oki mm_Yt (mm_Yt j).1.cls (decide ((mm_Yt j).1.name = "<init>")) (mm_Yt j).2.1 (mm_Yt j).2.2.2.1 mm_Df pc q.1 q.2.1 q.2.2.1 q.2.2.2.1 q.2.2.2.2.1 q.2.2.2.2.2
theorem mm_okP_0 : mm_okP 0 := mm_chkL_ok mm_Yt_ok mm_Df_ok _ _ ck_Chooser_init
theorem mm_okP_1 : mm_okP 1 := mm_chkL_ok mm_Yt_ok mm_Df_ok _ _ ck_Chooser_evenest
theorem mm_okP_2 : mm_okP 2 := mm_chkL_ok mm_Yt_ok mm_Df_ok _ _ ck_Chooser_shownFor
theorem mm_okP_3 : mm_okP 3 := mm_chkL_ok mm_Yt_ok mm_Df_ok _ _ ck_Chooser_countLeftHad
theorem mm_okP_4 : mm_okP 4 := mm_chkL_ok mm_Yt_ok mm_Df_ok _ _ ck_Chooser_fewestParting
theorem mm_okP_5 : mm_okP 5 := mm_chkL_ok mm_Yt_ok mm_Df_ok _ _ ck_Chooser_firstShownFor
theorem mm_okP_6 : mm_okP 6 := mm_chkL_ok mm_Yt_ok mm_Df_ok _ _ ck_Chooser_listUnlike
theorem mm_okP_7 : mm_okP 7 := mm_chkL_ok mm_Yt_ok mm_Df_ok _ _ ck_Chooser_addUnlike
theorem mm_okP_8 : mm_okP 8 := mm_chkL_ok mm_Yt_ok mm_Df_ok _ _ ck_Chooser_listSets
theorem mm_okP_9 : mm_okP 9 := mm_chkL_ok mm_Yt_ok mm_Df_ok _ _ ck_Chooser_addSets
theorem mm_okP_10 : mm_okP 10 := mm_chkL_ok mm_Yt_ok mm_Df_ok _ _ ck_Chooser_partsAll
theorem mm_okP_11 : mm_okP 11 := mm_chkL_ok mm_Yt_ok mm_Df_ok _ _ ck_Chooser_mostTelling
theorem mm_okP_12 : mm_okP 12 := mm_chkL_ok mm_Yt_ok mm_Df_ok _ _ ck_Giver_init
theorem mm_okP_13 : mm_okP 13 := mm_chkL_ok mm_Yt_ok mm_Df_ok _ _ ck_Giver_countWays
theorem mm_okP_14 : mm_okP 14 := mm_chkL_ok mm_Yt_ok mm_Df_ok _ _ ck_Giver_countLefts
theorem mm_okP_15 : mm_okP 15 := mm_chkL_ok mm_Yt_ok mm_Df_ok _ _ ck_Giver_ways
theorem mm_okP_16 : mm_okP 16 := mm_chkL_ok mm_Yt_ok mm_Df_ok _ _ ck_Giver_lost
theorem mm_okP_17 : mm_okP 17 := mm_chkL_ok mm_Yt_ok mm_Df_ok _ _ ck_Giver_firstFor
theorem mm_okP_18 : mm_okP 18 := mm_chkL_ok mm_Yt_ok mm_Df_ok _ _ ck_Giver_leastFor
theorem mm_okP_19 : mm_okP 19 := mm_chkL_ok mm_Yt_ok mm_Df_ok _ _ ck_Likely_init
theorem mm_okP_20 : mm_okP 20 := mm_chkL_ok mm_Yt_ok mm_Df_ok _ _ ck_Likely_of
theorem mm_okP_21 : mm_okP 21 := mm_chkL_ok mm_Yt_ok mm_Df_ok _ _ ck_Likely_latestSaid
theorem mm_okP_22 : mm_okP 22 := mm_chkL_ok mm_Yt_ok mm_Df_ok _ _ ck_Likely_aboveLine
theorem mm_okP_23 : mm_okP 23 := mm_chkL_ok mm_Yt_ok mm_Df_ok _ _ ck_Likely_ofAll
theorem mm_okP_24 : mm_okP 24 := mm_chkL_ok mm_Yt_ok mm_Df_ok _ _ ck_Likely_commonDivisor
theorem mm_okP_25 : mm_okP 25 := mm_chkL_ok mm_Yt_ok mm_Df_ok _ _ ck_Likely_belowLine
theorem mm_okP_26 : mm_okP 26 := mm_chkL_ok mm_Yt_ok mm_Df_ok _ _ ck_Likely_greatest
theorem mm_okP_27 : mm_okP 27 := mm_chkL_ok mm_Yt_ok mm_Df_ok _ _ ck_Scene_init
theorem mm_okP_28 : mm_okP 28 := mm_chkL_ok mm_Yt_ok mm_Df_ok _ _ ck_Scene_addThing
theorem mm_okP_29 : mm_okP 29 := mm_chkL_ok mm_Yt_ok mm_Df_ok _ _ ck_Scene_addDoing
theorem mm_okP_30 : mm_okP 30 := mm_chkL_ok mm_Yt_ok mm_Df_ok _ _ ck_Scene_holds
theorem mm_okP_31 : mm_okP 31 := mm_chkL_ok mm_Yt_ok mm_Df_ok _ _ ck_Scene_countThings
theorem mm_okP_32 : mm_okP 32 := mm_chkL_ok mm_Yt_ok mm_Df_ok _ _ ck_Scene_thingAt
theorem mm_okP_33 : mm_okP 33 := mm_chkL_ok mm_Yt_ok mm_Df_ok _ _ ck_Scene_holdsJoined
theorem mm_okP_34 : mm_okP 34 := mm_chkL_ok mm_Yt_ok mm_Df_ok _ _ ck_Scene_isDone
theorem mm_okP_35 : mm_okP 35 := mm_chkL_ok mm_Yt_ok mm_Df_ok _ _ ck_Scene_doingAt
theorem mm_okP_36 : mm_okP 36 := mm_chkL_ok mm_Yt_ok mm_Df_ok _ _ ck_Text_init
theorem mm_okP_37 : mm_okP 37 := mm_chkL_ok mm_Yt_ok mm_Df_ok _ _ ck_Text_room
theorem mm_okP_38 : mm_okP 38 := mm_chkL_ok mm_Yt_ok mm_Df_ok _ _ ck_Text_append
theorem mm_okP_39 : mm_okP 39 := mm_chkL_ok mm_Yt_ok mm_Df_ok _ _ ck_Text_readScene
theorem mm_okP_40 : mm_okP 40 := mm_chkL_ok mm_Yt_ok mm_Df_ok _ _ ck_Text_readThings
theorem mm_okP_41 : mm_okP 41 := mm_chkL_ok mm_Yt_ok mm_Df_ok _ _ ck_Text_readThing
theorem mm_okP_42 : mm_okP 42 := mm_chkL_ok mm_Yt_ok mm_Df_ok _ _ ck_Text_take
theorem mm_okP_43 : mm_okP 43 := mm_chkL_ok mm_Yt_ok mm_Df_ok _ _ ck_Text_takeOneOf
theorem mm_okP_44 : mm_okP 44 := mm_chkL_ok mm_Yt_ok mm_Df_ok _ _ ck_Text_readDoings
theorem mm_okP_45 : mm_okP 45 := mm_chkL_ok mm_Yt_ok mm_Df_ok _ _ ck_Text_readDoing
theorem mm_okP_46 : mm_okP 46 := mm_chkL_ok mm_Yt_ok mm_Df_ok _ _ ck_Text_place
theorem mm_okP_47 : mm_okP 47 := mm_chkL_ok mm_Yt_ok mm_Df_ok _ _ ck_Text_empty
theorem mm_okP_48 : mm_okP 48 := mm_chkL_ok mm_Yt_ok mm_Df_ok _ _ ck_Text_length
theorem mm_okP_49 : mm_okP 49 := mm_chkL_ok mm_Yt_ok mm_Df_ok _ _ ck_Told_init
theorem mm_okP_50 : mm_okP 50 := mm_chkL_ok mm_Yt_ok mm_Df_ok _ _ ck_Told_addScene
theorem mm_okP_51 : mm_okP 51 := mm_chkL_ok mm_Yt_ok mm_Df_ok _ _ ck_Told_dropLatest
theorem mm_okP_52 : mm_okP 52 := mm_chkL_ok mm_Yt_ok mm_Df_ok _ _ ck_Told_dropSayingsOf
theorem mm_okP_53 : mm_okP 53 := mm_chkL_ok mm_Yt_ok mm_Df_ok _ _ ck_Told_tellSaid
theorem mm_okP_54 : mm_okP 54 := mm_chkL_ok mm_Yt_ok mm_Df_ok _ _ ck_Told_countLeft
theorem mm_okP_55 : mm_okP 55 := mm_chkL_ok mm_Yt_ok mm_Df_ok _ _ ck_Told_isLeft
theorem mm_okP_56 : mm_okP 56 := mm_chkL_ok mm_Yt_ok mm_Df_ok _ _ ck_Told_leftAt
theorem mm_okP_57 : mm_okP 57 := mm_chkL_ok mm_Yt_ok mm_Df_ok _ _ ck_Told_heaviestLeft
theorem mm_okP_58 : mm_okP 58 := mm_chkL_ok mm_Yt_ok mm_Df_ok _ _ ck_Told_countTwos
theorem mm_okP_59 : mm_okP 59 := mm_chkL_ok mm_Yt_ok mm_Df_ok _ _ ck_Told_isTwo
theorem mm_okP_60 : mm_okP 60 := mm_chkL_ok mm_Yt_ok mm_Df_ok _ _ ck_Told_firstTwo
theorem mm_okP_61 : mm_okP 61 := mm_chkL_ok mm_Yt_ok mm_Df_ok _ _ ck_Told_addSaying
theorem mm_okP_62 : mm_okP 62 := mm_chkL_ok mm_Yt_ok mm_Df_ok _ _ ck_Told_fittingOrders
theorem mm_okP_63 : mm_okP 63 := mm_chkL_ok mm_Yt_ok mm_Df_ok _ _ ck_Told_fits
theorem mm_okP_64 : mm_okP 64 := mm_chkL_ok mm_Yt_ok mm_Df_ok _ _ ck_Told_isMark
theorem mm_okP_65 : mm_okP 65 := mm_chkL_ok mm_Yt_ok mm_Df_ok _ _ ck_Told_countUnparted
theorem mm_okP_66 : mm_okP 66 := mm_chkL_ok mm_Yt_ok mm_Df_ok _ _ ck_Told_copyFrom
theorem mm_okP_67 : mm_okP 67 := mm_chkL_ok mm_Yt_ok mm_Df_ok _ _ ck_Told_countThings
theorem mm_okP_68 : mm_okP 68 := mm_chkL_ok mm_Yt_ok mm_Df_ok _ _ ck_Told_countDoings
theorem mm_okP_69 : mm_okP 69 := mm_chkL_ok mm_Yt_ok mm_Df_ok _ _ ck_Told_countSaid
theorem mm_okP_70 : mm_okP 70 := mm_chkL_ok mm_Yt_ok mm_Df_ok _ _ ck_Word_init
theorem mm_okP_71 : mm_okP 71 := mm_chkL_ok mm_Yt_ok mm_Df_ok _ _ ck_Word_feed
theorem mm_okP_72 : mm_okP 72 := mm_chkL_ok mm_Yt_ok mm_Df_ok _ _ ck_Word_refuse
theorem mm_okP_73 : mm_okP 73 := mm_chkL_ok mm_Yt_ok mm_Df_ok _ _ ck_Word_scene
theorem mm_okP_74 : mm_okP 74 := mm_chkL_ok mm_Yt_ok mm_Df_ok _ _ ck_Word_kindOf
theorem mm_okP_75 : mm_okP 75 := mm_chkL_ok mm_Yt_ok mm_Df_ok _ _ ck_Word_takeBack
theorem mm_okP_76 : mm_okP 76 := mm_chkL_ok mm_Yt_ok mm_Df_ok _ _ ck_Word_thing
theorem mm_okP_77 : mm_okP 77 := mm_chkL_ok mm_Yt_ok mm_Df_ok _ _ ck_Word_noScene
theorem mm_okP_78 : mm_okP 78 := mm_chkL_ok mm_Yt_ok mm_Df_ok _ _ ck_Word_doing
theorem mm_okP_79 : mm_okP 79 := mm_chkL_ok mm_Yt_ok mm_Df_ok _ _ ck_Word_say
theorem mm_okP_80 : mm_okP 80 := mm_chkL_ok mm_Yt_ok mm_Df_ok _ _ ck_Word_noWord
theorem mm_okP_81 : mm_okP 81 := mm_chkL_ok mm_Yt_ok mm_Df_ok _ _ ck_Word_isIn
theorem mm_okP_82 : mm_okP 82 := mm_chkL_ok mm_Yt_ok mm_Df_ok _ _ ck_Word_said
theorem mm_okP_83 : mm_okP 83 := mm_chkL_ok mm_Yt_ok mm_Df_ok _ _ ck_Word_kind
theorem mm_okP_84 : mm_okP 84 := mm_chkL_ok mm_Yt_ok mm_Df_ok _ _ ck_Word_noMeaning
theorem mm_okP_85 : mm_okP 85 := mm_chkL_ok mm_Yt_ok mm_Df_ok _ _ ck_Word_weight
theorem mm_okP_86 : mm_okP 86 := mm_chkL_ok mm_Yt_ok mm_Df_ok _ _ ck_Word_has
theorem mm_okP_87 : mm_okP 87 := mm_chkL_ok mm_Yt_ok mm_Df_ok _ _ ck_Word_left
theorem mm_okP_88 : mm_okP 88 := mm_chkL_ok mm_Yt_ok mm_Df_ok _ _ ck_Word_plainest
theorem mm_okP_89 : mm_okP 89 := mm_chkL_ok mm_Yt_ok mm_Df_ok _ _ ck_Word_judge
theorem mm_okP_90 : mm_okP 90 := mm_chkL_ok mm_Yt_ok mm_Df_ok _ _ ck_Word_firstIn
theorem mm_okP_91 : mm_okP 91 := mm_chkL_ok mm_Yt_ok mm_Df_ok _ _ ck_Word_set
theorem mm_okP_92 : mm_okP 92 := mm_chkL_ok mm_Yt_ok mm_Df_ok _ _ ck_Word_likelihood
theorem mm_okP_93 : mm_okP 93 := mm_chkL_ok mm_Yt_ok mm_Df_ok _ _ ck_Word_chance
theorem mm_okP_94 : mm_okP 94 := mm_chkL_ok mm_Yt_ok mm_Df_ok _ _ ck_Word_likeliest
theorem mm_okP_95 : mm_okP 95 := mm_chkL_ok mm_Yt_ok mm_Df_ok _ _ ck_Word_givings
theorem mm_okP_96 : mm_okP 96 := mm_chkL_ok mm_Yt_ok mm_Df_ok _ _ ck_Word_noSetToGive
theorem mm_okP_97 : mm_okP 97 := mm_chkL_ok mm_Yt_ok mm_Df_ok _ _ ck_Word_giving
theorem mm_okP_98 : mm_okP 98 := mm_chkL_ok mm_Yt_ok mm_Df_ok _ _ ck_Word_two
theorem mm_okP_99 : mm_okP 99 := mm_chkL_ok mm_Yt_ok mm_Df_ok _ _ ck_Word_give
theorem mm_okP_100 : mm_okP 100 := mm_chkL_ok mm_Yt_ok mm_Df_ok _ _ ck_Word_saying
theorem mm_okP_101 : mm_okP 101 := mm_chkL_ok mm_Yt_ok mm_Df_ok _ _ ck_Word_noThreeWords
theorem mm_okP_102 : mm_okP 102 := mm_chkL_ok mm_Yt_ok mm_Df_ok _ _ ck_Word_wordAt
theorem mm_okP_103 : mm_okP 103 := mm_chkL_ok mm_Yt_ok mm_Df_ok _ _ ck_Word_orders
theorem mm_okP_104 : mm_okP 104 := mm_chkL_ok mm_Yt_ok mm_Df_ok _ _ ck_Word_next
theorem mm_okP_105 : mm_okP 105 := mm_chkL_ok mm_Yt_ok mm_Df_ok _ _ ck_Word_enough
theorem mm_okP_106 : mm_okP 106 := mm_chkL_ok mm_Yt_ok mm_Df_ok _ _ ck_Word_help
theorem mm_okP_107 : mm_okP 107 := mm_chkL_ok mm_Yt_ok mm_Df_ok _ _ ck_Word_never
theorem mm_okP_108 : mm_okP 108 := mm_chkL_ok mm_Yt_ok mm_Df_ok _ _ ck_Word_same
theorem mm_okP_109 : mm_okP 109 := mm_chkL_ok mm_Yt_ok mm_Df_ok _ _ ck_Word_part
theorem mm_okP_110 : mm_okP 110 := mm_chkL_ok mm_Yt_ok mm_Df_ok _ _ ck_Word_image
theorem mm_okP_111 : mm_okP 111 := mm_chkL_ok mm_Yt_ok mm_Df_ok _ _ ck_Word_restore
theorem mm_okP_112 : mm_okP 112 := mm_chkL_ok mm_Yt_ok mm_Df_ok _ _ ck_Word_count
theorem mm_okP_113 : mm_okP 113 := mm_chkL_ok mm_Yt_ok mm_Df_ok _ _ ck_Word_countRefusals
theorem mm_okP_114 : mm_okP 114 := mm_chkL_ok mm_Yt_ok mm_Df_ok _ _ ck_Model_init
theorem mm_okP_115 : mm_okP 115 := mm_chkL_ok mm_Yt_ok mm_Df_ok _ _ ck_Model_feed
theorem mm_okP_116 : mm_okP 116 := mm_chkL_ok mm_Yt_ok mm_Df_ok _ _ ck_Model_refuse
theorem mm_okP_117 : mm_okP 117 := mm_chkL_ok mm_Yt_ok mm_Df_ok _ _ ck_Model_scene
theorem mm_okP_118 : mm_okP 118 := mm_chkL_ok mm_Yt_ok mm_Df_ok _ _ ck_Model_readScene
theorem mm_okP_119 : mm_okP 119 := mm_chkL_ok mm_Yt_ok mm_Df_ok _ _ ck_Model_readThing
theorem mm_okP_120 : mm_okP 120 := mm_chkL_ok mm_Yt_ok mm_Df_ok _ _ ck_Model_here
theorem mm_okP_121 : mm_okP 121 := mm_chkL_ok mm_Yt_ok mm_Df_ok _ _ ck_Model_in
theorem mm_okP_122 : mm_okP 122 := mm_chkL_ok mm_Yt_ok mm_Df_ok _ _ ck_Model_readDoing
theorem mm_okP_123 : mm_okP 123 := mm_chkL_ok mm_Yt_ok mm_Df_ok _ _ ck_Model_readPlace
theorem mm_okP_124 : mm_okP 124 := mm_chkL_ok mm_Yt_ok mm_Df_ok _ _ ck_Model_findHas
theorem mm_okP_125 : mm_okP 125 := mm_chkL_ok mm_Yt_ok mm_Df_ok _ _ ck_Model_manyWith
theorem mm_okP_126 : mm_okP 126 := mm_chkL_ok mm_Yt_ok mm_Df_ok _ _ ck_Model_hasMark
theorem mm_okP_127 : mm_okP 127 := mm_chkL_ok mm_Yt_ok mm_Df_ok _ _ ck_Model_takeBack
theorem mm_okP_128 : mm_okP 128 := mm_chkL_ok mm_Yt_ok mm_Df_ok _ _ ck_Model_thing
theorem mm_okP_129 : mm_okP 129 := mm_chkL_ok mm_Yt_ok mm_Df_ok _ _ ck_Model_isScene
theorem mm_okP_130 : mm_okP 130 := mm_chkL_ok mm_Yt_ok mm_Df_ok _ _ ck_Model_doing
theorem mm_okP_131 : mm_okP 131 := mm_chkL_ok mm_Yt_ok mm_Df_ok _ _ ck_Model_say
theorem mm_okP_132 : mm_okP 132 := mm_chkL_ok mm_Yt_ok mm_Df_ok _ _ ck_Model_isWord
theorem mm_okP_133 : mm_okP 133 := mm_chkL_ok mm_Yt_ok mm_Df_ok _ _ ck_Model_said
theorem mm_okP_134 : mm_okP 134 := mm_chkL_ok mm_Yt_ok mm_Df_ok _ _ ck_Model_saidIn
theorem mm_okP_135 : mm_okP 135 := mm_chkL_ok mm_Yt_ok mm_Df_ok _ _ ck_Model_kind
theorem mm_okP_136 : mm_okP 136 := mm_chkL_ok mm_Yt_ok mm_Df_ok _ _ ck_Model_isMeaning
theorem mm_okP_137 : mm_okP 137 := mm_chkL_ok mm_Yt_ok mm_Df_ok _ _ ck_Model_kindOf
theorem mm_okP_138 : mm_okP 138 := mm_chkL_ok mm_Yt_ok mm_Df_ok _ _ ck_Model_weight
theorem mm_okP_139 : mm_okP 139 := mm_chkL_ok mm_Yt_ok mm_Df_ok _ _ ck_Model_has
theorem mm_okP_140 : mm_okP 140 := mm_chkL_ok mm_Yt_ok mm_Df_ok _ _ ck_Model_left
theorem mm_okP_141 : mm_okP 141 := mm_chkL_ok mm_Yt_ok mm_Df_ok _ _ ck_Model_isLeft
theorem mm_okP_142 : mm_okP 142 := mm_chkL_ok mm_Yt_ok mm_Df_ok _ _ ck_Model_plainest
theorem mm_okP_143 : mm_okP 143 := mm_chkL_ok mm_Yt_ok mm_Df_ok _ _ ck_Model_judge
theorem mm_okP_144 : mm_okP 144 := mm_chkL_ok mm_Yt_ok mm_Df_ok _ _ ck_Model_set
theorem mm_okP_145 : mm_okP 145 := mm_chkL_ok mm_Yt_ok mm_Df_ok _ _ ck_Model_likelihood
theorem mm_okP_146 : mm_okP 146 := mm_chkL_ok mm_Yt_ok mm_Df_ok _ _ ck_Model_likelihoodOf
theorem mm_okP_147 : mm_okP 147 := mm_chkL_ok mm_Yt_ok mm_Df_ok _ _ ck_Model_chance
theorem mm_okP_148 : mm_okP 148 := mm_chkL_ok mm_Yt_ok mm_Df_ok _ _ ck_Model_divisor
theorem mm_okP_149 : mm_okP 149 := mm_chkL_ok mm_Yt_ok mm_Df_ok _ _ ck_Model_likeliest
theorem mm_okP_150 : mm_okP 150 := mm_chkL_ok mm_Yt_ok mm_Df_ok _ _ ck_Model_givings
theorem mm_okP_151 : mm_okP 151 := mm_chkL_ok mm_Yt_ok mm_Df_ok _ _ ck_Model_isSet
theorem mm_okP_152 : mm_okP 152 := mm_chkL_ok mm_Yt_ok mm_Df_ok _ _ ck_Model_ones
theorem mm_okP_153 : mm_okP 153 := mm_chkL_ok mm_Yt_ok mm_Df_ok _ _ ck_Model_findWords
theorem mm_okP_154 : mm_okP 154 := mm_chkL_ok mm_Yt_ok mm_Df_ok _ _ ck_Model_commonTo
theorem mm_okP_155 : mm_okP 155 := mm_chkL_ok mm_Yt_ok mm_Df_ok _ _ ck_Model_giving
theorem mm_okP_156 : mm_okP 156 := mm_chkL_ok mm_Yt_ok mm_Df_ok _ _ ck_Model_findFirst
theorem mm_okP_157 : mm_okP 157 := mm_chkL_ok mm_Yt_ok mm_Df_ok _ _ ck_Model_canHave
theorem mm_okP_158 : mm_okP 158 := mm_chkL_ok mm_Yt_ok mm_Df_ok _ _ ck_Model_isOneLeft
theorem mm_okP_159 : mm_okP 159 := mm_chkL_ok mm_Yt_ok mm_Df_ok _ _ ck_Model_two
theorem mm_okP_160 : mm_okP 160 := mm_chkL_ok mm_Yt_ok mm_Df_ok _ _ ck_Model_give
theorem mm_okP_161 : mm_okP 161 := mm_chkL_ok mm_Yt_ok mm_Df_ok _ _ ck_Model_saying
theorem mm_okP_162 : mm_okP 162 := mm_chkL_ok mm_Yt_ok mm_Df_ok _ _ ck_Model_orders
theorem mm_okP_163 : mm_okP 163 := mm_chkL_ok mm_Yt_ok mm_Df_ok _ _ ck_Model_fits
theorem mm_okP_164 : mm_okP 164 := mm_chkL_ok mm_Yt_ok mm_Df_ok _ _ ck_Model_isDone
theorem mm_okP_165 : mm_okP 165 := mm_chkL_ok mm_Yt_ok mm_Df_ok _ _ ck_Model_next
theorem mm_okP_166 : mm_okP 166 := mm_chkL_ok mm_Yt_ok mm_Df_ok _ _ ck_Model_enough
theorem mm_okP_167 : mm_okP 167 := mm_chkL_ok mm_Yt_ok mm_Df_ok _ _ ck_Model_findShown
theorem mm_okP_168 : mm_okP 168 := mm_chkL_ok mm_Yt_ok mm_Df_ok _ _ ck_Model_findUnlike
theorem mm_okP_169 : mm_okP 169 := mm_chkL_ok mm_Yt_ok mm_Df_ok _ _ ck_Model_partsAll
theorem mm_okP_170 : mm_okP 170 := mm_chkL_ok mm_Yt_ok mm_Df_ok _ _ ck_Model_scenesOf
theorem mm_okP_171 : mm_okP 171 := mm_chkL_ok mm_Yt_ok mm_Df_ok _ _ ck_Model_help
theorem mm_okP_172 : mm_okP 172 := mm_chkL_ok mm_Yt_ok mm_Df_ok _ _ ck_Model_leftBy
theorem mm_okP_173 : mm_okP 173 := mm_chkL_ok mm_Yt_ok mm_Df_ok _ _ ck_Model_never
theorem mm_okP_174 : mm_okP 174 := mm_chkL_ok mm_Yt_ok mm_Df_ok _ _ ck_Model_partOf
theorem mm_okP_175 : mm_okP 175 := mm_chkL_ok mm_Yt_ok mm_Df_ok _ _ ck_Model_same
theorem mm_okP_176 : mm_okP 176 := mm_chkL_ok mm_Yt_ok mm_Df_ok _ _ ck_Model_part
theorem mm_okP_177 : mm_okP 177 := mm_chkL_ok mm_Yt_ok mm_Df_ok _ _ ck_Model_image
theorem mm_okP_178 : mm_okP 178 := mm_chkL_ok mm_Yt_ok mm_Df_ok _ _ ck_Model_moveAll
theorem mm_okP_179 : mm_okP 179 := mm_chkL_ok mm_Yt_ok mm_Df_ok _ _ ck_Model_move
theorem mm_okP_180 : mm_okP 180 := mm_chkL_ok mm_Yt_ok mm_Df_ok _ _ ck_Model_restore
theorem mm_okP_181 : mm_okP 181 := mm_chkL_ok mm_Yt_ok mm_Df_ok _ _ ck_Model_count
theorem mm_okP_182 : mm_okP 182 := mm_chkL_ok mm_Yt_ok mm_Df_ok _ _ ck_Arrays_fill
theorem mm_okP_183 : mm_okP 183 := mm_chkL_ok mm_Yt_ok mm_Df_ok _ _ ck_Integer_bitCount
theorem mm_okP_lt_20 : ∀ j, j < 20 → mm_okP j := (lt_s (lt_s (lt_s (lt_s (lt_s (lt_s (lt_s (lt_s (lt_s (lt_s (lt_s (lt_s (lt_s (lt_s (lt_s (lt_s (lt_s (lt_s (lt_s (lt_s (fun a h => absurd h (Nat.not_lt_zero a)) mm_okP_0) mm_okP_1) mm_okP_2) mm_okP_3) mm_okP_4) mm_okP_5) mm_okP_6) mm_okP_7) mm_okP_8) mm_okP_9) mm_okP_10) mm_okP_11) mm_okP_12) mm_okP_13) mm_okP_14) mm_okP_15) mm_okP_16) mm_okP_17) mm_okP_18) mm_okP_19)
theorem mm_okP_lt_40 : ∀ j, j < 40 → mm_okP j := (lt_s (lt_s (lt_s (lt_s (lt_s (lt_s (lt_s (lt_s (lt_s (lt_s (lt_s (lt_s (lt_s (lt_s (lt_s (lt_s (lt_s (lt_s (lt_s (lt_s mm_okP_lt_20 mm_okP_20) mm_okP_21) mm_okP_22) mm_okP_23) mm_okP_24) mm_okP_25) mm_okP_26) mm_okP_27) mm_okP_28) mm_okP_29) mm_okP_30) mm_okP_31) mm_okP_32) mm_okP_33) mm_okP_34) mm_okP_35) mm_okP_36) mm_okP_37) mm_okP_38) mm_okP_39)
theorem mm_okP_lt_60 : ∀ j, j < 60 → mm_okP j := (lt_s (lt_s (lt_s (lt_s (lt_s (lt_s (lt_s (lt_s (lt_s (lt_s (lt_s (lt_s (lt_s (lt_s (lt_s (lt_s (lt_s (lt_s (lt_s (lt_s mm_okP_lt_40 mm_okP_40) mm_okP_41) mm_okP_42) mm_okP_43) mm_okP_44) mm_okP_45) mm_okP_46) mm_okP_47) mm_okP_48) mm_okP_49) mm_okP_50) mm_okP_51) mm_okP_52) mm_okP_53) mm_okP_54) mm_okP_55) mm_okP_56) mm_okP_57) mm_okP_58) mm_okP_59)
theorem mm_okP_lt_80 : ∀ j, j < 80 → mm_okP j := (lt_s (lt_s (lt_s (lt_s (lt_s (lt_s (lt_s (lt_s (lt_s (lt_s (lt_s (lt_s (lt_s (lt_s (lt_s (lt_s (lt_s (lt_s (lt_s (lt_s mm_okP_lt_60 mm_okP_60) mm_okP_61) mm_okP_62) mm_okP_63) mm_okP_64) mm_okP_65) mm_okP_66) mm_okP_67) mm_okP_68) mm_okP_69) mm_okP_70) mm_okP_71) mm_okP_72) mm_okP_73) mm_okP_74) mm_okP_75) mm_okP_76) mm_okP_77) mm_okP_78) mm_okP_79)
theorem mm_okP_lt_100 : ∀ j, j < 100 → mm_okP j := (lt_s (lt_s (lt_s (lt_s (lt_s (lt_s (lt_s (lt_s (lt_s (lt_s (lt_s (lt_s (lt_s (lt_s (lt_s (lt_s (lt_s (lt_s (lt_s (lt_s mm_okP_lt_80 mm_okP_80) mm_okP_81) mm_okP_82) mm_okP_83) mm_okP_84) mm_okP_85) mm_okP_86) mm_okP_87) mm_okP_88) mm_okP_89) mm_okP_90) mm_okP_91) mm_okP_92) mm_okP_93) mm_okP_94) mm_okP_95) mm_okP_96) mm_okP_97) mm_okP_98) mm_okP_99)
theorem mm_okP_lt_120 : ∀ j, j < 120 → mm_okP j := (lt_s (lt_s (lt_s (lt_s (lt_s (lt_s (lt_s (lt_s (lt_s (lt_s (lt_s (lt_s (lt_s (lt_s (lt_s (lt_s (lt_s (lt_s (lt_s (lt_s mm_okP_lt_100 mm_okP_100) mm_okP_101) mm_okP_102) mm_okP_103) mm_okP_104) mm_okP_105) mm_okP_106) mm_okP_107) mm_okP_108) mm_okP_109) mm_okP_110) mm_okP_111) mm_okP_112) mm_okP_113) mm_okP_114) mm_okP_115) mm_okP_116) mm_okP_117) mm_okP_118) mm_okP_119)
theorem mm_okP_lt_140 : ∀ j, j < 140 → mm_okP j := (lt_s (lt_s (lt_s (lt_s (lt_s (lt_s (lt_s (lt_s (lt_s (lt_s (lt_s (lt_s (lt_s (lt_s (lt_s (lt_s (lt_s (lt_s (lt_s (lt_s mm_okP_lt_120 mm_okP_120) mm_okP_121) mm_okP_122) mm_okP_123) mm_okP_124) mm_okP_125) mm_okP_126) mm_okP_127) mm_okP_128) mm_okP_129) mm_okP_130) mm_okP_131) mm_okP_132) mm_okP_133) mm_okP_134) mm_okP_135) mm_okP_136) mm_okP_137) mm_okP_138) mm_okP_139)
theorem mm_okP_lt_160 : ∀ j, j < 160 → mm_okP j := (lt_s (lt_s (lt_s (lt_s (lt_s (lt_s (lt_s (lt_s (lt_s (lt_s (lt_s (lt_s (lt_s (lt_s (lt_s (lt_s (lt_s (lt_s (lt_s (lt_s mm_okP_lt_140 mm_okP_140) mm_okP_141) mm_okP_142) mm_okP_143) mm_okP_144) mm_okP_145) mm_okP_146) mm_okP_147) mm_okP_148) mm_okP_149) mm_okP_150) mm_okP_151) mm_okP_152) mm_okP_153) mm_okP_154) mm_okP_155) mm_okP_156) mm_okP_157) mm_okP_158) mm_okP_159)
theorem mm_okP_lt_180 : ∀ j, j < 180 → mm_okP j := (lt_s (lt_s (lt_s (lt_s (lt_s (lt_s (lt_s (lt_s (lt_s (lt_s (lt_s (lt_s (lt_s (lt_s (lt_s (lt_s (lt_s (lt_s (lt_s (lt_s mm_okP_lt_160 mm_okP_160) mm_okP_161) mm_okP_162) mm_okP_163) mm_okP_164) mm_okP_165) mm_okP_166) mm_okP_167) mm_okP_168) mm_okP_169) mm_okP_170) mm_okP_171) mm_okP_172) mm_okP_173) mm_okP_174) mm_okP_175) mm_okP_176) mm_okP_177) mm_okP_178) mm_okP_179)
theorem mm_okP_lt_184 : ∀ j, j < 184 → mm_okP j := (lt_s (lt_s (lt_s (lt_s mm_okP_lt_180 mm_okP_180) mm_okP_181) mm_okP_182) mm_okP_183)
theorem mm_prog : mm_Prog mm_Yt mm_Pt mm_Df := by
  intro j hY
  refine ⟨rfl, rfl, ?_⟩
  by_cases hj : j < 184
  · exact mm_okP_lt_184 j hj
  · intro pc q h
    have h1 : mm_nth mm_Tl j = none := by rw [mm_nth_eq]; exact List.getElem?_eq_none (Nat.not_lt.mp hj)
    have h2 : (mm_Pt j).1 = [] := by
      show (mm_T j).2 = []
      unfold mm_T
      rw [h1]
    rw [h2] at h
    cases h
end
section
/-! the law's code is its code -/
theorem ck_law_1 : mm_chkL 184 mm_Yt "WhichWordLaw" false code (some .boolean) cd_law_1 cp_law_1 = true := by decide +kernel
theorem ck_law_2 : mm_chkL 184 mm_Yt "WhichWordLaw" false code (some .boolean) cd_law_2 cp_law_2 = true := by decide +kernel
theorem ck_law_3 : mm_chkL 184 mm_Yt "WhichWordLaw" false code (some .boolean) cd_law_3 cp_law_3 = true := by decide +kernel
theorem ck_law_4 : mm_chkL 184 mm_Yt "WhichWordLaw" false code (some .boolean) cd_law_4 cp_law_4 = true := by decide +kernel
theorem ck_law_5 : mm_chkL 184 mm_Yt "WhichWordLaw" false code (some .boolean) cd_law_5 cp_law_5 = true := by decide +kernel
theorem ck_law_6 : mm_chkL 184 mm_Yt "WhichWordLaw" false code (some .boolean) cd_law_6 cp_law_6 = true := by decide +kernel
theorem ck_law_7 : mm_chkL 184 mm_Yt "WhichWordLaw" false code (some .boolean) cd_law_7 cp_law_7 = true := by decide +kernel
theorem ck_law_8 : mm_chkL 184 mm_Yt "WhichWordLaw" false code (some .boolean) cd_law_8 cp_law_8 = true := by decide +kernel
theorem ck_law_9 : mm_chkL 184 mm_Yt "WhichWordLaw" false code (some .boolean) cd_law_9 cp_law_9 = true := by decide +kernel
theorem ck_law_10 : mm_chkL 184 mm_Yt "WhichWordLaw" false code (some .boolean) cd_law_10 cp_law_10 = true := by decide +kernel
theorem ck_law_11 : mm_chkL 184 mm_Yt "WhichWordLaw" false code (some .boolean) cd_law_11 cp_law_11 = true := by decide +kernel
theorem ck_law_12 : mm_chkL 184 mm_Yt "WhichWordLaw" false code (some .boolean) cd_law_12 cp_law_12 = true := by decide +kernel
theorem ck_law_13 : mm_chkL 184 mm_Yt "WhichWordLaw" false code (some .boolean) cd_law_13 cp_law_13 = true := by decide +kernel
theorem ck_law_14 : mm_chkL 184 mm_Yt "WhichWordLaw" false code (some .boolean) cd_law_14 cp_law_14 = true := by decide +kernel
theorem ck_law_15 : mm_chkL 184 mm_Yt "WhichWordLaw" false code (some .boolean) cd_law_15 cp_law_15 = true := by decide +kernel
theorem ck_law_16 : mm_chkL 184 mm_Yt "WhichWordLaw" false code (some .boolean) cd_law_16 cp_law_16 = true := by decide +kernel
theorem mm_find_app : ∀ (a b : mm_C) (pc : Nat) (q : mm_I), mm_find (a ++ b) pc = some q → mm_find a pc = some q ∨ mm_find b pc = some q
  | [], _, _, _, h => Or.inr h
  | x :: r, b, pc, q, h => by
    have e1 : mm_find (x :: r ++ b) pc = (match Nat.beq x.1 pc with
      | true => some x.2
      | false => mm_find (r ++ b) pc) := rfl
    have e2 : mm_find (x :: r) pc = (match Nat.beq x.1 pc with
      | true => some x.2
      | false => mm_find r pc) := rfl
    rw [e1] at h
    rw [e2]
    cases hb : Nat.beq x.1 pc
    · rw [hb] at h
      exact mm_find_app r b pc q h
    · rw [hb] at h
      exact Or.inl h
theorem ck_law : ∀ (pc : Nat) (q : mm_I), mm_find cd_law pc = some q → mm_oki mm_Yt "WhichWordLaw" false code (some .boolean) mm_Df pc q.1 q.2.1 q.2.2.1 q.2.2.2.1 q.2.2.2.2.1 q.2.2.2.2.2 := by
  intro pc q h
  unfold cd_law at h
  rcases mm_find_app _ _ _ _ h with h | h
  · exact mm_chkL_ok mm_Yt_ok mm_Df_ok _ _ ck_law_1 pc q h
  rcases mm_find_app _ _ _ _ h with h | h
  · exact mm_chkL_ok mm_Yt_ok mm_Df_ok _ _ ck_law_2 pc q h
  rcases mm_find_app _ _ _ _ h with h | h
  · exact mm_chkL_ok mm_Yt_ok mm_Df_ok _ _ ck_law_3 pc q h
  rcases mm_find_app _ _ _ _ h with h | h
  · exact mm_chkL_ok mm_Yt_ok mm_Df_ok _ _ ck_law_4 pc q h
  rcases mm_find_app _ _ _ _ h with h | h
  · exact mm_chkL_ok mm_Yt_ok mm_Df_ok _ _ ck_law_5 pc q h
  rcases mm_find_app _ _ _ _ h with h | h
  · exact mm_chkL_ok mm_Yt_ok mm_Df_ok _ _ ck_law_6 pc q h
  rcases mm_find_app _ _ _ _ h with h | h
  · exact mm_chkL_ok mm_Yt_ok mm_Df_ok _ _ ck_law_7 pc q h
  rcases mm_find_app _ _ _ _ h with h | h
  · exact mm_chkL_ok mm_Yt_ok mm_Df_ok _ _ ck_law_8 pc q h
  rcases mm_find_app _ _ _ _ h with h | h
  · exact mm_chkL_ok mm_Yt_ok mm_Df_ok _ _ ck_law_9 pc q h
  rcases mm_find_app _ _ _ _ h with h | h
  · exact mm_chkL_ok mm_Yt_ok mm_Df_ok _ _ ck_law_10 pc q h
  rcases mm_find_app _ _ _ _ h with h | h
  · exact mm_chkL_ok mm_Yt_ok mm_Df_ok _ _ ck_law_11 pc q h
  rcases mm_find_app _ _ _ _ h with h | h
  · exact mm_chkL_ok mm_Yt_ok mm_Df_ok _ _ ck_law_12 pc q h
  rcases mm_find_app _ _ _ _ h with h | h
  · exact mm_chkL_ok mm_Yt_ok mm_Df_ok _ _ ck_law_13 pc q h
  rcases mm_find_app _ _ _ _ h with h | h
  · exact mm_chkL_ok mm_Yt_ok mm_Df_ok _ _ ck_law_14 pc q h
  rcases mm_find_app _ _ _ _ h with h | h
  · exact mm_chkL_ok mm_Yt_ok mm_Df_ok _ _ ck_law_15 pc q h
  exact mm_chkL_ok mm_Yt_ok mm_Df_ok _ _ ck_law_16 pc q h
end
section
/-! THE CLAIM OUT OF ONE WALK OF THE LAW'S BODY. Your part is whole_start (and what it stands on); all else here is the same for every law, but numbers. -/
def R_law : String := "WhichWordLaw"
def lw_P (b : Addr) (xs : List Int32) (args : Array Value) (s : State) : Prop := args = #[.ref b] ∧ s.IntsAt b xs ∧ xs.length ≤ 256 ∧ (Jvm.Cond.and given_1 narrow_1).before args s = true
def lw_Q (_ : Array Value) (s : State) (o : Outcome) (t : State) : Prop := o = .returned (some (.int 1)) ∧ Framed s o t [] 600000 7302250
def lw_Z (below : List Frame) (a : Array Value) (s : State) : State → Prop := fun t => ∃ o, t.status = .running ∧ Ended t below o ∧ lw_Q a s o t
/-- the law's own end, with 1 on the stack, nothing written that was there before, its room as the claim has it -/
theorem lw_ret {p : Program} {l : Launch} {e : Env} {s : State} {m : MethodId} {below : List Frame} {meth : Method} {c : Code} {b : Nat} (hx : p.tables.exec = Jvm.exec) (hb : c.code = code) (hr : meth.sig.returnType = ret) (hlocks : meth.locks = false) {pc : Nat} {H : Heap} {ls : Array Slot} (hdg : decode code pc = .ok (.ireturn, 1)) : W p l e room_1 s m #[Value.ref b] below meth c H [] 600000 7302250 (lw_Z below #[Value.ref b] s) (F0 m pc ls [.int 1]) := by
  intro T hT X
  obtain ⟨fs, hret, hrun, hended, hW, hframe⟩ := X.leave (v := some (.int 1)) (hlocks := hlocks) (fun h => by rw [hr] at h; cases h)
  have hmeth' : T.vm.method? m = some meth := X.method'
  refine ⟨T.setFrames fs, ?_, .returned (some (.int 1)), hrun, hended, rfl, ⟨_, rfl⟩, hW, hframe⟩
  jvm_step X.here [X.here.top, hx, hb, hdg, hmeth', hr, ret, narrow_b1]
  (try refine ⟨rfl, ?_⟩); (try refine ⟨rfl, ?_⟩)
  first | (intro acts; rw [hret _ acts rfl rfl rfl]) | rw [hret _ _ rfl rfl rfl]
  exact Steps.refl _
/-- what holds at the law's entry: the machine, the code, the tables' words (any of lw_tbl by 'hts w (by decide +kernel)'), the script of L ints xs at the cell b, what the Statement gives of the start (any of its parts by flat_of_before) -/
def lw_At (p : Program) (s : State) (m : MethodId) (meth : Method) (c : Code) (b L : Nat) (xs : Nat → Int32) : Prop :=
  p.tables.exec = Jvm.exec ∧ c.code = code ∧ meth.sig.returnType = ret ∧ c.maxLocals = 4 ∧ s.vm.findClass R_law = some m.cls ∧ (∀ w ∈ lw_tbl, w.before #[Value.ref b] s = true) ∧ va_X b L xs s s.heap ∧ b < s.heap.size ∧ meth.locks = false ∧ (Jvm.Cond.and given_1 narrow_1).before #[Value.ref b] s = true
def mm_t1 : List Int32 := [0, 6, 21, 39, 42, 60, 78, 84]
def mm_t2 : List Int32 := [3, 5, 9, 17, 33, 6, 10, 18, 34, 12, 20, 36, 24, 40, 48]
def mm_t3 : List Int32 := [0, 0, 1, 2, 1, 2]
def mm_t4 : List Int32 := [1, 2, 0, 0, 2, 1]
def mm_t5 : List Int32 := [2, 1, 2, 1, 0, 0]
/-- the cells at the start: the script and the tables -/
def mm_m0 (L : Nat) (xs : Nat → Int32) : mm_M := [.inl (0, L, .inl xs), .inl (0, 8, .inl (fun j => mm_t1.getD j 0)), .inl (0, 15, .inl (fun j => mm_t2.getD j 0)), .inl (0, 6, .inl (fun j => mm_t3.getD j 0)), .inl (0, 6, .inl (fun j => mm_t4.getD j 0)), .inl (0, 6, .inl (fun j => mm_t5.getD j 0))]
def mm_sN (L : Nat) : Nat → Nat
  | 0 => L
  | 1 => 8
  | 2 => 15
  | 3 => 6
  | 4 => 6
  | _ => 6
def mm_sf (xs : Nat → Int32) : Nat → Nat → Int32
  | 0 => xs
  | 1 => fun j => mm_t1.getD j 0
  | 2 => fun j => mm_t2.getD j 0
  | 3 => fun j => mm_t3.getD j 0
  | 4 => fun j => mm_t4.getD j 0
  | _ => fun j => mm_t5.getD j 0
set_option maxRecDepth 100000 in
theorem mm_tab1 {s : State} {args : Array Value} (hs : ∀ c ∈ flatC (Jvm.Cond.and given_1 narrow_1), c.before args s = true) : ∃ t : Nat, ((Jvm.Term.static "WhichWord" "FIRST_OF_KIND" "[I")).eval args s none [] s = some (.ref t) ∧ va_T .int t 8 (fun j => .int (mm_t1.getD j 0)) (fun q => s.heap.size ≤ q) s s.heap := by
  refine va_Tof (by decide) (hs _ (by decide +kernel)) (va_eqt (hs _ (by decide +kernel))) ?_ (fun a h => Nat.not_le.mpr h)
  intro j hj
  match j, hj with
  | 0, _ => exact va_eqt (z := 0) (hs _ (by decide +kernel))
  | 1, _ => exact va_eqt (z := 6) (hs _ (by decide +kernel))
  | 2, _ => exact va_eqt (z := 21) (hs _ (by decide +kernel))
  | 3, _ => exact va_eqt (z := 39) (hs _ (by decide +kernel))
  | 4, _ => exact va_eqt (z := 42) (hs _ (by decide +kernel))
  | 5, _ => exact va_eqt (z := 60) (hs _ (by decide +kernel))
  | 6, _ => exact va_eqt (z := 78) (hs _ (by decide +kernel))
  | 7, _ => exact va_eqt (z := 84) (hs _ (by decide +kernel))
  | k + 8, h => exact absurd h (by omega)
set_option maxRecDepth 100000 in
theorem mm_tab2 {s : State} {args : Array Value} (hs : ∀ c ∈ flatC (Jvm.Cond.and given_1 narrow_1), c.before args s = true) : ∃ t : Nat, ((Jvm.Term.static "WhichWord" "JOINED_MARKS" "[I")).eval args s none [] s = some (.ref t) ∧ va_T .int t 15 (fun j => .int (mm_t2.getD j 0)) (fun q => s.heap.size ≤ q) s s.heap := by
  refine va_Tof (by decide) (hs _ (by decide +kernel)) (va_eqt (hs _ (by decide +kernel))) ?_ (fun a h => Nat.not_le.mpr h)
  intro j hj
  match j, hj with
  | 0, _ => exact va_eqt (z := 3) (hs _ (by decide +kernel))
  | 1, _ => exact va_eqt (z := 5) (hs _ (by decide +kernel))
  | 2, _ => exact va_eqt (z := 9) (hs _ (by decide +kernel))
  | 3, _ => exact va_eqt (z := 17) (hs _ (by decide +kernel))
  | 4, _ => exact va_eqt (z := 33) (hs _ (by decide +kernel))
  | 5, _ => exact va_eqt (z := 6) (hs _ (by decide +kernel))
  | 6, _ => exact va_eqt (z := 10) (hs _ (by decide +kernel))
  | 7, _ => exact va_eqt (z := 18) (hs _ (by decide +kernel))
  | 8, _ => exact va_eqt (z := 34) (hs _ (by decide +kernel))
  | 9, _ => exact va_eqt (z := 12) (hs _ (by decide +kernel))
  | 10, _ => exact va_eqt (z := 20) (hs _ (by decide +kernel))
  | 11, _ => exact va_eqt (z := 36) (hs _ (by decide +kernel))
  | 12, _ => exact va_eqt (z := 24) (hs _ (by decide +kernel))
  | 13, _ => exact va_eqt (z := 40) (hs _ (by decide +kernel))
  | 14, _ => exact va_eqt (z := 48) (hs _ (by decide +kernel))
  | k + 15, h => exact absurd h (by omega)
set_option maxRecDepth 100000 in
theorem mm_tab3 {s : State} {args : Array Value} (hs : ∀ c ∈ flatC (Jvm.Cond.and given_1 narrow_1), c.before args s = true) : ∃ t : Nat, ((Jvm.Term.static "WhichWord" "PLACE_OF_WHO" "[I")).eval args s none [] s = some (.ref t) ∧ va_T .int t 6 (fun j => .int (mm_t3.getD j 0)) (fun q => s.heap.size ≤ q) s s.heap := by
  refine va_Tof (by decide) (hs _ (by decide +kernel)) (va_eqt (hs _ (by decide +kernel))) ?_ (fun a h => Nat.not_le.mpr h)
  intro j hj
  match j, hj with
  | 0, _ => exact va_eqt (z := 0) (hs _ (by decide +kernel))
  | 1, _ => exact va_eqt (z := 0) (hs _ (by decide +kernel))
  | 2, _ => exact va_eqt (z := 1) (hs _ (by decide +kernel))
  | 3, _ => exact va_eqt (z := 2) (hs _ (by decide +kernel))
  | 4, _ => exact va_eqt (z := 1) (hs _ (by decide +kernel))
  | 5, _ => exact va_eqt (z := 2) (hs _ (by decide +kernel))
  | k + 6, h => exact absurd h (by omega)
set_option maxRecDepth 100000 in
theorem mm_tab4 {s : State} {args : Array Value} (hs : ∀ c ∈ flatC (Jvm.Cond.and given_1 narrow_1), c.before args s = true) : ∃ t : Nat, ((Jvm.Term.static "WhichWord" "PLACE_OF_DOING" "[I")).eval args s none [] s = some (.ref t) ∧ va_T .int t 6 (fun j => .int (mm_t4.getD j 0)) (fun q => s.heap.size ≤ q) s s.heap := by
  refine va_Tof (by decide) (hs _ (by decide +kernel)) (va_eqt (hs _ (by decide +kernel))) ?_ (fun a h => Nat.not_le.mpr h)
  intro j hj
  match j, hj with
  | 0, _ => exact va_eqt (z := 1) (hs _ (by decide +kernel))
  | 1, _ => exact va_eqt (z := 2) (hs _ (by decide +kernel))
  | 2, _ => exact va_eqt (z := 0) (hs _ (by decide +kernel))
  | 3, _ => exact va_eqt (z := 0) (hs _ (by decide +kernel))
  | 4, _ => exact va_eqt (z := 2) (hs _ (by decide +kernel))
  | 5, _ => exact va_eqt (z := 1) (hs _ (by decide +kernel))
  | k + 6, h => exact absurd h (by omega)
set_option maxRecDepth 100000 in
theorem mm_tab5 {s : State} {args : Array Value} (hs : ∀ c ∈ flatC (Jvm.Cond.and given_1 narrow_1), c.before args s = true) : ∃ t : Nat, ((Jvm.Term.static "WhichWord" "PLACE_OF_WHOM" "[I")).eval args s none [] s = some (.ref t) ∧ va_T .int t 6 (fun j => .int (mm_t5.getD j 0)) (fun q => s.heap.size ≤ q) s s.heap := by
  refine va_Tof (by decide) (hs _ (by decide +kernel)) (va_eqt (hs _ (by decide +kernel))) ?_ (fun a h => Nat.not_le.mpr h)
  intro j hj
  match j, hj with
  | 0, _ => exact va_eqt (z := 2) (hs _ (by decide +kernel))
  | 1, _ => exact va_eqt (z := 1) (hs _ (by decide +kernel))
  | 2, _ => exact va_eqt (z := 2) (hs _ (by decide +kernel))
  | 3, _ => exact va_eqt (z := 1) (hs _ (by decide +kernel))
  | 4, _ => exact va_eqt (z := 0) (hs _ (by decide +kernel))
  | 5, _ => exact va_eqt (z := 0) (hs _ (by decide +kernel))
  | k + 6, h => exact absurd h (by omega)
set_option maxHeartbeats 4000000 in
/-- the law's walk out of the small machine's -/
theorem mm_start (d : Nat) (hd : d ≤ 100) (hwp : ∀ (L : Nat) (xs : Nat → Int32), L ≤ 256 → mm_WP (mm_Sp mm_Pt mm_Al mm_Df d) mm_Al mm_Df (600000, 7302250) cd_law (fun r _ => r = some (.int 1)) 0 (mm_args 4 [.ref 0]) [] (mm_m0 L xs) 0 0)
    {p : Program} {e : Env} {s : State} {m : MethodId} {below : List Frame} {meth : Method} {c : Code} (l : Launch) {b L : Nat} {xs : Nat → Int32} (hL : L ≤ 256) (C0 : lw_At p s m meth c b L xs) : W p l e room_1 s m #[Value.ref b] below meth c s.heap [] 0 0 (lw_Z below #[Value.ref b] s) (entryFrame m ([Value.ref b] : List Value).toArray 4) := by
  obtain ⟨hx, hb, hr, hml, hown, hts, hX, hbl, hlocks, hgv⟩ := id C0
  have hs := flat_of_before _ hgv
  have htG : ∀ w ∈ mm_tG, w.before #[Value.ref b] s = true := fun w hw => hts w (List.mem_filter.mp hw).1
  obtain ⟨t1, ev1, hT1⟩ := mm_tab1 hs
  obtain ⟨t2, ev2, hT2⟩ := mm_tab2 hs
  obtain ⟨t3, ev3, hT3⟩ := mm_tab3 hs
  obtain ⟨t4, ev4, hT4⟩ := mm_tab4 hs
  obtain ⟨t5, ev5, hT5⟩ := mm_tab5 hs
  obtain ⟨c0, i0, hK0⟩ := u_known (C := RX0) (T := TX0) (N := 5) (n := 5) htG mm_wsG0 (hts (.instantiable RX0 5) (by decide +kernel))
  obtain ⟨c1, i1, hK1⟩ := u_known (C := RX1) (T := TX1) (N := 2) (n := 2) htG mm_wsG1 (hts (.instantiable RX1 2) (by decide +kernel))
  obtain ⟨c2, i2, hK2⟩ := u_known (C := RX2) (T := TX2) (N := 1) (n := 1) htG mm_wsG2 (hts (.instantiable RX2 1) (by decide +kernel))
  obtain ⟨c3, i3, hK3⟩ := u_known (C := RX3) (T := TX3) (N := 4) (n := 4) htG mm_wsG3 (hts (.instantiable RX3 4) (by decide +kernel))
  obtain ⟨c4, i4, hK4⟩ := u_known (C := RX4) (T := TX4) (N := 3) (n := 3) htG mm_wsG4 (hts (.instantiable RX4 3) (by decide +kernel))
  obtain ⟨c5, i5, hK5⟩ := u_known (C := RX5) (T := TX5) (N := 12) (n := 12) htG mm_wsG5 (hts (.instantiable RX5 12) (by decide +kernel))
  obtain ⟨c6, i6, hK6⟩ := u_known (C := RX6) (T := TX6) (N := 8) (n := 8) htG mm_wsG6 (hts (.instantiable RX6 8) (by decide +kernel))
  obtain ⟨c7, i7, hK7⟩ := u_known (C := RX7) (T := TX7) (N := 31) (n := 31) htG mm_wsG7 (hts (.instantiable RX7 31) (by decide +kernel))
  obtain ⟨aI, kI, cI, f1, f2, f3⟩ := Cond.arrayClass_spec (hts (.arrayClass .int) (by decide +kernel))
  obtain ⟨aZ, kZ, cZ, z1, z2, z3⟩ := Cond.arrayClass_spec (hts (.arrayClass .boolean) (by decide +kernel))
  have hAO : va_AO RX3 s := va_AO.of (hts (.arrayOver (.object RX3)) (by decide +kernel))
  obtain ⟨comp, cS, kS, g1, g2, g3, g4, g5⟩ := Cond.arrayOver_spec hAO
  obtain ⟨dC, dI, hKc⟩ : ∃ (dC : Nat → ClassId) (dI : Nat → Nat → Nat), ∀ (k : Nat) (q : vw_C), vwCl[k]? = some q → u_Kn s q.1 q.2.1 q.2.2 (dC k) (dI k) := by
    refine ⟨fun k => match k with
      | 0 => c0
      | 1 => c1
      | 2 => c2
      | 3 => c3
      | 4 => c4
      | 5 => c5
      | 6 => c6
      | _ => c7
      , fun k => match k with
      | 0 => i0
      | 1 => i1
      | 2 => i2
      | 3 => i3
      | 4 => i4
      | 5 => i5
      | 6 => i6
      | _ => i7
      , ?_⟩
    intro k q hq
    match k, hq with
    | 0, hq => cases hq; exact hK0
    | 1, hq => cases hq; exact hK1
    | 2, hq => cases hq; exact hK2
    | 3, hq => cases hq; exact hK3
    | 4, hq => cases hq; exact hK4
    | 5, hq => cases hq; exact hK5
    | 6, hq => cases hq; exact hK6
    | 7, hq => cases hq; exact hK7
    | k + 8, hq => simp [vwCl] at hq
  obtain ⟨cA, e0, e1, e2⟩ : ∃ cA : Nat → ClassId, cA 0 = aI ∧ cA 1 = aZ ∧ cA 2 = cS := ⟨fun k => match k with
    | 0 => aI
    | 1 => aZ
    | _ => cS, rfl, rfl, rfl⟩
  have hK : va_K (dC, dI) vwCl (mm_tys cA) s := by
    refine ⟨hKc, fun k q hq => ?_⟩
    match k, hq with
    | 0, hq =>
      cases hq
      rw [e0]
      exact ⟨fun N z => ⟨(fun k h => by cases h), kI, f2, cI, f3⟩, f1⟩
    | 1, hq =>
      cases hq
      rw [e1]
      exact ⟨fun N z => ⟨(fun k h => by cases h), kZ, z2, cZ, z3⟩, z1⟩
    | 2, hq =>
      cases hq
      rw [e2]
      exact ⟨fun N z => ⟨(fun k h => by cases h), kS, g3, comp, g4⟩, kS, comp, g3, g4, g1, g5⟩
    | k + 3, hq => simp at hq
  have hV : mm_Vm dC dI cA s := ⟨fun w hw hg => word_at (State.WarmedH.refl s) (good_of_word hg) (hts w hw), fun w hw hn => by
    have h2 := hts w hw
    cases w <;> first | (exact va_Nw.of rfl h2) | (cases hn), hAO, hK⟩
  obtain ⟨sa, s0, s1, s2, s3, s4, s5⟩ : ∃ sa : Nat → Nat, sa 0 = b ∧ sa 1 = t1 ∧ sa 2 = t2 ∧ sa 3 = t3 ∧ sa 4 = t4 ∧ sa 5 = t5 := ⟨fun k => match k with
    | 0 => b
    | 1 => t1
    | 2 => t2
    | 3 => t3
    | 4 => t4
    | _ => t5, rfl, rfl, rfl, rfl, rfl, rfl⟩
  have hA : ∀ a : Nat, a < s.heap.size → ¬ (fun q : Nat => s.heap.size ≤ q) a := fun a h => Nat.not_le.mpr h
  have hSt : mm_St (mm_g sa s.heap.size) s.heap.size (mm_sN L) (mm_sf xs) s s.heap := by
    refine ⟨fun k hk => ?_, fun k h1 h2 => ?_⟩
    · rw [mm_g_st hk]
      match k, hk with
      | 0, _ =>
        rw [s0]
        obtain ⟨scr, x1, x2, x3, x4, x5⟩ := hX
        exact ⟨scr, x1, x2, x3, Nat.le_of_eq x4.symm, by rw [x4]; rfl, x5, hA b hbl⟩
      | 1, _ => rw [s1]; exact hT1
      | 2, _ => rw [s2]; exact hT2
      | 3, _ => rw [s3]; exact hT3
      | 4, _ => rw [s4]; exact hT4
      | 5, _ => rw [s5]; exact hT5
      | k + 6, hk => exact absurd hk (by omega)
    · rw [mm_g_st h2]
      match k, h1, h2 with
      | 1, _, _ => rw [s1]; exact va_Zref (hts (.laysStatic RX6 "FIRST_OF_KIND" "[I") (by decide +kernel)) (hts (.initialized RX6) (by decide +kernel)) ev1 hA
      | 2, _, _ => rw [s2]; exact va_Zref (hts (.laysStatic RX6 "JOINED_MARKS" "[I") (by decide +kernel)) (hts (.initialized RX6) (by decide +kernel)) ev2 hA
      | 3, _, _ => rw [s3]; exact va_Zref (hts (.laysStatic RX6 "PLACE_OF_WHO" "[I") (by decide +kernel)) (hts (.initialized RX6) (by decide +kernel)) ev3 hA
      | 4, _, _ => rw [s4]; exact va_Zref (hts (.laysStatic RX6 "PLACE_OF_DOING" "[I") (by decide +kernel)) (hts (.initialized RX6) (by decide +kernel)) ev4 hA
      | 5, _, _ => rw [s5]; exact va_Zref (hts (.laysStatic RX6 "PLACE_OF_WHOM" "[I") (by decide +kernel)) (hts (.initialized RX6) (by decide +kernel)) ev5 hA
      | k + 6, _, h2 => exact absurd h2 (by omega)
      | 0, h1, _ => exact absurd h1 (by omega)
  have hg : ∀ k, 6 ≤ k → mm_g sa s.heap.size k = s.heap.size + (k - 6) := fun k hk => mm_g_own hk
  have hRep : mm_Rep (mm_g sa s.heap.size) s.heap.size dC dI cA (mm_sN L) (mm_sf xs) (mm_m0 L xs) s.heap := by
    refine ⟨⟨Nat.le_refl _, rfl⟩, fun k hk => ?_, fun i e hi he => ?_⟩
    · match k, hk with
      | 0, _ => rfl
      | 1, _ => rfl
      | 2, _ => rfl
      | 3, _ => rfl
      | 4, _ => rfl
      | 5, _ => rfl
      | k + 6, hk => exact absurd hk (by omega)
    · have h9 : i < 6 := mm_nth_lt he
      omega
  have X : mm_Cx p s m c code R_law (mm_g sa s.heap.size) s.heap.size dC dI cA (mm_sN L) (mm_sf xs) := ⟨hx, hb, hown, hV, hSt, Nat.le_refl _, hg⟩
  have hent : ([Value.ref b] : List Value) = ([Value.ref 0] : List Value).map (mm_v (mm_g sa s.heap.size)) := by
    show [Value.ref b] = [Value.ref (mm_g sa s.heap.size 0)]
    rw [mm_g_st (by omega), s0]
  have key : mm_at p l e room_1 s m #[Value.ref b] below meth c (lw_Z below #[Value.ref b] s) (mm_g sa s.heap.size) s.heap.size dC dI cA (mm_sN L) (mm_sf xs) 4 0 (mm_args 4 [.ref 0]) [] (mm_m0 L xs) 0 0 := by
    refine hwp L xs hL _ (mm_sim (R := room_1) (d := d) (ini := false) (rt := some .boolean) X hml ⟨by show d + 1 ≤ 2048; omega, by show 100 * d + 2100 ≤ 84000; omega⟩ (fun h => by cases h) (mm_sound mm_prog hg d) ck_law ?_)
    intro pc mem' H locs lr k n v ins hd' hr' hR hS hk hn hq
    subst hq
    refine va_forget hS.2.2 ?_
    refine W.widen (k := 600000) (n := 7302250) hk hn ?_
    unfold mm_isret at hr'
    split at hr'
    · rename_i x hv
      cases hv
      exact lw_ret hx hb hr hlocks hd'
    · rename_i hv
      cases hv
    · rename_i hv
      cases hv
    · exact hr'.elim
  have hl : mm_LR (mm_g sa s.heap.size) 4 (mm_args 4 [.ref 0]) ((lg_sl ([Value.ref b] : List Value) ++ List.replicate (4 - (lg_sl ([Value.ref b] : List Value)).length) Slot.unset).toArray) := by
    rw [hent]
    exact mm_LR_entry (by decide)
  rw [lg_entry_eq]
  exact key s.heap [] _ hRep va_S.rf hl (Nat.zero_le _) (Nat.zero_le _)
end
section
/-! rows on bits, shifts and unsigned numbers, to paste: each family out of a closed proof of our own, whole with what it rests on; each by itself clean at Lean in its own claim (generation 39, form 5). Take a family whole -/
/-! ===== Int32 by its bits: bt x i ===== -/
def bt (x : Int32) (i : Nat) : Bool := x.toBitVec.getLsbD i
theorem b_ext {x y : Int32} (h : ∀ i, i < 32 → bt x i = bt y i) : x = y := Int32.toBitVec_inj.mp (BitVec.eq_of_getLsbD_eq (fun i hi => h i hi))
theorem b_or (x y : Int32) (i : Nat) : bt (x ||| y) i = (bt x i || bt y i) := by unfold bt; rw [Int32.toBitVec_or, BitVec.getLsbD_or]
theorem b_and (x y : Int32) (i : Nat) : bt (x &&& y) i = (bt x i && bt y i) := by unfold bt; rw [Int32.toBitVec_and, BitVec.getLsbD_and]
theorem b_xor (x y : Int32) (i : Nat) : bt (x ^^^ y) i = (bt x i ^^ bt y i) := by unfold bt; rw [Int32.toBitVec_xor, BitVec.getLsbD_xor]
theorem b_big {x : Int32} {i : Nat} (h : 32 ≤ i) : bt x i = false := BitVec.getLsbD_of_ge _ _ h
theorem b_255 (i : Nat) : bt 255 i = decide (i < 8) := by
  rcases Nat.lt_or_ge i 32 with h | h
  · exact (by decide +kernel : ∀ i, i < 32 → bt 255 i = decide (i < 8)) i h
  · rw [b_big h, decide_eq_false (by omega)]
theorem b_65535 (i : Nat) : bt 65535 i = decide (i < 16) := by
  rcases Nat.lt_or_ge i 32 with h | h
  · exact (by decide +kernel : ∀ i, i < 32 → bt 65535 i = decide (i < 16)) i h
  · rw [b_big h, decide_eq_false (by omega)]
theorem b_m1 : ∀ i, i < 32 → bt (-1) i = true := by decide +kernel
theorem b_0 (i : Nat) : bt 0 i = false := BitVec.getLsbD_zero
theorem s_l : ∀ n, n < 32 → ((nI n &&& 31).toBitVec.smod 32).toNat = n := by decide +kernel
theorem s_u : ∀ n, n < 32 → (((nI n).toUInt32 &&& Int32.toUInt32 31).toBitVec % 32).toNat = n := by decide +kernel
theorem b_shl (n : Nat) (hn : n < 32) (x : Int32) {i : Nat} (hi : i < 32) : bt (x <<< (nI n &&& 31)) i = (decide (n ≤ i) && bt x (i - n)) := by
  unfold bt
  rw [Int32.toBitVec_shiftLeft]
  show (x.toBitVec <<< ((nI n &&& 31).toBitVec.smod 32).toNat).getLsbD i = _
  rw [s_l n hn, BitVec.getLsbD_shiftLeft]
  rcases Nat.lt_or_ge i n with h | h
  · simp [h, Nat.not_le.mpr h]
  · simp [hi, h, Nat.not_lt.mpr h]
theorem b_ushr (n : Nat) (hn : n < 32) (x : Int32) (i : Nat) : bt ((x.toUInt32 >>> ((nI n).toUInt32 &&& Int32.toUInt32 31)).toInt32) i = bt x (n + i) := by
  show (x.toUInt32 >>> ((nI n).toUInt32 &&& Int32.toUInt32 31)).toBitVec.getLsbD i = x.toUInt32.toBitVec.getLsbD (n + i)
  rw [UInt32.toBitVec_shiftRight]
  show (x.toUInt32.toBitVec >>> (((nI n).toUInt32 &&& Int32.toUInt32 31).toBitVec % 32).toNat).getLsbD i = _
  rw [s_u n hn, BitVec.getLsbD_ushiftRight]
theorem b_sshr (n : Nat) (hn : n < 32) (x : Int32) {i : Nat} (hi : i < 32) : bt (x >>> (nI n &&& 31)) i = if n + i < 32 then bt x (n + i) else bt x 31 := by
  unfold bt
  rw [Int32.toBitVec_shiftRight]
  show (x.toBitVec.sshiftRight ((nI n &&& 31).toBitVec.smod 32).toNat).getLsbD i = _
  rw [s_l n hn, BitVec.getLsbD_sshiftRight, BitVec.msb_eq_getLsbD_last]
  simp [hi]
theorem b_shl8 (x : Int32) {i : Nat} (hi : i < 32) : bt (x <<< ((8 : Int32) &&& 31)) i = (decide (8 ≤ i) && bt x (i - 8)) := b_shl 8 (by omega) x hi
theorem b_shl16 (x : Int32) {i : Nat} (hi : i < 32) : bt (x <<< ((16 : Int32) &&& 31)) i = (decide (16 ≤ i) && bt x (i - 16)) := b_shl 16 (by omega) x hi
theorem b_shl24 (x : Int32) {i : Nat} (hi : i < 32) : bt (x <<< ((24 : Int32) &&& 31)) i = (decide (24 ≤ i) && bt x (i - 24)) := b_shl 24 (by omega) x hi
theorem b_sshr8 (x : Int32) {i : Nat} (hi : i < 32) : bt (x >>> ((8 : Int32) &&& 31)) i = if 8 + i < 32 then bt x (8 + i) else bt x 31 := b_sshr 8 (by omega) x hi
/-! ===== nI under and, xor, >>>, one bit, 65535 ===== -/
theorem nx_and (a b : Nat) : nI a &&& nI b = nI (a &&& b) := by
  apply Int32.toBitVec_inj.1
  show BitVec.ofNat 32 a &&& BitVec.ofNat 32 b = BitVec.ofNat 32 (a &&& b)
  apply BitVec.eq_of_getLsbD_eq
  intro i hi
  simp [hi]
theorem nx_xor (a b : Nat) : nI a ^^^ nI b = nI (a ^^^ b) := by
  apply Int32.toBitVec_inj.1
  show BitVec.ofNat 32 a ^^^ BitVec.ofNat 32 b = BitVec.ofNat 32 (a ^^^ b)
  apply BitVec.eq_of_getLsbD_eq
  intro i hi
  simp [hi]
theorem nx_cnt : ∀ j : Fin 32, (UInt32.ofNat j.val &&& Int32.toUInt32 31).toNat % 32 = j.val := by decide +kernel
theorem nx_ush {k j : Nat} (hk : k < 65536) (hj : j < 32) : ((nI k).toUInt32 >>> ((nI j).toUInt32 &&& Int32.toUInt32 31)).toInt32 = nI (k >>> j) := by
  have hs : k >>> j ≤ k := by
    rw [Nat.shiftRight_eq_div_pow]
    exact Nat.div_le_self _ _
  have e2 : UInt32.ofNat k >>> (UInt32.ofNat j &&& Int32.toUInt32 31) = UInt32.ofNat (k >>> j) := by
    apply UInt32.toNat_inj.1
    have h1 : (UInt32.ofNat k).toNat = k := Nat.mod_eq_of_lt (by omega)
    have h2 : (UInt32.ofNat (k >>> j)).toNat = k >>> j := Nat.mod_eq_of_lt (by omega)
    rw [UInt32.toNat_shiftRight, nx_cnt ⟨j, hj⟩, h1, h2]
  show (UInt32.ofNat k >>> (UInt32.ofNat j &&& Int32.toUInt32 31)).toInt32 = _
  rw [e2]
  rfl
theorem nx_bit {k j : Nat} (hk : k < 65536) (hj : j < 16) : (((nI k).toUInt32 >>> ((nI j).toUInt32 &&& Int32.toUInt32 31)).toInt32 &&& 1) = 0 ↔ k.testBit j = false := by
  rw [nx_ush hk (by omega)]
  show nI (k >>> j) &&& nI 1 = 0 ↔ _
  rw [nx_and, Nat.and_one_is_mod, ← nI_0, nI_eq (by omega) (by omega), Nat.testBit_eq_decide_div_mod_eq, Nat.shiftRight_eq_div_pow, decide_eq_false_iff_not]
  generalize k / 2 ^ j = z
  omega
theorem nx_mod (k : Nat) : nI k &&& 65535 = nI (k % 65536) := by
  show nI k &&& nI 65535 = _
  rw [nx_and, show (65535 : Nat) = 2 ^ 16 - 1 from rfl, Nat.and_two_pow_sub_one_eq_mod]
theorem nx_m16 {k : Nat} (h : k < 65536) : nI k &&& 65535 = nI k := by rw [nx_mod, Nat.mod_eq_of_lt h]
theorem nx_mask (x : Int32) : ∃ k, k < 65536 ∧ x &&& 65535 = nI k := by
  have e : x = nI x.toBitVec.toNat := by
    apply Int32.toBitVec_inj.1
    show x.toBitVec = BitVec.ofNat 32 x.toBitVec.toNat
    simp
  refine ⟨x.toBitVec.toNat % 65536, Nat.mod_lt _ (by omega), ?_⟩
  rw [← nx_mod, ← e]
/-! ===== Int32 as a set of bits: test, set ===== -/
def nf_M (m : Int32) : Nat := 4294967296 - m.toBitVec.toNat
theorem nf_sh : ∀ l, l < 32 → ((1 : Int32) <<< (nI l &&& 31)).toBitVec = BitVec.twoPow 32 l := by decide +kernel
theorem nf_sl : ∀ l, l < 32 → (((nI l).toUInt32 &&& Int32.toUInt32 31).toBitVec % 32).toNat = l := by decide +kernel
theorem nf_tp : ∀ l, l < 32 → BitVec.twoPow 32 l ≠ 0#32 := by decide +kernel
theorem nf_bit (m : Int32) (l : Nat) (hl : l < 32) : ((m.toUInt32 >>> ((nI l).toUInt32 &&& Int32.toUInt32 31)).toInt32 &&& 1) = 0 ↔ (m &&& ((1 : Int32) <<< (nI l &&& 31))) = 0 := by
  have e : ((m.toUInt32 >>> ((nI l).toUInt32 &&& Int32.toUInt32 31)).toInt32).toBitVec = m.toBitVec >>> l := by
    show m.toBitVec >>> (((nI l).toUInt32 &&& Int32.toUInt32 31).toBitVec % 32) = m.toBitVec >>> l
    rw [BitVec.ushiftRight_eq', nf_sl l hl]
  rw [← Int32.toBitVec_inj, ← Int32.toBitVec_inj, Int32.toBitVec_and, Int32.toBitVec_and, nf_sh l hl, e, BitVec.and_twoPow]
  show (m.toBitVec >>> l &&& 1#32) = 0#32 ↔ _ = 0#32
  rw [BitVec.and_one_eq_setWidth_ofBool_getLsbD, BitVec.getLsbD_ushiftRight, Nat.add_zero]
  cases hb : m.toBitVec.getLsbD l
  · exact ⟨fun _ => by simp, fun _ => by decide⟩
  · exact ⟨fun z => absurd z (by decide), fun z => absurd ((if_pos rfl).symm.trans z) (nf_tp l hl)⟩
theorem nf_gr (m k : Int32) (h : m &&& k = 0) (hk : k ≠ 0) : nf_M (m ||| k) < nf_M m := by
  have hm := m.toBitVec.isLt
  have hm' := (m ||| k).toBitVec.isLt
  have h1 : m.toBitVec.toNat ≤ (m ||| k).toBitVec.toNat := by
    rw [Int32.toBitVec_or, BitVec.toNat_or]
    exact Nat.left_le_or
  have h2 : m.toBitVec.toNat ≠ (m ||| k).toBitVec.toNat := by
    intro e
    have e2 : m = m ||| k := Int32.toBitVec_inj.mp (BitVec.eq_of_toNat_eq e)
    apply hk
    apply Int32.toBitVec_inj.mp
    show k.toBitVec = 0#32
    apply BitVec.eq_of_getLsbD_eq
    intro i hi
    have a : m.toBitVec.getLsbD i = (m.toBitVec.getLsbD i || k.toBitVec.getLsbD i) := by rw [← BitVec.getLsbD_or, ← Int32.toBitVec_or, ← e2]
    have b : (m.toBitVec.getLsbD i && k.toBitVec.getLsbD i) = false := by
      rw [← BitVec.getLsbD_and, ← Int32.toBitVec_and, h]
      exact BitVec.getLsbD_zero
    rw [BitVec.getLsbD_zero]
    revert a b
    cases m.toBitVec.getLsbD i <;> cases k.toBitVec.getLsbD i <;> simp
  unfold nf_M
  omega
/-! ===== a byte read unsigned ===== -/
theorem bp_b (x : Int32) : x.toInt8.toInt32 &&& 255 = x &&& 255 := by
  apply Int32.toBitVec_inj.mp
  rw [Int32.toBitVec_and, Int32.toBitVec_and, Int8.toBitVec_toInt32, Int32.toBitVec_toInt8]
  apply BitVec.eq_of_getLsbD_eq
  intro i hi
  rw [BitVec.getLsbD_and, BitVec.getLsbD_and]
  have hm : ∀ i < 32, 8 ≤ i → (255 : Int32).toBitVec.getLsbD i = false := by decide
  rcases Nat.lt_or_ge i 8 with z | z
  · rw [BitVec.getLsbD_signExtend, BitVec.getLsbD_signExtend, if_pos z, if_pos hi]
    simp only [z, hi, decide_true, Bool.true_and]
  · rw [hm i hi z]; simp
/-! ===== the char cast and 65535 ===== -/
theorem ts_nf {x : Bool} (h : ¬ x = false) : x = true := by cases x <;> first | rfl | exact absurd rfl h
theorem ts_nt {x : Bool} (h : ¬ x = true) : x = false := by cases x <;> first | rfl | exact absurd rfl h
theorem ts_bit {w : Int64} {s : UInt64} {j : Nat} (hj : j < 64) (hs : s.toNat = j) : ((w.toUInt64 >>> s).toInt64 &&& 1) = 0 ↔ w.toBitVec.getLsbD j = false := by
  have e : (w.toUInt64 >>> s).toInt64.toBitVec = w.toBitVec >>> j := by
    apply BitVec.eq_of_toNat_eq
    show (w.toUInt64 >>> s).toNat = _
    rw [UInt64.toNat_shiftRight, hs, Nat.mod_eq_of_lt hj, BitVec.toNat_ushiftRight]
    rfl
  rw [← Int64.toBitVec_inj, Int64.toBitVec_and, e]
  show w.toBitVec >>> j &&& 1#64 = 0#64 ↔ _
  constructor
  · intro h
    have t := congrArg (fun x => x.getLsbD 0) h
    simpa using t
  · intro h
    apply BitVec.eq_of_getLsbD_eq
    intro i hi
    cases i with
    | zero => simp [h]
    | succ i => simp
theorem ts_or {w m : Int64} {j : Nat} (hj : j < 64) (hm : m.toBitVec = BitVec.twoPow 64 j) : (w ||| m) = w ↔ w.toBitVec.getLsbD j = true := by
  rw [← Int64.toBitVec_inj, Int64.toBitVec_or, hm]
  constructor
  · intro h
    have t := congrArg (fun x => x.getLsbD j) h
    simp only [BitVec.getLsbD_or, BitVec.getLsbD_twoPow] at t
    simpa [hj] using t.symm
  · intro h
    apply BitVec.eq_of_getLsbD_eq
    intro i hi
    rw [BitVec.getLsbD_or, BitVec.getLsbD_twoPow]
    by_cases e : j = i
    · subst e; rw [h, Bool.true_or]
    · simp [e]
theorem ts_and {w m : Int64} {j : Nat} (hj : j < 64) (hm : m.toBitVec = BitVec.twoPow 64 j) : (w &&& (m ^^^ (-1))) = w ↔ w.toBitVec.getLsbD j = false := by
  have ha : (-1 : Int64).toBitVec = BitVec.allOnes 64 := by decide
  rw [← Int64.toBitVec_inj, Int64.toBitVec_and, Int64.toBitVec_xor, hm, ha]
  constructor
  · intro h
    have t := congrArg (fun x => x.getLsbD j) h
    simp only [BitVec.getLsbD_and, BitVec.getLsbD_xor, BitVec.getLsbD_twoPow, BitVec.getLsbD_allOnes] at t
    simpa [hj] using t.symm
  · intro h
    apply BitVec.eq_of_getLsbD_eq
    intro i hi
    rw [BitVec.getLsbD_and, BitVec.getLsbD_xor, BitVec.getLsbD_twoPow, BitVec.getLsbD_allOnes]
    by_cases e : j = i
    · subst e; rw [h, Bool.false_and]
    · simp [e, hi]
/-! ===== lN n to 2^64: shifts, and, or, masks, one bit ===== -/
theorem wb_tb (n : Nat) : (lN n).toBitVec = BitVec.ofNat 64 n := rfl
theorem wb_inj {a b : Int64} (h : a.toBitVec = b.toBitVec) : a = b := Int64.toBitVec_inj.mp h
theorem wb_tn {n : Nat} (h : n < 2 ^ 64) : (lN n).toBitVec.toNat = n := by rw [wb_tb, BitVec.toNat_ofNat, Nat.mod_eq_of_lt h]
theorem wb_of (x : Int64) : ∃ n, n < 2 ^ 64 ∧ x = lN n := ⟨x.toBitVec.toNat, x.toBitVec.isLt, wb_inj (by rw [wb_tb]; simp)⟩
theorem wb_of32 (x : Int32) : ∃ n, n < 2 ^ 32 ∧ x = nI n := ⟨x.toBitVec.toNat, x.toBitVec.isLt, Int32.toBitVec_inj.mp (by show _ = BitVec.ofNat 32 _; simp)⟩
theorem wb_c : ∀ k, k < 64 → ((nI k).toInt64 &&& 63) = lN k := by decide +kernel
theorem wb_cu : ∀ k, k < 64 → ((nI k).toInt64.toUInt64 &&& Int64.toUInt64 63) = UInt64.ofNat k := by decide +kernel
theorem wb_sm : ∀ k, k < 64 → (BitVec.ofNat 64 k).smod 64 = BitVec.ofNat 64 k := by decide +kernel
theorem wb_pw {a b : Nat} (h : a ≤ b) : 2 ^ b = 2 ^ a * 2 ^ (b - a) := by rw [← Nat.pow_add]; congr 1; omega
theorem wb_lt2 {a b : Nat} (h : a < b) : 2 ^ a < 2 ^ b := Nat.pow_lt_pow_right (by decide) h
theorem wb_mod (n : Nat) : lN n = lN (n % 2 ^ 64) := wb_inj (by rw [wb_tb, wb_tb]; apply BitVec.eq_of_toNat_eq; rw [BitVec.toNat_ofNat, BitVec.toNat_ofNat, Nat.mod_mod])
theorem wb_shr {n k : Nat} (hn : n < 2 ^ 64) (hk : k < 64) : ((lN n).toUInt64 >>> ((nI k).toInt64.toUInt64 &&& Int64.toUInt64 63)).toInt64 = lN (n / 2 ^ k) := by
  rw [wb_cu k hk]
  apply wb_inj
  apply BitVec.eq_of_toNat_eq
  show ((lN n).toUInt64 >>> UInt64.ofNat k).toNat = (BitVec.ofNat 64 _).toNat
  have h1 : (UInt64.ofNat k).toNat = k := by
    show (BitVec.ofNat 64 k).toNat = k
    rw [BitVec.toNat_ofNat, Nat.mod_eq_of_lt (by omega)]
  have h2 : (lN n).toUInt64.toNat = n := wb_tn hn
  rw [UInt64.toNat_shiftRight, h1, h2, Nat.mod_eq_of_lt hk, Nat.shiftRight_eq_div_pow, BitVec.toNat_ofNat, Nat.mod_eq_of_lt (Nat.lt_of_le_of_lt (Nat.div_le_self _ _) hn)]
theorem wb_shl (n : Nat) {k : Nat} (hk : k < 64) : lN n <<< ((nI k).toInt64 &&& 63) = lN (n * 2 ^ k) := by
  rw [wb_c k hk]
  apply wb_inj
  rw [Int64.toBitVec_shiftLeft, wb_tb, wb_tb, wb_tb, wb_sm k hk]
  apply BitVec.eq_of_toNat_eq
  rw [BitVec.shiftLeft_eq', BitVec.toNat_shiftLeft, BitVec.toNat_ofNat, BitVec.toNat_ofNat, BitVec.toNat_ofNat, Nat.mod_eq_of_lt (show k < 2 ^ 64 by omega), Nat.shiftLeft_eq, Nat.mul_mod, Nat.mod_mod, ← Nat.mul_mod]
theorem wb_and {a b : Nat} (ha : a < 2 ^ 64) (hb : b < 2 ^ 64) : lN a &&& lN b = lN (a &&& b) := by
  apply wb_inj
  rw [Int64.toBitVec_and, wb_tb, wb_tb, wb_tb]
  apply BitVec.eq_of_toNat_eq
  rw [BitVec.toNat_and, BitVec.toNat_ofNat, BitVec.toNat_ofNat, BitVec.toNat_ofNat, Nat.mod_eq_of_lt ha, Nat.mod_eq_of_lt hb, Nat.mod_eq_of_lt (Nat.and_lt_two_pow _ hb)]
theorem wb_or {a b : Nat} (ha : a < 2 ^ 64) (hb : b < 2 ^ 64) : lN a ||| lN b = lN (a ||| b) := by
  apply wb_inj
  rw [Int64.toBitVec_or, wb_tb, wb_tb, wb_tb]
  apply BitVec.eq_of_toNat_eq
  rw [BitVec.toNat_or, BitVec.toNat_ofNat, BitVec.toNat_ofNat, BitVec.toNat_ofNat, Nat.mod_eq_of_lt ha, Nat.mod_eq_of_lt hb, Nat.mod_eq_of_lt (Nat.or_lt_two_pow ha hb)]
theorem wb_mask {n k : Nat} (hn : n < 2 ^ 64) (hk : k < 64) : lN n &&& lN (2 ^ k - 1) = lN (n % 2 ^ k) := by
  rw [wb_and hn (by have := wb_lt2 hk; omega), Nat.and_two_pow_sub_one_eq_mod]
theorem wb_a1 {n : Nat} (hn : n < 2 ^ 64) : lN n &&& 1 = lN (n % 2) := wb_mask (k := 1) hn (by decide)
theorem wb_bit {n k : Nat} (hn : n < 2 ^ 64) (hk : k < 64) : ((lN n).toUInt64 >>> ((nI k).toInt64.toUInt64 &&& Int64.toUInt64 63)).toInt64 &&& 1 = lN (n / 2 ^ k % 2) := by
  rw [wb_shr hn hk, wb_a1 (Nat.lt_of_le_of_lt (Nat.div_le_self _ _) hn)]
theorem wb_xor {q k : Nat} (hk : k < 63) (h : 2 ^ k ≤ q) (h2 : q < 2 ^ (k + 1)) : lN q ^^^ lN (2 ^ k) = lN (q - 2 ^ k) := by
  obtain ⟨r, rfl⟩ : ∃ r, q = 2 ^ k + r := ⟨q - 2 ^ k, by omega⟩
  have hr : r < 2 ^ k := by rw [Nat.pow_succ] at h2; omega
  have hx : (2 ^ k + r) ^^^ 2 ^ k = r := by
    apply Nat.eq_of_testBit_eq
    intro i
    rw [Nat.testBit_xor, Nat.testBit_two_pow]
    rcases Nat.lt_trichotomy i k with h | h | h
    · rw [Nat.testBit_two_pow_add_gt h]
      simp [show ¬ k = i by omega]
    · subst h
      rw [Nat.testBit_two_pow_add_eq]
      simp
    · have a1 : 2 ^ (k + 1) ≤ 2 ^ i := Nat.pow_le_pow_right (by decide) h
      rw [Nat.testBit_lt_two_pow (show 2 ^ k + r < 2 ^ i by omega), Nat.testBit_lt_two_pow (show r < 2 ^ i by omega)]
      simp [show ¬ k = i by omega]
  have b1 := wb_lt2 (show k + 1 < 64 by omega)
  have b2 := wb_lt2 (show k < 64 by omega)
  apply wb_inj
  rw [Int64.toBitVec_xor, wb_tb, wb_tb, wb_tb]
  apply BitVec.eq_of_toNat_eq
  rw [BitVec.toNat_xor, BitVec.toNat_ofNat, BitVec.toNat_ofNat, BitVec.toNat_ofNat, Nat.mod_eq_of_lt (by omega : 2 ^ k + r < 2 ^ 64), Nat.mod_eq_of_lt b2, hx, Nat.add_sub_cancel_left, Nat.mod_eq_of_lt (by omega)]
/-! ===== lN: masks, 'or' of parts that don't overlap is a sum ===== -/
theorem u_tn {n : Nat} (h : n < 2 ^ 64) : (UInt64.ofNat n).toNat = n := Nat.mod_eq_of_lt h
theorem g_and {a b c : Nat} (ha : a < 2 ^ 64) (hb : b < 2 ^ 64) (hc : a &&& b = c) : lN a &&& lN b = lN c := by
  subst hc
  have h : UInt64.ofNat a &&& UInt64.ofNat b = UInt64.ofNat (a &&& b) := UInt64.toNat_inj.mp (by rw [UInt64.toNat_and, u_tn ha, u_tn hb, u_tn (Nat.and_lt_two_pow a hb)])
  have h2 := congrArg UInt64.toInt64 h
  exact h2
theorem g_and1 {a : Nat} (ha : a < 2 ^ 64) : lN a &&& 1 = lN (a % 2) := g_and (b := 1) ha (by decide) (Nat.and_two_pow_sub_one_eq_mod a 1)
theorem g_mask {a s p : Nat} (hp : 2 ^ s = p) (hs : s < 64) (ha : a < 2 ^ 64) : lN a &&& lN (p - 1) = lN (a % p) := by
  subst hp
  have := Nat.pow_lt_pow_right (show 1 < 2 by decide) hs
  exact g_and ha (by omega) (Nat.and_two_pow_sub_one_eq_mod a s)
theorem g_or {k p a b : Nat} (hp : 2 ^ k = p) (ha : a < p) (h : b * p + a < 2 ^ 64) : lN (b * p) ||| lN a = lN (b * p + a) := by
  subst hp
  have h1 : b * 2 ^ k ||| a = b * 2 ^ k + a := by rw [← Nat.shiftLeft_eq, Nat.shiftLeft_add_eq_or_of_lt ha]
  have h3 : UInt64.ofNat (b * 2 ^ k) ||| UInt64.ofNat a = UInt64.ofNat (b * 2 ^ k + a) := UInt64.toNat_inj.mp (by rw [UInt64.toNat_or, u_tn (by omega), u_tn (by omega), u_tn h, h1])
  have h2 := congrArg UInt64.toInt64 h3
  exact h2
theorem g_or' {k p a b : Nat} (hp : 2 ^ k = p) (ha : a < p) (h : a + b * p < 2 ^ 64) : lN a ||| lN (b * p) = lN (a + b * p) := by
  rw [Int64.or_comm, g_or hp ha (by omega), Nat.add_comm]
theorem g_ushr {a k p : Nat} {y : UInt64} (hy : y = UInt64.ofNat k) (hk : k < 64) (hp : 2 ^ k = p) (ha : a < 2 ^ 64) : ((lN a).toUInt64 >>> y).toInt64 = lN (a / p) := by
  subst hy hp
  have h : UInt64.ofNat a >>> UInt64.ofNat k = UInt64.ofNat (a / 2 ^ k) := UInt64.toNat_inj.mp (by rw [UInt64.toNat_shiftRight, u_tn ha, u_tn (by omega), u_tn (Nat.lt_of_le_of_lt (Nat.div_le_self _ _) ha), Nat.mod_eq_of_lt hk, Nat.shiftRight_eq_div_pow])
  have h2 := congrArg UInt64.toInt64 h
  exact h2
theorem g_shl {a k p : Nat} {y : Int64} (hy : y.toBitVec.smod 64 = BitVec.ofNat 64 k) (hk : k < 64) (hp : 2 ^ k = p) (ha : a < 2 ^ 64) : lN a <<< y = lN (a * p) := by
  subst hp
  apply Int64.toBitVec_inj.mp
  rw [Int64.toBitVec_shiftLeft, hy]
  apply BitVec.eq_of_toNat_eq
  have hb : (lN a).toBitVec.toNat = a := Nat.mod_eq_of_lt ha
  have hk' : (BitVec.ofNat 64 k).toNat = k := Nat.mod_eq_of_lt (by omega)
  have h : ((lN a).toBitVec <<< BitVec.ofNat 64 k).toNat = (a * 2 ^ k) % 2 ^ 64 := by simp only [BitVec.shiftLeft_eq', BitVec.toNat_shiftLeft, hb, hk', Nat.shiftLeft_eq]
  exact h
/-! ===== lN to 2^62 under >> and >>> ===== -/
theorem pf_lI {a : Nat} (h : a < 2 ^ 63) : (lN a).toInt = (a : Int) := lg_ofNat_toInt h
theorem pf_shr {a d : Nat} {D : Int64} (hD : (D.toBitVec.smod 64).toNat = d) (h : a < 2 ^ 62) : lN a >>> D = lN (a / 2 ^ d) := by
  have hd : a / 2 ^ d ≤ a := Nat.div_le_self _ _
  apply Int64.toInt_inj.mp
  have e : (lN a >>> D).toInt = (lN a).toInt >>> d := by
    rw [← hD]
    exact BitVec.toInt_sshiftRight ..
  rw [e, Int.shiftRight_eq_div_pow, pf_lI (by omega), pf_lI (by omega)]
  rfl
theorem pf_ushr {a d : Nat} {D : UInt64} (hD : D.toNat % 64 = d) (h : a < 2 ^ 62) : ((lN a).toUInt64 >>> D).toInt64 = lN (a / 2 ^ d) := by
  have hd : a / 2 ^ d ≤ a := Nat.div_le_self _ _
  have e : (lN a).toUInt64 >>> D = UInt64.ofNat (a / 2 ^ d) := UInt64.toNat_inj.mp (by
    rw [UInt64.toNat_shiftRight, hD, Nat.shiftRight_eq_div_pow, UInt64.toNat_ofNat']
    show (UInt64.ofNat a).toNat / 2 ^ d = _
    rw [UInt64.toNat_ofNat', Nat.mod_eq_of_lt (by omega), Nat.mod_eq_of_lt (by omega)])
  rw [e]
  rfl
theorem pf_andw (x : Int64) : ∃ m, m < 2 ^ 32 ∧ x &&& 4294967295 = lN m := ⟨x.toBitVec.toNat % 2 ^ 32, Nat.mod_lt _ (by decide), Int64.toBitVec_inj.mp (BitVec.eq_of_toNat_eq (by
  show (x.toBitVec &&& 4294967295#64).toNat = (BitVec.ofNat 64 (x.toBitVec.toNat % 2 ^ 32)).toNat
  rw [BitVec.toNat_and, show (4294967295#64).toNat = 2 ^ 32 - 1 from by decide, Nat.and_two_pow_sub_one_eq_mod, BitVec.toNat_ofNat]
  omega))⟩
/-! ===== Int64 as an unsigned number: uN x ===== -/
def uN (x : Int64) : Nat := x.toUInt64.toNat
theorem uN_lt (x : Int64) : uN x < 18446744073709551616 := x.toUInt64.toNat_lt
theorem uN_inj {x y : Int64} (h : uN x = uN y) : x = y := congrArg UInt64.toInt64 (UInt64.toNat_inj.mp h)
theorem uN_add (x y : Int64) : uN (x + y) = (uN x + uN y) % 18446744073709551616 := by
  show (x.toUInt64 + y.toUInt64).toNat = _
  exact UInt64.toNat_add _ _
theorem uN_mul (x y : Int64) : uN (x * y) = (uN x * uN y) % 18446744073709551616 := by
  show (x.toUInt64 * y.toUInt64).toNat = _
  exact UInt64.toNat_mul _ _
theorem uN_shl (x : Int64) : uN (x <<< ((1 : Int32).toInt64 &&& 63)) = (2 * uN x) % 18446744073709551616 := by
  have h : (((1 : Int32).toInt64 &&& 63).toBitVec.smod 64).toNat = 1 := by decide
  show (x.toBitVec <<< (((1 : Int32).toInt64 &&& 63).toBitVec.smod 64).toNat).toNat = _
  rw [h, BitVec.toNat_shiftLeft, Nat.shiftLeft_eq, Nat.mul_comm]
  rfl
theorem uN_shr (x : Int64) (s : UInt64) : uN (x.toUInt64 >>> s).toInt64 = uN x / 2 ^ (s.toNat % 64) := by
  show (x.toUInt64 >>> s).toNat = _
  rw [UInt64.toNat_shiftRight, Nat.shiftRight_eq_div_pow]
  rfl
theorem uN_s32 (x : Int64) : uN (x.toUInt64 >>> ((32 : Int32).toInt64.toUInt64 &&& Int64.toUInt64 63)).toInt64 = uN x / 4294967296 := by
  have h : ((32 : Int32).toInt64.toUInt64 &&& Int64.toUInt64 63).toNat % 64 = 32 := by decide
  rw [uN_shr, h]
theorem uN_s63 (x : Int64) : uN (x.toUInt64 >>> ((63 : Int32).toInt64.toUInt64 &&& Int64.toUInt64 63)).toInt64 = uN x / 9223372036854775808 := by
  have h : ((63 : Int32).toInt64.toUInt64 &&& Int64.toUInt64 63).toNat % 64 = 63 := by decide
  rw [uN_shr, h]
theorem uN_lo (x : Int64) : uN (x &&& 4294967295) = uN x % 4294967296 := by
  show (x.toUInt64 &&& Int64.toUInt64 4294967295).toNat = _
  rw [UInt64.toNat_and]
  exact Nat.and_two_pow_sub_one_eq_mod _ 32
theorem uN_bit (x : Int64) : (x &&& 1) = 0 ↔ uN x % 2 = 0 := by
  have h : uN (x &&& 1) = uN x % 2 := by
    show (x.toUInt64 &&& Int64.toUInt64 1).toNat = _
    rw [UInt64.toNat_and]
    exact Nat.and_two_pow_sub_one_eq_mod _ 1
  rw [← h]
  exact ⟨fun z => by rw [z]; rfl, fun z => uN_inj (z.trans rfl)⟩
theorem uN_or {x y : Int64} (hy : uN y < 2) : uN ((x <<< ((1 : Int32).toInt64 &&& 63)) ||| y) = (2 * uN x) % 18446744073709551616 + uN y := by
  have h1 : uN ((x <<< ((1 : Int32).toInt64 &&& 63)) ||| y) = uN (x <<< ((1 : Int32).toInt64 &&& 63)) ||| uN y := UInt64.toNat_or _ _
  have h2 : (2 * uN x) % 18446744073709551616 = 2 ^ 1 * (uN x % 9223372036854775808) := by omega
  rw [h1, uN_shl, h2]
  exact (Nat.two_pow_add_eq_or_of_lt (i := 1) hy _).symm
theorem nat_xor {a : Nat} (h : a < 18446744073709551616) : a ^^^ 2 ^ 63 = (a + 9223372036854775808) % 18446744073709551616 := by
  have h1 : (a ^^^ 2 ^ 63) % 2 ^ 63 = a % 2 ^ 63 := by rw [Nat.xor_mod_two_pow, Nat.mod_self, Nat.xor_zero]
  have h2 : (a ^^^ 2 ^ 63) / 2 ^ 63 = (a / 2 ^ 63) ^^^ 1 := by rw [Nat.xor_div_two_pow, Nat.div_self (Nat.two_pow_pos 63)]
  have h3 : a / 2 ^ 63 = 0 ∨ a / 2 ^ 63 = 1 := by omega
  generalize a ^^^ 2 ^ 63 = t at h1 h2
  rcases h3 with h3 | h3
  · rw [h3] at h2
    have h2 : t / 2 ^ 63 = 1 := h2
    omega
  · rw [h3] at h2
    have h2 : t / 2 ^ 63 = 0 := h2
    omega
theorem uN_xor (x : Int64) : uN (x ^^^ (-9223372036854775808)) = (uN x + 9223372036854775808) % 18446744073709551616 := by
  rw [← nat_xor (uN_lt x)]
  exact UInt64.toNat_xor _ _
theorem uN_int (x : Int64) : x.toInt = if 2 * uN x < 18446744073709551616 then (uN x : Int) else (uN x : Int) - 18446744073709551616 := BitVec.toInt_eq_toNat_cond _
theorem uN_le (x y : Int64) : (x ^^^ (-9223372036854775808)) ≤ (y ^^^ (-9223372036854775808)) ↔ uN x ≤ uN y := by
  have hx := uN_lt x
  have hy := uN_lt y
  rw [Int64.le_iff_toInt_le, uN_int, uN_int, uN_xor, uN_xor]
  omega
theorem uN_sk (x : Int64) {k : Nat} (hk : k < 64) : uN (x.toUInt64 >>> ((nI k).toInt64.toUInt64 &&& Int64.toUInt64 63)).toInt64 = uN x / 2 ^ k := by
  have h : ((nI k).toInt64.toUInt64 &&& Int64.toUInt64 63).toNat % 64 = k := by
    rw [nI_l (by omega), UInt64.toNat_and]
    have e : (lN k).toUInt64.toNat = k % 2 ^ 64 := rfl
    have e2 : (Int64.toUInt64 63).toNat = 2 ^ 6 - 1 := by decide
    rw [e, e2, Nat.and_two_pow_sub_one_eq_mod]
    omega
  rw [uN_shr, h]
/-! ===== unsigned comparison by xor with the least ===== -/
theorem lN_bv (n : Nat) : (lN n).toBitVec = BitVec.ofNat 64 n := rfl
theorem lN_nat {n : Nat} (h : n < 2 ^ 64) : (lN n).toBitVec.toNat = n := by rw [lN_bv, BitVec.toNat_ofNat]; exact Nat.mod_eq_of_lt h
theorem lN_xor (a b : Nat) : lN a ^^^ lN b = lN (a ^^^ b) := by
  apply Int64.toBitVec_inj.mp; rw [Int64.toBitVec_xor, lN_bv, lN_bv, lN_bv]; apply BitVec.eq_of_getLsbD_eq; intro i hi; simp [BitVec.getLsbD_ofNat, Nat.testBit_xor, hi]
theorem lN_ti {m : Nat} (h : m < 2 ^ 64) : (lN m).toInt = if m < 2 ^ 63 then (m : Int) else (m : Int) - 2 ^ 64 := by
  have c := BitVec.toInt_eq_toNat_cond (lN m).toBitVec
  rw [lN_nat h] at c
  show (lN m).toBitVec.toInt = _
  rw [c]
  split <;> split <;> omega
theorem xor63 {x : Nat} (h : x < 2 ^ 63) : x ^^^ 2 ^ 63 = 2 ^ 63 + x := by
  apply Nat.eq_of_testBit_eq
  intro i
  rw [Nat.testBit_xor, Nat.testBit_two_pow]
  rcases Nat.lt_trichotomy i 63 with z | z | z
  · rw [Nat.testBit_two_pow_add_gt z, decide_eq_false (by omega)]; simp
  · subst z; rw [Nat.testBit_two_pow_add_eq]; simp
  · have hp : 2 ^ 64 ≤ 2 ^ i := Nat.pow_le_pow_right (by decide) z
    rw [Nat.testBit_lt_two_pow (show x < 2 ^ i by omega), Nat.testBit_lt_two_pow (show 2 ^ 63 + x < 2 ^ i by omega), decide_eq_false (by omega)]; rfl
theorem xorS {a : Nat} (h : a < 2 ^ 64) : (lN a ^^^ (-9223372036854775808)).toInt = (a : Int) - 2 ^ 63 := by
  rw [show (-9223372036854775808 : Int64) = lN (2 ^ 63) from by decide +kernel, lN_xor]
  rcases Nat.lt_or_ge a (2 ^ 63) with z | z
  · rw [xor63 z, lN_ti (by omega), if_neg (by omega)]; omega
  · obtain ⟨x, rfl⟩ : ∃ x, a = 2 ^ 63 + x := ⟨a - 2 ^ 63, by omega⟩
    rw [← xor63 (by omega), Nat.xor_assoc, Nat.xor_self, Nat.xor_zero, lN_ti (by omega), if_pos (by omega), xor63 (by omega)]; omega
theorem ultL {a b : Nat} (ha : a < 2 ^ 64) (hb : b < 2 ^ 64) : ((lN b ^^^ (-9223372036854775808)) ≤ (lN a ^^^ (-9223372036854775808))) ↔ b ≤ a := by
  rw [Int64.le_iff_toInt_le, xorS ha, xorS hb]; omega
/-! ===== Int64 masks of n low bits ===== -/
theorem cr_bits (W U M : BitVec 64) : ((W &&& U) &&& (U &&& (M ^^^ BitVec.allOnes 64))) = 0#64 ↔ (W &&& U) &&& M = W &&& U := by
  constructor
  · intro h
    apply BitVec.eq_of_getLsbD_eq
    intro i hi
    have e := congrArg (fun x => BitVec.getLsbD x i) h
    simp only [BitVec.getLsbD_and, BitVec.getLsbD_xor, BitVec.getLsbD_allOnes, BitVec.getLsbD_zero, hi, decide_true] at e ⊢
    revert e
    cases W.getLsbD i <;> cases U.getLsbD i <;> cases M.getLsbD i <;> decide
  · intro h
    apply BitVec.eq_of_getLsbD_eq
    intro i hi
    have e := congrArg (fun x => BitVec.getLsbD x i) h
    simp only [BitVec.getLsbD_and, BitVec.getLsbD_xor, BitVec.getLsbD_allOnes, BitVec.getLsbD_zero, hi, decide_true] at e ⊢
    revert e
    cases W.getLsbD i <;> cases U.getLsbD i <;> cases M.getLsbD i <;> decide
theorem cr_mask (w U m : Int64) (n : Nat) (hm : m.toBitVec.toNat = 2 ^ n - 1) : ((w &&& U) &&& (U &&& (m ^^^ (-1)))) = 0 ↔ (w &&& U).toBitVec.toNat < 2 ^ n := by
  have e0 : (-1 : Int64).toBitVec = BitVec.allOnes 64 := by decide
  have z0 : (0 : Int64).toBitVec = 0#64 := by decide
  rw [← Int64.toBitVec_inj, z0, Int64.toBitVec_and, Int64.toBitVec_and, Int64.toBitVec_and, Int64.toBitVec_xor, e0, cr_bits]
  generalize w.toBitVec &&& U.toBitVec = T
  rw [← BitVec.toNat_inj, BitVec.toNat_and, hm, Nat.and_two_pow_sub_one_eq_mod]
  constructor
  · intro h
    have t := Nat.mod_lt T.toNat (Nat.two_pow_pos n)
    rw [h] at t
    exact t
  · exact Nat.mod_eq_of_lt
theorem cr_shr (t : Int64) (x : UInt64) (n : Nat) (hx : x.toNat % 64 = n) : (t.toUInt64 >>> x).toInt64 = 0 ↔ t.toBitVec.toNat < 2 ^ n := by
  rw [← Int64.toBitVec_inj, ← BitVec.toNat_inj]
  show (t.toUInt64 >>> x).toNat = 0 ↔ t.toUInt64.toNat < 2 ^ n
  rw [UInt64.toNat_shiftRight, hx, Nat.shiftRight_eq_div_pow]
  constructor
  · intro h
    have d : t.toUInt64.toNat / 2 ^ n < 1 := by
      rw [h]
      decide
    have e := (Nat.div_lt_iff_lt_mul (Nat.two_pow_pos n)).mp d
    rw [Nat.one_mul] at e
    exact e
  · exact Nat.div_eq_of_lt
theorem cr_amt (s : Int64) : ∃ n, n < 64 ∧ s &&& 63 = lN n ∧ (s.toUInt64 &&& Int64.toUInt64 63).toNat % 64 = n := by
  have e : (s.toUInt64 &&& Int64.toUInt64 63).toNat = s.toUInt64.toNat % 2 ^ 6 := by
    rw [UInt64.toNat_and, show (Int64.toUInt64 63).toNat = 2 ^ 6 - 1 from by decide, Nat.and_two_pow_sub_one_eq_mod]
  refine ⟨s.toUInt64.toNat % 2 ^ 6, by omega, ?_, by omega⟩
  rw [← Int64.toBitVec_inj, ← BitVec.toNat_inj]
  show (s.toUInt64 &&& Int64.toUInt64 63).toNat = (BitVec.ofNat 64 (s.toUInt64.toNat % 2 ^ 6)).toNat
  rw [e, BitVec.toNat_ofNat]
  omega
/-! plain facts to paste, each family by itself; over the kit's nI, lN and upd -/
/-! ===== drawers: more things than places ===== -/
theorem fb_holes : ∀ (m n : Nat) (f : Nat → Nat), (∀ i, i < n → f i < m) → (∀ i j, i < j → j < n → f i ≠ f j) → n ≤ m := by
  intro m
  induction m with
  | zero =>
    intro n f h1 _
    rcases Nat.eq_zero_or_pos n with h | h
    · omega
    · exact absurd (h1 0 h) (Nat.not_lt_zero _)
  | succ m ih =>
    intro n f h1 h2
    by_cases hx : ∃ i, i < n ∧ f i = m
    · obtain ⟨a, ha, hfa⟩ := hx
      have hg := ih (n - 1) (fun i => if i < a then f i else f (i + 1)) (by
        intro i hi
        by_cases q : i < a
        · simp only [if_pos q]
          have b1 := h1 i (by omega)
          have b2 := h2 i a q ha
          omega
        · simp only [if_neg q]
          have b1 := h1 (i + 1) (by omega)
          have b2 := h2 a (i + 1) (by omega) (by omega)
          omega) (by
        intro i j hij hj
        by_cases q : i < a
        · by_cases r : j < a
          · simp only [if_pos q, if_pos r]
            exact h2 i j hij (by omega)
          · simp only [if_pos q, if_neg r]
            exact h2 i (j + 1) (by omega) (by omega)
        · have r : ¬ j < a := by omega
          simp only [if_neg q, if_neg r]
          exact h2 (i + 1) (j + 1) (by omega) (by omega))
      omega
    · have hg := ih n f (fun i hi => by
        have b1 := h1 i hi
        have b2 : f i ≠ m := fun e => hx ⟨i, hi, e⟩
        omega) h2
      omega
/-- two of them in one place -/
theorem fb_twice {m n : Nat} {f : Nat → Nat} (h : ∀ i, i < n → f i < m) (hm : m < n) : ∃ i j, i < j ∧ j < n ∧ f i = f j := by
  refine Classical.byContradiction fun hx => ?_
  have := fb_holes m n f h (fun i j hij hj e => hx ⟨i, j, hij, hj, e⟩)
  omega
/-- as many as places, none twice: each place is taken -/
theorem fb_onto {n : Nat} {f : Nat → Nat} (h : ∀ i, i < n → f i < n) (h2 : ∀ i j, i < j → j < n → f i ≠ f j) {y : Nat} (hy : y < n) : ∃ i, i < n ∧ f i = y := by
  refine Classical.byContradiction fun hx => ?_
  have hne : ∀ i, i < n → f i ≠ y := fun i hi e => hx ⟨i, hi, e⟩
  have := fb_holes (n - 1) n (fun i => if f i < y then f i else f i - 1) (by
    intro i hi
    have b1 := h i hi
    have b2 := hne i hi
    by_cases q : f i < y
    · simp only [if_pos q]; omega
    · simp only [if_neg q]; omega) (by
    intro i j hij hj
    have b1 := hne i (by omega)
    have b2 := hne j hj
    have b3 := h2 i j hij hj
    by_cases q : f i < y
    · by_cases r : f j < y
      · simp only [if_pos q, if_pos r]; exact b3
      · simp only [if_pos q, if_neg r]; omega
    · by_cases r : f j < y
      · simp only [if_neg q, if_pos r]; omega
      · simp only [if_neg q, if_neg r]; omega)
  omega
/-! ===== how many places have a property ===== -/
def fb_ct (p : Nat → Bool) : Nat → Nat
  | 0 => 0
  | n + 1 => fb_ct p n + (if p n then 1 else 0)
theorem fb_ct_succ (p : Nat → Bool) (n : Nat) : fb_ct p (n + 1) = fb_ct p n + (if p n then 1 else 0) := rfl
theorem fb_ct_le (p : Nat → Bool) : ∀ n, fb_ct p n ≤ n
  | 0 => Nat.le_refl _
  | n + 1 => by
    have h := fb_ct_le p n
    rw [fb_ct_succ]
    split <;> omega
theorem fb_ct_step (p : Nat → Bool) (m : Nat) : ∀ n, fb_ct p m ≤ fb_ct p (m + n)
  | 0 => Nat.le_refl _
  | n + 1 => by
    have h := fb_ct_step p m n
    show fb_ct p m ≤ fb_ct p (m + n + 1)
    rw [fb_ct_succ]
    omega
theorem fb_ct_mono (p : Nat → Bool) {m n : Nat} (h : m ≤ n) : fb_ct p m ≤ fb_ct p n := by
  have := fb_ct_step p m (n - m)
  rwa [Nat.add_sub_cancel' h] at this
theorem fb_ct_cong {p q : Nat → Bool} : ∀ {n : Nat}, (∀ k, k < n → p k = q k) → fb_ct p n = fb_ct q n
  | 0, _ => rfl
  | n + 1, h => by
    rw [fb_ct_succ, fb_ct_succ, fb_ct_cong (fun k hk => h k (by omega)), h n (by omega)]
/-- one place changed -/
theorem fb_ct_out (p : Nat → Bool) (b : Bool) {i n : Nat} (h : n ≤ i) : fb_ct (fun k => if k = i then b else p k) n = fb_ct p n :=
  fb_ct_cong fun k hk => if_neg (by omega)
theorem fb_ct_upd (p : Nat → Bool) (b : Bool) {i : Nat} : ∀ {n : Nat}, i < n → fb_ct (fun k => if k = i then b else p k) n + (if p i then 1 else 0) = fb_ct p n + (if b then 1 else 0)
  | 0, h => absurd h (Nat.not_lt_zero i)
  | n + 1, h => by
    rw [fb_ct_succ, fb_ct_succ]
    rcases Nat.lt_or_ge i n with q | q
    · have := fb_ct_upd p b q
      have e : (if n = i then b else p n) = p n := if_neg (by omega)
      rw [e]
      omega
    · have e : i = n := by omega
      subst e
      rw [fb_ct_out p b (Nat.le_refl _)]
      simp only [if_true]
      omega
theorem fb_ct_sub {p q : Nat → Bool} : ∀ {n : Nat}, (∀ k, k < n → p k = true → q k = true) → fb_ct p n ≤ fb_ct q n
  | 0, _ => Nat.le_refl _
  | n + 1, h => by
    have h1 := fb_ct_sub (n := n) (p := p) (q := q) (fun k hk => h k (by omega))
    have h2 := h n (by omega)
    rw [fb_ct_succ, fb_ct_succ]
    cases hp : p n <;> cases hq : q n <;> simp_all <;> omega
theorem fb_ct_or {p q : Nat → Bool} : ∀ {n : Nat}, (∀ k, k < n → ¬ (p k = true ∧ q k = true)) → fb_ct (fun k => p k || q k) n = fb_ct p n + fb_ct q n
  | 0, _ => rfl
  | n + 1, h => by
    have h1 := fb_ct_or (n := n) (p := p) (q := q) (fun k hk => h k (by omega))
    have h2 := h n (by omega)
    rw [fb_ct_succ, fb_ct_succ, fb_ct_succ, h1]
    cases hp : p n <;> cases hq : q n <;> simp_all <;> omega
theorem fb_ct_not (p : Nat → Bool) : ∀ n, fb_ct p n + fb_ct (fun k => !p k) n = n
  | 0 => rfl
  | n + 1 => by
    have h := fb_ct_not p n
    rw [fb_ct_succ, fb_ct_succ]
    cases p n <;> simp <;> omega
theorem fb_ct_split (p : Nat → Bool) (m : Nat) : ∀ n, fb_ct p (m + n) = fb_ct p m + fb_ct (fun k => p (m + k)) n
  | 0 => rfl
  | n + 1 => by
    have h := fb_ct_split p m n
    show fb_ct p (m + n + 1) = _
    rw [fb_ct_succ, fb_ct_succ, h, Nat.add_assoc]
theorem fb_ct_zero {p : Nat → Bool} : ∀ {n : Nat}, fb_ct p n = 0 ↔ ∀ k, k < n → p k = false
  | 0 => ⟨fun _ k hk => absurd hk (Nat.not_lt_zero k), fun _ => rfl⟩
  | n + 1 => by
    have h := fb_ct_zero (p := p) (n := n)
    rw [fb_ct_succ]
    constructor
    · intro e k hk
      have e1 : fb_ct p n = 0 := by omega
      rcases Nat.lt_or_ge k n with q | q
      · exact h.mp e1 k q
      · have ek : k = n := by omega
        subst ek
        cases hp : p k
        · rfl
        · simp [hp] at e
    · intro a
      rw [h.mpr (fun k hk => a k (by omega)), a n (by omega)]
      rfl
theorem fb_ct_pos {p : Nat → Bool} {n : Nat} : 0 < fb_ct p n ↔ ∃ k, k < n ∧ p k = true := by
  constructor
  · intro h
    refine Classical.byContradiction fun hx => ?_
    have := fb_ct_zero.mpr (fun k hk => by
      cases hp : p k
      · rfl
      · exact absurd ⟨k, hk, hp⟩ hx : ∀ k, k < n → p k = false)
    omega
  · rintro ⟨k, hk, hp⟩
    rcases Nat.eq_zero_or_pos (fb_ct p n) with e | e
    · have := fb_ct_zero.mp e k hk
      rw [this] at hp
      cases hp
    · exact e
theorem fb_ct_all {p : Nat → Bool} {n : Nat} : fb_ct p n = n ↔ ∀ k, k < n → p k = true := by
  have h := fb_ct_not p n
  constructor
  · intro e k hk
    have z : fb_ct (fun k => !p k) n = 0 := by omega
    have := fb_ct_zero.mp z k hk
    cases hp : p k
    · simp [hp] at this
    · rfl
  · intro a
    have z : fb_ct (fun k => !p k) n = 0 := fb_ct_zero.mpr (fun k hk => by simp [a k hk])
    omega
/-- the k-th place with the property -/
theorem fb_ct_kth {p : Nat → Bool} {k : Nat} : ∀ {n : Nat}, k < fb_ct p n → ∃ i, i < n ∧ p i = true ∧ fb_ct p i = k
  | 0, h => absurd h (Nat.not_lt_zero k)
  | n + 1, h => by
    rcases Nat.lt_or_ge k (fb_ct p n) with q | q
    · obtain ⟨i, h1, h2⟩ := fb_ct_kth q
      exact ⟨i, by omega, h2⟩
    · rw [fb_ct_succ] at h
      cases hp : p n
      · simp [hp] at h; omega
      · simp [hp] at h
        exact ⟨n, by omega, hp, by omega⟩
theorem fb_ct_kth_one {p : Nat → Bool} {i j : Nat} (hi : p i = true) (hj : p j = true) (e : fb_ct p i = fb_ct p j) : i = j := by
  have key : ∀ a b : Nat, a < b → p a = true → fb_ct p a < fb_ct p b := by
    intro a b hab ha
    have h := fb_ct_mono p (show a + 1 ≤ b from hab)
    rw [fb_ct_succ, ha] at h
    simp at h
    omega
  rcases Nat.lt_trichotomy i j with q | q | q
  · have := key i j q hi; omega
  · exact q
  · have := key j i q hj; omega
/-! ===== sums over a range: one place changed, parts, bounds ===== -/
def fb_sm (f : Nat → Nat) : Nat → Nat
  | 0 => 0
  | n + 1 => fb_sm f n + f n
theorem fb_sm_succ (f : Nat → Nat) (n : Nat) : fb_sm f (n + 1) = fb_sm f n + f n := rfl
theorem fb_sm_cong {f g : Nat → Nat} : ∀ {n : Nat}, (∀ k, k < n → f k = g k) → fb_sm f n = fb_sm g n
  | 0, _ => rfl
  | n + 1, h => by rw [fb_sm_succ, fb_sm_succ, fb_sm_cong (fun k hk => h k (by omega)), h n (by omega)]
theorem fb_sm_out (f : Nat → Nat) (v : Nat) {i n : Nat} (h : n ≤ i) : fb_sm (fun k => if k = i then v else f k) n = fb_sm f n :=
  fb_sm_cong fun k hk => if_neg (by omega)
theorem fb_sm_upd (f : Nat → Nat) (v : Nat) {i : Nat} : ∀ {n : Nat}, i < n → fb_sm (fun k => if k = i then v else f k) n + f i = fb_sm f n + v
  | 0, h => absurd h (Nat.not_lt_zero i)
  | n + 1, h => by
    rw [fb_sm_succ, fb_sm_succ]
    rcases Nat.lt_or_ge i n with q | q
    · have := fb_sm_upd f v q
      have e : (if n = i then v else f n) = f n := if_neg (by omega)
      rw [e]
      omega
    · have e : i = n := by omega
      subst e
      rw [fb_sm_out f v (Nat.le_refl _)]
      simp only [if_true]
      omega
theorem fb_sm_add (f g : Nat → Nat) : ∀ n, fb_sm (fun k => f k + g k) n = fb_sm f n + fb_sm g n
  | 0 => rfl
  | n + 1 => by
    have h := fb_sm_add f g n
    rw [fb_sm_succ, fb_sm_succ, fb_sm_succ, h]
    omega
theorem fb_sm_le {f g : Nat → Nat} : ∀ {n : Nat}, (∀ k, k < n → f k ≤ g k) → fb_sm f n ≤ fb_sm g n
  | 0, _ => Nat.le_refl _
  | n + 1, h => by
    have h1 := fb_sm_le (n := n) (f := f) (g := g) (fun k hk => h k (by omega))
    have h2 := h n (by omega)
    rw [fb_sm_succ, fb_sm_succ]
    omega
theorem fb_sm_const (c : Nat) : ∀ n, fb_sm (fun _ => c) n = n * c
  | 0 => by rw [Nat.zero_mul]; rfl
  | n + 1 => by rw [fb_sm_succ, fb_sm_const c n, Nat.succ_mul]
theorem fb_sm_bound {f : Nat → Nat} {c n : Nat} (h : ∀ k, k < n → f k ≤ c) : fb_sm f n ≤ n * c := by
  rw [← fb_sm_const c n]
  exact fb_sm_le h
theorem fb_sm_mono (f : Nat → Nat) (m : Nat) : ∀ n, fb_sm f m ≤ fb_sm f (m + n)
  | 0 => Nat.le_refl _
  | n + 1 => by
    have h := fb_sm_mono f m n
    show fb_sm f m ≤ fb_sm f (m + n + 1)
    rw [fb_sm_succ]
    omega
theorem fb_sm_part (f : Nat → Nat) {i n : Nat} (h : i < n) : fb_sm f i + f i ≤ fb_sm f n := by
  have := fb_sm_mono f (i + 1) (n - (i + 1))
  rw [fb_sm_succ, show i + 1 + (n - (i + 1)) = n by omega] at this
  exact this
theorem fb_sm_split (f : Nat → Nat) (m : Nat) : ∀ n, fb_sm f (m + n) = fb_sm f m + fb_sm (fun k => f (m + k)) n
  | 0 => rfl
  | n + 1 => by
    have h := fb_sm_split f m n
    show fb_sm f (m + n + 1) = _
    rw [fb_sm_succ, fb_sm_succ, h, Nat.add_assoc]
theorem fb_sm_zero {f : Nat → Nat} {n : Nat} (h : fb_sm f n = 0) : ∀ k, k < n → f k = 0 := fun k hk => by
  have := fb_sm_part f hk
  omega
/-- the same over whole numbers -/
def fb_si (f : Nat → Int) : Nat → Int
  | 0 => 0
  | n + 1 => fb_si f n + f n
theorem fb_si_succ (f : Nat → Int) (n : Nat) : fb_si f (n + 1) = fb_si f n + f n := rfl
theorem fb_si_cong {f g : Nat → Int} : ∀ {n : Nat}, (∀ k, k < n → f k = g k) → fb_si f n = fb_si g n
  | 0, _ => rfl
  | n + 1, h => by rw [fb_si_succ, fb_si_succ, fb_si_cong (fun k hk => h k (by omega)), h n (by omega)]
theorem fb_si_out (f : Nat → Int) (v : Int) {i n : Nat} (h : n ≤ i) : fb_si (fun k => if k = i then v else f k) n = fb_si f n :=
  fb_si_cong fun k hk => if_neg (by omega)
theorem fb_si_upd (f : Nat → Int) (v : Int) {i : Nat} : ∀ {n : Nat}, i < n → fb_si (fun k => if k = i then v else f k) n = fb_si f n - f i + v
  | 0, h => absurd h (Nat.not_lt_zero i)
  | n + 1, h => by
    rw [fb_si_succ, fb_si_succ]
    rcases Nat.lt_or_ge i n with q | q
    · have := fb_si_upd f v q
      have e : (if n = i then v else f n) = f n := if_neg (by omega)
      rw [e]
      omega
    · have e : i = n := by omega
      subst e
      rw [fb_si_out f v (Nat.le_refl _)]
      simp only [if_true]
      omega
theorem fb_si_add (f g : Nat → Int) : ∀ n, fb_si (fun k => f k + g k) n = fb_si f n + fb_si g n
  | 0 => rfl
  | n + 1 => by
    have h := fb_si_add f g n
    rw [fb_si_succ, fb_si_succ, fb_si_succ, h]
    omega
theorem fb_si_sub (f g : Nat → Int) : ∀ n, fb_si (fun k => f k - g k) n = fb_si f n - fb_si g n
  | 0 => rfl
  | n + 1 => by
    have h := fb_si_sub f g n
    rw [fb_si_succ, fb_si_succ, fb_si_succ, h]
    omega
theorem fb_si_mul (c : Int) (f : Nat → Int) : ∀ n, fb_si (fun k => c * f k) n = c * fb_si f n
  | 0 => (Int.mul_zero c).symm
  | n + 1 => by
    have h := fb_si_mul c f n
    rw [fb_si_succ, fb_si_succ, h, Int.mul_add]
theorem fb_si_split (f : Nat → Int) (m : Nat) : ∀ n, fb_si f (m + n) = fb_si f m + fb_si (fun k => f (m + k)) n
  | 0 => (Int.add_zero _).symm
  | n + 1 => by
    have h := fb_si_split f m n
    show fb_si f (m + n + 1) = _
    rw [fb_si_succ, fb_si_succ, h, Int.add_assoc]
theorem fb_si_nat (f : Nat → Nat) : ∀ n, fb_si (fun k => (f k : Int)) n = (fb_sm f n : Int)
  | 0 => rfl
  | n + 1 => by
    have h := fb_si_nat f n
    rw [fb_si_succ, fb_sm_succ, h]
    omega
theorem fb_si_bound {f : Nat → Int} {c : Int} (hc : 0 ≤ c) : ∀ {n : Nat}, (∀ k, k < n → -c ≤ f k ∧ f k ≤ c) → -(n * c) ≤ fb_si f n ∧ fb_si f n ≤ n * c
  | 0, _ => by simp [fb_si]
  | n + 1, h => by
    have h1 := fb_si_bound (n := n) (f := f) hc (fun k hk => h k (by omega))
    have h2 := h n (by omega)
    have e : ((n + 1 : Nat) : Int) * c = n * c + c := by rw [Int.natCast_add, Int.add_mul]; simp
    rw [fb_si_succ, e]
    omega
/-! ===== bits of a long that isn't negative ===== -/
theorem fb_andL (a b : Nat) : lN a &&& lN b = lN (a &&& b) := by
  apply Int64.toBitVec_inj.1
  show BitVec.ofNat 64 a &&& BitVec.ofNat 64 b = BitVec.ofNat 64 (a &&& b)
  apply BitVec.eq_of_getLsbD_eq
  intro i hi
  simp [hi]
theorem fb_orL (a b : Nat) : lN a ||| lN b = lN (a ||| b) := by
  apply Int64.toBitVec_inj.1
  show BitVec.ofNat 64 a ||| BitVec.ofNat 64 b = BitVec.ofNat 64 (a ||| b)
  apply BitVec.eq_of_getLsbD_eq
  intro i hi
  simp [hi]
theorem fb_xorL (a b : Nat) : lN a ^^^ lN b = lN (a ^^^ b) := by
  apply Int64.toBitVec_inj.1
  show BitVec.ofNat 64 a ^^^ BitVec.ofNat 64 b = BitVec.ofNat 64 (a ^^^ b)
  apply BitVec.eq_of_getLsbD_eq
  intro i hi
  simp [hi]
theorem fb_xorI (a b : Nat) : nI a ^^^ nI b = nI (a ^^^ b) := by
  apply Int32.toBitVec_inj.1
  show BitVec.ofNat 32 a ^^^ BitVec.ofNat 32 b = BitVec.ofNat 32 (a ^^^ b)
  apply BitVec.eq_of_getLsbD_eq
  intro i hi
  simp [hi]
theorem fb_maskL (n k : Nat) : lN n &&& lN (2 ^ k - 1) = lN (n % 2 ^ k) := by rw [fb_andL, Nat.and_two_pow_sub_one_eq_mod]
theorem fb_or_sumL {a k : Nat} (b : Nat) (h : a < 2 ^ k) : lN (2 ^ k * b) ||| lN a = lN (2 ^ k * b + a) := by rw [fb_orL, Nat.two_pow_add_eq_or_of_lt h]
theorem fb_lN_inj {a b : Nat} (ha : a < 2 ^ 63) (hb : b < 2 ^ 63) : lN a = lN b ↔ a = b := by
  constructor
  · intro h
    have h1 : (BitVec.ofNat 64 a).toNat = (BitVec.ofNat 64 b).toNat := congrArg (fun x : Int64 => x.toBitVec.toNat) h
    rw [BitVec.toNat_ofNat, BitVec.toNat_ofNat, Nat.mod_eq_of_lt (by omega), Nat.mod_eq_of_lt (by omega)] at h1
    exact h1
  · rintro rfl; rfl
theorem fb_bit_nat (n j : Nat) : n &&& 2 ^ j = 0 ↔ n.testBit j = false := by
  constructor
  · intro h
    have h1 : (n &&& 2 ^ j).testBit j = false := by rw [h]; simp
    rw [Nat.testBit_and] at h1
    simpa using h1
  · intro h
    apply Nat.eq_of_testBit_eq
    intro i
    rw [Nat.testBit_and]
    by_cases hi : j = i
    · subst hi; simp [h]
    · first | (simp [Nat.testBit_two_pow, hi]; done) | (simp [Nat.testBit_two_pow_of_ne hi]; done)
/-- one bit of a long -/
theorem fb_bitL {n j : Nat} (hj : j < 63) : lN n &&& lN (2 ^ j) = 0 ↔ n.testBit j = false := by
  have h2 : (2 : Nat) ^ j < 2 ^ 63 := Nat.pow_lt_pow_right (by decide) hj
  have hle : n &&& 2 ^ j ≤ 2 ^ j := Nat.and_le_right
  rw [fb_andL, ← fb_bit_nat, show (0 : Int64) = lN 0 from rfl]
  exact fb_lN_inj (by omega) (by decide)
/-- a bit set, a bit taken off -/
theorem fb_bit_set (n j i : Nat) : (n ||| 2 ^ j).testBit i = (n.testBit i || decide (i = j)) := by
  rw [Nat.testBit_or]
  by_cases h : j = i
  · subst h; simp
  · have h2 : ¬ i = j := fun e => h e.symm
    first | (simp [Nat.testBit_two_pow, h, h2]; done) | (simp [Nat.testBit_two_pow_of_ne h, h2]; done)
theorem fb_bit_flip (n j i : Nat) : (n ^^^ 2 ^ j).testBit i = (n.testBit i ^^ decide (i = j)) := by
  rw [Nat.testBit_xor]
  by_cases h : j = i
  · subst h; simp
  · have h2 : ¬ i = j := fun e => h e.symm
    first | (simp [Nat.testBit_two_pow, h, h2]; done) | (simp [Nat.testBit_two_pow_of_ne h, h2]; done)
/-! ===== a stretch of an array written over by a function ===== -/
def fb_put {α : Type} (f g : Nat → α) (a n : Nat) : Nat → α := fun k => if a ≤ k ∧ k < a + n then g (k - a) else f k
theorem fb_put_0 {α : Type} (f g : Nat → α) (a : Nat) : fb_put f g a 0 = f := funext fun k => if_neg (by omega)
theorem fb_put_in {α : Type} {f g : Nat → α} {a n k : Nat} (h1 : a ≤ k) (h2 : k < a + n) : fb_put f g a n k = g (k - a) := if_pos ⟨h1, h2⟩
theorem fb_put_out {α : Type} {f g : Nat → α} {a n k : Nat} (h : k < a ∨ a + n ≤ k) : fb_put f g a n k = f k := if_neg (by omega)
theorem fb_put_succ (f g : Nat → Int32) (a n : Nat) : upd (fb_put f g a n) (a + n) (g n) = fb_put f g a (n + 1) := by
  funext k
  by_cases h : k = a + n
  · subst h
    simp [upd, fb_put]
  · by_cases h1 : a ≤ k ∧ k < a + n
    · have h2 : a ≤ k ∧ k < a + (n + 1) := by omega
      simp only [upd, fb_put, if_neg h, if_pos h1, if_pos h2]
    · have h2 : ¬ (a ≤ k ∧ k < a + (n + 1)) := by omega
      simp only [upd, fb_put, if_neg h, if_neg h1, if_neg h2]
/-- .. from the far end down -/
theorem fb_put_down (f g : Nat → Int32) {a n m : Nat} (h : m < n) : upd (fb_put f (fun k => g (k + (m + 1))) (a + (m + 1)) (n - (m + 1))) (a + m) (g m) = fb_put f (fun k => g (k + m)) (a + m) (n - m) := by
  funext k
  by_cases h0 : k = a + m
  · subst h0
    simp only [upd, if_true]
    rw [fb_put_in (by omega) (by omega)]
    exact congrArg g (by omega)
  · simp only [upd, if_neg h0]
    by_cases h1 : a + (m + 1) ≤ k ∧ k < a + (m + 1) + (n - (m + 1))
    · rw [fb_put_in h1.1 h1.2, fb_put_in (by omega) (by omega)]
      exact congrArg g (by omega)
    · rw [fb_put_out (by omega), fb_put_out (by omega)]
theorem fb_put_cong {α : Type} {f f2 g g2 : Nat → α} {a n : Nat} (hf : ∀ k, (k < a ∨ a + n ≤ k) → f k = f2 k) (hg : ∀ k, k < n → g k = g2 k) : fb_put f g a n = fb_put f2 g2 a n := by
  funext k
  by_cases h : a ≤ k ∧ k < a + n
  · rw [fb_put_in h.1 h.2, fb_put_in h.1 h.2, hg _ (by omega)]
  · rw [fb_put_out (by omega), fb_put_out (by omega), hf _ (by omega)]
/-! ===== the least, the first, the best so far; that there is one alone ===== -/
theorem fb_first {p : Nat → Prop} [DecidablePred p] : ∀ {n : Nat}, (∃ i, i < n ∧ p i) → ∃ i, i < n ∧ p i ∧ ∀ j, j < i → ¬ p j
  | 0, h => by obtain ⟨i, hi, -⟩ := h; exact absurd hi (Nat.not_lt_zero i)
  | n + 1, h => by
    by_cases q : ∃ i, i < n ∧ p i
    · obtain ⟨i, h1, h2⟩ := fb_first q
      exact ⟨i, by omega, h2⟩
    · obtain ⟨i, h1, h2⟩ := h
      have e : i = n := by
        rcases Nat.lt_or_ge i n with r | r
        · exact absurd ⟨i, r, h2⟩ q
        · omega
      subst e
      exact ⟨i, by omega, h2, fun j hj hp => q ⟨j, hj, hp⟩⟩
theorem fb_first_one {p : Nat → Prop} {i j : Nat} (hi : p i) (hi2 : ∀ k, k < i → ¬ p k) (hj : p j) (hj2 : ∀ k, k < j → ¬ p k) : i = j := by
  rcases Nat.lt_trichotomy i j with q | q | q
  · exact absurd hi (hj2 i q)
  · exact q
  · exact absurd hj (hi2 j q)
theorem fb_last {p : Nat → Prop} [DecidablePred p] : ∀ {n : Nat}, (∃ i, i < n ∧ p i) → ∃ i, i < n ∧ p i ∧ ∀ j, i < j → j < n → ¬ p j
  | 0, h => by obtain ⟨i, hi, -⟩ := h; exact absurd hi (Nat.not_lt_zero i)
  | n + 1, h => by
    by_cases q : p n
    · exact ⟨n, by omega, q, fun j h1 h2 => by omega⟩
    · obtain ⟨i, h1, h2⟩ := h
      have hi : i < n := by
        rcases Nat.lt_or_ge i n with r | r
        · exact r
        · have e : i = n := by omega
          subst e
          exact absurd h2 q
      obtain ⟨i2, a1, a2, a3⟩ := fb_last (n := n) ⟨i, hi, h2⟩
      refine ⟨i2, by omega, a2, fun j b1 b2 => ?_⟩
      rcases Nat.lt_or_ge j n with r | r
      · exact a3 j b1 r
      · have e : j = n := by omega
        subst e
        exact q
/-- the first greatest -/
theorem fb_best (f : Nat → Int) : ∀ {n : Nat}, 0 < n → ∃ i, i < n ∧ (∀ j, j < n → f j ≤ f i) ∧ ∀ j, j < i → f j < f i
  | 0, h => absurd h (Nat.lt_irrefl 0)
  | 1, _ => ⟨0, by omega, fun j hj => by have e : j = 0 := by omega
                                         subst e; exact Int.le_refl _, fun j hj => absurd hj (Nat.not_lt_zero j)⟩
  | n + 2, _ => by
    obtain ⟨i, h1, h2, h3⟩ := fb_best f (n := n + 1) (by omega)
    by_cases q : f i < f (n + 1)
    · refine ⟨n + 1, by omega, fun j hj => ?_, fun j hj => ?_⟩
      · rcases Nat.lt_or_ge j (n + 1) with r | r
        · have := h2 j r; omega
        · have e : j = n + 1 := by omega
          subst e; exact Int.le_refl _
      · have := h2 j hj; omega
    · refine ⟨i, by omega, fun j hj => ?_, h3⟩
      rcases Nat.lt_or_ge j (n + 1) with r | r
      · exact h2 j r
      · have e : j = n + 1 := by omega
        subst e; omega
theorem fb_best_one {f : Nat → Int} {n i j : Nat} (hi : i < n) (hi2 : ∀ k, k < n → f k ≤ f i) (hi3 : ∀ k, k < i → f k < f i) (hj : j < n) (hj2 : ∀ k, k < n → f k ≤ f j) (hj3 : ∀ k, k < j → f k < f j) : i = j := by
  rcases Nat.lt_trichotomy i j with q | q | q
  · have a := hj3 i q
    have b := hi2 j hj
    omega
  · exact q
  · have a := hi3 j q
    have b := hj2 i hi
    omega
/-- the first least -/
theorem fb_low (f : Nat → Int) {n : Nat} (h : 0 < n) : ∃ i, i < n ∧ (∀ j, j < n → f i ≤ f j) ∧ ∀ j, j < i → f i < f j := by
  obtain ⟨i, h1, h2, h3⟩ := fb_best (fun k => -f k) h
  exact ⟨i, h1, fun j hj => by have := h2 j hj; omega, fun j hj => by have := h3 j hj; omega⟩
/-! ===== signed ints as whole numbers, within bounds ===== -/
theorem fb_rng (x : Int32) : -2147483648 ≤ x.toInt ∧ x.toInt < 2147483648 := by
  have h1 := Int32.le_toInt x
  have h2 := Int32.toInt_lt x
  omega
theorem fb_bmod {z : Int} (h1 : -2147483648 ≤ z) (h2 : z < 2147483648) : z.bmod (2 ^ 32) = z := by
  rw [Int.bmod_eq_of_le (by omega) (by omega)]
theorem fb_addI {x y : Int32} (h1 : -2147483648 ≤ x.toInt + y.toInt) (h2 : x.toInt + y.toInt < 2147483648) : (x + y).toInt = x.toInt + y.toInt := by
  rw [Int32.toInt_add, fb_bmod h1 h2]
theorem fb_subI {x y : Int32} (h1 : -2147483648 ≤ x.toInt - y.toInt) (h2 : x.toInt - y.toInt < 2147483648) : (x - y).toInt = x.toInt - y.toInt := by
  rw [Int32.toInt_sub, fb_bmod h1 h2]
theorem fb_mulI {x y : Int32} (h1 : -2147483648 ≤ x.toInt * y.toInt) (h2 : x.toInt * y.toInt < 2147483648) : (x * y).toInt = x.toInt * y.toInt := by
  rw [Int32.toInt_mul, fb_bmod h1 h2]
theorem fb_negI {x : Int32} (h : x.toInt ≠ -2147483648) : (-x).toInt = -x.toInt := by
  have := fb_rng x
  rw [Int32.toInt_neg, fb_bmod (by omega) (by omega)]
theorem fb_ofI {z : Int} (h1 : -2147483648 ≤ z) (h2 : z < 2147483648) : (Int32.ofInt z).toInt = z := by
  rw [Int32.toInt_ofInt, fb_bmod h1 h2]
theorem fb_asI (x : Int32) : Int32.ofInt x.toInt = x := Int32.ofInt_toInt x
theorem fb_rngL (x : Int64) : -9223372036854775808 ≤ x.toInt ∧ x.toInt < 9223372036854775808 := by
  have h1 := Int64.le_toInt x
  have h2 := Int64.toInt_lt x
  omega
theorem fb_bmodL {z : Int} (h1 : -9223372036854775808 ≤ z) (h2 : z < 9223372036854775808) : z.bmod (2 ^ 64) = z := by
  rw [Int.bmod_eq_of_le (by omega) (by omega)]
theorem fb_addL {x y : Int64} (h1 : -9223372036854775808 ≤ x.toInt + y.toInt) (h2 : x.toInt + y.toInt < 9223372036854775808) : (x + y).toInt = x.toInt + y.toInt := by
  rw [Int64.toInt_add, fb_bmodL h1 h2]
theorem fb_subL {x y : Int64} (h1 : -9223372036854775808 ≤ x.toInt - y.toInt) (h2 : x.toInt - y.toInt < 9223372036854775808) : (x - y).toInt = x.toInt - y.toInt := by
  rw [Int64.toInt_sub, fb_bmodL h1 h2]
theorem fb_mulL {x y : Int64} (h1 : -9223372036854775808 ≤ x.toInt * y.toInt) (h2 : x.toInt * y.toInt < 9223372036854775808) : (x * y).toInt = x.toInt * y.toInt := by
  rw [Int64.toInt_mul, fb_bmodL h1 h2]
/-! ===== cuts of what is narrow already ===== -/
theorem fb_byte {x : Int32} (h1 : -128 ≤ x.toInt) (h2 : x.toInt < 128) : x.toInt8.toInt32 = x := by
  apply Int32.toInt_inj.1
  rw [Int8.toInt_toInt32, Int32.toInt_toInt8, Int.bmod_eq_of_le (by omega) (by omega)]
theorem fb_short {x : Int32} (h1 : -32768 ≤ x.toInt) (h2 : x.toInt < 32768) : x.toInt16.toInt32 = x := by
  apply Int32.toInt_inj.1
  rw [Int16.toInt_toInt32, Int32.toInt_toInt16, Int.bmod_eq_of_le (by omega) (by omega)]
theorem fb_byte_rng (x : Int32) : -128 ≤ x.toInt8.toInt32.toInt ∧ x.toInt8.toInt32.toInt < 128 := by
  rw [Int8.toInt_toInt32]
  have h1 := Int8.le_toInt x.toInt8
  have h2 := Int8.toInt_lt x.toInt8
  omega
theorem fb_short_rng (x : Int32) : -32768 ≤ x.toInt16.toInt32.toInt ∧ x.toInt16.toInt32.toInt < 32768 := by
  rw [Int16.toInt_toInt32]
  have h1 := Int16.le_toInt x.toInt16
  have h2 := Int16.toInt_lt x.toInt16
  omega
theorem fb_byte_twice (x : Int32) : x.toInt8.toInt32.toInt8.toInt32 = x.toInt8.toInt32 := fb_byte (fb_byte_rng x).1 (fb_byte_rng x).2
theorem fb_short_twice (x : Int32) : x.toInt16.toInt32.toInt16.toInt32 = x.toInt16.toInt32 := fb_short (fb_short_rng x).1 (fb_short_rng x).2
theorem fb_char {n : Nat} (h : n < 65536) : (nI n).toUInt32.toUInt16.toUInt32.toInt32 = nI n := by
  apply Int32.toBitVec_inj.1
  apply BitVec.eq_of_toNat_eq
  have e1 : (nI n).toBitVec.toNat = n := by
    show (BitVec.ofNat 32 n).toNat = n
    rw [BitVec.toNat_ofNat, Nat.mod_eq_of_lt (by omega)]
  have e2 : ((nI n).toUInt32.toUInt16.toUInt32).toNat = n := by
    rw [UInt16.toNat_toUInt32, UInt32.toNat_toUInt16]
    show (nI n).toBitVec.toNat % 2 ^ 16 = n
    rw [e1, Nat.mod_eq_of_lt (by omega)]
  rw [e1]
  exact e2
/-! plain facts on numbers and arrays, to paste: each family by itself; over the kit's rows on nI and upd -/
/-! ===== order of ints, in all its forms, and through longs ===== -/
theorem fa_lt (a b : Int32) : a < b ↔ a.toInt < b.toInt := Int32.lt_iff_toInt_lt
theorem fa_le (a b : Int32) : a ≤ b ↔ a.toInt ≤ b.toInt := Int32.le_iff_toInt_le
theorem fa_eq (a b : Int32) : a = b ↔ a.toInt = b.toInt := Int32.toInt_inj.symm
theorem fa_lt64 (a b : Int64) : a < b ↔ a.toInt < b.toInt := Int64.lt_iff_toInt_lt
theorem fa_le64 (a b : Int64) : a ≤ b ↔ a.toInt ≤ b.toInt := Int64.le_iff_toInt_le
theorem fa_eq64 (a b : Int64) : a = b ↔ a.toInt = b.toInt := Int64.toInt_inj.symm
/-- a comparison of two ints taken as longs -/
theorem fa_wide_lt (a b : Int32) : a.toInt64 < b.toInt64 ↔ a < b := by rw [fa_lt64, fa_lt, Int32.toInt_toInt64, Int32.toInt_toInt64]
theorem fa_wide_le (a b : Int32) : a.toInt64 ≤ b.toInt64 ↔ a ≤ b := by rw [fa_le64, fa_le, Int32.toInt_toInt64, Int32.toInt_toInt64]
theorem fa_wide_eq (a b : Int32) : a.toInt64 = b.toInt64 ↔ a = b := by rw [fa_eq64, fa_eq, Int32.toInt_toInt64, Int32.toInt_toInt64]
/-- one strict comparison gives all the others -/
theorem fa_of_lt {a b : Int32} (h : a < b) : a ≤ b ∧ ¬ b ≤ a ∧ ¬ b < a ∧ a ≠ b ∧ b ≠ a := by
  rw [fa_lt] at h
  refine ⟨?_, ?_, ?_, ?_, ?_⟩
  · rw [fa_le]; omega
  · rw [fa_le]; omega
  · rw [fa_lt]; omega
  · intro e; rw [fa_eq] at e; omega
  · intro e; rw [fa_eq] at e; omega
theorem fa_of_nlt {a b : Int32} (h : ¬ a < b) : b ≤ a := by
  rw [fa_lt] at h
  rw [fa_le]
  omega
theorem fa_of_nle {a b : Int32} (h : ¬ a ≤ b) : b < a := by
  rw [fa_le] at h
  rw [fa_lt]
  omega
theorem fa_le_ne {a b : Int32} (h : a ≤ b) (h2 : a ≠ b) : a < b := by
  rw [fa_le] at h
  rw [fa_lt]
  have h3 : a.toInt ≠ b.toInt := fun e => h2 ((fa_eq a b).mpr e)
  omega
theorem fa_three (a b : Int32) : a < b ∨ a = b ∨ b < a := by
  rw [fa_lt, fa_lt, fa_eq]
  omega
theorem fa_trans {a b c : Int32} (h : a < b) (h2 : b ≤ c) : a < c := by
  rw [fa_lt] at *
  rw [fa_le] at h2
  omega
/-! ===== small literals as numbers ===== -/
theorem fa_lit (n : Nat) : (OfNat.ofNat n : Int32) = nI n := rfl
theorem fa_litL (n : Nat) : (OfNat.ofNat n : Int64) = lN n := rfl
/-! ===== bits of a number: 'or', masks, one bit ===== -/
theorem fa_and (a b : Nat) : nI a &&& nI b = nI (a &&& b) := by
  apply Int32.toBitVec_inj.1
  show BitVec.ofNat 32 a &&& BitVec.ofNat 32 b = BitVec.ofNat 32 (a &&& b)
  apply BitVec.eq_of_getLsbD_eq
  intro i hi
  simp [hi]
theorem fa_or (a b : Nat) : nI a ||| nI b = nI (a ||| b) := by
  apply Int32.toBitVec_inj.1
  show BitVec.ofNat 32 a ||| BitVec.ofNat 32 b = BitVec.ofNat 32 (a ||| b)
  apply BitVec.eq_of_getLsbD_eq
  intro i hi
  simp [hi]
/-- a remainder by a power of two, as a mask -/
theorem fa_mask (n k : Nat) : nI n &&& nI (2 ^ k - 1) = nI (n % 2 ^ k) := by rw [fa_and, Nat.and_two_pow_sub_one_eq_mod]
/-- 'or' of a high part and a low one that don't meet is their sum -/
theorem fa_or_sum {a k : Nat} (b : Nat) (h : a < 2 ^ k) : nI (2 ^ k * b) ||| nI a = nI (2 ^ k * b + a) := by rw [fa_or, Nat.two_pow_add_eq_or_of_lt h]
/-- one bit, by 'and' with a power of two -/
theorem fa_bit {n j : Nat} (hj : j < 31) : nI n &&& nI (2 ^ j) = 0 ↔ n.testBit j = false := by
  have h2 : (2 : Nat) ^ j < 2 ^ 31 := Nat.pow_lt_pow_right (by decide) hj
  have hle : n &&& 2 ^ j ≤ 2 ^ j := Nat.and_le_right
  have e : n &&& 2 ^ j = 0 ↔ n.testBit j = false := by
    constructor
    · intro h
      have h1 : (n &&& 2 ^ j).testBit j = false := by rw [h]; simp
      rw [Nat.testBit_and] at h1
      first | simpa using h1 | simpa [Nat.testBit_two_pow_self] using h1 | simpa [Nat.testBit_two_pow] using h1
    · intro h
      apply Nat.eq_of_testBit_eq
      intro i
      rw [Nat.testBit_and]
      by_cases hi : j = i
      · subst hi; simp [h]
      · first | (simp [Nat.testBit_two_pow, hi]; done) | (simp [Nat.testBit_two_pow_of_ne hi]; done)
  rw [fa_and]
  constructor
  · intro h
    apply e.mp
    rcases Nat.eq_zero_or_pos (n &&& 2 ^ j) with z | z
    · exact z
    · exact absurd h (nI_ne0 z (Nat.lt_of_le_of_lt hle h2))
  · intro h
    rw [e.mpr h]; exact nI_0
/-- a remainder by a power of two of a number that isn't negative, as Java divides -/
theorem fa_rem {a k : Nat} (ha : a < 2 ^ 31) (hk : k < 31) : nI a - nI a / nI (2 ^ k) * nI (2 ^ k) = nI (a % 2 ^ k) := pk_rem ha (Nat.two_pow_pos k) (Nat.pow_lt_pow_right (by decide) hk)
/-! ===== cuts to a byte, a short ===== -/
theorem fa_byte_xor (x y : Int32) : (x ^^^ y).toInt8 = x.toInt8 ^^^ y.toInt8 := by
  apply Int8.toBitVec_inj.1
  apply BitVec.eq_of_getLsbD_eq
  intro i hi
  first | (simp [hi]; done) | (simp [hi, BitVec.getLsbD_setWidth, BitVec.getLsbD_signExtend]; done)
theorem fa_short_xor (x y : Int32) : (x ^^^ y).toInt16 = x.toInt16 ^^^ y.toInt16 := by
  apply Int16.toBitVec_inj.1
  apply BitVec.eq_of_getLsbD_eq
  intro i hi
  first | (simp [hi]; done) | (simp [hi, BitVec.getLsbD_setWidth, BitVec.getLsbD_signExtend]; done)
/-- the cut to a byte sees the low byte alone -/
theorem fa_byte_low (x : Int32) : (x &&& 255).toInt8 = x.toInt8 := by
  apply Int8.toBitVec_inj.1
  apply BitVec.eq_of_getLsbD_eq
  intro i hi
  have h2 : (255 : Int32).toBitVec.getLsbD i = true := by
    have : ∀ j : Fin 8, (255 : Int32).toBitVec.getLsbD j.val = true := by decide +kernel
    exact this ⟨i, hi⟩
  have h4 : (x &&& 255).toBitVec.getLsbD i = x.toBitVec.getLsbD i := by
    show (x.toBitVec &&& (255 : Int32).toBitVec).getLsbD i = _
    rw [BitVec.getLsbD_and, h2, Bool.and_true]
  have h3 : i < 32 := by omega
  first
    | (show (((x &&& 255).toBitVec).signExtend 8).getLsbD i = (x.toBitVec.signExtend 8).getLsbD i; rw [BitVec.getLsbD_signExtend, BitVec.getLsbD_signExtend, if_pos h3, if_pos h3, h4])
    | (show (((x &&& 255).toBitVec).setWidth 8).getLsbD i = (x.toBitVec.setWidth 8).getLsbD i; rw [BitVec.getLsbD_setWidth, BitVec.getLsbD_setWidth, h4])
    | (simp [hi, h3, h4]; done)
theorem fa_short_low (x : Int32) : (x &&& 65535).toInt16 = x.toInt16 := by
  apply Int16.toBitVec_inj.1
  apply BitVec.eq_of_getLsbD_eq
  intro i hi
  have h2 : (65535 : Int32).toBitVec.getLsbD i = true := by
    have : ∀ j : Fin 16, (65535 : Int32).toBitVec.getLsbD j.val = true := by decide +kernel
    exact this ⟨i, hi⟩
  have h4 : (x &&& 65535).toBitVec.getLsbD i = x.toBitVec.getLsbD i := by
    show (x.toBitVec &&& (65535 : Int32).toBitVec).getLsbD i = _
    rw [BitVec.getLsbD_and, h2, Bool.and_true]
  have h3 : i < 32 := by omega
  first
    | (show (((x &&& 65535).toBitVec).signExtend 16).getLsbD i = (x.toBitVec.signExtend 16).getLsbD i; rw [BitVec.getLsbD_signExtend, BitVec.getLsbD_signExtend, if_pos h3, if_pos h3, h4])
    | (show (((x &&& 65535).toBitVec).setWidth 16).getLsbD i = (x.toBitVec.setWidth 16).getLsbD i; rw [BitVec.getLsbD_setWidth, BitVec.getLsbD_setWidth, h4])
    | (simp [hi, h3, h4]; done)
/-- a small number is its own byte, its own short -/
theorem fa_byte_small {n : Nat} (h : n < 128) : (nI n).toInt8.toInt32 = nI n := by
  have : ∀ j : Fin 128, (nI j.val).toInt8.toInt32 = nI j.val := by decide +kernel
  exact this ⟨n, h⟩
/-! ===== absolute difference ===== -/
theorem fa_absdiff {a b : Nat} (ha : a < 2 ^ 31) (hb : b < 2 ^ 31) : (if nI a < nI b then nI b - nI a else nI a - nI b) = nI (if a < b then b - a else a - b) := by
  by_cases h : a < b
  · rw [if_pos (nI_lt h hb), if_pos h]
    exact pk_sub (Nat.le_of_lt h)
  · rw [if_neg (nI_nlt (Nat.le_of_not_lt h) ha), if_neg h]
    exact pk_sub (Nat.le_of_not_lt h)
/-! ===== an array behind i stores, a conditional store, a row copied ===== -/
/-- f where k < i, what stood there else -/
def fa_fill {α : Type} (f g : Nat → α) (i : Nat) : Nat → α := fun k => if k < i then f k else g k
theorem fa_fill_0 {α : Type} (f g : Nat → α) : fa_fill f g 0 = g := funext fun k => if_neg (Nat.not_lt_zero k)
theorem fa_fill_in {α : Type} {f g : Nat → α} {i k : Nat} (h : k < i) : fa_fill f g i k = f k := if_pos h
theorem fa_fill_out {α : Type} {f g : Nat → α} {i k : Nat} (h : i ≤ k) : fa_fill f g i k = g k := if_neg (Nat.not_lt.mpr h)
theorem fa_fill_succ (f g : Nat → Int32) (i : Nat) : upd (fa_fill f g i) i (f i) = fa_fill f g (i + 1) := by
  funext k
  by_cases e : k = i
  · subst e
    rw [pk_us]
    exact (if_pos (Nat.lt_succ_self k)).symm
  · rw [pk_un e]
    by_cases h : k < i
    · rw [fa_fill_in h, fa_fill_in (Nat.lt_succ_of_lt h)]
    · rw [fa_fill_out (Nat.le_of_not_lt h), fa_fill_out (by omega)]
/-- a store that changes nothing -/
theorem fa_upd_same {f : Nat → Int32} {i : Nat} {x : Int32} (h : f i = x) : upd f i x = f := by
  funext k
  by_cases e : k = i
  · subst e
    rw [pk_us, h]
  · rw [pk_un e]
/-- a store under a condition, told as one -/
theorem fa_upd_if (c : Prop) [Decidable c] (f : Nat → Int32) (i : Nat) (x : Int32) : (if c then upd f i x else f) = upd f i (if c then x else f i) := by
  by_cases h : c
  · rw [if_pos h, if_pos h]
  · rw [if_neg h, if_neg h, fa_upd_same rfl]
/-- two stores at one place, at two -/
theorem fa_upd_twice (f : Nat → Int32) (i : Nat) (x y : Int32) : upd (upd f i x) i y = upd f i y := by
  funext k
  by_cases e : k = i
  · subst e
    rw [pk_us, pk_us]
  · rw [pk_un e, pk_un e, pk_un e]
theorem fa_upd_swap (f : Nat → Int32) {i j : Nat} (h : i ≠ j) (x y : Int32) : upd (upd f i x) j y = upd (upd f j y) i x := by
  funext k
  by_cases e : k = i
  · subst e
    rw [pk_un h, pk_us, pk_us]
  · by_cases e2 : k = j
    · subst e2
      rw [pk_us, pk_un e, pk_us]
    · rw [pk_un e2, pk_un e, pk_un e, pk_un e2]
/-! ===== the first index with a property; a count ===== -/
/-- the first k < n with p k, n if there is none -/
def fa_first (p : Nat → Bool) : Nat → Nat
  | 0 => 0
  | n + 1 => if fa_first p n < n then fa_first p n else if p n then n else n + 1
theorem fa_first_le (p : Nat → Bool) : ∀ n, fa_first p n ≤ n
  | 0 => Nat.le_refl 0
  | n + 1 => by
    have ih := fa_first_le p n
    unfold fa_first
    split
    · omega
    · split
      · omega
      · omega
theorem fa_first_no (p : Nat → Bool) : ∀ n k, k < fa_first p n → p k = false
  | 0, k, h => absurd h (Nat.not_lt_zero k)
  | n + 1, k, h => by
    have ih := fa_first_no p n
    have hl := fa_first_le p n
    unfold fa_first at h
    split at h
    · exact ih k h
    · rename_i h1
      split at h
      · exact ih k (by omega)
      · rename_i h2
        by_cases e : k = n
        · subst e
          exact Bool.eq_false_iff.mpr h2
        · exact ih k (by omega)
theorem fa_first_yes (p : Nat → Bool) : ∀ n, fa_first p n < n → p (fa_first p n) = true
  | 0, h => absurd h (Nat.not_lt_zero _)
  | n + 1, h => by
    have ih := fa_first_yes p n
    have hl := fa_first_le p n
    unfold fa_first at h ⊢
    split at h
    · rename_i h1
      rw [if_pos h1]
      exact ih h1
    · rename_i h1
      rw [if_neg h1]
      split at h
      · rename_i h2
        rw [if_pos h2]
        exact h2
      · omega
/-- how many k < n have p k -/
def fa_cnt (p : Nat → Bool) : Nat → Nat
  | 0 => 0
  | n + 1 => fa_cnt p n + if p n then 1 else 0
theorem fa_cnt_le (p : Nat → Bool) : ∀ n, fa_cnt p n ≤ n
  | 0 => Nat.le_refl 0
  | n + 1 => by
    have ih := fa_cnt_le p n
    unfold fa_cnt
    split
    · omega
    · omega
theorem fa_cnt_yes {p : Nat → Bool} {n : Nat} (h : p n = true) : fa_cnt p (n + 1) = fa_cnt p n + 1 := by rw [fa_cnt, if_pos h]
theorem fa_cnt_no {p : Nat → Bool} {n : Nat} (h : p n = false) : fa_cnt p (n + 1) = fa_cnt p n := by rw [fa_cnt, if_neg (by rw [h]; decide)]; rfl
theorem fa_cnt_cong {p q : Nat → Bool} : ∀ {n : Nat}, (∀ k, k < n → p k = q k) → fa_cnt p n = fa_cnt q n
  | 0, _ => rfl
  | n + 1, h => by rw [fa_cnt, fa_cnt, fa_cnt_cong (fun k hk => h k (Nat.lt_succ_of_lt hk)), h n (Nat.lt_succ_self n)]
/-! ===== an answer carried into a post; a branch on a boolean answer ===== -/
theorem fa_post {α : Type} {P : α → Prop} {x y : α} (h : x = y) (hp : P y) : P x := h ▸ hp
theorem fa_post2 {α β : Type} {P : α → β → Prop} {x y : α} {u v : β} (h : x = y) (h2 : u = v) (hp : P y v) : P x u := h ▸ h2 ▸ hp
theorem fa_bool {r : Int32} {b : Bool} (h : r = if b then 1 else 0) : (r = 0 ↔ b = false) ∧ (¬ r = 0 ↔ b = true) := by
  subst h
  cases b
  · exact ⟨⟨fun _ => rfl, fun _ => rfl⟩, ⟨fun h => absurd rfl h, fun h => absurd h (by decide)⟩⟩
  · exact ⟨⟨fun h => absurd h (by decide), fun h => absurd h (by decide)⟩, ⟨fun _ => rfl, fun _ => by decide⟩⟩
/-- a boolean's narrowing changes nothing -/
theorem fa_bool_and {r : Int32} (h : r = 0 ∨ r = 1) : r &&& 1 = r := by
  rcases h with rfl | rfl
  · decide
  · decide
theorem fa_bool_prop {c : Prop} [Decidable c] {r : Int32} (h : r = if c then 1 else 0) : (r = 0 ↔ ¬ c) ∧ (¬ r = 0 ↔ c) := by
  subst h
  by_cases hc : c
  · rw [if_pos hc]
    exact ⟨⟨fun h => absurd h (by decide), fun h => absurd hc h⟩, ⟨fun _ => hc, fun _ => by decide⟩⟩
  · rw [if_neg hc]
    exact ⟨⟨fun _ => hc, fun _ => rfl⟩, ⟨fun h => absurd rfl h, fun h => absurd h hc⟩⟩
end
section
/-! the cells behind the two constructors: ints of arrays (A: cell, place), ints of objects (I: cell, field), rows of scenes (F), then the scenes made since (P) -/
def gm (L : Nat) (xs : Nat → Int32) (A I : Nat → Nat → Int32) (F : Nat → Nat → Option Nat) (P : mm_M) : mm_M :=
  .inl (0, L, .inl xs) :: .inl (0, 8, .inl (fun j => mm_t1.getD j 0)) :: .inl (0, 15, .inl (fun j => mm_t2.getD j 0)) :: .inl (0, 6, .inl (fun j => mm_t3.getD j 0)) :: .inl (0, 6, .inl (fun j => mm_t4.getD j 0)) :: .inl (0, 6, .inl (fun j => mm_t5.getD j 0)) ::
  .inr (6, [.ref 7, .ref 21, .ref 9, .int (I 6 3), .ref 20, .ref 32, .ref 33, .ref 35]) ::
  .inr (4, [.ref 8, .int (I 7 1), .int (I 7 2)]) ::
  .inl (0, 40, .inl (A 8)) ::
  .inr (5, [.ref 10, .ref 13, .int (I 9 2), .ref 14, .ref 15, .ref 16, .int (I 9 6), .int (I 9 7), .ref 17, .ref 18, .ref 19, .int (I 9 11)]) ::
  .inr (3, [.ref 11, .ref 12, .int (I 10 2), .int (I 10 3)]) ::
  .inl (0, 4, .inl (A 11)) ::
  .inl (0, 3, .inl (A 12)) ::
  .inl (2, 24, .inr (.inr (.inr (.inr (F 13))))) ::
  .inl (0, 90, .inl (A 14)) ::
  .inl (0, 6, .inl (A 15)) ::
  .inl (0, 8, .inl (A 16)) ::
  .inl (0, 6, .inl (A 17)) ::
  .inl (0, 20, .inl (A 18)) ::
  .inl (0, 20, .inl (A 19)) ::
  .inl (0, 7, .inl (A 20)) ::
  .inr (5, [.ref 22, .ref 25, .int (I 21 2), .ref 26, .ref 27, .ref 28, .int (I 21 6), .int (I 21 7), .ref 29, .ref 30, .ref 31, .int (I 21 11)]) ::
  .inr (3, [.ref 23, .ref 24, .int (I 22 2), .int (I 22 3)]) ::
  .inl (0, 4, .inl (A 23)) ::
  .inl (0, 3, .inl (A 24)) ::
  .inl (2, 24, .inr (.inr (.inr (.inr (F 25))))) ::
  .inl (0, 90, .inl (A 26)) ::
  .inl (0, 6, .inl (A 27)) ::
  .inl (0, 8, .inl (A 28)) ::
  .inl (0, 6, .inl (A 29)) ::
  .inl (0, 20, .inl (A 30)) ::
  .inl (0, 20, .inl (A 31)) ::
  .inr (2, [.ref 21]) ::
  .inr (1, [.ref 21, .ref 34]) ::
  .inl (0, 6, .inl (A 34)) ::
  .inr (0, [.ref 21, .ref 36, .int (I 35 2), .ref 37, .int (I 35 4)]) ::
  .inl (0, 90, .inl (A 36)) ::
  .inl (0, 220, .inl (A 37)) ::
  .inr (7, [.int (I 38 0), .ref 39, .ref 40, .ref 41, .ref 42, .ref 43, .ref 44, .ref 45, .int (I 38 8), .int (I 38 9), .ref 46, .int (I 38 11), .ref 47, .ref 48, .ref 49, .int (I 38 15), .ref 50, .int (I 38 17), .int (I 38 18), .int (I 38 19), .ref 51, .int (I 38 21), .ref 52, .ref 53, .int (I 38 24), .ref 54, .int (I 38 26), .int (I 38 27), .ref 55, .int (I 38 29), .int (I 38 30)]) ::
  .inl (0, 24, .inl (A 39)) ::
  .inl (0, 96, .inl (A 40)) ::
  .inl (0, 24, .inl (A 41)) ::
  .inl (0, 216, .inl (A 42)) ::
  .inl (1, 144, .inl (A 43)) ::
  .inl (1, 2160, .inl (A 44)) ::
  .inl (0, 8, .inl (A 45)) ::
  .inl (0, 6, .inl (A 46)) ::
  .inl (0, 20, .inl (A 47)) ::
  .inl (0, 20, .inl (A 48)) ::
  .inl (0, 40, .inl (A 49)) ::
  .inl (0, 7, .inl (A 50)) ::
  .inl (0, 3, .inl (A 51)) ::
  .inl (0, 3, .inl (A 52)) ::
  .inl (0, 12, .inl (A 53)) ::
  .inl (0, 90, .inl (A 54)) ::
  .inl (0, 700, .inl (A 55)) :: P
/-- one int of an array, of an object, one scene of a row -/
def uA (A : Nat → Nat → Int32) (a i : Nat) (v : Int32) : Nat → Nat → Int32 := fun x => match Nat.beq x a with
  | true => upd (A a) i v
  | false => A x
def uI (I : Nat → Nat → Int32) (a i : Nat) (v : Int32) : Nat → Nat → Int32 := fun x j => match Nat.beq x a && Nat.beq j i with
  | true => v
  | false => I x j
def uR (A : Nat → Nat → Int32) (a : Nat) (f : Nat → Int32) : Nat → Nat → Int32 := fun x => match Nat.beq x a with
  | true => f
  | false => A x
def uF (F : Nat → Nat → Option Nat) (a i : Nat) (v : Option Nat) : Nat → Nat → Option Nat := fun x => match Nat.beq x a with
  | true => va_up (F a) i v
  | false => F x
theorem nb_ne {a b : Nat} (h : a ≠ b) : Nat.beq a b = false := by
  cases hb : Nat.beq a b
  · rfl
  · exact absurd (Nat.eq_of_beq_eq_true hb) h
theorem nb_eq (a : Nat) : Nat.beq a a = true := Nat.beq_refl a
theorem uA_ne {A : Nat → Nat → Int32} {a i x : Nat} {v : Int32} (h : x ≠ a) : uA A a i v x = A x := by unfold uA; rw [nb_ne h]
theorem uA_eq {A : Nat → Nat → Int32} {a i : Nat} {v : Int32} : uA A a i v a = upd (A a) i v := by unfold uA; rw [nb_eq]
theorem uR_ne {A : Nat → Nat → Int32} {a x : Nat} {f : Nat → Int32} (h : x ≠ a) : uR A a f x = A x := by unfold uR; rw [nb_ne h]
theorem uR_eq {A : Nat → Nat → Int32} {a : Nat} {f : Nat → Int32} : uR A a f a = f := by unfold uR; rw [nb_eq]
theorem uR_uR (A : Nat → Nat → Int32) (a : Nat) (f g : Nat → Int32) : uR (uR A a f) a g = uR A a g := by
  funext x
  by_cases h : x = a
  · rw [h, uR_eq, uR_eq]
  · rw [uR_ne h, uR_ne h, uR_ne h]
theorem uA_uR (A : Nat → Nat → Int32) (a i : Nat) (f : Nat → Int32) (v : Int32) : uA (uR A a f) a i v = uR A a (upd f i v) := by
  funext x
  by_cases h : x = a
  · rw [h, uA_eq, uR_eq, uR_eq]
  · rw [uA_ne h, uR_ne h, uR_ne h]
theorem uR_self (A : Nat → Nat → Int32) (a : Nat) : uR A a (A a) = A := by
  funext x
  by_cases h : x = a
  · rw [h, uR_eq]
  · rw [uR_ne h]
theorem uA_as (A : Nat → Nat → Int32) (a i : Nat) (v : Int32) : uA A a i v = uR A a (upd (A a) i v) := by
  funext x
  by_cases h : x = a
  · rw [h, uA_eq, uR_eq]
  · rw [uA_ne h, uR_ne h]
theorem uI_ne {I : Nat → Nat → Int32} {a i x j : Nat} {v : Int32} (h : x ≠ a ∨ j ≠ i) : uI I a i v x j = I x j := by
  unfold uI
  rcases h with h | h
  · rw [nb_ne h]; rfl
  · rw [nb_ne h, Bool.and_false]
theorem uI_eq {I : Nat → Nat → Int32} {a i : Nat} {v : Int32} : uI I a i v a i = v := by unfold uI; rw [nb_eq, nb_eq]; rfl
theorem uI_uI (I : Nat → Nat → Int32) (a i : Nat) (v w : Int32) : uI (uI I a i v) a i w = uI I a i w := by
  funext x j
  by_cases h : x ≠ a ∨ j ≠ i
  · rw [uI_ne h, uI_ne h, uI_ne h]
  · have h1 : x = a := Decidable.byContradiction fun q => h (Or.inl q)
    have h2 : j = i := Decidable.byContradiction fun q => h (Or.inr q)
    rw [h1, h2, uI_eq, uI_eq]
abbrev sp (d : Nat) : mm_S := mm_Sp mm_Pt mm_Al mm_Df d
abbrev wp (d : Nat) (B : Nat × Nat) (cd : mm_C) (Q : mm_Q) (pc : Nat) (ls : mm_L) (st : List Value) (mem : mm_M) : Prop := mm_WP (mm_Sp mm_Pt mm_Al mm_Df d) mm_Al mm_Df B cd Q pc ls st mem 0 0
/-- an answer, with nothing changed -/
abbrev ans (mem : mm_M) (v : Int32) : mm_Q := fun r m => r = some (.int v) ∧ m = mem
theorem lt_ir {P : Prop} (h : P) : P := h
/-- a place in a row, or none -/
theorem vp_cases (x : Int32) {n : Nat} (hn : n < 2 ^ 31) : (∃ k, k < n ∧ x = nI k) ∨ ¬ vp_in x n := by
  by_cases h : vp_in x n
  · exact Or.inl (vp_in_of h hn)
  · exact Or.inr h
theorem vp_in_0 {x : Int32} {n : Nat} (h : vp_in x n) : 0 ≤ x.toInt ∧ x.toInt < n := vp_in_iff.mp h
end
section
/-! small methods of the reference -/
abbrev yes (mem : mm_M) (C : Prop) : mm_Q := fun r m => m = mem ∧ (C ∧ r = some (.int 1) ∨ ¬ C ∧ r = some (.int 0))
theorem yes_iff {mem : mm_M} {C D : Prop} (h : C ↔ D) {r : Option Value} {m : mm_M} (q : yes mem C r m) : yes mem D r m :=
  ⟨q.1, q.2.imp (fun z => ⟨h.mp z.1, z.2⟩) (fun z => ⟨fun w => z.1 (h.mpr w), z.2⟩)⟩
theorem mm_Sp.post {d j : Nat} {as : List Value} {mem : mm_M} {Q Q' : mm_Q} (h : sp d j as mem Q) (hq : ∀ r m, Q r m → Q' r m) : sp d j as mem Q' := by
  cases d with
  | zero => exact h.elim
  | succ d => exact ⟨h.1, h.2.1, mm_WP.mono hq h.2.2⟩
theorem m_in (d : Nat) (v lo hi : Int64) (mem : mm_M) : sp (d + 1) 121 [.long v, .long lo, .long hi] mem (yes mem (lo ≤ v ∧ v ≤ hi)) := by
  refine ⟨trivial, rfl, mm_WP.go [] 100 ⟨fun c => ?_, fun c => ⟨fun c2 => ?_, fun c2 => ?_⟩⟩⟩
  · refine ⟨rfl, rfl, Or.inr ⟨fun h => ?_, rfl⟩⟩
    exact absurd ((lg_cmp_ge v lo).mpr h.1) (Int32.not_le.mpr c)
  · refine ⟨rfl, rfl, Or.inr ⟨fun h => ?_, rfl⟩⟩
    exact absurd ((lg_cmp_le v hi).mpr h.2) (Int32.not_le.mpr c2)
  · exact ⟨rfl, rfl, Or.inl ⟨⟨(lg_cmp_ge v lo).mp (Int32.not_lt.mp c), (lg_cmp_le v hi).mp (Int32.not_lt.mp c2)⟩, rfl⟩⟩
theorem in_32 (a s b : Int32) : (a.toInt64 ≤ s.toInt64 ∧ s.toInt64 ≤ b.toInt64) ↔ (a.toInt ≤ s.toInt ∧ s.toInt ≤ b.toInt) := by
  rw [fa_wide_le, fa_wide_le, fa_le, fa_le]
theorem in_vp {s b : Int32} {n : Nat} (hb : b.toInt = (n : Int) - 1) : ((0 : Int64) ≤ s.toInt64 ∧ s.toInt64 ≤ b.toInt64) ↔ vp_in s n := by
  rw [vp_in_iff, show (0 : Int64) = (0 : Int32).toInt64 from rfl, in_32, hb, Int32.toInt_zero]
  omega
section M0
variable {L : Nat} {xs : Nat → Int32} {A I : Nat → Nat → Int32} {F : Nat → Nat → Option Nat} {P : mm_M}
theorem m_isScene (d : Nat) {n : Nat} (hn : n ≤ 24) (hI : I 38 0 = nI n) (s : Int32) : sp (d + 2) 129 [.ref 38, .int s] (gm L xs A I F P) (yes (gm L xs A I F P) (vp_in s n)) := by
  refine ⟨⟨_, rfl⟩, rfl, mm_WP.go [] 100 ⟨_, m_in d _ _ _ _, ?_⟩⟩
  rintro r m h
  have h2 : (I 38 0 - 1).toInt = (n : Int) - 1 := by
    rw [hI, show (1 : Int32) = nI 1 from rfl, pk_sub_toInt (by omega) (by omega)]
    rfl
  obtain ⟨rfl, ⟨h4, rfl⟩ | ⟨h4, rfl⟩⟩ := yes_iff (in_vp h2) h
  · exact ⟨rfl, rfl, Or.inl ⟨h4, rfl⟩⟩
  · exact ⟨rfl, rfl, Or.inr ⟨h4, rfl⟩⟩
theorem m_isWord (d : Nat) (s : Int32) (mem : mm_M) : sp (d + 2) 132 [.int s] mem (yes mem (vp_in s 6)) := by
  refine ⟨trivial, rfl, mm_WP.go [] 100 ⟨_, m_in d _ _ _ _, ?_⟩⟩
  rintro r m h
  obtain ⟨rfl, ⟨h4, rfl⟩ | ⟨h4, rfl⟩⟩ := yes_iff (in_vp (b := 5) (n := 6) rfl) h
  · exact ⟨rfl, rfl, Or.inl ⟨h4, rfl⟩⟩
  · exact ⟨rfl, rfl, Or.inr ⟨h4, rfl⟩⟩
theorem m_isMeaning (d : Nat) (s : Int32) (mem : mm_M) : sp (d + 2) 136 [.int s] mem (yes mem (vp_in s 90)) := by
  refine ⟨trivial, rfl, mm_WP.go [] 100 ⟨_, m_in d _ _ _ _, ?_⟩⟩
  rintro r m h
  obtain ⟨rfl, ⟨h4, rfl⟩ | ⟨h4, rfl⟩⟩ := yes_iff (in_vp (b := 89) (n := 90) rfl) h
  · exact ⟨rfl, rfl, Or.inl ⟨h4, rfl⟩⟩
  · exact ⟨rfl, rfl, Or.inr ⟨h4, rfl⟩⟩
theorem m_refuse (d : Nat) {w : Int32} {k : Nat} (h1 : vp_in (-w) 7) (h2 : (-w).toNatClampNeg = k) : sp (d + 1) 116 [.ref 38, .int w] (gm L xs A I F P) (fun r m => r = some (.int w) ∧ m = gm L xs (uA A 50 k (A 50 k + 1)) I F P) := by
  subst h2
  exact ⟨⟨_, rfl⟩, rfl, mm_WP.go [] 100 ⟨h1, h1, rfl, rfl⟩⟩
/-- how many ones, by halving -/
def od : Nat → Nat → Nat
  | 0, _ => 0
  | f + 1, x => x % 2 + od f (x / 2)
theorem od_0 : ∀ f, od f 0 = 0
  | 0 => rfl
  | f + 1 => by rw [od, od_0 f]
theorem m_ones_loop {d : Nat} {B : Nat × Nat} {mem : mm_M} {z : Int32} {Q : mm_Q} : ∀ (f x acc : Nat), f ≤ 31 → x < 2 ^ f → Q (some (.int (nI (acc + od f x)))) mem → wp d B cd_Model_ones Q 4 [some (.int z), some (.int (nI acc)), some (.int (nI x))] [] mem
  | 0, x, acc, _, hx, hq => by
    have : x = 0 := by omega
    subst this
    refine mm_WP.go [4] 100 ⟨fun c => hq, fun c => absurd ?_ c⟩
    exact Int32.le_refl _
  | f + 1, x, acc, hf, hx, hq => by
    have hx31 : x < 2 ^ 31 := Nat.lt_of_lt_of_le hx (Nat.pow_le_pow_right (by omega) hf)
    refine mm_WP.go [4] 100 ⟨fun c => ?_, fun c => ⟨by decide, by decide, ?_⟩⟩
    · have : x = 0 := by
        rcases Nat.eq_zero_or_pos x with h | h
        · exact h
        · exact absurd c (nI_nle h hx31)
      subst this
      rw [od_0] at hq
      exact hq
    · rw [show (2 : Int32) = nI 2 from rfl, pk_rem hx31 (by omega) (by omega), pk_div hx31 (by omega) (by omega), nI_add]
      refine m_ones_loop f (x / 2) (acc + x % 2) (by omega) (by rw [Nat.pow_succ] at hx; omega) ?_
      rw [Nat.add_assoc]
      exact hq
theorem m_ones (d : Nat) {x : Nat} (hx : x < 2 ^ 31) (mem : mm_M) : sp (d + 1) 152 [.int (nI x)] mem (ans mem (nI (od 31 x))) := by
  refine ⟨trivial, rfl, mm_WP.go [4] 100 ?_⟩
  exact m_ones_loop 31 x 0 (Nat.le_refl _) hx ⟨by rw [Nat.zero_add], rfl⟩
end M0
end
section
/-! counting ones; sets as bits -/
theorem an_split {a m : Nat} (q r : Nat) (ha : a < 256) (hm : m < 256) : (a + 256 * q) &&& (m + 256 * r) = (a &&& m) + 256 * (q &&& r) := by
  have h1 : ((a + 256 * q) &&& (m + 256 * r)) % 2 ^ 8 = a &&& m := by
    rw [Nat.and_mod_two_pow]
    congr 1 <;> omega
  have h2 : ((a + 256 * q) &&& (m + 256 * r)) / 2 ^ 8 = q &&& r := by
    rw [Nat.and_div_two_pow]
    congr 1 <;> omega
  have h3 := Nat.div_add_mod ((a + 256 * q) &&& (m + 256 * r)) (2 ^ 8)
  rw [h1, h2] at h3
  omega
theorem an_3 {a b c m : Nat} (ha : a < 256) (hb : b < 256) (hm : m < 256) : (a + 256 * b + 65536 * c) &&& (m + 256 * m + 65536 * m) = (a &&& m) + 256 * (b &&& m) + 65536 * (c &&& m) := by
  rw [show a + 256 * b + 65536 * c = a + 256 * (b + 256 * c) by omega, show m + 256 * m + 65536 * m = m + 256 * (m + 256 * m) by omega, an_split _ _ ha hm, an_split _ _ hb hm]
  omega
def f1 (a : Nat) : Nat := a - (a / 2 &&& 85)
def f2 (a : Nat) : Nat := (a &&& 51) + (a / 4 &&& 51)
theorem by_1 : ∀ a, a < 256 → ∀ e, e < 2 → (a / 2 + 128 * e) &&& 85 = a / 2 &&& 85 := by decide +kernel
theorem by_1b : ∀ a, a < 256 → (a / 2 &&& 85) ≤ a := by decide +kernel
theorem by_2 : ∀ a, a < 256 → ∀ e, e < 4 → (f1 a / 4 + 64 * e) &&& 51 = f1 a / 4 &&& 51 := by decide +kernel
theorem by_3 : ∀ a, a < 256 → f2 (f1 a) ≤ 68 := by decide +kernel
theorem by_4 : ∀ z, z < 69 → ∀ e, e < 5 → (z + z / 16 + 16 * e) &&& 15 = (z + z / 16) &&& 15 := by decide +kernel
theorem by_5 : ∀ a, a < 256 → f2 (f1 a) % 16 < 5 := by decide +kernel
theorem by_6 : ∀ a, a < 256 → (f2 (f1 a) + f2 (f1 a) / 16) &&& 15 = od 8 a := by decide +kernel
theorem by_7 : ∀ a, a < 256 → od 8 a ≤ 8 := by decide +kernel
theorem od_add : ∀ (f g x : Nat), od (f + g) x = od f (x % 2 ^ f) + od g (x / 2 ^ f)
  | 0, g, x => by rw [Nat.zero_add, od, Nat.pow_zero, Nat.div_one, Nat.zero_add]
  | f + 1, g, x => by
    rw [show f + 1 + g = (f + g) + 1 by omega, od, od, od_add f g (x / 2)]
    rw [show x % 2 ^ (f + 1) % 2 = x % 2 by rw [Nat.pow_succ, Nat.mul_comm]; exact Nat.mod_mul_right_mod x 2 (2 ^ f)]
    rw [show x % 2 ^ (f + 1) / 2 = x / 2 % 2 ^ f by rw [Nat.pow_succ, Nat.mul_comm]; exact Nat.mod_mul_right_div_self x 2 (2 ^ f)]
    rw [show x / 2 ^ (f + 1) = x / 2 / 2 ^ f by rw [Nat.pow_succ, Nat.mul_comm, Nat.div_div_eq_div_mul]]
    omega
/-- the count by halves, as numbers -/
theorem pc_1 {a b c : Nat} (ha : a < 256) (hb : b < 256) (hc : c < 256) : ((a + 256 * b + 65536 * c) / 2 &&& 5592405) = (a / 2 &&& 85) + 256 * (b / 2 &&& 85) + 65536 * (c / 2 &&& 85) := by
  rw [show (a + 256 * b + 65536 * c) / 2 = (a / 2 + 128 * (b % 2)) + 256 * (b / 2 + 128 * (c % 2)) + 65536 * (c / 2) by omega, show (5592405 : Nat) = 85 + 256 * 85 + 65536 * 85 by decide, an_3 (by omega) (by omega) (by decide), by_1 a ha _ (by omega), by_1 b hb _ (by omega)]
theorem pc_2 {a b c : Nat} (ha : a < 256) (hb : b < 256) (hc : c < 256) : ((f1 a + 256 * f1 b + 65536 * f1 c) &&& 3355443) + ((f1 a + 256 * f1 b + 65536 * f1 c) / 4 &&& 3355443) = f2 (f1 a) + 256 * f2 (f1 b) + 65536 * f2 (f1 c) := by
  have la : f1 a < 256 := by unfold f1; omega
  have lb : f1 b < 256 := by unfold f1; omega
  have p1 := by_2 a ha
  have p2 := by_2 b hb
  unfold f2
  generalize f1 a = a1 at *
  generalize f1 b = b1 at *
  generalize f1 c = c1 at *
  rw [show (a1 + 256 * b1 + 65536 * c1) / 4 = (a1 / 4 + 64 * (b1 % 4)) + 256 * (b1 / 4 + 64 * (c1 % 4)) + 65536 * (c1 / 4) by omega, show (3355443 : Nat) = 51 + 256 * 51 + 65536 * 51 by decide, an_3 la lb (by decide), an_3 (by omega) (by omega) (by decide), p1 _ (by omega), p2 _ (by omega)]
  omega
theorem pc_3 {a b c : Nat} (ha : a < 256) (hb : b < 256) (hc : c < 256) : (((f2 (f1 a) + 256 * f2 (f1 b) + 65536 * f2 (f1 c)) + (f2 (f1 a) + 256 * f2 (f1 b) + 65536 * f2 (f1 c)) / 16) &&& 986895) = od 8 a + 256 * od 8 b + 65536 * od 8 c := by
  have p3 := by_3 a ha
  have p4 := by_3 b hb
  have p6 := by_5 b hb
  have p7 := by_5 c hc
  rw [← by_6 a ha, ← by_6 b hb, ← by_6 c hc]
  generalize f2 (f1 a) = a2 at *
  generalize f2 (f1 b) = b2 at *
  generalize f2 (f1 c) = c2 at *
  have r1 := by_4 a2 (by omega) (b2 % 16) p6
  have r2 := by_4 b2 (by omega) (c2 % 16) p7
  rw [show (a2 + 256 * b2 + 65536 * c2) + (a2 + 256 * b2 + 65536 * c2) / 16 = (a2 + a2 / 16 + 16 * (b2 % 16)) + 256 * (b2 + b2 / 16 + 16 * (c2 % 16)) + 65536 * (c2 + c2 / 16) by omega, show (986895 : Nat) = 15 + 256 * 15 + 65536 * 15 by decide, an_3 (by omega) (by omega) (by decide), r1, r2]
theorem pc_nat {v y z t u : Nat} (hv : v < 16777216) (hy : y = v - (v / 2 &&& 5592405)) (hz : z = (y &&& 3355443) + (y / 4 &&& 3355443)) (ht : t = (z + z / 16) &&& 986895) (hu : u = t + t / 256) : (u + u / 65536) % 64 = od 24 v ∧ y < 16777216 ∧ z + z / 16 < 16777216 ∧ t < 16777216 ∧ u < 33554432 ∧ (v / 2 &&& 5592405) ≤ v := by
  obtain ⟨a, b, c, ha, hb, hc, rfl⟩ : ∃ a b c, a < 256 ∧ b < 256 ∧ c < 256 ∧ v = a + 256 * b + 65536 * c := ⟨v % 256, v / 256 % 256, v / 65536, by omega, by omega, by omega, by omega⟩
  have k1 := by_1b a ha
  have k2 := by_1b b hb
  have k3 := by_1b c hc
  have hy2 : y = f1 a + 256 * f1 b + 65536 * f1 c := by
    rw [hy, pc_1 ha hb hc]
    unfold f1
    omega
  have hz2 : z = f2 (f1 a) + 256 * f2 (f1 b) + 65536 * f2 (f1 c) := by rw [hz, hy2, pc_2 ha hb hc]
  have ht2 : t = od 8 a + 256 * od 8 b + 65536 * od 8 c := by rw [ht, hz2, pc_3 ha hb hc]
  have e5 : od 24 (a + 256 * b + 65536 * c) = od 8 a + (od 8 b + od 8 c) := by
    rw [show (24 : Nat) = 8 + (8 + 8) by decide, od_add, od_add]
    rw [show (a + 256 * b + 65536 * c) % 2 ^ 8 = a by omega, show (a + 256 * b + 65536 * c) / 2 ^ 8 % 2 ^ 8 = b by omega, show (a + 256 * b + 65536 * c) / 2 ^ 8 / 2 ^ 8 = c by omega]
  have q1 := by_7 a ha
  have q2 := by_7 b hb
  have q3 := by_7 c hc
  have q4 := by_3 a ha
  have q5 := by_3 b hb
  have q6 := by_3 c hc
  have la : f1 a < 256 := by unfold f1; omega
  have lb : f1 b < 256 := by unfold f1; omega
  have lc : f1 c < 256 := by unfold f1; omega
  rw [e5, pc_1 ha hb hc]
  generalize od 8 a = x1 at *
  generalize od 8 b = x2 at *
  generalize od 8 c = x3 at *
  generalize f2 (f1 a) = w1 at *
  generalize f2 (f1 b) = w2 at *
  generalize f2 (f1 c) = w3 at *
  subst ht2
  have hu2 : u = (x1 + x2) + 256 * (x2 + x3) + 65536 * x3 := by omega
  have hu3 : u / 65536 = x3 := by omega
  refine ⟨?_, by omega, by omega, by omega, by omega, by omega⟩
  rw [hu3, hu2]
  omega
theorem an_low {x m q : Nat} (hx : x < 16777216) (hm : m < 16777216) : x &&& (m + 16777216 * q) = x &&& m := by
  have h1 : x &&& (m + 16777216 * q) ≤ x := Nat.and_le_left
  have h2 : (x &&& (m + 16777216 * q)) % 2 ^ 24 = x &&& m := by
    rw [Nat.and_mod_two_pow]
    congr 1 <;> omega
  rw [← h2]
  omega
theorem ush_nat {v k : Nat} (hv : v < 2147483648) (hk : k < 31) : ((nI v).toUInt32 >>> ((nI k).toUInt32 &&& Int32.toUInt32 31)).toInt32 = nI (v / 2 ^ k) := by
  have e : ∀ n, n < 2147483648 → ∀ i, bt (nI n) i = n.testBit i := by
    intro n hn i
    show (BitVec.ofNat 32 n).getLsbD i = _
    rw [BitVec.getLsbD_ofNat]
    by_cases h : i < 32
    · simp [h]
    · simp [h]
      exact Nat.testBit_lt_two_pow (Nat.lt_of_lt_of_le hn (show (2 : Nat) ^ 31 ≤ 2 ^ i from Nat.pow_le_pow_right (by omega) (by omega)))
  apply b_ext
  intro i _
  rw [b_ushr k (by omega), e v hv, e _ (Nat.lt_of_le_of_lt (Nat.div_le_self _ _) hv), Nat.testBit_div_two_pow]
  rw [Nat.add_comm]
set_option maxHeartbeats 2000000 in
theorem j_bitCount (d : Nat) {v : Nat} (hv : v < 16777216) (mem : mm_M) : sp (d + 1) 183 [.int (nI v)] mem (ans mem (nI (od 24 v))) := by
  refine ⟨trivial, rfl, ?_⟩
  obtain ⟨y, hy⟩ : ∃ y, y = v - (v / 2 &&& 5592405) := ⟨_, rfl⟩
  obtain ⟨z, hz⟩ : ∃ z, z = (y &&& 3355443) + (y / 4 &&& 3355443) := ⟨_, rfl⟩
  obtain ⟨t, ht⟩ : ∃ t, t = (z + z / 16) &&& 986895 := ⟨_, rfl⟩
  obtain ⟨u, hu⟩ : ∃ u, u = t + t / 256 := ⟨_, rfl⟩
  obtain ⟨h1, h2, hz9, h4, h5, h6⟩ := pc_nat hv hy hz ht hu
  have h3 : z < 16777216 := by omega
  have e1 : nI v - (((nI v).toUInt32 >>> ((1 : Int32).toUInt32 &&& Int32.toUInt32 31)).toInt32 &&& 1431655765) = nI y := by
    rw [show (1 : Int32) = nI 1 from rfl, ush_nat (by omega) (by omega), show (1431655765 : Int32) = nI (5592405 + 16777216 * 85) from rfl, fa_and, an_low (by omega) (by omega), show v / 2 ^ 1 = v / 2 from rfl, pk_sub h6, hy]
  have e2 : (nI y &&& 858993459) + (((nI y).toUInt32 >>> ((2 : Int32).toUInt32 &&& Int32.toUInt32 31)).toInt32 &&& 858993459) = nI z := by
    rw [show (2 : Int32) = nI 2 from rfl, ush_nat (by omega) (by omega), show (858993459 : Int32) = nI (3355443 + 16777216 * 51) from rfl, fa_and, fa_and, an_low (by omega) (by omega), an_low (by omega) (by omega), show y / 2 ^ 2 = y / 4 from rfl, nI_add, hz]
  have e3 : (nI z + ((nI z).toUInt32 >>> ((4 : Int32).toUInt32 &&& Int32.toUInt32 31)).toInt32) &&& 252645135 = nI t := by
    rw [show (4 : Int32) = nI 4 from rfl, ush_nat (by omega) (by omega), show z / 2 ^ 4 = z / 16 from rfl, nI_add, show (252645135 : Int32) = nI (986895 + 16777216 * 15) from rfl, fa_and, an_low hz9 (by omega), ht]
  have e4 : nI t + ((nI t).toUInt32 >>> ((8 : Int32).toUInt32 &&& Int32.toUInt32 31)).toInt32 = nI u := by
    rw [show (8 : Int32) = nI 8 from rfl, ush_nat (by omega) (by omega), show t / 2 ^ 8 = t / 256 from rfl, nI_add, hu]
  have e5 : (nI u + ((nI u).toUInt32 >>> ((16 : Int32).toUInt32 &&& Int32.toUInt32 31)).toInt32) &&& 63 = nI (od 24 v) := by
    rw [show (16 : Int32) = nI 16 from rfl, ush_nat (by omega) (by omega), show u / 2 ^ 16 = u / 65536 from rfl, nI_add, show (63 : Int32) = nI (2 ^ 6 - 1) from rfl, fa_mask, show (2 : Nat) ^ 6 = 64 from rfl, h1]
  refine mm_WP.go [10] 20 ?_
  show wp d (mm_Al 183) cd_Integer_bitCount _ 10 [some (.int (nI v - (((nI v).toUInt32 >>> ((1 : Int32).toUInt32 &&& Int32.toUInt32 31)).toInt32 &&& 1431655765)))] [] mem
  rw [e1]
  refine mm_WP.go [24] 20 ?_
  show wp d (mm_Al 183) cd_Integer_bitCount _ 24 [some (.int ((nI y &&& 858993459) + (((nI y).toUInt32 >>> ((2 : Int32).toUInt32 &&& Int32.toUInt32 31)).toInt32 &&& 858993459)))] [] mem
  rw [e2]
  refine mm_WP.go [34] 20 ?_
  show wp d (mm_Al 183) cd_Integer_bitCount _ 34 [some (.int ((nI z + ((nI z).toUInt32 >>> ((4 : Int32).toUInt32 &&& Int32.toUInt32 31)).toInt32) &&& 252645135))] [] mem
  rw [e3]
  refine mm_WP.go [41] 20 ?_
  show wp d (mm_Al 183) cd_Integer_bitCount _ 41 [some (.int (nI t + ((nI t).toUInt32 >>> ((8 : Int32).toUInt32 &&& Int32.toUInt32 31)).toInt32))] [] mem
  rw [e4]
  refine mm_WP.go [] 20 ?_
  show ans mem (nI (od 24 v)) (some (.int ((nI u + ((nI u).toUInt32 >>> ((16 : Int32).toUInt32 &&& Int32.toUInt32 31)).toInt32) &&& 63))) mem
  rw [e5]
  exact ⟨rfl, rfl⟩
end
section
/-! sets as numbers; branches; the two states -/
def sb : Nat → (Nat → Bool) → Nat
  | 0, _ => 0
  | n + 1, p => 2 ^ n * (if p n then 1 else 0) + sb n p
theorem sb_lt (p : Nat → Bool) : ∀ n, sb n p < 2 ^ n
  | 0 => by rw [sb]; decide
  | n + 1 => by
    have h := sb_lt p n
    rw [sb, Nat.pow_succ]
    split <;> omega
theorem sb_tb (p : Nat → Bool) : ∀ n i, (sb n p).testBit i = (decide (i < n) && p i)
  | 0, i => by rw [sb, Nat.zero_testBit]; simp
  | n + 1, i => by
    have ih := sb_tb p n i
    rw [sb]
    have hlt := sb_lt p n
    by_cases hp : p n = true
    · rw [if_pos hp, Nat.mul_one]
      rcases Nat.lt_trichotomy i n with h | h | h
      · rw [Nat.testBit_two_pow_add_gt h, ih]
        simp [h, Nat.lt_succ_of_lt h]
      · subst h
        rw [Nat.testBit_two_pow_add_eq, ih]
        simp [hp]
      · rw [Nat.testBit_lt_two_pow (Nat.lt_of_lt_of_le (show 2 ^ n + sb n p < 2 ^ (n + 1) by rw [Nat.pow_succ]; omega) (Nat.pow_le_pow_right (by omega) h))]
        simp [show ¬ i < n + 1 by omega]
    · rw [if_neg hp, Nat.mul_zero, Nat.zero_add, ih]
      by_cases h : i = n
      · subst h
        simp at hp
        simp [hp]
      · have : (i < n + 1) ↔ i < n := by omega
        simp [this]
theorem sb_cong {p q : Nat → Bool} {n : Nat} (h : ∀ i, i < n → p i = q i) : sb n p = sb n q := by
  apply Nat.eq_of_testBit_eq
  intro i
  rw [sb_tb, sb_tb]
  by_cases hi : i < n
  · rw [h i hi]
  · simp [hi]
theorem sb_inj {p q : Nat → Bool} {n : Nat} : sb n p = sb n q ↔ ∀ i, i < n → p i = q i := by
  refine ⟨fun h i hi => ?_, sb_cong⟩
  have h1 := congrArg (fun x => x.testBit i) h
  simp only [sb_tb, hi, decide_true, Bool.true_and] at h1
  exact h1
theorem sb_24 {n : Nat} (hn : n ≤ 24) (p : Nat → Bool) : sb n p < 16777216 := Nat.lt_of_lt_of_le (sb_lt p n) (show 2 ^ n ≤ 2 ^ 24 from Nat.pow_le_pow_right (by omega) hn)
theorem bt_nat {v : Nat} (h : v < 2147483648) (i : Nat) : bt (nI v) i = v.testBit i := by
  show (BitVec.ofNat 32 v).getLsbD i = _
  rw [BitVec.getLsbD_ofNat]
  by_cases hi : i < 32
  · simp [hi]
  · simp [hi]
    exact Nat.testBit_lt_two_pow (Nat.lt_of_lt_of_le h (show (2 : Nat) ^ 31 ≤ 2 ^ i from Nat.pow_le_pow_right (by omega) (by omega)))
theorem bt_sb {n : Nat} (hn : n ≤ 24) (p : Nat → Bool) (i : Nat) : bt (nI (sb n p)) i = (decide (i < n) && p i) := by
  have h := sb_24 hn p
  rw [bt_nat (by omega), sb_tb]
theorem sb_and {n : Nat} (hn : n ≤ 24) (p q : Nat → Bool) : nI (sb n p) &&& nI (sb n q) = nI (sb n (fun i => p i && q i)) := by
  apply b_ext
  intro i _
  rw [b_and, bt_sb hn, bt_sb hn, bt_sb hn]
  cases decide (i < n) <;> simp
theorem sb_or {n : Nat} (hn : n ≤ 24) (p q : Nat → Bool) : nI (sb n p) ||| nI (sb n q) = nI (sb n (fun i => p i || q i)) := by
  apply b_ext
  intro i _
  rw [b_or, bt_sb hn, bt_sb hn, bt_sb hn]
  cases decide (i < n) <;> simp
theorem sb_xor {n : Nat} (hn : n ≤ 24) (p q : Nat → Bool) : nI (sb n p) ^^^ nI (sb n q) = nI (sb n (fun i => p i ^^ q i)) := by
  apply b_ext
  intro i _
  rw [b_xor, bt_sb hn, bt_sb hn, bt_sb hn]
  cases decide (i < n) <;> simp
theorem sb_andn {n : Nat} (hn : n ≤ 24) (p q : Nat → Bool) : nI (sb n p) &&& (nI (sb n q) ^^^ (-1)) = nI (sb n (fun i => p i && !q i)) := by
  apply b_ext
  intro i hi
  rw [b_and, b_xor, b_m1 i hi, bt_sb hn, bt_sb hn, bt_sb hn]
  cases decide (i < n) <;> simp
theorem sb_nI {n : Nat} (hn : n ≤ 24) {p q : Nat → Bool} : nI (sb n p) = nI (sb n q) ↔ ∀ i, i < n → p i = q i := by
  have h1 := sb_24 hn p
  have h2 := sb_24 hn q
  rw [nI_eq (by omega) (by omega), sb_inj]
theorem sb_zero (n : Nat) : sb n (fun _ => false) = 0 := by
  apply Nat.eq_of_testBit_eq
  intro i
  rw [sb_tb]
  simp
theorem sb_nI0 {n : Nat} (hn : n ≤ 24) {p : Nat → Bool} : nI (sb n p) = 0 ↔ ∀ i, i < n → p i = false := by
  rw [show (0 : Int32) = nI (sb n (fun _ => false)) by rw [sb_zero]; rfl, sb_nI hn]
theorem od_ct : ∀ f x, od f x = fb_ct (fun i => x.testBit i) f
  | 0, _ => rfl
  | f + 1, x => by
    rw [od, od_ct f (x / 2), Nat.add_comm f 1, fb_ct_split, fb_ct_succ, fb_ct]
    have h1 : (x % 2) = (if x.testBit 0 then 1 else 0) := by
      rw [Nat.testBit_zero]
      by_cases h : x % 2 = 1
      · simp [h]
      · simp [h]; omega
    rw [h1, Nat.zero_add]
    congr 1
    apply fb_ct_cong
    intro k _
    rw [Nat.add_comm 1 k, Nat.testBit_succ]
theorem od_sb {n : Nat} (hn : n ≤ 24) (p : Nat → Bool) : od 24 (sb n p) = fb_ct p n := by
  rw [od_ct, show (24 : Nat) = n + (24 - n) by omega, fb_ct_split]
  have h1 : fb_ct (fun i => (sb n p).testBit i) n = fb_ct p n := fb_ct_cong (fun k hk => by rw [sb_tb]; simp [hk])
  have h2 : fb_ct (fun k => (sb n p).testBit (n + k)) (24 - n) = 0 := fb_ct_zero.mpr (fun k _ => by rw [sb_tb, decide_eq_false (show ¬ n + k < n by omega)]; rfl)
  rw [h1, h2, Nat.add_zero]
def bI (b : Bool) : Int32 := if b then 1 else 0
theorem bI_0 {b : Bool} (h : bI b = 0) : b = false := by
  cases b
  · rfl
  · exact absurd h (by decide)
theorem bI_1 {b : Bool} (h : ¬ bI b = 0) : b = true := by
  cases b
  · exact absurd rfl h
  · rfl
theorem bI_fit (b : Bool) : fits .boolean (.int (bI b)) = true := by cases b <;> rfl
theorem e1 {t f : Prop} (h : f) : ((1 : Int32) = 0 → t) ∧ (¬ (1 : Int32) = 0 → f) := ⟨fun c => absurd c (by decide), fun _ => h⟩
theorem e0 {t f : Prop} (h : t) : ((0 : Int32) = 0 → t) ∧ (¬ (0 : Int32) = 0 → f) := ⟨fun _ => h, fun c => absurd rfl c⟩
theorem n1 {t f : Prop} (h : t) : (¬ (1 : Int32) = 0 → t) ∧ ((1 : Int32) = 0 → f) := ⟨fun _ => h, fun c => absurd c (by decide)⟩
theorem n0 {t f : Prop} (h : f) : (¬ (0 : Int32) = 0 → t) ∧ ((0 : Int32) = 0 → f) := ⟨fun c => absurd rfl c, fun _ => h⟩
/-- a counter against a bound -/
theorem lp_ge {x y : Int32} {k N : Nat} {t f : Prop} (hx : x = nI k) (hy : y = nI N) (hN : N < 2 ^ 31) (hk : k ≤ N) (h1 : k = N → t) (h2 : k < N → f) : (y ≤ x → t) ∧ (¬ y ≤ x → f) := by
  subst hx
  subst hy
  refine ⟨fun c => h1 ?_, fun c => h2 ?_⟩
  · have := (nI_leI hN (by omega)).mp c
    omega
  · rcases Nat.lt_or_ge k N with h | h
    · exact h
    · exact absurd ((nI_leI hN (by omega)).mpr h) c
theorem ix_ma {c s w N : Nat} (hN : N < 2 ^ 31) (h : c * s + w < N) : vp_in (nI c * nI s + nI w) N ∧ (nI c * nI s + nI w).toNatClampNeg = c * s + w := by
  rw [pk_mul, nI_add]
  exact ⟨vp_in_nI h hN, nI_clamp (by omega)⟩
theorem ix_n {w N : Nat} (hN : N < 2 ^ 31) (h : w < N) : vp_in (nI w) N ∧ (nI w).toNatClampNeg = w := ⟨vp_in_nI h hN, nI_clamp (by omega)⟩
/-- the reference's scenes: how many, which meanings each has, which words were said -/
def RS (n : Nat) (H S : Nat → Nat → Bool) (A I : Nat → Nat → Int32) : Prop := n ≤ 24 ∧ I 38 0 = nI n ∧ (∀ s w, s < n → w < 6 → A 43 (6 * s + w) = bI (S s w)) ∧ (∀ s m, s < n → m < 90 → A 44 (90 * s + m) = bI (H s m))
/-- the class's -/
def CS (n : Nat) (H S : Nat → Nat → Bool) (A I : Nat → Nat → Int32) : Prop := n ≤ 24 ∧ I 21 2 = nI n ∧ (∀ w, w < 6 → A 27 w = nI (sb n (fun s => S s w))) ∧ (∀ m, m < 90 → A 26 m = nI (sb n (fun s => H s m)))
/-- in how many scenes a word was said that have not a meaning -/
def lf (n : Nat) (H S : Nat → Nat → Bool) (w m : Nat) : Nat := fb_ct (fun s => S s w && !H s m) n
theorem lf_le {n : Nat} {H S : Nat → Nat → Bool} {w m : Nat} : lf n H S w m ≤ n := fb_ct_le _ _
section M1
variable {L : Nat} {xs : Nat → Int32} {A I : Nat → Nat → Int32} {F : Nat → Nat → Option Nat} {P : mm_M} {n : Nat} {H S : Nat → Nat → Bool}
theorem m_isLeft_loop {d : Nat} {B : Nat × Nat} {Q : mm_Q} (hR : RS n H S A I) {w m : Nat} (hw : w < 6) (hm : m < 90) (sl : Int32) (hq : ∀ v, (v = 0 ∨ v = 1) → ((v = 1) ↔ (lf n H S w m : Int) ≤ sl.toInt) → Q (some (.int v)) (gm L xs A I F P)) :
    ∀ (j k : Nat) (x y : Int32), j + k = n → x = nI k → y = nI (fb_ct (fun s => S s w && !H s m) k) → wp d B cd_Model_isLeft Q 6 [some (.ref 38), some (.int (nI w)), some (.int sl), some (.int (nI m)), some (.int y), some (.int x)] [] (gm L xs A I F P) := by
  obtain ⟨hn, hI, hS, hH⟩ := hR
  intro j
  induction j with
  | zero =>
    intro k x y hk hx hy
    have hk : k = n := by omega
    subst hk
    refine mm_WP.go [6] 100 (lp_ge hx hI (by omega) (Nat.le_refl _) (fun _ => ?_) (fun h => absurd h (by omega)))
    have hct : fb_ct (fun s => S s w && !H s m) k ≤ k := fb_ct_le _ _
    have hyI : y.toInt = (lf k H S w m : Int) := by rw [hy, nI_toInt (by omega)]; rfl
    refine ⟨fun c => ?_, fun c => ?_⟩
    · refine ⟨rfl, hq 0 (Or.inl rfl) ⟨fun h => absurd h (by decide), fun h => ?_⟩⟩
      rw [fa_lt] at c
      omega
    · refine ⟨rfl, hq 1 (Or.inr rfl) ⟨fun _ => ?_, fun _ => rfl⟩⟩
      rw [fa_lt] at c
      omega
  | succ j ih =>
    intro k x y hk hx hy
    have hkn : k < n := by omega
    refine mm_WP.go [6] 100 (lp_ge hx hI (by omega) (by omega) (fun h => absurd h (by omega)) (fun _ => ?_))
    subst hx
    have i1 := ix_ma (c := 6) (s := k) (w := w) (N := 144) (by decide) (by omega)
    have i2 := ix_ma (c := 90) (s := k) (w := m) (N := 2160) (by decide) (by omega)
    have v1 : A 43 ((6 * nI k + nI w).toNatClampNeg) = bI (S k w) := by
      rw [show (6 * nI k + nI w).toNatClampNeg = 6 * k + w from i1.2]
      exact hS k w hkn hw
    have v2 : A 44 ((90 * nI k + nI m).toNatClampNeg) = bI (H k m) := by
      rw [show (90 * nI k + nI m).toNatClampNeg = 90 * k + m from i2.2]
      exact hH k m hkn hm
    refine ⟨i1.1, fun c => ?_, fun c => ⟨i2.1, fun c2 => ?_, fun c2 => ?_⟩⟩
    · have h1 : S k w = false := bI_0 (v1 ▸ c)
      refine ih (k + 1) _ _ (by omega) (nI_1 k) ?_
      rw [hy, fb_ct_succ, h1]
      exact Int32.add_zero _
    · have h1 : H k m = true := bI_1 (v2 ▸ c2)
      refine ih (k + 1) _ _ (by omega) (nI_1 k) ?_
      rw [hy, fb_ct_succ, h1, Bool.not_true, Bool.and_false]
      exact Int32.add_zero _
    · have h1 : S k w = true := bI_1 (v1 ▸ c)
      have h2 : H k m = false := bI_0 (v2 ▸ c2)
      refine ih (k + 1) _ _ (by omega) (nI_1 k) ?_
      rw [hy, fb_ct_succ, h1, h2]
      exact nI_1 _
theorem m_isLeft (d : Nat) (hR : RS n H S A I) {w m : Nat} (hw : w < 6) (hm : m < 90) (sl : Int32) : sp (d + 1) 141 [.ref 38, .int (nI w), .int sl, .int (nI m)] (gm L xs A I F P) (yes (gm L xs A I F P) ((lf n H S w m : Int) ≤ sl.toInt)) := by
  refine ⟨⟨_, rfl⟩, rfl, mm_WP.go [6] 100 ?_⟩
  refine m_isLeft_loop hR hw hm sl ?_ n 0 _ _ (by omega) rfl rfl
  rintro v (rfl | rfl) h
  · exact ⟨rfl, Or.inr ⟨fun z => absurd (h.mpr z) (by decide), rfl⟩⟩
  · exact ⟨rfl, Or.inl ⟨h.mp rfl, rfl⟩⟩
theorem c_isLeft (d : Nat) (hC : CS n H S A I) {w m : Nat} (hw : w < 6) (hm : m < 90) (sl : Int32) : sp (d + 2) 55 [.ref 21, .int (nI w), .int (nI m), .int sl] (gm L xs A I F P) (yes (gm L xs A I F P) ((lf n H S w m : Int) ≤ sl.toInt)) := by
  obtain ⟨hn, hI, hS, hH⟩ := hC
  have i1 := ix_n (w := w) (N := 6) (by decide) hw
  have i2 := ix_n (w := m) (N := 90) (by decide) hm
  refine ⟨⟨_, rfl⟩, rfl, mm_WP.go [15] 100 ⟨i1.1, i2.1, ?_⟩⟩
  have e : A 27 ((nI w).toNatClampNeg) &&& (A 26 ((nI m).toNatClampNeg) ^^^ (-1)) = nI (sb n (fun s => S s w && !H s m)) := by
    rw [i1.2, i2.2, hS w hw, hH m hm, sb_andn hn]
  show wp (d + 1) (mm_Al 55) cd_Told_isLeft _ 15 [some (.ref 21), some (.int (nI w)), some (.int (nI m)), some (.int sl)] [.int (A 27 ((nI w).toNatClampNeg) &&& (A 26 ((nI m).toNatClampNeg) ^^^ (-1)))] (gm L xs A I F P)
  rw [e]
  refine mm_WP.go [] 100 ⟨_, j_bitCount d (sb_24 hn _) _, ?_⟩
  rintro r m1 ⟨rfl, rfl⟩
  rw [od_sb hn]
  have hct : fb_ct (fun s => S s w && !H s m) n ≤ n := fb_ct_le _ _
  have hyI : (nI (fb_ct (fun s => S s w && !H s m) n)).toInt = (lf n H S w m : Int) := by rw [nI_toInt (by omega)]; rfl
  refine ⟨fun c => ?_, fun c => ?_⟩
  · refine ⟨rfl, rfl, Or.inr ⟨fun h => ?_, rfl⟩⟩
    rw [fa_lt, hyI] at c
    omega
  · refine ⟨rfl, rfl, Or.inl ⟨?_, rfl⟩⟩
    rw [fa_lt, hyI] at c
    omega
end M1
end
section
/-! small methods of the class; of both, by one function -/
/-- the first from k on, of j more; -9 none -/
def fi (p : Nat → Bool) : Nat → Nat → Int32
  | 0, _ => -9
  | j + 1, k => if p k then nI k else fi p j (k + 1)
theorem fi_cong {p q : Nat → Bool} : ∀ (j k : Nat), (∀ i, k ≤ i → i < k + j → p i = q i) → fi p j k = fi q j k
  | 0, _, _ => rfl
  | j + 1, k, h => by
    rw [fi, fi, h k (Nat.le_refl _) (by omega), fi_cong j (k + 1) (fun i h1 h2 => h i (by omega) (by omega))]
theorem fi_none {p : Nat → Bool} : ∀ (j k : Nat), (∀ i, k ≤ i → i < k + j → p i = false) → fi p j k = -9
  | 0, _, _ => rfl
  | j + 1, k, h => by
    rw [fi, h k (Nat.le_refl _) (by omega), fi_none j (k + 1) (fun i h1 h2 => h i (by omega) (by omega))]
    rfl
theorem fi_add {p : Nat → Bool} : ∀ (a b k : Nat), (∀ i, k + a ≤ i → i < k + a + b → p i = false) → fi p (a + b) k = fi p a k
  | 0, b, k, h => by rw [Nat.zero_add, fi_none b k (fun i h1 h2 => h i (by omega) (by omega))]; rfl
  | a + 1, b, k, h => by
    rw [show a + 1 + b = (a + b) + 1 by omega, fi, fi, fi_add a b (k + 1) (fun i h1 h2 => h i (by omega) (by omega))]
theorem fi_cut {n : Nat} (hn : n ≤ 24) (q : Nat → Bool) : fi (fun i => decide (i < n) && q i) 24 0 = fi q n 0 := by
  rw [show (24 : Nat) = n + (24 - n) by omega, fi_add n (24 - n) 0 (fun i h1 _ => by rw [decide_eq_false (show ¬ i < n by omega)]; rfl)]
  exact fi_cong n 0 (fun i _ h2 => by rw [decide_eq_true (show i < n by omega)]; rfl)
theorem fi_neg {p : Nat → Bool} : ∀ (j k : Nat), k + j < 2 ^ 31 → ((fi p j k < 0) ↔ ∀ i, k ≤ i → i < k + j → p i = false)
  | 0, k, _ => ⟨fun _ i h1 h2 => by omega, fun _ => show (-9 : Int32) < 0 by decide⟩
  | j + 1, k, h => by
    rw [fi]
    by_cases hp : p k = true
    · rw [if_pos hp]
      exact ⟨fun c => absurd c (nI_pos (by omega)), fun c => absurd (c k (Nat.le_refl _) (by omega)) (by rw [hp]; decide)⟩
    · rw [if_neg hp, fi_neg j (k + 1) (by omega)]
      refine ⟨fun c i h1 h2 => ?_, fun c i h1 h2 => c i (by omega) (by omega)⟩
      rcases Nat.eq_or_lt_of_le h1 with h3 | h3
      · rw [← h3]
        simpa using hp
      · exact c i (by omega) (by omega)
def kd (m : Nat) : Nat := if m < 6 then 0 else if m < 21 then 1 else if m < 39 then 2 else if m < 42 then 3 else if m < 60 then 4 else if m < 78 then 5 else if m < 84 then 6 else 7
theorem kd_lt (m : Nat) : kd m < 8 := by unfold kd; repeat' split <;> try omega
theorem vp_nlt {x : Int32} {n : Nat} (hn : n < 2 ^ 31) : vp_in x n ↔ ¬ x < 0 ∧ x < nI n := by
  rw [vp_in_iff, fa_lt, fa_lt, nI_toInt hn, Int32.toInt_zero]
  omega
section M2
variable {L : Nat} {xs : Nat → Int32} {A I : Nat → Nat → Int32} {F : Nat → Nat → Option Nat} {P : mm_M} {n : Nat} {H S : Nat → Nat → Bool}
theorem c_noWord (d : Nat) (x : Int32) (mem : mm_M) : sp (d + 1) 80 [.int x] mem (yes mem (¬ vp_in x 6)) := by
  have h := vp_nlt (x := x) (n := 6) (by decide)
  refine ⟨trivial, rfl, mm_WP.go [] 100 ⟨fun c => ?_, fun c => ⟨fun c2 => ?_, fun c2 => ?_⟩⟩⟩
  · exact ⟨rfl, rfl, Or.inl ⟨fun z => (h.mp z).1 c, rfl⟩⟩
  · exact ⟨rfl, rfl, Or.inr ⟨fun z => z (h.mpr ⟨c, c2⟩), rfl⟩⟩
  · exact ⟨rfl, rfl, Or.inl ⟨fun z => c2 (h.mp z).2, rfl⟩⟩
theorem c_noMeaning (d : Nat) (x : Int32) (mem : mm_M) : sp (d + 1) 84 [.int x] mem (yes mem (¬ vp_in x 90)) := by
  have h := vp_nlt (x := x) (n := 90) (by decide)
  refine ⟨trivial, rfl, mm_WP.go [] 100 ⟨fun c => ?_, fun c => ⟨fun c2 => ?_, fun c2 => ?_⟩⟩⟩
  · exact ⟨rfl, rfl, Or.inl ⟨fun z => (h.mp z).1 c, rfl⟩⟩
  · exact ⟨rfl, rfl, Or.inr ⟨fun z => z (h.mpr ⟨c, c2⟩), rfl⟩⟩
  · exact ⟨rfl, rfl, Or.inl ⟨fun z => c2 (h.mp z).2, rfl⟩⟩
theorem c_noScene (d : Nat) (hn : n ≤ 24) (hI : I 21 2 = nI n) (x : Int32) : sp (d + 1) 77 [.ref 6, .int x] (gm L xs A I F P) (yes (gm L xs A I F P) (¬ vp_in x n)) := by
  have h := vp_nlt (x := x) (n := n) (by omega)
  refine ⟨⟨_, rfl⟩, rfl, mm_WP.go [] 100 ⟨fun c => ?_, fun c => ⟨fun c2 => ?_, fun c2 => ?_⟩⟩⟩
  · exact ⟨rfl, rfl, Or.inl ⟨fun z => (h.mp z).1 c, rfl⟩⟩
  · exact ⟨rfl, rfl, Or.inr ⟨fun z => z (h.mpr ⟨c, hI ▸ c2⟩), rfl⟩⟩
  · exact ⟨rfl, rfl, Or.inl ⟨fun z => c2 (hI.symm ▸ (h.mp z).2), rfl⟩⟩
theorem c_refuse (d : Nat) {w : Int32} {k : Nat} (h0 : ¬ -w ≤ 0) (h7 : ¬ (7 : Int32) ≤ -w) (h1 : vp_in (-w) 7) (h2 : (-w).toNatClampNeg = k) : sp (d + 1) 72 [.ref 6, .int w] (gm L xs A I F P) (fun r m => r = some (.int w) ∧ m = gm L xs (uA A 20 k (A 20 k + 1)) I F P) := by
  subst h2
  exact ⟨⟨_, rfl⟩, rfl, mm_WP.go [] 100 ⟨fun c => absurd c h0, fun _ => ⟨fun c => absurd c h7, fun _ => ⟨h1, h1, rfl, rfl⟩⟩⟩⟩
theorem c_isIn (d : Nat) {v k : Nat} (hv : v < 2147483648) (hk : k < 31) (mem : mm_M) : sp (d + 1) 81 [.int (nI v), .int (nI k)] mem (yes mem (v.testBit k = true)) := by
  have e : (((nI v).toUInt32 >>> ((nI k).toUInt32 &&& Int32.toUInt32 31)).toInt32 &&& 1) = bI (v.testBit k) := by
    rw [ush_nat hv hk, show (1 : Int32) = nI (2 ^ 1 - 1) from rfl, fa_mask, Nat.testBit_eq_decide_div_mod_eq]
    unfold bI
    by_cases h : v / 2 ^ k % 2 = 1
    · rw [decide_eq_true h]
      rw [show v / 2 ^ k % 2 ^ 1 = 1 by omega]
      rfl
    · rw [decide_eq_false h]
      rw [show v / 2 ^ k % 2 ^ 1 = 0 by omega]
      rfl
  refine ⟨trivial, rfl, mm_WP.go [] 100 ⟨fun c => ?_, fun c => ?_⟩⟩
  · have h := bI_0 (e ▸ c)
    exact ⟨rfl, rfl, Or.inr ⟨fun z => absurd (h.symm.trans z) (by decide), rfl⟩⟩
  · have h := bI_1 (e ▸ c)
    exact ⟨rfl, rfl, Or.inl ⟨h, rfl⟩⟩
theorem c_firstIn_loop {d : Nat} {B : Nat × Nat} {Q : mm_Q} {mem : mm_M} {v : Nat} (hv : v < 2147483648) : ∀ (j k : Nat) (x : Int32), j + k = 24 → x = nI k → Q (some (.int (fi (fun i => v.testBit i) j k))) mem → wp (d + 1) B cd_Word_firstIn Q 2 [some (.int (nI v)), some (.int x)] [] mem := by
  intro j
  induction j with
  | zero =>
    intro k x hk hx hq
    exact mm_WP.go [2] 100 (lp_ge (N := 24) hx rfl (by omega) (by omega) (fun _ => hq) (fun h => absurd h (by omega)))
  | succ j ih =>
    intro k x hk hx hq
    refine mm_WP.go [2] 100 (lp_ge (N := 24) hx rfl (by omega) (by omega) (fun h => absurd h (by omega)) (fun _ => ?_))
    subst hx
    refine ⟨_, c_isIn d hv (by omega) mem, ?_⟩
    rintro r m ⟨rfl, ⟨h, rfl⟩ | ⟨h, rfl⟩⟩
    · refine e1 ?_
      rw [fi, if_pos h] at hq
      exact hq
    · refine e0 ?_
      rw [fi, if_neg h] at hq
      exact ih (k + 1) _ (by omega) (nI_1 k) hq
theorem c_firstIn (d : Nat) {v : Nat} (hv : v < 2147483648) (mem : mm_M) : sp (d + 2) 90 [.int (nI v)] mem (ans mem (fi (fun i => v.testBit i) 24 0)) := by
  refine ⟨trivial, rfl, mm_WP.go [2] 100 ?_⟩
  exact c_firstIn_loop hv 24 0 _ rfl rfl ⟨rfl, rfl⟩
theorem c_firstIn_sb (d : Nat) (hn : n ≤ 24) (q : Nat → Bool) (mem : mm_M) : sp (d + 2) 90 [.int (nI (sb n q))] mem (ans mem (fi q n 0)) := by
  have h := sb_24 hn q
  refine mm_Sp.post (c_firstIn d (v := sb n q) (by omega) mem) ?_
  rintro r m ⟨rfl, rfl⟩
  refine ⟨?_, rfl⟩
  rw [← fi_cut hn q]
  congr 3
  funext i
  exact sb_tb q n i
def kf (m : Nat) : Nat → Nat
  | 0 => 0
  | k + 1 => if mm_t1.getD (k + 1) 0 ≤ nI m then k + 1 else kf m k
theorem kf_kd : ∀ m, m < 90 → kf m 7 = kd m := by decide +kernel
theorem kf_le (m : Nat) : ∀ k, kf m k ≤ k
  | 0 => Nat.le_refl _
  | k + 1 => by
    have := kf_le m k
    rw [kf]
    split <;> omega
theorem c_kindOf_loop {d : Nat} {B : Nat × Nat} {Q : mm_Q} {m : Nat} (hq : Q (some (.int (nI (kf m 7)))) (gm L xs A I F P)) : ∀ (j k : Nat) (x y : Int32), j + k = 7 → x = nI (k + 1) → y = nI (kf m k) → wp d B cd_Word_kindOf Q 4 [some (.int (nI m)), some (.int y), some (.int x)] [] (gm L xs A I F P) := by
  intro j
  induction j with
  | zero =>
    intro k x y hk hx hy
    have : k = 7 := by omega
    subst this
    refine mm_WP.go [4] 100 (lp_ge (N := 8) hx rfl (by omega) (by omega) (fun _ => ?_) (fun h => absurd h (by omega)))
    subst hy
    exact hq
  | succ j ih =>
    intro k x y hk hx hy
    refine mm_WP.go [4] 100 (lp_ge (N := 8) hx rfl (by omega) (by omega) (fun h => absurd h (by omega)) (fun _ => ?_))
    have i1 := ix_n (w := k + 1) (N := 8) (by decide) (by omega)
    subst hx
    refine ⟨i1.1, fun c => ?_, fun c => ?_⟩
    · refine ih (k + 1) _ _ (by omega) (nI_1 (k + 1)) ?_
      rw [i1.2] at c
      rw [hy, kf, if_neg (Int32.not_le.mpr c)]
    · refine ih (k + 1) _ _ (by omega) (nI_1 (k + 1)) ?_
      rw [i1.2] at c
      rw [kf, if_pos (Int32.not_lt.mp c)]
theorem c_kindOf (d : Nat) {m : Nat} (hm : m < 90) : sp (d + 1) 74 [.int (nI m)] (gm L xs A I F P) (ans (gm L xs A I F P) (nI (kd m))) := by
  refine ⟨trivial, rfl, mm_WP.go [4] 100 ?_⟩
  refine c_kindOf_loop (m := m) ?_ 7 0 _ _ rfl rfl rfl
  rw [kf_kd m hm]
  exact ⟨rfl, rfl⟩
theorem m_kindOf (d : Nat) {m : Nat} (hm : m < 90) (mem : mm_M) : sp (d + 1) 137 [.int (nI m)] mem (ans mem (nI (kd m))) := by
  have g : ∀ N : Nat, N < 90 → ((nI N ≤ nI m) ↔ N ≤ m) := fun N hN => nI_leI (by omega) (by omega)
  refine ⟨trivial, rfl, mm_WP.go [] 100 ⟨fun c => ⟨fun c2 => ⟨fun c3 => ⟨fun c4 => ⟨fun c5 => ⟨fun c6 => ⟨fun c7 => ?_, fun c7 => ?_⟩, fun c6 => ?_⟩, fun c5 => ?_⟩, fun c4 => ?_⟩, fun c3 => ?_⟩, fun c2 => ?_⟩, fun c => ?_⟩⟩
  all_goals
    refine ⟨?_, rfl⟩
    unfold kd
  · have h1 := (g 6 (by omega)).mp c
    have h2 := (g 21 (by omega)).mp c2
    have h3 := (g 39 (by omega)).mp c3
    have h4 := (g 42 (by omega)).mp c4
    have h5 := (g 60 (by omega)).mp c5
    have h6 := (g 78 (by omega)).mp c6
    have h7 := (g 84 (by omega)).mp c7
    rw [if_neg (by omega), if_neg (by omega), if_neg (by omega), if_neg (by omega), if_neg (by omega), if_neg (by omega), if_neg (by omega)]
    rfl
  · have h6 := (g 78 (by omega)).mp c6
    have h7 : ¬ 84 ≤ m := fun z => c7 ((g 84 (by omega)).mpr z)
    rw [if_neg (by omega), if_neg (by omega), if_neg (by omega), if_neg (by omega), if_neg (by omega), if_neg (by omega), if_pos (by omega)]
    rfl
  · have h5 := (g 60 (by omega)).mp c5
    have h6 : ¬ 78 ≤ m := fun z => c6 ((g 78 (by omega)).mpr z)
    rw [if_neg (by omega), if_neg (by omega), if_neg (by omega), if_neg (by omega), if_neg (by omega), if_pos (by omega)]
    rfl
  · have h4 := (g 42 (by omega)).mp c4
    have h5 : ¬ 60 ≤ m := fun z => c5 ((g 60 (by omega)).mpr z)
    rw [if_neg (by omega), if_neg (by omega), if_neg (by omega), if_neg (by omega), if_pos (by omega)]
    rfl
  · have h3 := (g 39 (by omega)).mp c3
    have h4 : ¬ 42 ≤ m := fun z => c4 ((g 42 (by omega)).mpr z)
    rw [if_neg (by omega), if_neg (by omega), if_neg (by omega), if_pos (by omega)]
    rfl
  · have h2 := (g 21 (by omega)).mp c2
    have h3 : ¬ 39 ≤ m := fun z => c3 ((g 39 (by omega)).mpr z)
    rw [if_neg (by omega), if_neg (by omega), if_pos (by omega)]
    rfl
  · have h1 := (g 6 (by omega)).mp c
    have h2 : ¬ 21 ≤ m := fun z => c2 ((g 21 (by omega)).mpr z)
    rw [if_neg (by omega), if_pos (by omega)]
    rfl
  · have h1 : ¬ 6 ≤ m := fun z => c ((g 6 (by omega)).mpr z)
    rw [if_pos (by omega)]
    rfl
end M2
end
section
/-! left, plainest: loops over the meanings -/
/-- is it left, with so many slips -/
def Lp (n : Nat) (H S : Nat → Nat → Bool) (w : Nat) (sl : Int32) (m : Nat) : Bool := decide ((lf n H S w m : Int) ≤ sl.toInt)
/-- the i-th, from k on, of j more, with a ahead; behind the end: how many, if i is below 0, else none -/
def lv (p : Nat → Bool) (i : Int32) : Nat → Nat → Nat → Int32
  | 0, _, a => if i < 0 then nI a else -9
  | j + 1, k, a => if p k then (if nI a = i then nI k else lv p i j (k + 1) (a + 1)) else lv p i j (k + 1) a
theorem lv_neg {p : Nat → Bool} {i : Int32} (hi : i < 0) : ∀ (j k : Nat), j + k < 2 ^ 31 → lv p i j k (fb_ct p k) = nI (fb_ct p (j + k))
  | 0, k, _ => by rw [lv, if_pos hi, Nat.zero_add]
  | j + 1, k, h => by
    have hc : fb_ct p k ≤ k := fb_ct_le p k
    rw [lv, show j + 1 + k = j + (k + 1) by omega, ← lv_neg hi j (k + 1) (by omega), fb_ct_succ]
    by_cases hp : p k = true
    · rw [if_pos hp, if_pos hp, if_neg]
      intro e
      rw [← e] at hi
      exact nI_pos (by omega) hi
    · rw [if_neg hp, if_neg hp]
      rfl
/-- the heaviest, the first of such -/
def hv (p : Nat → Bool) (wk : Nat → Nat) : Nat → Nat → Option Nat → Option Nat
  | 0, _, b => b
  | j + 1, k, none => hv p wk j (k + 1) (if p k then some k else none)
  | j + 1, k, some b => hv p wk j (k + 1) (if wk b < wk k ∧ p k = true then some k else some b)
def oN : Option Nat → Int32
  | none => -9
  | some m => nI m
section M3
variable {L : Nat} {xs : Nat → Int32} {A I : Nat → Nat → Int32} {F : Nat → Nat → Option Nat} {P : mm_M} {n : Nat} {H S : Nat → Nat → Bool}
theorem Lp_iff {w m : Nat} {sl : Int32} : Lp n H S w sl m = true ↔ (lf n H S w m : Int) ≤ sl.toInt := decide_eq_true_iff
theorem c_countLeft_loop {d : Nat} {B : Nat × Nat} {Q : mm_Q} (hC : CS n H S A I) {w : Nat} (hw : w < 6) (sl : Int32) (hq : Q (some (.int (nI (fb_ct (Lp n H S w sl) 90)))) (gm L xs A I F P)) :
    ∀ (j k : Nat) (x y : Int32), j + k = 90 → x = nI k → y = nI (fb_ct (Lp n H S w sl) k) → wp (d + 2) B cd_Told_countLeft Q 5 [some (.ref 21), some (.int (nI w)), some (.int sl), some (.int y), some (.int x)] [] (gm L xs A I F P) := by
  intro j
  induction j with
  | zero =>
    intro k x y hk hx hy
    refine mm_WP.go [5] 100 (lp_ge (N := 90) hx rfl (by omega) (by omega) (fun h => ?_) (fun h => absurd h (by omega)))
    subst h
    subst hy
    exact hq
  | succ j ih =>
    intro k x y hk hx hy
    refine mm_WP.go [5] 100 (lp_ge (N := 90) hx rfl (by omega) (by omega) (fun h => absurd h (by omega)) (fun _ => ?_))
    subst hx
    refine ⟨_, c_isLeft d hC hw (by omega) sl, ?_⟩
    rintro r m ⟨rfl, ⟨h, rfl⟩ | ⟨h, rfl⟩⟩
    · refine e1 (ih (k + 1) _ _ (by omega) (nI_1 k) ?_)
      rw [hy, fb_ct_succ, if_pos (Lp_iff.mpr h)]
      exact nI_1 _
    · refine e0 (ih (k + 1) _ _ (by omega) (nI_1 k) ?_)
      rw [hy, fb_ct_succ, if_neg (fun z => h (Lp_iff.mp z))]
      rfl
theorem c_countLeft (d : Nat) (hC : CS n H S A I) {w : Nat} (hw : w < 6) (sl : Int32) : sp (d + 3) 54 [.ref 21, .int (nI w), .int sl] (gm L xs A I F P) (ans (gm L xs A I F P) (nI (fb_ct (Lp n H S w sl) 90))) := by
  refine ⟨⟨_, rfl⟩, rfl, mm_WP.go [5] 100 ?_⟩
  exact c_countLeft_loop hC hw sl ⟨rfl, rfl⟩ 90 0 _ _ rfl rfl rfl
theorem c_leftAt_loop {d : Nat} {B : Nat × Nat} {Q : mm_Q} (hC : CS n H S A I) {w : Nat} (hw : w < 6) (sl i : Int32) (hi : ¬ i < 0) :
    ∀ (j k a : Nat) (x y : Int32), j + k = 90 → x = nI k → y = nI a → Q (some (.int (lv (Lp n H S w sl) i j k a))) (gm L xs A I F P) → wp (d + 2) B cd_Told_leftAt Q 6 [some (.ref 21), some (.int (nI w)), some (.int sl), some (.int i), some (.int y), some (.int x)] [] (gm L xs A I F P) := by
  intro j
  induction j with
  | zero =>
    intro k a x y hk hx hy hq
    refine mm_WP.go [6] 100 (lp_ge (N := 90) hx rfl (by omega) (by omega) (fun h => ?_) (fun h => absurd h (by omega)))
    rw [lv, if_neg hi] at hq
    exact hq
  | succ j ih =>
    intro k a x y hk hx hy hq
    refine mm_WP.go [6] 100 (lp_ge (N := 90) hx rfl (by omega) (by omega) (fun h => absurd h (by omega)) (fun _ => ?_))
    subst hx
    subst hy
    refine ⟨_, c_isLeft d hC hw (by omega) sl, ?_⟩
    rintro r m ⟨rfl, ⟨h, rfl⟩ | ⟨h, rfl⟩⟩
    · rw [lv, if_pos (Lp_iff.mpr h)] at hq
      refine e1 ⟨fun c => ?_, fun c => ?_⟩
      · rw [if_neg c] at hq
        exact ih (k + 1) (a + 1) _ _ (by omega) (nI_1 k) (nI_1 a) hq
      · rw [if_pos c] at hq
        exact hq
    · rw [lv, if_neg (fun z => h (Lp_iff.mp z))] at hq
      exact e0 (ih (k + 1) a _ _ (by omega) (nI_1 k) rfl hq)
theorem c_leftAt (d : Nat) (hC : CS n H S A I) {w : Nat} (hw : w < 6) (sl i : Int32) (hi : ¬ i < 0) : sp (d + 3) 56 [.ref 21, .int (nI w), .int sl, .int i] (gm L xs A I F P) (ans (gm L xs A I F P) (lv (Lp n H S w sl) i 90 0 0)) := by
  refine ⟨⟨_, rfl⟩, rfl, mm_WP.go [6] 100 ?_⟩
  exact c_leftAt_loop hC hw sl i hi 90 0 0 _ _ rfl rfl rfl ⟨rfl, rfl⟩
theorem m_left_loop {d : Nat} {B : Nat × Nat} {Q : mm_Q} (hR : RS n H S A I) {w : Nat} (hw : w < 6) (sl i : Int32) :
    ∀ (j k a : Nat) (x y : Int32), j + k = 90 → x = nI k → y = nI a → Q (some (.int (lv (Lp n H S w sl) i j k a))) (gm L xs A I F P) → wp (d + 1) B cd_Model_left Q 47 [some (.ref 38), some (.int (nI w)), some (.int sl), some (.int i), some (.int y), some (.int x)] [] (gm L xs A I F P) := by
  intro j
  induction j with
  | zero =>
    intro k a x y hk hx hy hq
    refine mm_WP.go [47] 100 (lp_ge (N := 90) hx rfl (by omega) (by omega) (fun h => ?_) (fun h => absurd h (by omega)))
    rw [lv] at hq
    refine ⟨fun c => ?_, fun c => ?_⟩
    · rw [if_neg (Int32.not_lt.mpr c)] at hq
      exact hq
    · rw [if_pos (Int32.not_le.mp c)] at hq
      subst hy
      exact hq
  | succ j ih =>
    intro k a x y hk hx hy hq
    refine mm_WP.go [47] 100 (lp_ge (N := 90) hx rfl (by omega) (by omega) (fun h => absurd h (by omega)) (fun _ => ?_))
    subst hx
    subst hy
    refine ⟨_, m_isLeft d hR hw (by omega) sl, ?_⟩
    rintro r m ⟨rfl, ⟨h, rfl⟩ | ⟨h, rfl⟩⟩
    · rw [lv, if_pos (Lp_iff.mpr h)] at hq
      refine e1 ⟨fun c => ?_, fun c => ?_⟩
      · rw [if_neg c] at hq
        exact ih (k + 1) (a + 1) _ _ (by omega) (nI_1 k) (nI_1 a) hq
      · rw [if_pos c] at hq
        exact hq
    · rw [lv, if_neg (fun z => h (Lp_iff.mp z))] at hq
      exact e0 (ih (k + 1) a _ _ (by omega) (nI_1 k) rfl hq)
/-- the reference's left, the call not refused -/
theorem m_left (d : Nat) (hR : RS n H S A I) {w : Nat} (hw : w < 6) {sl i : Int32} (h1 : ¬ sl < 0) (h2 : ¬ i < -1) (h3 : ¬ 3 < sl) : sp (d + 3) 140 [.ref 38, .int (nI w), .int sl, .int i] (gm L xs A I F P) (ans (gm L xs A I F P) (lv (Lp n H S w sl) i 90 0 0)) := by
  refine ⟨⟨_, rfl⟩, rfl, mm_WP.go [47] 100 ⟨_, m_isWord d _ _, ?_⟩⟩
  rintro r m ⟨rfl, ⟨-, rfl⟩ | ⟨h, rfl⟩⟩
  · refine n1 ⟨fun c => absurd c h1, fun _ => ⟨fun _ => ⟨fun _ => ?_, fun c => absurd (Int32.not_lt.mp h3) c⟩, fun c => absurd (Int32.not_lt.mp h2) c⟩⟩
    exact m_left_loop hR hw sl i 90 0 0 _ _ rfl rfl rfl ⟨rfl, rfl⟩
  · exact absurd (ix_n (N := 6) (by decide) hw).1 h
/-- the class's -/
theorem c_left (d : Nat) (hC : CS n H S A I) {w : Nat} (hw : w < 6) {sl i : Int32} (h1 : ¬ sl < 0) (h2 : ¬ i < -1) (h3 : ¬ 3 < sl) : sp (d + 4) 87 [.ref 6, .int (nI w), .int sl, .int i] (gm L xs A I F P) (ans (gm L xs A I F P) (lv (Lp n H S w sl) i 90 0 0)) := by
  refine ⟨⟨_, rfl⟩, rfl, mm_WP.go [] 100 ⟨_, c_noWord (d + 2) _ _, ?_⟩⟩
  rintro r m ⟨rfl, ⟨h, rfl⟩ | ⟨-, rfl⟩⟩
  · exact absurd (ix_n (N := 6) (by decide) hw).1 h
  · refine e0 ⟨fun c => absurd c h1, fun _ => ⟨fun _ => ⟨fun _ => ⟨fun c => ?_, fun c => ?_⟩, fun c => absurd (Int32.not_lt.mp h3) c⟩, fun c => absurd (Int32.not_lt.mp h2) c⟩⟩
    · refine ⟨_, c_leftAt d hC hw sl i (Int32.not_lt.mpr c), ?_⟩
      rintro r m ⟨rfl, rfl⟩
      exact ⟨rfl, rfl⟩
    · refine ⟨_, c_countLeft d hC hw sl, ?_⟩
      rintro r m ⟨rfl, rfl⟩
      refine ⟨?_, rfl⟩
      have h := lv_neg (p := Lp n H S w sl) (Int32.not_le.mp c) 90 0 (by decide)
      rw [show lv (Lp n H S w sl) i 90 0 0 = nI (fb_ct (Lp n H S w sl) 90) from h]
end M3
end
section
/-! plainest, judge, said, has, same, part -/
/-- weights, at an array of either -/
def WT (wt : Nat → Nat) (f : Nat → Int32) : Prop := ∀ k, k < 8 → f k = nI (wt k) ∧ 1 ≤ wt k ∧ wt k ≤ 99
def oW (wk : Nat → Nat) : Option Nat → Nat
  | none => 0
  | some b => wk b
section M4
variable {L : Nat} {xs : Nat → Int32} {A I : Nat → Nat → Int32} {F : Nat → Nat → Option Nat} {P : mm_M} {n : Nat} {H S : Nat → Nat → Bool}
theorem c_heaviest_loop {d : Nat} {B : Nat × Nat} {Q : mm_Q} (hC : CS n H S A I) {wt : Nat → Nat} (hW : WT wt (A 28)) {w : Nat} (hw : w < 6) (sl : Int32) :
    ∀ (j k : Nat) (b : Option Nat) (x y z : Int32) (u : Option Value), j + k = 90 → x = nI k → y = oN b → z = nI (oW (fun m => wt (kd m)) b) → (∀ c, b = some c → c < 90) → (∀ v, u = some v → ∃ q, v = .int q) → Q (some (.int (oN (hv (Lp n H S w sl) (fun m => wt (kd m)) j k b)))) (gm L xs A I F P) → wp (d + 2) B cd_Told_heaviestLeft Q 9 [some (.ref 21), some (.int (nI w)), some (.int sl), some (.int y), some (.int z), some (.int x), u] [] (gm L xs A I F P) := by
  intro j
  induction j with
  | zero =>
    intro k b x y z u hk hx hy hz hb hu hq
    refine mm_WP.go [9] 100 (lp_ge (N := 90) hx rfl (by omega) (by omega) (fun h => ?_) (fun h => absurd h (by omega)))
    subst hy
    exact hq
  | succ j ih =>
    intro k b x y z u hk hx hy hz hb hu hq
    refine mm_WP.go [9] 100 (lp_ge (N := 90) hx rfl (by omega) (by omega) (fun h => absurd h (by omega)) (fun _ => ?_))
    subst hx
    have hk90 : k < 90 := by omega
    refine ⟨_, c_kindOf (d + 1) hk90, ?_⟩
    rintro r m ⟨rfl, rfl⟩
    have i1 := ix_n (w := kd k) (N := 8) (by decide) (kd_lt k)
    obtain ⟨w1, w2, w3⟩ := hW (kd k) (kd_lt k)
    have hwk : A 28 ((nI (kd k)).toNatClampNeg) = nI (wt (kd k)) := by rw [i1.2, w1]
    have hbw : oW (fun m => wt (kd m)) b ≤ 99 := by
      cases b with
      | none => exact Nat.zero_le _
      | some c => exact (hW (kd c) (kd_lt c)).2.2
    refine ⟨i1.1, fun c => ?_, fun c => ?_⟩
    · -- not heavier
      rw [hwk, hz, nI_leI (by omega) (by omega)] at c
      have hq2 : hv (Lp n H S w sl) (fun m => wt (kd m)) (j + 1) k b = hv (Lp n H S w sl) (fun m => wt (kd m)) j (k + 1) b := by
        cases b with
        | none => simp only [oW] at c; omega
        | some b0 =>
          simp only [oW] at c
          rw [hv, if_neg (fun q => by omega)]
      rw [hq2] at hq
      exact ih (k + 1) b _ _ _ _ (by omega) (nI_1 k) hy hz hb (fun v hv => ⟨_, (Option.some.inj hv).symm⟩) hq
    · rw [hwk, hz, nI_leI (by omega) (by omega)] at c
      refine ⟨_, c_isLeft d hC hw hk90 sl, ?_⟩
      rintro r m ⟨rfl, ⟨h, rfl⟩ | ⟨h, rfl⟩⟩
      · have hq2 : hv (Lp n H S w sl) (fun m => wt (kd m)) (j + 1) k b = hv (Lp n H S w sl) (fun m => wt (kd m)) j (k + 1) (some k) := by
          cases b with
          | none => rw [hv, if_pos (Lp_iff.mpr h)]
          | some b0 =>
            simp only [oW] at c
            rw [hv, if_pos ⟨by omega, Lp_iff.mpr h⟩]
        rw [hq2] at hq
        exact e1 (ih (k + 1) (some k) _ _ _ _ (by omega) (nI_1 k) rfl hwk (fun c hc => by cases hc; exact hk90) (fun v hv => ⟨_, (Option.some.inj hv).symm⟩) hq)
      · have hq2 : hv (Lp n H S w sl) (fun m => wt (kd m)) (j + 1) k b = hv (Lp n H S w sl) (fun m => wt (kd m)) j (k + 1) b := by
          cases b with
          | none => rw [hv, if_neg (fun z => h (Lp_iff.mp z))]
          | some b0 => rw [hv, if_neg (fun z => h (Lp_iff.mp z.2))]
        rw [hq2] at hq
        exact e0 (ih (k + 1) b _ _ _ _ (by omega) (nI_1 k) hy hz hb (fun v hv => ⟨_, (Option.some.inj hv).symm⟩) hq)
theorem c_heaviest (d : Nat) (hC : CS n H S A I) {wt : Nat → Nat} (hW : WT wt (A 28)) {w : Nat} (hw : w < 6) (sl : Int32) : sp (d + 3) 57 [.ref 21, .int (nI w), .int sl] (gm L xs A I F P) (ans (gm L xs A I F P) (oN (hv (Lp n H S w sl) (fun m => wt (kd m)) 90 0 none))) := by
  refine ⟨⟨_, rfl⟩, rfl, mm_WP.go [9] 100 ?_⟩
  exact c_heaviest_loop hC hW hw sl 90 0 none _ _ _ none rfl rfl rfl rfl (fun c hc => by cases hc) (fun v hv => by cases hv) ⟨rfl, rfl⟩
theorem m_plainest_loop {d : Nat} {B : Nat × Nat} {Q : mm_Q} (hR : RS n H S A I) {wt : Nat → Nat} (hW : WT wt (A 45)) {w : Nat} (hw : w < 6) (sl : Int32) :
    ∀ (j k : Nat) (b : Option Nat) (x y : Int32) (u : Option Value), j + k = 90 → x = nI k → y = oN b → (∀ c, b = some c → c < 90) → (∀ v, u = some v → ∃ q, v = .int q) → Q (some (.int (oN (hv (Lp n H S w sl) (fun m => wt (kd m)) j k b)))) (gm L xs A I F P) → wp (d + 2) B cd_Model_plainest Q 42 [some (.ref 38), some (.int (nI w)), some (.int sl), some (.int y), some (.int x), u] [] (gm L xs A I F P) := by
  intro j
  induction j with
  | zero =>
    intro k b x y u hk hx hy hb hu hq
    refine mm_WP.go [42] 100 (lp_ge (N := 90) hx rfl (by omega) (by omega) (fun h => ?_) (fun h => absurd h (by omega)))
    subst hy
    exact hq
  | succ j ih =>
    intro k b x y u hk hx hy hb hu hq
    refine mm_WP.go [42, 82] 100 (lp_ge (N := 90) hx rfl (by omega) (by omega) (fun h => absurd h (by omega)) (fun _ => ?_))
    subst hx
    have hk90 : k < 90 := by omega
    -- behind the comparison
    have tail1 : (match b with | none => True | some b0 => wt (kd b0) < wt (kd k)) → wp (d + 2) B cd_Model_plainest Q 82 [some (.ref 38), some (.int (nI w)), some (.int sl), some (.int y), some (.int (nI k)), some (.int 1)] [] (gm L xs A I F P) := by
      intro hh
      refine mm_WP.go [42] 100 (e1 ⟨_, m_isLeft (d + 1) hR hw hk90 sl, ?_⟩)
      rintro r m ⟨rfl, ⟨h, rfl⟩ | ⟨h, rfl⟩⟩
      · have hq2 : hv (Lp n H S w sl) (fun m => wt (kd m)) (j + 1) k b = hv (Lp n H S w sl) (fun m => wt (kd m)) j (k + 1) (some k) := by
          cases b with
          | none => rw [hv, if_pos (Lp_iff.mpr h)]
          | some b0 => rw [hv, if_pos ⟨hh, Lp_iff.mpr h⟩]
        rw [hq2] at hq
        exact e1 (ih (k + 1) (some k) _ _ _ (by omega) (nI_1 k) rfl (fun c hc => by cases hc; exact hk90) (fun v hv => ⟨_, (Option.some.inj hv).symm⟩) hq)
      · have hq2 : hv (Lp n H S w sl) (fun m => wt (kd m)) (j + 1) k b = hv (Lp n H S w sl) (fun m => wt (kd m)) j (k + 1) b := by
          cases b with
          | none => rw [hv, if_neg (fun z => h (Lp_iff.mp z))]
          | some b0 => rw [hv, if_neg (fun z => h (Lp_iff.mp z.2))]
        rw [hq2] at hq
        exact e0 (ih (k + 1) b _ _ _ (by omega) (nI_1 k) hy hb (fun v hv => ⟨_, (Option.some.inj hv).symm⟩) hq)
    have tail0 : (∃ b0, b = some b0 ∧ ¬ wt (kd b0) < wt (kd k)) → wp (d + 2) B cd_Model_plainest Q 82 [some (.ref 38), some (.int (nI w)), some (.int sl), some (.int y), some (.int (nI k)), some (.int 0)] [] (gm L xs A I F P) := by
      rintro ⟨b0, rfl, hh⟩
      rw [hv, if_neg (fun z => hh z.1)] at hq
      exact mm_WP.go [42] 100 (e0 (ih (k + 1) (some b0) _ _ _ (by omega) (nI_1 k) hy hb (fun v hv => ⟨_, (Option.some.inj hv).symm⟩) hq))
    cases b with
    | none =>
      subst hy
      exact ⟨fun _ => tail1 trivial, fun c => absurd (by decide) c⟩
    | some b0 =>
      have hb0 := hb b0 rfl
      subst hy
      refine ⟨fun c => absurd c (nI_pos (by omega)), fun _ => ⟨_, m_kindOf (d + 1) hk90 _, ?_⟩⟩
      rintro r m ⟨rfl, rfl⟩
      have i1 := ix_n (w := kd k) (N := 8) (by decide) (kd_lt k)
      have i2 := ix_n (w := kd b0) (N := 8) (by decide) (kd_lt b0)
      obtain ⟨w1, w2, w3⟩ := hW (kd k) (kd_lt k)
      obtain ⟨v1, v2, v3⟩ := hW (kd b0) (kd_lt b0)
      have hwk : A 45 ((nI (kd k)).toNatClampNeg) = nI (wt (kd k)) := by rw [i1.2, w1]
      have hwb : A 45 ((nI (kd b0)).toNatClampNeg) = nI (wt (kd b0)) := by rw [i2.2, v1]
      refine ⟨i1.1, _, m_kindOf (d + 1) hb0 _, ?_⟩
      rintro r m ⟨rfl, rfl⟩
      refine ⟨i2.1, fun c => ?_, fun c => ?_⟩
      · rw [hwk, hwb, nI_leI (by omega) (by omega)] at c
        exact tail0 ⟨b0, rfl, by omega⟩
      · rw [hwk, hwb, nI_leI (by omega) (by omega)] at c
        exact tail1 (by show _ < _; omega)
/-- plainest, not refused -/
theorem m_plainest (d : Nat) (hR : RS n H S A I) {wt : Nat → Nat} (hW : WT wt (A 45)) {w : Nat} (hw : w < 6) {sl : Int32} (h1 : ¬ sl < 0) (h3 : ¬ 3 < sl) : sp (d + 3) 142 [.ref 38, .int (nI w), .int sl] (gm L xs A I F P) (ans (gm L xs A I F P) (oN (hv (Lp n H S w sl) (fun m => wt (kd m)) 90 0 none))) := by
  refine ⟨⟨_, rfl⟩, rfl, mm_WP.go [42] 100 ⟨_, m_isWord d _ _, ?_⟩⟩
  rintro r m ⟨rfl, ⟨-, rfl⟩ | ⟨h, rfl⟩⟩
  · refine n1 ⟨fun _ => ⟨fun _ => ?_, fun c => absurd (Int32.not_lt.mp h3) c⟩, fun c => absurd (Int32.not_lt.mp h1) c⟩
    exact m_plainest_loop hR hW hw sl 90 0 none _ _ none rfl rfl rfl (fun c hc => by cases hc) (fun v hv => by cases hv) ⟨rfl, rfl⟩
  · exact absurd (ix_n (N := 6) (by decide) hw).1 h
theorem c_plainest (d : Nat) (hC : CS n H S A I) {wt : Nat → Nat} (hW : WT wt (A 28)) {w : Nat} (hw : w < 6) {sl : Int32} (h1 : ¬ sl < 0) (h3 : ¬ 3 < sl) : sp (d + 4) 88 [.ref 6, .int (nI w), .int sl] (gm L xs A I F P) (ans (gm L xs A I F P) (oN (hv (Lp n H S w sl) (fun m => wt (kd m)) 90 0 none))) := by
  refine ⟨⟨_, rfl⟩, rfl, mm_WP.go [] 100 ⟨_, c_noWord (d + 2) _ _, ?_⟩⟩
  rintro r m ⟨rfl, ⟨h, rfl⟩ | ⟨-, rfl⟩⟩
  · exact absurd (ix_n (N := 6) (by decide) hw).1 h
  · refine e0 ⟨fun _ => ⟨fun _ => ?_, fun c => absurd (Int32.not_lt.mp h3) c⟩, fun c => absurd (Int32.not_lt.mp h1) c⟩
    refine ⟨_, c_heaviest d hC hW hw sl, ?_⟩
    rintro r m ⟨rfl, rfl⟩
    exact ⟨rfl, rfl⟩
theorem m_judge_loop {d : Nat} {B : Nat × Nat} {Q : mm_Q} (hR : RS n H S A I) {w m : Nat} (hw : w < 6) (hm : m < 90) : ∀ (j k : Nat) (x : Int32), j + k = n → x = nI k → Q (some (.int (fi (fun s => S s w && !H s m) j k))) (gm L xs A I F P) → wp d B cd_Model_judge Q 22 [some (.ref 38), some (.int (nI w)), some (.int (nI m)), some (.int x)] [] (gm L xs A I F P) := by
  obtain ⟨hn, hI, hS, hH⟩ := hR
  intro j
  induction j with
  | zero =>
    intro k x hk hx hq
    exact mm_WP.go [22] 100 (lp_ge hx hI (by omega) (by omega) (fun _ => hq) (fun h => absurd h (by omega)))
  | succ j ih =>
    intro k x hk hx hq
    have hkn : k < n := by omega
    refine mm_WP.go [22] 100 (lp_ge hx hI (by omega) (by omega) (fun h => absurd h (by omega)) (fun _ => ?_))
    subst hx
    have i1 := ix_ma (c := 6) (s := k) (w := w) (N := 144) (by decide) (by omega)
    have i2 := ix_ma (c := 90) (s := k) (w := m) (N := 2160) (by decide) (by omega)
    have v1 : A 43 ((6 * nI k + nI w).toNatClampNeg) = bI (S k w) := by
      rw [show (6 * nI k + nI w).toNatClampNeg = 6 * k + w from i1.2]
      exact hS k w hkn hw
    have v2 : A 44 ((90 * nI k + nI m).toNatClampNeg) = bI (H k m) := by
      rw [show (90 * nI k + nI m).toNatClampNeg = 90 * k + m from i2.2]
      exact hH k m hkn hm
    rw [fi] at hq
    refine ⟨i1.1, fun c => ?_, fun c => ⟨i2.1, fun c2 => ?_, fun c2 => ?_⟩⟩
    · have h1 : S k w = false := bI_0 (v1 ▸ c)
      rw [h1] at hq
      exact ih (k + 1) _ (by omega) (nI_1 k) hq
    · have h1 : H k m = true := bI_1 (v2 ▸ c2)
      rw [h1, Bool.not_true, Bool.and_false] at hq
      exact ih (k + 1) _ (by omega) (nI_1 k) hq
    · have h1 : S k w = true := bI_1 (v1 ▸ c)
      have h2 : H k m = false := bI_0 (v2 ▸ c2)
      rw [h1, h2] at hq
      exact hq
theorem m_judge (d : Nat) (hR : RS n H S A I) {w m : Nat} (hw : w < 6) (hm : m < 90) : sp (d + 3) 143 [.ref 38, .int (nI w), .int (nI m)] (gm L xs A I F P) (ans (gm L xs A I F P) (fi (fun s => S s w && !H s m) n 0)) := by
  refine ⟨⟨_, rfl⟩, rfl, mm_WP.go [22] 100 ⟨_, m_isWord d _ _, ?_⟩⟩
  rintro r m1 ⟨rfl, ⟨-, rfl⟩ | ⟨h, rfl⟩⟩
  · refine e1 ⟨_, m_isMeaning d _ _, ?_⟩
    rintro r m1 ⟨rfl, ⟨-, rfl⟩ | ⟨h, rfl⟩⟩
    · exact n1 (m_judge_loop hR hw hm n 0 _ (by omega) rfl ⟨rfl, rfl⟩)
    · exact absurd (ix_n (N := 90) (by decide) hm).1 h
  · exact absurd (ix_n (N := 6) (by decide) hw).1 h
theorem c_judge (d : Nat) (hC : CS n H S A I) {w m : Nat} (hw : w < 6) (hm : m < 90) : sp (d + 4) 89 [.ref 6, .int (nI w), .int (nI m)] (gm L xs A I F P) (ans (gm L xs A I F P) (fi (fun s => S s w && !H s m) n 0)) := by
  obtain ⟨hn, hI, hS, hH⟩ := hC
  have i1 := ix_n (w := w) (N := 6) (by decide) hw
  have i2 := ix_n (w := m) (N := 90) (by decide) hm
  refine ⟨⟨_, rfl⟩, rfl, mm_WP.go [41] 100 ⟨_, c_noWord (d + 2) _ _, ?_⟩⟩
  rintro r m1 ⟨rfl, ⟨h, rfl⟩ | ⟨-, rfl⟩⟩
  · exact absurd i1.1 h
  · refine n0 ⟨_, c_noMeaning (d + 2) _ _, ?_⟩
    rintro r m1 ⟨rfl, ⟨h, rfl⟩ | ⟨-, rfl⟩⟩
    · exact absurd i2.1 h
    · refine e0 ⟨i1.1, i2.1, ?_⟩
      have e : A 27 ((nI w).toNatClampNeg) &&& (A 26 ((nI m).toNatClampNeg) ^^^ (-1)) = nI (sb n (fun s => S s w && !H s m)) := by
        rw [i1.2, i2.2, hS w hw, hH m hm, sb_andn hn]
      show wp (d + 3) (mm_Al 89) cd_Word_judge _ 41 [some (.ref 6), some (.int (nI w)), some (.int (nI m))] [.int (A 27 ((nI w).toNatClampNeg) &&& (A 26 ((nI m).toNatClampNeg) ^^^ (-1)))] (gm L xs A I F P)
      rw [e]
      refine mm_WP.go [] 100 ⟨_, c_firstIn_sb (d + 1) hn _ _, ?_⟩
      rintro r m1 ⟨rfl, rfl⟩
      exact ⟨rfl, rfl⟩
end M4
end
section
/-! refusals; kind, said, has, same, part -/
section M5
variable {L : Nat} {xs : Nat → Int32} {A I : Nat → Nat → Int32} {F : Nat → Nat → Option Nat} {P : mm_M} {n : Nat} {H S : Nat → Nat → Bool}
abbrev rC (L : Nat) (xs : Nat → Int32) (A I : Nat → Nat → Int32) (F : Nat → Nat → Option Nat) (P : mm_M) (k : Nat) (w : Int32) : mm_Q := fun r m => r = some (.int w) ∧ m = gm L xs (uA A 20 k (A 20 k + 1)) I F P
abbrev rM (L : Nat) (xs : Nat → Int32) (A I : Nat → Nat → Int32) (F : Nat → Nat → Option Nat) (P : mm_M) (k : Nat) (w : Int32) : mm_Q := fun r m => r = some (.int w) ∧ m = gm L xs (uA A 50 k (A 50 k + 1)) I F P
theorem c_rf1 (d : Nat) : sp (d + 1) 72 [.ref 6, .int (-1)] (gm L xs A I F P) (rC L xs A I F P 1 (-1)) := c_refuse d (by decide) (by decide) (vp_in_iff.mpr (by decide)) rfl
theorem c_rf2 (d : Nat) : sp (d + 1) 72 [.ref 6, .int (-2)] (gm L xs A I F P) (rC L xs A I F P 2 (-2)) := c_refuse d (by decide) (by decide) (vp_in_iff.mpr (by decide)) rfl
theorem c_rf3 (d : Nat) : sp (d + 1) 72 [.ref 6, .int (-3)] (gm L xs A I F P) (rC L xs A I F P 3 (-3)) := c_refuse d (by decide) (by decide) (vp_in_iff.mpr (by decide)) rfl
theorem c_rf4 (d : Nat) : sp (d + 1) 72 [.ref 6, .int (-4)] (gm L xs A I F P) (rC L xs A I F P 4 (-4)) := c_refuse d (by decide) (by decide) (vp_in_iff.mpr (by decide)) rfl
theorem c_rf6 (d : Nat) : sp (d + 1) 72 [.ref 6, .int (-6)] (gm L xs A I F P) (rC L xs A I F P 6 (-6)) := c_refuse d (by decide) (by decide) (vp_in_iff.mpr (by decide)) rfl
theorem m_rf1 (d : Nat) : sp (d + 1) 116 [.ref 38, .int (-1)] (gm L xs A I F P) (rM L xs A I F P 1 (-1)) := m_refuse d (vp_in_iff.mpr (by decide)) rfl
theorem m_rf2 (d : Nat) : sp (d + 1) 116 [.ref 38, .int (-2)] (gm L xs A I F P) (rM L xs A I F P 2 (-2)) := m_refuse d (vp_in_iff.mpr (by decide)) rfl
theorem m_rf3 (d : Nat) : sp (d + 1) 116 [.ref 38, .int (-3)] (gm L xs A I F P) (rM L xs A I F P 3 (-3)) := m_refuse d (vp_in_iff.mpr (by decide)) rfl
theorem m_rf4 (d : Nat) : sp (d + 1) 116 [.ref 38, .int (-4)] (gm L xs A I F P) (rM L xs A I F P 4 (-4)) := m_refuse d (vp_in_iff.mpr (by decide)) rfl
theorem m_rf6 (d : Nat) : sp (d + 1) 116 [.ref 38, .int (-6)] (gm L xs A I F P) (rM L xs A I F P 6 (-6)) := m_refuse d (vp_in_iff.mpr (by decide)) rfl
/-- behind a call whose answer is given on -/
theorem on_ret {Q Q2 : mm_Q} {r : Option Value} {m : mm_M} (h : Q r m) (hq : ∀ r m, Q r m → Q2 r m) : Q2 r m := hq r m h
-- kind
theorem c_kind (d : Nat) {m : Nat} (hm : m < 90) : sp (d + 4) 83 [.ref 6, .int (nI m)] (gm L xs A I F P) (ans (gm L xs A I F P) (nI (kd m))) := by
  refine ⟨⟨_, rfl⟩, rfl, mm_WP.go [] 100 ⟨_, c_noMeaning (d + 2) _ _, ?_⟩⟩
  rintro r m1 ⟨rfl, ⟨h, rfl⟩ | ⟨-, rfl⟩⟩
  · exact absurd (ix_n (N := 90) (by decide) hm).1 h
  · refine e0 ⟨_, c_kindOf (d + 2) hm, ?_⟩
    rintro r m1 ⟨rfl, rfl⟩
    exact ⟨rfl, rfl⟩
theorem c_kind_r (d : Nat) {m : Int32} (hm : ¬ vp_in m 90) : sp (d + 4) 83 [.ref 6, .int m] (gm L xs A I F P) (rC L xs A I F P 1 (-1)) := by
  refine ⟨⟨_, rfl⟩, rfl, mm_WP.go [] 100 ⟨_, c_noMeaning (d + 2) _ _, ?_⟩⟩
  rintro r m1 ⟨rfl, ⟨h, rfl⟩ | ⟨h, rfl⟩⟩
  · refine e1 ⟨_, c_rf1 (d + 2), ?_⟩
    rintro r m1 ⟨rfl, rfl⟩
    exact ⟨rfl, rfl⟩
  · exact absurd hm h
theorem m_kind (d : Nat) {m : Nat} (hm : m < 90) : sp (d + 4) 135 [.ref 38, .int (nI m)] (gm L xs A I F P) (ans (gm L xs A I F P) (nI (kd m))) := by
  refine ⟨⟨_, rfl⟩, rfl, mm_WP.go [] 100 ⟨_, m_isMeaning (d + 1) _ _, ?_⟩⟩
  rintro r m1 ⟨rfl, ⟨-, rfl⟩ | ⟨h, rfl⟩⟩
  · refine e1 ⟨_, m_kindOf (d + 2) hm _, ?_⟩
    rintro r m1 ⟨rfl, rfl⟩
    exact ⟨rfl, rfl⟩
  · exact absurd (ix_n (N := 90) (by decide) hm).1 h
theorem m_kind_r (d : Nat) {m : Int32} (hm : ¬ vp_in m 90) : sp (d + 4) 135 [.ref 38, .int m] (gm L xs A I F P) (rM L xs A I F P 1 (-1)) := by
  refine ⟨⟨_, rfl⟩, rfl, mm_WP.go [] 100 ⟨_, m_isMeaning (d + 1) _ _, ?_⟩⟩
  rintro r m1 ⟨rfl, ⟨h, rfl⟩ | ⟨h, rfl⟩⟩
  · exact absurd h hm
  · refine e0 ⟨_, m_rf1 (d + 2), ?_⟩
    rintro r m1 ⟨rfl, rfl⟩
    exact ⟨rfl, rfl⟩
-- judge, left, plainest refused
theorem c_judge_r (d : Nat) {w m : Int32} (hh : ¬ (vp_in w 6 ∧ vp_in m 90)) : sp (d + 4) 89 [.ref 6, .int w, .int m] (gm L xs A I F P) (rC L xs A I F P 1 (-1)) := by
  refine ⟨⟨_, rfl⟩, rfl, mm_WP.go [] 100 ⟨_, c_noWord (d + 2) _ _, ?_⟩⟩
  rintro r m1 ⟨rfl, ⟨h, rfl⟩ | ⟨h, rfl⟩⟩
  · refine n1 ⟨_, c_rf1 (d + 2), ?_⟩
    rintro r m1 ⟨rfl, rfl⟩
    exact ⟨rfl, rfl⟩
  · refine n0 ⟨_, c_noMeaning (d + 2) _ _, ?_⟩
    rintro r m1 ⟨rfl, ⟨h2, rfl⟩ | ⟨h2, rfl⟩⟩
    · refine e1 ⟨_, c_rf1 (d + 2), ?_⟩
      rintro r m1 ⟨rfl, rfl⟩
      exact ⟨rfl, rfl⟩
    · exact absurd ⟨Classical.not_not.mp h, Classical.not_not.mp h2⟩ hh
theorem m_judge_r (d : Nat) {w m : Int32} (hh : ¬ (vp_in w 6 ∧ vp_in m 90)) : sp (d + 4) 143 [.ref 38, .int w, .int m] (gm L xs A I F P) (rM L xs A I F P 1 (-1)) := by
  refine ⟨⟨_, rfl⟩, rfl, mm_WP.go [22] 100 ⟨_, m_isWord (d + 1) _ _, ?_⟩⟩
  rintro r m1 ⟨rfl, ⟨h, rfl⟩ | ⟨h, rfl⟩⟩
  · refine e1 ⟨_, m_isMeaning (d + 1) _ _, ?_⟩
    rintro r m1 ⟨rfl, ⟨h2, rfl⟩ | ⟨h2, rfl⟩⟩
    · exact absurd ⟨h, h2⟩ hh
    · refine n0 ⟨_, m_rf1 (d + 2), ?_⟩
      rintro r m1 ⟨rfl, rfl⟩
      exact ⟨rfl, rfl⟩
  · refine e0 ⟨_, m_rf1 (d + 2), ?_⟩
    rintro r m1 ⟨rfl, rfl⟩
    exact ⟨rfl, rfl⟩
theorem c_left_1 (d : Nat) {w sl i : Int32} (hw : ¬ vp_in w 6) : sp (d + 4) 87 [.ref 6, .int w, .int sl, .int i] (gm L xs A I F P) (rC L xs A I F P 1 (-1)) := by
  refine ⟨⟨_, rfl⟩, rfl, mm_WP.go [] 100 ⟨_, c_noWord (d + 2) _ _, ?_⟩⟩
  rintro r m1 ⟨rfl, ⟨h, rfl⟩ | ⟨h, rfl⟩⟩
  · refine e1 ⟨_, c_rf1 (d + 2), ?_⟩
    rintro r m1 ⟨rfl, rfl⟩
    exact ⟨rfl, rfl⟩
  · exact absurd hw h
theorem c_left_4 (d : Nat) {w sl i : Int32} (hw : vp_in w 6) (hh : sl < 0 ∨ i < -1) : sp (d + 4) 87 [.ref 6, .int w, .int sl, .int i] (gm L xs A I F P) (rC L xs A I F P 4 (-4)) := by
  refine ⟨⟨_, rfl⟩, rfl, mm_WP.go [22] 100 ⟨_, c_noWord (d + 2) _ _, ?_⟩⟩
  rintro r m1 ⟨rfl, ⟨h, rfl⟩ | ⟨h, rfl⟩⟩
  · exact absurd hw h
  · have t : wp (d + 3) (mm_Al 87) cd_Word_left (rC L xs A I F P 4 (-4)) 22 [some (.ref 6), some (.int w), some (.int sl), some (.int i)] [] (gm L xs A I F P) := by
      refine mm_WP.go [] 100 ⟨_, c_rf4 (d + 2), ?_⟩
      rintro r m1 ⟨rfl, rfl⟩
      exact ⟨rfl, rfl⟩
    refine e0 ⟨fun _ => t, fun c => ⟨fun c2 => ?_, fun _ => t⟩⟩
    rcases hh with hh | hh
    · exact absurd hh c
    · exact absurd c2 (Int32.not_le.mpr hh)
theorem c_left_6 (d : Nat) {w sl i : Int32} (hw : vp_in w 6) (h1 : ¬ sl < 0) (h2 : ¬ i < -1) (h3 : 3 < sl) : sp (d + 4) 87 [.ref 6, .int w, .int sl, .int i] (gm L xs A I F P) (rC L xs A I F P 6 (-6)) := by
  refine ⟨⟨_, rfl⟩, rfl, mm_WP.go [] 100 ⟨_, c_noWord (d + 2) _ _, ?_⟩⟩
  rintro r m1 ⟨rfl, ⟨h, rfl⟩ | ⟨h, rfl⟩⟩
  · exact absurd hw h
  · refine e0 ⟨fun c => absurd c h1, fun _ => ⟨fun _ => ⟨fun c => absurd c (Int32.not_le.mpr h3), fun _ => ⟨_, c_rf6 (d + 2), ?_⟩⟩, fun c => absurd (Int32.not_lt.mp h2) c⟩⟩
    rintro r m1 ⟨rfl, rfl⟩
    exact ⟨rfl, rfl⟩
theorem m_left_1 (d : Nat) {w sl i : Int32} (hw : ¬ vp_in w 6) : sp (d + 4) 140 [.ref 38, .int w, .int sl, .int i] (gm L xs A I F P) (rM L xs A I F P 1 (-1)) := by
  refine ⟨⟨_, rfl⟩, rfl, mm_WP.go [47] 100 ⟨_, m_isWord (d + 1) _ _, ?_⟩⟩
  rintro r m1 ⟨rfl, ⟨h, rfl⟩ | ⟨h, rfl⟩⟩
  · exact absurd h hw
  · refine n0 ⟨_, m_rf1 (d + 2), ?_⟩
    rintro r m1 ⟨rfl, rfl⟩
    exact ⟨rfl, rfl⟩
theorem m_left_4 (d : Nat) {w sl i : Int32} (hw : vp_in w 6) (hh : sl < 0 ∨ i < -1) : sp (d + 4) 140 [.ref 38, .int w, .int sl, .int i] (gm L xs A I F P) (rM L xs A I F P 4 (-4)) := by
  refine ⟨⟨_, rfl⟩, rfl, mm_WP.go [22, 29, 47] 100 ⟨_, m_isWord (d + 1) _ _, ?_⟩⟩
  rintro r m1 ⟨rfl, ⟨h, rfl⟩ | ⟨h, rfl⟩⟩
  · have t : wp (d + 3) (mm_Al 140) cd_Model_left (rM L xs A I F P 4 (-4)) 22 [some (.ref 38), some (.int w), some (.int sl), some (.int i), none, none] [] (gm L xs A I F P) := by
      refine mm_WP.go [] 100 ⟨_, m_rf4 (d + 2), ?_⟩
      rintro r m1 ⟨rfl, rfl⟩
      exact ⟨rfl, rfl⟩
    refine n1 ⟨fun _ => t, fun c => ⟨fun c2 => ?_, fun _ => t⟩⟩
    rcases hh with hh | hh
    · exact absurd hh c
    · exact absurd c2 (Int32.not_le.mpr hh)
  · exact absurd hw h
theorem m_left_6 (d : Nat) {w sl i : Int32} (hw : vp_in w 6) (h1 : ¬ sl < 0) (h2 : ¬ i < -1) (h3 : 3 < sl) : sp (d + 4) 140 [.ref 38, .int w, .int sl, .int i] (gm L xs A I F P) (rM L xs A I F P 6 (-6)) := by
  refine ⟨⟨_, rfl⟩, rfl, mm_WP.go [47] 100 ⟨_, m_isWord (d + 1) _ _, ?_⟩⟩
  rintro r m1 ⟨rfl, ⟨h, rfl⟩ | ⟨h, rfl⟩⟩
  · refine n1 ⟨fun c => absurd c h1, fun _ => ⟨fun _ => ⟨fun c => absurd c (Int32.not_le.mpr h3), fun _ => ⟨_, m_rf6 (d + 2), ?_⟩⟩, fun c => absurd (Int32.not_lt.mp h2) c⟩⟩
    rintro r m1 ⟨rfl, rfl⟩
    exact ⟨rfl, rfl⟩
  · exact absurd hw h
theorem c_plainest_1 (d : Nat) {w sl : Int32} (hw : ¬ vp_in w 6) : sp (d + 4) 88 [.ref 6, .int w, .int sl] (gm L xs A I F P) (rC L xs A I F P 1 (-1)) := by
  refine ⟨⟨_, rfl⟩, rfl, mm_WP.go [] 100 ⟨_, c_noWord (d + 2) _ _, ?_⟩⟩
  rintro r m1 ⟨rfl, ⟨h, rfl⟩ | ⟨h, rfl⟩⟩
  · refine e1 ⟨_, c_rf1 (d + 2), ?_⟩
    rintro r m1 ⟨rfl, rfl⟩
    exact ⟨rfl, rfl⟩
  · exact absurd hw h
theorem c_plainest_4 (d : Nat) {w sl : Int32} (hw : vp_in w 6) (h1 : sl < 0) : sp (d + 4) 88 [.ref 6, .int w, .int sl] (gm L xs A I F P) (rC L xs A I F P 4 (-4)) := by
  refine ⟨⟨_, rfl⟩, rfl, mm_WP.go [] 100 ⟨_, c_noWord (d + 2) _ _, ?_⟩⟩
  rintro r m1 ⟨rfl, ⟨h, rfl⟩ | ⟨h, rfl⟩⟩
  · exact absurd hw h
  · refine e0 ⟨fun c => absurd h1 (Int32.not_lt.mpr c), fun _ => ⟨_, c_rf4 (d + 2), ?_⟩⟩
    rintro r m1 ⟨rfl, rfl⟩
    exact ⟨rfl, rfl⟩
theorem c_plainest_6 (d : Nat) {w sl : Int32} (hw : vp_in w 6) (h1 : ¬ sl < 0) (h3 : 3 < sl) : sp (d + 4) 88 [.ref 6, .int w, .int sl] (gm L xs A I F P) (rC L xs A I F P 6 (-6)) := by
  refine ⟨⟨_, rfl⟩, rfl, mm_WP.go [] 100 ⟨_, c_noWord (d + 2) _ _, ?_⟩⟩
  rintro r m1 ⟨rfl, ⟨h, rfl⟩ | ⟨h, rfl⟩⟩
  · exact absurd hw h
  · refine e0 ⟨fun _ => ⟨fun c => absurd c (Int32.not_le.mpr h3), fun _ => ⟨_, c_rf6 (d + 2), ?_⟩⟩, fun c => absurd (Int32.not_lt.mp h1) c⟩
    rintro r m1 ⟨rfl, rfl⟩
    exact ⟨rfl, rfl⟩
theorem m_plainest_1 (d : Nat) {w sl : Int32} (hw : ¬ vp_in w 6) : sp (d + 4) 142 [.ref 38, .int w, .int sl] (gm L xs A I F P) (rM L xs A I F P 1 (-1)) := by
  refine ⟨⟨_, rfl⟩, rfl, mm_WP.go [42] 100 ⟨_, m_isWord (d + 1) _ _, ?_⟩⟩
  rintro r m1 ⟨rfl, ⟨h, rfl⟩ | ⟨h, rfl⟩⟩
  · exact absurd h hw
  · refine n0 ⟨_, m_rf1 (d + 2), ?_⟩
    rintro r m1 ⟨rfl, rfl⟩
    exact ⟨rfl, rfl⟩
theorem m_plainest_4 (d : Nat) {w sl : Int32} (hw : vp_in w 6) (h1 : sl < 0) : sp (d + 4) 142 [.ref 38, .int w, .int sl] (gm L xs A I F P) (rM L xs A I F P 4 (-4)) := by
  refine ⟨⟨_, rfl⟩, rfl, mm_WP.go [42] 100 ⟨_, m_isWord (d + 1) _ _, ?_⟩⟩
  rintro r m1 ⟨rfl, ⟨h, rfl⟩ | ⟨h, rfl⟩⟩
  · refine n1 ⟨fun c => absurd h1 (Int32.not_lt.mpr c), fun _ => ⟨_, m_rf4 (d + 2), ?_⟩⟩
    rintro r m1 ⟨rfl, rfl⟩
    exact ⟨rfl, rfl⟩
  · exact absurd hw h
theorem m_plainest_6 (d : Nat) {w sl : Int32} (hw : vp_in w 6) (h1 : ¬ sl < 0) (h3 : 3 < sl) : sp (d + 4) 142 [.ref 38, .int w, .int sl] (gm L xs A I F P) (rM L xs A I F P 6 (-6)) := by
  refine ⟨⟨_, rfl⟩, rfl, mm_WP.go [42] 100 ⟨_, m_isWord (d + 1) _ _, ?_⟩⟩
  rintro r m1 ⟨rfl, ⟨h, rfl⟩ | ⟨h, rfl⟩⟩
  · refine n1 ⟨fun _ => ⟨fun c => absurd c (Int32.not_le.mpr h3), fun _ => ⟨_, m_rf6 (d + 2), ?_⟩⟩, fun c => absurd (Int32.not_lt.mp h1) c⟩
    rintro r m1 ⟨rfl, rfl⟩
    exact ⟨rfl, rfl⟩
  · exact absurd hw h
-- said
theorem m_saidIn_loop {d : Nat} {B : Nat × Nat} {Q : mm_Q} (hR : RS n H S A I) {w : Nat} (hw : w < 6) (hq : Q (some (.int (nI (fb_ct (fun s => S s w) n)))) (gm L xs A I F P)) : ∀ (j k : Nat) (x y : Int32), j + k = n → x = nI k → y = nI (fb_ct (fun s => S s w) k) → wp d B cd_Model_saidIn Q 4 [some (.ref 38), some (.int (nI w)), some (.int y), some (.int x)] [] (gm L xs A I F P) := by
  obtain ⟨hn, hI, hS, hH⟩ := hR
  intro j
  induction j with
  | zero =>
    intro k x y hk hx hy
    have : k = n := by omega
    subst this
    subst hy
    exact mm_WP.go [4] 100 (lp_ge hx hI (by omega) (by omega) (fun _ => hq) (fun h => absurd h (by omega)))
  | succ j ih =>
    intro k x y hk hx hy
    have hkn : k < n := by omega
    refine mm_WP.go [4] 100 (lp_ge hx hI (by omega) (by omega) (fun h => absurd h (by omega)) (fun _ => ?_))
    subst hx
    have i1 := ix_ma (c := 6) (s := k) (w := w) (N := 144) (by decide) (by omega)
    have v1 : A 43 ((6 * nI k + nI w).toNatClampNeg) = bI (S k w) := by
      rw [show (6 * nI k + nI w).toNatClampNeg = 6 * k + w from i1.2]
      exact hS k w hkn hw
    refine ⟨i1.1, fun c => ?_, fun c => ?_⟩
    · have h1 : S k w = false := bI_0 (v1 ▸ c)
      refine ih (k + 1) _ _ (by omega) (nI_1 k) ?_
      rw [hy, fb_ct_succ, h1]
      exact Int32.add_zero _
    · have h1 : S k w = true := bI_1 (v1 ▸ c)
      refine ih (k + 1) _ _ (by omega) (nI_1 k) ?_
      rw [hy, fb_ct_succ, h1]
      exact nI_1 _
theorem m_saidIn (d : Nat) (hR : RS n H S A I) {w : Nat} (hw : w < 6) : sp (d + 1) 134 [.ref 38, .int (nI w)] (gm L xs A I F P) (ans (gm L xs A I F P) (nI (fb_ct (fun s => S s w) n))) := by
  refine ⟨⟨_, rfl⟩, rfl, mm_WP.go [4] 100 ?_⟩
  exact m_saidIn_loop hR hw ⟨rfl, rfl⟩ n 0 _ _ (by omega) rfl rfl
theorem m_said (d : Nat) (hR : RS n H S A I) {w : Nat} (hw : w < 6) : sp (d + 4) 133 [.ref 38, .int (nI w)] (gm L xs A I F P) (ans (gm L xs A I F P) (nI (fb_ct (fun s => S s w) n))) := by
  refine ⟨⟨_, rfl⟩, rfl, mm_WP.go [] 100 ⟨_, m_isWord (d + 1) _ _, ?_⟩⟩
  rintro r m1 ⟨rfl, ⟨-, rfl⟩ | ⟨h, rfl⟩⟩
  · refine e1 ⟨_, m_saidIn (d + 2) hR hw, ?_⟩
    rintro r m1 ⟨rfl, rfl⟩
    exact ⟨rfl, rfl⟩
  · exact absurd (ix_n (N := 6) (by decide) hw).1 h
theorem m_said_r (d : Nat) {w : Int32} (hw : ¬ vp_in w 6) : sp (d + 4) 133 [.ref 38, .int w] (gm L xs A I F P) (rM L xs A I F P 1 (-1)) := by
  refine ⟨⟨_, rfl⟩, rfl, mm_WP.go [] 100 ⟨_, m_isWord (d + 1) _ _, ?_⟩⟩
  rintro r m1 ⟨rfl, ⟨h, rfl⟩ | ⟨h, rfl⟩⟩
  · exact absurd h hw
  · refine e0 ⟨_, m_rf1 (d + 2), ?_⟩
    rintro r m1 ⟨rfl, rfl⟩
    exact ⟨rfl, rfl⟩
theorem c_said (d : Nat) (hC : CS n H S A I) {w : Nat} (hw : w < 6) : sp (d + 4) 82 [.ref 6, .int (nI w)] (gm L xs A I F P) (ans (gm L xs A I F P) (nI (fb_ct (fun s => S s w) n))) := by
  obtain ⟨hn, hI, hS, hH⟩ := hC
  have i1 := ix_n (w := w) (N := 6) (by decide) hw
  refine ⟨⟨_, rfl⟩, rfl, mm_WP.go [22] 100 ⟨_, c_noWord (d + 2) _ _, ?_⟩⟩
  rintro r m1 ⟨rfl, ⟨h, rfl⟩ | ⟨-, rfl⟩⟩
  · exact absurd i1.1 h
  · refine e0 ⟨i1.1, ?_⟩
    show wp (d + 3) (mm_Al 82) cd_Word_said _ 22 [some (.ref 6), some (.int (nI w))] [.int (A 27 ((nI w).toNatClampNeg))] (gm L xs A I F P)
    rw [i1.2, hS w hw]
    refine mm_WP.go [] 100 ⟨_, j_bitCount (d + 2) (sb_24 hn _) _, ?_⟩
    rintro r m1 ⟨rfl, rfl⟩
    rw [od_sb hn]
    exact ⟨rfl, rfl⟩
theorem c_said_r (d : Nat) {w : Int32} (hw : ¬ vp_in w 6) : sp (d + 4) 82 [.ref 6, .int w] (gm L xs A I F P) (rC L xs A I F P 1 (-1)) := by
  refine ⟨⟨_, rfl⟩, rfl, mm_WP.go [] 100 ⟨_, c_noWord (d + 2) _ _, ?_⟩⟩
  rintro r m1 ⟨rfl, ⟨h, rfl⟩ | ⟨h, rfl⟩⟩
  · refine e1 ⟨_, c_rf1 (d + 2), ?_⟩
    rintro r m1 ⟨rfl, rfl⟩
    exact ⟨rfl, rfl⟩
  · exact absurd hw h
-- has
theorem c_has (d : Nat) (hC : CS n H S A I) {s m : Nat} (hs : s < n) (hm : m < 90) : sp (d + 4) 86 [.ref 6, .int (nI s), .int (nI m)] (gm L xs A I F P) (ans (gm L xs A I F P) (bI (H s m))) := by
  obtain ⟨hn, hI, hS, hH⟩ := hC
  have i1 := ix_n (w := m) (N := 90) (by decide) hm
  refine ⟨⟨_, rfl⟩, rfl, mm_WP.go [30] 100 ⟨_, c_noScene (d + 2) hn hI _, ?_⟩⟩
  rintro r m1 ⟨rfl, ⟨h, rfl⟩ | ⟨-, rfl⟩⟩
  · exact absurd (ix_n (by omega) hs).1 h
  · refine n0 ⟨_, c_noMeaning (d + 2) _ _, ?_⟩
    rintro r m1 ⟨rfl, ⟨h, rfl⟩ | ⟨-, rfl⟩⟩
    · exact absurd i1.1 h
    · refine e0 ⟨i1.1, ?_⟩
      show wp (d + 3) (mm_Al 86) cd_Word_has _ 30 [some (.ref 6), some (.int (nI s)), some (.int (nI m))] [.int (A 26 ((nI m).toNatClampNeg))] (gm L xs A I F P)
      rw [i1.2, hH m hm]
      have h24 := sb_24 hn (fun s => H s m)
      refine mm_WP.go [] 100 ⟨_, c_isIn (d + 2) (by omega) (by omega) _, ?_⟩
      rw [sb_tb, decide_eq_true hs, Bool.true_and]
      rintro r m1 ⟨rfl, ⟨h, rfl⟩ | ⟨h, rfl⟩⟩
      · rw [h]
        exact e1 ⟨rfl, rfl⟩
      · rw [show H s m = false by simpa using h]
        exact e0 ⟨rfl, rfl⟩
theorem c_has_r (d : Nat) (hn : n ≤ 24) (hI : I 21 2 = nI n) {s m : Int32} (hh : ¬ (vp_in s n ∧ vp_in m 90)) : sp (d + 4) 86 [.ref 6, .int s, .int m] (gm L xs A I F P) (rC L xs A I F P 1 (-1)) := by
  refine ⟨⟨_, rfl⟩, rfl, mm_WP.go [] 100 ⟨_, c_noScene (d + 2) hn hI _, ?_⟩⟩
  rintro r m1 ⟨rfl, ⟨h, rfl⟩ | ⟨h, rfl⟩⟩
  · refine n1 ⟨_, c_rf1 (d + 2), ?_⟩
    rintro r m1 ⟨rfl, rfl⟩
    exact ⟨rfl, rfl⟩
  · refine n0 ⟨_, c_noMeaning (d + 2) _ _, ?_⟩
    rintro r m1 ⟨rfl, ⟨h2, rfl⟩ | ⟨h2, rfl⟩⟩
    · refine e1 ⟨_, c_rf1 (d + 2), ?_⟩
      rintro r m1 ⟨rfl, rfl⟩
      exact ⟨rfl, rfl⟩
    · exact absurd ⟨Classical.not_not.mp h, Classical.not_not.mp h2⟩ hh
theorem m_has (d : Nat) (hR : RS n H S A I) {s m : Nat} (hs : s < n) (hm : m < 90) : sp (d + 4) 139 [.ref 38, .int (nI s), .int (nI m)] (gm L xs A I F P) (ans (gm L xs A I F P) (bI (H s m))) := by
  obtain ⟨hn, hI, hS, hH⟩ := hR
  have i2 := ix_ma (c := 90) (s := s) (w := m) (N := 2160) (by decide) (by omega)
  have v2 : A 44 ((90 * nI s + nI m).toNatClampNeg) = bI (H s m) := by
    rw [show (90 * nI s + nI m).toNatClampNeg = 90 * s + m from i2.2]
    exact hH s m hs hm
  refine ⟨⟨_, rfl⟩, rfl, mm_WP.go [] 100 ⟨_, m_isScene (d + 1) hn hI _, ?_⟩⟩
  rintro r m1 ⟨rfl, ⟨-, rfl⟩ | ⟨h, rfl⟩⟩
  · refine e1 ⟨_, m_isMeaning (d + 1) _ _, ?_⟩
    rintro r m1 ⟨rfl, ⟨-, rfl⟩ | ⟨h, rfl⟩⟩
    · refine e1 ⟨i2.1, fun c => ?_, fun c => ?_⟩
      · have h9 : H s m = false := bI_0 (v2 ▸ c)
        rw [h9]
        exact ⟨rfl, rfl⟩
      · have h9 : H s m = true := bI_1 (v2 ▸ c)
        rw [h9]
        exact ⟨rfl, rfl⟩
    · exact absurd (ix_n (N := 90) (by decide) hm).1 h
  · exact absurd (ix_n (by omega) hs).1 h
theorem m_has_r (d : Nat) (hn : n ≤ 24) (hI : I 38 0 = nI n) {s m : Int32} (hh : ¬ (vp_in s n ∧ vp_in m 90)) : sp (d + 4) 139 [.ref 38, .int s, .int m] (gm L xs A I F P) (rM L xs A I F P 1 (-1)) := by
  refine ⟨⟨_, rfl⟩, rfl, mm_WP.go [] 100 ⟨_, m_isScene (d + 1) hn hI _, ?_⟩⟩
  rintro r m1 ⟨rfl, ⟨h, rfl⟩ | ⟨h, rfl⟩⟩
  · refine e1 ⟨_, m_isMeaning (d + 1) _ _, ?_⟩
    rintro r m1 ⟨rfl, ⟨h2, rfl⟩ | ⟨h2, rfl⟩⟩
    · exact absurd ⟨h, h2⟩ hh
    · refine e0 ⟨_, m_rf1 (d + 2), ?_⟩
      rintro r m1 ⟨rfl, rfl⟩
      exact ⟨rfl, rfl⟩
  · refine e0 ⟨_, m_rf1 (d + 2), ?_⟩
    rintro r m1 ⟨rfl, rfl⟩
    exact ⟨rfl, rfl⟩
-- same, part
theorem m_partOf_loop {d : Nat} {B : Nat × Nat} {Q : mm_Q} (hR : RS n H S A I) {a b : Nat} (ha : a < 90) (hb : b < 90) : ∀ (j k : Nat) (x : Int32), j + k = n → x = nI k → Q (some (.int (fi (fun s => H s a ^^ H s b) j k))) (gm L xs A I F P) → wp d B cd_Model_partOf Q 2 [some (.ref 38), some (.int (nI a)), some (.int (nI b)), some (.int x)] [] (gm L xs A I F P) := by
  obtain ⟨hn, hI, hS, hH⟩ := hR
  intro j
  induction j with
  | zero =>
    intro k x hk hx hq
    exact mm_WP.go [2] 100 (lp_ge hx hI (by omega) (by omega) (fun _ => hq) (fun h => absurd h (by omega)))
  | succ j ih =>
    intro k x hk hx hq
    have hkn : k < n := by omega
    refine mm_WP.go [2] 100 (lp_ge hx hI (by omega) (by omega) (fun h => absurd h (by omega)) (fun _ => ?_))
    subst hx
    have i1 := ix_ma (c := 90) (s := k) (w := a) (N := 2160) (by decide) (by omega)
    have i2 := ix_ma (c := 90) (s := k) (w := b) (N := 2160) (by decide) (by omega)
    have v1 : A 44 ((90 * nI k + nI a).toNatClampNeg) = bI (H k a) := by
      rw [show (90 * nI k + nI a).toNatClampNeg = 90 * k + a from i1.2]
      exact hH k a hkn ha
    have v2 : A 44 ((90 * nI k + nI b).toNatClampNeg) = bI (H k b) := by
      rw [show (90 * nI k + nI b).toNatClampNeg = 90 * k + b from i2.2]
      exact hH k b hkn hb
    rw [fi] at hq
    refine ⟨i1.1, i2.1, fun c => ?_, fun c => ?_⟩
    · rw [v1, v2] at c
      have : (H k a ^^ H k b) = false := by
        revert c
        cases H k a <;> cases H k b <;> decide
      rw [this] at hq
      exact ih (k + 1) _ (by omega) (nI_1 k) hq
    · rw [v1, v2] at c
      have : (H k a ^^ H k b) = true := by
        revert c
        cases H k a <;> cases H k b <;> decide
      rw [this] at hq
      exact hq
theorem m_partOf (d : Nat) (hR : RS n H S A I) {a b : Nat} (ha : a < 90) (hb : b < 90) : sp (d + 1) 174 [.ref 38, .int (nI a), .int (nI b)] (gm L xs A I F P) (ans (gm L xs A I F P) (fi (fun s => H s a ^^ H s b) n 0)) := by
  refine ⟨⟨_, rfl⟩, rfl, mm_WP.go [2] 100 ?_⟩
  exact m_partOf_loop hR ha hb n 0 _ (by omega) rfl ⟨rfl, rfl⟩
theorem m_part (d : Nat) (hR : RS n H S A I) {a b : Nat} (ha : a < 90) (hb : b < 90) : sp (d + 4) 176 [.ref 38, .int (nI a), .int (nI b)] (gm L xs A I F P) (ans (gm L xs A I F P) (fi (fun s => H s a ^^ H s b) n 0)) := by
  refine ⟨⟨_, rfl⟩, rfl, mm_WP.go [] 100 ⟨_, m_isMeaning (d + 1) _ _, ?_⟩⟩
  rintro r m1 ⟨rfl, ⟨-, rfl⟩ | ⟨h, rfl⟩⟩
  · refine e1 ⟨_, m_isMeaning (d + 1) _ _, ?_⟩
    rintro r m1 ⟨rfl, ⟨-, rfl⟩ | ⟨h, rfl⟩⟩
    · refine e1 ⟨_, m_partOf (d + 2) hR ha hb, ?_⟩
      rintro r m1 ⟨rfl, rfl⟩
      exact ⟨rfl, rfl⟩
    · exact absurd (ix_n (N := 90) (by decide) hb).1 h
  · exact absurd (ix_n (N := 90) (by decide) ha).1 h
theorem m_same (d : Nat) (hR : RS n H S A I) {a b : Nat} (ha : a < 90) (hb : b < 90) : sp (d + 4) 175 [.ref 38, .int (nI a), .int (nI b)] (gm L xs A I F P) (fun r m => m = gm L xs A I F P ∧ ((∀ i, i < n → (H i a ^^ H i b) = false) ∧ r = some (.int 1) ∨ ¬ (∀ i, i < n → (H i a ^^ H i b) = false) ∧ r = some (.int 0))) := by
  have hn := hR.1
  have hf := fi_neg (p := fun s => H s a ^^ H s b) n 0 (by omega)
  refine ⟨⟨_, rfl⟩, rfl, mm_WP.go [] 100 ⟨_, m_isMeaning (d + 1) _ _, ?_⟩⟩
  rintro r m1 ⟨rfl, ⟨-, rfl⟩ | ⟨h, rfl⟩⟩
  · refine e1 ⟨_, m_isMeaning (d + 1) _ _, ?_⟩
    rintro r m1 ⟨rfl, ⟨-, rfl⟩ | ⟨h, rfl⟩⟩
    · refine e1 ⟨_, m_partOf (d + 2) hR ha hb, ?_⟩
      rintro r m1 ⟨rfl, rfl⟩
      refine ⟨fun c => ?_, fun c => ?_⟩
      · refine ⟨rfl, Or.inr ⟨fun z => ?_, rfl⟩⟩
        exact absurd (hf.mpr (fun i _ h => z i (by omega))) (Int32.not_lt.mpr c)
      · refine ⟨rfl, Or.inl ⟨fun i hi => ?_, rfl⟩⟩
        exact hf.mp (Int32.not_le.mp c) i (Nat.zero_le _) (by omega)
    · exact absurd (ix_n (N := 90) (by decide) hb).1 h
  · exact absurd (ix_n (N := 90) (by decide) ha).1 h
theorem m_same_r (d : Nat) {a b : Int32} (hh : ¬ (vp_in a 90 ∧ vp_in b 90)) : sp (d + 4) 175 [.ref 38, .int a, .int b] (gm L xs A I F P) (rM L xs A I F P 1 (-1)) := by
  refine ⟨⟨_, rfl⟩, rfl, mm_WP.go [] 100 ⟨_, m_isMeaning (d + 1) _ _, ?_⟩⟩
  rintro r m1 ⟨rfl, ⟨h, rfl⟩ | ⟨h, rfl⟩⟩
  · refine e1 ⟨_, m_isMeaning (d + 1) _ _, ?_⟩
    rintro r m1 ⟨rfl, ⟨h2, rfl⟩ | ⟨h2, rfl⟩⟩
    · exact absurd ⟨h, h2⟩ hh
    · refine e0 ⟨_, m_rf1 (d + 2), ?_⟩
      rintro r m1 ⟨rfl, rfl⟩
      exact ⟨rfl, rfl⟩
  · refine e0 ⟨_, m_rf1 (d + 2), ?_⟩
    rintro r m1 ⟨rfl, rfl⟩
    exact ⟨rfl, rfl⟩
theorem m_part_r (d : Nat) {a b : Int32} (hh : ¬ (vp_in a 90 ∧ vp_in b 90)) : sp (d + 4) 176 [.ref 38, .int a, .int b] (gm L xs A I F P) (rM L xs A I F P 1 (-1)) := by
  refine ⟨⟨_, rfl⟩, rfl, mm_WP.go [] 100 ⟨_, m_isMeaning (d + 1) _ _, ?_⟩⟩
  rintro r m1 ⟨rfl, ⟨h, rfl⟩ | ⟨h, rfl⟩⟩
  · refine e1 ⟨_, m_isMeaning (d + 1) _ _, ?_⟩
    rintro r m1 ⟨rfl, ⟨h2, rfl⟩ | ⟨h2, rfl⟩⟩
    · exact absurd ⟨h, h2⟩ hh
    · refine e0 ⟨_, m_rf1 (d + 2), ?_⟩
      rintro r m1 ⟨rfl, rfl⟩
      exact ⟨rfl, rfl⟩
  · refine e0 ⟨_, m_rf1 (d + 2), ?_⟩
    rintro r m1 ⟨rfl, rfl⟩
    exact ⟨rfl, rfl⟩
theorem c_same (d : Nat) (hC : CS n H S A I) {a b : Nat} (ha : a < 90) (hb : b < 90) : sp (d + 4) 108 [.ref 6, .int (nI a), .int (nI b)] (gm L xs A I F P) (fun r m => m = gm L xs A I F P ∧ ((∀ i, i < n → (H i a ^^ H i b) = false) ∧ r = some (.int 1) ∨ ¬ (∀ i, i < n → (H i a ^^ H i b) = false) ∧ r = some (.int 0))) := by
  obtain ⟨hn, hI, hS, hH⟩ := hC
  have i1 := ix_n (w := a) (N := 90) (by decide) ha
  have i2 := ix_n (w := b) (N := 90) (by decide) hb
  have e : (A 26 ((nI a).toNatClampNeg) = A 26 ((nI b).toNatClampNeg)) ↔ (∀ i, i < n → (H i a ^^ H i b) = false) := by
    rw [i1.2, i2.2, hH a ha, hH b hb, sb_nI hn]
    refine ⟨fun h i hi => ?_, fun h i hi => ?_⟩
    · rw [h i hi]; simp
    · simpa using h i hi
  refine ⟨⟨_, rfl⟩, rfl, mm_WP.go [] 100 ⟨_, c_noMeaning (d + 2) _ _, ?_⟩⟩
  rintro r m1 ⟨rfl, ⟨h, rfl⟩ | ⟨-, rfl⟩⟩
  · exact absurd i1.1 h
  · refine n0 ⟨_, c_noMeaning (d + 2) _ _, ?_⟩
    rintro r m1 ⟨rfl, ⟨h, rfl⟩ | ⟨-, rfl⟩⟩
    · exact absurd i2.1 h
    · refine e0 ⟨i1.1, i2.1, fun c => ?_, fun c => ?_⟩
      · exact ⟨rfl, Or.inr ⟨fun z => c (e.mpr z), rfl⟩⟩
      · exact ⟨rfl, Or.inl ⟨e.mp c, rfl⟩⟩
theorem c_part (d : Nat) (hC : CS n H S A I) {a b : Nat} (ha : a < 90) (hb : b < 90) : sp (d + 4) 109 [.ref 6, .int (nI a), .int (nI b)] (gm L xs A I F P) (ans (gm L xs A I F P) (fi (fun s => H s a ^^ H s b) n 0)) := by
  obtain ⟨hn, hI, hS, hH⟩ := hC
  have i1 := ix_n (w := a) (N := 90) (by decide) ha
  have i2 := ix_n (w := b) (N := 90) (by decide) hb
  refine ⟨⟨_, rfl⟩, rfl, mm_WP.go [39] 100 ⟨_, c_noMeaning (d + 2) _ _, ?_⟩⟩
  rintro r m1 ⟨rfl, ⟨h, rfl⟩ | ⟨-, rfl⟩⟩
  · exact absurd i1.1 h
  · refine n0 ⟨_, c_noMeaning (d + 2) _ _, ?_⟩
    rintro r m1 ⟨rfl, ⟨h, rfl⟩ | ⟨-, rfl⟩⟩
    · exact absurd i2.1 h
    · refine e0 ⟨i1.1, i2.1, ?_⟩
      show wp (d + 3) (mm_Al 109) cd_Word_part _ 39 [some (.ref 6), some (.int (nI a)), some (.int (nI b))] [.int (A 26 ((nI a).toNatClampNeg) ^^^ A 26 ((nI b).toNatClampNeg))] (gm L xs A I F P)
      rw [i1.2, i2.2, hH a ha, hH b hb, sb_xor hn]
      refine mm_WP.go [] 100 ⟨_, c_firstIn_sb (d + 1) hn _ _, ?_⟩
      rintro r m1 ⟨rfl, rfl⟩
      exact ⟨rfl, rfl⟩
theorem c_same_r (d : Nat) {a b : Int32} (hh : ¬ (vp_in a 90 ∧ vp_in b 90)) : sp (d + 4) 108 [.ref 6, .int a, .int b] (gm L xs A I F P) (rC L xs A I F P 1 (-1)) := by
  refine ⟨⟨_, rfl⟩, rfl, mm_WP.go [] 100 ⟨_, c_noMeaning (d + 2) _ _, ?_⟩⟩
  rintro r m1 ⟨rfl, ⟨h, rfl⟩ | ⟨h, rfl⟩⟩
  · refine n1 ⟨_, c_rf1 (d + 2), ?_⟩
    rintro r m1 ⟨rfl, rfl⟩
    exact ⟨rfl, rfl⟩
  · refine n0 ⟨_, c_noMeaning (d + 2) _ _, ?_⟩
    rintro r m1 ⟨rfl, ⟨h2, rfl⟩ | ⟨h2, rfl⟩⟩
    · refine e1 ⟨_, c_rf1 (d + 2), ?_⟩
      rintro r m1 ⟨rfl, rfl⟩
      exact ⟨rfl, rfl⟩
    · exact absurd ⟨Classical.not_not.mp h, Classical.not_not.mp h2⟩ hh
theorem c_part_r (d : Nat) {a b : Int32} (hh : ¬ (vp_in a 90 ∧ vp_in b 90)) : sp (d + 4) 109 [.ref 6, .int a, .int b] (gm L xs A I F P) (rC L xs A I F P 1 (-1)) := by
  refine ⟨⟨_, rfl⟩, rfl, mm_WP.go [] 100 ⟨_, c_noMeaning (d + 2) _ _, ?_⟩⟩
  rintro r m1 ⟨rfl, ⟨h, rfl⟩ | ⟨h, rfl⟩⟩
  · refine n1 ⟨_, c_rf1 (d + 2), ?_⟩
    rintro r m1 ⟨rfl, rfl⟩
    exact ⟨rfl, rfl⟩
  · refine n0 ⟨_, c_noMeaning (d + 2) _ _, ?_⟩
    rintro r m1 ⟨rfl, ⟨h2, rfl⟩ | ⟨h2, rfl⟩⟩
    · refine e1 ⟨_, c_rf1 (d + 2), ?_⟩
      rintro r m1 ⟨rfl, rfl⟩
      exact ⟨rfl, rfl⟩
    · exact absurd ⟨Classical.not_not.mp h, Classical.not_not.mp h2⟩ hh
end M5
end
section
/-! never, two: loops over pairs of meanings -/
def c2i (q : Nat → Nat → Bool) (a : Nat) : Nat → Nat → Nat
  | 0, _ => 0
  | j + 1, b => (if q a b then 1 else 0) + c2i q a j (b + 1)
def c2 (q : Nat → Nat → Bool) : Nat → Nat → Nat
  | 0, _ => 0
  | j + 1, a => c2i q a (89 - a) (a + 1) + c2 q j (a + 1)
def s2i (q : Nat → Nat → Bool) (a : Nat) (z : Int32) : Nat → Nat → Int32
  | 0, _ => z
  | j + 1, b => if q a b then nI (100 * a + b) else s2i q a z j (b + 1)
def s2 (q : Nat → Nat → Bool) : Nat → Nat → Int32
  | 0, _ => -9
  | j + 1, a => s2i q a (s2 q j (a + 1)) (89 - a) (a + 1)
/-- downward: pairs by the greater -/
def d2 (q : Nat → Nat → Bool) : Nat → Nat
  | 0 => 0
  | a + 1 => d2 q a + fb_ct (q a) a
theorem c2i_ct (q : Nat → Nat → Bool) (a : Nat) : ∀ j b, c2i q a j b = fb_ct (fun t => q a (b + t)) j
  | 0, _ => rfl
  | j + 1, b => by
    rw [c2i, c2i_ct q a j (b + 1), Nat.add_comm j 1, fb_ct_split, fb_ct_succ, fb_ct, Nat.zero_add]
    congr 1
    apply fb_ct_cong
    intro k _
    rw [show b + 1 + k = b + (1 + k) by omega]
/-- the same by a bound N -/
def c3 (q : Nat → Nat → Bool) (N : Nat) : Nat → Nat → Nat
  | 0, _ => 0
  | j + 1, a => fb_ct (fun t => q a (a + 1 + t)) (N - 1 - a) + c3 q N j (a + 1)
theorem c2_c3 (q : Nat → Nat → Bool) : ∀ j a, c2 q j a = c3 q 90 j a
  | 0, _ => rfl
  | j + 1, a => by rw [c2, c3, c2i_ct, c2_c3 q j (a + 1)]
theorem c3_step (q : Nat → Nat → Bool) (N : Nat) : ∀ j a, j + a = N → c3 q (N + 1) j a = c3 q N j a + fb_ct (fun t => q (a + t) N) j
  | 0, _, _ => rfl
  | j + 1, a, h => by
    rw [c3, c3, c3_step q N j (a + 1) (by omega), show N + 1 - 1 - a = (N - 1 - a) + 1 by omega, fb_ct_succ, show a + 1 + (N - 1 - a) = N by omega, Nat.add_comm j 1, fb_ct_split, fb_ct_succ, fb_ct]
    have : fb_ct (fun t => q (a + 1 + t) N) j = fb_ct (fun k => q (a + (1 + k)) N) j := fb_ct_cong (fun k _ => by rw [show a + 1 + k = a + (1 + k) by omega])
    rw [this]
    simp only [Nat.add_zero]
    omega
theorem c3_last (q : Nat → Nat → Bool) (N : Nat) : ∀ j a, j + a = N → c3 q (N + 1) (j + 1) a = c3 q (N + 1) j a
  | 0, a, h => by
    rw [c3, c3, c3, show N + 1 - 1 - a = 0 by omega]
    rfl
  | j + 1, a, h => by
    rw [c3, c3_last q N j (a + 1) (by omega)]
    conv => rhs; rw [c3]
theorem c3_d2 (q : Nat → Nat → Bool) (hs : ∀ a b, q a b = q b a) : ∀ N, c3 q N N 0 = d2 q N
  | 0 => rfl
  | N + 1 => by
    rw [c3_last q N N 0 rfl, c3_step q N N 0 rfl, c3_d2 q hs N, d2]
    congr 1
    apply fb_ct_cong
    intro k _
    rw [Nat.zero_add]
    exact hs k N
theorem c2i_le (q : Nat → Nat → Bool) (a : Nat) (j b : Nat) : c2i q a j b ≤ j := by rw [c2i_ct]; exact fb_ct_le _ _
theorem c2_le (q : Nat → Nat → Bool) : ∀ j a, c2 q j a ≤ 89 * j
  | 0, _ => Nat.le_refl _
  | j + 1, a => by
    have h1 := c2i_le q a (89 - a) (a + 1)
    have h2 := c2_le q j (a + 1)
    rw [c2]
    omega
/-- no scene parts them -/
def qs (n : Nat) (H : Nat → Nat → Bool) (a b : Nat) : Bool := decide (sb n (fun s => H s a) = sb n (fun s => H s b))
/-- the two meanings of a word -/
def qt (n : Nat) (H S : Nat → Nat → Bool) (w a b : Nat) : Bool := decide (sb n (fun s => S s w && !(H s a || H s b)) = 0) && (!Lp n H S w 0 a && !Lp n H S w 0 b)
section M6
variable {L : Nat} {xs : Nat → Int32} {A I : Nat → Nat → Int32} {F : Nat → Nat → Option Nat} {P : mm_M} {n : Nat} {H S : Nat → Nat → Bool}
theorem c_unp_in {d : Nat} {B : Nat × Nat} {Q : mm_Q} (hC : CS n H S A I) {a : Nat} (ha : a < 90) (K : Nat) (next : ∀ (y x3 : Int32), y = nI K → wp d B cd_Told_countUnparted Q 44 [some (.ref 21), some (.int y), some (.int (nI a)), some (.int x3)] [] (gm L xs A I F P)) :
    ∀ (j b c : Nat) (y x : Int32), j + b = 90 → a < b → x = nI b → y = nI c → c + c2i (qs n H) a j b = K → wp d B cd_Told_countUnparted Q 14 [some (.ref 21), some (.int y), some (.int (nI a)), some (.int x)] [] (gm L xs A I F P) := by
  obtain ⟨hn, hI, hS, hH⟩ := hC
  intro j
  induction j with
  | zero =>
    intro b c y x hj hab hx hy hc
    refine mm_WP.go [14, 44] 100 (lp_ge (N := 90) hx rfl (by omega) (by omega) (fun _ => ?_) (fun h => absurd h (by omega)))
    exact next y x (by rw [hy, ← hc]; rfl)
  | succ j ih =>
    intro b c y x hj hab hx hy hc
    have hb : b < 90 := by omega
    refine mm_WP.go [14, 44] 100 (lp_ge (N := 90) hx rfl (by omega) (by omega) (fun h => absurd h (by omega)) (fun _ => ?_))
    subst hx
    have i1 := ix_n (w := a) (N := 90) (by decide) ha
    have i2 := ix_n (w := b) (N := 90) (by decide) hb
    have h1 := sb_24 hn (fun s => H s a)
    have h2 := sb_24 hn (fun s => H s b)
    have e : (A 26 ((nI a).toNatClampNeg) = A 26 ((nI b).toNatClampNeg)) ↔ qs n H a b = true := by
      rw [i1.2, i2.2, hH a ha, hH b hb, nI_eq (by omega) (by omega)]
      unfold qs
      exact decide_eq_true_iff.symm
    rw [c2i] at hc
    refine ⟨i1.1, i2.1, fun z => ?_, fun z => ?_⟩
    · rw [if_neg (fun q => z (e.mpr q))] at hc
      exact ih (b + 1) c _ _ (by omega) (by omega) (nI_1 b) hy (by omega)
    · rw [if_pos (e.mp z)] at hc
      exact ih (b + 1) (c + 1) _ _ (by omega) (by omega) (nI_1 b) (by rw [hy]; exact nI_1 c) (by omega)
theorem c_unp_out {d : Nat} {B : Nat × Nat} {Q : mm_Q} (hC : CS n H S A I) (K : Nat) (hq : Q (some (.int (nI K))) (gm L xs A I F P)) :
    ∀ (j a c : Nat) (y x : Int32) (u : Option Value), j + a = 90 → x = nI a → y = nI c → c + c2 (qs n H) j a = K → wp d B cd_Told_countUnparted Q 4 [some (.ref 21), some (.int y), some (.int x), u] [] (gm L xs A I F P) := by
  intro j
  induction j with
  | zero =>
    intro a c y x u hj hx hy hc
    refine mm_WP.go [4] 100 (lp_ge (N := 90) hx rfl (by omega) (by omega) (fun _ => ?_) (fun h => absurd h (by omega)))
    rw [hy, show c = K by rw [← hc]; rfl]
    exact hq
  | succ j ih =>
    intro a c y x u hj hx hy hc
    refine mm_WP.go [4, 14] 100 (lp_ge (N := 90) hx rfl (by omega) (by omega) (fun h => absurd h (by omega)) (fun _ => ?_))
    subst hx
    rw [c2] at hc
    refine c_unp_in hC (by omega) (c + c2i (qs n H) a (89 - a) (a + 1)) ?_ (89 - a) (a + 1) c _ _ (by omega) (by omega) (nI_1 a) hy rfl
    intro y2 x3 hy2
    exact mm_WP.go [4] 100 (ih (a + 1) (c + c2i (qs n H) a (89 - a) (a + 1)) _ _ _ (by omega) (nI_1 a) hy2 (by omega))
theorem c_never (d : Nat) (hC : CS n H S A I) : sp (d + 4) 107 [.ref 6] (gm L xs A I F P) (ans (gm L xs A I F P) (nI (c2 (qs n H) 90 0))) := by
  have h : sp (d + 3) 65 [.ref 21] (gm L xs A I F P) (ans (gm L xs A I F P) (nI (c2 (qs n H) 90 0))) := by
    refine ⟨⟨_, rfl⟩, rfl, mm_WP.go [4] 100 ?_⟩
    exact c_unp_out hC (c2 (qs n H) 90 0) ⟨rfl, rfl⟩ 90 0 0 _ _ none rfl rfl rfl (Nat.zero_add _)
  refine ⟨⟨_, rfl⟩, rfl, mm_WP.go [] 100 ⟨_, h, ?_⟩⟩
  rintro r m1 ⟨rfl, rfl⟩
  exact ⟨rfl, rfl⟩
theorem m_nev_in {d : Nat} {B : Nat × Nat} {Q : mm_Q} (hR : RS n H S A I) {a : Nat} (ha : a < 90) (K : Nat) (next : ∀ (y x3 : Int32), y = nI K → wp (d + 1) B cd_Model_never Q 40 [some (.ref 38), some (.int y), some (.int (nI a)), some (.int x3)] [] (gm L xs A I F P)) :
    ∀ (j b : Nat) (y x : Int32) (c : Nat), j + b = a → x = nI b → y = nI (c + fb_ct (qs n H a) b) → c + fb_ct (qs n H a) a = K → wp (d + 1) B cd_Model_never Q 12 [some (.ref 38), some (.int y), some (.int (nI a)), some (.int x)] [] (gm L xs A I F P) := by
  have hn := hR.1
  intro j
  induction j with
  | zero =>
    intro b y x c hj hx hy hc
    refine mm_WP.go [12, 40] 100 (lp_ge (N := a) hx rfl (by omega) (by omega) (fun _ => ?_) (fun h => absurd h (by omega)))
    have : b = a := by omega
    subst this
    exact next y x (by rw [hy, hc])
  | succ j ih =>
    intro b y x c hj hx hy hc
    have hb : b < 90 := by omega
    refine mm_WP.go [12, 40] 100 (lp_ge (N := a) hx rfl (by omega) (by omega) (fun h => absurd h (by omega)) (fun _ => ?_))
    subst hx
    have hf := fi_neg (p := fun s => H s a ^^ H s b) n 0 (by omega)
    have e : (fi (fun s => H s a ^^ H s b) n 0 < 0) ↔ qs n H a b = true := by
      rw [hf]
      unfold qs
      rw [decide_eq_true_iff, sb_inj]
      refine ⟨fun h i hi => ?_, fun h i _ hi => ?_⟩
      · simpa using h i (Nat.zero_le _) (by omega)
      · rw [h i (by omega)]; simp
    refine ⟨_, m_partOf d hR ha hb, ?_⟩
    rintro r m1 ⟨rfl, rfl⟩
    refine ⟨fun z => ?_, fun z => ?_⟩
    · refine ih (b + 1) _ _ c (by omega) (nI_1 b) ?_ hc
      rw [hy, fb_ct_succ, if_neg (fun q => absurd (e.mpr q) (Int32.not_lt.mpr z))]
      exact Int32.add_zero _
    · refine ih (b + 1) _ _ c (by omega) (nI_1 b) ?_ hc
      rw [hy, fb_ct_succ, if_pos (e.mp (Int32.not_le.mp z)), ← Nat.add_assoc]
      exact nI_1 _
theorem m_nev_out {d : Nat} {B : Nat × Nat} {Q : mm_Q} (hR : RS n H S A I) (hq : Q (some (.int (nI (d2 (qs n H) 90)))) (gm L xs A I F P)) :
    ∀ (j a : Nat) (y x : Int32) (u : Option Value), j + a = 90 → x = nI a → y = nI (d2 (qs n H) a) → wp (d + 1) B cd_Model_never Q 4 [some (.ref 38), some (.int y), some (.int x), u] [] (gm L xs A I F P) := by
  intro j
  induction j with
  | zero =>
    intro a y x u hj hx hy
    refine mm_WP.go [4] 100 (lp_ge (N := 90) hx rfl (by omega) (by omega) (fun h => ?_) (fun h => absurd h (by omega)))
    subst h
    rw [hy]
    exact hq
  | succ j ih =>
    intro a y x u hj hx hy
    refine mm_WP.go [4, 12] 100 (lp_ge (N := 90) hx rfl (by omega) (by omega) (fun h => absurd h (by omega)) (fun _ => ?_))
    subst hx
    refine m_nev_in hR (by omega) (d2 (qs n H) (a + 1)) ?_ a 0 _ _ (d2 (qs n H) a) (by omega) rfl hy rfl
    intro y2 x3 hy2
    exact mm_WP.go [4] 100 (ih (a + 1) _ _ _ (by omega) (nI_1 a) hy2)
theorem m_never (d : Nat) (hR : RS n H S A I) : sp (d + 4) 173 [.ref 38] (gm L xs A I F P) (ans (gm L xs A I F P) (nI (c2 (qs n H) 90 0))) := by
  refine ⟨⟨_, rfl⟩, rfl, mm_WP.go [4] 100 ?_⟩
  refine m_nev_out (d := d + 2) hR ?_ 90 0 _ _ none rfl rfl rfl
  rw [c2_c3, c3_d2]
  · exact ⟨rfl, rfl⟩
  · intro a b
    unfold qs
    exact decide_eq_decide.mpr eq_comm
end M6
end
section
/-! two -/
def an0 (p : Nat → Bool) : Nat → Nat → Bool
  | 0, _ => true
  | j + 1, k => !p k && an0 p j (k + 1)
section M7
variable {L : Nat} {xs : Nat → Int32} {A I : Nat → Nat → Int32} {F : Nat → Nat → Option Nat} {P : mm_M} {n : Nat} {H S : Nat → Nat → Bool}
theorem Lp0 {w m : Nat} : ((lf n H S w m : Int) ≤ (0 : Int32).toInt) ↔ Lp n H S w 0 m = true := Lp_iff.symm
theorem c_isTwo (d : Nat) (hC : CS n H S A I) {w a b : Nat} (hw : w < 6) (ha : a < 90) (hb : b < 90) : sp (d + 3) 59 [.ref 21, .int (nI w), .int (nI a), .int (nI b)] (gm L xs A I F P) (yes (gm L xs A I F P) (qt n H S w a b = true)) := by
  have hC2 := hC
  obtain ⟨hn, hI, hS, hH⟩ := hC
  have i1 := ix_n (w := w) (N := 6) (by decide) hw
  have i2 := ix_n (w := a) (N := 90) (by decide) ha
  have i3 := ix_n (w := b) (N := 90) (by decide) hb
  have e : A 27 ((nI w).toNatClampNeg) &&& ((A 26 ((nI a).toNatClampNeg) ||| A 26 ((nI b).toNatClampNeg)) ^^^ (-1)) = nI (sb n (fun s => S s w && !(H s a || H s b))) := by
    rw [i1.2, i2.2, i3.2, hS w hw, hH a ha, hH b hb, sb_or hn, sb_andn hn]
  have h24 := sb_24 hn (fun s => S s w && !(H s a || H s b))
  have e2 : (nI (sb n (fun s => S s w && !(H s a || H s b))) = 0) ↔ sb n (fun s => S s w && !(H s a || H s b)) = 0 := by
    rw [show (0 : Int32) = nI 0 from rfl, nI_eq (by omega) (by omega)]
  refine ⟨⟨_, rfl⟩, rfl, mm_WP.go [49] 100 ⟨i1.1, i2.1, i3.1, ?_⟩⟩
  have no : qt n H S w a b = false → wp (d + 2) (mm_Al 59) cd_Told_isTwo (yes (gm L xs A I F P) (qt n H S w a b = true)) 49 [some (.ref 21), some (.int (nI w)), some (.int (nI a)), some (.int (nI b))] [] (gm L xs A I F P) := by
    intro h
    exact mm_WP.go [] 100 ⟨rfl, rfl, Or.inr ⟨fun z => absurd (h.symm.trans z) (by decide), rfl⟩⟩
  refine ⟨fun c => ?_, fun c => ?_⟩
  · refine no ?_
    unfold qt
    rw [decide_eq_false (fun z => c (e.trans (e2.mpr z)))]
    rfl
  · have h1 := e2.mp (e.symm.trans c)
    refine ⟨_, c_isLeft d hC2 hw ha 0, ?_⟩
    rintro r m1 ⟨rfl, ⟨h, rfl⟩ | ⟨h, rfl⟩⟩
    · refine n1 (no ?_)
      unfold qt
      rw [Lp0.mp h]
      simp
    · refine n0 ⟨_, c_isLeft d hC2 hw hb 0, ?_⟩
      rintro r m1 ⟨rfl, ⟨h2, rfl⟩ | ⟨h2, rfl⟩⟩
      · refine n1 (no ?_)
        unfold qt
        rw [Lp0.mp h2]
        simp
      · refine n0 ⟨rfl, rfl, Or.inl ⟨?_, rfl⟩⟩
        unfold qt
        rw [decide_eq_true h1, show Lp n H S w 0 a = false by simpa using fun z => h (Lp0.mpr z), show Lp n H S w 0 b = false by simpa using fun z => h2 (Lp0.mpr z)]
        rfl
theorem c_ct_in {d : Nat} {B : Nat × Nat} {Q : mm_Q} (hC : CS n H S A I) {w a : Nat} (hw : w < 6) (ha : a < 90) (K : Nat) (next : ∀ (y x4 : Int32), y = nI K → wp (d + 3) B cd_Told_countTwos Q 42 [some (.ref 21), some (.int (nI w)), some (.int y), some (.int (nI a)), some (.int x4)] [] (gm L xs A I F P)) :
    ∀ (j b c : Nat) (y x : Int32), j + b = 90 → x = nI b → y = nI c → c + c2i (qt n H S w) a j b = K → wp (d + 3) B cd_Told_countTwos Q 15 [some (.ref 21), some (.int (nI w)), some (.int y), some (.int (nI a)), some (.int x)] [] (gm L xs A I F P) := by
  intro j
  induction j with
  | zero =>
    intro b c y x hj hx hy hc
    refine mm_WP.go [15, 42] 100 (lp_ge (N := 90) hx rfl (by omega) (by omega) (fun _ => ?_) (fun h => absurd h (by omega)))
    exact next y x (by rw [hy, ← hc]; rfl)
  | succ j ih =>
    intro b c y x hj hx hy hc
    have hb : b < 90 := by omega
    refine mm_WP.go [15, 42] 100 (lp_ge (N := 90) hx rfl (by omega) (by omega) (fun h => absurd h (by omega)) (fun _ => ?_))
    subst hx
    rw [c2i] at hc
    refine ⟨_, c_isTwo d hC hw ha hb, ?_⟩
    rintro r m1 ⟨rfl, ⟨h, rfl⟩ | ⟨h, rfl⟩⟩
    · rw [if_pos h] at hc
      exact e1 (ih (b + 1) (c + 1) _ _ (by omega) (nI_1 b) (by rw [hy]; exact nI_1 c) (by omega))
    · rw [if_neg h] at hc
      exact e0 (ih (b + 1) c _ _ (by omega) (nI_1 b) hy (by omega))
theorem c_ct_out {d : Nat} {B : Nat × Nat} {Q : mm_Q} (hC : CS n H S A I) {w : Nat} (hw : w < 6) (K : Nat) (hq : Q (some (.int (nI K))) (gm L xs A I F P)) :
    ∀ (j a c : Nat) (y x : Int32) (u : Option Value), j + a = 90 → x = nI a → y = nI c → c + c2 (qt n H S w) j a = K → wp (d + 3) B cd_Told_countTwos Q 4 [some (.ref 21), some (.int (nI w)), some (.int y), some (.int x), u] [] (gm L xs A I F P) := by
  intro j
  induction j with
  | zero =>
    intro a c y x u hj hx hy hc
    refine mm_WP.go [4] 100 (lp_ge (N := 90) hx rfl (by omega) (by omega) (fun _ => ?_) (fun h => absurd h (by omega)))
    rw [hy, show c = K by rw [← hc]; rfl]
    exact hq
  | succ j ih =>
    intro a c y x u hj hx hy hc
    refine mm_WP.go [4, 15] 100 (lp_ge (N := 90) hx rfl (by omega) (by omega) (fun h => absurd h (by omega)) (fun _ => ?_))
    subst hx
    rw [c2] at hc
    refine c_ct_in hC hw (by omega) (c + c2i (qt n H S w) a (89 - a) (a + 1)) ?_ (89 - a) (a + 1) c _ _ (by omega) (nI_1 a) hy rfl
    intro y2 x3 hy2
    exact mm_WP.go [4] 100 (ih (a + 1) (c + c2i (qt n H S w) a (89 - a) (a + 1)) _ _ _ (by omega) (nI_1 a) hy2 (by omega))
theorem c_ft_in {d : Nat} {B : Nat × Nat} {Q : mm_Q} (hC : CS n H S A I) {w a : Nat} (hw : w < 6) (ha : a < 90) (z : Int32) (next : ∀ (x4 : Int32), Q (some (.int z)) (gm L xs A I F P) → wp (d + 3) B cd_Told_firstTwo Q 41 [some (.ref 21), some (.int (nI w)), some (.int (nI a)), some (.int x4)] [] (gm L xs A I F P)) :
    ∀ (j b : Nat) (x : Int32), j + b = 90 → x = nI b → Q (some (.int (s2i (qt n H S w) a z j b))) (gm L xs A I F P) → wp (d + 3) B cd_Told_firstTwo Q 12 [some (.ref 21), some (.int (nI w)), some (.int (nI a)), some (.int x)] [] (gm L xs A I F P) := by
  intro j
  induction j with
  | zero =>
    intro b x hj hx hq
    refine mm_WP.go [12, 41] 100 (lp_ge (N := 90) hx rfl (by omega) (by omega) (fun _ => ?_) (fun h => absurd h (by omega)))
    exact next x hq
  | succ j ih =>
    intro b x hj hx hq
    have hb : b < 90 := by omega
    refine mm_WP.go [12, 41] 100 (lp_ge (N := 90) hx rfl (by omega) (by omega) (fun h => absurd h (by omega)) (fun _ => ?_))
    subst hx
    rw [s2i] at hq
    refine ⟨_, c_isTwo d hC hw ha hb, ?_⟩
    rintro r m1 ⟨rfl, ⟨h, rfl⟩ | ⟨h, rfl⟩⟩
    · rw [if_pos h] at hq
      refine e1 ?_
      have e : (100 : Int32) * nI a + nI b = nI (100 * a + b) := by rw [show (100 : Int32) = nI 100 from rfl, pk_mul, nI_add]
      rw [← e] at hq
      exact hq
    · rw [if_neg h] at hq
      exact e0 (ih (b + 1) _ (by omega) (nI_1 b) hq)
theorem c_ft_out {d : Nat} {B : Nat × Nat} {Q : mm_Q} (hC : CS n H S A I) {w : Nat} (hw : w < 6) :
    ∀ (j a : Nat) (x : Int32) (u : Option Value), j + a = 90 → x = nI a → Q (some (.int (s2 (qt n H S w) j a))) (gm L xs A I F P) → wp (d + 3) B cd_Told_firstTwo Q 2 [some (.ref 21), some (.int (nI w)), some (.int x), u] [] (gm L xs A I F P) := by
  intro j
  induction j with
  | zero =>
    intro a x u hj hx hq
    exact mm_WP.go [2] 100 (lp_ge (N := 90) hx rfl (by omega) (by omega) (fun _ => hq) (fun h => absurd h (by omega)))
  | succ j ih =>
    intro a x u hj hx hq
    refine mm_WP.go [2, 12] 100 (lp_ge (N := 90) hx rfl (by omega) (by omega) (fun h => absurd h (by omega)) (fun _ => ?_))
    subst hx
    rw [s2] at hq
    refine c_ft_in hC hw (by omega) (s2 (qt n H S w) j (a + 1)) ?_ (89 - a) (a + 1) _ (by omega) (nI_1 a) hq
    intro x4 hq2
    exact mm_WP.go [2] 100 (ih (a + 1) _ _ (by omega) (nI_1 a) hq2)
/-- two, not refused: how many, the first -/
def v2 (n : Nat) (H S : Nat → Nat → Bool) (w : Nat) (wh : Int32) : Int32 := if wh = 0 then nI (c2 (qt n H S w) 90 0) else s2 (qt n H S w) 90 0
theorem c_two (d : Nat) (hC : CS n H S A I) {w : Nat} (hw : w < 6) {wh : Int32} (hwh : wh = 0 ∨ wh = 1) : sp (d + 5) 98 [.ref 6, .int (nI w), .int wh] (gm L xs A I F P) (ans (gm L xs A I F P) (v2 n H S w wh)) := by
  have h1 : sp (d + 4) 58 [.ref 21, .int (nI w)] (gm L xs A I F P) (ans (gm L xs A I F P) (nI (c2 (qt n H S w) 90 0))) := by
    refine ⟨⟨_, rfl⟩, rfl, mm_WP.go [4] 100 ?_⟩
    exact c_ct_out (d := d) hC hw (c2 (qt n H S w) 90 0) ⟨rfl, rfl⟩ 90 0 0 _ _ none rfl rfl rfl (Nat.zero_add _)
  have h2 : sp (d + 4) 60 [.ref 21, .int (nI w)] (gm L xs A I F P) (ans (gm L xs A I F P) (s2 (qt n H S w) 90 0)) := by
    refine ⟨⟨_, rfl⟩, rfl, mm_WP.go [2] 100 ?_⟩
    exact c_ft_out (d := d) hC hw 90 0 _ none rfl rfl ⟨rfl, rfl⟩
  refine ⟨⟨_, rfl⟩, rfl, mm_WP.go [29] 100 ⟨_, c_noWord (d + 3) _ _, ?_⟩⟩
  rintro r m1 ⟨rfl, ⟨h, rfl⟩ | ⟨-, rfl⟩⟩
  · exact absurd (ix_n (N := 6) (by decide) hw).1 h
  · have t : wp (d + 4) (mm_Al 98) cd_Word_two (ans (gm L xs A I F P) (v2 n H S w wh)) 29 [some (.ref 6), some (.int (nI w)), some (.int wh)] [] (gm L xs A I F P) := by
      refine mm_WP.go [] 100 ⟨fun c => ⟨_, h2, ?_⟩, fun c => ⟨_, h1, ?_⟩⟩
      · rintro r m1 ⟨rfl, rfl⟩
        unfold v2
        rw [if_neg c]
        exact ⟨rfl, rfl⟩
      · rintro r m1 ⟨rfl, rfl⟩
        unfold v2
        rw [if_pos c]
        exact ⟨rfl, rfl⟩
    refine e0 ⟨fun _ => t, fun c => ⟨fun _ => t, fun c2 => ?_⟩⟩
    rcases hwh with h | h
    · exact absurd h c
    · exact absurd h c2
theorem c_two_1 (d : Nat) {w wh : Int32} (hw : ¬ vp_in w 6) : sp (d + 5) 98 [.ref 6, .int w, .int wh] (gm L xs A I F P) (rC L xs A I F P 1 (-1)) := by
  refine ⟨⟨_, rfl⟩, rfl, mm_WP.go [] 100 ⟨_, c_noWord (d + 3) _ _, ?_⟩⟩
  rintro r m1 ⟨rfl, ⟨h, rfl⟩ | ⟨h, rfl⟩⟩
  · refine e1 ⟨_, c_rf1 (d + 3), ?_⟩
    rintro r m1 ⟨rfl, rfl⟩
    exact ⟨rfl, rfl⟩
  · exact absurd hw h
theorem c_two_2 (d : Nat) {w wh : Int32} (hw : vp_in w 6) (hwh : ¬ (wh = 0 ∨ wh = 1)) : sp (d + 5) 98 [.ref 6, .int w, .int wh] (gm L xs A I F P) (rC L xs A I F P 2 (-2)) := by
  refine ⟨⟨_, rfl⟩, rfl, mm_WP.go [29] 100 ⟨_, c_noWord (d + 3) _ _, ?_⟩⟩
  rintro r m1 ⟨rfl, ⟨h, rfl⟩ | ⟨h, rfl⟩⟩
  · exact absurd hw h
  · refine e0 ⟨fun c => absurd (Or.inl c) hwh, fun _ => ⟨fun c => absurd (Or.inr c) hwh, fun _ => ⟨_, c_rf2 (d + 3), ?_⟩⟩⟩
    rintro r m1 ⟨rfl, rfl⟩
    exact ⟨rfl, rfl⟩
theorem vp2 {x : Int32} : vp_in x 2 ↔ (x = 0 ∨ x = 1) := by
  rw [vp_in_iff, fa_eq, fa_eq, show (0 : Int32).toInt = 0 from rfl, show (1 : Int32).toInt = 1 from rfl]
  omega
theorem m_two_1 (d : Nat) {w wh : Int32} (hw : ¬ vp_in w 6) : sp (d + 5) 159 [.ref 38, .int w, .int wh] (gm L xs A I F P) (rM L xs A I F P 1 (-1)) := by
  refine ⟨⟨_, rfl⟩, rfl, mm_WP.go [39] 100 ⟨_, m_isWord (d + 2) _ _, ?_⟩⟩
  rintro r m1 ⟨rfl, ⟨h, rfl⟩ | ⟨h, rfl⟩⟩
  · exact absurd h hw
  · refine n0 ⟨_, m_rf1 (d + 3), ?_⟩
    rintro r m1 ⟨rfl, rfl⟩
    exact ⟨rfl, rfl⟩
theorem m_two_2 (d : Nat) {w wh : Int32} (hw : vp_in w 6) (hwh : ¬ (wh = 0 ∨ wh = 1)) : sp (d + 5) 159 [.ref 38, .int w, .int wh] (gm L xs A I F P) (rM L xs A I F P 2 (-2)) := by
  refine ⟨⟨_, rfl⟩, rfl, mm_WP.go [39] 100 ⟨_, m_isWord (d + 2) _ _, ?_⟩⟩
  rintro r m1 ⟨rfl, ⟨-, rfl⟩ | ⟨h, rfl⟩⟩
  · refine n1 ⟨_, m_in (d + 3) _ _ _ _, ?_⟩
    intro r m1 hy
    obtain ⟨rfl, ⟨h, rfl⟩ | ⟨h, rfl⟩⟩ := yes_iff (in_vp (b := 1) (n := 2) rfl) hy
    · exact absurd (vp2.mp h) hwh
    · refine n0 ⟨_, m_rf2 (d + 3), ?_⟩
      rintro r m1 ⟨rfl, rfl⟩
      exact ⟨rfl, rfl⟩
  · exact absurd hw h
/-- none of them, from k on -/
theorem an0_iff {p : Nat → Bool} : ∀ (j k : Nat), an0 p j k = true ↔ ∀ i, k ≤ i → i < k + j → p i = false
  | 0, k => ⟨fun _ i h1 h2 => by omega, fun _ => rfl⟩
  | j + 1, k => by
    rw [an0, Bool.and_eq_true, an0_iff j (k + 1), Bool.not_eq_true']
    refine ⟨fun h i h1 h2 => ?_, fun h => ⟨h k (Nat.le_refl _) (by omega), fun i h1 h2 => h i (by omega) (by omega)⟩⟩
    rcases Nat.eq_or_lt_of_le h1 with h3 | h3
    · rw [← h3]; exact h.1
    · exact h.2 i (by omega) (by omega)
/-- the scenes' loop: is it still so -/
theorem m_two_sc {d : Nat} {B : Nat × Nat} {Q : mm_Q} (hR : RS n H S A I) {w a b : Nat} (hw : w < 6) (ha : a < 90) (hb : b < 90) (wh y f : Int32) (fin : Bool)
    (next : ∀ x8, wp (d + 1) B cd_Model_two Q 165 [some (.ref 38), some (.int (nI w)), some (.int wh), some (.int y), some (.int f), some (.int (nI a)), some (.int (nI b)), some (.int (bI fin)), some (.int x8)] [] (gm L xs A I F P)) :
    ∀ (j k : Nat) (x : Int32) (is : Bool), j + k = n → x = nI k → (is && an0 (fun s => S s w && !(H s a || H s b)) j k) = fin → wp (d + 1) B cd_Model_two Q 91 [some (.ref 38), some (.int (nI w)), some (.int wh), some (.int y), some (.int f), some (.int (nI a)), some (.int (nI b)), some (.int (bI is)), some (.int x)] [] (gm L xs A I F P) := by
  obtain ⟨hn, hI, hS, hH⟩ := hR
  intro j
  induction j with
  | zero =>
    intro k x is hj hx hf
    refine mm_WP.go [91, 165] 100 (lp_ge hx hI (by omega) (by omega) (fun h => ?_) (fun h => absurd h (by omega)))
    rw [an0, Bool.and_true] at hf
    subst hf
    exact next x
  | succ j ih =>
    intro k x is hj hx hf
    have hkn : k < n := by omega
    refine mm_WP.go [91, 159, 165] 100 (lp_ge hx hI (by omega) (by omega) (fun h => absurd h (by omega)) (fun _ => ?_))
    cases is with
    | false =>
      rw [Bool.false_and] at hf
      subst hf
      exact e0 (next x)
    | true =>
      refine e1 ?_
      subst hx
      have i1 := ix_ma (c := 6) (s := k) (w := w) (N := 144) (by decide) (by omega)
      have i2 := ix_ma (c := 90) (s := k) (w := a) (N := 2160) (by decide) (by omega)
      have i3 := ix_ma (c := 90) (s := k) (w := b) (N := 2160) (by decide) (by omega)
      have v1 : A 43 ((6 * nI k + nI w).toNatClampNeg) = bI (S k w) := by
        rw [show (6 * nI k + nI w).toNatClampNeg = 6 * k + w from i1.2]
        exact hS k w hkn hw
      have v2 : A 44 ((90 * nI k + nI a).toNatClampNeg) = bI (H k a) := by
        rw [show (90 * nI k + nI a).toNatClampNeg = 90 * k + a from i2.2]
        exact hH k a hkn ha
      have v3 : A 44 ((90 * nI k + nI b).toNatClampNeg) = bI (H k b) := by
        rw [show (90 * nI k + nI b).toNatClampNeg = 90 * k + b from i3.2]
        exact hH k b hkn hb
      have step : ∀ q : Bool, q = !(S k w && !(H k a || H k b)) → wp (d + 1) B cd_Model_two Q 159 [some (.ref 38), some (.int (nI w)), some (.int wh), some (.int y), some (.int f), some (.int (nI a)), some (.int (nI b)), some (.int (bI q)), some (.int (nI k))] [] (gm L xs A I F P) := by
        intro q hqv
        refine mm_WP.go [91] 100 (ih (k + 1) _ q (by omega) (nI_1 k) ?_)
        rw [← hf, Bool.true_and, hqv, an0]
      refine ⟨i1.1, fun c => ?_, fun c => ⟨i2.1, fun c2 => ?_, fun c2 => ⟨i3.1, fun c3 => ?_, fun c3 => ?_⟩⟩⟩
      · have h1 : S k w = false := bI_0 (v1 ▸ c)
        exact step true (by rw [h1]; rfl)
      · have h1 : H k a = true := bI_1 (v2 ▸ c2)
        exact step true (by rw [h1]; simp)
      · have h0 : S k w = true := bI_1 (v1 ▸ c)
        have h1 : H k a = false := bI_0 (v2 ▸ c2)
        have h2 : H k b = false := bI_0 (v3 ▸ c3)
        exact step false (by rw [h0, h1, h2]; rfl)
      · have h2 : H k b = true := bI_1 (v3 ▸ c3)
        exact step true (by rw [h2]; simp)
theorem qt_eq {w a b : Nat} : qt n H S w a b = ((!Lp n H S w 0 a && !Lp n H S w 0 b) && an0 (fun s => S s w && !(H s a || H s b)) n 0) := by
  have h : decide (sb n (fun s => S s w && !(H s a || H s b)) = 0) = an0 (fun s => S s w && !(H s a || H s b)) n 0 := by
    have h0 : (sb n (fun s => S s w && !(H s a || H s b)) = 0) ↔ (sb n (fun s => S s w && !(H s a || H s b)) = sb n (fun _ => false)) := by rw [sb_zero]
    rw [Bool.eq_iff_iff, an0_iff, decide_eq_true_iff, h0, sb_inj]
    exact ⟨fun h s _ h2 => h s (by omega), fun h s h2 => h s (Nat.zero_le _) (by omega)⟩
  unfold qt
  rw [h, Bool.and_comm]
/-- what comes out, with c found, f the first of these, cnt and srch of the rest -/
def v3 (wh : Int32) (c : Nat) (f : Int32) (cnt : Nat) (srch : Int32) : Int32 := if wh = 0 then nI (c + cnt) else if c = 0 then srch else f
theorem m_two_in {d : Nat} {B : Nat × Nat} {Q : mm_Q} (hR : RS n H S A I) {w a : Nat} (hw : w < 6) (ha : a < 90) (wh : Int32) (rc rb : Nat) (rs : Int32) (hrb : rb < 100000)
    (next : ∀ (c : Nat) (y f x6 : Int32) (u7 u8 : Option Value), (c = 0 → f = -9) → y = nI c → c ≤ rb → Q (some (.int (v3 wh c f rc rs))) (gm L xs A I F P) → wp (d + 1) B cd_Model_two Q 208 [some (.ref 38), some (.int (nI w)), some (.int wh), some (.int y), some (.int f), some (.int (nI a)), some (.int x6), u7, u8] [] (gm L xs A I F P)) :
    ∀ (j b c : Nat) (y f x : Int32) (u7 u8 : Option Value), (c = 0 → f = -9) → j + b = 90 → x = nI b → y = nI c → c + j ≤ rb → Q (some (.int (v3 wh c f (c2i (qt n H S w) a j b + rc) (s2i (qt n H S w) a rs j b)))) (gm L xs A I F P) → wp (d + 1) B cd_Model_two Q 52 [some (.ref 38), some (.int (nI w)), some (.int wh), some (.int y), some (.int f), some (.int (nI a)), some (.int x), u7, u8] [] (gm L xs A I F P) := by
  have hn := hR.1
  intro j
  induction j with
  | zero =>
    intro b c y f x u7 u8 hf0 hj hx hy hc hq
    refine mm_WP.go [52, 208] 100 (lp_ge (N := 90) hx rfl (by omega) (by omega) (fun _ => ?_) (fun h => absurd h (by omega)))
    rw [c2i, s2i, Nat.zero_add] at hq
    exact next c y f x u7 u8 hf0 hy (by omega) hq
  | succ j ih =>
    intro b c y f x u7 u8 hf0 hj hx hy hc hq
    have hb : b < 90 := by omega
    refine mm_WP.go [52, 86, 91] 100 (lp_ge (N := 90) hx rfl (by omega) (by omega) (fun h => absurd h (by omega)) (fun _ => ?_))
    subst hx
    -- behind the scenes' loop
    have fin : ∀ x8, wp (d + 1) B cd_Model_two Q 165 [some (.ref 38), some (.int (nI w)), some (.int wh), some (.int y), some (.int f), some (.int (nI a)), some (.int (nI b)), some (.int (bI (qt n H S w a b))), some (.int x8)] [] (gm L xs A I F P) := by
      intro x8
      cases hz : qt n H S w a b with
      | false =>
        rw [c2i, s2i, hz] at hq
        simp only [Bool.false_eq_true, if_false, Nat.zero_add] at hq
        refine mm_WP.go [52] 100 (e0 (e0 ?_))
        exact ih (b + 1) c _ _ _ _ _ hf0 (by omega) (nI_1 b) (by rw [hy]; exact Int32.add_zero _) (by omega) hq
      | true =>
        rw [c2i, s2i, hz] at hq
        simp only [if_true] at hq
        have e : (100 : Int32) * nI a + nI b = nI (100 * a + b) := by rw [show (100 : Int32) = nI 100 from rfl, pk_mul, nI_add]
        refine mm_WP.go [52] 100 (e1 ⟨fun hc0 => e1 ?_, fun hc0 => e1 ?_⟩)
        · have hc1 : c ≠ 0 := fun h => hc0 (by rw [hy, h]; rfl)
          refine ih (b + 1) (c + 1) _ _ _ _ _ (fun h => absurd h (by omega)) (by omega) (nI_1 b) (by rw [hy]; exact nI_1 c) (by omega) ?_
          unfold v3 at hq ⊢
          rw [if_neg hc1] at hq
          rw [if_neg (show ¬ c + 1 = 0 by omega), show c + 1 + (c2i (qt n H S w) a j (b + 1) + rc) = c + (1 + c2i (qt n H S w) a j (b + 1) + rc) by omega]
          exact hq
        · have hc1 : c = 0 := by
            rw [hy, show (0 : Int32) = nI 0 from rfl, nI_eq (by omega) (by omega)] at hc0
            exact hc0
          refine ih (b + 1) (c + 1) _ _ _ _ _ (fun h => absurd h (by omega)) (by omega) (nI_1 b) (by rw [hy]; exact nI_1 c) (by omega) ?_
          unfold v3 at hq ⊢
          rw [if_pos hc1, ← e] at hq
          rw [if_neg (show ¬ c + 1 = 0 by omega), show c + 1 + (c2i (qt n H S w) a j (b + 1) + rc) = c + (1 + c2i (qt n H S w) a j (b + 1) + rc) by omega]
          exact hq
    have mid : ∀ q : Bool, q = (!Lp n H S w 0 a && !Lp n H S w 0 b) → wp (d + 1) B cd_Model_two Q 86 [some (.ref 38), some (.int (nI w)), some (.int wh), some (.int y), some (.int f), some (.int (nI a)), some (.int (nI b)), u7, u8] [.int (bI q)] (gm L xs A I F P) := by
      intro q hqv
      refine mm_WP.go [91] 100 ?_
      refine m_two_sc hR hw ha hb wh y f (qt n H S w a b) fin n 0 _ q (by omega) rfl ?_
      rw [qt_eq, hqv]
    refine ⟨_, m_isLeft d hR hw ha 0, ?_⟩
    rintro r m1 ⟨rfl, ⟨h, rfl⟩ | ⟨h, rfl⟩⟩
    · exact n1 (mid false (by rw [Lp0.mp h]; rfl))
    · refine n0 ⟨_, m_isLeft d hR hw hb 0, ?_⟩
      have ha0 : Lp n H S w 0 a = false := by simpa using fun z => h (Lp0.mpr z)
      rintro r m1 ⟨rfl, ⟨h2, rfl⟩ | ⟨h2, rfl⟩⟩
      · exact n1 (mid false (by rw [Lp0.mp h2]; simp))
      · have hb0 : Lp n H S w 0 b = false := by simpa using fun z => h2 (Lp0.mpr z)
        exact n0 (mid true (by rw [ha0, hb0]; rfl))
theorem m_two_out {d : Nat} {B : Nat × Nat} {Q : mm_Q} (hR : RS n H S A I) {w : Nat} (hw : w < 6) (wh : Int32) :
    ∀ (j a c : Nat) (y f x : Int32) (u6 u7 u8 : Option Value), j + a = 90 → x = nI a → y = nI c → c + 90 * j < 100000 → Q (some (.int (v3 wh c f (c2 (qt n H S w) j a) (s2 (qt n H S w) j a)))) (gm L xs A I F P) → (c = 0 → f = -9) → wp (d + 1) B cd_Model_two Q 39 [some (.ref 38), some (.int (nI w)), some (.int wh), some (.int y), some (.int f), some (.int x), u6, u7, u8] [] (gm L xs A I F P) := by
  intro j
  induction j with
  | zero =>
    intro a c y f x u6 u7 u8 hj hx hy hc hq hf
    refine mm_WP.go [39] 100 (lp_ge (N := 90) hx rfl (by omega) (by omega) (fun _ => ?_) (fun h => absurd h (by omega)))
    rw [c2, s2] at hq
    unfold v3 at hq
    refine ⟨fun c1 => ?_, fun c1 => ?_⟩
    · rw [if_neg c1] at hq
      by_cases h0 : c = 0
      · rw [if_pos h0, ← hf h0] at hq
        exact hq
      · rw [if_neg h0] at hq
        exact hq
    · rw [if_pos c1, Nat.add_zero] at hq
      subst hy
      exact hq
  | succ j ih =>
    intro a c y f x u6 u7 u8 hj hx hy hc hq hf
    refine mm_WP.go [39, 52] 100 (lp_ge (N := 90) hx rfl (by omega) (by omega) (fun h => absurd h (by omega)) (fun _ => ?_))
    subst hx
    rw [c2, s2] at hq
    refine m_two_in hR hw (by omega) wh (c2 (qt n H S w) j (a + 1)) (c + 90) (s2 (qt n H S w) j (a + 1)) (by omega) ?_ (89 - a) (a + 1) c _ _ _ _ _ hf (by omega) (nI_1 a) hy (by omega) hq
    intro c2' y2 f2 x6 u7' u8' hf2 hy2 hc2 hq2
    exact mm_WP.go [39] 100 (ih (a + 1) c2' _ _ _ _ _ _ (by omega) (nI_1 a) hy2 (by omega) hq2 hf2)
theorem m_two (d : Nat) (hR : RS n H S A I) {w : Nat} (hw : w < 6) {wh : Int32} (hwh : wh = 0 ∨ wh = 1) : sp (d + 5) 159 [.ref 38, .int (nI w), .int wh] (gm L xs A I F P) (ans (gm L xs A I F P) (v2 n H S w wh)) := by
  refine ⟨⟨_, rfl⟩, rfl, mm_WP.go [39] 100 ⟨_, m_isWord (d + 2) _ _, ?_⟩⟩
  rintro r m1 ⟨rfl, ⟨-, rfl⟩ | ⟨h, rfl⟩⟩
  · refine n1 ⟨_, m_in (d + 3) _ _ _ _, ?_⟩
    intro r m1 hy
    obtain ⟨rfl, ⟨h, rfl⟩ | ⟨h, rfl⟩⟩ := yes_iff (in_vp (b := 1) (n := 2) rfl) hy
    · refine n1 ?_
      refine m_two_out (d := d + 3) hR hw wh 90 0 0 _ _ _ none none none rfl rfl rfl (by decide) ?_ (fun _ => rfl)
      unfold v3 ans v2
      rw [if_pos rfl, Nat.zero_add]
      exact ⟨rfl, rfl⟩
    · exact absurd (vp2.mpr hwh) h
  · exact absurd (ix_n (N := 6) (by decide) hw).1 h
end M7
end
section
/-! likelihood -/
theorem an_pow {n x y : Nat} (b : Nat) (hx : x < 2 ^ n) (hy : y < 2 ^ n) : (2 ^ n * b + x) &&& (2 ^ n * b + y) = 2 ^ n * b + (x &&& y) := by
  have h1 : ((2 ^ n * b + x) &&& (2 ^ n * b + y)) % 2 ^ n = x &&& y := by
    rw [Nat.and_mod_two_pow, Nat.mul_add_mod, Nat.mul_add_mod, Nat.mod_eq_of_lt hx, Nat.mod_eq_of_lt hy]
  have h2 : ((2 ^ n * b + x) &&& (2 ^ n * b + y)) / 2 ^ n = b := by
    rw [Nat.and_div_two_pow, Nat.mul_add_div (Nat.two_pow_pos n), Nat.mul_add_div (Nat.two_pow_pos n), Nat.div_eq_of_lt hx, Nat.div_eq_of_lt hy, Nat.add_zero, Nat.and_self]
  have h3 := Nat.div_add_mod ((2 ^ n * b + x) &&& (2 ^ n * b + y)) (2 ^ n)
  rw [h1, h2] at h3
  exact h3.symm
theorem sb_pos {q : Nat → Bool} {n : Nat} : 0 < sb n q ↔ 0 < fb_ct q n := by
  have h1 : sb n q = 0 ↔ fb_ct q n = 0 := by
    rw [fb_ct_zero, ← sb_zero n, sb_inj]
  omega
theorem sb_drop (q : Nat → Bool) : ∀ n, sb n q &&& (sb n q - 1) = sb n (fun i => q i && decide (0 < fb_ct q i))
  | 0 => by simp [sb]
  | n + 1 => by
    have ih := sb_drop q n
    have hlt := sb_lt q n
    rw [sb, sb, ← ih]
    by_cases h0 : 0 < sb n q
    · rw [Nat.add_sub_assoc h0, an_pow _ hlt (by omega), decide_eq_true (sb_pos.mp h0), Bool.and_true]
    · have hz : sb n q = 0 := by omega
      rw [decide_eq_false (fun h => h0 (sb_pos.mpr h)), Bool.and_false, hz]
      by_cases hq : q n = true
      · rw [if_pos hq, Nat.mul_one, Nat.add_zero]
        have h1 : 2 ^ n &&& (2 ^ n - 1) = 0 := by rw [Nat.and_two_pow_sub_one_eq_mod, Nat.mod_self]
        rw [h1]
        simp
      · rw [if_neg hq]
        simp
/-- without the first j -/
def pj (p : Nat → Bool) (j : Nat) : Nat → Bool := fun i => p i && decide (j ≤ fb_ct p i)
theorem pj_ct (p : Nat → Bool) (j : Nat) : ∀ n, fb_ct (pj p j) n = fb_ct p n - j
  | 0 => by rw [fb_ct, fb_ct]; omega
  | n + 1 => by
    rw [fb_ct_succ, fb_ct_succ, pj_ct p j n]
    unfold pj
    by_cases hp : p n = true
    · rw [hp, Bool.true_and, if_pos rfl]
      by_cases h : j ≤ fb_ct p n
      · rw [decide_eq_true h, if_pos rfl]; omega
      · rw [decide_eq_false h, if_neg (by decide)]; omega
    · rw [show p n = false by simpa using hp, Bool.false_and, if_neg (by decide)]
      omega
theorem pj_drop (p : Nat → Bool) (j n : Nat) : sb n (pj p j) &&& (sb n (pj p j) - 1) = sb n (pj p (j + 1)) := by
  rw [sb_drop]
  apply sb_cong
  intro i _
  rw [pj_ct]
  unfold pj
  cases p i with
  | false => rfl
  | true =>
    rw [Bool.true_and, Bool.true_and, Bool.eq_iff_iff, Bool.and_eq_true, decide_eq_true_iff, decide_eq_true_iff, decide_eq_true_iff]
    omega
/-- the latest six scenes in which it was said -/
def TS (n : Nat) (S : Nat → Nat → Bool) (w : Nat) : Nat → Bool := fun i => S i w && decide (fb_ct (fun s => S s w) n ≤ fb_ct (fun s => S s w) i + 6)
theorem pj_TS {n j : Nat} {S : Nat → Nat → Bool} {w : Nat} (h : (j = 0 ∧ fb_ct (fun s => S s w) n ≤ 6) ∨ fb_ct (fun s => S s w) n = j + 6) : sb n (pj (fun s => S s w) j) = sb n (TS n S w) := by
  apply sb_cong
  intro i _
  unfold pj TS
  congr 1
  refine decide_eq_decide.mpr ?_
  omega
def lk (wk hit miss h k : Nat) : Nat := wk * hit ^ h * miss ^ k
section M8
variable {L : Nat} {xs : Nat → Int32} {A I : Nat → Nat → Int32} {F : Nat → Nat → Option Nat} {P : mm_M} {n : Nat} {H S : Nat → Nat → Bool}
theorem c_latest_loop {d : Nat} {B : Nat × Nat} {Q : mm_Q} (hn : n ≤ 24) {w : Nat} (hq : Q (some (.int (nI (sb n (TS n S w))))) (gm L xs A I F P)) :
    ∀ (i j : Nat) (x y : Int32), i + j = 18 → x = nI (6 + j) → y = nI (sb n (pj (fun s => S s w) j)) → (j = 0 ∨ j + 6 ≤ fb_ct (fun s => S s w) n) → wp (d + 1) B cd_Likely_latestSaid Q 13 [some (.ref 32), some (.int (nI w)), some (.int y), some (.int x)] [] (gm L xs A I F P) := by
  have hct : fb_ct (fun s => S s w) n ≤ n := fb_ct_le _ _
  have done : ∀ j y, y = nI (sb n (pj (fun s => S s w) j)) → (j = 0 ∨ j + 6 ≤ fb_ct (fun s => S s w) n) → fb_ct (fun s => S s w) n - j ≤ 6 → Q (some (.int y)) (gm L xs A I F P) := by
    intro j y hy hj h
    rw [hy, pj_TS (by omega)]
    exact hq
  intro i
  induction i with
  | zero =>
    intro j x y hi hx hy hj
    refine mm_WP.go [13] 100 (lp_ge (N := 24) hx rfl (by omega) (by omega) (fun _ => ?_) (fun h => absurd h (by omega)))
    exact done j y hy hj (by omega)
  | succ i ih =>
    intro j x y hi hx hy hj
    refine mm_WP.go [13] 100 (lp_ge (N := 24) hx rfl (by omega) (by omega) (fun h => absurd h (by omega)) (fun _ => ?_))
    subst hy
    have h24 := sb_24 hn (pj (fun s => S s w) j)
    refine ⟨_, j_bitCount d h24 _, ?_⟩
    rintro r m1 ⟨rfl, rfl⟩
    rw [od_sb hn, pj_ct]
    refine ⟨fun c => ?_, fun c => ?_⟩
    · rw [show (6 : Int32) = nI 6 from rfl, nI_leI (by omega) (by omega)] at c
      exact done j _ rfl hj c
    · rw [show (6 : Int32) = nI 6 from rfl, nI_leI (by omega) (by omega)] at c
      have hpos : 0 < sb n (pj (fun s => S s w) j) := sb_pos.mpr (by rw [pj_ct]; omega)
      refine ih (j + 1) _ _ (by omega) (by rw [hx]; exact nI_1 _) ?_ (Or.inr (by omega))
      rw [show (1 : Int32) = nI 1 from rfl, pk_sub hpos, fa_and, pj_drop]
theorem pj_0 (p : Nat → Bool) (n : Nat) : sb n (pj p 0) = sb n p := by
  apply sb_cong
  intro i _
  unfold pj
  rw [decide_eq_true (Nat.zero_le _), Bool.and_true]
theorem c_latest (d : Nat) (hC : CS n H S A I) {w : Nat} (hw : w < 6) : sp (d + 2) 21 [.ref 32, .int (nI w)] (gm L xs A I F P) (ans (gm L xs A I F P) (nI (sb n (TS n S w)))) := by
  obtain ⟨hn, hI, hS, hH⟩ := hC
  have i1 := ix_n (w := w) (N := 6) (by decide) hw
  refine ⟨⟨_, rfl⟩, rfl, mm_WP.go [13] 100 ⟨i1.1, ?_⟩⟩
  refine c_latest_loop (d := d) hn ⟨rfl, rfl⟩ 18 0 _ _ rfl rfl ?_ (Or.inl rfl)
  rw [i1.2, hS w hw, pj_0]
theorem c_of_l2 {d : Nat} {B : Nat × Nat} {Q : mm_Q} {miss : Nat} (hM : I 21 7 = nI miss) (hm : miss ≤ 100) {k : Nat} (hk : k ≤ 24) {w m lt h : Int32} : ∀ (i j v : Nat) (x : Int32) (y : Int64), i + j = k → x = nI j → y = lN v → Q (some (.long (lN (v * miss ^ i)))) (gm L xs A I F P) → wp d B cd_Likely_of Q 87 [some (.ref 32), some (.int w), some (.int m), some (.int lt), some (.int h), some (.int (nI k)), some (.long y), none, some (.int x)] [] (gm L xs A I F P) := by
  intro i
  induction i with
  | zero =>
    intro j v x y hi hx hy hq
    refine mm_WP.go [87] 100 (lp_ge (N := k) hx rfl (by omega) (by omega) (fun _ => ?_) (fun h => absurd h (by omega)))
    rw [Nat.pow_zero, Nat.mul_one, ← hy] at hq
    exact hq
  | succ i ih =>
    intro j v x y hi hx hy hq
    refine mm_WP.go [87] 100 (lp_ge (N := k) hx rfl (by omega) (by omega) (fun h => absurd h (by omega)) (fun _ => ?_))
    refine ih (j + 1) (v * miss) _ _ (by omega) (by rw [hx]; exact nI_1 j) ?_ ?_
    · rw [hy, hM, nI_l (by omega), lN_mul]
    · rw [Nat.pow_succ, Nat.mul_comm (miss ^ i), ← Nat.mul_assoc] at hq
      exact hq
theorem c_of_l1 {d : Nat} {B : Nat × Nat} {Q : mm_Q} {hit miss : Nat} (hHt : I 21 6 = nI hit) (hh : hit ≤ 100) (hM : I 21 7 = nI miss) (hm : miss ≤ 100) {h k : Nat} (hk : k ≤ 24) (hhn : h ≤ 24) {w m lt : Int32} : ∀ (i j v : Nat) (x : Int32) (y : Int64), i + j = h → x = nI j → y = lN v → Q (some (.long (lN (v * hit ^ i * miss ^ k)))) (gm L xs A I F P) → wp d B cd_Likely_of Q 58 [some (.ref 32), some (.int w), some (.int m), some (.int lt), some (.int (nI h)), some (.int (nI k)), some (.long y), none, some (.int x)] [] (gm L xs A I F P) := by
  intro i
  induction i with
  | zero =>
    intro j v x y hi hx hy hq
    refine mm_WP.go [58, 87] 100 (lp_ge (N := h) hx rfl (by omega) (by omega) (fun _ => ?_) (fun h => absurd h (by omega)))
    rw [Nat.pow_zero, Nat.mul_one] at hq
    exact c_of_l2 hM hm hk k 0 v _ _ rfl rfl hy hq
  | succ i ih =>
    intro j v x y hi hx hy hq
    refine mm_WP.go [58, 87] 100 (lp_ge (N := h) hx rfl (by omega) (by omega) (fun h => absurd h (by omega)) (fun _ => ?_))
    refine ih (j + 1) (v * hit) _ _ (by omega) (by rw [hx]; exact nI_1 j) ?_ ?_
    · rw [hy, hHt, nI_l (by omega), lN_mul]
    · rw [Nat.pow_succ, Nat.mul_comm (hit ^ i), ← Nat.mul_assoc] at hq
      exact hq
/-- hits and misses among the latest -/
def hN (n : Nat) (H S : Nat → Nat → Bool) (w m : Nat) : Nat := fb_ct (fun i => TS n S w i && H i m) n
def kN (n : Nat) (H S : Nat → Nat → Bool) (w m : Nat) : Nat := fb_ct (fun i => TS n S w i && !H i m) n
abbrev LK (n : Nat) (H S : Nat → Nat → Bool) (wt : Nat → Nat) (hit miss w m : Nat) : Nat := lk (wt (kd m)) hit miss (hN n H S w m) (kN n H S w m)
theorem c_of (d : Nat) (hC : CS n H S A I) {wt : Nat → Nat} (hW : WT wt (A 28)) {hit miss : Nat} (hHt : I 21 6 = nI hit) (hh : hit ≤ 100) (hM : I 21 7 = nI miss) (hmi : miss ≤ 100) {w m : Nat} (hw : w < 6) (hm : m < 90) : sp (d + 3) 20 [.ref 32, .int (nI w), .int (nI m)] (gm L xs A I F P) (fun r m1 => r = some (.long (lN (LK n H S wt hit miss w m))) ∧ m1 = gm L xs A I F P) := by
  have hC2 := hC
  obtain ⟨hn, hI, hS, hH⟩ := hC
  have i1 := ix_n (w := m) (N := 90) (by decide) hm
  have i2 := ix_n (w := kd m) (N := 8) (by decide) (kd_lt m)
  obtain ⟨w1, w2, w3⟩ := hW (kd m) (kd_lt m)
  have hN24 : hN n H S w m ≤ n := fb_ct_le _ _
  have kN24 : kN n H S w m ≤ n := fb_ct_le _ _
  refine ⟨⟨_, rfl⟩, rfl, mm_WP.go [17] 100 ⟨_, c_latest d hC2 hw, ?_⟩⟩
  rintro r m1 ⟨rfl, rfl⟩
  refine ⟨i1.1, ?_⟩
  show wp (d + 2) (mm_Al 20) cd_Likely_of _ 17 [some (.ref 32), some (.int (nI w)), some (.int (nI m)), some (.int (nI (sb n (TS n S w)))), none, none, none, none, none] [.int (nI (sb n (TS n S w)) &&& A 26 ((nI m).toNatClampNeg))] (gm L xs A I F P)
  rw [i1.2, hH m hm, sb_and hn]
  refine mm_WP.go [35] 100 ⟨_, j_bitCount (d + 1) (sb_24 hn _) _, ?_⟩
  rintro r m1 ⟨rfl, rfl⟩
  refine ⟨i1.1, ?_⟩
  show wp (d + 2) (mm_Al 20) cd_Likely_of _ 35 [some (.ref 32), some (.int (nI w)), some (.int (nI m)), some (.int (nI (sb n (TS n S w)))), some (.int (nI (od 24 (sb n (fun i => TS n S w i && H i m))))), none, none, none, none] [.int (nI (sb n (TS n S w)) &&& (A 26 ((nI m).toNatClampNeg) ^^^ (-1)))] (gm L xs A I F P)
  rw [i1.2, hH m hm, sb_andn hn, od_sb hn]
  refine mm_WP.go [58] 100 ⟨_, j_bitCount (d + 1) (sb_24 hn _) _, ?_⟩
  rintro r m1 ⟨rfl, rfl⟩
  refine ⟨_, c_kindOf (d + 1) hm, ?_⟩
  rintro r m1 ⟨rfl, rfl⟩
  refine ⟨i2.1, ?_⟩
  rw [od_sb hn]
  refine c_of_l1 hHt hh hM hmi (h := hN n H S w m) (k := kN n H S w m) (by omega) (by omega) (hN n H S w m) 0 (wt (kd m)) _ _ rfl rfl ?_ ⟨rfl, rfl⟩
  rw [i2.2, w1, nI_l (by omega)]
end M8
end
section
/-! the reference's likelihood; chance; likeliest -/
section M9
variable {L : Nat} {xs : Nat → Int32} {A I : Nat → Nat → Int32} {F : Nat → Nat → Option Nat} {P : mm_M} {n : Nat} {H S : Nat → Nat → Bool}
theorem m_lo_loop {d : Nat} {B : Nat × Nat} {Q : mm_Q} (hR : RS n H S A I) {hit miss : Nat} (hHt : I 38 8 = nI hit) (hh : hit ≤ 100) (hM : I 38 9 = nI miss) (hmi : miss ≤ 100) {w m : Nat} (hw : w < 6) (hm : m < 90) (tot : Nat) (hq : Q (some (.long (lN tot))) (gm L xs A I F P)) :
    ∀ (k c v : Nat) (x z : Int32) (y : Int64), k ≤ n → x = nI k + (-1) → z = nI c → y = lN v → c ≤ 6 → c + fb_ct (fun s => S s w) k = fb_ct (fun s => S s w) n → v * hit ^ fb_ct (fun i => TS n S w i && H i m) k * miss ^ fb_ct (fun i => TS n S w i && !H i m) k = tot → wp d B cd_Model_likelihoodOf Q 22 [some (.ref 38), some (.int (nI w)), some (.int (nI m)), some (.long y), none, some (.int z), some (.int x)] [] (gm L xs A I F P) := by
  obtain ⟨hn, hI, hS, hH⟩ := hR
  intro k
  induction k with
  | zero =>
    intro c v x z y hk hx hz hy hc hs ht
    refine mm_WP.go [22] 100 ⟨fun _ => ?_, fun c => absurd (by rw [hx]; decide) c⟩
    rw [fb_ct, fb_ct, Nat.pow_zero, Nat.pow_zero, Nat.mul_one, Nat.mul_one] at ht
    rw [hy, ht]
    exact hq
  | succ k ih =>
    intro c v x z y hk hx hz hy hc hs ht
    rw [pk_m1] at hx
    subst hx
    have hkn : k < n := by omega
    refine mm_WP.go [22] 100 ⟨fun c => absurd c (nI_pos (by omega)), fun _ => ⟨fun c6 => ?_, fun c6 => ?_⟩⟩
    · rw [hz, show (6 : Int32) = nI 6 from rfl, nI_leI (by omega) (by omega)] at c6
      have key : ∀ i, i < k + 1 → TS n S w i = false := by
        intro i hi
        unfold TS
        cases hsi : S i w with
        | false => rfl
        | true =>
          rw [Bool.true_and]
          refine decide_eq_false ?_
          have h1 : fb_ct (fun s => S s w) (i + 1) ≤ fb_ct (fun s => S s w) (k + 1) := fb_ct_mono _ (by omega)
          rw [fb_ct_succ, hsi, if_pos rfl] at h1
          omega
      have z1 : fb_ct (fun i => TS n S w i && H i m) (k + 1) = 0 := fb_ct_zero.mpr (fun i hi => by rw [key i hi]; rfl)
      have z2 : fb_ct (fun i => TS n S w i && !H i m) (k + 1) = 0 := fb_ct_zero.mpr (fun i hi => by rw [key i hi]; rfl)
      rw [z1, z2, Nat.pow_zero, Nat.pow_zero, Nat.mul_one, Nat.mul_one] at ht
      rw [hy, ht]
      exact hq
    · rw [hz, show (6 : Int32) = nI 6 from rfl, nI_leI (by omega) (by omega)] at c6
      have i1 := ix_ma (c := 6) (s := k) (w := w) (N := 144) (by decide) (by omega)
      have i2 := ix_ma (c := 90) (s := k) (w := m) (N := 2160) (by decide) (by omega)
      have v1 : A 43 ((6 * nI k + nI w).toNatClampNeg) = bI (S k w) := by
        rw [show (6 * nI k + nI w).toNatClampNeg = 6 * k + w from i1.2]
        exact hS k w hkn hw
      have v2 : A 44 ((90 * nI k + nI m).toNatClampNeg) = bI (H k m) := by
        rw [show (90 * nI k + nI m).toNatClampNeg = 90 * k + m from i2.2]
        exact hH k m hkn hm
      rw [fb_ct_succ] at hs
      rw [fb_ct_succ, fb_ct_succ] at ht
      refine ⟨i1.1, fun c1 => ?_, fun c1 => ⟨i2.1, fun c2 => ?_, fun c2 => ?_⟩⟩
      · have h1 : S k w = false := bI_0 (v1 ▸ c1)
        have hT : TS n S w k = false := by unfold TS; rw [h1]; rfl
        rw [h1, if_neg (by decide), Nat.add_zero] at hs
        rw [hT, Bool.false_and, Bool.false_and, if_neg (by decide), Nat.add_zero, Nat.add_zero] at ht
        exact ih c v _ _ _ (by omega) rfl hz hy hc hs ht
      · have h1 : S k w = true := bI_1 (v1 ▸ c1)
        have h2 : H k m = false := bI_0 (v2 ▸ c2)
        rw [h1, if_pos rfl] at hs
        have hT : TS n S w k = true := by unfold TS; rw [h1, Bool.true_and]; exact decide_eq_true (by omega)
        rw [hT, h2, Bool.true_and, Bool.true_and, Bool.not_false, if_neg (by decide), if_pos rfl, Nat.add_zero] at ht
        refine ih (c + 1) (v * miss) _ _ _ (by omega) rfl (by rw [hz]; exact nI_1 c) ?_ (by omega) (by omega) ?_
        · rw [hy, hM, nI_l (by omega), lN_mul]
        · rw [← ht, Nat.pow_succ, Nat.mul_assoc v miss, Nat.mul_comm miss, ← Nat.mul_assoc, Nat.mul_assoc (v * _) miss, Nat.mul_comm miss]
      · have h1 : S k w = true := bI_1 (v1 ▸ c1)
        have h2 : H k m = true := bI_1 (v2 ▸ c2)
        rw [h1, if_pos rfl] at hs
        have hT : TS n S w k = true := by unfold TS; rw [h1, Bool.true_and]; exact decide_eq_true (by omega)
        rw [hT, h2, Bool.true_and, Bool.true_and, Bool.not_true, if_pos rfl, if_neg (by decide), Nat.add_zero] at ht
        refine ih (c + 1) (v * hit) _ _ _ (by omega) rfl (by rw [hz]; exact nI_1 c) ?_ (by omega) (by omega) ?_
        · rw [hy, hHt, nI_l (by omega), lN_mul]
        · rw [← ht, Nat.pow_succ, Nat.mul_assoc v hit, Nat.mul_comm hit]
          rfl
theorem m_lo (d : Nat) (hR : RS n H S A I) {wt : Nat → Nat} (hW : WT wt (A 45)) {hit miss : Nat} (hHt : I 38 8 = nI hit) (hh : hit ≤ 100) (hM : I 38 9 = nI miss) (hmi : miss ≤ 100) {w m : Nat} (hw : w < 6) (hm : m < 90) : sp (d + 2) 146 [.ref 38, .int (nI w), .int (nI m)] (gm L xs A I F P) (fun r m1 => r = some (.long (lN (LK n H S wt hit miss w m))) ∧ m1 = gm L xs A I F P) := by
  have i2 := ix_n (w := kd m) (N := 8) (by decide) (kd_lt m)
  obtain ⟨w1, w2, w3⟩ := hW (kd m) (kd_lt m)
  refine ⟨⟨_, rfl⟩, rfl, mm_WP.go [22] 100 ⟨_, m_kindOf d hm _, ?_⟩⟩
  rintro r m1 ⟨rfl, rfl⟩
  refine ⟨i2.1, ?_⟩
  refine m_lo_loop hR hHt hh hM hmi hw hm (LK n H S wt hit miss w m) ⟨rfl, rfl⟩ n 0 (wt (kd m)) _ _ _ (Nat.le_refl _) ?_ rfl ?_ (by omega) (Nat.zero_add _) rfl
  · rw [hR.2.1]
    exact Int32.sub_eq_add_neg _ _
  · rw [i2.2, w1, nI_l (by omega)]
theorem LK_le {wt : Nat → Nat} {hit miss w m : Nat} (hw : wt (kd m) ≤ 99) (hh : hit ≤ 100) (hm : miss ≤ 100) : LK n H S wt hit miss w m ≤ 99000000000000 := by
  -- at most six scenes are among the latest
  have h6 : hN n H S w m + kN n H S w m ≤ 6 := by
    have h1 : fb_ct (fun i => (TS n S w i && H i m) || (TS n S w i && !H i m)) n = hN n H S w m + kN n H S w m := fb_ct_or (fun k _ h => by
      obtain ⟨a, b⟩ := h
      revert a b
      cases TS n S w k <;> cases H k m <;> decide)
    have h2 : fb_ct (fun i => (TS n S w i && H i m) || (TS n S w i && !H i m)) n = fb_ct (TS n S w) n := fb_ct_cong (fun k _ => by cases TS n S w k <;> cases H k m <;> rfl)
    have h3 : fb_ct (TS n S w) n ≤ 6 := by
      have h4 : fb_ct (TS n S w) n = fb_ct (pj (fun s => S s w) (fb_ct (fun s => S s w) n - 6)) n := fb_ct_cong (fun k _ => by
        unfold TS pj
        congr 1
        exact decide_eq_decide.mpr (by omega))
      rw [h4, pj_ct]
      omega
    omega
  show wt (kd m) * hit ^ hN n H S w m * miss ^ kN n H S w m ≤ _
  have a1 : hit ^ hN n H S w m ≤ 100 ^ hN n H S w m := Nat.pow_le_pow_left hh _
  have a2 : miss ^ kN n H S w m ≤ 100 ^ kN n H S w m := Nat.pow_le_pow_left hm _
  have a3 : 100 ^ hN n H S w m * 100 ^ kN n H S w m ≤ 100 ^ 6 := by
    rw [← Nat.pow_add]
    exact Nat.pow_le_pow_right (by decide) h6
  calc wt (kd m) * hit ^ hN n H S w m * miss ^ kN n H S w m = wt (kd m) * (hit ^ hN n H S w m * miss ^ kN n H S w m) := Nat.mul_assoc _ _ _
    _ ≤ 99 * (100 ^ hN n H S w m * 100 ^ kN n H S w m) := Nat.mul_le_mul hw (Nat.mul_le_mul a1 a2)
    _ ≤ 99 * 100 ^ 6 := Nat.mul_le_mul_left _ a3
    _ = 99000000000000 := by decide
/-- the first of the greatest -/
def gb (f : Nat → Nat) : Nat → Nat → Nat → Nat
  | 0, _, b => b
  | j + 1, k, b => gb f j (k + 1) (if f b < f k then k else b)
theorem gb_lt (f : Nat → Nat) : ∀ j k b, k + j ≤ 90 → b < 90 → gb f j k b < 90
  | 0, _, _, _, h => h
  | j + 1, k, b, h, hb => by
    rw [gb]
    refine gb_lt f j (k + 1) _ (by omega) ?_
    split <;> omega
theorem lcmp_le {a b : Nat} (ha : a < 2 ^ 63) (hb : b < 2 ^ 63) : (lg_cmp (lN a) (lN b) ≤ 0) ↔ a ≤ b := by
  rw [lg_cmp_le, fa_le64, pf_lI ha, pf_lI hb]
  omega
theorem c_gr_loop {d : Nat} {B : Nat × Nat} {Q : mm_Q} (hC : CS n H S A I) {wt : Nat → Nat} (hW : WT wt (A 28)) {hit miss : Nat} (hHt : I 21 6 = nI hit) (hh : hit ≤ 100) (hM : I 21 7 = nI miss) (hmi : miss ≤ 100) {w : Nat} (hw : w < 6) :
    ∀ (j k b : Nat) (x z : Int32) (y : Int64) (u : Option Value), j + k = 90 → x = nI k → z = nI b → y = lN (LK n H S wt hit miss w b) → b < 90 → Q (some (.int (nI (gb (LK n H S wt hit miss w) j k b)))) (gm L xs A I F P) → wp (d + 3) B cd_Likely_greatest Q 9 [some (.ref 32), some (.int (nI w)), some (.int z), some (.long y), none, some (.int x), u, none] [] (gm L xs A I F P) := by
  intro j
  induction j with
  | zero =>
    intro k b x z y u hj hx hz hy hb hq
    refine mm_WP.go [9] 100 (lp_ge (N := 90) hx rfl (by omega) (by omega) (fun _ => ?_) (fun h => absurd h (by omega)))
    subst hz
    exact hq
  | succ j ih =>
    intro k b x z y u hj hx hz hy hb hq
    have hk : k < 90 := by omega
    refine mm_WP.go [9] 100 (lp_ge (N := 90) hx rfl (by omega) (by omega) (fun h => absurd h (by omega)) (fun _ => ?_))
    subst hx
    refine ⟨_, c_of d hC hW hHt hh hM hmi hw hk, ?_⟩
    rintro r m1 ⟨rfl, rfl⟩
    have l1 := LK_le (n := n) (H := H) (S := S) (w := w) (m := k) (hW (kd k) (kd_lt k)).2.2 hh hmi
    have l2 := LK_le (n := n) (H := H) (S := S) (w := w) (m := b) (hW (kd b) (kd_lt b)).2.2 hh hmi
    rw [gb] at hq
    refine ⟨fun c => ?_, fun c => ?_⟩
    · rw [hy, lcmp_le (by omega) (by omega)] at c
      rw [if_neg (by omega)] at hq
      exact ih (k + 1) b _ _ _ _ (by omega) (nI_1 k) hz hy hb hq
    · rw [hy, lcmp_le (by omega) (by omega)] at c
      rw [if_pos (by omega)] at hq
      exact ih (k + 1) k _ _ _ _ (by omega) (nI_1 k) rfl rfl hk hq
theorem c_greatest (d : Nat) (hC : CS n H S A I) {wt : Nat → Nat} (hW : WT wt (A 28)) {hit miss : Nat} (hHt : I 21 6 = nI hit) (hh : hit ≤ 100) (hM : I 21 7 = nI miss) (hmi : miss ≤ 100) {w : Nat} (hw : w < 6) : sp (d + 4) 26 [.ref 32, .int (nI w)] (gm L xs A I F P) (ans (gm L xs A I F P) (nI (gb (LK n H S wt hit miss w) 89 1 0))) := by
  refine ⟨⟨_, rfl⟩, rfl, mm_WP.go [9] 100 ?_⟩
  have l1 := LK_le (n := n) (H := H) (S := S) (w := w) (m := 0) (hW (kd 0) (kd_lt 0)).2.2 hh hmi
  -- the first meaning
  refine mm_WP.go [9] 100 ⟨fun c => absurd c (by decide), fun _ => ⟨_, c_of d hC hW hHt hh hM hmi hw (show 0 < 90 by decide), ?_⟩⟩
  rintro r m1 ⟨rfl, rfl⟩
  refine ⟨fun c => ?_, fun c => ?_⟩
  · rw [lg_cmp_le, fa_le64, pf_lI (Nat.lt_of_le_of_lt l1 (by decide))] at c
    have : (-1 : Int64).toInt = -1 := by decide
    rw [this] at c
    omega
  · exact c_gr_loop hC hW hHt hh hM hmi hw 89 1 0 _ _ _ _ rfl rfl rfl rfl (by decide) ⟨rfl, rfl⟩
theorem m_lt_loop {d : Nat} {B : Nat × Nat} {Q : mm_Q} (hR : RS n H S A I) {wt : Nat → Nat} (hW : WT wt (A 45)) {hit miss : Nat} (hHt : I 38 8 = nI hit) (hh : hit ≤ 100) (hM : I 38 9 = nI miss) (hmi : miss ≤ 100) {w : Nat} (hw : w < 6) :
    ∀ (j k b : Nat) (x z : Int32), j + k = 90 → x = nI k → z = nI b → b < 90 → Q (some (.int (nI (gb (LK n H S wt hit miss w) j k b)))) (gm L xs A I F P) → wp (d + 2) B cd_Model_likeliest Q 17 [some (.ref 38), some (.int (nI w)), some (.int z), some (.int x)] [] (gm L xs A I F P) := by
  intro j
  induction j with
  | zero =>
    intro k b x z hj hx hz hb hq
    refine mm_WP.go [17] 100 (lp_ge (N := 90) hx rfl (by omega) (by omega) (fun _ => ?_) (fun h => absurd h (by omega)))
    subst hz
    exact hq
  | succ j ih =>
    intro k b x z hj hx hz hb hq
    have hk : k < 90 := by omega
    refine mm_WP.go [17] 100 (lp_ge (N := 90) hx rfl (by omega) (by omega) (fun h => absurd h (by omega)) (fun _ => ?_))
    subst hx
    subst hz
    refine ⟨_, m_lo d hR hW hHt hh hM hmi hw hk, ?_⟩
    rintro r m1 ⟨rfl, rfl⟩
    refine ⟨_, m_lo d hR hW hHt hh hM hmi hw hb, ?_⟩
    rintro r m1 ⟨rfl, rfl⟩
    have l1 := LK_le (n := n) (H := H) (S := S) (w := w) (m := k) (hW (kd k) (kd_lt k)).2.2 hh hmi
    have l2 := LK_le (n := n) (H := H) (S := S) (w := w) (m := b) (hW (kd b) (kd_lt b)).2.2 hh hmi
    rw [gb] at hq
    refine ⟨fun c => ?_, fun c => ?_⟩
    · rw [lcmp_le (by omega) (by omega)] at c
      rw [if_neg (by omega)] at hq
      exact ih (k + 1) b _ _ (by omega) (nI_1 k) rfl hb hq
    · rw [lcmp_le (by omega) (by omega)] at c
      rw [if_pos (by omega)] at hq
      exact ih (k + 1) k _ _ (by omega) (nI_1 k) rfl hk hq
theorem m_likeliest (d : Nat) (hR : RS n H S A I) {wt : Nat → Nat} (hW : WT wt (A 45)) {hit miss : Nat} (hHt : I 38 8 = nI hit) (hh : hit ≤ 100) (hM : I 38 9 = nI miss) (hmi : miss ≤ 100) {w : Nat} (hw : w < 6) : sp (d + 5) 149 [.ref 38, .int (nI w)] (gm L xs A I F P) (ans (gm L xs A I F P) (nI (gb (LK n H S wt hit miss w) 89 1 0))) := by
  refine ⟨⟨_, rfl⟩, rfl, mm_WP.go [17] 100 ⟨_, m_isWord (d + 2) _ _, ?_⟩⟩
  rintro r m1 ⟨rfl, ⟨-, rfl⟩ | ⟨h, rfl⟩⟩
  · exact n1 (m_lt_loop (d := d + 2) hR hW hHt hh hM hmi hw 89 1 0 _ _ rfl rfl rfl (by decide) ⟨rfl, rfl⟩)
  · exact absurd (ix_n (N := 6) (by decide) hw).1 h
theorem m_likeliest_r (d : Nat) {w : Int32} (hw : ¬ vp_in w 6) : sp (d + 5) 149 [.ref 38, .int w] (gm L xs A I F P) (rM L xs A I F P 1 (-1)) := by
  refine ⟨⟨_, rfl⟩, rfl, mm_WP.go [17] 100 ⟨_, m_isWord (d + 2) _ _, ?_⟩⟩
  rintro r m1 ⟨rfl, ⟨h, rfl⟩ | ⟨h, rfl⟩⟩
  · exact absurd h hw
  · refine n0 ⟨_, m_rf1 (d + 3), ?_⟩
    rintro r m1 ⟨rfl, rfl⟩
    exact ⟨rfl, rfl⟩
theorem c_likeliest (d : Nat) (hC : CS n H S A I) {wt : Nat → Nat} (hW : WT wt (A 28)) {hit miss : Nat} (hHt : I 21 6 = nI hit) (hh : hit ≤ 100) (hM : I 21 7 = nI miss) (hmi : miss ≤ 100) {w : Nat} (hw : w < 6) : sp (d + 5) 94 [.ref 6, .int (nI w)] (gm L xs A I F P) (ans (gm L xs A I F P) (nI (gb (LK n H S wt hit miss w) 89 1 0))) := by
  refine ⟨⟨_, rfl⟩, rfl, mm_WP.go [] 100 ⟨_, c_noWord (d + 3) _ _, ?_⟩⟩
  rintro r m1 ⟨rfl, ⟨h, rfl⟩ | ⟨-, rfl⟩⟩
  · exact absurd (ix_n (N := 6) (by decide) hw).1 h
  · refine e0 ⟨_, c_greatest d hC hW hHt hh hM hmi hw, ?_⟩
    rintro r m1 ⟨rfl, rfl⟩
    exact ⟨rfl, rfl⟩
theorem c_likeliest_r (d : Nat) {w : Int32} (hw : ¬ vp_in w 6) : sp (d + 5) 94 [.ref 6, .int w] (gm L xs A I F P) (rC L xs A I F P 1 (-1)) := by
  refine ⟨⟨_, rfl⟩, rfl, mm_WP.go [] 100 ⟨_, c_noWord (d + 3) _ _, ?_⟩⟩
  rintro r m1 ⟨rfl, ⟨h, rfl⟩ | ⟨h, rfl⟩⟩
  · refine e1 ⟨_, c_rf1 (d + 3), ?_⟩
    rintro r m1 ⟨rfl, rfl⟩
    exact ⟨rfl, rfl⟩
  · exact absurd hw h
end M9
end
section
/-! chance -/
theorem lcmp_z {a : Nat} (ha : a < 2 ^ 63) : (lg_cmp (lN a) 0 = 0) ↔ a = 0 := by
  have h : (lg_cmp (lN a) 0 = 0) ↔ (lN a = 0) := by
    unfold lg_cmp
    by_cases h1 : lN a > 0
    · rw [if_pos h1]
      refine ⟨fun c => absurd c (by decide), fun c => ?_⟩
      rw [c] at h1
      exact absurd h1 (by decide)
    · rw [if_neg h1]
      by_cases h2 : lN a = 0
      · rw [if_pos h2]
        exact ⟨fun _ => h2, fun _ => rfl⟩
      · rw [if_neg h2]
        exact ⟨fun c => absurd c (by decide), fun c => absurd c h2⟩
  rw [h, fa_eq64, pf_lI ha, show (0 : Int64).toInt = 0 from rfl]
  omega
theorem lN_nz {a : Nat} (ha : a < 2 ^ 63) (h : a ≠ 0) : ¬ lN a = 0 := by
  rw [fa_eq64, pf_lI ha, show (0 : Int64).toInt = 0 from rfl]
  omega
theorem gcd_step (x y : Nat) : Nat.gcd y (x % y) = Nat.gcd x y := by
  rw [Nat.gcd_comm x y, Nat.gcd_rec y x, Nat.gcd_comm]
section M10
variable {L : Nat} {xs : Nat → Int32} {A I : Nat → Nat → Int32} {F : Nat → Nat → Option Nat} {P : mm_M} {n : Nat} {H S : Nat → Nat → Bool}
theorem c_gcd_head {d : Nat} {B : Nat × Nat} {Q : mm_Q} {mem : mm_M} {a b : Int64} {i x y : Nat} (hx : x < 2 ^ 63) (hy : y < 2 ^ 63) (hi : i ≤ 200) (hz : y = 0 → Q (some (.long (lN x))) mem) (hl : y ≠ 0 → i < 200) {u : Option Value}
    (hs : y ≠ 0 → wp d B cd_Likely_commonDivisor Q 9 [some (.long a), none, some (.long b), none, some (.long (lN y)), none, some (.long (lN (x % y))), none, some (.int (nI (i + 1))), some (.long (lN (x % y))), none] [] mem) :
    wp d B cd_Likely_commonDivisor Q 9 [some (.long a), none, some (.long b), none, some (.long (lN x)), none, some (.long (lN y)), none, some (.int (nI i)), u, none] [] mem := by
  refine mm_WP.go [9] 100 (lp_ge (N := 200) (k := i) rfl rfl (by omega) hi (fun h => ?_) (fun h => ⟨fun c => ?_, fun c => ?_⟩))
  · by_cases h0 : y = 0
    · exact hz h0
    · exact absurd (hl h0) (by omega)
  · exact hz ((lcmp_z hy).mp c)
  · have h0 : y ≠ 0 := fun h => c ((lcmp_z hy).mpr h)
    refine ⟨lN_nz hy h0, ?_⟩
    have h1 := hs h0
    rw [← nI_1] at h1
    rw [pk_lRem hx (by omega) hy]
    exact h1
theorem c_gcd_loop {d : Nat} {B : Nat × Nat} {Q : mm_Q} {mem : mm_M} {a b : Int64} : ∀ (f i x y : Nat) (u : Option Value), x < 2 ^ 63 → y < 2 ^ 63 → y < 2 ^ f → i + 2 * f ≤ 200 → Q (some (.long (lN (Nat.gcd x y)))) mem → wp d B cd_Likely_commonDivisor Q 9 [some (.long a), none, some (.long b), none, some (.long (lN x)), none, some (.long (lN y)), none, some (.int (nI i)), u, none] [] mem
  | 0, i, x, y, u, hx, hy, hf, hi, hq => by
    have h0 : y = 0 := by omega
    subst h0
    rw [Nat.gcd_zero_right] at hq
    exact c_gcd_head hx hy (by omega) (fun _ => hq) (fun h => absurd rfl h) (fun h => absurd rfl h)
  | f + 1, i, x, y, u, hx, hy, hf, hi, hq => by
    refine c_gcd_head hx hy (by omega) (fun h => ?_) (fun _ => by omega) (fun h => ?_)
    · subst h
      rw [Nat.gcd_zero_right] at hq
      exact hq
    · have hr : x % y < y := Nat.mod_lt _ (by omega)
      rw [← gcd_step] at hq
      refine c_gcd_head hy (by omega) (by omega) (fun h1 => ?_) (fun _ => by omega) (fun h1 => ?_)
      · rw [h1, Nat.gcd_zero_right] at hq
        exact hq
      · have hr2 : y % (x % y) < x % y := Nat.mod_lt _ (by omega)
        have hr3 : 2 * (y % (x % y)) < y := by
          have h4 := Nat.div_add_mod y (x % y)
          have h5 : 1 ≤ y / (x % y) := (Nat.one_le_div_iff (by omega)).mpr (by omega)
          have h6 : (x % y) * 1 ≤ (x % y) * (y / (x % y)) := Nat.mul_le_mul_left _ h5
          omega
        rw [← gcd_step] at hq
        exact c_gcd_loop f (i + 1 + 1) (x % y) (y % (x % y)) _ (by omega) (by omega) (by rw [Nat.pow_succ] at hf; omega) (by omega) hq
theorem c_gcd (d : Nat) {a b : Nat} (ha : a < 2 ^ 63) (hb : b < 2 ^ 63) (mem : mm_M) : sp (d + 1) 24 [.long (lN a), .long (lN b)] mem (fun r m => r = some (.long (lN (Nat.gcd a b))) ∧ m = mem) := by
  refine ⟨trivial, rfl, mm_WP.go [9] 100 ?_⟩
  exact c_gcd_loop 63 0 a b none ha hb hb (by decide) ⟨rfl, rfl⟩
theorem m_gcd_loop {d : Nat} {B : Nat × Nat} {Q : mm_Q} {mem : mm_M} {a b : Int64} : ∀ (f x y : Nat) (u : Option Value), x < 2 ^ 63 → y < 2 ^ 63 → y < f → Q (some (.long (lN (Nat.gcd x y)))) mem → wp d B cd_Model_divisor Q 6 [some (.long a), none, some (.long b), none, some (.long (lN x)), none, some (.long (lN y)), none, u, none] [] mem
  | 0, x, y, u, hx, hy, hf, hq => absurd hf (by omega)
  | f + 1, x, y, u, hx, hy, hf, hq => by
    refine mm_WP.go [6] 100 ⟨fun c => ?_, fun c => ?_⟩
    · have h0 := (lcmp_z hy).mp c
      subst h0
      rw [Nat.gcd_zero_right] at hq
      exact hq
    · have h0 : y ≠ 0 := fun h => c ((lcmp_z hy).mpr h)
      refine ⟨lN_nz hy h0, ?_⟩
      have hr : x % y < y := Nat.mod_lt _ (by omega)
      rw [pk_lRem hx (by omega) hy]
      rw [← gcd_step] at hq
      exact m_gcd_loop f y (x % y) _ hy (by omega) (by omega) hq
theorem m_gcd (d : Nat) {a b : Nat} (ha : a < 2 ^ 63) (hb : b < 2 ^ 63) (mem : mm_M) : sp (d + 1) 148 [.long (lN a), .long (lN b)] mem (fun r m => r = some (.long (lN (Nat.gcd a b))) ∧ m = mem) := by
  refine ⟨trivial, rfl, mm_WP.go [6] 100 ?_⟩
  exact m_gcd_loop (b + 1) a b none ha hb (by omega) ⟨rfl, rfl⟩
theorem sm_le {f : Nat → Nat} {M : Nat} (h : ∀ k, k < 90 → f k ≤ M) : ∀ j, j ≤ 90 → fb_sm f j ≤ M * j
  | 0, _ => Nat.le_refl _
  | j + 1, hj => by
    have h1 := sm_le h j (by omega)
    have h2 := h j (by omega)
    rw [fb_sm_succ, Nat.mul_succ]
    omega
abbrev LL (n : Nat) (H S : Nat → Nat → Bool) (wt : Nat → Nat) (hit miss w : Nat) : Nat := fb_sm (fun m => LK n H S wt hit miss w m) 90
theorem LL_le {wt : Nat → Nat} {hit miss w : Nat} (hw : ∀ k, k < 8 → wt k ≤ 99) (hh : hit ≤ 100) (hm : miss ≤ 100) : LL n H S wt hit miss w ≤ 8910000000000000 := by
  have h := sm_le (f := fun m => LK n H S wt hit miss w m) (M := 99000000000000) (fun k _ => LK_le (hw _ (kd_lt k)) hh hm) 90 (Nat.le_refl _)
  omega
theorem c_ofAll_loop {d : Nat} {B : Nat × Nat} {Q : mm_Q} (hC : CS n H S A I) {wt : Nat → Nat} (hW : WT wt (A 28)) {hit miss : Nat} (hHt : I 21 6 = nI hit) (hh : hit ≤ 100) (hM : I 21 7 = nI miss) (hmi : miss ≤ 100) {w : Nat} (hw : w < 6) (hq : Q (some (.long (lN (LL n H S wt hit miss w)))) (gm L xs A I F P)) :
    ∀ (j k : Nat) (x : Int32) (y : Int64), j + k = 90 → x = nI k → y = lN (fb_sm (fun m => LK n H S wt hit miss w m) k) → wp (d + 3) B cd_Likely_ofAll Q 5 [some (.ref 32), some (.int (nI w)), some (.long y), none, some (.int x)] [] (gm L xs A I F P) := by
  intro j
  induction j with
  | zero =>
    intro k x y hj hx hy
    refine mm_WP.go [5] 100 (lp_ge (N := 90) hx rfl (by omega) (by omega) (fun h => ?_) (fun h => absurd h (by omega)))
    subst h
    rw [hy]
    exact hq
  | succ j ih =>
    intro k x y hj hx hy
    refine mm_WP.go [5] 100 (lp_ge (N := 90) hx rfl (by omega) (by omega) (fun h => absurd h (by omega)) (fun _ => ?_))
    subst hx
    refine ⟨_, c_of d hC hW hHt hh hM hmi hw (show k < 90 by omega), ?_⟩
    rintro r m1 ⟨rfl, rfl⟩
    refine ih (k + 1) _ _ (by omega) (nI_1 k) ?_
    rw [hy, lN_add, fb_sm_succ]
theorem c_ofAll (d : Nat) (hC : CS n H S A I) {wt : Nat → Nat} (hW : WT wt (A 28)) {hit miss : Nat} (hHt : I 21 6 = nI hit) (hh : hit ≤ 100) (hM : I 21 7 = nI miss) (hmi : miss ≤ 100) {w : Nat} (hw : w < 6) : sp (d + 4) 23 [.ref 32, .int (nI w)] (gm L xs A I F P) (fun r m => r = some (.long (lN (LL n H S wt hit miss w))) ∧ m = gm L xs A I F P) := by
  refine ⟨⟨_, rfl⟩, rfl, mm_WP.go [5] 100 ?_⟩
  exact c_ofAll_loop hC hW hHt hh hM hmi hw ⟨rfl, rfl⟩ 90 0 _ _ rfl rfl rfl
/-- the chance: above the line, below it -/
def ch (v all pt : Nat) : Nat := if v = 0 then pt else if pt = 0 then v / Nat.gcd v all else all / Nat.gcd v all
theorem c_above (d : Nat) (hC : CS n H S A I) {wt : Nat → Nat} (hW : WT wt (A 28)) {hit miss : Nat} (hHt : I 21 6 = nI hit) (hh : hit ≤ 100) (hM : I 21 7 = nI miss) (hmi : miss ≤ 100) {w m : Nat} (hw : w < 6) (hm : m < 90) : sp (d + 5) 22 [.ref 32, .int (nI w), .int (nI m)] (gm L xs A I F P) (fun r m1 => r = some (.long (lN (ch (LK n H S wt hit miss w m) (LL n H S wt hit miss w) 0))) ∧ m1 = gm L xs A I F P) := by
  have l1 := LK_le (n := n) (H := H) (S := S) (w := w) (m := m) (hW (kd m) (kd_lt m)).2.2 hh hmi
  have l2 := LL_le (n := n) (H := H) (S := S) (w := w) (fun k hk => (hW k hk).2.2) hh hmi
  refine ⟨⟨_, rfl⟩, rfl, mm_WP.go [] 100 ⟨_, c_of (d + 1) hC hW hHt hh hM hmi hw hm, ?_⟩⟩
  generalize LK n H S wt hit miss w m = v at *
  rintro r m1 ⟨rfl, rfl⟩
  refine ⟨_, c_ofAll d hC hW hHt hh hM hmi hw, ?_⟩
  generalize LL n H S wt hit miss w = all at *
  rintro r m1 ⟨rfl, rfl⟩
  have hv : v < 2 ^ 63 := Nat.lt_of_le_of_lt l1 (by decide)
  have ha : all < 2 ^ 63 := Nat.lt_of_le_of_lt l2 (by decide)
  refine ⟨_, c_gcd (d + 3) hv ha _, ?_⟩
  rintro r m1 ⟨rfl, rfl⟩
  have hg : Nat.gcd v all < 2 ^ 63 := by
    rcases Nat.eq_zero_or_pos all with h | h
    · rw [h, Nat.gcd_zero_right]; exact hv
    · exact Nat.lt_of_le_of_lt (Nat.gcd_le_right _ h) ha
  unfold ch
  refine ⟨fun c => ?_, fun c => ?_⟩
  · have h0 : Nat.gcd v all ≠ 0 := fun h => c ((lcmp_z hg).mpr h)
    refine ⟨lN_nz hg h0, ?_, rfl⟩
    rw [pk_lDiv hv (by omega) hg]
    by_cases hv0 : v = 0
    · rw [if_pos hv0, hv0, Nat.zero_div]
    · rw [if_neg hv0, if_pos rfl]
  · have h0 := (lcmp_z hg).mp c
    rw [if_pos (Nat.eq_zero_of_gcd_eq_zero_left h0)]
    exact ⟨rfl, rfl⟩
theorem c_below (d : Nat) (hC : CS n H S A I) {wt : Nat → Nat} (hW : WT wt (A 28)) {hit miss : Nat} (hHt : I 21 6 = nI hit) (hh : hit ≤ 100) (hM : I 21 7 = nI miss) (hmi : miss ≤ 100) {w m : Nat} (hw : w < 6) (hm : m < 90) : sp (d + 5) 25 [.ref 32, .int (nI w), .int (nI m)] (gm L xs A I F P) (fun r m1 => r = some (.long (lN (ch (LK n H S wt hit miss w m) (LL n H S wt hit miss w) 1))) ∧ m1 = gm L xs A I F P) := by
  have l1 := LK_le (n := n) (H := H) (S := S) (w := w) (m := m) (hW (kd m) (kd_lt m)).2.2 hh hmi
  have l2 := LL_le (n := n) (H := H) (S := S) (w := w) (fun k hk => (hW k hk).2.2) hh hmi
  have hc1 := c_of (L := L) (xs := xs) (F := F) (P := P) (d + 1) hC hW hHt hh hM hmi hw hm
  refine ⟨⟨_, rfl⟩, rfl, mm_WP.go [] 100 ⟨_, c_ofAll d hC hW hHt hh hM hmi hw, ?_⟩⟩
  generalize LL n H S wt hit miss w = all at *
  generalize LK n H S wt hit miss w m = v at *
  rintro r m1 ⟨rfl, rfl⟩
  refine ⟨_, hc1, ?_⟩
  rintro r m1 ⟨rfl, rfl⟩
  have hv : v < 2 ^ 63 := Nat.lt_of_le_of_lt l1 (by decide)
  have ha : all < 2 ^ 63 := Nat.lt_of_le_of_lt l2 (by decide)
  refine ⟨_, c_gcd (d + 3) hv ha _, ?_⟩
  rintro r m1 ⟨rfl, rfl⟩
  have hg : Nat.gcd v all < 2 ^ 63 := by
    rcases Nat.eq_zero_or_pos all with h | h
    · rw [h, Nat.gcd_zero_right]; exact hv
    · exact Nat.lt_of_le_of_lt (Nat.gcd_le_right _ h) ha
  unfold ch
  refine ⟨fun c => ?_, fun c => ?_⟩
  · have h0 : Nat.gcd v all ≠ 0 := fun h => c ((lcmp_z hg).mpr h)
    refine ⟨lN_nz hg h0, ?_, rfl⟩
    rw [pk_lDiv ha (by omega) hg]
    by_cases hv0 : v = 0
    · rw [if_pos hv0]
      rw [hv0, Nat.gcd_zero_left] at h0 ⊢
      rw [Nat.div_self (by omega)]
    · rw [if_neg hv0, if_neg (by decide)]
  · have h0 := (lcmp_z hg).mp c
    rw [if_pos (Nat.eq_zero_of_gcd_eq_zero_left h0)]
    exact ⟨rfl, rfl⟩
end M10
end
section
/-! calls, shortly; the faces of likelihood and chance -/
theorem ca {X : mm_Q → Prop} {a : Option Value} {mem : mm_M} {K : Option Value → mm_M → Prop} (h : X (fun r m => r = a ∧ m = mem)) (k : K a mem) : ∃ Q, X Q ∧ ∀ r m, Q r m → K r m := ⟨_, h, by rintro r m ⟨rfl, rfl⟩; exact k⟩
theorem cy {X : mm_Q → Prop} {C : Prop} {mem : mm_M} {K : Option Value → mm_M → Prop} (h : X (yes mem C)) (k1 : C → K (some (.int 1)) mem) (k0 : ¬ C → K (some (.int 0)) mem) : ∃ Q, X Q ∧ ∀ r m, Q r m → K r m := ⟨_, h, by
  rintro r m ⟨rfl, ⟨h, rfl⟩ | ⟨h, rfl⟩⟩
  · exact k1 h
  · exact k0 h⟩
/-- downwards: each from the next -/
theorem rep {R : Nat → Prop} (N : Nat) (hN : R N) (h : ∀ k, k < N → R (k + 1) → R k) : ∀ k, k ≤ N → R k := by
  have h2 : ∀ j k, j + k = N → R k := by
    intro j
    induction j with
    | zero =>
      intro k hk
      have : k = N := by omega
      subst this
      exact hN
    | succ j ih => exact fun k hk => h k (by omega) (ih (k + 1) (by omega))
  exact fun k hk => h2 (N - k) k (by omega)
section M11
variable {L : Nat} {xs : Nat → Int32} {A I : Nat → Nat → Int32} {F : Nat → Nat → Option Nat} {P : mm_M} {n : Nat} {H S : Nat → Nat → Bool}
abbrev rCL (L : Nat) (xs : Nat → Int32) (A I : Nat → Nat → Int32) (F : Nat → Nat → Option Nat) (P : mm_M) (k : Nat) (w : Int32) : mm_Q := fun r m => r = some (.long (-4000000000000000000 + w.toInt64)) ∧ m = gm L xs (uA A 20 k (A 20 k + 1)) I F P
abbrev rML (L : Nat) (xs : Nat → Int32) (A I : Nat → Nat → Int32) (F : Nat → Nat → Option Nat) (P : mm_M) (k : Nat) (w : Int32) : mm_Q := fun r m => r = some (.long (-4000000000000000000 + w.toInt64)) ∧ m = gm L xs (uA A 50 k (A 50 k + 1)) I F P
theorem c_likelihood (d : Nat) (hC : CS n H S A I) {wt : Nat → Nat} (hW : WT wt (A 28)) {hit miss : Nat} (hHt : I 21 6 = nI hit) (hh : hit ≤ 100) (hM : I 21 7 = nI miss) (hmi : miss ≤ 100) {w m : Nat} (hw : w < 6) (hm : m < 90) : sp (d + 4) 92 [.ref 6, .int (nI w), .int (nI m)] (gm L xs A I F P) (fun r m1 => r = some (.long (lN (LK n H S wt hit miss w m))) ∧ m1 = gm L xs A I F P) := by
  refine ⟨⟨_, rfl⟩, rfl, mm_WP.go [] 100 (cy (c_noWord (d + 2) _ _) (fun h => absurd (ix_n (N := 6) (by decide) hw).1 h) (fun _ => ?_))⟩
  refine n0 (cy (c_noMeaning (d + 2) _ _) (fun h => absurd (ix_n (N := 90) (by decide) hm).1 h) (fun _ => ?_))
  refine e0 (ca (c_of d hC hW hHt hh hM hmi hw hm) ?_)
  exact ⟨rfl, rfl⟩
theorem c_likelihood_r (d : Nat) {w m : Int32} (hh : ¬ (vp_in w 6 ∧ vp_in m 90)) : sp (d + 4) 92 [.ref 6, .int w, .int m] (gm L xs A I F P) (rCL L xs A I F P 1 (-1)) := by
  refine ⟨⟨_, rfl⟩, rfl, mm_WP.go [] 100 (cy (c_noWord (d + 2) _ _) (fun h => ?_) (fun h => ?_))⟩
  · exact n1 (ca (c_rf1 (d + 2)) ⟨rfl, rfl⟩)
  · refine n0 (cy (c_noMeaning (d + 2) _ _) (fun h2 => ?_) (fun h2 => ?_))
    · exact e1 (ca (c_rf1 (d + 2)) ⟨rfl, rfl⟩)
    · exact absurd ⟨Classical.not_not.mp h, Classical.not_not.mp h2⟩ hh
theorem m_likelihood (d : Nat) (hR : RS n H S A I) {wt : Nat → Nat} (hW : WT wt (A 45)) {hit miss : Nat} (hHt : I 38 8 = nI hit) (hh : hit ≤ 100) (hM : I 38 9 = nI miss) (hmi : miss ≤ 100) {w m : Nat} (hw : w < 6) (hm : m < 90) : sp (d + 4) 145 [.ref 38, .int (nI w), .int (nI m)] (gm L xs A I F P) (fun r m1 => r = some (.long (lN (LK n H S wt hit miss w m))) ∧ m1 = gm L xs A I F P) := by
  refine ⟨⟨_, rfl⟩, rfl, mm_WP.go [] 100 (cy (m_isWord (d + 1) _ _) (fun _ => ?_) (fun h => absurd (ix_n (N := 6) (by decide) hw).1 h))⟩
  refine e1 (cy (m_isMeaning (d + 1) _ _) (fun _ => ?_) (fun h => absurd (ix_n (N := 90) (by decide) hm).1 h))
  refine e1 (ca (m_lo (d + 1) hR hW hHt hh hM hmi hw hm) ?_)
  exact ⟨rfl, rfl⟩
theorem m_likelihood_r (d : Nat) {w m : Int32} (hh : ¬ (vp_in w 6 ∧ vp_in m 90)) : sp (d + 4) 145 [.ref 38, .int w, .int m] (gm L xs A I F P) (rML L xs A I F P 1 (-1)) := by
  refine ⟨⟨_, rfl⟩, rfl, mm_WP.go [] 100 (cy (m_isWord (d + 1) _ _) (fun h => ?_) (fun h => ?_))⟩
  · refine e1 (cy (m_isMeaning (d + 1) _ _) (fun h2 => absurd ⟨h, h2⟩ hh) (fun h2 => ?_))
    exact e0 (ca (m_rf1 (d + 2)) ⟨rfl, rfl⟩)
  · exact e0 (ca (m_rf1 (d + 2)) ⟨rfl, rfl⟩)
theorem c_chance (d : Nat) (hC : CS n H S A I) {wt : Nat → Nat} (hW : WT wt (A 28)) {hit miss : Nat} (hHt : I 21 6 = nI hit) (hh : hit ≤ 100) (hM : I 21 7 = nI miss) (hmi : miss ≤ 100) {w m pt : Nat} (hw : w < 6) (hm : m < 90) (hp : pt < 2) : sp (d + 6) 93 [.ref 6, .int (nI w), .int (nI m), .int (nI pt)] (gm L xs A I F P) (fun r m1 => r = some (.long (lN (ch (LK n H S wt hit miss w m) (LL n H S wt hit miss w) pt))) ∧ m1 = gm L xs A I F P) := by
  have hp : pt = 0 ∨ pt = 1 := by omega
  have key : wp (d + 5) (mm_Al 93) cd_Word_chance (fun r m1 => r = some (.long (lN (ch (LK n H S wt hit miss w m) (LL n H S wt hit miss w) pt))) ∧ m1 = gm L xs A I F P) 21 [some (.ref 6), some (.int (nI w)), some (.int (nI m)), some (.int (nI pt))] [] (gm L xs A I F P) := by
    refine mm_WP.go [] 100 (cy (c_noWord (d + 4) _ _) (fun h => absurd (ix_n (N := 6) (by decide) hw).1 h) (fun _ => ?_))
    refine n0 (cy (c_noMeaning (d + 4) _ _) (fun h => absurd (ix_n (N := 90) (by decide) hm).1 h) (fun _ => ?_))
    rcases hp with rfl | rfl
    · exact e0 (n0 (ca (c_above d hC hW hHt hh hM hmi hw hm) ⟨rfl, rfl⟩))
    · exact e0 (n1 (ca (c_below d hC hW hHt hh hM hmi hw hm) ⟨rfl, rfl⟩))
  rcases hp with rfl | rfl
  · exact ⟨⟨_, rfl⟩, rfl, mm_WP.go [21] 100 (e0 key)⟩
  · exact ⟨⟨_, rfl⟩, rfl, mm_WP.go [21] 100 (e1 ⟨fun _ => key, fun c => absurd rfl c⟩)⟩
theorem c_chance_2 (d : Nat) {w m pt : Int32} (hp : ¬ vp_in pt 2) : sp (d + 6) 93 [.ref 6, .int w, .int m, .int pt] (gm L xs A I F P) (rCL L xs A I F P 2 (-2)) := by
  refine ⟨⟨_, rfl⟩, rfl, mm_WP.go [21] 100 ⟨fun c => ?_, fun c => ⟨fun c2 => ?_, fun c2 => ?_⟩⟩⟩
  · exact absurd (c ▸ vp_in_iff.mpr (by decide)) hp
  · exact absurd (c2 ▸ vp_in_iff.mpr (by decide)) hp
  · exact ca (c_rf2 (d + 4)) ⟨rfl, rfl⟩
theorem c_chance_1 (d : Nat) {w m pt : Int32} (hp : vp_in pt 2) (hh : ¬ (vp_in w 6 ∧ vp_in m 90)) : sp (d + 6) 93 [.ref 6, .int w, .int m, .int pt] (gm L xs A I F P) (rCL L xs A I F P 1 (-1)) := by
  have key : wp (d + 5) (mm_Al 93) cd_Word_chance (rCL L xs A I F P 1 (-1)) 21 [some (.ref 6), some (.int w), some (.int m), some (.int pt)] [] (gm L xs A I F P) := by
    refine mm_WP.go [] 100 (cy (c_noWord (d + 4) _ _) (fun h => ?_) (fun h => ?_))
    · exact n1 (ca (c_rf1 (d + 4)) ⟨rfl, rfl⟩)
    · refine n0 (cy (c_noMeaning (d + 4) _ _) (fun h2 => ?_) (fun h2 => ?_))
      · exact e1 (ca (c_rf1 (d + 4)) ⟨rfl, rfl⟩)
      · exact absurd ⟨Classical.not_not.mp h, Classical.not_not.mp h2⟩ hh
  refine ⟨⟨_, rfl⟩, rfl, mm_WP.go [21] 100 ⟨fun _ => key, fun c => ⟨fun _ => key, fun c2 => ?_⟩⟩⟩
  obtain ⟨k, hk, rfl⟩ := vp_in_of hp (by decide)
  have : k = 0 ∨ k = 1 := by omega
  rcases this with rfl | rfl
  · exact absurd rfl c
  · exact absurd rfl c2
theorem in_01 {s : Int32} : ((0 : Int64) ≤ s.toInt64 ∧ s.toInt64 ≤ 1) ↔ vp_in s 2 := in_vp (b := 1) (n := 2) rfl
theorem m_chance_loop {d : Nat} {B : Nat × Nat} {Q : mm_Q} (hR : RS n H S A I) {wt : Nat → Nat} (hW : WT wt (A 45)) {hit miss : Nat} (hHt : I 38 8 = nI hit) (hh : hit ≤ 100) (hM : I 38 9 = nI miss) (hmi : miss ≤ 100) {w m pt : Nat} (hw : w < 6) (hm : m < 90) (hp : pt < 2) (hq : Q (some (.long (lN (ch (LK n H S wt hit miss w m) (LL n H S wt hit miss w) pt)))) (gm L xs A I F P)) :
    ∀ (j k : Nat) (x : Int32) (y : Int64), j + k = 90 → x = nI k → y = lN (fb_sm (fun m => LK n H S wt hit miss w m) k) → wp (d + 2) B cd_Model_chance Q 53 [some (.ref 38), some (.int (nI w)), some (.int (nI m)), some (.int (nI pt)), some (.long y), none, some (.int x), none, none, none] [] (gm L xs A I F P) := by
  have l1 := LK_le (n := n) (H := H) (S := S) (w := w) (m := m) (hW (kd m) (kd_lt m)).2.2 hh hmi
  have l2 := LL_le (n := n) (H := H) (S := S) (w := w) (fun k hk => (hW k hk).2.2) hh hmi
  intro j
  induction j with
  | zero =>
    intro k x y hj hx hy
    refine mm_WP.go [53] 100 (lp_ge (N := 90) hx rfl (by omega) (by omega) (fun h => ?_) (fun h => absurd h (by omega)))
    subst h
    subst hy
    refine ca (m_lo d hR hW hHt hh hM hmi hw hm) ?_
    change Q (some (.long (lN (ch _ (fb_sm (fun m => LK n H S wt hit miss w m) 90) pt)))) _ at hq
    change fb_sm (fun m => LK n H S wt hit miss w m) 90 ≤ _ at l2
    generalize fb_sm (fun m => LK n H S wt hit miss w m) 90 = all at *
    have hle : LK n H S wt hit miss w m = 0 ∨ LK n H S wt hit miss w m ≠ 0 := by omega
    generalize LK n H S wt hit miss w m = v at *
    have hv : v < 2 ^ 63 := Nat.lt_of_le_of_lt l1 (by decide)
    have ha : all < 2 ^ 63 := Nat.lt_of_le_of_lt l2 (by decide)
    have hp : pt = 0 ∨ pt = 1 := by omega
    unfold ch at hq
    refine ⟨fun c => ?_, fun c => ?_⟩
    · have h0 : v ≠ 0 := fun h => c ((lcmp_z hv).mpr h)
      rw [if_neg h0] at hq
      refine ca (m_gcd (d + 1) hv ha _) ?_
      have hg : Nat.gcd v all < 2 ^ 63 := Nat.lt_of_le_of_lt (Nat.gcd_le_left _ (by omega)) hv
      have hg0 : Nat.gcd v all ≠ 0 := fun h => h0 (Nat.eq_zero_of_gcd_eq_zero_left h)
      rcases hp with rfl | rfl
      · rw [if_pos rfl, ← pk_lDiv hv (by omega) hg] at hq
        exact n0 ⟨lN_nz hg hg0, hq⟩
      · rw [if_neg (by decide), ← pk_lDiv ha (by omega) hg] at hq
        exact n1 ⟨lN_nz hg hg0, hq⟩
    · have h0 := (lcmp_z hv).mp c
      rw [if_pos h0] at hq
      rcases hp with rfl | rfl
      · exact hq
      · exact hq
  | succ j ih =>
    intro k x y hj hx hy
    refine mm_WP.go [53] 100 (lp_ge (N := 90) hx rfl (by omega) (by omega) (fun h => absurd h (by omega)) (fun _ => ?_))
    subst hx
    refine ca (m_lo d hR hW hHt hh hM hmi hw (show k < 90 by omega)) ?_
    refine ih (k + 1) _ _ (by omega) (nI_1 k) ?_
    rw [hy, lN_add, fb_sm_succ]
theorem m_chance (d : Nat) (hR : RS n H S A I) {wt : Nat → Nat} (hW : WT wt (A 45)) {hit miss : Nat} (hHt : I 38 8 = nI hit) (hh : hit ≤ 100) (hM : I 38 9 = nI miss) (hmi : miss ≤ 100) {w m pt : Nat} (hw : w < 6) (hm : m < 90) (hp : pt < 2) : sp (d + 6) 147 [.ref 38, .int (nI w), .int (nI m), .int (nI pt)] (gm L xs A I F P) (fun r m1 => r = some (.long (lN (ch (LK n H S wt hit miss w m) (LL n H S wt hit miss w) pt))) ∧ m1 = gm L xs A I F P) := by
  refine ⟨⟨_, rfl⟩, rfl, mm_WP.go [53] 100 (cy (m_in (d + 4) _ _ _ _) (fun _ => ?_) (fun h => absurd (in_01.mpr (ix_n (N := 2) (by decide) hp).1) h))⟩
  refine n1 (cy (m_isWord (d + 3) _ _) (fun _ => ?_) (fun h => absurd (ix_n (N := 6) (by decide) hw).1 h))
  refine e1 (cy (m_isMeaning (d + 3) _ _) (fun _ => ?_) (fun h => absurd (ix_n (N := 90) (by decide) hm).1 h))
  exact n1 (m_chance_loop (d := d + 3) hR hW hHt hh hM hmi hw hm hp ⟨rfl, rfl⟩ 90 0 _ _ rfl rfl rfl)
theorem m_chance_2 (d : Nat) {w m pt : Int32} (hp : ¬ vp_in pt 2) : sp (d + 6) 147 [.ref 38, .int w, .int m, .int pt] (gm L xs A I F P) (rML L xs A I F P 2 (-2)) := by
  refine ⟨⟨_, rfl⟩, rfl, mm_WP.go [53] 100 (cy (m_in (d + 4) _ _ _ _) (fun h => absurd (in_01.mp h) hp) (fun _ => ?_))⟩
  exact n0 (ca (m_rf2 (d + 4)) ⟨rfl, rfl⟩)
theorem m_chance_1 (d : Nat) {w m pt : Int32} (hp : vp_in pt 2) (hh : ¬ (vp_in w 6 ∧ vp_in m 90)) : sp (d + 6) 147 [.ref 38, .int w, .int m, .int pt] (gm L xs A I F P) (rML L xs A I F P 1 (-1)) := by
  refine ⟨⟨_, rfl⟩, rfl, mm_WP.go [53] 100 (cy (m_in (d + 4) _ _ _ _) (fun _ => ?_) (fun h => absurd (in_01.mpr hp) h))⟩
  refine n1 (cy (m_isWord (d + 3) _ _) (fun h => ?_) (fun h => ?_))
  · refine e1 (cy (m_isMeaning (d + 3) _ _) (fun h2 => absurd ⟨h, h2⟩ hh) (fun h2 => ?_))
    exact n0 (ca (m_rf1 (d + 4)) ⟨rfl, rfl⟩)
  · exact e0 (ca (m_rf1 (d + 4)) ⟨rfl, rfl⟩)
end M11
end
section
/-! givings: how many, by numbers -/
/-- not taken -/
def q1 (p : Nat → Bool) (t b : Int32) (m : Nat) : Bool := p m && !decide (nI m = t) && !decide (nI m = b)
def WW : List (Nat → Bool) → Int32 → Int32 → Nat
  | [], _, _ => 1
  | p :: r, t, b => fb_sm (fun m => if q1 p t b m then WW r (nI m) t else 0) 90
def ls (p : Nat → Bool) (t : Int32) : Nat := fb_ct (fun m => p m && decide (nI m = t)) 90
def TK (t : Int32) : Prop := t = -9 ∨ ∃ x, x < 90 ∧ t = nI x
theorem nI_n9 {x : Nat} (h : x < 2 ^ 31) : ¬ nI x = -9 := by
  intro e
  rw [fa_eq, nI_toInt h] at e
  have : (-9 : Int32).toInt = -9 := rfl
  omega
theorem fb_ct_one {p : Nat → Bool} {x : Nat} : ∀ {n : Nat}, (∀ k, k < n → p k = true → k = x) → fb_ct p n = if x < n then (if p x then 1 else 0) else 0
  | 0, _ => by rw [if_neg (by omega)]; rfl
  | n + 1, h => by
    rw [fb_ct_succ, fb_ct_one (n := n) (fun k hk => h k (by omega))]
    by_cases hx : x < n
    · rw [if_pos hx, if_pos (show x < n + 1 by omega)]
      by_cases hp : p n = true
      · have := h n (by omega) hp
        omega
      · rw [if_neg hp]
        rfl
    · rw [if_neg hx]
      by_cases hx2 : x = n
      · subst hx2
        rw [if_pos (show x < x + 1 by omega), Nat.zero_add]
      · rw [if_neg (show ¬ x < n + 1 by omega)]
        by_cases hp : p n = true
        · have := h n (by omega) hp
          omega
        · rw [if_neg hp]
theorem ls_9 (p : Nat → Bool) : ls p (-9) = 0 := fb_ct_zero.mpr (fun k hk => by
  rw [decide_eq_false (nI_n9 (by omega)), Bool.and_false])
theorem ls_x (p : Nat → Bool) {x : Nat} (hx : x < 90) : ls p (nI x) = if p x then 1 else 0 := by
  unfold ls
  rw [fb_ct_one (x := x) (fun k hk h => by
    simp only [Bool.and_eq_true, decide_eq_true_eq] at h
    exact (nI_eq (by omega) (by omega)).mp h.2), if_pos hx]
  simp
theorem sm_ct (p : Nat → Bool) : ∀ n, fb_sm (fun m => if p m then 1 else 0) n = fb_ct p n
  | 0 => rfl
  | n + 1 => by rw [fb_sm_succ, fb_ct_succ, sm_ct p n]
theorem WW_1 (p : Nat → Bool) (t b : Int32) : WW [p] t b = fb_ct (q1 p t b) 90 := by
  rw [WW, ← sm_ct]
  rfl
theorem WW_one {p : Nat → Bool} {t b : Int32} (hb : t = b → t = -9) : WW [p] t b + ls p t + ls p b = fb_ct p 90 := by
  rw [WW_1]
  unfold ls
  by_cases h : t = b
  · have h9 := hb h
    subst h9
    subst h
    have h2 : fb_ct (fun m => p m && decide (nI m = -9)) 90 = 0 := ls_9 p
    rw [h2, Nat.add_zero]
    exact fb_ct_cong (fun k hk => by
      unfold q1
      rw [decide_eq_false (nI_n9 (by omega))]
      simp)
  · rw [← fb_ct_or (fun k hk hh => by unfold q1 at hh; simp at hh; exact hh.1.1.2 hh.2.2), ← fb_ct_or (fun k hk hh => by
      unfold q1 at hh
      simp at hh
      rcases hh with ⟨h1, h2, h3⟩
      rcases h1 with h1 | h1
      · exact absurd h3 h1.2
      · exact h (h1.2.symm.trans h3))]
    refine fb_ct_cong (fun k hk => ?_)
    unfold q1
    cases hp : p k <;> by_cases h1 : nI k = t <;> by_cases h2 : nI k = b <;> simp [h1, h2]
/-- numbers of it: 0 or 1 -/
def io (p : Nat → Bool) (m : Nat) : Int := if p m then 1 else 0
theorem si_ct (p : Nat → Bool) : ∀ n, (fb_ct p n : Int) = fb_si (io p) n
  | 0 => rfl
  | n + 1 => by
    rw [fb_ct_succ, fb_si_succ, ← si_ct p n]
    unfold io
    split <;> simp
theorem si_dl (v : Int) {x : Nat} : ∀ {n : Nat}, fb_si (fun k => if k = x then v else 0) n = if x < n then v else 0
  | 0 => by rw [if_neg (by omega)]; rfl
  | n + 1 => by
    rw [fb_si_succ, si_dl v (n := n)]
    by_cases h : n = x
    · rw [if_pos h, if_neg (by omega), if_pos (by omega)]
      omega
    · rw [if_neg h]
      by_cases h2 : x < n
      · rw [if_pos h2, if_pos (by omega)]
        omega
      · rw [if_neg h2, if_neg (by omega)]
        rfl
theorem sm_si {f : Nat → Nat} {g : Nat → Int} : ∀ {n : Nat}, (∀ k, k < n → (f k : Int) = g k) → (fb_sm f n : Int) = fb_si g n
  | 0, _ => rfl
  | n + 1, h => by
    rw [fb_sm_succ, fb_si_succ, ← sm_si (f := f) (g := g) (n := n) (fun k hk => h k (by omega)), ← h n (by omega)]
    omega
theorem ls_io (p : Nat → Bool) {x : Nat} (hx : x < 90) : (ls p (nI x) : Int) = io p x := by
  rw [ls_x p hx]
  unfold io
  split <;> rfl
def pa (p q : Nat → Bool) (m : Nat) : Bool := p m && q m
theorem WW_q {q : Nat → Bool} {m : Nat} (hm : m < 90) : (WW [q] (nI m) (-9) : Int) = fb_ct q 90 - io q m := by
  have h := WW_one (p := q) (t := nI m) (b := -9) (fun h => h)
  rw [ls_9] at h
  have h2 := ls_io q hm
  omega
theorem q1_9 {p : Nat → Bool} {m : Nat} (hm : m < 90) : q1 p (-9) (-9) m = p m := by
  unfold q1
  rw [decide_eq_false (nI_n9 (by omega))]
  simp
theorem WW_2 (p q : Nat → Bool) : (WW [p, q] (-9) (-9) : Int) = (fb_ct p 90 : Int) * fb_ct q 90 - fb_ct (pa p q) 90 := by
  rw [WW, sm_si (g := fun m => (fb_ct q 90 : Int) * io p m - io (pa p q) m) (fun m hm => ?_), fb_si_sub, fb_si_mul, ← si_ct, ← si_ct, Int.mul_comm]
  have h := WW_q (q := q) hm
  rw [q1_9 hm]
  unfold io pa at *
  revert h
  cases p m <;> cases q m <;> intro h <;> simp at h ⊢ <;> omega
theorem WW_qr {q r : Nat → Bool} {m : Nat} (hm : m < 90) : (WW [q, r] (nI m) (-9) : Int) = (fb_ct r 90 : Int) * fb_ct q 90 - fb_ct (pa q r) 90 - io r m * fb_ct q 90 - io q m * (fb_ct r 90 - 2 * io r m) := by
  rw [WW, sm_si (g := fun k => ((((fb_ct r 90 : Int) * io q k - io (pa q r) k) - io r m * io q k) - (if k = m then io q m * (fb_ct r 90 - 2 * io r m) else 0))) (fun k hk => ?_), fb_si_sub, fb_si_sub, fb_si_sub, fb_si_mul, fb_si_mul, si_dl, if_pos hm, ← si_ct, ← si_ct]
  by_cases hkm : k = m
  · subst hkm
    have : q1 q (nI k) (-9) k = false := by unfold q1; simp
    rw [this, if_pos rfl]
    unfold io pa
    cases q k <;> cases r k <;> simp <;> omega
  · rw [if_neg hkm]
    have hne : ¬ nI k = nI m := fun h => hkm ((nI_eq (by omega) (by omega)).mp h)
    have h := WW_one (p := r) (t := nI k) (b := nI m) (fun h => absurd h hne)
    have h1 := ls_io r hk
    have h2 := ls_io r hm
    have e : q1 q (nI m) (-9) k = q k := by
      unfold q1
      rw [decide_eq_false hne, decide_eq_false (nI_n9 (by omega))]
      simp
    rw [e]
    have h3 : (WW [r] (nI k) (nI m) : Int) = fb_ct r 90 - io r k - io r m := by omega
    unfold io pa at *
    clear h h1 h2
    revert h3
    cases q k <;> cases r k <;> cases r m <;> intro h3 <;> simp at h3 ⊢ <;> omega
theorem WW_3 (p q r : Nat → Bool) : (WW [p, q, r] (-9) (-9) : Int) = (fb_ct p 90 : Int) * fb_ct q 90 * fb_ct r 90 - fb_ct (pa p q) 90 * fb_ct r 90 - fb_ct (pa p r) 90 * fb_ct q 90 - fb_ct (pa q r) 90 * fb_ct p 90 + 2 * fb_ct (pa p (pa q r)) 90 := by
  rw [WW, sm_si (g := fun m => (((((fb_ct r 90 : Int) * fb_ct q 90 - fb_ct (pa q r) 90) * io p m) - (fb_ct q 90 : Int) * io (pa p r) m) - (fb_ct r 90 : Int) * io (pa p q) m) - (-2) * io (pa p (pa q r)) m) (fun m hm => ?_), fb_si_sub, fb_si_sub, fb_si_sub, fb_si_mul, fb_si_mul, fb_si_mul, fb_si_mul, ← si_ct, ← si_ct, ← si_ct, ← si_ct]
  · grind
  · have h := WW_qr (q := q) (r := r) hm
    rw [q1_9 hm]
    unfold io pa at *
    revert h
    cases p m <;> cases q m <;> cases r m <;> intro h <;> simp at h ⊢ <;> omega
theorem WW_le (p q : Nat → Bool) (t b : Int32) : WW [p, q] t b ≤ 8100 := by
  rw [WW]
  have h := sm_le (f := fun m => if q1 p t b m = true then WW [q] (nI m) t else 0) (M := 90) (fun k hk => ?_) 90 (Nat.le_refl _)
  · omega
  · show (if q1 p t b k = true then WW [q] (nI k) t else 0) ≤ 90
    split
    · rw [WW_1]
      exact fb_ct_le _ _
    · omega
theorem WW_le1 (p : Nat → Bool) (t b : Int32) : WW [p] t b ≤ 90 := by
  rw [WW_1]
  exact fb_ct_le _ _
end
section
/-! the class: givings, giving -/
/-- the words of a set -/
def wl (v : Nat) : List Nat := (List.range 6).filter (fun i => v.testBit i)
def wo (v : Nat) : Int32 := match wl v with
  | [] => -9
  | w :: _ => nI w
theorem wl_fi : ∀ v, v < 64 → fi (fun i => v.testBit i) 24 0 = wo v := by decide +kernel
theorem wl_and : ∀ v, v < 64 → nI v &&& (nI v - 1) = nI (v &&& (v - 1)) ∧ v &&& (v - 1) < 64 ∧ wl (v &&& (v - 1)) = (wl v).tail := by decide +kernel
theorem wl_0 : ∀ v, v < 64 → (v = 0 ↔ wl v = []) := by decide +kernel
theorem wl_lt : ∀ v, v < 64 → ∀ w ∈ wl v, w < 6 := by decide +kernel
theorem wl_od : ∀ v, v < 64 → od 24 v = (wl v).length ∧ od 31 v = (wl v).length := by decide +kernel
theorem wl_mem {v w : Nat} (hw : w < 6) : w ∈ wl v ↔ v.testBit w = true := by
  unfold wl
  rw [List.mem_filter, List.mem_range]
  exact ⟨fun h => h.2, fun h => ⟨hw, h⟩⟩
section M12
variable {L : Nat} {xs : Nat → Int32} {A I : Nat → Nat → Int32} {F : Nat → Nat → Option Nat} {P : mm_M} {n : Nat} {H S : Nat → Nat → Bool}
/-- left with no slip -/
abbrev L0 (n : Nat) (H S : Nat → Nat → Bool) (w : Nat) : Nat → Bool := Lp n H S w 0
theorem c_lost (d : Nat) (hC : CS n H S A I) {w : Nat} (hw : w < 6) {t : Int32} (ht : TK t) : sp (d + 3) 16 [.ref 33, .int (nI w), .int t] (gm L xs A I F P) (ans (gm L xs A I F P) (nI (ls (L0 n H S w) t))) := by
  rcases ht with rfl | ⟨x, hx, rfl⟩
  · rw [ls_9]
    exact ⟨⟨_, rfl⟩, rfl, mm_WP.go [] 100 ⟨fun _ => ⟨rfl, rfl⟩, fun c => absurd rfl c⟩⟩
  · rw [ls_x _ hx]
    refine ⟨⟨_, rfl⟩, rfl, mm_WP.go [] 100 ⟨fun c => absurd c (nI_n9 (by omega)), fun _ => ?_⟩⟩
    refine cy (c_isLeft d hC hw hx 0) (fun h => ?_) (fun h => ?_)
    · rw [if_pos (Lp_iff.mpr h)]
      exact e1 ⟨rfl, rfl⟩
    · rw [if_neg (fun z => h (Lp_iff.mp z))]
      exact e0 ⟨rfl, rfl⟩
theorem c_ways_loop {D : Nat} {B : Nat × Nat} {Q : mm_Q} (hC : CS n H S A I) {w v v2 : Nat} (hw : w < 6) {t b : Int32} {r : List (Nat → Bool)}
    (hr : ∀ m, m < 90 → ¬ nI m = t → sp (D + 2) 15 [.ref 33, .int (nI v2), .int (nI m), .int t] (gm L xs A I F P) (ans (gm L xs A I F P) (nI (WW r (nI m) t))))
    (hq : Q (some (.int (nI (WW (L0 n H S w :: r) t b)))) (gm L xs A I F P)) :
    ∀ (j k : Nat) (x y : Int32), j + k = 90 → x = nI k → y = nI (fb_sm (fun m => if q1 (L0 n H S w) t b m then WW r (nI m) t else 0) k) →
      wp (D + 2) B cd_Giver_ways Q 58 [some (.ref 33), some (.int (nI v)), some (.int t), some (.int b), some (.int (nI w)), some (.int (nI v2)), some (.int y), some (.int x)] [] (gm L xs A I F P) := by
  intro j
  induction j with
  | zero =>
    intro k x y hk hx hy
    refine mm_WP.go [58] 100 (lp_ge (N := 90) hx rfl (by omega) (by omega) (fun h => ?_) (fun h => absurd h (by omega)))
    subst h
    rw [hy]
    exact hq
  | succ j ih =>
    intro k x y hk hx hy
    refine mm_WP.go [58] 100 (lp_ge (N := 90) hx rfl (by omega) (by omega) (fun h => absurd h (by omega)) (fun _ => ?_))
    subst hx
    have no : q1 (L0 n H S w) t b k = false → y = nI (fb_sm (fun m => if q1 (L0 n H S w) t b m then WW r (nI m) t else 0) (k + 1)) := by
      intro h
      rw [hy, fb_sm_succ, h]
      rfl
    refine ⟨fun c => ?_, fun c => ⟨fun c2 => ?_, fun c2 => ?_⟩⟩
    · refine ih (k + 1) _ _ (by omega) (nI_1 k) (no ?_)
      unfold q1
      rw [decide_eq_true c]
      simp
    · refine ih (k + 1) _ _ (by omega) (nI_1 k) (no ?_)
      unfold q1
      rw [decide_eq_true c2]
      simp
    · refine cy (c_isLeft D hC hw (by omega) 0) (fun h => ?_) (fun h => ?_)
      · refine e1 (ca (hr k (by omega) c) ?_)
        refine ih (k + 1) _ _ (by omega) (nI_1 k) ?_
        have e : q1 (L0 n H S w) t b k = true := by
          unfold q1
          rw [decide_eq_false c, decide_eq_false c2, show L0 n H S w k = true from Lp_iff.mpr h]
          rfl
        rw [hy, fb_sm_succ, e, if_pos rfl, nI_add]
      · refine e0 (ih (k + 1) _ _ (by omega) (nI_1 k) (no ?_))
        have e : L0 n H S w k = false := by
          cases hh : L0 n H S w k
          · rfl
          · exact absurd (Lp_iff.mp hh) h
        unfold q1
        rw [e]
        simp
theorem nI_sub2 {a b c e : Nat} (h : a + b + c = e) : nI e - nI b - nI c = nI a := by
  subst h
  rw [← nI_add, ← nI_add]
  rw [show nI a + nI b + nI c = nI a + nI c + nI b by rw [Int32.add_assoc, Int32.add_comm (nI b), ← Int32.add_assoc], Int32.add_sub_cancel, Int32.add_sub_cancel]
theorem c_ways (hC : CS n H S A I) : ∀ (l : List Nat) (d v : Nat) (t b : Int32), v < 64 → wl v = l → TK t → TK b → (t = b → t = -9) → (∀ w, w ∈ l → A 34 w = nI (fb_ct (L0 n H S w) 90)) →
    sp (d + l.length + 5) 15 [.ref 33, .int (nI v), .int t, .int b] (gm L xs A I F P) (ans (gm L xs A I F P) (nI (WW (l.map (L0 n H S)) t b)))
  | [], d, v, t, b, hv, hl, _, _, _, _ => by
    refine ⟨⟨_, rfl⟩, rfl, mm_WP.go [] 100 (ca (c_firstIn (d + 2) (by omega) _) ?_)⟩
    rw [wl_fi v hv, show wo v = -9 by unfold wo; rw [hl]]
    refine cy (c_noWord (d + 3) _ _) (fun _ => ?_) (fun h => ?_)
    · exact e1 ⟨rfl, rfl⟩
    · exact absurd (fun z => absurd (vp_in_0 z).1 (by decide)) h
  | w :: r, d, v, t, b, hv, hl, ht, hb, htb, hA => by
    have hw : w < 6 := wl_lt v hv w (by rw [hl]; exact List.mem_cons_self)
    obtain ⟨a1, a2, a3⟩ := wl_and v hv
    rw [hl, List.tail_cons] at a3
    have hi := ix_n (w := w) (N := 6) (by decide) hw
    refine ⟨⟨_, rfl⟩, rfl, mm_WP.go [23, 58] 100 (ca (c_firstIn (d + (w :: r).length + 2) (by omega) _) ?_)⟩
    rw [wl_fi v hv, show wo v = nI w by unfold wo; rw [hl]]
    refine cy (c_noWord (d + (w :: r).length + 3) _ _) (fun h => absurd hi.1 h) (fun _ => e0 ?_)
    show wp (d + (w :: r).length + 4) _ cd_Giver_ways _ 23 [some (.ref 33), some (.int (nI v)), some (.int t), some (.int b), some (.int (nI w)), some (.int (nI v &&& (nI v - 1))), none, none] [] (gm L xs A I F P)
    rw [a1]
    have hz : (nI (v &&& (v - 1)) = 0) ↔ r = [] := by
      rw [show (0 : Int32) = nI 0 from rfl, nI_eq (by omega) (by omega), wl_0 _ a2, a3]
    refine mm_WP.go [58] 100 ⟨fun c => ?_, fun c => ?_⟩
    · have hr : r ≠ [] := fun h => c (hz.mpr h)
      refine c_ways_loop (D := d + r.length + 3) hC hw ?_ ⟨rfl, rfl⟩ 90 0 _ _ rfl rfl rfl
      intro m hm hne
      exact c_ways hC r d _ _ _ a2 a3 (Or.inr ⟨m, hm, rfl⟩) ht (fun h => absurd h hne) (fun u hu => hA u (List.mem_cons_of_mem _ hu))
    · have hr : r = [] := hz.mp c
      subst hr
      refine ⟨hi.1, ca (c_lost (d + 2) hC hw ht) (ca (c_lost (d + 2) hC hw hb) ⟨?_, rfl⟩)⟩
      rw [hi.2, hA w List.mem_cons_self]
      rw [nI_sub2 (WW_one (p := L0 n H S w) htb)]
      rfl
/-- the left of each word of a set -/
def lc (n : Nat) (H S : Nat → Nat → Bool) (v w : Nat) : Int32 := if v.testBit w then nI (fb_ct (L0 n H S w) 90) else 0
theorem c_cl_loop {d : Nat} {B : Nat × Nat} {Q : mm_Q} {v : Nat} (hC : CS n H S A I) (hv : v < 64) (hq : Q none (gm L xs (uR A 34 (fa_fill (lc n H S v) (A 34) 6)) I F P)) :
    ∀ (j k : Nat) (x : Int32), j + k = 6 → x = nI k → wp (d + 3) B cd_Giver_countLefts Q 2 [some (.ref 33), some (.int (nI v)), some (.int x)] [] (gm L xs (uR A 34 (fa_fill (lc n H S v) (A 34) k)) I F P) := by
  intro j
  induction j with
  | zero =>
    intro k x hk hx
    refine mm_WP.go [2] 100 (lp_ge (N := 6) hx rfl (by omega) (by omega) (fun h => ?_) (fun h => absurd h (by omega)))
    subst h
    exact hq
  | succ j ih =>
    intro k x hk hx
    refine mm_WP.go [2] 100 (lp_ge (N := 6) hx rfl (by omega) (by omega) (fun h => absurd h (by omega)) (fun _ => ?_))
    subst hx
    have hi := ix_n (w := k) (N := 6) (by decide) (by omega)
    have h2 := ih (k + 1) _ (by omega) (nI_1 k)
    rw [← fa_fill_succ] at h2
    refine cy (c_isIn (d + 2) (by omega) (by omega) _) (fun h => ?_) (fun h => ?_)
    · refine e1 (ca (c_countLeft (A := uR A 34 (fa_fill (lc n H S v) (A 34) k)) d hC (by omega) 0) ⟨hi.1, ?_⟩)
      rw [show lc n H S v k = nI (fb_ct (L0 n H S k) 90) by unfold lc; rw [if_pos h]] at h2
      rw [hi.2]
      exact h2
    · refine e0 ⟨hi.1, ?_⟩
      rw [show lc n H S v k = 0 by unfold lc; rw [if_neg h]] at h2
      rw [hi.2]
      exact h2
theorem c_countLefts (d : Nat) {v : Nat} (hC : CS n H S A I) (hv : v < 64) : sp (d + 4) 14 [.ref 33, .int (nI v)] (gm L xs A I F P) (fun r m => r = none ∧ m = gm L xs (uR A 34 (fa_fill (lc n H S v) (A 34) 6)) I F P) := by
  refine ⟨⟨_, rfl⟩, rfl, mm_WP.go [2] 100 ?_⟩
  have h := c_cl_loop (L := L) (xs := xs) (F := F) (P := P) (d := d) (B := mm_Al 14) (Q := fun r m => r = none ∧ m = gm L xs (uR A 34 (fa_fill (lc n H S v) (A 34) 6)) I F P) hC hv ⟨rfl, rfl⟩ 6 0 _ rfl rfl
  rw [fa_fill_0, uR_self] at h
  exact h
/-- the class's scratch behind it -/
abbrev A34 (n : Nat) (H S : Nat → Nat → Bool) (v : Nat) (A : Nat → Nat → Int32) : Nat → Nat → Int32 := uR A 34 (fa_fill (lc n H S v) (A 34) 6)
theorem A34_lc {v w : Nat} (hv : v < 64) (hw : w ∈ wl v) : A34 n H S v A 34 w = nI (fb_ct (L0 n H S w) 90) := by
  have h6 := wl_lt v hv w hw
  show uR A 34 _ 34 w = _
  rw [uR_eq, fa_fill_in h6]
  unfold lc
  rw [if_pos ((wl_mem h6).mp hw)]
theorem c_countWays (d : Nat) {v : Nat} (hC : CS n H S A I) (hv : v < 64) (h3 : (wl v).length ≤ 3) : sp (d + 9) 13 [.ref 33, .int (nI v)] (gm L xs A I F P) (ans (gm L xs (A34 n H S v A) I F P) (nI (WW ((wl v).map (L0 n H S)) (-9) (-9)))) := by
  refine ⟨⟨_, rfl⟩, rfl, mm_WP.go [] 100 (ca (c_countLefts (d + 4) hC hv) ?_)⟩
  have h := c_ways (L := L) (xs := xs) (A := A34 n H S v A) (I := I) (F := F) (P := P) (n := n) (H := H) (S := S) hC (wl v) (d + 3 - (wl v).length) v (-9) (-9) hv rfl (Or.inl rfl) (Or.inl rfl) (fun _ => rfl) (fun w hw => A34_lc hv hw)
  rw [show d + 3 - (wl v).length + (wl v).length = d + 3 by omega] at h
  exact ca h ⟨rfl, rfl⟩
/-- a set of words to give -/
def GS (x : Int32) : Prop := ∃ v, 1 ≤ v ∧ v < 64 ∧ x = nI v ∧ (wl v).length ≤ 3
theorem GS_or (x : Int32) : (∃ v, 1 ≤ v ∧ v < 64 ∧ x = nI v) ∨ (x ≤ 0 ∨ 64 ≤ x) ∧ ¬ GS x := by
  by_cases h : x ≤ 0 ∨ 64 ≤ x
  · refine Or.inr ⟨h, ?_⟩
    rintro ⟨v, h1, h2, rfl, -⟩
    rw [fa_le, fa_le, nI_toInt (by omega), show (0 : Int32).toInt = 0 from rfl, show (64 : Int32).toInt = 64 from rfl] at h
    omega
  · rw [fa_le, fa_le, show (0 : Int32).toInt = 0 from rfl, show (64 : Int32).toInt = 64 from rfl] at h
    obtain ⟨v, h2, rfl⟩ := vp_in_of (n := 64) (vp_in_iff.mpr (show 0 ≤ x.toInt ∧ x.toInt < (64 : Nat) by omega)) (by decide)
    rw [nI_toInt (by omega)] at h
    exact Or.inl ⟨v, by omega, h2, rfl⟩
theorem GS_iff {v : Nat} (h1 : 1 ≤ v) (hv : v < 64) : GS (nI v) ↔ (wl v).length ≤ 3 := by
  refine ⟨?_, fun h => ⟨v, h1, hv, rfl, h⟩⟩
  rintro ⟨u, -, h3, h4, h5⟩
  rw [(nI_eq (by omega) (by omega)).mp h4]
  exact h5
theorem c_noSet (d : Nat) (x : Int32) (mem : mm_M) : sp (d + 3) 96 [.int x] mem (yes mem (¬ GS x)) := by
  rcases GS_or x with ⟨v, h1, h2, rfl⟩ | ⟨h, hg⟩
  · have o := (wl_od v h2).1
    have h6 : (wl v).length ≤ 6 := by
      have := List.length_filter_le (fun i => v.testBit i) (List.range 6)
      simpa [wl] using this
    refine ⟨trivial, rfl, mm_WP.go [] 100 ⟨fun c => absurd c (nI_nle (by omega) (by omega)), fun _ => ⟨fun c => ?_, fun _ => ?_⟩⟩⟩
    · have := (nI_leI (a := 64) (b := v) (by omega) (by omega)).mp c
      omega
    · refine ca (j_bitCount (d + 1) (v := v) (by omega) _) ?_
      rw [o]
      refine ⟨fun c => ?_, fun c => ?_⟩
      · have := (nI_leI (a := (wl v).length) (b := 3) (by omega) (by omega)).mp c
        exact ⟨rfl, rfl, Or.inr ⟨fun z => z ((GS_iff h1 h2).mpr this), rfl⟩⟩
      · refine ⟨rfl, rfl, Or.inl ⟨fun z => c ?_, rfl⟩⟩
        exact (nI_leI (a := (wl v).length) (b := 3) (by omega) (by omega)).mpr ((GS_iff h1 h2).mp z)
  · refine ⟨trivial, rfl, mm_WP.go [] 100 ⟨fun _ => ⟨rfl, rfl, Or.inl ⟨hg, rfl⟩⟩, fun c => ⟨fun _ => ⟨rfl, rfl, Or.inl ⟨hg, rfl⟩⟩, fun c2 => ?_⟩⟩⟩
    rcases h with h | h
    · exact absurd h c
    · exact absurd h c2
theorem c_givings (d : Nat) {v : Nat} (hC : CS n H S A I) (h1 : 1 ≤ v) (hv : v < 64) (h3 : (wl v).length ≤ 3) : sp (d + 10) 95 [.ref 6, .int (nI v)] (gm L xs A I F P) (ans (gm L xs (A34 n H S v A) I F P) (nI (WW ((wl v).map (L0 n H S)) (-9) (-9)))) := by
  refine ⟨⟨_, rfl⟩, rfl, mm_WP.go [] 100 (cy (c_noSet (d + 6) _ _) (fun h => absurd ((GS_iff h1 hv).mpr h3) h) (fun _ => ?_))⟩
  exact e0 (ca (c_countWays d hC hv h3) ⟨rfl, rfl⟩)
theorem c_givings_r (d : Nat) {x : Int32} (h : ¬ GS x) : sp (d + 10) 95 [.ref 6, .int x] (gm L xs A I F P) (rC L xs A I F P 1 (-1)) := by
  refine ⟨⟨_, rfl⟩, rfl, mm_WP.go [] 100 (cy (c_noSet (d + 6) _ _) (fun _ => ?_) (fun h2 => absurd h h2))⟩
  exact e1 (ca (c_rf1 (d + 8)) ⟨rfl, rfl⟩)
end M12
end
section
/-! the class: giving -/
theorem fi_or {p : Nat → Bool} : ∀ (j k : Nat), fi p j k = -9 ∨ ∃ i, k ≤ i ∧ i < k + j ∧ p i = true ∧ fi p j k = nI i
  | 0, _ => Or.inl rfl
  | j + 1, k => by
    rw [fi]
    by_cases h : p k = true
    · rw [if_pos h]
      exact Or.inr ⟨k, Nat.le_refl _, by omega, h, rfl⟩
    · rw [if_neg h]
      rcases fi_or (p := p) j (k + 1) with h2 | ⟨i, h1, h2, h3, h4⟩
      · exact Or.inl h2
      · exact Or.inr ⟨i, by omega, by omega, h3, h4⟩
theorem fi_TK (p : Nat → Bool) : TK (fi p 90 0) := by
  rcases fi_or (p := p) 90 0 with h | ⟨i, _, h2, _, h4⟩
  · exact Or.inl h
  · exact Or.inr ⟨i, by omega, h4⟩
theorem fi_9 {p : Nat → Bool} : fi p 90 0 = -9 ↔ ∀ i, i < 90 → p i = false := by
  have h := fi_neg (p := p) 90 0 (by decide)
  refine ⟨fun e i hi => h.mp (by rw [e]; decide) i (Nat.zero_le _) (by omega), fun e => fi_none 90 0 (fun i _ h2 => e i (by omega))⟩
/-- the least meaning of the first of some words, the others having theirs -/
def lm (p : Nat → Bool) (r : List (Nat → Bool)) (t b : Int32) (m : Nat) : Bool := q1 p t b m && decide (0 < WW r (nI m) t)
theorem lm_WW {p : Nat → Bool} {r : List (Nat → Bool)} {t b : Int32} : fi (lm p r t b) 90 0 = -9 ↔ ¬ 0 < WW (p :: r) t b := by
  rw [fi_9, WW]
  constructor
  · intro h hc
    have h0 : fb_sm (fun m => if q1 p t b m = true then WW r (nI m) t else 0) 90 = 0 := by
      rw [fb_sm_cong (g := fun _ => 0) (fun k hk => ?_), fb_sm_const]
      have := h k hk
      unfold lm at this
      cases hq : q1 p t b k
      · rfl
      · rw [hq, Bool.true_and] at this
        have := of_decide_eq_false this
        show (if true = true then _ else _) = 0
        rw [if_pos rfl]
        omega
    omega
  · intro h i hi
    have h0 : fb_sm (fun m => if q1 p t b m = true then WW r (nI m) t else 0) 90 = 0 := by omega
    have h1 := fb_sm_zero h0 i hi
    unfold lm
    cases hq : q1 p t b i
    · rfl
    · rw [hq, if_pos rfl] at h1
      rw [h1]
      rfl
def ff (f : Nat → Nat → Bool) (x : Nat) : List Nat → Int32 → Int32 → Int32
  | [], _, _ => -9
  | w :: r, t, b => if fi (lm (f w) (r.map f) t b) 90 0 = -9 ∨ w = x then fi (lm (f w) (r.map f) t b) 90 0 else ff f x r (fi (lm (f w) (r.map f) t b) 90 0) t
/-- from the k-th word on -/
def hb (v k : Nat) : Nat := v / 2 ^ k * 2 ^ k
theorem hb_lt : ∀ v, v < 64 → ∀ k, k < 7 → hb v k < 64 := by decide +kernel
theorem hb_y : ∀ v, v < 64 → ∀ k, k < 6 → v.testBit k = true → (nI (hb v k) &&& (((1 : Int32) <<< (nI k &&& 31)) ^^^ (-1)) = nI (hb v (k + 1)) ∧ wl (hb v k) = k :: wl (hb v (k + 1))) := by decide +kernel
theorem hb_n : ∀ v, v < 64 → ∀ k, k < 6 → v.testBit k = false → hb v (k + 1) = hb v k := by decide +kernel
theorem hb_6 : ∀ v, v < 64 → wl (hb v 6) = [] := by decide +kernel
theorem hb_0 (v : Nat) : hb v 0 = v := by unfold hb; simp
theorem hb_sub : ∀ v, v < 64 → ∀ k, k < 7 → ∀ w ∈ wl (hb v k), w ∈ wl v := by decide +kernel
theorem hb_len : ∀ v, v < 64 → (wl v).length ≤ 3 → ∀ k, k < 7 → (wl (hb v k)).length ≤ 3 := by decide +kernel
theorem WW_b {r : List (Nat → Bool)} (h : r.length ≤ 2) (t b : Int32) : WW r t b ≤ 8100 := by
  match r, h with
  | [], _ => exact (by decide : 1 ≤ 8100)
  | [p], _ => exact Nat.le_trans (WW_le1 p t b) (by decide)
  | [p, q], _ => exact WW_le p q t b
section M13
variable {L : Nat} {xs : Nat → Int32} {A I : Nat → Nat → Int32} {F : Nat → Nat → Option Nat} {P : mm_M} {n : Nat} {H S : Nat → Nat → Bool}
theorem c_lf_loop {d : Nat} {B : Nat × Nat} {Q : mm_Q} (hC : CS n H S A I) {w v2 : Nat} {l : List Nat} (hw : w < 6) {t b : Int32} (ht : TK t) (hv2 : v2 < 64) (hl : wl v2 = l) (hlen : l.length ≤ 2) (hA : ∀ w, w ∈ l → A 34 w = nI (fb_ct (L0 n H S w) 90)) :
    ∀ (j k : Nat) (x : Int32), j + k = 90 → x = nI k → Q (some (.int (fi (lm (L0 n H S w) (l.map (L0 n H S)) t b) j k))) (gm L xs A I F P) →
      wp (d + 8) B cd_Giver_leastFor Q 3 [some (.ref 33), some (.int (nI w)), some (.int (nI v2)), some (.int t), some (.int b), some (.int x)] [] (gm L xs A I F P) := by
  intro j
  induction j with
  | zero =>
    intro k x hk hx hq
    exact mm_WP.go [3] 100 (lp_ge (N := 90) hx rfl (by omega) (by omega) (fun h => hq) (fun h => absurd h (by omega)))
  | succ j ih =>
    intro k x hk hx hq
    refine mm_WP.go [3] 100 (lp_ge (N := 90) hx rfl (by omega) (by omega) (fun h => absurd h (by omega)) (fun _ => ?_))
    subst hx
    have no : lm (L0 n H S w) (l.map (L0 n H S)) t b k = false → Q (some (.int (fi (lm (L0 n H S w) (l.map (L0 n H S)) t b) j (k + 1)))) (gm L xs A I F P) := by
      intro h
      rw [fi, h] at hq
      exact hq
    refine ⟨fun c => ?_, fun c => ⟨fun c2 => ?_, fun c2 => ?_⟩⟩
    · refine ih (k + 1) _ (by omega) (nI_1 k) (no ?_)
      unfold lm q1
      rw [decide_eq_true c]
      simp
    · refine ih (k + 1) _ (by omega) (nI_1 k) (no ?_)
      unfold lm q1
      rw [decide_eq_true c2]
      simp
    · refine cy (c_isLeft (d + 6) hC hw (by omega) 0) (fun h => ?_) (fun h => ?_)
      · have h2 := c_ways (L := L) (xs := xs) (F := F) (P := P) hC l (d + 3 - l.length) v2 (nI k) t hv2 hl (Or.inr ⟨k, by omega, rfl⟩) ht (fun h => absurd h c) hA
        rw [show d + 3 - l.length + l.length + 5 = d + 8 by omega] at h2
        refine e1 (ca h2 ?_)
        have hb := WW_b (r := l.map (L0 n H S)) (by rw [List.length_map]; exact hlen) (nI k) t
        have e : q1 (L0 n H S w) t b k = true := by
          unfold q1
          rw [decide_eq_false c, decide_eq_false c2, show L0 n H S w k = true from Lp_iff.mpr h]
          rfl
        refine ⟨fun c3 => ?_, fun c3 => ?_⟩
        · have h0 : WW (l.map (L0 n H S)) (nI k) t ≤ 0 := (nI_leI (b := 0) (by omega) (by omega)).mp c3
          refine ih (k + 1) _ (by omega) (nI_1 k) (no ?_)
          unfold lm
          rw [e, decide_eq_false (by omega)]
          rfl
        · have h0 : 0 < WW (l.map (L0 n H S)) (nI k) t := by
            rcases Nat.lt_or_ge 0 (WW (l.map (L0 n H S)) (nI k) t) with h | h
            · exact h
            · exact absurd ((nI_leI (b := 0) (by omega) (by omega)).mpr h) c3
          rw [fi, if_pos (show lm (L0 n H S w) (l.map (L0 n H S)) t b k = true by unfold lm; rw [e, decide_eq_true h0]; rfl)] at hq
          exact hq
      · refine e0 (ih (k + 1) _ (by omega) (nI_1 k) (no ?_))
        have e : L0 n H S w k = false := by
          cases hh : L0 n H S w k
          · rfl
          · exact absurd (Lp_iff.mp hh) h
        unfold lm q1
        rw [e]
        simp
theorem c_leastFor (d : Nat) (hC : CS n H S A I) {w v2 : Nat} {l : List Nat} (hw : w < 6) {t b : Int32} (ht : TK t) (hv2 : v2 < 64) (hl : wl v2 = l) (hlen : l.length ≤ 2) (hA : ∀ w, w ∈ l → A 34 w = nI (fb_ct (L0 n H S w) 90)) :
    sp (d + 9) 18 [.ref 33, .int (nI w), .int (nI v2), .int t, .int b] (gm L xs A I F P) (ans (gm L xs A I F P) (fi (lm (L0 n H S w) (l.map (L0 n H S)) t b) 90 0)) := by
  refine ⟨⟨_, rfl⟩, rfl, mm_WP.go [3] 100 ?_⟩
  exact c_lf_loop hC hw ht hv2 hl hlen hA 90 0 _ rfl rfl ⟨rfl, rfl⟩
theorem c_ff_loop {d : Nat} {B : Nat × Nat} {Q : mm_Q} (hC : CS n H S A I) {v x : Nat} (hv : v < 64) (hx : x < 6) (hlen : (wl v).length ≤ 3) (hA : ∀ w, w ∈ wl v → A 34 w = nI (fb_ct (L0 n H S w) 90)) :
    ∀ (j k : Nat) (z t b : Int32) (u : Option Value), j + k = 6 → z = nI k → TK t → Q (some (.int (ff (L0 n H S) x (wl (hb v k)) t b))) (gm L xs A I F P) →
      wp (d + 9) B cd_Giver_firstFor Q 18 [some (.ref 33), some (.int (nI v)), some (.int (nI x)), some (.int t), some (.int b), some (.int (nI (hb v k))), some (.int z), u] [] (gm L xs A I F P) := by
  intro j
  induction j with
  | zero =>
    intro k z t b u hk hz ht hq
    refine mm_WP.go [18] 100 (lp_ge (N := 6) hz rfl (by omega) (by omega) (fun h => ?_) (fun h => absurd h (by omega)))
    subst h
    rw [hb_6 v hv] at hq
    exact hq
  | succ j ih =>
    intro k z t b u hk hz ht hq
    refine mm_WP.go [18, 43] 100 (lp_ge (N := 6) hz rfl (by omega) (by omega) (fun h => absurd h (by omega)) (fun _ => ?_))
    subst hz
    refine cy (c_isIn (d + 8) (by omega) (by omega) _) (fun h => ?_) (fun h => ?_)
    · obtain ⟨y1, y2⟩ := hb_y v hv k (by omega) h
      refine e1 ?_
      show wp (d + 9) B cd_Giver_firstFor Q 43 [some (.ref 33), some (.int (nI v)), some (.int (nI x)), some (.int t), some (.int b), some (.int (nI (hb v k))), some (.int (nI k)), u] [.int (nI (hb v k) &&& (((1 : Int32) <<< (nI k &&& 31)) ^^^ (-1)))] (gm L xs A I F P)
      rw [y1]
      have hlen2 : (wl (hb v (k + 1))).length ≤ 2 := by
        have := hb_len v hv hlen k (by omega)
        rw [y2, List.length_cons] at this
        omega
      refine mm_WP.go [18] 100 (ca (c_leastFor d hC (by omega) ht (hb_lt v hv (k + 1) (by omega)) rfl hlen2 (fun w hw => hA w (hb_sub v hv (k + 1) (by omega) w hw))) ?_)
      rw [y2, ff] at hq
      refine ⟨fun c => ?_, fun c => ⟨fun c2 => ?_, fun c2 => ?_⟩⟩
      · rw [if_pos (Or.inl c)] at hq
        exact hq
      · have hne : ¬ k = x := fun h => c2 (by rw [h])
        rw [if_neg (by rintro (h | h); exact c h; exact hne h)] at hq
        exact ih (k + 1) _ _ _ _ (by omega) (nI_1 k) (fi_TK _) hq
      · rw [if_pos (Or.inr ((nI_eq (by omega) (by omega)).mp c2))] at hq
        exact hq
    · have h2 := hb_n v hv k (by omega) (by simpa using h)
      have h3 := ih (k + 1) _ t b u (by omega) (nI_1 k) ht (by rw [h2]; exact hq)
      rw [h2] at h3
      exact e0 h3
theorem c_firstFor (d : Nat) (hC : CS n H S A I) {v x : Nat} (hv : v < 64) (hx : x < 6) (hlen : (wl v).length ≤ 3) : sp (d + 10) 17 [.ref 33, .int (nI v), .int (nI x)] (gm L xs A I F P) (ans (gm L xs (A34 n H S v A) I F P) (ff (L0 n H S) x (wl v) (-9) (-9))) := by
  refine ⟨⟨_, rfl⟩, rfl, mm_WP.go [18] 100 (ca (c_countLefts (d + 5) hC hv) ?_)⟩
  have h := c_ff_loop (L := L) (xs := xs) (A := A34 n H S v A) (I := I) (F := F) (P := P) (d := d) (B := mm_Al 17) (Q := ans (gm L xs (A34 n H S v A) I F P) (ff (L0 n H S) x (wl v) (-9) (-9))) (n := n) (H := H) (S := S) hC hv hx hlen (fun w hw => A34_lc hv hw) 6 0 _ (-9) (-9) none rfl rfl (Or.inl rfl) (by rw [hb_0]; exact ⟨rfl, rfl⟩)
  rw [hb_0] at h
  exact h
theorem c_giving (d : Nat) {v x : Nat} (hC : CS n H S A I) (h1 : 1 ≤ v) (hv : v < 64) (h3 : (wl v).length ≤ 3) (hx : x < 6) (hb : v.testBit x = true) : sp (d + 11) 97 [.ref 6, .int (nI v), .int (nI x)] (gm L xs A I F P) (ans (gm L xs (A34 n H S v A) I F P) (ff (L0 n H S) x (wl v) (-9) (-9))) := by
  refine ⟨⟨_, rfl⟩, rfl, mm_WP.go [] 100 (cy (c_noSet (d + 7) _ _) (fun h => absurd ((GS_iff h1 hv).mpr h3) h) (fun _ => ?_))⟩
  refine n0 (cy (c_noWord (d + 9) _ _) (fun h => absurd (ix_n (N := 6) (by decide) hx).1 h) (fun _ => ?_))
  refine n0 (cy (c_isIn (d + 9) (by omega) (by omega) _) (fun _ => ?_) (fun h => absurd hb h))
  exact n1 (ca (c_firstFor d hC hv hx h3) ⟨rfl, rfl⟩)
theorem c_giving_r (d : Nat) {w x : Int32} (hh : ¬ ∃ v y, 1 ≤ v ∧ v < 64 ∧ (wl v).length ≤ 3 ∧ y < 6 ∧ v.testBit y = true ∧ w = nI v ∧ x = nI y) : sp (d + 11) 97 [.ref 6, .int w, .int x] (gm L xs A I F P) (rC L xs A I F P 1 (-1)) := by
  refine ⟨⟨_, rfl⟩, rfl, mm_WP.go [] 100 (cy (c_noSet (d + 7) _ _) (fun h => ?_) (fun h => ?_))⟩
  · exact n1 (ca (c_rf1 (d + 9)) ⟨rfl, rfl⟩)
  · obtain ⟨v, h1, hv, rfl, h3⟩ := Classical.not_not.mp h
    refine n0 (cy (c_noWord (d + 9) _ _) (fun h => ?_) (fun h => ?_))
    · exact n1 (ca (c_rf1 (d + 9)) ⟨rfl, rfl⟩)
    · obtain ⟨y, hy, rfl⟩ := vp_in_of (Classical.not_not.mp h) (by decide)
      refine n0 (cy (c_isIn (d + 9) (by omega) (by omega) _) (fun h => ?_) (fun h => ?_))
      · exact absurd ⟨v, y, h1, hv, h3, hy, h, rfl, rfl⟩ hh
      · exact n0 (ca (c_rf1 (d + 9)) ⟨rfl, rfl⟩)
end M13
end
section
/-! the reference: givings, giving -/
theorem sr_bit : ∀ v, v < 64 → ∀ k, k < 6 → (nI v >>> (nI k &&& 31)) &&& 1 = bI (v.testBit k) := by decide +kernel
theorem wl_at : ∀ v, v < 64 → ∀ k, k < 6 → v.testBit k = true → (wl v).getD (fb_ct (fun i => v.testBit i) k) 0 = k := by decide +kernel
theorem wl_ct : ∀ v, v < 64 → fb_ct (fun i => v.testBit i) 6 = (wl v).length := by decide +kernel
theorem wl_nd : ∀ v, v < 64 → (wl v).Nodup := by decide +kernel
theorem upd_at (f : Nat → Int32) (i : Nat) (x : Int32) (k : Nat) : upd f i x k = if k = i then x else f k := by
  unfold upd
  rfl
section M14
variable {L : Nat} {xs : Nat → Int32} {A I : Nat → Nat → Int32} {F : Nat → Nat → Option Nat} {P : mm_M} {n : Nat} {H S : Nat → Nat → Bool}
theorem m_isSet (d : Nat) (x : Int32) (L : Nat) (xs : Nat → Int32) (A I : Nat → Nat → Int32) (F : Nat → Nat → Option Nat) (P : mm_M) : sp (d + 3) 151 [.ref 38, .int x] (gm L xs A I F P) (yes (gm L xs A I F P) (GS x)) := by
  have e : ((1 : Int64) ≤ x.toInt64 ∧ x.toInt64 ≤ 63) ↔ (1 ≤ x.toInt ∧ x.toInt ≤ 63) := in_32 1 x 63
  rcases GS_or x with ⟨v, h1, h2, rfl⟩ | ⟨h, hg⟩
  · have o := (wl_od v h2).2
    have h6 : (wl v).length ≤ 6 := by
      have := List.length_filter_le (fun i => v.testBit i) (List.range 6)
      simpa [wl] using this
    refine ⟨⟨_, rfl⟩, rfl, mm_WP.go [] 100 (cy (m_in (d + 1) _ _ _ _) (fun _ => ?_) (fun h => ?_))⟩
    · refine e1 (ca (m_ones (d + 1) (x := v) (by omega) _) ?_)
      rw [o]
      refine ⟨fun c => ?_, fun c => ?_⟩
      · refine ⟨rfl, rfl, Or.inr ⟨fun z => ?_, rfl⟩⟩
        have h5 := (GS_iff h1 h2).mp z
        rw [fa_lt, nI_toInt (by omega), show (3 : Int32).toInt = 3 from rfl] at c
        omega
      · refine ⟨rfl, rfl, Or.inl ⟨(GS_iff h1 h2).mpr ?_, rfl⟩⟩
        rw [fa_lt, nI_toInt (by omega), show (3 : Int32).toInt = 3 from rfl] at c
        omega
    · refine absurd (e.mpr ?_) h
      rw [nI_toInt (by omega)]
      omega
  · refine ⟨⟨_, rfl⟩, rfl, mm_WP.go [] 100 (cy (m_in (d + 1) _ _ _ _) (fun h2 => ?_) (fun _ => ?_))⟩
    · have h3 := e.mp h2
      rw [fa_le, fa_le, show (0 : Int32).toInt = 0 from rfl, show (64 : Int32).toInt = 64 from rfl] at h
      omega
    · exact e0 ⟨rfl, rfl, Or.inr ⟨hg, rfl⟩⟩
theorem m_fw_loop {d : Nat} {B : Nat × Nat} {Q : mm_Q} {v : Nat} (hv : v < 64) (h3 : (wl v).length ≤ 3) (hq : ∀ f, (∀ i, i < (wl v).length → f i = nI ((wl v).getD i 0)) → Q none (gm L xs (uR A 51 f) (uI I 38 21 (nI (wl v).length)) F P)) :
    ∀ (j k : Nat) (x : Int32) (f : Nat → Int32), j + k = 6 → x = nI k → (∀ i, i < fb_ct (fun i => v.testBit i) k → f i = nI ((wl v).getD i 0)) →
      wp d B cd_Model_findWords Q 7 [some (.ref 38), some (.int (nI v)), some (.int x)] [] (gm L xs (uR A 51 f) (uI I 38 21 (nI (fb_ct (fun i => v.testBit i) k))) F P) := by
  intro j
  induction j with
  | zero =>
    intro k x f hk hx hf
    refine mm_WP.go [7] 100 (lp_ge (N := 6) hx rfl (by omega) (by omega) (fun h => ?_) (fun h => absurd h (by omega)))
    subst h
    rw [wl_ct v hv] at hf ⊢
    exact hq f hf
  | succ j ih =>
    intro k x f hk hx hf
    refine mm_WP.go [7] 100 (lp_ge (N := 6) hx rfl (by omega) (by omega) (fun h => absurd h (by omega)) (fun _ => ?_))
    subst hx
    have hb := sr_bit v hv k (by omega)
    have hm : fb_ct (fun i => v.testBit i) (k + 1) ≤ (wl v).length := by
      rw [← wl_ct v hv]
      exact fb_ct_mono _ (by omega)
    refine ⟨fun c => ?_, fun c => ?_⟩
    · have ht : v.testBit k = false := by
        cases ht : v.testBit k
        · rfl
        · exact absurd (by rw [hb, ht]; rfl) c
      have h2 := ih (k + 1) _ f (by omega) (nI_1 k)
      rw [fb_ct_succ, ht] at h2
      exact h2 hf
    · have ht : v.testBit k = true := by
        cases ht : v.testBit k
        · rw [hb, ht] at c
          exact absurd c (by decide)
        · rfl
      rw [fb_ct_succ, ht, if_pos rfl] at hm
      have hi := ix_n (w := fb_ct (fun i => v.testBit i) k) (N := 3) (by decide) (by omega)
      refine ⟨hi.1, ?_⟩
      have h2 := ih (k + 1) _ (upd f (fb_ct (fun i => v.testBit i) k) (nI k)) (by omega) (nI_1 k) (fun i hi2 => by
        rw [fb_ct_succ, ht, if_pos rfl] at hi2
        rw [upd_at]
        by_cases he : i = fb_ct (fun i => v.testBit i) k
        · rw [if_pos he, he, wl_at v hv k (by omega) ht]
        · rw [if_neg he]
          exact hf i (by omega))
      rw [fb_ct_succ, ht, if_pos rfl, ← nI_1] at h2
      have e2 : (uI I 38 21 (nI (fb_ct (fun i => v.testBit i) k)) 38 21).toNatClampNeg = fb_ct (fun i => v.testBit i) k := hi.2
      rw [e2]
      exact ⟨trivial, h2⟩
theorem m_findWords (d : Nat) {v : Nat} (hv : v < 64) (h3 : (wl v).length ≤ 3) : sp (d + 1) 153 [.ref 38, .int (nI v)] (gm L xs A I F P) (fun r m => r = none ∧ ∃ f, (∀ i, i < (wl v).length → f i = nI ((wl v).getD i 0)) ∧ m = gm L xs (uR A 51 f) (uI I 38 21 (nI (wl v).length)) F P) := by
  refine ⟨⟨_, rfl⟩, rfl, mm_WP.go [7] 100 ⟨trivial, ?_⟩⟩
  have h := m_fw_loop (L := L) (xs := xs) (A := A) (I := I) (F := F) (P := P) (d := d) (B := mm_Al 153) (Q := fun r m => r = none ∧ ∃ f, (∀ i, i < (wl v).length → f i = nI ((wl v).getD i 0)) ∧ m = gm L xs (uR A 51 f) (uI I 38 21 (nI (wl v).length)) F P) hv h3 (fun f hf => ⟨rfl, f, hf, rfl⟩) 6 0 _ (A 51) rfl rfl (fun i hi => absurd hi (Nat.not_lt_zero i))
  rw [uR_self] at h
  exact h
/-- all the words of some places have it left -/
def ck (f : Nat → Nat → Bool) (ws : Nat → Nat) (pl : Nat) : Nat → Nat → Bool
  | 0, _ => true
  | k + 1, m => ck f ws pl k m && (!pl.testBit k || f (ws k) m)
theorem m_ct_in {d : Nat} {B : Nat × Nat} {Q : mm_Q} (hR : RS n H S A I) {len pl : Nat} {ws : Nat → Nat} (hl : len ≤ 3) (hI : I 38 21 = nI len) (hA : ∀ i, i < len → A 51 i = nI (ws i) ∧ ws i < 6) (hpl : pl < 64) {m : Nat} (hm : m < 90) {c : Int32}
    (hq : ∀ x : Int32, wp (d + 1) B cd_Model_commonTo Q 68 [some (.ref 38), some (.int (nI pl)), some (.int c), some (.int (nI m)), some (.int (bI (ck (L0 n H S) ws pl len m))), some (.int x)] [] (gm L xs A I F P)) :
    ∀ (j k : Nat) (x y : Int32), j + k = len → x = nI k → y = bI (ck (L0 n H S) ws pl k m) → wp (d + 1) B cd_Model_commonTo Q 16 [some (.ref 38), some (.int (nI pl)), some (.int c), some (.int (nI m)), some (.int y), some (.int x)] [] (gm L xs A I F P) := by
  intro j
  induction j with
  | zero =>
    intro k x y hk hx hy
    refine mm_WP.go [16, 68] 100 (lp_ge hx hI (by omega) (by omega) (fun h => ?_) (fun h => absurd h (by omega)))
    subst h
    rw [hy]
    exact hq _
  | succ j ih =>
    intro k x y hk hx hy
    have hkl : k < len := by omega
    refine mm_WP.go [16, 68] 100 (lp_ge hx hI (by omega) (by omega) (fun h => absurd h (by omega)) (fun _ => ?_))
    subst hx
    have hb := sr_bit pl hpl k (by omega)
    obtain ⟨a1, a2⟩ := hA k hkl
    have hi := ix_n (w := k) (N := 3) (by decide) (by omega)
    refine ⟨fun c => ?_, fun c => ⟨fun c2 => ?_, fun c2 => ⟨hi.1, ?_⟩⟩⟩
    · refine ih (k + 1) _ _ (by omega) (nI_1 k) ?_
      have h0 := bI_0 (hy ▸ c)
      rw [ck, h0]
      rfl
    · refine ih (k + 1) _ _ (by omega) (nI_1 k) ?_
      have h0 := bI_1 (hy ▸ c)
      have h1 := bI_0 (hb ▸ c2)
      rw [ck, h0, h1]
      rfl
    · have h0 := bI_1 (hy ▸ c)
      have h1 := bI_1 (hb ▸ c2)
      rw [show A 51 ((nI k).toNatClampNeg) = nI (ws k) by rw [hi.2, a1]]
      refine cy (m_isLeft d hR a2 hm 0) (fun h => ?_) (fun h => ?_)
      · refine e1 (ih (k + 1) _ _ (by omega) (nI_1 k) ?_)
        rw [ck, h0, h1, show L0 n H S (ws k) m = true from Lp_iff.mpr h]
        rfl
      · refine e0 (ih (k + 1) _ _ (by omega) (nI_1 k) ?_)
        have e : L0 n H S (ws k) m = false := by
          cases hh : L0 n H S (ws k) m
          · rfl
          · exact absurd (Lp_iff.mp hh) h
        rw [ck, h0, h1, e]
        rfl
theorem m_ct_loop {d : Nat} {B : Nat × Nat} {Q : mm_Q} (hR : RS n H S A I) {len pl : Nat} {ws : Nat → Nat} (hl : len ≤ 3) (hI : I 38 21 = nI len) (hA : ∀ i, i < len → A 51 i = nI (ws i) ∧ ws i < 6) (hpl : pl < 64) (hq : Q (some (.int (nI (fb_ct (ck (L0 n H S) ws pl len) 90)))) (gm L xs A I F P)) :
    ∀ (j k : Nat) (x y : Int32) (u u2 : Option Value), j + k = 90 → x = nI k → y = nI (fb_ct (ck (L0 n H S) ws pl len) k) → wp (d + 1) B cd_Model_commonTo Q 4 [some (.ref 38), some (.int (nI pl)), some (.int y), some (.int x), u, u2] [] (gm L xs A I F P) := by
  intro j
  induction j with
  | zero =>
    intro k x y u u2 hk hx hy
    refine mm_WP.go [4] 100 (lp_ge (N := 90) hx rfl (by omega) (by omega) (fun h => ?_) (fun h => absurd h (by omega)))
    subst h
    rw [hy]
    exact hq
  | succ j ih =>
    intro k x y u u2 hk hx hy
    refine mm_WP.go [4, 16] 100 (lp_ge (N := 90) hx rfl (by omega) (by omega) (fun h => absurd h (by omega)) (fun _ => ?_))
    subst hx
    refine m_ct_in hR hl hI hA hpl (by omega) (fun z => ?_) len 0 _ _ rfl rfl rfl
    cases hc : ck (L0 n H S) ws pl len k
    · refine mm_WP.go [4] 100 (e0 (ih (k + 1) _ _ _ _ (by omega) (nI_1 k) ?_))
      rw [hy, fb_ct_succ, hc]
      exact Int32.add_zero _
    · refine mm_WP.go [4] 100 (e1 (ih (k + 1) _ _ _ _ (by omega) (nI_1 k) ?_))
      rw [hy, fb_ct_succ, hc]
      exact nI_1 _
theorem m_commonTo (d : Nat) (hR : RS n H S A I) {len pl : Nat} {ws : Nat → Nat} (hl : len ≤ 3) (hI : I 38 21 = nI len) (hA : ∀ i, i < len → A 51 i = nI (ws i) ∧ ws i < 6) (hpl : pl < 64) : sp (d + 2) 154 [.ref 38, .int (nI pl)] (gm L xs A I F P) (ans (gm L xs A I F P) (nI (fb_ct (ck (L0 n H S) ws pl len) 90))) := by
  refine ⟨⟨_, rfl⟩, rfl, mm_WP.go [4] 100 ?_⟩
  exact m_ct_loop hR hl hI hA hpl ⟨rfl, rfl⟩ 90 0 _ _ _ _ rfl rfl rfl
theorem I_sub1 {a b c : Nat} (h : a + b = c) : nI c - nI b = nI a := by
  subst h
  rw [← nI_add, Int32.add_sub_cancel]
theorem I_sub3 {x y z u v w : Int32} (h : x + y = z + u + v + w) : x - u - v - w + y = z := by grind
theorem tb7 : Nat.testBit 1 1 = false ∧ Nat.testBit 1 2 = false ∧ Nat.testBit 2 1 = true ∧ Nat.testBit 2 2 = false ∧ Nat.testBit 3 1 = true ∧ Nat.testBit 3 2 = false ∧ Nat.testBit 4 1 = false ∧ Nat.testBit 4 2 = true ∧ Nat.testBit 5 1 = false ∧ Nat.testBit 5 2 = true ∧ Nat.testBit 6 1 = true ∧ Nat.testBit 6 2 = true ∧ Nat.testBit 7 1 = true ∧ Nat.testBit 7 2 = true := by decide
/-- the reference's givings, not refused -/
theorem m_givings (d : Nat) {v : Nat} (hR : RS n H S A I) (h1 : 1 ≤ v) (hv : v < 64) (h3 : (wl v).length ≤ 3) : sp (d + 10) 150 [.ref 38, .int (nI v)] (gm L xs A I F P) (fun r m => r = some (.int (nI (WW ((wl v).map (L0 n H S)) (-9) (-9)))) ∧ ∃ f, m = gm L xs (uR A 51 f) (uI I 38 21 (nI (wl v).length)) F P) := by
  refine ⟨⟨_, rfl⟩, rfl, mm_WP.go [] 100 (cy (m_isSet (d + 6) _ _ _ _ _ _ _) (fun _ => ?_) (fun h => absurd ((GS_iff h1 hv).mpr h3) h))⟩
  refine n1 ⟨_, m_findWords (d + 8) hv h3, ?_⟩
  rintro r m ⟨rfl, f, hf, rfl⟩
  have hA : ∀ i, i < (wl v).length → (uR A 51 f) 51 i = nI ((wl v).getD i 0) ∧ (wl v).getD i 0 < 6 := fun i hi => ⟨hf i hi, wl_lt v hv _ (by
    rw [List.getD_eq_getElem?_getD, List.getElem?_eq_getElem hi]
    exact List.getElem_mem hi)⟩
  have hc := fun pl (hpl : pl < 64) => m_commonTo (L := L) (xs := xs) (A := uR A 51 f) (I := uI I 38 21 (nI (wl v).length)) (F := F) (P := P) (n := n) (H := H) (S := S) (d + 7) hR (ws := fun i => (wl v).getD i 0) h3 rfl hA hpl
  have h0 : (wl v).length ≠ 0 := fun h => by
    have := (wl_0 v hv).mpr (List.eq_nil_of_length_eq_zero h)
    omega
  refine ca (hc 1 (by decide)) ?_
  match hw : wl v, h3, h0 with
  | [], _, h0 => exact absurd rfl h0
  | [a], _, _ =>
    refine ⟨fun c => absurd rfl c, fun _ => ⟨?_, f, rfl⟩⟩
    show some (Value.int (nI (fb_ct _ 90))) = some (.int (nI (WW [L0 n H S a] (-9) (-9))))
    rw [WW_1, fb_ct_cong (q := q1 (L0 n H S a) (-9) (-9)) (fun m hm => ?_)]
    rw [q1_9 hm]
    rfl
  | [a, b], _, _ =>
    rw [hw] at hc
    refine ⟨fun _ => ca (hc 2 (by decide)) ⟨fun c => absurd rfl c, fun _ => ca (hc 3 (by decide)) ⟨?_, f, rfl⟩⟩, fun c => absurd c (show ¬ (2 : Int32) = 1 by decide)⟩
    have h2 := WW_2 (L0 n H S a) (L0 n H S b)
    have g1 : fb_ct (ck (L0 n H S) (fun i => [a, b].getD i 0) 1 2) 90 = fb_ct (L0 n H S a) 90 := fb_ct_cong (fun m _ => by simp [ck, tb7])
    have g2 : fb_ct (ck (L0 n H S) (fun i => [a, b].getD i 0) 2 2) 90 = fb_ct (L0 n H S b) 90 := fb_ct_cong (fun m _ => by simp [ck, tb7])
    have g3 : fb_ct (ck (L0 n H S) (fun i => [a, b].getD i 0) 3 2) 90 = fb_ct (pa (L0 n H S a) (L0 n H S b)) 90 := fb_ct_cong (fun m _ => by simp [ck, tb7, pa])
    show some (Value.int (nI (fb_ct (ck (L0 n H S) (fun i => [a, b].getD i 0) 1 2) 90) * nI (fb_ct (ck (L0 n H S) (fun i => [a, b].getD i 0) 2 2) 90) - nI (fb_ct (ck (L0 n H S) (fun i => [a, b].getD i 0) 3 2) 90))) = some (.int (nI (WW [L0 n H S a, L0 n H S b] (-9) (-9))))
    rw [g1, g2, g3, pk_mul, I_sub1 (a := WW [L0 n H S a, L0 n H S b] (-9) (-9))]
    have := Int.natCast_mul (fb_ct (L0 n H S a) 90) (fb_ct (L0 n H S b) 90)
    omega
  | [a, b, c], _, _ =>
    rw [hw] at hc
    refine ⟨fun _ => ca (hc 2 (by decide)) ⟨fun _ => ca (hc 4 (by decide)) (ca (hc 3 (by decide)) (ca (hc 5 (by decide)) (ca (hc 6 (by decide)) (ca (hc 7 (by decide)) ⟨?_, f, rfl⟩)))), fun c => absurd c (show ¬ (3 : Int32) = 2 by decide)⟩, fun c => absurd c (show ¬ (3 : Int32) = 1 by decide)⟩
    have h2 := WW_3 (L0 n H S a) (L0 n H S b) (L0 n H S c)
    have g1 : fb_ct (ck (L0 n H S) (fun i => [a, b, c].getD i 0) 1 3) 90 = fb_ct (L0 n H S a) 90 := fb_ct_cong (fun m _ => by simp [ck, tb7])
    have g2 : fb_ct (ck (L0 n H S) (fun i => [a, b, c].getD i 0) 2 3) 90 = fb_ct (L0 n H S b) 90 := fb_ct_cong (fun m _ => by simp [ck, tb7])
    have g4 : fb_ct (ck (L0 n H S) (fun i => [a, b, c].getD i 0) 4 3) 90 = fb_ct (L0 n H S c) 90 := fb_ct_cong (fun m _ => by simp [ck, tb7])
    have g3 : fb_ct (ck (L0 n H S) (fun i => [a, b, c].getD i 0) 3 3) 90 = fb_ct (pa (L0 n H S a) (L0 n H S b)) 90 := fb_ct_cong (fun m _ => by simp [ck, tb7, pa])
    have g5 : fb_ct (ck (L0 n H S) (fun i => [a, b, c].getD i 0) 5 3) 90 = fb_ct (pa (L0 n H S a) (L0 n H S c)) 90 := fb_ct_cong (fun m _ => by simp [ck, tb7, pa])
    have g6 : fb_ct (ck (L0 n H S) (fun i => [a, b, c].getD i 0) 6 3) 90 = fb_ct (pa (L0 n H S b) (L0 n H S c)) 90 := fb_ct_cong (fun m _ => by simp [ck, tb7, pa])
    have g7 : fb_ct (ck (L0 n H S) (fun i => [a, b, c].getD i 0) 7 3) 90 = fb_ct (pa (L0 n H S a) (pa (L0 n H S b) (L0 n H S c))) 90 := fb_ct_cong (fun m _ => by simp [ck, tb7, pa, Bool.and_assoc])
    show some (Value.int (nI (fb_ct (ck (L0 n H S) (fun i => [a, b, c].getD i 0) 1 3) 90) * nI (fb_ct (ck (L0 n H S) (fun i => [a, b, c].getD i 0) 2 3) 90) * nI (fb_ct (ck (L0 n H S) (fun i => [a, b, c].getD i 0) 4 3) 90) - nI (fb_ct (ck (L0 n H S) (fun i => [a, b, c].getD i 0) 3 3) 90) * nI (fb_ct (ck (L0 n H S) (fun i => [a, b, c].getD i 0) 4 3) 90) - nI (fb_ct (ck (L0 n H S) (fun i => [a, b, c].getD i 0) 5 3) 90) * nI (fb_ct (ck (L0 n H S) (fun i => [a, b, c].getD i 0) 2 3) 90) - nI (fb_ct (ck (L0 n H S) (fun i => [a, b, c].getD i 0) 6 3) 90) * nI (fb_ct (ck (L0 n H S) (fun i => [a, b, c].getD i 0) 1 3) 90) + nI 2 * nI (fb_ct (ck (L0 n H S) (fun i => [a, b, c].getD i 0) 7 3) 90))) = some (.int (nI (WW [L0 n H S a, L0 n H S b, L0 n H S c] (-9) (-9))))
    rw [g1, g2, g3, g4, g5, g6, g7]
    generalize fb_ct (L0 n H S a) 90 = na at *
    generalize fb_ct (L0 n H S b) 90 = nb at *
    generalize fb_ct (L0 n H S c) 90 = nc at *
    generalize fb_ct (pa (L0 n H S a) (L0 n H S b)) 90 = nab at *
    generalize fb_ct (pa (L0 n H S a) (L0 n H S c)) 90 = nac at *
    generalize fb_ct (pa (L0 n H S b) (L0 n H S c)) 90 = nbc at *
    generalize fb_ct (pa (L0 n H S a) (pa (L0 n H S b) (L0 n H S c))) 90 = nabc at *
    generalize WW [L0 n H S a, L0 n H S b, L0 n H S c] (-9) (-9) = W at *
    have h5 : na * nb * nc + 2 * nabc = W + nab * nc + nac * nb + nbc * na := by
      have e1 := Int.natCast_mul (na * nb) nc
      have e2 := Int.natCast_mul na nb
      have e3 := Int.natCast_mul nab nc
      have e4 := Int.natCast_mul nac nb
      have e5 := Int.natCast_mul nbc na
      rw [e2] at e1
      omega
    rw [pk_mul, pk_mul, pk_mul, pk_mul, pk_mul, pk_mul, I_sub3 (z := nI W)]
    rw [nI_add, h5, nI_add, nI_add, nI_add]
theorem m_givings_r (d : Nat) {x : Int32} (h : ¬ GS x) : sp (d + 10) 150 [.ref 38, .int x] (gm L xs A I F P) (rM L xs A I F P 1 (-1)) := by
  refine ⟨⟨_, rfl⟩, rfl, mm_WP.go [] 100 (cy (m_isSet (d + 6) _ _ _ _ _ _ _) (fun h2 => absurd h2 h) (fun _ => ?_))⟩
  exact n0 (ca (m_rf1 (d + 8)) ⟨rfl, rfl⟩)
end M14
end
section
/-! the reference: giving -/
def SQ (f : Nat → Nat → Bool) : List Nat → (Nat → Int32) → Nat → Int32 → Int32 → Prop
  | [], _, _, _, _ => True
  | w :: r, g, o, t, b => g o = fi (lm (f w) (r.map f) t b) 90 0 ∧ ¬ g o = -9 ∧ SQ f r g (o + 1) (g o) t
theorem L0_ff {n : Nat} {H S : Nat → Nat → Bool} {w m : Nat} (h : ¬ (lf n H S w m : Int) ≤ (0 : Int32).toInt) : L0 n H S w m = false := by
  cases hh : L0 n H S w m
  · rfl
  · exact absurd (Lp_iff.mp hh) h
theorem lm_nil {p : Nat → Bool} {t b : Int32} {m : Nat} : lm p [] t b m = q1 p t b m := by
  unfold lm
  rw [show WW [] (nI m) t = 1 from rfl]
  simp
section M15
variable {L : Nat} {xs : Nat → Int32} {A I : Nat → Nat → Int32} {F : Nat → Nat → Option Nat} {P : mm_M} {n : Nat} {H S : Nat → Nat → Bool}
theorem m_ol_loop {d : Nat} {B : Nat × Nat} {Q : mm_Q} (hR : RS n H S A I) {w : Nat} (hw : w < 6) (hA : A 51 2 = nI w)
    (hq0 : fi (lm (L0 n H S w) [] (A 52 1) (A 52 0)) 90 0 = -9 → Q (some (.int 0)) (gm L xs A I F P)) (hq1 : ∀ i, i < 90 → fi (lm (L0 n H S w) [] (A 52 1) (A 52 0)) 90 0 = nI i → Q (some (.int 1)) (gm L xs (uR A 52 (upd (A 52) 2 (nI i))) I F P)) :
    ∀ (j k : Nat) (x : Int32), j + k = 90 → x = nI k → fi (lm (L0 n H S w) [] (A 52 1) (A 52 0)) 90 0 = fi (lm (L0 n H S w) [] (A 52 1) (A 52 0)) j k →
      wp (d + 1) B cd_Model_isOneLeft Q 2 [some (.ref 38), some (.int (nI 2)), some (.int x)] [] (gm L xs A I F P) := by
  intro j
  induction j with
  | zero =>
    intro k x hk hx hf
    exact mm_WP.go [2] 100 (lp_ge (N := 90) hx rfl (by omega) (by omega) (fun h => ⟨rfl, hq0 hf⟩) (fun h => absurd h (by omega)))
  | succ j ih =>
    intro k x hk hx hf
    refine mm_WP.go [2] 100 (lp_ge (N := 90) hx rfl (by omega) (by omega) (fun h => absurd h (by omega)) (fun _ => ?_))
    subst hx
    have hi := ix_n (w := 2) (N := 3) (by decide) (by omega)
    have no : lm (L0 n H S w) [] (A 52 1) (A 52 0) k = false → fi (lm (L0 n H S w) [] (A 52 1) (A 52 0)) 90 0 = fi (lm (L0 n H S w) [] (A 52 1) (A 52 0)) j (k + 1) := by
      intro h
      rw [hf, fi, h]
      rfl
    refine ⟨hi.1, ?_⟩
    rw [show A 51 ((nI 2).toNatClampNeg) = nI w from hA]
    refine cy (m_isLeft d hR hw (by omega) 0) (fun h => e1 ?_) (fun h => e0 ?_)
    · have h1 : L0 n H S w k = true := Lp_iff.mpr h
      refine ⟨vp_in_iff.mpr (by decide), fun c => ?_, fun c => ⟨vp_in_iff.mpr (by decide), fun c2 => ?_, fun c2 => ?_⟩⟩
      · refine ih (k + 1) _ (by omega) (nI_1 k) (no ?_)
        rw [lm_nil]
        unfold q1
        rw [decide_eq_true (show nI k = A 52 0 from c.symm)]
        simp
      · refine ih (k + 1) _ (by omega) (nI_1 k) (no ?_)
        rw [lm_nil]
        unfold q1
        rw [decide_eq_true (show nI k = A 52 1 from c2.symm)]
        simp
      · have hk2 : lm (L0 n H S w) [] (A 52 1) (A 52 0) k = true := by
          rw [lm_nil]
          unfold q1
          rw [decide_eq_false (show ¬ nI k = A 52 0 from fun z => c z.symm), decide_eq_false (show ¬ nI k = A 52 1 from fun z => c2 z.symm), h1]
          rfl
        exact ⟨hi.1, rfl, hq1 k (by omega) (by rw [hf, fi, if_pos hk2])⟩
    · refine ih (k + 1) _ (by omega) (nI_1 k) (no ?_)
      rw [lm_nil]
      unfold q1
      rw [L0_ff h]
      simp
/-- behind one of the three: no giving, or the first -/
def gq (L : Nat) (xs : Nat → Int32) (A I : Nat → Nat → Int32) (F : Nat → Nat → Option Nat) (P : mm_M) (f : Nat → Nat → Bool) (l : List Nat) (o : Nat) (t b : Int32) : mm_Q := fun r m => ∃ g, m = gm L xs (uR A 52 g) I F P ∧ (∀ i, i < o → g i = A 52 i) ∧ (r = some (.int 0) ∧ ¬ 0 < WW (l.map f) t b ∨ r = some (.int 1) ∧ 0 < WW (l.map f) t b ∧ SQ f l g o t b)
theorem m_isOneLeft (d : Nat) (hR : RS n H S A I) {w : Nat} (hw : w < 6) (hA : A 51 2 = nI w) {x : Int32} (hx : x = nI 2) : sp (d + 2) 158 [.ref 38, .int x] (gm L xs A I F P) (gq L xs A I F P (L0 n H S) [w] 2 (A 52 1) (A 52 0)) := by
  subst hx
  refine ⟨⟨_, rfl⟩, rfl, mm_WP.go [2] 100 ?_⟩
  refine m_ol_loop hR hw hA (fun h => ?_) (fun i hi h => ?_) 90 0 _ rfl rfl rfl
  · refine ⟨A 52, by rw [uR_self], fun _ _ => rfl, Or.inl ⟨rfl, ?_⟩⟩
    exact lm_WW.mp h
  · have h9 : ¬ fi (lm (L0 n H S w) [] (A 52 1) (A 52 0)) 90 0 = -9 := by rw [h]; exact nI_n9 (by omega)
    refine ⟨_, rfl, fun j hj => ?_, Or.inr ⟨rfl, Classical.not_not.mp (fun z => h9 (lm_WW.mpr z)), ?_, ?_, trivial⟩⟩
    · rw [upd_at, if_neg (by omega)]
    · rw [upd_at, if_pos rfl]
      exact h.symm
    · rw [upd_at, if_pos rfl]
      exact nI_n9 (by omega)
theorem m_ch_loop {d : Nat} {B : Nat × Nat} {Q : mm_Q} (hR : RS n H S A I) {w : Nat} {rs : List Nat} (hw : w < 6) (hrs : rs = [] ∨ ∃ w2, rs = [w2] ∧ w2 < 6 ∧ A 51 2 = nI w2) (hA : A 51 1 = nI w) (hI : I 38 21 = nI (rs.length + 2)) {t0 : Int32}
    (hq0 : fi (lm (L0 n H S w) (rs.map (L0 n H S)) t0 (-9)) 90 0 = -9 → ∀ g : Nat → Int32, g 0 = t0 → Q (some (.int 0)) (gm L xs (uR A 52 g) I F P)) (hq1 : ∀ g : Nat → Int32, g 0 = t0 → SQ (L0 n H S) (w :: rs) g 1 t0 (-9) → Q (some (.int 1)) (gm L xs (uR A 52 g) I F P)) :
    ∀ (j k : Nat) (x : Int32) (g : Nat → Int32) (u u2 : Option Value), j + k = 90 → x = nI k → g 0 = t0 → fi (lm (L0 n H S w) (rs.map (L0 n H S)) t0 (-9)) 90 0 = fi (lm (L0 n H S w) (rs.map (L0 n H S)) t0 (-9)) j k →
      wp (d + 2) B cd_Model_canHave Q 2 [some (.ref 38), some (.int 1), some (.int x), u, u2] [] (gm L xs (uR A 52 g) I F P) := by
  intro j
  induction j with
  | zero =>
    intro k x g u u2 hk hx hg hf
    exact mm_WP.go [2] 100 (lp_ge (N := 90) hx rfl (by omega) (by omega) (fun h => ⟨rfl, hq0 hf g hg⟩) (fun h => absurd h (by omega)))
  | succ j ih =>
    intro k x g u u2 hk hx hg hf
    refine mm_WP.go [2] 100 (lp_ge (N := 90) hx rfl (by omega) (by omega) (fun h => absurd h (by omega)) (fun _ => ?_))
    subst hx
    have no : lm (L0 n H S w) (rs.map (L0 n H S)) t0 (-9) k = false → fi (lm (L0 n H S w) (rs.map (L0 n H S)) t0 (-9)) 90 0 = fi (lm (L0 n H S w) (rs.map (L0 n H S)) t0 (-9)) j (k + 1) := by
      intro h
      rw [hf, fi, h]
      rfl
    refine ⟨vp_in_iff.mpr (by decide), ?_⟩
    rw [show uR A 52 g 51 ((1 : Int32).toNatClampNeg) = nI w from hA]
    refine cy (m_isLeft (A := uR A 52 g) (d + 1) hR hw (by omega) 0) (fun h => ?_) (fun h => ?_)
    · have h1 : L0 n H S w k = true := Lp_iff.mpr h
      refine ⟨fun c => absurd c (by decide), fun _ => e1 ⟨vp_in_iff.mpr (by decide), fun c => ?_, fun c => ?_⟩⟩
      · refine ⟨fun _ => e0 (ih (k + 1) _ g _ _ (by omega) (nI_1 k) hg (no ?_)), fun c => absurd (by decide) c⟩
        unfold lm q1
        rw [decide_eq_true (show nI k = t0 from (hg.symm.trans c).symm)]
        simp
      · have hne : ¬ nI k = t0 := fun z => c (show g 0 = nI k from hg.trans z.symm)
        have hq : q1 (L0 n H S w) t0 (-9) k = true := by
          unfold q1
          rw [decide_eq_false hne, decide_eq_false (nI_n9 (by omega)), h1]
          rfl
        have hu0 : (upd g 1 (nI k)) 0 = t0 := by rw [upd_at, if_neg (by decide)]; exact hg
        have hu1 : (upd g 1 (nI k)) 1 = nI k := by rw [upd_at, if_pos rfl]
        refine ⟨fun _ => e1 ⟨vp_in_iff.mpr (by decide), ?_⟩, fun c => absurd (by decide) c⟩
        rcases hrs with rfl | ⟨w2, rfl, hw2, hA2⟩
        · have hlm : lm (L0 n H S w) (([] : List Nat).map (L0 n H S)) t0 (-9) k = true := by rw [List.map_nil, lm_nil]; exact hq
          refine ⟨fun _ => ⟨rfl, hq1 (upd g 1 (nI k)) hu0 ⟨?_, ?_, trivial⟩⟩, fun c => absurd (show (1 : Int32) + 1 = I 38 21 by rw [hI]; rfl) c⟩
          · rw [hu1]
            exact (by rw [hf, fi, if_pos hlm] : fi (lm (L0 n H S w) (([] : List Nat).map (L0 n H S)) t0 (-9)) 90 0 = nI k).symm
          · rw [hu1]
            exact nI_n9 (by omega)
        · refine ⟨fun c => absurd (show nI 2 = nI 3 from c.trans hI) (by decide), fun _ => ⟨_, m_isOneLeft (A := uR A 52 (upd g 1 (nI k))) d hR hw2 hA2 rfl, ?_⟩⟩
          rintro r m ⟨g2, rfl, hg2, hr⟩
          rw [uR_uR]
          have k0 : g2 0 = t0 := (hg2 0 (by decide)).trans hu0
          have k1 : g2 1 = nI k := (hg2 1 (by decide)).trans hu1
          have e0' : uR A 52 (upd g 1 (nI k)) 52 0 = t0 := hu0
          have e1' : uR A 52 (upd g 1 (nI k)) 52 1 = nI k := hu1
          rw [e0', e1'] at hr
          rcases hr with ⟨rfl, hz⟩ | ⟨rfl, hz, hs⟩
          · refine e0 (ih (k + 1) _ g2 _ _ (by omega) (nI_1 k) k0 (no ?_))
            unfold lm
            rw [hq, decide_eq_false hz]
            rfl
          · refine e1 ⟨rfl, hq1 g2 k0 ⟨?_, ?_, ?_⟩⟩
            · rw [k1, hf, fi, if_pos]
              unfold lm
              rw [hq, decide_eq_true hz]
              rfl
            · rw [k1]
              exact nI_n9 (by omega)
            · rw [k1]
              exact hs
    · refine ⟨fun c => absurd c (by decide), fun _ => e0 ⟨fun _ => e0 (ih (k + 1) _ g _ _ (by omega) (nI_1 k) hg (no ?_)), fun c => absurd (by decide) c⟩⟩
      unfold lm q1
      rw [L0_ff h]
      simp
theorem m_canHave (d : Nat) (hR : RS n H S A I) {w : Nat} {rs : List Nat} (hw : w < 6) (hrs : rs = [] ∨ ∃ w2, rs = [w2] ∧ w2 < 6 ∧ A 51 2 = nI w2) (hA : A 51 1 = nI w) (hI : I 38 21 = nI (rs.length + 2)) {x : Int32} (hx : x = 1) : sp (d + 3) 157 [.ref 38, .int x] (gm L xs A I F P) (gq L xs A I F P (L0 n H S) (w :: rs) 1 (A 52 0) (-9)) := by
  subst hx
  refine ⟨⟨_, rfl⟩, rfl, mm_WP.go [2] 100 ?_⟩
  have h := m_ch_loop (L := L) (xs := xs) (F := F) (P := P) (d := d) (B := mm_Al 157) (Q := gq L xs A I F P (L0 n H S) (w :: rs) 1 (A 52 0) (-9)) hR hw hrs hA hI (t0 := A 52 0) (fun h g hg => ?_) (fun g hg hs => ?_) 90 0 _ (A 52) none none rfl rfl rfl rfl
  · rw [uR_self] at h
    exact h
  · refine ⟨g, rfl, fun i hi => ?_, Or.inl ⟨rfl, lm_WW.mp h⟩⟩
    have : i = 0 := by omega
    subst this
    exact hg
  · refine ⟨g, rfl, fun i hi => ?_, Or.inr ⟨rfl, Classical.not_not.mp (fun z => ?_), hs⟩⟩
    · have : i = 0 := by omega
      subst this
      exact hg
    · exact hs.2.1 (hs.1.trans (lm_WW.mpr z))
theorem m_ff_loop {d : Nat} {B : Nat × Nat} {Q : mm_Q} (hR : RS n H S A I) {w : Nat} {rs : List Nat} (hw : w < 6)
    (hrs : rs = [] ∨ ∃ w1 r2, rs = w1 :: r2 ∧ w1 < 6 ∧ A 51 1 = nI w1 ∧ (r2 = [] ∨ ∃ w2, r2 = [w2] ∧ w2 < 6 ∧ A 51 2 = nI w2)) (hA : A 51 0 = nI w) (hI : I 38 21 = nI (rs.length + 1))
    (hq0 : fi (lm (L0 n H S w) (rs.map (L0 n H S)) (-9) (-9)) 90 0 = -9 → ∀ g : Nat → Int32, Q (some (.int 0)) (gm L xs (uR A 52 g) I F P)) (hq1 : ∀ g : Nat → Int32, SQ (L0 n H S) (w :: rs) g 0 (-9) (-9) → Q (some (.int 1)) (gm L xs (uR A 52 g) I F P)) :
    ∀ (j k : Nat) (x : Int32) (g : Nat → Int32) (u u2 : Option Value), j + k = 90 → x = nI k → fi (lm (L0 n H S w) (rs.map (L0 n H S)) (-9) (-9)) 90 0 = fi (lm (L0 n H S w) (rs.map (L0 n H S)) (-9) (-9)) j k →
      wp (d + 3) B cd_Model_findFirst Q 2 [some (.ref 38), some (.int 0), some (.int x), u, u2] [] (gm L xs (uR A 52 g) I F P) := by
  intro j
  induction j with
  | zero =>
    intro k x g u u2 hk hx hf
    exact mm_WP.go [2] 100 (lp_ge (N := 90) hx rfl (by omega) (by omega) (fun h => ⟨rfl, hq0 hf g⟩) (fun h => absurd h (by omega)))
  | succ j ih =>
    intro k x g u u2 hk hx hf
    refine mm_WP.go [2] 100 (lp_ge (N := 90) hx rfl (by omega) (by omega) (fun h => absurd h (by omega)) (fun _ => ?_))
    subst hx
    have no : lm (L0 n H S w) (rs.map (L0 n H S)) (-9) (-9) k = false → fi (lm (L0 n H S w) (rs.map (L0 n H S)) (-9) (-9)) 90 0 = fi (lm (L0 n H S w) (rs.map (L0 n H S)) (-9) (-9)) j (k + 1) := by
      intro h
      rw [hf, fi, h]
      rfl
    refine ⟨vp_in_iff.mpr (by decide), ?_⟩
    rw [show uR A 52 g 51 ((0 : Int32).toNatClampNeg) = nI w from hA]
    refine cy (m_isLeft (A := uR A 52 g) (d + 2) hR hw (by omega) 0) (fun h => ?_) (fun h => ?_)
    · have h1 : L0 n H S w k = true := Lp_iff.mpr h
      have hq : q1 (L0 n H S w) (-9) (-9) k = true := by rw [q1_9 (by omega)]; exact h1
      have hu : (upd g 0 (nI k)) 0 = nI k := by rw [upd_at, if_pos rfl]
      refine ⟨fun _ => e1 ⟨vp_in_iff.mpr (by decide), ?_⟩, fun c => absurd (by decide) c⟩
      rcases hrs with rfl | ⟨w1, r2, rfl, hw1, hA1, hr2⟩
      · have hlm : lm (L0 n H S w) (([] : List Nat).map (L0 n H S)) (-9) (-9) k = true := by rw [List.map_nil, lm_nil]; exact hq
        refine ⟨fun _ => ⟨rfl, hq1 (upd g 0 (nI k)) ⟨?_, ?_, trivial⟩⟩, fun c => absurd (show (0 : Int32) + 1 = I 38 21 by rw [hI]; rfl) c⟩
        · rw [hu]
          exact (by rw [hf, fi, if_pos hlm] : fi (lm (L0 n H S w) (([] : List Nat).map (L0 n H S)) (-9) (-9)) 90 0 = nI k).symm
        · rw [hu]
          exact nI_n9 (by omega)
      · refine ⟨fun c => ?_, fun _ => ⟨_, m_canHave (A := uR A 52 (upd g 0 (nI k))) d hR hw1 hr2 hA1 hI (by decide), ?_⟩⟩
        · have hl : r2.length ≤ 1 := by
            rcases hr2 with rfl | ⟨w2, rfl, _, _⟩
            · exact Nat.zero_le _
            · exact Nat.le_refl _
          have h2 : nI 1 = nI (r2.length + 2) := c.trans hI
          rw [nI_eq (by omega) (by omega)] at h2
          omega
        · rintro r m ⟨g2, rfl, hg2, hr⟩
          rw [uR_uR]
          have k0 : g2 0 = nI k := (hg2 0 (by decide)).trans hu
          have e0' : uR A 52 (upd g 0 (nI k)) 52 0 = nI k := hu
          rw [e0'] at hr
          rcases hr with ⟨rfl, hz⟩ | ⟨rfl, hz, hs⟩
          · refine e0 (ih (k + 1) _ g2 _ _ (by omega) (nI_1 k) (no ?_))
            unfold lm
            rw [hq, decide_eq_false hz]
            rfl
          · refine e1 ⟨rfl, hq1 g2 ⟨?_, ?_, ?_⟩⟩
            · rw [k0, hf, fi, if_pos]
              unfold lm
              rw [hq, decide_eq_true hz]
              rfl
            · rw [k0]
              exact nI_n9 (by omega)
            · rw [k0]
              exact hs
    · refine ⟨fun _ => e0 (ih (k + 1) _ g _ _ (by omega) (nI_1 k) (no ?_)), fun c => absurd (by decide) c⟩
      unfold lm q1
      rw [L0_ff h]
      simp
theorem m_findFirst (d : Nat) (hR : RS n H S A I) {w : Nat} {rs : List Nat} (hw : w < 6)
    (hrs : rs = [] ∨ ∃ w1 r2, rs = w1 :: r2 ∧ w1 < 6 ∧ A 51 1 = nI w1 ∧ (r2 = [] ∨ ∃ w2, r2 = [w2] ∧ w2 < 6 ∧ A 51 2 = nI w2)) (hA : A 51 0 = nI w) (hI : I 38 21 = nI (rs.length + 1)) : sp (d + 4) 156 [.ref 38, .int 0] (gm L xs A I F P) (gq L xs A I F P (L0 n H S) (w :: rs) 0 (-9) (-9)) := by
  refine ⟨⟨_, rfl⟩, rfl, mm_WP.go [2] 100 ?_⟩
  have h := m_ff_loop (L := L) (xs := xs) (F := F) (P := P) (d := d) (B := mm_Al 156) (Q := gq L xs A I F P (L0 n H S) (w :: rs) 0 (-9) (-9)) hR hw hrs hA hI (fun h g => ?_) (fun g hs => ?_) 90 0 _ (A 52) none none rfl rfl rfl
  · rw [uR_self] at h
    exact h
  · exact ⟨g, rfl, fun i hi => absurd hi (Nat.not_lt_zero i), Or.inl ⟨rfl, lm_WW.mp h⟩⟩
  · exact ⟨g, rfl, fun i hi => absurd hi (Nat.not_lt_zero i), Or.inr ⟨rfl, Classical.not_not.mp (fun z => hs.2.1 (hs.1.trans (lm_WW.mpr z))), hs⟩⟩
/-- the word's meaning among those found -/
def fd (ws : Nat → Nat) (g : Nat → Int32) (x : Nat) : Nat → Int32
  | 0 => -9
  | k + 1 => if ws k = x then g k else fd ws g x k
theorem fd_ff {f : Nat → Nat → Bool} {x w : Nat} {rs : List Nat} {g : Nat → Int32} (h3 : (w :: rs).length ≤ 3) (hmem : x ∈ w :: rs) (hnd : (w :: rs).Nodup) (hs : SQ f (w :: rs) g 0 (-9) (-9)) : fd (fun i => (w :: rs).getD i 0) g x (w :: rs).length = ff f x (w :: rs) (-9) (-9) := by
  rcases rs with _ | ⟨w1, _ | ⟨w2, _ | ⟨w3, r⟩⟩⟩
  · have : x = w := by simpa using hmem
    subst this
    rw [ff, if_pos (Or.inr rfl)]
    simp only [fd, List.length_cons, List.length_nil, List.getD_cons_zero]
    rw [if_pos trivial]
    exact hs.1
  · obtain ⟨s1, s2, s3, s4, -⟩ := hs
    have hne : ¬ w = w1 := by
      intro h
      rw [h] at hnd
      simp at hnd
    rw [ff, ← s1]
    simp only [fd, List.length_cons, List.length_nil, List.getD_cons_zero, List.getD_cons_succ]
    by_cases hx1 : w1 = x
    · rw [if_pos hx1, if_neg (by rintro (h | h); exact s2 h; exact hne (h.trans hx1.symm)), ff, if_pos (Or.inr hx1)]
      exact s3
    · have hx0 : w = x := by
        simp at hmem
        rcases hmem with h | h
        · exact h.symm
        · exact absurd h.symm hx1
      rw [if_neg hx1, if_pos hx0, if_pos (Or.inr hx0)]
  · obtain ⟨s1, s2, s3, s4, s5, s6, -⟩ := hs
    have hne : ¬ w = w1 ∧ ¬ w = w2 ∧ ¬ w1 = w2 := by
      simp at hnd
      exact ⟨hnd.1.1, hnd.1.2, hnd.2⟩
    rw [ff, ← s1]
    simp only [fd, List.length_cons, List.length_nil, List.getD_cons_zero, List.getD_cons_succ]
    by_cases hx2 : w2 = x
    · rw [if_pos hx2, if_neg (by rintro (h | h); exact s2 h; exact hne.2.1 (h.trans hx2.symm)), ff, ← s3, if_neg (by rintro (h | h); exact s4 h; exact hne.2.2 (h.trans hx2.symm)), ff, if_pos (Or.inr hx2)]
      exact s5
    · by_cases hx1 : w1 = x
      · rw [if_neg hx2, if_pos hx1, if_neg (by rintro (h | h); exact s2 h; exact hne.1 (h.trans hx1.symm)), ff, if_pos (Or.inr hx1)]
        exact s3
      · have hx0 : w = x := by
          simp at hmem
          rcases hmem with h | h | h
          · exact h.symm
          · exact absurd h.symm hx1
          · exact absurd h.symm hx2
        rw [if_neg hx2, if_neg hx1, if_pos hx0, if_pos (Or.inr hx0)]
  · simp at h3
theorem m_fd_loop {d : Nat} {B : Nat × Nat} {Q : mm_Q} {len x : Nat} {ws : Nat → Nat} {v : Int32} (hx : x < 6) (hl : len ≤ 3) (hI : I 38 21 = nI len) (hA : ∀ i, i < len → A 51 i = nI (ws i) ∧ ws i < 6) (hq : Q (some (.int (fd ws (A 52) x len))) (gm L xs A I F P)) :
    ∀ (j k : Nat) (z y : Int32), j + k = len → z = nI k → y = fd ws (A 52) x k → wp d B cd_Model_giving Q 51 [some (.ref 38), some (.int v), some (.int (nI x)), some (.int y), some (.int z)] [] (gm L xs A I F P) := by
  intro j
  induction j with
  | zero =>
    intro k z y hk hz hy
    refine mm_WP.go [51] 100 (lp_ge hz hI (by omega) (by omega) (fun h => ?_) (fun h => absurd h (by omega)))
    subst h
    rw [hy]
    exact hq
  | succ j ih =>
    intro k z y hk hz hy
    refine mm_WP.go [51] 100 (lp_ge hz hI (by omega) (by omega) (fun h => absurd h (by omega)) (fun _ => ?_))
    subst hz
    have hi := ix_n (w := k) (N := 3) (by decide) (by omega)
    obtain ⟨a1, a2⟩ := hA k (by omega)
    refine ⟨hi.1, ?_⟩
    rw [show A 51 ((nI k).toNatClampNeg) = nI (ws k) by rw [hi.2, a1]]
    refine ⟨fun c => ?_, fun c => ⟨hi.1, ?_⟩⟩
    · refine ih (k + 1) _ _ (by omega) (nI_1 k) ?_
      rw [fd, if_neg (fun h => c (by rw [h])), hy]
    · refine ih (k + 1) _ _ (by omega) (nI_1 k) ?_
      rw [fd, if_pos ((nI_eq (by omega) (by omega)).mp c), hi.2]
theorem m_giving (d : Nat) {v x : Nat} (hR : RS n H S A I) (h1 : 1 ≤ v) (hv : v < 64) (h3 : (wl v).length ≤ 3) (hx : x < 6) (hb : v.testBit x = true) : sp (d + 11) 155 [.ref 38, .int (nI v), .int (nI x)] (gm L xs A I F P) (fun r m => r = some (.int (ff (L0 n H S) x (wl v) (-9) (-9))) ∧ ∃ f g, m = gm L xs (uR (uR A 51 f) 52 g) (uI I 38 21 (nI (wl v).length)) F P) := by
  have hbit := sr_bit v hv x hx
  rw [hb] at hbit
  refine ⟨⟨_, rfl⟩, rfl, mm_WP.go [51] 100 (cy (m_isSet (d + 7) _ _ _ _ _ _ _) (fun _ => ?_) (fun h => absurd ((GS_iff h1 hv).mpr h3) h))⟩
  refine e1 (cy (m_isWord (d + 8) _ _) (fun _ => ?_) (fun h => absurd (ix_n (N := 6) (by decide) hx).1 h))
  refine e1 ⟨fun _ => ?_, fun c => absurd (hbit ▸ c) (by decide)⟩
  refine ⟨_, m_findWords (d + 9) hv h3, ?_⟩
  rintro r m ⟨rfl, f, hf, rfl⟩
  have hA : ∀ i, i < (wl v).length → (uR A 51 f) 51 i = nI ((wl v).getD i 0) ∧ (wl v).getD i 0 < 6 := fun i hi => ⟨hf i hi, wl_lt v hv _ (by
    rw [List.getD_eq_getElem?_getD, List.getElem?_eq_getElem hi]
    exact List.getElem_mem hi)⟩
  have hmem : x ∈ wl v := (wl_mem hx).mpr hb
  have hnd := wl_nd v hv
  generalize wl v = l at *
  match l, h3, hA, hmem, hnd with
  | [], _, _, hmem, _ => exact absurd hmem List.not_mem_nil
  | w :: rs, h3, hA, hmem, hnd =>
    have hrs : rs = [] ∨ ∃ w1 r2, rs = w1 :: r2 ∧ w1 < 6 ∧ (uR A 51 f) 51 1 = nI w1 ∧ (r2 = [] ∨ ∃ w2, r2 = [w2] ∧ w2 < 6 ∧ (uR A 51 f) 51 2 = nI w2) := by
      match rs, h3, hA with
      | [], _, _ => exact Or.inl rfl
      | [w1], _, hA => exact Or.inr ⟨w1, [], rfl, (hA 1 (by simp)).2, (hA 1 (by simp)).1, Or.inl rfl⟩
      | [w1, w2], _, hA => exact Or.inr ⟨w1, [w2], rfl, (hA 1 (by simp)).2, (hA 1 (by simp)).1, Or.inr ⟨w2, rfl, (hA 2 (by simp)).2, (hA 2 (by simp)).1⟩⟩
    refine ⟨_, m_findFirst (A := uR A 51 f) (I := uI I 38 21 (nI (w :: rs).length)) (d + 6) hR (hA 0 (Nat.succ_pos _)).2 hrs (hA 0 (Nat.succ_pos _)).1 rfl, ?_⟩
    rintro r m ⟨g, rfl, -, ⟨rfl, hz⟩ | ⟨rfl, hz, hs⟩⟩
    · refine n0 ⟨?_, f, g, rfl⟩
      have h9 : fi (lm (L0 n H S w) (rs.map (L0 n H S)) (-9) (-9)) 90 0 = -9 := lm_WW.mpr hz
      rw [ff, if_pos (Or.inl h9), h9]
    · refine n1 (m_fd_loop (A := uR (uR A 51 f) 52 g) (I := uI I 38 21 (nI (w :: rs).length)) (len := (w :: rs).length) (ws := fun i => (w :: rs).getD i 0) hx h3 rfl hA ?_ (w :: rs).length 0 _ _ rfl rfl rfl)
      refine ⟨?_, f, g, rfl⟩
      congr 2
      show fd (fun i => (w :: rs).getD i 0) g x (w :: rs).length = _
      exact fd_ff h3 hmem hnd hs
theorem m_giving_r (d : Nat) {w x : Int32} (hh : ¬ ∃ v y, 1 ≤ v ∧ v < 64 ∧ (wl v).length ≤ 3 ∧ y < 6 ∧ v.testBit y = true ∧ w = nI v ∧ x = nI y) : sp (d + 11) 155 [.ref 38, .int w, .int x] (gm L xs A I F P) (rM L xs A I F P 1 (-1)) := by
  refine ⟨⟨_, rfl⟩, rfl, mm_WP.go [] 100 (cy (m_isSet (d + 7) _ _ _ _ _ _ _) (fun h => ?_) (fun h => ?_))⟩
  · obtain ⟨v, h1, hv, rfl, h3⟩ := h
    refine e1 (cy (m_isWord (d + 8) _ _) (fun h => ?_) (fun h => ?_))
    · obtain ⟨y, hy, rfl⟩ := vp_in_of h (by decide)
      have hbit := sr_bit v hv y hy
      refine e1 ⟨fun c => ?_, fun c => ?_⟩
      · have ht := bI_1 (hbit ▸ c)
        exact absurd ⟨v, y, h1, hv, h3, hy, ht, rfl, rfl⟩ hh
      · exact ca (m_rf1 (d + 9)) ⟨rfl, rfl⟩
    · exact e0 (ca (m_rf1 (d + 9)) ⟨rfl, rfl⟩)
  · exact e0 (ca (m_rf1 (d + 9)) ⟨rfl, rfl⟩)
end M15
end
