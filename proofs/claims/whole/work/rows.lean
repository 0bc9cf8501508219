section
-- ===== PART A: goes FIRST, ahead of the names: the tables' words, and 'selects' of the private methods out of them =====
/-- a private method of a class that the tables say can be made, by its rows of tables_1 -/
def lw_okq (q : MethodName × Nat) : Prop := (q.1.cls ≠ "java/lang/invoke/MethodHandle" ∧ q.1.cls ≠ "java/lang/invoke/VarHandle") ∧ Cond.instantiable q.1.cls q.2 ∈ tables_1 ∧ Cond.privateMethod q.1 ∈ tables_1 ∧ Cond.instanceMethod q.1 ∈ tables_1
theorem lw_p0 : lw_okq (⟨"PaintedGods$Whole", "measure", "()V"⟩, 3) := ⟨⟨by decide +kernel, by decide +kernel⟩, List.mem_of_getElem? (i := 215) (by decide +kernel), List.mem_of_getElem? (i := 241) (by decide +kernel), List.mem_of_getElem? (i := 242) (by decide +kernel)⟩
theorem lw_p1 : lw_okq (⟨"PaintedGods", "told", "(I)I"⟩, 12) := ⟨⟨by decide +kernel, by decide +kernel⟩, List.mem_of_getElem? (i := 17) (by decide +kernel), List.mem_of_getElem? (i := 310) (by decide +kernel), List.mem_of_getElem? (i := 311) (by decide +kernel)⟩
theorem lw_p2 : lw_okq (⟨"PaintedGods$Statue", "canTell", "(III)Z"⟩, 13) := ⟨⟨by decide +kernel, by decide +kernel⟩, List.mem_of_getElem? (i := 25) (by decide +kernel), List.mem_of_getElem? (i := 346) (by decide +kernel), List.mem_of_getElem? (i := 347) (by decide +kernel)⟩
theorem lw_p3 : lw_okq (⟨"PaintedGods$Text", "readToken", "()V"⟩, 7) := ⟨⟨by decide +kernel, by decide +kernel⟩, List.mem_of_getElem? (i := 93) (by decide +kernel), List.mem_of_getElem? (i := 396) (by decide +kernel), List.mem_of_getElem? (i := 397) (by decide +kernel)⟩
theorem lw_p4 : lw_okq (⟨"PaintedGods$Text", "byteAt", "(I)I"⟩, 7) := ⟨⟨by decide +kernel, by decide +kernel⟩, List.mem_of_getElem? (i := 93) (by decide +kernel), List.mem_of_getElem? (i := 400) (by decide +kernel), List.mem_of_getElem? (i := 401) (by decide +kernel)⟩
theorem lw_p5 : lw_okq (⟨"PaintedGods$Text", "readWord", "()V"⟩, 7) := ⟨⟨by decide +kernel, by decide +kernel⟩, List.mem_of_getElem? (i := 93) (by decide +kernel), List.mem_of_getElem? (i := 407) (by decide +kernel), List.mem_of_getElem? (i := 408) (by decide +kernel)⟩
theorem lw_p6 : lw_okq (⟨"PaintedGods$Text", "wordFrom", "(I)I"⟩, 7) := ⟨⟨by decide +kernel, by decide +kernel⟩, List.mem_of_getElem? (i := 93) (by decide +kernel), List.mem_of_getElem? (i := 411) (by decide +kernel), List.mem_of_getElem? (i := 412) (by decide +kernel)⟩
theorem lw_p7 : lw_okq (⟨"PaintedGods$Text", "readNumber", "()V"⟩, 7) := ⟨⟨by decide +kernel, by decide +kernel⟩, List.mem_of_getElem? (i := 93) (by decide +kernel), List.mem_of_getElem? (i := 467) (by decide +kernel), List.mem_of_getElem? (i := 468) (by decide +kernel)⟩
theorem lw_p8 : lw_okq (⟨"PaintedGods$Text", "readItem", "()Z"⟩, 7) := ⟨⟨by decide +kernel, by decide +kernel⟩, List.mem_of_getElem? (i := 93) (by decide +kernel), List.mem_of_getElem? (i := 471) (by decide +kernel), List.mem_of_getElem? (i := 472) (by decide +kernel)⟩
theorem lw_p9 : lw_okq (⟨"PaintedGods$Text", "tellItem", "(LPaintedGods$Statue;I)Z"⟩, 7) := ⟨⟨by decide +kernel, by decide +kernel⟩, List.mem_of_getElem? (i := 93) (by decide +kernel), List.mem_of_getElem? (i := 477) (by decide +kernel), List.mem_of_getElem? (i := 478) (by decide +kernel)⟩
theorem lw_p10 : lw_okq (⟨"PaintedGods$Text", "answerTo", "(LPaintedGods$Statue;I)I"⟩, 7) := ⟨⟨by decide +kernel, by decide +kernel⟩, List.mem_of_getElem? (i := 93) (by decide +kernel), List.mem_of_getElem? (i := 481) (by decide +kernel), List.mem_of_getElem? (i := 482) (by decide +kernel)⟩
theorem lw_p11 : lw_okq (⟨"PaintedGods$Statue", "thickOf", "(I)I"⟩, 13) := ⟨⟨by decide +kernel, by decide +kernel⟩, List.mem_of_getElem? (i := 25) (by decide +kernel), List.mem_of_getElem? (i := 520) (by decide +kernel), List.mem_of_getElem? (i := 521) (by decide +kernel)⟩
theorem lw_p12 : lw_okq (⟨"PaintedGods$Statue", "lampsOfCoat", "(II)I"⟩, 13) := ⟨⟨by decide +kernel, by decide +kernel⟩, List.mem_of_getElem? (i := 25) (by decide +kernel), List.mem_of_getElem? (i := 547) (by decide +kernel), List.mem_of_getElem? (i := 548) (by decide +kernel)⟩
theorem lw_p13 : lw_okq (⟨"PaintedGods", "lookAt", "(LPaintedGods$Statue;I)V"⟩, 12) := ⟨⟨by decide +kernel, by decide +kernel⟩, List.mem_of_getElem? (i := 17) (by decide +kernel), List.mem_of_getElem? (i := 556) (by decide +kernel), List.mem_of_getElem? (i := 557) (by decide +kernel)⟩
theorem lw_p14 : lw_okq (⟨"PaintedGods$Hem", "lookAtTrace", "(LPaintedGods$Statue;LPaintedGods$Weather;I)V"⟩, 17) := ⟨⟨by decide +kernel, by decide +kernel⟩, List.mem_of_getElem? (i := 144) (by decide +kernel), List.mem_of_getElem? (i := 579) (by decide +kernel), List.mem_of_getElem? (i := 580) (by decide +kernel)⟩
theorem lw_p15 : lw_okq (⟨"PaintedGods$Hem", "findSteps", "(I)V"⟩, 17) := ⟨⟨by decide +kernel, by decide +kernel⟩, List.mem_of_getElem? (i := 144) (by decide +kernel), List.mem_of_getElem? (i := 587) (by decide +kernel), List.mem_of_getElem? (i := 588) (by decide +kernel)⟩
def lw_privs_1 : List (MethodName × Nat) := [(⟨"PaintedGods$Whole", "measure", "()V"⟩, 3), (⟨"PaintedGods", "told", "(I)I"⟩, 12), (⟨"PaintedGods$Statue", "canTell", "(III)Z"⟩, 13), (⟨"PaintedGods$Text", "readToken", "()V"⟩, 7), (⟨"PaintedGods$Text", "byteAt", "(I)I"⟩, 7), (⟨"PaintedGods$Text", "readWord", "()V"⟩, 7), (⟨"PaintedGods$Text", "wordFrom", "(I)I"⟩, 7), (⟨"PaintedGods$Text", "readNumber", "()V"⟩, 7), (⟨"PaintedGods$Text", "readItem", "()Z"⟩, 7), (⟨"PaintedGods$Text", "tellItem", "(LPaintedGods$Statue;I)Z"⟩, 7), (⟨"PaintedGods$Text", "answerTo", "(LPaintedGods$Statue;I)I"⟩, 7), (⟨"PaintedGods$Statue", "thickOf", "(I)I"⟩, 13), (⟨"PaintedGods$Statue", "lampsOfCoat", "(II)I"⟩, 13), (⟨"PaintedGods", "lookAt", "(LPaintedGods$Statue;I)V"⟩, 12), (⟨"PaintedGods$Hem", "lookAtTrace", "(LPaintedGods$Statue;LPaintedGods$Weather;I)V"⟩, 17), (⟨"PaintedGods$Hem", "findSteps", "(I)V"⟩, 17)]
theorem lw_r1 : ∀ q ∈ lw_privs_1, lw_okq q := List.forall_mem_cons.mpr ⟨lw_p0, List.forall_mem_cons.mpr ⟨lw_p1, List.forall_mem_cons.mpr ⟨lw_p2, List.forall_mem_cons.mpr ⟨lw_p3, List.forall_mem_cons.mpr ⟨lw_p4, List.forall_mem_cons.mpr ⟨lw_p5, List.forall_mem_cons.mpr ⟨lw_p6, List.forall_mem_cons.mpr ⟨lw_p7, List.forall_mem_cons.mpr ⟨lw_p8, List.forall_mem_cons.mpr ⟨lw_p9, List.forall_mem_cons.mpr ⟨lw_p10, List.forall_mem_cons.mpr ⟨lw_p11, List.forall_mem_cons.mpr ⟨lw_p12, List.forall_mem_cons.mpr ⟨lw_p13, List.forall_mem_cons.mpr ⟨lw_p14, List.forall_mem_cons.mpr ⟨lw_p15, fun _ h => absurd h List.not_mem_nil⟩⟩⟩⟩⟩⟩⟩⟩⟩⟩⟩⟩⟩⟩⟩⟩
theorem lw_p16 : lw_okq (⟨"PaintedGods", "reckonAround", "(I)Z"⟩, 12) := ⟨⟨by decide +kernel, by decide +kernel⟩, List.mem_of_getElem? (i := 17) (by decide +kernel), List.mem_of_getElem? (i := 602) (by decide +kernel), List.mem_of_getElem? (i := 603) (by decide +kernel)⟩
theorem lw_p17 : lw_okq (⟨"PaintedGods$Hem", "weighParts", "(I[J)V"⟩, 17) := ⟨⟨by decide +kernel, by decide +kernel⟩, List.mem_of_getElem? (i := 144) (by decide +kernel), List.mem_of_getElem? (i := 614) (by decide +kernel), List.mem_of_getElem? (i := 615) (by decide +kernel)⟩
theorem lw_p18 : lw_okq (⟨"PaintedGods$Hem", "partsBeside", "(IIZ)J"⟩, 17) := ⟨⟨by decide +kernel, by decide +kernel⟩, List.mem_of_getElem? (i := 144) (by decide +kernel), List.mem_of_getElem? (i := 618) (by decide +kernel), List.mem_of_getElem? (i := 619) (by decide +kernel)⟩
theorem lw_p19 : lw_okq (⟨"PaintedGods$Hem", "joint", "(III)I"⟩, 17) := ⟨⟨by decide +kernel, by decide +kernel⟩, List.mem_of_getElem? (i := 144) (by decide +kernel), List.mem_of_getElem? (i := 622) (by decide +kernel), List.mem_of_getElem? (i := 623) (by decide +kernel)⟩
theorem lw_p20 : lw_okq (⟨"PaintedGods$Hem", "reckonBehind", "()V"⟩, 17) := ⟨⟨by decide +kernel, by decide +kernel⟩, List.mem_of_getElem? (i := 144) (by decide +kernel), List.mem_of_getElem? (i := 626) (by decide +kernel), List.mem_of_getElem? (i := 627) (by decide +kernel)⟩
theorem lw_p21 : lw_okq (⟨"PaintedGods$Fraction", "reduce", "()V"⟩, 4) := ⟨⟨by decide +kernel, by decide +kernel⟩, List.mem_of_getElem? (i := 209) (by decide +kernel), List.mem_of_getElem? (i := 638) (by decide +kernel), List.mem_of_getElem? (i := 639) (by decide +kernel)⟩
theorem lw_p22 : lw_okq (⟨"PaintedGods$Fraction", "findCommon", "()V"⟩, 4) := ⟨⟨by decide +kernel, by decide +kernel⟩, List.mem_of_getElem? (i := 209) (by decide +kernel), List.mem_of_getElem? (i := 661) (by decide +kernel), List.mem_of_getElem? (i := 662) (by decide +kernel)⟩
theorem lw_p23 : lw_okq (⟨"PaintedGods$Hem", "reckonMost", "()V"⟩, 17) := ⟨⟨by decide +kernel, by decide +kernel⟩, List.mem_of_getElem? (i := 144) (by decide +kernel), List.mem_of_getElem? (i := 703) (by decide +kernel), List.mem_of_getElem? (i := 704) (by decide +kernel)⟩
theorem lw_p24 : lw_okq (⟨"PaintedGods$Hem", "bestNext", "(II)I"⟩, 17) := ⟨⟨by decide +kernel, by decide +kernel⟩, List.mem_of_getElem? (i := 144) (by decide +kernel), List.mem_of_getElem? (i := 707) (by decide +kernel), List.mem_of_getElem? (i := 708) (by decide +kernel)⟩
theorem lw_p25 : lw_okq (⟨"PaintedGods$Hem", "mostNext", "(III)J"⟩, 17) := ⟨⟨by decide +kernel, by decide +kernel⟩, List.mem_of_getElem? (i := 144) (by decide +kernel), List.mem_of_getElem? (i := 711) (by decide +kernel), List.mem_of_getElem? (i := 712) (by decide +kernel)⟩
theorem lw_p26 : lw_okq (⟨"PaintedGods", "multiplyHems", "(LPaintedGods$Statue;)V"⟩, 12) := ⟨⟨by decide +kernel, by decide +kernel⟩, List.mem_of_getElem? (i := 17) (by decide +kernel), List.mem_of_getElem? (i := 720) (by decide +kernel), List.mem_of_getElem? (i := 721) (by decide +kernel)⟩
theorem lw_p27 : lw_okq (⟨"PaintedGods", "allHemsCanBe", "(LPaintedGods$Statue;)Z"⟩, 12) := ⟨⟨by decide +kernel, by decide +kernel⟩, List.mem_of_getElem? (i := 17) (by decide +kernel), List.mem_of_getElem? (i := 744) (by decide +kernel), List.mem_of_getElem? (i := 745) (by decide +kernel)⟩
theorem lw_p28 : lw_okq (⟨"PaintedGods$Hem", "laterOf", "(I)I"⟩, 17) := ⟨⟨by decide +kernel, by decide +kernel⟩, List.mem_of_getElem? (i := 144) (by decide +kernel), List.mem_of_getElem? (i := 757) (by decide +kernel), List.mem_of_getElem? (i := 758) (by decide +kernel)⟩
theorem lw_p29 : lw_okq (⟨"PaintedGods$Hem", "weighLamps", "(LPaintedGods$Weather;I)V"⟩, 17) := ⟨⟨by decide +kernel, by decide +kernel⟩, List.mem_of_getElem? (i := 144) (by decide +kernel), List.mem_of_getElem? (i := 769) (by decide +kernel), List.mem_of_getElem? (i := 770) (by decide +kernel)⟩
theorem lw_p30 : lw_okq (⟨"PaintedGods", "restsOn", "(I)I"⟩, 12) := ⟨⟨by decide +kernel, by decide +kernel⟩, List.mem_of_getElem? (i := 17) (by decide +kernel), List.mem_of_getElem? (i := 790) (by decide +kernel), List.mem_of_getElem? (i := 791) (by decide +kernel)⟩
theorem lw_p31 : lw_okq (⟨"PaintedGods", "meanBright", "(I)I"⟩, 12) := ⟨⟨by decide +kernel, by decide +kernel⟩, List.mem_of_getElem? (i := 17) (by decide +kernel), List.mem_of_getElem? (i := 806) (by decide +kernel), List.mem_of_getElem? (i := 807) (by decide +kernel)⟩
def lw_privs_2 : List (MethodName × Nat) := [(⟨"PaintedGods", "reckonAround", "(I)Z"⟩, 12), (⟨"PaintedGods$Hem", "weighParts", "(I[J)V"⟩, 17), (⟨"PaintedGods$Hem", "partsBeside", "(IIZ)J"⟩, 17), (⟨"PaintedGods$Hem", "joint", "(III)I"⟩, 17), (⟨"PaintedGods$Hem", "reckonBehind", "()V"⟩, 17), (⟨"PaintedGods$Fraction", "reduce", "()V"⟩, 4), (⟨"PaintedGods$Fraction", "findCommon", "()V"⟩, 4), (⟨"PaintedGods$Hem", "reckonMost", "()V"⟩, 17), (⟨"PaintedGods$Hem", "bestNext", "(II)I"⟩, 17), (⟨"PaintedGods$Hem", "mostNext", "(III)J"⟩, 17), (⟨"PaintedGods", "multiplyHems", "(LPaintedGods$Statue;)V"⟩, 12), (⟨"PaintedGods", "allHemsCanBe", "(LPaintedGods$Statue;)Z"⟩, 12), (⟨"PaintedGods$Hem", "laterOf", "(I)I"⟩, 17), (⟨"PaintedGods$Hem", "weighLamps", "(LPaintedGods$Weather;I)V"⟩, 17), (⟨"PaintedGods", "restsOn", "(I)I"⟩, 12), (⟨"PaintedGods", "meanBright", "(I)I"⟩, 12)]
theorem lw_r2 : ∀ q ∈ lw_privs_2, lw_okq q := List.forall_mem_cons.mpr ⟨lw_p16, List.forall_mem_cons.mpr ⟨lw_p17, List.forall_mem_cons.mpr ⟨lw_p18, List.forall_mem_cons.mpr ⟨lw_p19, List.forall_mem_cons.mpr ⟨lw_p20, List.forall_mem_cons.mpr ⟨lw_p21, List.forall_mem_cons.mpr ⟨lw_p22, List.forall_mem_cons.mpr ⟨lw_p23, List.forall_mem_cons.mpr ⟨lw_p24, List.forall_mem_cons.mpr ⟨lw_p25, List.forall_mem_cons.mpr ⟨lw_p26, List.forall_mem_cons.mpr ⟨lw_p27, List.forall_mem_cons.mpr ⟨lw_p28, List.forall_mem_cons.mpr ⟨lw_p29, List.forall_mem_cons.mpr ⟨lw_p30, List.forall_mem_cons.mpr ⟨lw_p31, fun _ h => absurd h List.not_mem_nil⟩⟩⟩⟩⟩⟩⟩⟩⟩⟩⟩⟩⟩⟩⟩⟩
theorem lw_p32 : lw_okq (⟨"PaintedGods", "farthestBright", "(IZ)I"⟩, 12) := ⟨⟨by decide +kernel, by decide +kernel⟩, List.mem_of_getElem? (i := 17) (by decide +kernel), List.mem_of_getElem? (i := 816) (by decide +kernel), List.mem_of_getElem? (i := 817) (by decide +kernel)⟩
theorem lw_p33 : lw_okq (⟨"PaintedGodsModel", "begins", "()V"⟩, 21) := ⟨⟨by decide +kernel, by decide +kernel⟩, List.mem_of_getElem? (i := 869) (by decide +kernel), List.mem_of_getElem? (i := 875) (by decide +kernel), List.mem_of_getElem? (i := 876) (by decide +kernel)⟩
theorem lw_p34 : lw_okq (⟨"PaintedGodsModel", "sets", "(IJ)V"⟩, 21) := ⟨⟨by decide +kernel, by decide +kernel⟩, List.mem_of_getElem? (i := 869) (by decide +kernel), List.mem_of_getElem? (i := 879) (by decide +kernel), List.mem_of_getElem? (i := 880) (by decide +kernel)⟩
theorem lw_p35 : lw_okq (⟨"PaintedGodsModel", "trims", "(I)V"⟩, 21) := ⟨⟨by decide +kernel, by decide +kernel⟩, List.mem_of_getElem? (i := 869) (by decide +kernel), List.mem_of_getElem? (i := 884) (by decide +kernel), List.mem_of_getElem? (i := 885) (by decide +kernel)⟩
theorem lw_p36 : lw_okq (⟨"PaintedGodsModel", "bad", "()I"⟩, 21) := ⟨⟨by decide +kernel, by decide +kernel⟩, List.mem_of_getElem? (i := 869) (by decide +kernel), List.mem_of_getElem? (i := 956) (by decide +kernel), List.mem_of_getElem? (i := 957) (by decide +kernel)⟩
theorem lw_p37 : lw_okq (⟨"PaintedGodsModel", "refuses", "(II)I"⟩, 21) := ⟨⟨by decide +kernel, by decide +kernel⟩, List.mem_of_getElem? (i := 869) (by decide +kernel), List.mem_of_getElem? (i := 960) (by decide +kernel), List.mem_of_getElem? (i := 961) (by decide +kernel)⟩
theorem lw_p38 : lw_okq (⟨"PaintedGodsModel", "full", "()I"⟩, 21) := ⟨⟨by decide +kernel, by decide +kernel⟩, List.mem_of_getElem? (i := 869) (by decide +kernel), List.mem_of_getElem? (i := 978) (by decide +kernel), List.mem_of_getElem? (i := 979) (by decide +kernel)⟩
theorem lw_p39 : lw_okq (⟨"PaintedGodsModel", "puts", "(II)I"⟩, 21) := ⟨⟨by decide +kernel, by decide +kernel⟩, List.mem_of_getElem? (i := 869) (by decide +kernel), List.mem_of_getElem? (i := 988) (by decide +kernel), List.mem_of_getElem? (i := 989) (by decide +kernel)⟩
theorem lw_p40 : lw_okq (⟨"PaintedGodsModel", "isTrace", "(III)Z"⟩, 21) := ⟨⟨by decide +kernel, by decide +kernel⟩, List.mem_of_getElem? (i := 869) (by decide +kernel), List.mem_of_getElem? (i := 1005) (by decide +kernel), List.mem_of_getElem? (i := 1006) (by decide +kernel)⟩
theorem lw_p41 : lw_okq (⟨"PaintedGodsModel", "isStuff", "(I)Z"⟩, 21) := ⟨⟨by decide +kernel, by decide +kernel⟩, List.mem_of_getElem? (i := 869) (by decide +kernel), List.mem_of_getElem? (i := 1009) (by decide +kernel), List.mem_of_getElem? (i := 1010) (by decide +kernel)⟩
theorem lw_p42 : lw_okq (⟨"PaintedGodsModel", "ofTrace", "(II)I"⟩, 21) := ⟨⟨by decide +kernel, by decide +kernel⟩, List.mem_of_getElem? (i := 869) (by decide +kernel), List.mem_of_getElem? (i := 1018) (by decide +kernel), List.mem_of_getElem? (i := 1019) (by decide +kernel)⟩
theorem lw_p43 : lw_okq (⟨"PaintedGodsModel", "no", "()I"⟩, 21) := ⟨⟨by decide +kernel, by decide +kernel⟩, List.mem_of_getElem? (i := 869) (by decide +kernel), List.mem_of_getElem? (i := 1022) (by decide +kernel), List.mem_of_getElem? (i := 1023) (by decide +kernel)⟩
theorem lw_p44 : lw_okq (⟨"PaintedGodsModel", "reads", "()Z"⟩, 21) := ⟨⟨by decide +kernel, by decide +kernel⟩, List.mem_of_getElem? (i := 869) (by decide +kernel), List.mem_of_getElem? (i := 1044) (by decide +kernel), List.mem_of_getElem? (i := 1045) (by decide +kernel)⟩
theorem lw_p45 : lw_okq (⟨"PaintedGodsModel", "scans", "()V"⟩, 21) := ⟨⟨by decide +kernel, by decide +kernel⟩, List.mem_of_getElem? (i := 869) (by decide +kernel), List.mem_of_getElem? (i := 1048) (by decide +kernel), List.mem_of_getElem? (i := 1049) (by decide +kernel)⟩
theorem lw_p46 : lw_okq (⟨"PaintedGodsModel", "isAt", "(II)Z"⟩, 21) := ⟨⟨by decide +kernel, by decide +kernel⟩, List.mem_of_getElem? (i := 869) (by decide +kernel), List.mem_of_getElem? (i := 1052) (by decide +kernel), List.mem_of_getElem? (i := 1053) (by decide +kernel)⟩
theorem lw_p47 : lw_okq (⟨"PaintedGodsModel", "tellsItem", "(I)Z"⟩, 21) := ⟨⟨by decide +kernel, by decide +kernel⟩, List.mem_of_getElem? (i := 869) (by decide +kernel), List.mem_of_getElem? (i := 1078) (by decide +kernel), List.mem_of_getElem? (i := 1079) (by decide +kernel)⟩
def lw_privs_3 : List (MethodName × Nat) := [(⟨"PaintedGods", "farthestBright", "(IZ)I"⟩, 12), (⟨"PaintedGodsModel", "begins", "()V"⟩, 21), (⟨"PaintedGodsModel", "sets", "(IJ)V"⟩, 21), (⟨"PaintedGodsModel", "trims", "(I)V"⟩, 21), (⟨"PaintedGodsModel", "bad", "()I"⟩, 21), (⟨"PaintedGodsModel", "refuses", "(II)I"⟩, 21), (⟨"PaintedGodsModel", "full", "()I"⟩, 21), (⟨"PaintedGodsModel", "puts", "(II)I"⟩, 21), (⟨"PaintedGodsModel", "isTrace", "(III)Z"⟩, 21), (⟨"PaintedGodsModel", "isStuff", "(I)Z"⟩, 21), (⟨"PaintedGodsModel", "ofTrace", "(II)I"⟩, 21), (⟨"PaintedGodsModel", "no", "()I"⟩, 21), (⟨"PaintedGodsModel", "reads", "()Z"⟩, 21), (⟨"PaintedGodsModel", "scans", "()V"⟩, 21), (⟨"PaintedGodsModel", "isAt", "(II)Z"⟩, 21), (⟨"PaintedGodsModel", "tellsItem", "(I)Z"⟩, 21)]
theorem lw_r3 : ∀ q ∈ lw_privs_3, lw_okq q := List.forall_mem_cons.mpr ⟨lw_p32, List.forall_mem_cons.mpr ⟨lw_p33, List.forall_mem_cons.mpr ⟨lw_p34, List.forall_mem_cons.mpr ⟨lw_p35, List.forall_mem_cons.mpr ⟨lw_p36, List.forall_mem_cons.mpr ⟨lw_p37, List.forall_mem_cons.mpr ⟨lw_p38, List.forall_mem_cons.mpr ⟨lw_p39, List.forall_mem_cons.mpr ⟨lw_p40, List.forall_mem_cons.mpr ⟨lw_p41, List.forall_mem_cons.mpr ⟨lw_p42, List.forall_mem_cons.mpr ⟨lw_p43, List.forall_mem_cons.mpr ⟨lw_p44, List.forall_mem_cons.mpr ⟨lw_p45, List.forall_mem_cons.mpr ⟨lw_p46, List.forall_mem_cons.mpr ⟨lw_p47, fun _ h => absurd h List.not_mem_nil⟩⟩⟩⟩⟩⟩⟩⟩⟩⟩⟩⟩⟩⟩⟩⟩
theorem lw_p48 : lw_okq (⟨"PaintedGodsModel", "isStack", "(I)Z"⟩, 21) := ⟨⟨by decide +kernel, by decide +kernel⟩, List.mem_of_getElem? (i := 869) (by decide +kernel), List.mem_of_getElem? (i := 1091) (by decide +kernel), List.mem_of_getElem? (i := 1092) (by decide +kernel)⟩
theorem lw_p49 : lw_okq (⟨"PaintedGodsModel", "leftOf", "(III)I"⟩, 21) := ⟨⟨by decide +kernel, by decide +kernel⟩, List.mem_of_getElem? (i := 869) (by decide +kernel), List.mem_of_getElem? (i := 1102) (by decide +kernel), List.mem_of_getElem? (i := 1103) (by decide +kernel)⟩
theorem lw_p50 : lw_okq (⟨"PaintedGodsModel", "thick", "(I)I"⟩, 21) := ⟨⟨by decide +kernel, by decide +kernel⟩, List.mem_of_getElem? (i := 869) (by decide +kernel), List.mem_of_getElem? (i := 1106) (by decide +kernel), List.mem_of_getElem? (i := 1107) (by decide +kernel)⟩
theorem lw_p51 : lw_okq (⟨"PaintedGodsModel", "ofStuff", "(II)I"⟩, 21) := ⟨⟨by decide +kernel, by decide +kernel⟩, List.mem_of_getElem? (i := 869) (by decide +kernel), List.mem_of_getElem? (i := 1110) (by decide +kernel), List.mem_of_getElem? (i := 1111) (by decide +kernel)⟩
theorem lw_p52 : lw_okq (⟨"PaintedGodsModel", "wearOf", "(I)I"⟩, 21) := ⟨⟨by decide +kernel, by decide +kernel⟩, List.mem_of_getElem? (i := 869) (by decide +kernel), List.mem_of_getElem? (i := 1114) (by decide +kernel), List.mem_of_getElem? (i := 1115) (by decide +kernel)⟩
theorem lw_p53 : lw_okq (⟨"PaintedGodsModel", "isBright", "(III)Z"⟩, 21) := ⟨⟨by decide +kernel, by decide +kernel⟩, List.mem_of_getElem? (i := 869) (by decide +kernel), List.mem_of_getElem? (i := 1122) (by decide +kernel), List.mem_of_getElem? (i := 1123) (by decide +kernel)⟩
theorem lw_p54 : lw_okq (⟨"PaintedGodsModel", "isFit", "(III)Z"⟩, 21) := ⟨⟨by decide +kernel, by decide +kernel⟩, List.mem_of_getElem? (i := 869) (by decide +kernel), List.mem_of_getElem? (i := 1130) (by decide +kernel), List.mem_of_getElem? (i := 1131) (by decide +kernel)⟩
theorem lw_p55 : lw_okq (⟨"PaintedGodsModel", "isLooked", "(II)Z"⟩, 21) := ⟨⟨by decide +kernel, by decide +kernel⟩, List.mem_of_getElem? (i := 869) (by decide +kernel), List.mem_of_getElem? (i := 1134) (by decide +kernel), List.mem_of_getElem? (i := 1135) (by decide +kernel)⟩
theorem lw_p56 : lw_okq (⟨"PaintedGodsModel", "isSo", "(III)Z"⟩, 21) := ⟨⟨by decide +kernel, by decide +kernel⟩, List.mem_of_getElem? (i := 869) (by decide +kernel), List.mem_of_getElem? (i := 1138) (by decide +kernel), List.mem_of_getElem? (i := 1139) (by decide +kernel)⟩
theorem lw_p57 : lw_okq (⟨"PaintedGodsModel", "rows", "(I)Z"⟩, 21) := ⟨⟨by decide +kernel, by decide +kernel⟩, List.mem_of_getElem? (i := 869) (by decide +kernel), List.mem_of_getElem? (i := 1146) (by decide +kernel), List.mem_of_getElem? (i := 1147) (by decide +kernel)⟩
theorem lw_p58 : lw_okq (⟨"PaintedGodsModel", "forth", "(I)Z"⟩, 21) := ⟨⟨by decide +kernel, by decide +kernel⟩, List.mem_of_getElem? (i := 869) (by decide +kernel), List.mem_of_getElem? (i := 1150) (by decide +kernel), List.mem_of_getElem? (i := 1151) (by decide +kernel)⟩
theorem lw_p59 : lw_okq (⟨"PaintedGodsModel", "looks", "(II)V"⟩, 21) := ⟨⟨by decide +kernel, by decide +kernel⟩, List.mem_of_getElem? (i := 869) (by decide +kernel), List.mem_of_getElem? (i := 1154) (by decide +kernel), List.mem_of_getElem? (i := 1155) (by decide +kernel)⟩
theorem lw_p60 : lw_okq (⟨"PaintedGodsModel", "goes", "(III)I"⟩, 21) := ⟨⟨by decide +kernel, by decide +kernel⟩, List.mem_of_getElem? (i := 869) (by decide +kernel), List.mem_of_getElem? (i := 1158) (by decide +kernel), List.mem_of_getElem? (i := 1159) (by decide +kernel)⟩
theorem lw_p61 : lw_okq (⟨"PaintedGodsModel", "copies", "(II)V"⟩, 21) := ⟨⟨by decide +kernel, by decide +kernel⟩, List.mem_of_getElem? (i := 869) (by decide +kernel), List.mem_of_getElem? (i := 1162) (by decide +kernel), List.mem_of_getElem? (i := 1163) (by decide +kernel)⟩
theorem lw_p62 : lw_okq (⟨"PaintedGodsModel", "times", "(II)V"⟩, 21) := ⟨⟨by decide +kernel, by decide +kernel⟩, List.mem_of_getElem? (i := 869) (by decide +kernel), List.mem_of_getElem? (i := 1166) (by decide +kernel), List.mem_of_getElem? (i := 1167) (by decide +kernel)⟩
theorem lw_p63 : lw_okq (⟨"PaintedGodsModel", "adds", "(II)V"⟩, 21) := ⟨⟨by decide +kernel, by decide +kernel⟩, List.mem_of_getElem? (i := 869) (by decide +kernel), List.mem_of_getElem? (i := 1170) (by decide +kernel), List.mem_of_getElem? (i := 1171) (by decide +kernel)⟩
def lw_privs_4 : List (MethodName × Nat) := [(⟨"PaintedGodsModel", "isStack", "(I)Z"⟩, 21), (⟨"PaintedGodsModel", "leftOf", "(III)I"⟩, 21), (⟨"PaintedGodsModel", "thick", "(I)I"⟩, 21), (⟨"PaintedGodsModel", "ofStuff", "(II)I"⟩, 21), (⟨"PaintedGodsModel", "wearOf", "(I)I"⟩, 21), (⟨"PaintedGodsModel", "isBright", "(III)Z"⟩, 21), (⟨"PaintedGodsModel", "isFit", "(III)Z"⟩, 21), (⟨"PaintedGodsModel", "isLooked", "(II)Z"⟩, 21), (⟨"PaintedGodsModel", "isSo", "(III)Z"⟩, 21), (⟨"PaintedGodsModel", "rows", "(I)Z"⟩, 21), (⟨"PaintedGodsModel", "forth", "(I)Z"⟩, 21), (⟨"PaintedGodsModel", "looks", "(II)V"⟩, 21), (⟨"PaintedGodsModel", "goes", "(III)I"⟩, 21), (⟨"PaintedGodsModel", "copies", "(II)V"⟩, 21), (⟨"PaintedGodsModel", "times", "(II)V"⟩, 21), (⟨"PaintedGodsModel", "adds", "(II)V"⟩, 21)]
theorem lw_r4 : ∀ q ∈ lw_privs_4, lw_okq q := List.forall_mem_cons.mpr ⟨lw_p48, List.forall_mem_cons.mpr ⟨lw_p49, List.forall_mem_cons.mpr ⟨lw_p50, List.forall_mem_cons.mpr ⟨lw_p51, List.forall_mem_cons.mpr ⟨lw_p52, List.forall_mem_cons.mpr ⟨lw_p53, List.forall_mem_cons.mpr ⟨lw_p54, List.forall_mem_cons.mpr ⟨lw_p55, List.forall_mem_cons.mpr ⟨lw_p56, List.forall_mem_cons.mpr ⟨lw_p57, List.forall_mem_cons.mpr ⟨lw_p58, List.forall_mem_cons.mpr ⟨lw_p59, List.forall_mem_cons.mpr ⟨lw_p60, List.forall_mem_cons.mpr ⟨lw_p61, List.forall_mem_cons.mpr ⟨lw_p62, List.forall_mem_cons.mpr ⟨lw_p63, fun _ h => absurd h List.not_mem_nil⟩⟩⟩⟩⟩⟩⟩⟩⟩⟩⟩⟩⟩⟩⟩⟩
theorem lw_p64 : lw_okq (⟨"PaintedGodsModel", "back", "(Z)V"⟩, 21) := ⟨⟨by decide +kernel, by decide +kernel⟩, List.mem_of_getElem? (i := 869) (by decide +kernel), List.mem_of_getElem? (i := 1175) (by decide +kernel), List.mem_of_getElem? (i := 1176) (by decide +kernel)⟩
theorem lw_p65 : lw_okq (⟨"PaintedGodsModel", "against", "(II)I"⟩, 21) := ⟨⟨by decide +kernel, by decide +kernel⟩, List.mem_of_getElem? (i := 869) (by decide +kernel), List.mem_of_getElem? (i := 1179) (by decide +kernel), List.mem_of_getElem? (i := 1180) (by decide +kernel)⟩
theorem lw_p66 : lw_okq (⟨"PaintedGodsModel", "addsRows", "(II)V"⟩, 21) := ⟨⟨by decide +kernel, by decide +kernel⟩, List.mem_of_getElem? (i := 869) (by decide +kernel), List.mem_of_getElem? (i := 1183) (by decide +kernel), List.mem_of_getElem? (i := 1184) (by decide +kernel)⟩
theorem lw_p67 : lw_okq (⟨"PaintedGodsModel", "multiplies", "(II)V"⟩, 21) := ⟨⟨by decide +kernel, by decide +kernel⟩, List.mem_of_getElem? (i := 869) (by decide +kernel), List.mem_of_getElem? (i := 1187) (by decide +kernel), List.mem_of_getElem? (i := 1188) (by decide +kernel)⟩
theorem lw_p68 : lw_okq (⟨"PaintedGodsModel", "tellsSum", "()I"⟩, 21) := ⟨⟨by decide +kernel, by decide +kernel⟩, List.mem_of_getElem? (i := 869) (by decide +kernel), List.mem_of_getElem? (i := 1191) (by decide +kernel), List.mem_of_getElem? (i := 1192) (by decide +kernel)⟩
theorem lw_p69 : lw_okq (⟨"PaintedGodsModel", "lowers", "()V"⟩, 21) := ⟨⟨by decide +kernel, by decide +kernel⟩, List.mem_of_getElem? (i := 869) (by decide +kernel), List.mem_of_getElem? (i := 1195) (by decide +kernel), List.mem_of_getElem? (i := 1196) (by decide +kernel)⟩
theorem lw_p70 : lw_okq (⟨"PaintedGodsModel", "isEven", "(I)Z"⟩, 21) := ⟨⟨by decide +kernel, by decide +kernel⟩, List.mem_of_getElem? (i := 869) (by decide +kernel), List.mem_of_getElem? (i := 1199) (by decide +kernel), List.mem_of_getElem? (i := 1200) (by decide +kernel)⟩
theorem lw_p71 : lw_okq (⟨"PaintedGodsModel", "halves", "(I)V"⟩, 21) := ⟨⟨by decide +kernel, by decide +kernel⟩, List.mem_of_getElem? (i := 869) (by decide +kernel), List.mem_of_getElem? (i := 1203) (by decide +kernel), List.mem_of_getElem? (i := 1204) (by decide +kernel)⟩
theorem lw_p72 : lw_okq (⟨"PaintedGodsModel", "lessens", "(II)V"⟩, 21) := ⟨⟨by decide +kernel, by decide +kernel⟩, List.mem_of_getElem? (i := 869) (by decide +kernel), List.mem_of_getElem? (i := 1207) (by decide +kernel), List.mem_of_getElem? (i := 1208) (by decide +kernel)⟩
theorem lw_p73 : lw_okq (⟨"PaintedGodsModel", "parts", "(I)V"⟩, 21) := ⟨⟨by decide +kernel, by decide +kernel⟩, List.mem_of_getElem? (i := 869) (by decide +kernel), List.mem_of_getElem? (i := 1211) (by decide +kernel), List.mem_of_getElem? (i := 1212) (by decide +kernel)⟩
theorem lw_p74 : lw_okq (⟨"PaintedGodsModel", "can", "(II)Z"⟩, 21) := ⟨⟨by decide +kernel, by decide +kernel⟩, List.mem_of_getElem? (i := 869) (by decide +kernel), List.mem_of_getElem? (i := 1232) (by decide +kernel), List.mem_of_getElem? (i := 1233) (by decide +kernel)⟩
theorem lw_p75 : lw_okq (⟨"PaintedGodsModel", "tracesOf", "(I)I"⟩, 21) := ⟨⟨by decide +kernel, by decide +kernel⟩, List.mem_of_getElem? (i := 869) (by decide +kernel), List.mem_of_getElem? (i := 1240) (by decide +kernel), List.mem_of_getElem? (i := 1241) (by decide +kernel)⟩
theorem lw_p76 : lw_okq (⟨"PaintedGodsModel", "restsAt", "(I)I"⟩, 21) := ⟨⟨by decide +kernel, by decide +kernel⟩, List.mem_of_getElem? (i := 869) (by decide +kernel), List.mem_of_getElem? (i := 1256) (by decide +kernel), List.mem_of_getElem? (i := 1257) (by decide +kernel)⟩
theorem lw_p77 : lw_okq (⟨"PaintedGodsModel", "countOf", "(I)I"⟩, 21) := ⟨⟨by decide +kernel, by decide +kernel⟩, List.mem_of_getElem? (i := 869) (by decide +kernel), List.mem_of_getElem? (i := 1287) (by decide +kernel), List.mem_of_getElem? (i := 1288) (by decide +kernel)⟩
def lw_privs_5 : List (MethodName × Nat) := [(⟨"PaintedGodsModel", "back", "(Z)V"⟩, 21), (⟨"PaintedGodsModel", "against", "(II)I"⟩, 21), (⟨"PaintedGodsModel", "addsRows", "(II)V"⟩, 21), (⟨"PaintedGodsModel", "multiplies", "(II)V"⟩, 21), (⟨"PaintedGodsModel", "tellsSum", "()I"⟩, 21), (⟨"PaintedGodsModel", "lowers", "()V"⟩, 21), (⟨"PaintedGodsModel", "isEven", "(I)Z"⟩, 21), (⟨"PaintedGodsModel", "halves", "(I)V"⟩, 21), (⟨"PaintedGodsModel", "lessens", "(II)V"⟩, 21), (⟨"PaintedGodsModel", "parts", "(I)V"⟩, 21), (⟨"PaintedGodsModel", "can", "(II)Z"⟩, 21), (⟨"PaintedGodsModel", "tracesOf", "(I)I"⟩, 21), (⟨"PaintedGodsModel", "restsAt", "(I)I"⟩, 21), (⟨"PaintedGodsModel", "countOf", "(I)I"⟩, 21)]
theorem lw_r5 : ∀ q ∈ lw_privs_5, lw_okq q := List.forall_mem_cons.mpr ⟨lw_p64, List.forall_mem_cons.mpr ⟨lw_p65, List.forall_mem_cons.mpr ⟨lw_p66, List.forall_mem_cons.mpr ⟨lw_p67, List.forall_mem_cons.mpr ⟨lw_p68, List.forall_mem_cons.mpr ⟨lw_p69, List.forall_mem_cons.mpr ⟨lw_p70, List.forall_mem_cons.mpr ⟨lw_p71, List.forall_mem_cons.mpr ⟨lw_p72, List.forall_mem_cons.mpr ⟨lw_p73, List.forall_mem_cons.mpr ⟨lw_p74, List.forall_mem_cons.mpr ⟨lw_p75, List.forall_mem_cons.mpr ⟨lw_p76, List.forall_mem_cons.mpr ⟨lw_p77, fun _ h => absurd h List.not_mem_nil⟩⟩⟩⟩⟩⟩⟩⟩⟩⟩⟩⟩⟩⟩
def lw_privs : List (MethodName × Nat) := lw_privs_1 ++ (lw_privs_2 ++ (lw_privs_3 ++ (lw_privs_4 ++ (lw_privs_5))))
def lw_tbl : List Cond := k2_sels lw_privs ++ tables_1
theorem lw_privs_ok : ∀ q ∈ lw_privs, lw_okq q := by
  show ∀ q ∈ lw_privs_1 ++ (lw_privs_2 ++ (lw_privs_3 ++ (lw_privs_4 ++ (lw_privs_5)))), lw_okq q
  exact List.forall_mem_append.mpr ⟨lw_r1, List.forall_mem_append.mpr ⟨lw_r2, List.forall_mem_append.mpr ⟨lw_r3, List.forall_mem_append.mpr ⟨lw_r4, lw_r5⟩⟩⟩⟩
end
section
def RX0 : String := "PaintedGods$Fraction"
def TX0 : u_T := fun k => match k with
  | 0 => ("PaintedGods$Fraction", "over", "LPaintedGods$Whole;", true)
  | 1 => ("PaintedGods$Fraction", "under", "LPaintedGods$Whole;", true)
  | 2 => ("PaintedGods$Fraction", "greater", "LPaintedGods$Whole;", true)
  | _ => ("PaintedGods$Fraction", "smaller", "LPaintedGods$Whole;", true)
def tyX0 : Nat → FieldType := fun k => match k with
  | 0 => .object "PaintedGods$Whole"
  | 1 => .object "PaintedGods$Whole"
  | 2 => .object "PaintedGods$Whole"
  | _ => .object "PaintedGods$Whole"
abbrev wsX00 : List Cond := u_ws RX0 TX0 4
theorem nmX0 : ∀ a, a < 4 → ∀ b, b < 4 → a ≠ b → (TX0 a).2.1 ≠ (TX0 b).2.1 := by decide +kernel
theorem tyX0_ok : ∀ k, k < 4 → parseFieldDescriptor (TX0 k).2.2.1 = some (tyX0 k) := by decide +kernel
abbrev cX0_init : ByteArray := prog_2_method_1_code
def yX0_init : MethodName := ⟨RX0, "<init>", "()V"⟩
abbrev cX0_setTo : ByteArray := prog_2_method_2_code
def yX0_setTo : MethodName := ⟨RX0, "setTo", "(JJ)V"⟩
abbrev cX0_setTo_ : ByteArray := prog_2_method_3_code
def yX0_setTo_ : MethodName := ⟨RX0, "setTo", "(LPaintedGods$Whole;LPaintedGods$Whole;)V"⟩
abbrev cX0_reduce : ByteArray := prog_2_method_4_code
def yX0_reduce : MethodName := ⟨RX0, "reduce", "()V"⟩
abbrev cX0_findCommon : ByteArray := prog_2_method_5_code
def yX0_findCommon : MethodName := ⟨RX0, "findCommon", "()V"⟩
def RX1 : String := "PaintedGods$Hem"
def TX1 : u_T := fun k => match k with
  | 0 => ("PaintedGods$Hem", "weights", "[I", true)
  | 1 => ("PaintedGods$Hem", "broken", "[[I", true)
  | 2 => ("PaintedGods$Hem", "lost", "[[I", true)
  | 3 => ("PaintedGods$Hem", "edgePlaces", "[I", true)
  | 4 => ("PaintedGods$Hem", "edgeSteps", "[I", true)
  | 5 => ("PaintedGods$Hem", "steps", "[I", true)
  | 6 => ("PaintedGods$Hem", "ahead", "[[J", true)
  | 7 => ("PaintedGods$Hem", "behind", "[[J", true)
  | 8 => ("PaintedGods$Hem", "most", "[[J", true)
  | 9 => ("PaintedGods$Hem", "parts", "[J", true)
  | 10 => ("PaintedGods$Hem", "lampWeights", "[J", true)
  | 11 => ("PaintedGods$Hem", "partsTogether", "J", false)
  | 12 => ("PaintedGods$Hem", "all", "J", false)
  | 13 => ("PaintedGods$Hem", "halfOff", "J", false)
  | 14 => ("PaintedGods$Hem", "halfAt", "I", false)
  | 15 => ("PaintedGods$Hem", "like", "I", false)
  | _ => ("PaintedGods$Hem", "ownTraces", "I", false)
def tyX1 : Nat → FieldType := fun k => match k with
  | 0 => .array .int
  | 1 => .array (.array .int)
  | 2 => .array (.array .int)
  | 3 => .array .int
  | 4 => .array .int
  | 5 => .array .int
  | 6 => .array (.array .long)
  | 7 => .array (.array .long)
  | 8 => .array (.array .long)
  | 9 => .array .long
  | 10 => .array .long
  | 11 => .long
  | 12 => .long
  | 13 => .long
  | 14 => .int
  | 15 => .int
  | _ => .int
abbrev wsX10 : List Cond := u_ws RX1 TX1 17
theorem nmX1 : ∀ a, a < 17 → ∀ b, b < 17 → a ≠ b → (TX1 a).2.1 ≠ (TX1 b).2.1 := by decide +kernel
theorem tyX1_ok : ∀ k, k < 17 → parseFieldDescriptor (TX1 k).2.2.1 = some (tyX1 k) := by decide +kernel
abbrev cX1_init : ByteArray := prog_3_method_1_code
def yX1_init : MethodName := ⟨RX1, "<init>", "()V"⟩
abbrev cX1_look : ByteArray := prog_3_method_2_code
def yX1_look : MethodName := ⟨RX1, "look", "(LPaintedGods$Statue;LPaintedGods$Weather;I)V"⟩
abbrev cX1_lookAtTrace : ByteArray := prog_3_method_3_code
def yX1_lookAtTrace : MethodName := ⟨RX1, "lookAtTrace", "(LPaintedGods$Statue;LPaintedGods$Weather;I)V"⟩
abbrev cX1_isFree : ByteArray := prog_3_method_4_code
def yX1_isFree : MethodName := ⟨RX1, "isFree", "(II)Z"⟩
abbrev cX1_findSteps : ByteArray := prog_3_method_5_code
def yX1_findSteps : MethodName := ⟨RX1, "findSteps", "(I)V"⟩
abbrev cX1_canBe : ByteArray := prog_3_method_6_code
def yX1_canBe : MethodName := ⟨RX1, "canBe", "(I)Z"⟩
abbrev cX1_fewestLater : ByteArray := prog_3_method_7_code
def yX1_fewestLater : MethodName := ⟨RX1, "fewestLater", "()I"⟩
abbrev cX1_laterOf : ByteArray := prog_3_method_8_code
def yX1_laterOf : MethodName := ⟨RX1, "laterOf", "(I)I"⟩
abbrev cX1_reckon : ByteArray := prog_3_method_9_code
def yX1_reckon : MethodName := ⟨RX1, "reckon", "()V"⟩
abbrev cX1_reckonAhead : ByteArray := prog_3_method_10_code
def yX1_reckonAhead : MethodName := ⟨RX1, "reckonAhead", "()V"⟩
abbrev cX1_reckonBehind : ByteArray := prog_3_method_11_code
def yX1_reckonBehind : MethodName := ⟨RX1, "reckonBehind", "()V"⟩
abbrev cX1_weighParts : ByteArray := prog_3_method_12_code
def yX1_weighParts : MethodName := ⟨RX1, "weighParts", "(I[J)V"⟩
abbrev cX1_partsBeside : ByteArray := prog_3_method_13_code
def yX1_partsBeside : MethodName := ⟨RX1, "partsBeside", "(IIZ)J"⟩
abbrev cX1_joint : ByteArray := prog_3_method_14_code
def yX1_joint : MethodName := ⟨RX1, "joint", "(III)I"⟩
abbrev cX1_weightOf : ByteArray := prog_3_method_15_code
def yX1_weightOf : MethodName := ⟨RX1, "weightOf", "(II)J"⟩
abbrev cX1_likeliestAt : ByteArray := prog_3_method_16_code
def yX1_likeliestAt : MethodName := ⟨RX1, "likeliestAt", "(I)I"⟩
abbrev cX1_reckonMost : ByteArray := prog_3_method_17_code
def yX1_reckonMost : MethodName := ⟨RX1, "reckonMost", "()V"⟩
abbrev cX1_bestNext : ByteArray := prog_3_method_18_code
def yX1_bestNext : MethodName := ⟨RX1, "bestNext", "(II)I"⟩
abbrev cX1_mostNext : ByteArray := prog_3_method_19_code
def yX1_mostNext : MethodName := ⟨RX1, "mostNext", "(III)J"⟩
abbrev cX1_seekHalf : ByteArray := prog_3_method_20_code
def yX1_seekHalf : MethodName := ⟨RX1, "seekHalf", "(LPaintedGods$Weather;)V"⟩
abbrev cX1_weighLamps : ByteArray := prog_3_method_21_code
def yX1_weighLamps : MethodName := ⟨RX1, "weighLamps", "(LPaintedGods$Weather;I)V"⟩
def RX2 : String := "PaintedGods$Statue"
def TX2 : u_T := fun k => match k with
  | 0 => ("PaintedGods$Statue", "thick", "[I", true)
  | 1 => ("PaintedGods$Statue", "brightness", "[I", true)
  | 2 => ("PaintedGods$Statue", "lamps", "[I", true)
  | 3 => ("PaintedGods$Statue", "least", "[I", true)
  | 4 => ("PaintedGods$Statue", "settings", "[I", true)
  | 5 => ("PaintedGods$Statue", "habits", "[I", true)
  | 6 => ("PaintedGods$Statue", "cells", "[I", true)
  | 7 => ("PaintedGods$Statue", "kinds", "[I", true)
  | 8 => ("PaintedGods$Statue", "values", "[I", true)
  | 9 => ("PaintedGods$Statue", "asides", "[I", true)
  | 10 => ("PaintedGods$Statue", "copies", "[I", true)
  | 11 => ("PaintedGods$Statue", "stuffs", "I", false)
  | _ => ("PaintedGods$Statue", "traces", "I", false)
def tyX2 : Nat → FieldType := fun k => match k with
  | 0 => .array .int
  | 1 => .array .int
  | 2 => .array .int
  | 3 => .array .int
  | 4 => .array .int
  | 5 => .array .int
  | 6 => .array .int
  | 7 => .array .int
  | 8 => .array .int
  | 9 => .array .int
  | 10 => .array .int
  | 11 => .int
  | _ => .int
abbrev wsX20 : List Cond := u_ws RX2 TX2 13
theorem nmX2 : ∀ a, a < 13 → ∀ b, b < 13 → a ≠ b → (TX2 a).2.1 ≠ (TX2 b).2.1 := by decide +kernel
theorem tyX2_ok : ∀ k, k < 13 → parseFieldDescriptor (TX2 k).2.2.1 = some (tyX2 k) := by decide +kernel
abbrev cX2_init : ByteArray := prog_4_method_1_code
def yX2_init : MethodName := ⟨RX2, "<init>", "()V"⟩
abbrev cX2_beAtFirst : ByteArray := prog_4_method_2_code
def yX2_beAtFirst : MethodName := ⟨RX2, "beAtFirst", "()V"⟩
abbrev cX2_become : ByteArray := prog_4_method_3_code
def yX2_become : MethodName := ⟨RX2, "become", "(LPaintedGods$Statue;)V"⟩
abbrev cX2_addStuff : ByteArray := prog_4_method_4_code
def yX2_addStuff : MethodName := ⟨RX2, "addStuff", "(IIII)I"⟩
abbrev cX2_set : ByteArray := prog_4_method_5_code
def yX2_set : MethodName := ⟨RX2, "set", "(II)I"⟩
abbrev cX2_setHabit : ByteArray := prog_4_method_6_code
def yX2_setHabit : MethodName := ⟨RX2, "setHabit", "(II)I"⟩
abbrev cX2_addTrace : ByteArray := prog_4_method_7_code
def yX2_addTrace : MethodName := ⟨RX2, "addTrace", "(III)I"⟩
abbrev cX2_canTell : ByteArray := prog_4_method_8_code
def yX2_canTell : MethodName := ⟨RX2, "canTell", "(III)Z"⟩
abbrev cX2_setAside : ByteArray := prog_4_method_9_code
def yX2_setAside : MethodName := ⟨RX2, "setAside", "(IZ)I"⟩
abbrev cX2_paint : ByteArray := prog_4_method_10_code
def yX2_paint : MethodName := ⟨RX2, "paint", "(II)I"⟩
abbrev cX2_isStuff : ByteArray := prog_4_method_11_code
def yX2_isStuff : MethodName := ⟨RX2, "isStuff", "(I)Z"⟩
abbrev cX2_isStack : ByteArray := prog_4_method_12_code
def yX2_isStack : MethodName := ⟨RX2, "isStack", "(I)Z"⟩
abbrev cX2_countAside : ByteArray := prog_4_method_13_code
def yX2_countAside : MethodName := ⟨RX2, "countAside", "()I"⟩
abbrev cX2_wearOf : ByteArray := prog_4_method_14_code
def yX2_wearOf : MethodName := ⟨RX2, "wearOf", "(I)I"⟩
abbrev cX2_thickOf : ByteArray := prog_4_method_15_code
def yX2_thickOf : MethodName := ⟨RX2, "thickOf", "(I)I"⟩
abbrev cX2_upperLeft : ByteArray := prog_4_method_16_code
def yX2_upperLeft : MethodName := ⟨RX2, "upperLeft", "(II)I"⟩
abbrev cX2_groundLeft : ByteArray := prog_4_method_17_code
def yX2_groundLeft : MethodName := ⟨RX2, "groundLeft", "(II)I"⟩
abbrev cX2_stoneLost : ByteArray := prog_4_method_18_code
def yX2_stoneLost : MethodName := ⟨RX2, "stoneLost", "(II)I"⟩
abbrev cX2_lampsOf : ByteArray := prog_4_method_19_code
def yX2_lampsOf : MethodName := ⟨RX2, "lampsOf", "(II)I"⟩
abbrev cX2_lampsOfCoat : ByteArray := prog_4_method_20_code
def yX2_lampsOfCoat : MethodName := ⟨RX2, "lampsOfCoat", "(II)I"⟩
abbrev cX2_grainsOf : ByteArray := prog_4_method_21_code
def yX2_grainsOf : MethodName := ⟨RX2, "grainsOf", "(II)I"⟩
abbrev cX2_brightOf : ByteArray := prog_4_method_22_code
def yX2_brightOf : MethodName := ⟨RX2, "brightOf", "(I)I"⟩
abbrev cX2_mix : ByteArray := prog_4_method_23_code
def yX2_mix : MethodName := ⟨RX2, "mix", "(J)J"⟩
def RX3 : String := "PaintedGods$Text"
def TX3 : u_T := fun k => match k with
  | 0 => ("PaintedGods$Text", "bytes", "[B", true)
  | 1 => ("PaintedGods$Text", "numbers", "[I", true)
  | 2 => ("PaintedGods$Text", "length", "I", false)
  | 3 => ("PaintedGods$Text", "at", "I", false)
  | 4 => ("PaintedGods$Text", "token", "I", false)
  | 5 => ("PaintedGods$Text", "tokenStart", "I", false)
  | _ => ("PaintedGods$Text", "tokenValue", "I", false)
def tyX3 : Nat → FieldType := fun k => match k with
  | 0 => .array .byte
  | 1 => .array .int
  | 2 => .int
  | 3 => .int
  | 4 => .int
  | 5 => .int
  | _ => .int
abbrev wsX30 : List Cond := u_ws RX3 TX3 7
theorem nmX3 : ∀ a, a < 7 → ∀ b, b < 7 → a ≠ b → (TX3 a).2.1 ≠ (TX3 b).2.1 := by decide +kernel
theorem tyX3_ok : ∀ k, k < 7 → parseFieldDescriptor (TX3 k).2.2.1 = some (tyX3 k) := by decide +kernel
abbrev cX3_init : ByteArray := prog_5_method_1_code
def yX3_init : MethodName := ⟨RX3, "<init>", "()V"⟩
abbrev cX3_write : ByteArray := prog_5_method_2_code
def yX3_write : MethodName := ⟨RX3, "write", "(JI)I"⟩
abbrev cX3_wipe : ByteArray := prog_5_method_3_code
def yX3_wipe : MethodName := ⟨RX3, "wipe", "()I"⟩
abbrev cX3_tell : ByteArray := prog_5_method_4_code
def yX3_tell : MethodName := ⟨RX3, "tell", "(LPaintedGods$Statue;)I"⟩
abbrev cX3_readItem : ByteArray := prog_5_method_5_code
def yX3_readItem : MethodName := ⟨RX3, "readItem", "()Z"⟩
abbrev cX3_tellItem : ByteArray := prog_5_method_6_code
def yX3_tellItem : MethodName := ⟨RX3, "tellItem", "(LPaintedGods$Statue;I)Z"⟩
abbrev cX3_answerTo : ByteArray := prog_5_method_7_code
def yX3_answerTo : MethodName := ⟨RX3, "answerTo", "(LPaintedGods$Statue;I)I"⟩
abbrev cX3_readToken : ByteArray := prog_5_method_8_code
def yX3_readToken : MethodName := ⟨RX3, "readToken", "()V"⟩
abbrev cX3_readWord : ByteArray := prog_5_method_9_code
def yX3_readWord : MethodName := ⟨RX3, "readWord", "()V"⟩
abbrev cX3_readNumber : ByteArray := prog_5_method_10_code
def yX3_readNumber : MethodName := ⟨RX3, "readNumber", "()V"⟩
abbrev cX3_wordFrom : ByteArray := prog_5_method_11_code
def yX3_wordFrom : MethodName := ⟨RX3, "wordFrom", "(I)I"⟩
abbrev cX3_byteAt : ByteArray := prog_5_method_12_code
def yX3_byteAt : MethodName := ⟨RX3, "byteAt", "(I)I"⟩
abbrev cX3_isLetter : ByteArray := prog_5_method_13_code
def yX3_isLetter : MethodName := ⟨RX3, "isLetter", "(I)Z"⟩
abbrev cX3_isFigure : ByteArray := prog_5_method_14_code
def yX3_isFigure : MethodName := ⟨RX3, "isFigure", "(I)Z"⟩
def RX4 : String := "PaintedGods$Weather"
def TX4 : u_T := fun k => match k with
  | 0 => ("PaintedGods$Weather", "lost", "[[I", true)
  | 1 => ("PaintedGods$Weather", "lamps", "[[I", true)
  | _ => ("PaintedGods$Weather", "grains", "[[I", true)
def tyX4 : Nat → FieldType := fun k => match k with
  | 0 => .array (.array .int)
  | 1 => .array (.array .int)
  | _ => .array (.array .int)
abbrev wsX40 : List Cond := u_ws RX4 TX4 3
theorem nmX4 : ∀ a, a < 3 → ∀ b, b < 3 → a ≠ b → (TX4 a).2.1 ≠ (TX4 b).2.1 := by decide +kernel
theorem tyX4_ok : ∀ k, k < 3 → parseFieldDescriptor (TX4 k).2.2.1 = some (tyX4 k) := by decide +kernel
abbrev cX4_init : ByteArray := prog_6_method_1_code
def yX4_init : MethodName := ⟨RX4, "<init>", "()V"⟩
abbrev cX4_take : ByteArray := prog_6_method_2_code
def yX4_take : MethodName := ⟨RX4, "take", "(LPaintedGods$Statue;)V"⟩
abbrev cX4_isSo : ByteArray := prog_6_method_3_code
def yX4_isSo : MethodName := ⟨RX4, "isSo", "(IIII)Z"⟩
def RX5 : String := "PaintedGods$Whole"
def TX5 : u_T := fun k => match k with
  | 0 => ("PaintedGods$Whole", "limbs", "[I", true)
  | 1 => ("PaintedGods$Whole", "result", "[I", true)
  | _ => ("PaintedGods$Whole", "length", "I", false)
def tyX5 : Nat → FieldType := fun k => match k with
  | 0 => .array .int
  | 1 => .array .int
  | _ => .int
abbrev wsX50 : List Cond := u_ws RX5 TX5 3
theorem nmX5 : ∀ a, a < 3 → ∀ b, b < 3 → a ≠ b → (TX5 a).2.1 ≠ (TX5 b).2.1 := by decide +kernel
theorem tyX5_ok : ∀ k, k < 3 → parseFieldDescriptor (TX5 k).2.2.1 = some (tyX5 k) := by decide +kernel
abbrev cX5_init : ByteArray := prog_7_method_1_code
def yX5_init : MethodName := ⟨RX5, "<init>", "()V"⟩
abbrev cX5_isZero : ByteArray := prog_7_method_2_code
def yX5_isZero : MethodName := ⟨RX5, "isZero", "()Z"⟩
abbrev cX5_digit : ByteArray := prog_7_method_3_code
def yX5_digit : MethodName := ⟨RX5, "digit", "(I)I"⟩
abbrev cX5_set : ByteArray := prog_7_method_4_code
def yX5_set : MethodName := ⟨RX5, "set", "(J)V"⟩
abbrev cX5_become : ByteArray := prog_7_method_5_code
def yX5_become : MethodName := ⟨RX5, "become", "(LPaintedGods$Whole;)V"⟩
abbrev cX5_add : ByteArray := prog_7_method_6_code
def yX5_add : MethodName := ⟨RX5, "add", "(LPaintedGods$Whole;)V"⟩
abbrev cX5_addTimes : ByteArray := prog_7_method_7_code
def yX5_addTimes : MethodName := ⟨RX5, "addTimes", "(JI)V"⟩
abbrev cX5_multiply : ByteArray := prog_7_method_8_code
def yX5_multiply : MethodName := ⟨RX5, "multiply", "(J)V"⟩
abbrev cX5_compareWith : ByteArray := prog_7_method_9_code
def yX5_compareWith : MethodName := ⟨RX5, "compareWith", "(LPaintedGods$Whole;)I"⟩
abbrev cX5_subtract : ByteArray := prog_7_method_10_code
def yX5_subtract : MethodName := ⟨RX5, "subtract", "(LPaintedGods$Whole;)V"⟩
abbrev cX5_twos : ByteArray := prog_7_method_11_code
def yX5_twos : MethodName := ⟨RX5, "twos", "()I"⟩
abbrev cX5_shiftDown : ByteArray := prog_7_method_12_code
def yX5_shiftDown : MethodName := ⟨RX5, "shiftDown", "(I)V"⟩
abbrev cX5_divideExactly : ByteArray := prog_7_method_13_code
def yX5_divideExactly : MethodName := ⟨RX5, "divideExactly", "(LPaintedGods$Whole;)V"⟩
abbrev cX5_mix : ByteArray := prog_7_method_14_code
def yX5_mix : MethodName := ⟨RX5, "mix", "(J)J"⟩
abbrev cX5_measure : ByteArray := prog_7_method_15_code
def yX5_measure : MethodName := ⟨RX5, "measure", "()V"⟩
def RX6 : String := "PaintedGods"
def TX6 : u_T := fun k => match k with
  | 0 => ("PaintedGods", "now", "LPaintedGods$Statue;", true)
  | 1 => ("PaintedGods", "spare", "LPaintedGods$Statue;", true)
  | 2 => ("PaintedGods", "images", "[LPaintedGods$Statue;", true)
  | 3 => ("PaintedGods", "kept", "[Z", true)
  | 4 => ("PaintedGods", "text", "LPaintedGods$Text;", true)
  | 5 => ("PaintedGods", "weather", "LPaintedGods$Weather;", true)
  | 6 => ("PaintedGods", "rows", "LPaintedGods$Hem;", true)
  | 7 => ("PaintedGods", "fraction", "LPaintedGods$Fraction;", true)
  | 8 => ("PaintedGods", "product", "LPaintedGods$Whole;", true)
  | 9 => ("PaintedGods", "chosen", "LPaintedGods$Whole;", true)
  | 10 => ("PaintedGods", "sum", "LPaintedGods$Whole;", true)
  | _ => ("PaintedGods", "refusals", "[I", true)
def tyX6 : Nat → FieldType := fun k => match k with
  | 0 => .object "PaintedGods$Statue"
  | 1 => .object "PaintedGods$Statue"
  | 2 => .array (.object "PaintedGods$Statue")
  | 3 => .array .boolean
  | 4 => .object "PaintedGods$Text"
  | 5 => .object "PaintedGods$Weather"
  | 6 => .object "PaintedGods$Hem"
  | 7 => .object "PaintedGods$Fraction"
  | 8 => .object "PaintedGods$Whole"
  | 9 => .object "PaintedGods$Whole"
  | 10 => .object "PaintedGods$Whole"
  | _ => .array .int
abbrev wsX60 : List Cond := u_ws RX6 TX6 12
theorem nmX6 : ∀ a, a < 12 → ∀ b, b < 12 → a ≠ b → (TX6 a).2.1 ≠ (TX6 b).2.1 := by decide +kernel
theorem tyX6_ok : ∀ k, k < 12 → parseFieldDescriptor (TX6 k).2.2.1 = some (tyX6 k) := by decide +kernel
abbrev cX6_init : ByteArray := prog_1_method_1_code
def yX6_init : MethodName := ⟨RX6, "<init>", "()V"⟩
abbrev cX6_stuff : ByteArray := prog_1_method_2_code
def yX6_stuff : MethodName := ⟨RX6, "stuff", "(IIII)I"⟩
abbrev cX6_put : ByteArray := prog_1_method_3_code
def yX6_put : MethodName := ⟨RX6, "put", "(II)I"⟩
abbrev cX6_habit : ByteArray := prog_1_method_4_code
def yX6_habit : MethodName := ⟨RX6, "habit", "(II)I"⟩
abbrev cX6_trace : ByteArray := prog_1_method_5_code
def yX6_trace : MethodName := ⟨RX6, "trace", "(III)I"⟩
abbrev cX6_aside : ByteArray := prog_1_method_6_code
def yX6_aside : MethodName := ⟨RX6, "aside", "(IZ)I"⟩
abbrev cX6_copy : ByteArray := prog_1_method_7_code
def yX6_copy : MethodName := ⟨RX6, "copy", "(II)I"⟩
abbrev cX6_type : ByteArray := prog_1_method_8_code
def yX6_type : MethodName := ⟨RX6, "type", "(JI)I"⟩
abbrev cX6_clear : ByteArray := prog_1_method_9_code
def yX6_clear : MethodName := ⟨RX6, "clear", "()I"⟩
abbrev cX6_statue : ByteArray := prog_1_method_10_code
def yX6_statue : MethodName := ⟨RX6, "statue", "()I"⟩
abbrev cX6_left : ByteArray := prog_1_method_11_code
def yX6_left : MethodName := ⟨RX6, "left", "(III)I"⟩
abbrev cX6_shines : ByteArray := prog_1_method_12_code
def yX6_shines : MethodName := ⟨RX6, "shines", "(III)I"⟩
abbrev cX6_fits : ByteArray := prog_1_method_13_code
def yX6_fits : MethodName := ⟨RX6, "fits", "(II)I"⟩
abbrev cX6_odds : ByteArray := prog_1_method_14_code
def yX6_odds : MethodName := ⟨RX6, "odds", "(II)I"⟩
abbrev cX6_above : ByteArray := prog_1_method_15_code
def yX6_above : MethodName := ⟨RX6, "above", "(I)I"⟩
abbrev cX6_likeliest : ByteArray := prog_1_method_16_code
def yX6_likeliest : MethodName := ⟨RX6, "likeliest", "(II)I"⟩
abbrev cX6_stood : ByteArray := prog_1_method_17_code
def yX6_stood : MethodName := ⟨RX6, "stood", "(I)I"⟩
abbrev cX6_span : ByteArray := prog_1_method_18_code
def yX6_span : MethodName := ⟨RX6, "span", "(II)I"⟩
abbrev cX6_later : ByteArray := prog_1_method_19_code
def yX6_later : MethodName := ⟨RX6, "later", "(I)I"⟩
abbrev cX6_next : ByteArray := prog_1_method_20_code
def yX6_next : MethodName := ⟨RX6, "next", "()I"⟩
abbrev cX6_rests : ByteArray := prog_1_method_21_code
def yX6_rests : MethodName := ⟨RX6, "rests", "(I)I"⟩
abbrev cX6_resting : ByteArray := prog_1_method_22_code
def yX6_resting : MethodName := ⟨RX6, "resting", "(II)I"⟩
abbrev cX6_bright : ByteArray := prog_1_method_23_code
def yX6_bright : MethodName := ⟨RX6, "bright", "(II)I"⟩
abbrev cX6_sign : ByteArray := prog_1_method_24_code
def yX6_sign : MethodName := ⟨RX6, "sign", "(I)I"⟩
abbrev cX6_limb : ByteArray := prog_1_method_25_code
def yX6_limb : MethodName := ⟨RX6, "limb", "(II)I"⟩
abbrev cX6_image : ByteArray := prog_1_method_26_code
def yX6_image : MethodName := ⟨RX6, "image", "(I)I"⟩
abbrev cX6_from : ByteArray := prog_1_method_27_code
def yX6_from : MethodName := ⟨RX6, "from", "(I)I"⟩
abbrev cX6_status : ByteArray := prog_1_method_28_code
def yX6_status : MethodName := ⟨RX6, "status", "(I)I"⟩
abbrev cX6_count : ByteArray := prog_1_method_29_code
def yX6_count : MethodName := ⟨RX6, "count", "(I)I"⟩
abbrev cX6_digest : ByteArray := prog_1_method_30_code
def yX6_digest : MethodName := ⟨RX6, "digest", "()J"⟩
abbrev cX6_told : ByteArray := prog_1_method_31_code
def yX6_told : MethodName := ⟨RX6, "told", "(I)I"⟩
abbrev cX6_lookAt : ByteArray := prog_1_method_32_code
def yX6_lookAt : MethodName := ⟨RX6, "lookAt", "(LPaintedGods$Statue;I)V"⟩
abbrev cX6_reckonAround : ByteArray := prog_1_method_33_code
def yX6_reckonAround : MethodName := ⟨RX6, "reckonAround", "(I)Z"⟩
abbrev cX6_multiplyHems : ByteArray := prog_1_method_34_code
def yX6_multiplyHems : MethodName := ⟨RX6, "multiplyHems", "(LPaintedGods$Statue;)V"⟩
abbrev cX6_allHemsCanBe : ByteArray := prog_1_method_35_code
def yX6_allHemsCanBe : MethodName := ⟨RX6, "allHemsCanBe", "(LPaintedGods$Statue;)Z"⟩
abbrev cX6_restsOn : ByteArray := prog_1_method_36_code
def yX6_restsOn : MethodName := ⟨RX6, "restsOn", "(I)I"⟩
abbrev cX6_farthestBright : ByteArray := prog_1_method_37_code
def yX6_farthestBright : MethodName := ⟨RX6, "farthestBright", "(IZ)I"⟩
abbrev cX6_meanBright : ByteArray := prog_1_method_38_code
def yX6_meanBright : MethodName := ⟨RX6, "meanBright", "(I)I"⟩
abbrev cX6_within : ByteArray := prog_1_method_39_code
def yX6_within : MethodName := ⟨RX6, "within", "(III)Z"⟩
abbrev cX6_isCell : ByteArray := prog_1_method_40_code
def yX6_isCell : MethodName := ⟨RX6, "isCell", "(I)Z"⟩
abbrev cX6_sideOf : ByteArray := prog_1_method_41_code
def yX6_sideOf : MethodName := ⟨RX6, "sideOf", "(I)I"⟩
abbrev cX6_isHem : ByteArray := prog_1_method_42_code
def yX6_isHem : MethodName := ⟨RX6, "isHem", "(I)Z"⟩
abbrev cX6_groundOf : ByteArray := prog_1_method_43_code
def yX6_groundOf : MethodName := ⟨RX6, "groundOf", "(I)I"⟩
abbrev cX6_upperOf : ByteArray := prog_1_method_44_code
def yX6_upperOf : MethodName := ⟨RX6, "upperOf", "(I)I"⟩
abbrev cX6_topOf : ByteArray := prog_1_method_45_code
def yX6_topOf : MethodName := ⟨RX6, "topOf", "(I)I"⟩
abbrev cX6_isLess : ByteArray := prog_1_method_46_code
def yX6_isLess : MethodName := ⟨RX6, "isLess", "(JJ)Z"⟩
abbrev cX6_isLess_ : ByteArray := prog_1_method_47_code
def yX6_isLess_ : MethodName := ⟨RX6, "isLess", "(JJJJ)Z"⟩
abbrev cX6_highBits : ByteArray := prog_1_method_48_code
def yX6_highBits : MethodName := ⟨RX6, "highBits", "(JJ)J"⟩
def RX7 : String := "PaintedGodsModel"
def TX7 : u_T := fun k => match k with
  | 0 => ("PaintedGodsModel", "book", "[I", true)
  | 1 => ("PaintedGodsModel", "images", "[I", true)
  | 2 => ("PaintedGodsModel", "kept", "[Z", true)
  | 3 => ("PaintedGodsModel", "before", "[I", true)
  | 4 => ("PaintedGodsModel", "refused", "[I", true)
  | 5 => ("PaintedGodsModel", "quiet", "Z", false)
  | 6 => ("PaintedGodsModel", "limbs", "[I", true)
  | 7 => ("PaintedGodsModel", "wide", "[I", true)
  | 8 => ("PaintedGodsModel", "text", "[I", true)
  | 9 => ("PaintedGodsModel", "typed", "I", false)
  | 10 => ("PaintedGodsModel", "at", "I", false)
  | 11 => ("PaintedGodsModel", "start", "I", false)
  | 12 => ("PaintedGodsModel", "token", "I", false)
  | 13 => ("PaintedGodsModel", "value", "I", false)
  | 14 => ("PaintedGodsModel", "verbs", "[I", true)
  | 15 => ("PaintedGodsModel", "nums", "[I", true)
  | 16 => ("PaintedGodsModel", "items", "I", false)
  | 17 => ("PaintedGodsModel", "weights", "[I", true)
  | 18 => ("PaintedGodsModel", "losts", "[I", true)
  | 19 => ("PaintedGodsModel", "edges", "[I", true)
  | _ => ("PaintedGodsModel", "met", "[Z", true)
def tyX7 : Nat → FieldType := fun k => match k with
  | 0 => .array .int
  | 1 => .array .int
  | 2 => .array .boolean
  | 3 => .array .int
  | 4 => .array .int
  | 5 => .boolean
  | 6 => .array .int
  | 7 => .array .int
  | 8 => .array .int
  | 9 => .int
  | 10 => .int
  | 11 => .int
  | 12 => .int
  | 13 => .int
  | 14 => .array .int
  | 15 => .array .int
  | 16 => .int
  | 17 => .array .int
  | 18 => .array .int
  | 19 => .array .int
  | _ => .array .boolean
abbrev wsX70 : List Cond := u_ws RX7 TX7 21
theorem nmX7 : ∀ a, a < 21 → ∀ b, b < 21 → a ≠ b → (TX7 a).2.1 ≠ (TX7 b).2.1 := by decide +kernel
theorem tyX7_ok : ∀ k, k < 21 → parseFieldDescriptor (TX7 k).2.2.1 = some (tyX7 k) := by decide +kernel
abbrev cX7_in : ByteArray := prog_9_method_2_code
def yX7_in : MethodName := ⟨RX7, "in", "(JJJ)Z"⟩
abbrev cX7_init : ByteArray := prog_9_method_3_code
def yX7_init : MethodName := ⟨RX7, "<init>", "()V"⟩
abbrev cX7_begins : ByteArray := prog_9_method_4_code
def yX7_begins : MethodName := ⟨RX7, "begins", "()V"⟩
abbrev cX7_refuses : ByteArray := prog_9_method_5_code
def yX7_refuses : MethodName := ⟨RX7, "refuses", "(II)I"⟩
abbrev cX7_bad : ByteArray := prog_9_method_6_code
def yX7_bad : MethodName := ⟨RX7, "bad", "()I"⟩
abbrev cX7_no : ByteArray := prog_9_method_7_code
def yX7_no : MethodName := ⟨RX7, "no", "()I"⟩
abbrev cX7_full : ByteArray := prog_9_method_8_code
def yX7_full : MethodName := ⟨RX7, "full", "()I"⟩
abbrev cX7_trims : ByteArray := prog_9_method_9_code
def yX7_trims : MethodName := ⟨RX7, "trims", "(I)V"⟩
abbrev cX7_sets : ByteArray := prog_9_method_10_code
def yX7_sets : MethodName := ⟨RX7, "sets", "(IJ)V"⟩
abbrev cX7_copies : ByteArray := prog_9_method_11_code
def yX7_copies : MethodName := ⟨RX7, "copies", "(II)V"⟩
abbrev cX7_times : ByteArray := prog_9_method_12_code
def yX7_times : MethodName := ⟨RX7, "times", "(II)V"⟩
abbrev cX7_multiplies : ByteArray := prog_9_method_13_code
def yX7_multiplies : MethodName := ⟨RX7, "multiplies", "(II)V"⟩
abbrev cX7_adds : ByteArray := prog_9_method_14_code
def yX7_adds : MethodName := ⟨RX7, "adds", "(II)V"⟩
abbrev cX7_lessens : ByteArray := prog_9_method_15_code
def yX7_lessens : MethodName := ⟨RX7, "lessens", "(II)V"⟩
abbrev cX7_against : ByteArray := prog_9_method_16_code
def yX7_against : MethodName := ⟨RX7, "against", "(II)I"⟩
abbrev cX7_isEven : ByteArray := prog_9_method_17_code
def yX7_isEven : MethodName := ⟨RX7, "isEven", "(I)Z"⟩
abbrev cX7_halves : ByteArray := prog_9_method_18_code
def yX7_halves : MethodName := ⟨RX7, "halves", "(I)V"⟩
abbrev cX7_lowers : ByteArray := prog_9_method_19_code
def yX7_lowers : MethodName := ⟨RX7, "lowers", "()V"⟩
abbrev cX7_parts : ByteArray := prog_9_method_20_code
def yX7_parts : MethodName := ⟨RX7, "parts", "(I)V"⟩
abbrev cX7_sign : ByteArray := prog_9_method_22_code
def yX7_sign : MethodName := ⟨RX7, "sign", "(I)I"⟩
abbrev cX7_limb : ByteArray := prog_9_method_23_code
def yX7_limb : MethodName := ⟨RX7, "limb", "(II)I"⟩
abbrev cX7_puts : ByteArray := prog_9_method_24_code
def yX7_puts : MethodName := ⟨RX7, "puts", "(II)I"⟩
abbrev cX7_isCell : ByteArray := prog_9_method_25_code
def yX7_isCell : MethodName := ⟨RX7, "isCell", "(I)Z"⟩
abbrev cX7_isStuff : ByteArray := prog_9_method_26_code
def yX7_isStuff : MethodName := ⟨RX7, "isStuff", "(I)Z"⟩
abbrev cX7_ofStuff : ByteArray := prog_9_method_27_code
def yX7_ofStuff : MethodName := ⟨RX7, "ofStuff", "(II)I"⟩
abbrev cX7_stuff : ByteArray := prog_9_method_28_code
def yX7_stuff : MethodName := ⟨RX7, "stuff", "(IIII)I"⟩
abbrev cX7_put : ByteArray := prog_9_method_29_code
def yX7_put : MethodName := ⟨RX7, "put", "(II)I"⟩
abbrev cX7_habit : ByteArray := prog_9_method_30_code
def yX7_habit : MethodName := ⟨RX7, "habit", "(II)I"⟩
abbrev cX7_isTrace : ByteArray := prog_9_method_31_code
def yX7_isTrace : MethodName := ⟨RX7, "isTrace", "(III)Z"⟩
abbrev cX7_trace : ByteArray := prog_9_method_32_code
def yX7_trace : MethodName := ⟨RX7, "trace", "(III)I"⟩
abbrev cX7_ofTrace : ByteArray := prog_9_method_33_code
def yX7_ofTrace : MethodName := ⟨RX7, "ofTrace", "(II)I"⟩
abbrev cX7_aside : ByteArray := prog_9_method_34_code
def yX7_aside : MethodName := ⟨RX7, "aside", "(IZ)I"⟩
abbrev cX7_copy : ByteArray := prog_9_method_35_code
def yX7_copy : MethodName := ⟨RX7, "copy", "(II)I"⟩
abbrev cX7_type : ByteArray := prog_9_method_36_code
def yX7_type : MethodName := ⟨RX7, "type", "(JI)I"⟩
abbrev cX7_clear : ByteArray := prog_9_method_37_code
def yX7_clear : MethodName := ⟨RX7, "clear", "()I"⟩
abbrev cX7_isAt : ByteArray := prog_9_method_38_code
def yX7_isAt : MethodName := ⟨RX7, "isAt", "(II)Z"⟩
abbrev cX7_wordOf : ByteArray := prog_9_method_39_code
def yX7_wordOf : MethodName := ⟨RX7, "wordOf", "(J)I"⟩
abbrev cX7_scans : ByteArray := prog_9_method_40_code
def yX7_scans : MethodName := ⟨RX7, "scans", "()V"⟩
abbrev cX7_numbers : ByteArray := prog_9_method_41_code
def yX7_numbers : MethodName := ⟨RX7, "numbers", "(I)I"⟩
abbrev cX7_reads : ByteArray := prog_9_method_42_code
def yX7_reads : MethodName := ⟨RX7, "reads", "()Z"⟩
abbrev cX7_tellsItem : ByteArray := prog_9_method_43_code
def yX7_tellsItem : MethodName := ⟨RX7, "tellsItem", "(I)Z"⟩
abbrev cX7_statue : ByteArray := prog_9_method_44_code
def yX7_statue : MethodName := ⟨RX7, "statue", "()I"⟩
abbrev cX7_groundOf : ByteArray := prog_9_method_45_code
def yX7_groundOf : MethodName := ⟨RX7, "groundOf", "(I)I"⟩
abbrev cX7_overOf : ByteArray := prog_9_method_46_code
def yX7_overOf : MethodName := ⟨RX7, "overOf", "(I)I"⟩
abbrev cX7_isStack : ByteArray := prog_9_method_47_code
def yX7_isStack : MethodName := ⟨RX7, "isStack", "(I)Z"⟩
abbrev cX7_wearOf : ByteArray := prog_9_method_48_code
def yX7_wearOf : MethodName := ⟨RX7, "wearOf", "(I)I"⟩
abbrev cX7_thick : ByteArray := prog_9_method_49_code
def yX7_thick : MethodName := ⟨RX7, "thick", "(I)I"⟩
abbrev cX7_leftOf : ByteArray := prog_9_method_50_code
def yX7_leftOf : MethodName := ⟨RX7, "leftOf", "(III)I"⟩
abbrev cX7_isBright : ByteArray := prog_9_method_51_code
def yX7_isBright : MethodName := ⟨RX7, "isBright", "(III)Z"⟩
abbrev cX7_isSo : ByteArray := prog_9_method_52_code
def yX7_isSo : MethodName := ⟨RX7, "isSo", "(III)Z"⟩
abbrev cX7_isLooked : ByteArray := prog_9_method_53_code
def yX7_isLooked : MethodName := ⟨RX7, "isLooked", "(II)Z"⟩
abbrev cX7_isFit : ByteArray := prog_9_method_54_code
def yX7_isFit : MethodName := ⟨RX7, "isFit", "(III)Z"⟩
abbrev cX7_left : ByteArray := prog_9_method_55_code
def yX7_left : MethodName := ⟨RX7, "left", "(III)I"⟩
abbrev cX7_shines : ByteArray := prog_9_method_56_code
def yX7_shines : MethodName := ⟨RX7, "shines", "(III)I"⟩
abbrev cX7_fits : ByteArray := prog_9_method_57_code
def yX7_fits : MethodName := ⟨RX7, "fits", "(II)I"⟩
abbrev cX7_looks : ByteArray := prog_9_method_58_code
def yX7_looks : MethodName := ⟨RX7, "looks", "(II)V"⟩
abbrev cX7_goes : ByteArray := prog_9_method_59_code
def yX7_goes : MethodName := ⟨RX7, "goes", "(III)I"⟩
abbrev cX7_can : ByteArray := prog_9_method_60_code
def yX7_can : MethodName := ⟨RX7, "can", "(II)Z"⟩
abbrev cX7_forth : ByteArray := prog_9_method_61_code
def yX7_forth : MethodName := ⟨RX7, "forth", "(I)Z"⟩
abbrev cX7_back : ByteArray := prog_9_method_62_code
def yX7_back : MethodName := ⟨RX7, "back", "(Z)V"⟩
abbrev cX7_rows : ByteArray := prog_9_method_63_code
def yX7_rows : MethodName := ⟨RX7, "rows", "(I)Z"⟩
abbrev cX7_addsRows : ByteArray := prog_9_method_64_code
def yX7_addsRows : MethodName := ⟨RX7, "addsRows", "(II)V"⟩
abbrev cX7_tellsSum : ByteArray := prog_9_method_65_code
def yX7_tellsSum : MethodName := ⟨RX7, "tellsSum", "()I"⟩
abbrev cX7_odds : ByteArray := prog_9_method_66_code
def yX7_odds : MethodName := ⟨RX7, "odds", "(II)I"⟩
abbrev cX7_above : ByteArray := prog_9_method_67_code
def yX7_above : MethodName := ⟨RX7, "above", "(I)I"⟩
abbrev cX7_likeliest : ByteArray := prog_9_method_68_code
def yX7_likeliest : MethodName := ⟨RX7, "likeliest", "(II)I"⟩
abbrev cX7_stood : ByteArray := prog_9_method_69_code
def yX7_stood : MethodName := ⟨RX7, "stood", "(I)I"⟩
abbrev cX7_span : ByteArray := prog_9_method_70_code
def yX7_span : MethodName := ⟨RX7, "span", "(II)I"⟩
abbrev cX7_sizeOf : ByteArray := prog_9_method_71_code
def yX7_sizeOf : MethodName := ⟨RX7, "sizeOf", "(I)I"⟩
abbrev cX7_tracesOf : ByteArray := prog_9_method_72_code
def yX7_tracesOf : MethodName := ⟨RX7, "tracesOf", "(I)I"⟩
abbrev cX7_later : ByteArray := prog_9_method_73_code
def yX7_later : MethodName := ⟨RX7, "later", "(I)I"⟩
abbrev cX7_next : ByteArray := prog_9_method_74_code
def yX7_next : MethodName := ⟨RX7, "next", "()I"⟩
abbrev cX7_topOf : ByteArray := prog_9_method_75_code
def yX7_topOf : MethodName := ⟨RX7, "topOf", "(I)I"⟩
abbrev cX7_restsAt : ByteArray := prog_9_method_76_code
def yX7_restsAt : MethodName := ⟨RX7, "restsAt", "(I)I"⟩
abbrev cX7_rests : ByteArray := prog_9_method_77_code
def yX7_rests : MethodName := ⟨RX7, "rests", "(I)I"⟩
abbrev cX7_resting : ByteArray := prog_9_method_78_code
def yX7_resting : MethodName := ⟨RX7, "resting", "(II)I"⟩
abbrev cX7_bright : ByteArray := prog_9_method_79_code
def yX7_bright : MethodName := ⟨RX7, "bright", "(II)I"⟩
abbrev cX7_image : ByteArray := prog_9_method_80_code
def yX7_image : MethodName := ⟨RX7, "image", "(I)I"⟩
abbrev cX7_from : ByteArray := prog_9_method_81_code
def yX7_from : MethodName := ⟨RX7, "from", "(I)I"⟩
abbrev cX7_status : ByteArray := prog_9_method_82_code
def yX7_status : MethodName := ⟨RX7, "status", "(I)I"⟩
abbrev cX7_countOf : ByteArray := prog_9_method_83_code
def yX7_countOf : MethodName := ⟨RX7, "countOf", "(I)I"⟩
abbrev cX7_count : ByteArray := prog_9_method_84_code
def yX7_count : MethodName := ⟨RX7, "count", "(I)I"⟩
abbrev cX7_mixed : ByteArray := prog_9_method_85_code
def yX7_mixed : MethodName := ⟨RX7, "mixed", "(J[III)J"⟩
abbrev cX7_digest : ByteArray := prog_9_method_86_code
def yX7_digest : MethodName := ⟨RX7, "digest", "()J"⟩
def RJ6 : String := "java/lang/Integer"
abbrev cJ6_bitCount_0f7a4 : ByteArray := prog_10_method_49_code
def yJ6_bitCount_0f7a4 : MethodName := ⟨RJ6, "bitCount", "(I)I"⟩
def RL : String := "PaintedGodsLaw"
abbrev cL_law : ByteArray := code
def yL_law : MethodName := ⟨RL, "law", "([I)Z"⟩
abbrev vwCl : List vw_C := [(RX0, TX0, 4), (RX1, TX1, 17), (RX2, TX2, 13), (RX3, TX3, 7), (RX4, TX4, 3), (RX5, TX5, 3), (RX6, TX6, 12), (RX7, TX7, 21)]
end
section
theorem dX0_init_0 : decode cX0_init 0 = .ok (.aload_n 0, 1) := by decide +kernel
theorem dX0_init_1 : decode cX0_init 1 = .ok (.invokespecial 1, 3) := by decide +kernel
theorem dX0_init_4 : decode cX0_init 4 = .ok (.aload_n 0, 1) := by decide +kernel
theorem dX0_init_5 : decode cX0_init 5 = .ok (.new 7, 3) := by decide +kernel
theorem dX0_init_8 : decode cX0_init 8 = .ok (.dup, 1) := by decide +kernel
theorem dX0_init_9 : decode cX0_init 9 = .ok (.invokespecial 9, 3) := by decide +kernel
theorem dX0_init_12 : decode cX0_init 12 = .ok (.putfield 10, 3) := by decide +kernel
theorem dX0_init_15 : decode cX0_init 15 = .ok (.aload_n 0, 1) := by decide +kernel
theorem dX0_init_16 : decode cX0_init 16 = .ok (.new 7, 3) := by decide +kernel
theorem dX0_init_19 : decode cX0_init 19 = .ok (.dup, 1) := by decide +kernel
theorem dX0_init_20 : decode cX0_init 20 = .ok (.invokespecial 9, 3) := by decide +kernel
theorem dX0_init_23 : decode cX0_init 23 = .ok (.putfield 16, 3) := by decide +kernel
theorem dX0_init_26 : decode cX0_init 26 = .ok (.aload_n 0, 1) := by decide +kernel
theorem dX0_init_27 : decode cX0_init 27 = .ok (.new 7, 3) := by decide +kernel
theorem dX0_init_30 : decode cX0_init 30 = .ok (.dup, 1) := by decide +kernel
theorem dX0_init_31 : decode cX0_init 31 = .ok (.invokespecial 9, 3) := by decide +kernel
theorem dX0_init_34 : decode cX0_init 34 = .ok (.putfield 19, 3) := by decide +kernel
theorem dX0_init_37 : decode cX0_init 37 = .ok (.aload_n 0, 1) := by decide +kernel
theorem dX0_init_38 : decode cX0_init 38 = .ok (.new 7, 3) := by decide +kernel
theorem dX0_init_41 : decode cX0_init 41 = .ok (.dup, 1) := by decide +kernel
theorem dX0_init_42 : decode cX0_init 42 = .ok (.invokespecial 9, 3) := by decide +kernel
theorem dX0_init_45 : decode cX0_init 45 = .ok (.putfield 22, 3) := by decide +kernel
theorem dX0_init_48 : decode cX0_init 48 = .ok (.aload_n 0, 1) := by decide +kernel
theorem dX0_init_49 : decode cX0_init 49 = .ok (.getfield 16, 3) := by decide +kernel
theorem dX0_init_52 : decode cX0_init 52 = .ok (.lconst 1, 1) := by decide +kernel
theorem dX0_init_53 : decode cX0_init 53 = .ok (.invokevirtual 25, 3) := by decide +kernel
theorem dX0_init_56 : decode cX0_init 56 = .ok (.return_, 1) := by decide +kernel
theorem dX0_setTo_0 : decode cX0_setTo 0 = .ok (.aload_n 0, 1) := by decide +kernel
theorem dX0_setTo_1 : decode cX0_setTo 1 = .ok (.getfield 10, 3) := by decide +kernel
theorem dX0_setTo_4 : decode cX0_setTo 4 = .ok (.lload_n 1, 1) := by decide +kernel
theorem dX0_setTo_5 : decode cX0_setTo 5 = .ok (.invokevirtual 25, 3) := by decide +kernel
theorem dX0_setTo_8 : decode cX0_setTo 8 = .ok (.aload_n 0, 1) := by decide +kernel
theorem dX0_setTo_9 : decode cX0_setTo 9 = .ok (.getfield 16, 3) := by decide +kernel
theorem dX0_setTo_12 : decode cX0_setTo 12 = .ok (.lload_n 3, 1) := by decide +kernel
theorem dX0_setTo_13 : decode cX0_setTo 13 = .ok (.invokevirtual 25, 3) := by decide +kernel
theorem dX0_setTo_16 : decode cX0_setTo 16 = .ok (.aload_n 0, 1) := by decide +kernel
theorem dX0_setTo_17 : decode cX0_setTo 17 = .ok (.invokevirtual 29, 3) := by decide +kernel
theorem dX0_setTo_20 : decode cX0_setTo 20 = .ok (.return_, 1) := by decide +kernel
theorem dX0_setTo__0 : decode cX0_setTo_ 0 = .ok (.aload_n 0, 1) := by decide +kernel
theorem dX0_setTo__1 : decode cX0_setTo_ 1 = .ok (.getfield 10, 3) := by decide +kernel
theorem dX0_setTo__4 : decode cX0_setTo_ 4 = .ok (.aload_n 1, 1) := by decide +kernel
theorem dX0_setTo__5 : decode cX0_setTo_ 5 = .ok (.invokevirtual 32, 3) := by decide +kernel
theorem dX0_setTo__8 : decode cX0_setTo_ 8 = .ok (.aload_n 0, 1) := by decide +kernel
theorem dX0_setTo__9 : decode cX0_setTo_ 9 = .ok (.getfield 16, 3) := by decide +kernel
theorem dX0_setTo__12 : decode cX0_setTo_ 12 = .ok (.aload_n 2, 1) := by decide +kernel
theorem dX0_setTo__13 : decode cX0_setTo_ 13 = .ok (.invokevirtual 32, 3) := by decide +kernel
theorem dX0_setTo__16 : decode cX0_setTo_ 16 = .ok (.aload_n 0, 1) := by decide +kernel
theorem dX0_setTo__17 : decode cX0_setTo_ 17 = .ok (.invokevirtual 29, 3) := by decide +kernel
theorem dX0_setTo__20 : decode cX0_setTo_ 20 = .ok (.return_, 1) := by decide +kernel
theorem dX0_reduce_0 : decode cX0_reduce 0 = .ok (.aload_n 0, 1) := by decide +kernel
theorem dX0_reduce_1 : decode cX0_reduce 1 = .ok (.getfield 10, 3) := by decide +kernel
theorem dX0_reduce_4 : decode cX0_reduce 4 = .ok (.invokevirtual 36, 3) := by decide +kernel
theorem dX0_reduce_7 : decode cX0_reduce 7 = .ok (.ifCond .eq 12, 3) := by decide +kernel
theorem dX0_reduce_10 : decode cX0_reduce 10 = .ok (.aload_n 0, 1) := by decide +kernel
theorem dX0_reduce_11 : decode cX0_reduce 11 = .ok (.getfield 16, 3) := by decide +kernel
theorem dX0_reduce_14 : decode cX0_reduce 14 = .ok (.lconst 1, 1) := by decide +kernel
theorem dX0_reduce_15 : decode cX0_reduce 15 = .ok (.invokevirtual 25, 3) := by decide +kernel
theorem dX0_reduce_18 : decode cX0_reduce 18 = .ok (.return_, 1) := by decide +kernel
theorem dX0_reduce_19 : decode cX0_reduce 19 = .ok (.aload_n 0, 1) := by decide +kernel
theorem dX0_reduce_20 : decode cX0_reduce 20 = .ok (.getfield 10, 3) := by decide +kernel
theorem dX0_reduce_23 : decode cX0_reduce 23 = .ok (.invokevirtual 40, 3) := by decide +kernel
theorem dX0_reduce_26 : decode cX0_reduce 26 = .ok (.aload_n 0, 1) := by decide +kernel
theorem dX0_reduce_27 : decode cX0_reduce 27 = .ok (.getfield 16, 3) := by decide +kernel
theorem dX0_reduce_30 : decode cX0_reduce 30 = .ok (.invokevirtual 40, 3) := by decide +kernel
theorem dX0_reduce_33 : decode cX0_reduce 33 = .ok (.invokestatic 44, 3) := by decide +kernel
theorem dX0_reduce_36 : decode cX0_reduce 36 = .ok (.istore_n 1, 1) := by decide +kernel
theorem dX0_reduce_37 : decode cX0_reduce 37 = .ok (.aload_n 0, 1) := by decide +kernel
theorem dX0_reduce_38 : decode cX0_reduce 38 = .ok (.getfield 10, 3) := by decide +kernel
theorem dX0_reduce_41 : decode cX0_reduce 41 = .ok (.iload_n 1, 1) := by decide +kernel
theorem dX0_reduce_42 : decode cX0_reduce 42 = .ok (.invokevirtual 50, 3) := by decide +kernel
theorem dX0_reduce_45 : decode cX0_reduce 45 = .ok (.aload_n 0, 1) := by decide +kernel
theorem dX0_reduce_46 : decode cX0_reduce 46 = .ok (.getfield 16, 3) := by decide +kernel
theorem dX0_reduce_49 : decode cX0_reduce 49 = .ok (.iload_n 1, 1) := by decide +kernel
theorem dX0_reduce_50 : decode cX0_reduce 50 = .ok (.invokevirtual 50, 3) := by decide +kernel
theorem dX0_reduce_53 : decode cX0_reduce 53 = .ok (.aload_n 0, 1) := by decide +kernel
theorem dX0_reduce_54 : decode cX0_reduce 54 = .ok (.invokevirtual 54, 3) := by decide +kernel
theorem dX0_reduce_57 : decode cX0_reduce 57 = .ok (.aload_n 0, 1) := by decide +kernel
theorem dX0_reduce_58 : decode cX0_reduce 58 = .ok (.getfield 10, 3) := by decide +kernel
theorem dX0_reduce_61 : decode cX0_reduce 61 = .ok (.aload_n 0, 1) := by decide +kernel
theorem dX0_reduce_62 : decode cX0_reduce 62 = .ok (.getfield 19, 3) := by decide +kernel
theorem dX0_reduce_65 : decode cX0_reduce 65 = .ok (.invokevirtual 57, 3) := by decide +kernel
theorem dX0_reduce_68 : decode cX0_reduce 68 = .ok (.aload_n 0, 1) := by decide +kernel
theorem dX0_reduce_69 : decode cX0_reduce 69 = .ok (.getfield 16, 3) := by decide +kernel
theorem dX0_reduce_72 : decode cX0_reduce 72 = .ok (.aload_n 0, 1) := by decide +kernel
theorem dX0_reduce_73 : decode cX0_reduce 73 = .ok (.getfield 19, 3) := by decide +kernel
theorem dX0_reduce_76 : decode cX0_reduce 76 = .ok (.invokevirtual 57, 3) := by decide +kernel
theorem dX0_reduce_79 : decode cX0_reduce 79 = .ok (.return_, 1) := by decide +kernel
theorem dX0_findCommon_0 : decode cX0_findCommon 0 = .ok (.aload_n 0, 1) := by decide +kernel
theorem dX0_findCommon_1 : decode cX0_findCommon 1 = .ok (.getfield 19, 3) := by decide +kernel
theorem dX0_findCommon_4 : decode cX0_findCommon 4 = .ok (.aload_n 0, 1) := by decide +kernel
theorem dX0_findCommon_5 : decode cX0_findCommon 5 = .ok (.getfield 10, 3) := by decide +kernel
theorem dX0_findCommon_8 : decode cX0_findCommon 8 = .ok (.invokevirtual 32, 3) := by decide +kernel
theorem dX0_findCommon_11 : decode cX0_findCommon 11 = .ok (.aload_n 0, 1) := by decide +kernel
theorem dX0_findCommon_12 : decode cX0_findCommon 12 = .ok (.getfield 22, 3) := by decide +kernel
theorem dX0_findCommon_15 : decode cX0_findCommon 15 = .ok (.aload_n 0, 1) := by decide +kernel
theorem dX0_findCommon_16 : decode cX0_findCommon 16 = .ok (.getfield 16, 3) := by decide +kernel
theorem dX0_findCommon_19 : decode cX0_findCommon 19 = .ok (.invokevirtual 32, 3) := by decide +kernel
theorem dX0_findCommon_22 : decode cX0_findCommon 22 = .ok (.aload_n 0, 1) := by decide +kernel
theorem dX0_findCommon_23 : decode cX0_findCommon 23 = .ok (.getfield 19, 3) := by decide +kernel
theorem dX0_findCommon_26 : decode cX0_findCommon 26 = .ok (.aload_n 0, 1) := by decide +kernel
theorem dX0_findCommon_27 : decode cX0_findCommon 27 = .ok (.getfield 19, 3) := by decide +kernel
theorem dX0_findCommon_30 : decode cX0_findCommon 30 = .ok (.invokevirtual 40, 3) := by decide +kernel
theorem dX0_findCommon_33 : decode cX0_findCommon 33 = .ok (.invokevirtual 50, 3) := by decide +kernel
theorem dX0_findCommon_36 : decode cX0_findCommon 36 = .ok (.aload_n 0, 1) := by decide +kernel
theorem dX0_findCommon_37 : decode cX0_findCommon 37 = .ok (.getfield 22, 3) := by decide +kernel
theorem dX0_findCommon_40 : decode cX0_findCommon 40 = .ok (.aload_n 0, 1) := by decide +kernel
theorem dX0_findCommon_41 : decode cX0_findCommon 41 = .ok (.getfield 22, 3) := by decide +kernel
theorem dX0_findCommon_44 : decode cX0_findCommon 44 = .ok (.invokevirtual 40, 3) := by decide +kernel
theorem dX0_findCommon_47 : decode cX0_findCommon 47 = .ok (.invokevirtual 50, 3) := by decide +kernel
theorem dX0_findCommon_50 : decode cX0_findCommon 50 = .ok (.iconst 0, 1) := by decide +kernel
theorem dX0_findCommon_51 : decode cX0_findCommon 51 = .ok (.istore_n 1, 1) := by decide +kernel
theorem dX0_findCommon_52 : decode cX0_findCommon 52 = .ok (.iload_n 1, 1) := by decide +kernel
theorem dX0_findCommon_53 : decode cX0_findCommon 53 = .ok (.sipush 960, 3) := by decide +kernel
theorem dX0_findCommon_56 : decode cX0_findCommon 56 = .ok (.if_icmp .ge 69, 3) := by decide +kernel
theorem dX0_findCommon_59 : decode cX0_findCommon 59 = .ok (.aload_n 0, 1) := by decide +kernel
theorem dX0_findCommon_60 : decode cX0_findCommon 60 = .ok (.getfield 19, 3) := by decide +kernel
theorem dX0_findCommon_63 : decode cX0_findCommon 63 = .ok (.aload_n 0, 1) := by decide +kernel
theorem dX0_findCommon_64 : decode cX0_findCommon 64 = .ok (.getfield 22, 3) := by decide +kernel
theorem dX0_findCommon_67 : decode cX0_findCommon 67 = .ok (.invokevirtual 60, 3) := by decide +kernel
theorem dX0_findCommon_70 : decode cX0_findCommon 70 = .ok (.istore_n 2, 1) := by decide +kernel
theorem dX0_findCommon_71 : decode cX0_findCommon 71 = .ok (.iload_n 2, 1) := by decide +kernel
theorem dX0_findCommon_72 : decode cX0_findCommon 72 = .ok (.ifCond .ne 4, 3) := by decide +kernel
theorem dX0_findCommon_75 : decode cX0_findCommon 75 = .ok (.return_, 1) := by decide +kernel
theorem dX0_findCommon_76 : decode cX0_findCommon 76 = .ok (.iload_n 2, 1) := by decide +kernel
theorem dX0_findCommon_77 : decode cX0_findCommon 77 = .ok (.ifCond .le 10, 3) := by decide +kernel
theorem dX0_findCommon_80 : decode cX0_findCommon 80 = .ok (.aload_n 0, 1) := by decide +kernel
theorem dX0_findCommon_81 : decode cX0_findCommon 81 = .ok (.getfield 19, 3) := by decide +kernel
theorem dX0_findCommon_84 : decode cX0_findCommon 84 = .ok (.goto 7, 3) := by decide +kernel
theorem dX0_findCommon_87 : decode cX0_findCommon 87 = .ok (.aload_n 0, 1) := by decide +kernel
theorem dX0_findCommon_88 : decode cX0_findCommon 88 = .ok (.getfield 22, 3) := by decide +kernel
theorem dX0_findCommon_91 : decode cX0_findCommon 91 = .ok (.astore_n 3, 1) := by decide +kernel
theorem dX0_findCommon_92 : decode cX0_findCommon 92 = .ok (.aload_n 3, 1) := by decide +kernel
theorem dX0_findCommon_93 : decode cX0_findCommon 93 = .ok (.iload_n 2, 1) := by decide +kernel
theorem dX0_findCommon_94 : decode cX0_findCommon 94 = .ok (.ifCond .le 10, 3) := by decide +kernel
theorem dX0_findCommon_97 : decode cX0_findCommon 97 = .ok (.aload_n 0, 1) := by decide +kernel
theorem dX0_findCommon_98 : decode cX0_findCommon 98 = .ok (.getfield 22, 3) := by decide +kernel
theorem dX0_findCommon_101 : decode cX0_findCommon 101 = .ok (.goto 7, 3) := by decide +kernel
theorem dX0_findCommon_104 : decode cX0_findCommon 104 = .ok (.aload_n 0, 1) := by decide +kernel
theorem dX0_findCommon_105 : decode cX0_findCommon 105 = .ok (.getfield 19, 3) := by decide +kernel
theorem dX0_findCommon_108 : decode cX0_findCommon 108 = .ok (.invokevirtual 64, 3) := by decide +kernel
theorem dX0_findCommon_111 : decode cX0_findCommon 111 = .ok (.aload_n 3, 1) := by decide +kernel
theorem dX0_findCommon_112 : decode cX0_findCommon 112 = .ok (.aload_n 3, 1) := by decide +kernel
theorem dX0_findCommon_113 : decode cX0_findCommon 113 = .ok (.invokevirtual 40, 3) := by decide +kernel
theorem dX0_findCommon_116 : decode cX0_findCommon 116 = .ok (.invokevirtual 50, 3) := by decide +kernel
theorem dX0_findCommon_119 : decode cX0_findCommon 119 = .ok (.iinc 1 1, 3) := by decide +kernel
theorem dX0_findCommon_122 : decode cX0_findCommon 122 = .ok (.goto (-70), 3) := by decide +kernel
theorem dX0_findCommon_125 : decode cX0_findCommon 125 = .ok (.return_, 1) := by decide +kernel
theorem dX1_init_0 : decode cX1_init 0 = .ok (.aload_n 0, 1) := by decide +kernel
theorem dX1_init_1 : decode cX1_init 1 = .ok (.invokespecial 3, 3) := by decide +kernel
theorem dX1_init_4 : decode cX1_init 4 = .ok (.aload_n 0, 1) := by decide +kernel
theorem dX1_init_5 : decode cX1_init 5 = .ok (.bipush 21, 2) := by decide +kernel
theorem dX1_init_7 : decode cX1_init 7 = .ok (.newarray .int, 2) := by decide +kernel
theorem dX1_init_9 : decode cX1_init 9 = .ok (.putfield 9, 3) := by decide +kernel
theorem dX1_init_12 : decode cX1_init 12 = .ok (.aload_n 0, 1) := by decide +kernel
theorem dX1_init_13 : decode cX1_init 13 = .ok (.bipush 8, 2) := by decide +kernel
theorem dX1_init_15 : decode cX1_init 15 = .ok (.bipush 21, 2) := by decide +kernel
theorem dX1_init_17 : decode cX1_init 17 = .ok (.multianewarray 15 2, 4) := by decide +kernel
theorem dX1_init_21 : decode cX1_init 21 = .ok (.putfield 17, 3) := by decide +kernel
theorem dX1_init_24 : decode cX1_init 24 = .ok (.aload_n 0, 1) := by decide +kernel
theorem dX1_init_25 : decode cX1_init 25 = .ok (.bipush 8, 2) := by decide +kernel
theorem dX1_init_27 : decode cX1_init 27 = .ok (.bipush 21, 2) := by decide +kernel
theorem dX1_init_29 : decode cX1_init 29 = .ok (.multianewarray 15 2, 4) := by decide +kernel
theorem dX1_init_33 : decode cX1_init 33 = .ok (.putfield 20, 3) := by decide +kernel
theorem dX1_init_36 : decode cX1_init 36 = .ok (.aload_n 0, 1) := by decide +kernel
theorem dX1_init_37 : decode cX1_init 37 = .ok (.bipush 20, 2) := by decide +kernel
theorem dX1_init_39 : decode cX1_init 39 = .ok (.newarray .int, 2) := by decide +kernel
theorem dX1_init_41 : decode cX1_init 41 = .ok (.putfield 23, 3) := by decide +kernel
theorem dX1_init_44 : decode cX1_init 44 = .ok (.aload_n 0, 1) := by decide +kernel
theorem dX1_init_45 : decode cX1_init 45 = .ok (.bipush 20, 2) := by decide +kernel
theorem dX1_init_47 : decode cX1_init 47 = .ok (.newarray .int, 2) := by decide +kernel
theorem dX1_init_49 : decode cX1_init 49 = .ok (.putfield 26, 3) := by decide +kernel
theorem dX1_init_52 : decode cX1_init 52 = .ok (.aload_n 0, 1) := by decide +kernel
theorem dX1_init_53 : decode cX1_init 53 = .ok (.bipush 8, 2) := by decide +kernel
theorem dX1_init_55 : decode cX1_init 55 = .ok (.newarray .int, 2) := by decide +kernel
theorem dX1_init_57 : decode cX1_init 57 = .ok (.putfield 29, 3) := by decide +kernel
theorem dX1_init_60 : decode cX1_init 60 = .ok (.aload_n 0, 1) := by decide +kernel
theorem dX1_init_61 : decode cX1_init 61 = .ok (.bipush 8, 2) := by decide +kernel
theorem dX1_init_63 : decode cX1_init 63 = .ok (.bipush 21, 2) := by decide +kernel
theorem dX1_init_65 : decode cX1_init 65 = .ok (.multianewarray 32 2, 4) := by decide +kernel
theorem dX1_init_69 : decode cX1_init 69 = .ok (.putfield 34, 3) := by decide +kernel
theorem dX1_init_72 : decode cX1_init 72 = .ok (.aload_n 0, 1) := by decide +kernel
theorem dX1_init_73 : decode cX1_init 73 = .ok (.bipush 8, 2) := by decide +kernel
theorem dX1_init_75 : decode cX1_init 75 = .ok (.bipush 21, 2) := by decide +kernel
theorem dX1_init_77 : decode cX1_init 77 = .ok (.multianewarray 32 2, 4) := by decide +kernel
theorem dX1_init_81 : decode cX1_init 81 = .ok (.putfield 37, 3) := by decide +kernel
theorem dX1_init_84 : decode cX1_init 84 = .ok (.aload_n 0, 1) := by decide +kernel
theorem dX1_init_85 : decode cX1_init 85 = .ok (.bipush 8, 2) := by decide +kernel
theorem dX1_init_87 : decode cX1_init 87 = .ok (.bipush 21, 2) := by decide +kernel
theorem dX1_init_89 : decode cX1_init 89 = .ok (.multianewarray 32 2, 4) := by decide +kernel
theorem dX1_init_93 : decode cX1_init 93 = .ok (.putfield 40, 3) := by decide +kernel
theorem dX1_init_96 : decode cX1_init 96 = .ok (.aload_n 0, 1) := by decide +kernel
theorem dX1_init_97 : decode cX1_init 97 = .ok (.bipush 21, 2) := by decide +kernel
theorem dX1_init_99 : decode cX1_init 99 = .ok (.newarray .long, 2) := by decide +kernel
theorem dX1_init_101 : decode cX1_init 101 = .ok (.putfield 43, 3) := by decide +kernel
theorem dX1_init_104 : decode cX1_init 104 = .ok (.aload_n 0, 1) := by decide +kernel
theorem dX1_init_105 : decode cX1_init 105 = .ok (.iconst 4, 1) := by decide +kernel
theorem dX1_init_106 : decode cX1_init 106 = .ok (.newarray .long, 2) := by decide +kernel
theorem dX1_init_108 : decode cX1_init 108 = .ok (.putfield 47, 3) := by decide +kernel
theorem dX1_init_111 : decode cX1_init 111 = .ok (.return_, 1) := by decide +kernel
theorem dX1_look_0 : decode cX1_look 0 = .ok (.aload_n 0, 1) := by decide +kernel
theorem dX1_look_1 : decode cX1_look 1 = .ok (.aload_n 1, 1) := by decide +kernel
theorem dX1_look_2 : decode cX1_look 2 = .ok (.getfield 50, 3) := by decide +kernel
theorem dX1_look_5 : decode cX1_look 5 = .ok (.bipush 6, 2) := by decide +kernel
theorem dX1_look_7 : decode cX1_look 7 = .ok (.iaload, 1) := by decide +kernel
theorem dX1_look_8 : decode cX1_look 8 = .ok (.putfield 55, 3) := by decide +kernel
theorem dX1_look_11 : decode cX1_look 11 = .ok (.iconst 0, 1) := by decide +kernel
theorem dX1_look_12 : decode cX1_look 12 = .ok (.istore 4, 2) := by decide +kernel
theorem dX1_look_14 : decode cX1_look 14 = .ok (.iload 4, 2) := by decide +kernel
theorem dX1_look_16 : decode cX1_look 16 = .ok (.bipush 21, 2) := by decide +kernel
theorem dX1_look_18 : decode cX1_look 18 = .ok (.if_icmp .ge 36, 3) := by decide +kernel
theorem dX1_look_21 : decode cX1_look 21 = .ok (.aload_n 0, 1) := by decide +kernel
theorem dX1_look_22 : decode cX1_look 22 = .ok (.getfield 9, 3) := by decide +kernel
theorem dX1_look_25 : decode cX1_look 25 = .ok (.iload 4, 2) := by decide +kernel
theorem dX1_look_27 : decode cX1_look 27 = .ok (.aload_n 1, 1) := by decide +kernel
theorem dX1_look_28 : decode cX1_look 28 = .ok (.iload 4, 2) := by decide +kernel
theorem dX1_look_30 : decode cX1_look 30 = .ok (.invokevirtual 59, 3) := by decide +kernel
theorem dX1_look_33 : decode cX1_look 33 = .ok (.ifCond .eq 13, 3) := by decide +kernel
theorem dX1_look_36 : decode cX1_look 36 = .ok (.aload_n 1, 1) := by decide +kernel
theorem dX1_look_37 : decode cX1_look 37 = .ok (.getfield 63, 3) := by decide +kernel
theorem dX1_look_40 : decode cX1_look 40 = .ok (.iload 4, 2) := by decide +kernel
theorem dX1_look_42 : decode cX1_look 42 = .ok (.iaload, 1) := by decide +kernel
theorem dX1_look_43 : decode cX1_look 43 = .ok (.goto 4, 3) := by decide +kernel
theorem dX1_look_46 : decode cX1_look 46 = .ok (.iconst 0, 1) := by decide +kernel
theorem dX1_look_47 : decode cX1_look 47 = .ok (.iastore, 1) := by decide +kernel
theorem dX1_look_48 : decode cX1_look 48 = .ok (.iinc 4 1, 3) := by decide +kernel
theorem dX1_look_51 : decode cX1_look 51 = .ok (.goto (-37), 3) := by decide +kernel
theorem dX1_look_54 : decode cX1_look 54 = .ok (.iconst 0, 1) := by decide +kernel
theorem dX1_look_55 : decode cX1_look 55 = .ok (.istore 4, 2) := by decide +kernel
theorem dX1_look_57 : decode cX1_look 57 = .ok (.iload 4, 2) := by decide +kernel
theorem dX1_look_59 : decode cX1_look 59 = .ok (.bipush 8, 2) := by decide +kernel
theorem dX1_look_61 : decode cX1_look 61 = .ok (.if_icmp .ge 74, 3) := by decide +kernel
theorem dX1_look_64 : decode cX1_look 64 = .ok (.iconst 0, 1) := by decide +kernel
theorem dX1_look_65 : decode cX1_look 65 = .ok (.istore 5, 2) := by decide +kernel
theorem dX1_look_67 : decode cX1_look 67 = .ok (.iload 5, 2) := by decide +kernel
theorem dX1_look_69 : decode cX1_look 69 = .ok (.bipush 21, 2) := by decide +kernel
theorem dX1_look_71 : decode cX1_look 71 = .ok (.if_icmp .ge 58, 3) := by decide +kernel
theorem dX1_look_74 : decode cX1_look 74 = .ok (.aload_n 0, 1) := by decide +kernel
theorem dX1_look_75 : decode cX1_look 75 = .ok (.getfield 20, 3) := by decide +kernel
theorem dX1_look_78 : decode cX1_look 78 = .ok (.iload 4, 2) := by decide +kernel
theorem dX1_look_80 : decode cX1_look 80 = .ok (.aaload, 1) := by decide +kernel
theorem dX1_look_81 : decode cX1_look 81 = .ok (.iload 5, 2) := by decide +kernel
theorem dX1_look_83 : decode cX1_look 83 = .ok (.aload_n 2, 1) := by decide +kernel
theorem dX1_look_84 : decode cX1_look 84 = .ok (.getfield 66, 3) := by decide +kernel
theorem dX1_look_87 : decode cX1_look 87 = .ok (.iload 4, 2) := by decide +kernel
theorem dX1_look_89 : decode cX1_look 89 = .ok (.invokestatic 69, 3) := by decide +kernel
theorem dX1_look_92 : decode cX1_look 92 = .ok (.aaload, 1) := by decide +kernel
theorem dX1_look_93 : decode cX1_look 93 = .ok (.iload 5, 2) := by decide +kernel
theorem dX1_look_95 : decode cX1_look 95 = .ok (.iaload, 1) := by decide +kernel
theorem dX1_look_96 : decode cX1_look 96 = .ok (.iastore, 1) := by decide +kernel
theorem dX1_look_97 : decode cX1_look 97 = .ok (.aload_n 0, 1) := by decide +kernel
theorem dX1_look_98 : decode cX1_look 98 = .ok (.getfield 17, 3) := by decide +kernel
theorem dX1_look_101 : decode cX1_look 101 = .ok (.iload 4, 2) := by decide +kernel
theorem dX1_look_103 : decode cX1_look 103 = .ok (.aaload, 1) := by decide +kernel
theorem dX1_look_104 : decode cX1_look 104 = .ok (.iload 5, 2) := by decide +kernel
theorem dX1_look_106 : decode cX1_look 106 = .ok (.aload_n 0, 1) := by decide +kernel
theorem dX1_look_107 : decode cX1_look 107 = .ok (.getfield 9, 3) := by decide +kernel
theorem dX1_look_110 : decode cX1_look 110 = .ok (.iload 5, 2) := by decide +kernel
theorem dX1_look_112 : decode cX1_look 112 = .ok (.iaload, 1) := by decide +kernel
theorem dX1_look_113 : decode cX1_look 113 = .ok (.ifCond .ne 8, 3) := by decide +kernel
theorem dX1_look_116 : decode cX1_look 116 = .ok (.ldc 73, 2) := by decide +kernel
theorem dX1_look_118 : decode cX1_look 118 = .ok (.goto 4, 3) := by decide +kernel
theorem dX1_look_121 : decode cX1_look 121 = .ok (.iconst 0, 1) := by decide +kernel
theorem dX1_look_122 : decode cX1_look 122 = .ok (.iastore, 1) := by decide +kernel
theorem dX1_look_123 : decode cX1_look 123 = .ok (.iinc 5 1, 3) := by decide +kernel
theorem dX1_look_126 : decode cX1_look 126 = .ok (.goto (-59), 3) := by decide +kernel
theorem dX1_look_129 : decode cX1_look 129 = .ok (.iinc 4 1, 3) := by decide +kernel
theorem dX1_look_132 : decode cX1_look 132 = .ok (.goto (-75), 3) := by decide +kernel
theorem dX1_look_135 : decode cX1_look 135 = .ok (.aload_n 0, 1) := by decide +kernel
theorem dX1_look_136 : decode cX1_look 136 = .ok (.iconst 0, 1) := by decide +kernel
theorem dX1_look_137 : decode cX1_look 137 = .ok (.putfield 74, 3) := by decide +kernel
theorem dX1_look_140 : decode cX1_look 140 = .ok (.iconst 0, 1) := by decide +kernel
theorem dX1_look_141 : decode cX1_look 141 = .ok (.istore 4, 2) := by decide +kernel
theorem dX1_look_143 : decode cX1_look 143 = .ok (.iload 4, 2) := by decide +kernel
theorem dX1_look_145 : decode cX1_look 145 = .ok (.bipush 20, 2) := by decide +kernel
theorem dX1_look_147 : decode cX1_look 147 = .ok (.if_icmp .ge 58, 3) := by decide +kernel
theorem dX1_look_150 : decode cX1_look 150 = .ok (.aload_n 0, 1) := by decide +kernel
theorem dX1_look_151 : decode cX1_look 151 = .ok (.getfield 23, 3) := by decide +kernel
theorem dX1_look_154 : decode cX1_look 154 = .ok (.iload 4, 2) := by decide +kernel
theorem dX1_look_156 : decode cX1_look 156 = .ok (.iconst (-1), 1) := by decide +kernel
theorem dX1_look_157 : decode cX1_look 157 = .ok (.iastore, 1) := by decide +kernel
theorem dX1_look_158 : decode cX1_look 158 = .ok (.iload 4, 2) := by decide +kernel
theorem dX1_look_160 : decode cX1_look 160 = .ok (.aload_n 1, 1) := by decide +kernel
theorem dX1_look_161 : decode cX1_look 161 = .ok (.getfield 77, 3) := by decide +kernel
theorem dX1_look_164 : decode cX1_look 164 = .ok (.if_icmp .ge 35, 3) := by decide +kernel
theorem dX1_look_167 : decode cX1_look 167 = .ok (.aload_n 1, 1) := by decide +kernel
theorem dX1_look_168 : decode cX1_look 168 = .ok (.getfield 80, 3) := by decide +kernel
theorem dX1_look_171 : decode cX1_look 171 = .ok (.iload 4, 2) := by decide +kernel
theorem dX1_look_173 : decode cX1_look 173 = .ok (.iaload, 1) := by decide +kernel
theorem dX1_look_174 : decode cX1_look 174 = .ok (.ifCond .ne 25, 3) := by decide +kernel
theorem dX1_look_177 : decode cX1_look 177 = .ok (.aload_n 1, 1) := by decide +kernel
theorem dX1_look_178 : decode cX1_look 178 = .ok (.getfield 83, 3) := by decide +kernel
theorem dX1_look_181 : decode cX1_look 181 = .ok (.iload 4, 2) := by decide +kernel
theorem dX1_look_183 : decode cX1_look 183 = .ok (.iaload, 1) := by decide +kernel
theorem dX1_look_184 : decode cX1_look 184 = .ok (.bipush 8, 2) := by decide +kernel
theorem dX1_look_186 : decode cX1_look 186 = .ok (.idiv, 1) := by decide +kernel
theorem dX1_look_187 : decode cX1_look 187 = .ok (.iload_n 3, 1) := by decide +kernel
theorem dX1_look_188 : decode cX1_look 188 = .ok (.if_icmp .ne 11, 3) := by decide +kernel
theorem dX1_look_191 : decode cX1_look 191 = .ok (.aload_n 0, 1) := by decide +kernel
theorem dX1_look_192 : decode cX1_look 192 = .ok (.aload_n 1, 1) := by decide +kernel
theorem dX1_look_193 : decode cX1_look 193 = .ok (.aload_n 2, 1) := by decide +kernel
theorem dX1_look_194 : decode cX1_look 194 = .ok (.iload 4, 2) := by decide +kernel
theorem dX1_look_196 : decode cX1_look 196 = .ok (.invokevirtual 86, 3) := by decide +kernel
theorem dX1_look_199 : decode cX1_look 199 = .ok (.iinc 4 1, 3) := by decide +kernel
theorem dX1_look_202 : decode cX1_look 202 = .ok (.goto (-59), 3) := by decide +kernel
theorem dX1_look_205 : decode cX1_look 205 = .ok (.aload_n 0, 1) := by decide +kernel
theorem dX1_look_206 : decode cX1_look 206 = .ok (.iconst 0, 1) := by decide +kernel
theorem dX1_look_207 : decode cX1_look 207 = .ok (.invokevirtual 90, 3) := by decide +kernel
theorem dX1_look_210 : decode cX1_look 210 = .ok (.return_, 1) := by decide +kernel
theorem dX1_lookAtTrace_0 : decode cX1_lookAtTrace 0 = .ok (.aload_n 1, 1) := by decide +kernel
theorem dX1_lookAtTrace_1 : decode cX1_lookAtTrace 1 = .ok (.getfield 83, 3) := by decide +kernel
theorem dX1_lookAtTrace_4 : decode cX1_lookAtTrace 4 = .ok (.iload_n 3, 1) := by decide +kernel
theorem dX1_lookAtTrace_5 : decode cX1_lookAtTrace 5 = .ok (.iaload, 1) := by decide +kernel
theorem dX1_lookAtTrace_6 : decode cX1_lookAtTrace 6 = .ok (.bipush 8, 2) := by decide +kernel
theorem dX1_lookAtTrace_8 : decode cX1_lookAtTrace 8 = .ok (.irem, 1) := by decide +kernel
theorem dX1_lookAtTrace_9 : decode cX1_lookAtTrace 9 = .ok (.istore 4, 2) := by decide +kernel
theorem dX1_lookAtTrace_11 : decode cX1_lookAtTrace 11 = .ok (.aload_n 1, 1) := by decide +kernel
theorem dX1_lookAtTrace_12 : decode cX1_lookAtTrace 12 = .ok (.getfield 94, 3) := by decide +kernel
theorem dX1_lookAtTrace_15 : decode cX1_lookAtTrace 15 = .ok (.iload_n 3, 1) := by decide +kernel
theorem dX1_lookAtTrace_16 : decode cX1_lookAtTrace 16 = .ok (.iaload, 1) := by decide +kernel
theorem dX1_lookAtTrace_17 : decode cX1_lookAtTrace 17 = .ok (.istore 5, 2) := by decide +kernel
theorem dX1_lookAtTrace_19 : decode cX1_lookAtTrace 19 = .ok (.aload_n 0, 1) := by decide +kernel
theorem dX1_lookAtTrace_20 : decode cX1_lookAtTrace 20 = .ok (.dup, 1) := by decide +kernel
theorem dX1_lookAtTrace_21 : decode cX1_lookAtTrace 21 = .ok (.getfield 74, 3) := by decide +kernel
theorem dX1_lookAtTrace_24 : decode cX1_lookAtTrace 24 = .ok (.iconst 1, 1) := by decide +kernel
theorem dX1_lookAtTrace_25 : decode cX1_lookAtTrace 25 = .ok (.iload_n 3, 1) := by decide +kernel
theorem dX1_lookAtTrace_26 : decode cX1_lookAtTrace 26 = .ok (.ishl, 1) := by decide +kernel
theorem dX1_lookAtTrace_27 : decode cX1_lookAtTrace 27 = .ok (.ior, 1) := by decide +kernel
theorem dX1_lookAtTrace_28 : decode cX1_lookAtTrace 28 = .ok (.putfield 74, 3) := by decide +kernel
theorem dX1_lookAtTrace_31 : decode cX1_lookAtTrace 31 = .ok (.iload 5, 2) := by decide +kernel
theorem dX1_lookAtTrace_33 : decode cX1_lookAtTrace 33 = .ok (.iconst 5, 1) := by decide +kernel
theorem dX1_lookAtTrace_34 : decode cX1_lookAtTrace 34 = .ok (.if_icmp .ne 24, 3) := by decide +kernel
theorem dX1_lookAtTrace_37 : decode cX1_lookAtTrace 37 = .ok (.aload_n 0, 1) := by decide +kernel
theorem dX1_lookAtTrace_38 : decode cX1_lookAtTrace 38 = .ok (.getfield 23, 3) := by decide +kernel
theorem dX1_lookAtTrace_41 : decode cX1_lookAtTrace 41 = .ok (.iload_n 3, 1) := by decide +kernel
theorem dX1_lookAtTrace_42 : decode cX1_lookAtTrace 42 = .ok (.iload 4, 2) := by decide +kernel
theorem dX1_lookAtTrace_44 : decode cX1_lookAtTrace 44 = .ok (.iastore, 1) := by decide +kernel
theorem dX1_lookAtTrace_45 : decode cX1_lookAtTrace 45 = .ok (.aload_n 0, 1) := by decide +kernel
theorem dX1_lookAtTrace_46 : decode cX1_lookAtTrace 46 = .ok (.getfield 26, 3) := by decide +kernel
theorem dX1_lookAtTrace_49 : decode cX1_lookAtTrace 49 = .ok (.iload_n 3, 1) := by decide +kernel
theorem dX1_lookAtTrace_50 : decode cX1_lookAtTrace 50 = .ok (.aload_n 1, 1) := by decide +kernel
theorem dX1_lookAtTrace_51 : decode cX1_lookAtTrace 51 = .ok (.getfield 97, 3) := by decide +kernel
theorem dX1_lookAtTrace_54 : decode cX1_lookAtTrace 54 = .ok (.iload_n 3, 1) := by decide +kernel
theorem dX1_lookAtTrace_55 : decode cX1_lookAtTrace 55 = .ok (.iaload, 1) := by decide +kernel
theorem dX1_lookAtTrace_56 : decode cX1_lookAtTrace 56 = .ok (.iastore, 1) := by decide +kernel
theorem dX1_lookAtTrace_57 : decode cX1_lookAtTrace 57 = .ok (.return_, 1) := by decide +kernel
theorem dX1_lookAtTrace_58 : decode cX1_lookAtTrace 58 = .ok (.iconst 0, 1) := by decide +kernel
theorem dX1_lookAtTrace_59 : decode cX1_lookAtTrace 59 = .ok (.istore 6, 2) := by decide +kernel
theorem dX1_lookAtTrace_61 : decode cX1_lookAtTrace 61 = .ok (.iload 6, 2) := by decide +kernel
theorem dX1_lookAtTrace_63 : decode cX1_lookAtTrace 63 = .ok (.bipush 21, 2) := by decide +kernel
theorem dX1_lookAtTrace_65 : decode cX1_lookAtTrace 65 = .ok (.if_icmp .ge 47, 3) := by decide +kernel
theorem dX1_lookAtTrace_68 : decode cX1_lookAtTrace 68 = .ok (.aload_n 2, 1) := by decide +kernel
theorem dX1_lookAtTrace_69 : decode cX1_lookAtTrace 69 = .ok (.iload 5, 2) := by decide +kernel
theorem dX1_lookAtTrace_71 : decode cX1_lookAtTrace 71 = .ok (.aload_n 1, 1) := by decide +kernel
theorem dX1_lookAtTrace_72 : decode cX1_lookAtTrace 72 = .ok (.getfield 97, 3) := by decide +kernel
theorem dX1_lookAtTrace_75 : decode cX1_lookAtTrace 75 = .ok (.iload_n 3, 1) := by decide +kernel
theorem dX1_lookAtTrace_76 : decode cX1_lookAtTrace 76 = .ok (.iaload, 1) := by decide +kernel
theorem dX1_lookAtTrace_77 : decode cX1_lookAtTrace 77 = .ok (.iload 4, 2) := by decide +kernel
theorem dX1_lookAtTrace_79 : decode cX1_lookAtTrace 79 = .ok (.invokestatic 69, 3) := by decide +kernel
theorem dX1_lookAtTrace_82 : decode cX1_lookAtTrace 82 = .ok (.iload 6, 2) := by decide +kernel
theorem dX1_lookAtTrace_84 : decode cX1_lookAtTrace 84 = .ok (.invokevirtual 100, 3) := by decide +kernel
theorem dX1_lookAtTrace_87 : decode cX1_lookAtTrace 87 = .ok (.ifCond .ne 19, 3) := by decide +kernel
theorem dX1_lookAtTrace_90 : decode cX1_lookAtTrace 90 = .ok (.aload_n 0, 1) := by decide +kernel
theorem dX1_lookAtTrace_91 : decode cX1_lookAtTrace 91 = .ok (.getfield 17, 3) := by decide +kernel
theorem dX1_lookAtTrace_94 : decode cX1_lookAtTrace 94 = .ok (.iload 4, 2) := by decide +kernel
theorem dX1_lookAtTrace_96 : decode cX1_lookAtTrace 96 = .ok (.aaload, 1) := by decide +kernel
theorem dX1_lookAtTrace_97 : decode cX1_lookAtTrace 97 = .ok (.iload 6, 2) := by decide +kernel
theorem dX1_lookAtTrace_99 : decode cX1_lookAtTrace 99 = .ok (.dup2, 1) := by decide +kernel
theorem dX1_lookAtTrace_100 : decode cX1_lookAtTrace 100 = .ok (.iaload, 1) := by decide +kernel
theorem dX1_lookAtTrace_101 : decode cX1_lookAtTrace 101 = .ok (.iconst 1, 1) := by decide +kernel
theorem dX1_lookAtTrace_102 : decode cX1_lookAtTrace 102 = .ok (.iload_n 3, 1) := by decide +kernel
theorem dX1_lookAtTrace_103 : decode cX1_lookAtTrace 103 = .ok (.ishl, 1) := by decide +kernel
theorem dX1_lookAtTrace_104 : decode cX1_lookAtTrace 104 = .ok (.ior, 1) := by decide +kernel
theorem dX1_lookAtTrace_105 : decode cX1_lookAtTrace 105 = .ok (.iastore, 1) := by decide +kernel
theorem dX1_lookAtTrace_106 : decode cX1_lookAtTrace 106 = .ok (.iinc 6 1, 3) := by decide +kernel
theorem dX1_lookAtTrace_109 : decode cX1_lookAtTrace 109 = .ok (.goto (-48), 3) := by decide +kernel
theorem dX1_lookAtTrace_112 : decode cX1_lookAtTrace 112 = .ok (.return_, 1) := by decide +kernel
theorem dX1_isFree_0 : decode cX1_isFree 0 = .ok (.aload_n 0, 1) := by decide +kernel
theorem dX1_isFree_1 : decode cX1_isFree 1 = .ok (.getfield 17, 3) := by decide +kernel
theorem dX1_isFree_4 : decode cX1_isFree 4 = .ok (.iload_n 1, 1) := by decide +kernel
theorem dX1_isFree_5 : decode cX1_isFree 5 = .ok (.aaload, 1) := by decide +kernel
theorem dX1_isFree_6 : decode cX1_isFree 6 = .ok (.iload_n 2, 1) := by decide +kernel
theorem dX1_isFree_7 : decode cX1_isFree 7 = .ok (.iaload, 1) := by decide +kernel
theorem dX1_isFree_8 : decode cX1_isFree 8 = .ok (.ldc 104, 2) := by decide +kernel
theorem dX1_isFree_10 : decode cX1_isFree 10 = .ok (.iand, 1) := by decide +kernel
theorem dX1_isFree_11 : decode cX1_isFree 11 = .ok (.ifCond .ne 7, 3) := by decide +kernel
theorem dX1_isFree_14 : decode cX1_isFree 14 = .ok (.iconst 1, 1) := by decide +kernel
theorem dX1_isFree_15 : decode cX1_isFree 15 = .ok (.goto 4, 3) := by decide +kernel
theorem dX1_isFree_18 : decode cX1_isFree 18 = .ok (.iconst 0, 1) := by decide +kernel
theorem dX1_isFree_19 : decode cX1_isFree 19 = .ok (.ireturn, 1) := by decide +kernel
theorem dX1_findSteps_0 : decode cX1_findSteps 0 = .ok (.iconst 0, 1) := by decide +kernel
theorem dX1_findSteps_1 : decode cX1_findSteps 1 = .ok (.istore_n 2, 1) := by decide +kernel
theorem dX1_findSteps_2 : decode cX1_findSteps 2 = .ok (.iload_n 2, 1) := by decide +kernel
theorem dX1_findSteps_3 : decode cX1_findSteps 3 = .ok (.bipush 8, 2) := by decide +kernel
theorem dX1_findSteps_5 : decode cX1_findSteps 5 = .ok (.if_icmp .ge 16, 3) := by decide +kernel
theorem dX1_findSteps_8 : decode cX1_findSteps 8 = .ok (.aload_n 0, 1) := by decide +kernel
theorem dX1_findSteps_9 : decode cX1_findSteps 9 = .ok (.getfield 29, 3) := by decide +kernel
theorem dX1_findSteps_12 : decode cX1_findSteps 12 = .ok (.iload_n 2, 1) := by decide +kernel
theorem dX1_findSteps_13 : decode cX1_findSteps 13 = .ok (.iconst 0, 1) := by decide +kernel
theorem dX1_findSteps_14 : decode cX1_findSteps 14 = .ok (.iastore, 1) := by decide +kernel
theorem dX1_findSteps_15 : decode cX1_findSteps 15 = .ok (.iinc 2 1, 3) := by decide +kernel
theorem dX1_findSteps_18 : decode cX1_findSteps 18 = .ok (.goto (-16), 3) := by decide +kernel
theorem dX1_findSteps_21 : decode cX1_findSteps 21 = .ok (.iconst 0, 1) := by decide +kernel
theorem dX1_findSteps_22 : decode cX1_findSteps 22 = .ok (.istore_n 2, 1) := by decide +kernel
theorem dX1_findSteps_23 : decode cX1_findSteps 23 = .ok (.iload_n 2, 1) := by decide +kernel
theorem dX1_findSteps_24 : decode cX1_findSteps 24 = .ok (.bipush 20, 2) := by decide +kernel
theorem dX1_findSteps_26 : decode cX1_findSteps 26 = .ok (.if_icmp .ge 55, 3) := by decide +kernel
theorem dX1_findSteps_29 : decode cX1_findSteps 29 = .ok (.aload_n 0, 1) := by decide +kernel
theorem dX1_findSteps_30 : decode cX1_findSteps 30 = .ok (.getfield 23, 3) := by decide +kernel
theorem dX1_findSteps_33 : decode cX1_findSteps 33 = .ok (.iload_n 2, 1) := by decide +kernel
theorem dX1_findSteps_34 : decode cX1_findSteps 34 = .ok (.iaload, 1) := by decide +kernel
theorem dX1_findSteps_35 : decode cX1_findSteps 35 = .ok (.istore_n 3, 1) := by decide +kernel
theorem dX1_findSteps_36 : decode cX1_findSteps 36 = .ok (.iload_n 3, 1) := by decide +kernel
theorem dX1_findSteps_37 : decode cX1_findSteps 37 = .ok (.iconst 0, 1) := by decide +kernel
theorem dX1_findSteps_38 : decode cX1_findSteps 38 = .ok (.bipush 7, 2) := by decide +kernel
theorem dX1_findSteps_40 : decode cX1_findSteps 40 = .ok (.invokestatic 105, 3) := by decide +kernel
theorem dX1_findSteps_43 : decode cX1_findSteps 43 = .ok (.ifCond .eq 32, 3) := by decide +kernel
theorem dX1_findSteps_46 : decode cX1_findSteps 46 = .ok (.iload_n 1, 1) := by decide +kernel
theorem dX1_findSteps_47 : decode cX1_findSteps 47 = .ok (.iload_n 2, 1) := by decide +kernel
theorem dX1_findSteps_48 : decode cX1_findSteps 48 = .ok (.ishr, 1) := by decide +kernel
theorem dX1_findSteps_49 : decode cX1_findSteps 49 = .ok (.iconst 1, 1) := by decide +kernel
theorem dX1_findSteps_50 : decode cX1_findSteps 50 = .ok (.iand, 1) := by decide +kernel
theorem dX1_findSteps_51 : decode cX1_findSteps 51 = .ok (.ifCond .ne 24, 3) := by decide +kernel
theorem dX1_findSteps_54 : decode cX1_findSteps 54 = .ok (.aload_n 0, 1) := by decide +kernel
theorem dX1_findSteps_55 : decode cX1_findSteps 55 = .ok (.getfield 29, 3) := by decide +kernel
theorem dX1_findSteps_58 : decode cX1_findSteps 58 = .ok (.iload_n 3, 1) := by decide +kernel
theorem dX1_findSteps_59 : decode cX1_findSteps 59 = .ok (.aload_n 0, 1) := by decide +kernel
theorem dX1_findSteps_60 : decode cX1_findSteps 60 = .ok (.getfield 29, 3) := by decide +kernel
theorem dX1_findSteps_63 : decode cX1_findSteps 63 = .ok (.iload_n 3, 1) := by decide +kernel
theorem dX1_findSteps_64 : decode cX1_findSteps 64 = .ok (.iaload, 1) := by decide +kernel
theorem dX1_findSteps_65 : decode cX1_findSteps 65 = .ok (.aload_n 0, 1) := by decide +kernel
theorem dX1_findSteps_66 : decode cX1_findSteps 66 = .ok (.getfield 26, 3) := by decide +kernel
theorem dX1_findSteps_69 : decode cX1_findSteps 69 = .ok (.iload_n 2, 1) := by decide +kernel
theorem dX1_findSteps_70 : decode cX1_findSteps 70 = .ok (.iaload, 1) := by decide +kernel
theorem dX1_findSteps_71 : decode cX1_findSteps 71 = .ok (.invokestatic 109, 3) := by decide +kernel
theorem dX1_findSteps_74 : decode cX1_findSteps 74 = .ok (.iastore, 1) := by decide +kernel
theorem dX1_findSteps_75 : decode cX1_findSteps 75 = .ok (.iinc 2 1, 3) := by decide +kernel
theorem dX1_findSteps_78 : decode cX1_findSteps 78 = .ok (.goto (-55), 3) := by decide +kernel
theorem dX1_findSteps_81 : decode cX1_findSteps 81 = .ok (.return_, 1) := by decide +kernel
theorem dX1_canBe_0 : decode cX1_canBe 0 = .ok (.aload_n 0, 1) := by decide +kernel
theorem dX1_canBe_1 : decode cX1_canBe 1 = .ok (.iload_n 1, 1) := by decide +kernel
theorem dX1_canBe_2 : decode cX1_canBe 2 = .ok (.invokevirtual 90, 3) := by decide +kernel
theorem dX1_canBe_5 : decode cX1_canBe 5 = .ok (.iconst 0, 1) := by decide +kernel
theorem dX1_canBe_6 : decode cX1_canBe 6 = .ok (.istore_n 2, 1) := by decide +kernel
theorem dX1_canBe_7 : decode cX1_canBe 7 = .ok (.iconst 0, 1) := by decide +kernel
theorem dX1_canBe_8 : decode cX1_canBe 8 = .ok (.istore_n 3, 1) := by decide +kernel
theorem dX1_canBe_9 : decode cX1_canBe 9 = .ok (.iload_n 3, 1) := by decide +kernel
theorem dX1_canBe_10 : decode cX1_canBe 10 = .ok (.bipush 8, 2) := by decide +kernel
theorem dX1_canBe_12 : decode cX1_canBe 12 = .ok (.if_icmp .ge 109, 3) := by decide +kernel
theorem dX1_canBe_15 : decode cX1_canBe 15 = .ok (.iconst (-1), 1) := by decide +kernel
theorem dX1_canBe_16 : decode cX1_canBe 16 = .ok (.istore 4, 2) := by decide +kernel
theorem dX1_canBe_18 : decode cX1_canBe 18 = .ok (.iconst 0, 1) := by decide +kernel
theorem dX1_canBe_19 : decode cX1_canBe 19 = .ok (.istore 5, 2) := by decide +kernel
theorem dX1_canBe_21 : decode cX1_canBe 21 = .ok (.iload 5, 2) := by decide +kernel
theorem dX1_canBe_23 : decode cX1_canBe 23 = .ok (.bipush 21, 2) := by decide +kernel
theorem dX1_canBe_25 : decode cX1_canBe 25 = .ok (.if_icmp .ge 59, 3) := by decide +kernel
theorem dX1_canBe_28 : decode cX1_canBe 28 = .ok (.aload_n 0, 1) := by decide +kernel
theorem dX1_canBe_29 : decode cX1_canBe 29 = .ok (.getfield 20, 3) := by decide +kernel
theorem dX1_canBe_32 : decode cX1_canBe 32 = .ok (.iload_n 3, 1) := by decide +kernel
theorem dX1_canBe_33 : decode cX1_canBe 33 = .ok (.aaload, 1) := by decide +kernel
theorem dX1_canBe_34 : decode cX1_canBe 34 = .ok (.iload 5, 2) := by decide +kernel
theorem dX1_canBe_36 : decode cX1_canBe 36 = .ok (.iaload, 1) := by decide +kernel
theorem dX1_canBe_37 : decode cX1_canBe 37 = .ok (.istore 6, 2) := by decide +kernel
theorem dX1_canBe_39 : decode cX1_canBe 39 = .ok (.aload_n 0, 1) := by decide +kernel
theorem dX1_canBe_40 : decode cX1_canBe 40 = .ok (.getfield 17, 3) := by decide +kernel
theorem dX1_canBe_43 : decode cX1_canBe 43 = .ok (.iload_n 3, 1) := by decide +kernel
theorem dX1_canBe_44 : decode cX1_canBe 44 = .ok (.aaload, 1) := by decide +kernel
theorem dX1_canBe_45 : decode cX1_canBe 45 = .ok (.iload 5, 2) := by decide +kernel
theorem dX1_canBe_47 : decode cX1_canBe 47 = .ok (.iaload, 1) := by decide +kernel
theorem dX1_canBe_48 : decode cX1_canBe 48 = .ok (.iload_n 1, 1) := by decide +kernel
theorem dX1_canBe_49 : decode cX1_canBe 49 = .ok (.iconst (-1), 1) := by decide +kernel
theorem dX1_canBe_50 : decode cX1_canBe 50 = .ok (.ixor, 1) := by decide +kernel
theorem dX1_canBe_51 : decode cX1_canBe 51 = .ok (.iand, 1) := by decide +kernel
theorem dX1_canBe_52 : decode cX1_canBe 52 = .ok (.ifCond .ne 26, 3) := by decide +kernel
theorem dX1_canBe_55 : decode cX1_canBe 55 = .ok (.iload 6, 2) := by decide +kernel
theorem dX1_canBe_57 : decode cX1_canBe 57 = .ok (.iload_n 2, 1) := by decide +kernel
theorem dX1_canBe_58 : decode cX1_canBe 58 = .ok (.if_icmp .lt 20, 3) := by decide +kernel
theorem dX1_canBe_61 : decode cX1_canBe 61 = .ok (.iload 4, 2) := by decide +kernel
theorem dX1_canBe_63 : decode cX1_canBe 63 = .ok (.iconst (-1), 1) := by decide +kernel
theorem dX1_canBe_64 : decode cX1_canBe 64 = .ok (.if_icmp .eq 10, 3) := by decide +kernel
theorem dX1_canBe_67 : decode cX1_canBe 67 = .ok (.iload 6, 2) := by decide +kernel
theorem dX1_canBe_69 : decode cX1_canBe 69 = .ok (.iload 4, 2) := by decide +kernel
theorem dX1_canBe_71 : decode cX1_canBe 71 = .ok (.if_icmp .ge 7, 3) := by decide +kernel
theorem dX1_canBe_74 : decode cX1_canBe 74 = .ok (.iload 6, 2) := by decide +kernel
theorem dX1_canBe_76 : decode cX1_canBe 76 = .ok (.istore 4, 2) := by decide +kernel
theorem dX1_canBe_78 : decode cX1_canBe 78 = .ok (.iinc 5 1, 3) := by decide +kernel
theorem dX1_canBe_81 : decode cX1_canBe 81 = .ok (.goto (-60), 3) := by decide +kernel
theorem dX1_canBe_84 : decode cX1_canBe 84 = .ok (.iload 4, 2) := by decide +kernel
theorem dX1_canBe_86 : decode cX1_canBe 86 = .ok (.iconst (-1), 1) := by decide +kernel
theorem dX1_canBe_87 : decode cX1_canBe 87 = .ok (.if_icmp .ne 5, 3) := by decide +kernel
theorem dX1_canBe_90 : decode cX1_canBe 90 = .ok (.iconst 0, 1) := by decide +kernel
theorem dX1_canBe_91 : decode cX1_canBe 91 = .ok (.ireturn, 1) := by decide +kernel
theorem dX1_canBe_92 : decode cX1_canBe 92 = .ok (.aload_n 0, 1) := by decide +kernel
theorem dX1_canBe_93 : decode cX1_canBe 93 = .ok (.getfield 29, 3) := by decide +kernel
theorem dX1_canBe_96 : decode cX1_canBe 96 = .ok (.iload_n 3, 1) := by decide +kernel
theorem dX1_canBe_97 : decode cX1_canBe 97 = .ok (.iaload, 1) := by decide +kernel
theorem dX1_canBe_98 : decode cX1_canBe 98 = .ok (.ifCond .ne 7, 3) := by decide +kernel
theorem dX1_canBe_101 : decode cX1_canBe 101 = .ok (.iconst 0, 1) := by decide +kernel
theorem dX1_canBe_102 : decode cX1_canBe 102 = .ok (.goto 12, 3) := by decide +kernel
theorem dX1_canBe_105 : decode cX1_canBe 105 = .ok (.iload 4, 2) := by decide +kernel
theorem dX1_canBe_107 : decode cX1_canBe 107 = .ok (.aload_n 0, 1) := by decide +kernel
theorem dX1_canBe_108 : decode cX1_canBe 108 = .ok (.getfield 29, 3) := by decide +kernel
theorem dX1_canBe_111 : decode cX1_canBe 111 = .ok (.iload_n 3, 1) := by decide +kernel
theorem dX1_canBe_112 : decode cX1_canBe 112 = .ok (.iaload, 1) := by decide +kernel
theorem dX1_canBe_113 : decode cX1_canBe 113 = .ok (.iadd, 1) := by decide +kernel
theorem dX1_canBe_114 : decode cX1_canBe 114 = .ok (.istore_n 2, 1) := by decide +kernel
theorem dX1_canBe_115 : decode cX1_canBe 115 = .ok (.iinc 3 1, 3) := by decide +kernel
theorem dX1_canBe_118 : decode cX1_canBe 118 = .ok (.goto (-109), 3) := by decide +kernel
theorem dX1_canBe_121 : decode cX1_canBe 121 = .ok (.iconst 1, 1) := by decide +kernel
theorem dX1_canBe_122 : decode cX1_canBe 122 = .ok (.ireturn, 1) := by decide +kernel
theorem dX1_fewestLater_0 : decode cX1_fewestLater 0 = .ok (.aload_n 0, 1) := by decide +kernel
theorem dX1_fewestLater_1 : decode cX1_fewestLater 1 = .ok (.iconst 0, 1) := by decide +kernel
theorem dX1_fewestLater_2 : decode cX1_fewestLater 2 = .ok (.invokevirtual 115, 3) := by decide +kernel
theorem dX1_fewestLater_5 : decode cX1_fewestLater 5 = .ok (.ifCond .eq 5, 3) := by decide +kernel
theorem dX1_fewestLater_8 : decode cX1_fewestLater 8 = .ok (.iconst 0, 1) := by decide +kernel
theorem dX1_fewestLater_9 : decode cX1_fewestLater 9 = .ok (.ireturn, 1) := by decide +kernel
theorem dX1_fewestLater_10 : decode cX1_fewestLater 10 = .ok (.iconst 1, 1) := by decide +kernel
theorem dX1_fewestLater_11 : decode cX1_fewestLater 11 = .ok (.istore_n 1, 1) := by decide +kernel
theorem dX1_fewestLater_12 : decode cX1_fewestLater 12 = .ok (.iload_n 1, 1) := by decide +kernel
theorem dX1_fewestLater_13 : decode cX1_fewestLater 13 = .ok (.iconst 3, 1) := by decide +kernel
theorem dX1_fewestLater_14 : decode cX1_fewestLater 14 = .ok (.if_icmp .gt 21, 3) := by decide +kernel
theorem dX1_fewestLater_17 : decode cX1_fewestLater 17 = .ok (.aload_n 0, 1) := by decide +kernel
theorem dX1_fewestLater_18 : decode cX1_fewestLater 18 = .ok (.iload_n 1, 1) := by decide +kernel
theorem dX1_fewestLater_19 : decode cX1_fewestLater 19 = .ok (.invokevirtual 118, 3) := by decide +kernel
theorem dX1_fewestLater_22 : decode cX1_fewestLater 22 = .ok (.istore_n 2, 1) := by decide +kernel
theorem dX1_fewestLater_23 : decode cX1_fewestLater 23 = .ok (.iload_n 2, 1) := by decide +kernel
theorem dX1_fewestLater_24 : decode cX1_fewestLater 24 = .ok (.ifCond .eq 5, 3) := by decide +kernel
theorem dX1_fewestLater_27 : decode cX1_fewestLater 27 = .ok (.iload_n 2, 1) := by decide +kernel
theorem dX1_fewestLater_28 : decode cX1_fewestLater 28 = .ok (.ireturn, 1) := by decide +kernel
theorem dX1_fewestLater_29 : decode cX1_fewestLater 29 = .ok (.iinc 1 1, 3) := by decide +kernel
theorem dX1_fewestLater_32 : decode cX1_fewestLater 32 = .ok (.goto (-20), 3) := by decide +kernel
theorem dX1_fewestLater_35 : decode cX1_fewestLater 35 = .ok (.bipush (-5), 2) := by decide +kernel
theorem dX1_fewestLater_37 : decode cX1_fewestLater 37 = .ok (.ireturn, 1) := by decide +kernel
theorem dX1_laterOf_0 : decode cX1_laterOf 0 = .ok (.iconst 0, 1) := by decide +kernel
theorem dX1_laterOf_1 : decode cX1_laterOf 1 = .ok (.istore_n 2, 1) := by decide +kernel
theorem dX1_laterOf_2 : decode cX1_laterOf 2 = .ok (.iload_n 2, 1) := by decide +kernel
theorem dX1_laterOf_3 : decode cX1_laterOf 3 = .ok (.bipush 20, 2) := by decide +kernel
theorem dX1_laterOf_5 : decode cX1_laterOf 5 = .ok (.if_icmp .ge 162, 3) := by decide +kernel
theorem dX1_laterOf_8 : decode cX1_laterOf 8 = .ok (.aload_n 0, 1) := by decide +kernel
theorem dX1_laterOf_9 : decode cX1_laterOf 9 = .ok (.getfield 74, 3) := by decide +kernel
theorem dX1_laterOf_12 : decode cX1_laterOf 12 = .ok (.iconst 1, 1) := by decide +kernel
theorem dX1_laterOf_13 : decode cX1_laterOf 13 = .ok (.iload_n 2, 1) := by decide +kernel
theorem dX1_laterOf_14 : decode cX1_laterOf 14 = .ok (.ishl, 1) := by decide +kernel
theorem dX1_laterOf_15 : decode cX1_laterOf 15 = .ok (.iand, 1) := by decide +kernel
theorem dX1_laterOf_16 : decode cX1_laterOf 16 = .ok (.istore_n 3, 1) := by decide +kernel
theorem dX1_laterOf_17 : decode cX1_laterOf 17 = .ok (.iload_n 3, 1) := by decide +kernel
theorem dX1_laterOf_18 : decode cX1_laterOf 18 = .ok (.ifCond .eq 18, 3) := by decide +kernel
theorem dX1_laterOf_21 : decode cX1_laterOf 21 = .ok (.iload_n 1, 1) := by decide +kernel
theorem dX1_laterOf_22 : decode cX1_laterOf 22 = .ok (.iconst 1, 1) := by decide +kernel
theorem dX1_laterOf_23 : decode cX1_laterOf 23 = .ok (.if_icmp .ne 13, 3) := by decide +kernel
theorem dX1_laterOf_26 : decode cX1_laterOf 26 = .ok (.aload_n 0, 1) := by decide +kernel
theorem dX1_laterOf_27 : decode cX1_laterOf 27 = .ok (.iload_n 3, 1) := by decide +kernel
theorem dX1_laterOf_28 : decode cX1_laterOf 28 = .ok (.invokevirtual 115, 3) := by decide +kernel
theorem dX1_laterOf_31 : decode cX1_laterOf 31 = .ok (.ifCond .eq 5, 3) := by decide +kernel
theorem dX1_laterOf_34 : decode cX1_laterOf 34 = .ok (.iload_n 3, 1) := by decide +kernel
theorem dX1_laterOf_35 : decode cX1_laterOf 35 = .ok (.ireturn, 1) := by decide +kernel
theorem dX1_laterOf_36 : decode cX1_laterOf 36 = .ok (.iconst 0, 1) := by decide +kernel
theorem dX1_laterOf_37 : decode cX1_laterOf 37 = .ok (.istore 4, 2) := by decide +kernel
theorem dX1_laterOf_39 : decode cX1_laterOf 39 = .ok (.iload 4, 2) := by decide +kernel
theorem dX1_laterOf_41 : decode cX1_laterOf 41 = .ok (.iload_n 2, 1) := by decide +kernel
theorem dX1_laterOf_42 : decode cX1_laterOf 42 = .ok (.if_icmp .ge 119, 3) := by decide +kernel
theorem dX1_laterOf_45 : decode cX1_laterOf 45 = .ok (.iload_n 3, 1) := by decide +kernel
theorem dX1_laterOf_46 : decode cX1_laterOf 46 = .ok (.ifCond .eq 115, 3) := by decide +kernel
theorem dX1_laterOf_49 : decode cX1_laterOf 49 = .ok (.iload_n 1, 1) := by decide +kernel
theorem dX1_laterOf_50 : decode cX1_laterOf 50 = .ok (.iconst 1, 1) := by decide +kernel
theorem dX1_laterOf_51 : decode cX1_laterOf 51 = .ok (.if_icmp .le 110, 3) := by decide +kernel
theorem dX1_laterOf_54 : decode cX1_laterOf 54 = .ok (.aload_n 0, 1) := by decide +kernel
theorem dX1_laterOf_55 : decode cX1_laterOf 55 = .ok (.getfield 74, 3) := by decide +kernel
theorem dX1_laterOf_58 : decode cX1_laterOf 58 = .ok (.iconst 1, 1) := by decide +kernel
theorem dX1_laterOf_59 : decode cX1_laterOf 59 = .ok (.iload 4, 2) := by decide +kernel
theorem dX1_laterOf_61 : decode cX1_laterOf 61 = .ok (.ishl, 1) := by decide +kernel
theorem dX1_laterOf_62 : decode cX1_laterOf 62 = .ok (.iand, 1) := by decide +kernel
theorem dX1_laterOf_63 : decode cX1_laterOf 63 = .ok (.istore 5, 2) := by decide +kernel
theorem dX1_laterOf_65 : decode cX1_laterOf 65 = .ok (.iload 5, 2) := by decide +kernel
theorem dX1_laterOf_67 : decode cX1_laterOf 67 = .ok (.ifCond .eq 24, 3) := by decide +kernel
theorem dX1_laterOf_70 : decode cX1_laterOf 70 = .ok (.iload_n 1, 1) := by decide +kernel
theorem dX1_laterOf_71 : decode cX1_laterOf 71 = .ok (.iconst 2, 1) := by decide +kernel
theorem dX1_laterOf_72 : decode cX1_laterOf 72 = .ok (.if_icmp .ne 19, 3) := by decide +kernel
theorem dX1_laterOf_75 : decode cX1_laterOf 75 = .ok (.aload_n 0, 1) := by decide +kernel
theorem dX1_laterOf_76 : decode cX1_laterOf 76 = .ok (.iload_n 3, 1) := by decide +kernel
theorem dX1_laterOf_77 : decode cX1_laterOf 77 = .ok (.iload 5, 2) := by decide +kernel
theorem dX1_laterOf_79 : decode cX1_laterOf 79 = .ok (.ior, 1) := by decide +kernel
theorem dX1_laterOf_80 : decode cX1_laterOf 80 = .ok (.invokevirtual 115, 3) := by decide +kernel
theorem dX1_laterOf_83 : decode cX1_laterOf 83 = .ok (.ifCond .eq 8, 3) := by decide +kernel
theorem dX1_laterOf_86 : decode cX1_laterOf 86 = .ok (.iload_n 3, 1) := by decide +kernel
theorem dX1_laterOf_87 : decode cX1_laterOf 87 = .ok (.iload 5, 2) := by decide +kernel
theorem dX1_laterOf_89 : decode cX1_laterOf 89 = .ok (.ior, 1) := by decide +kernel
theorem dX1_laterOf_90 : decode cX1_laterOf 90 = .ok (.ireturn, 1) := by decide +kernel
theorem dX1_laterOf_91 : decode cX1_laterOf 91 = .ok (.iconst 0, 1) := by decide +kernel
theorem dX1_laterOf_92 : decode cX1_laterOf 92 = .ok (.istore 6, 2) := by decide +kernel
theorem dX1_laterOf_94 : decode cX1_laterOf 94 = .ok (.iload 6, 2) := by decide +kernel
theorem dX1_laterOf_96 : decode cX1_laterOf 96 = .ok (.iload 4, 2) := by decide +kernel
theorem dX1_laterOf_98 : decode cX1_laterOf 98 = .ok (.if_icmp .ge 57, 3) := by decide +kernel
theorem dX1_laterOf_101 : decode cX1_laterOf 101 = .ok (.iload 5, 2) := by decide +kernel
theorem dX1_laterOf_103 : decode cX1_laterOf 103 = .ok (.ifCond .eq 52, 3) := by decide +kernel
theorem dX1_laterOf_106 : decode cX1_laterOf 106 = .ok (.iload_n 1, 1) := by decide +kernel
theorem dX1_laterOf_107 : decode cX1_laterOf 107 = .ok (.iconst 2, 1) := by decide +kernel
theorem dX1_laterOf_108 : decode cX1_laterOf 108 = .ok (.if_icmp .le 47, 3) := by decide +kernel
theorem dX1_laterOf_111 : decode cX1_laterOf 111 = .ok (.aload_n 0, 1) := by decide +kernel
theorem dX1_laterOf_112 : decode cX1_laterOf 112 = .ok (.getfield 74, 3) := by decide +kernel
theorem dX1_laterOf_115 : decode cX1_laterOf 115 = .ok (.iconst 1, 1) := by decide +kernel
theorem dX1_laterOf_116 : decode cX1_laterOf 116 = .ok (.iload 6, 2) := by decide +kernel
theorem dX1_laterOf_118 : decode cX1_laterOf 118 = .ok (.ishl, 1) := by decide +kernel
theorem dX1_laterOf_119 : decode cX1_laterOf 119 = .ok (.iand, 1) := by decide +kernel
theorem dX1_laterOf_120 : decode cX1_laterOf 120 = .ok (.istore 7, 2) := by decide +kernel
theorem dX1_laterOf_122 : decode cX1_laterOf 122 = .ok (.iload 7, 2) := by decide +kernel
theorem dX1_laterOf_124 : decode cX1_laterOf 124 = .ok (.ifCond .eq 25, 3) := by decide +kernel
theorem dX1_laterOf_127 : decode cX1_laterOf 127 = .ok (.aload_n 0, 1) := by decide +kernel
theorem dX1_laterOf_128 : decode cX1_laterOf 128 = .ok (.iload_n 3, 1) := by decide +kernel
theorem dX1_laterOf_129 : decode cX1_laterOf 129 = .ok (.iload 5, 2) := by decide +kernel
theorem dX1_laterOf_131 : decode cX1_laterOf 131 = .ok (.ior, 1) := by decide +kernel
theorem dX1_laterOf_132 : decode cX1_laterOf 132 = .ok (.iload 7, 2) := by decide +kernel
theorem dX1_laterOf_134 : decode cX1_laterOf 134 = .ok (.ior, 1) := by decide +kernel
theorem dX1_laterOf_135 : decode cX1_laterOf 135 = .ok (.invokevirtual 115, 3) := by decide +kernel
theorem dX1_laterOf_138 : decode cX1_laterOf 138 = .ok (.ifCond .eq 11, 3) := by decide +kernel
theorem dX1_laterOf_141 : decode cX1_laterOf 141 = .ok (.iload_n 3, 1) := by decide +kernel
theorem dX1_laterOf_142 : decode cX1_laterOf 142 = .ok (.iload 5, 2) := by decide +kernel
theorem dX1_laterOf_144 : decode cX1_laterOf 144 = .ok (.ior, 1) := by decide +kernel
theorem dX1_laterOf_145 : decode cX1_laterOf 145 = .ok (.iload 7, 2) := by decide +kernel
theorem dX1_laterOf_147 : decode cX1_laterOf 147 = .ok (.ior, 1) := by decide +kernel
theorem dX1_laterOf_148 : decode cX1_laterOf 148 = .ok (.ireturn, 1) := by decide +kernel
theorem dX1_laterOf_149 : decode cX1_laterOf 149 = .ok (.iinc 6 1, 3) := by decide +kernel
theorem dX1_laterOf_152 : decode cX1_laterOf 152 = .ok (.goto (-58), 3) := by decide +kernel
theorem dX1_laterOf_155 : decode cX1_laterOf 155 = .ok (.iinc 4 1, 3) := by decide +kernel
theorem dX1_laterOf_158 : decode cX1_laterOf 158 = .ok (.goto (-119), 3) := by decide +kernel
theorem dX1_laterOf_161 : decode cX1_laterOf 161 = .ok (.iinc 2 1, 3) := by decide +kernel
theorem dX1_laterOf_164 : decode cX1_laterOf 164 = .ok (.goto (-162), 3) := by decide +kernel
theorem dX1_laterOf_167 : decode cX1_laterOf 167 = .ok (.iconst 0, 1) := by decide +kernel
theorem dX1_laterOf_168 : decode cX1_laterOf 168 = .ok (.ireturn, 1) := by decide +kernel
theorem dX1_reckon_0 : decode cX1_reckon 0 = .ok (.aload_n 0, 1) := by decide +kernel
theorem dX1_reckon_1 : decode cX1_reckon 1 = .ok (.invokevirtual 121, 3) := by decide +kernel
theorem dX1_reckon_4 : decode cX1_reckon 4 = .ok (.aload_n 0, 1) := by decide +kernel
theorem dX1_reckon_5 : decode cX1_reckon 5 = .ok (.invokevirtual 124, 3) := by decide +kernel
theorem dX1_reckon_8 : decode cX1_reckon 8 = .ok (.return_, 1) := by decide +kernel
theorem dX1_reckonAhead_0 : decode cX1_reckonAhead 0 = .ok (.iconst 0, 1) := by decide +kernel
theorem dX1_reckonAhead_1 : decode cX1_reckonAhead 1 = .ok (.istore_n 1, 1) := by decide +kernel
theorem dX1_reckonAhead_2 : decode cX1_reckonAhead 2 = .ok (.iload_n 1, 1) := by decide +kernel
theorem dX1_reckonAhead_3 : decode cX1_reckonAhead 3 = .ok (.bipush 21, 2) := by decide +kernel
theorem dX1_reckonAhead_5 : decode cX1_reckonAhead 5 = .ok (.if_icmp .ge 18, 3) := by decide +kernel
theorem dX1_reckonAhead_8 : decode cX1_reckonAhead 8 = .ok (.aload_n 0, 1) := by decide +kernel
theorem dX1_reckonAhead_9 : decode cX1_reckonAhead 9 = .ok (.getfield 34, 3) := by decide +kernel
theorem dX1_reckonAhead_12 : decode cX1_reckonAhead 12 = .ok (.iconst 0, 1) := by decide +kernel
theorem dX1_reckonAhead_13 : decode cX1_reckonAhead 13 = .ok (.aaload, 1) := by decide +kernel
theorem dX1_reckonAhead_14 : decode cX1_reckonAhead 14 = .ok (.iload_n 1, 1) := by decide +kernel
theorem dX1_reckonAhead_15 : decode cX1_reckonAhead 15 = .ok (.lconst 1, 1) := by decide +kernel
theorem dX1_reckonAhead_16 : decode cX1_reckonAhead 16 = .ok (.lastore, 1) := by decide +kernel
theorem dX1_reckonAhead_17 : decode cX1_reckonAhead 17 = .ok (.iinc 1 1, 3) := by decide +kernel
theorem dX1_reckonAhead_20 : decode cX1_reckonAhead 20 = .ok (.goto (-18), 3) := by decide +kernel
theorem dX1_reckonAhead_23 : decode cX1_reckonAhead 23 = .ok (.iconst 1, 1) := by decide +kernel
theorem dX1_reckonAhead_24 : decode cX1_reckonAhead 24 = .ok (.istore_n 1, 1) := by decide +kernel
theorem dX1_reckonAhead_25 : decode cX1_reckonAhead 25 = .ok (.iload_n 1, 1) := by decide +kernel
theorem dX1_reckonAhead_26 : decode cX1_reckonAhead 26 = .ok (.bipush 8, 2) := by decide +kernel
theorem dX1_reckonAhead_28 : decode cX1_reckonAhead 28 = .ok (.if_icmp .ge 55, 3) := by decide +kernel
theorem dX1_reckonAhead_31 : decode cX1_reckonAhead 31 = .ok (.aload_n 0, 1) := by decide +kernel
theorem dX1_reckonAhead_32 : decode cX1_reckonAhead 32 = .ok (.iload_n 1, 1) := by decide +kernel
theorem dX1_reckonAhead_33 : decode cX1_reckonAhead 33 = .ok (.iconst 1, 1) := by decide +kernel
theorem dX1_reckonAhead_34 : decode cX1_reckonAhead 34 = .ok (.isub, 1) := by decide +kernel
theorem dX1_reckonAhead_35 : decode cX1_reckonAhead 35 = .ok (.aload_n 0, 1) := by decide +kernel
theorem dX1_reckonAhead_36 : decode cX1_reckonAhead 36 = .ok (.getfield 34, 3) := by decide +kernel
theorem dX1_reckonAhead_39 : decode cX1_reckonAhead 39 = .ok (.iload_n 1, 1) := by decide +kernel
theorem dX1_reckonAhead_40 : decode cX1_reckonAhead 40 = .ok (.iconst 1, 1) := by decide +kernel
theorem dX1_reckonAhead_41 : decode cX1_reckonAhead 41 = .ok (.isub, 1) := by decide +kernel
theorem dX1_reckonAhead_42 : decode cX1_reckonAhead 42 = .ok (.aaload, 1) := by decide +kernel
theorem dX1_reckonAhead_43 : decode cX1_reckonAhead 43 = .ok (.invokevirtual 127, 3) := by decide +kernel
theorem dX1_reckonAhead_46 : decode cX1_reckonAhead 46 = .ok (.iconst 0, 1) := by decide +kernel
theorem dX1_reckonAhead_47 : decode cX1_reckonAhead 47 = .ok (.istore_n 2, 1) := by decide +kernel
theorem dX1_reckonAhead_48 : decode cX1_reckonAhead 48 = .ok (.iload_n 2, 1) := by decide +kernel
theorem dX1_reckonAhead_49 : decode cX1_reckonAhead 49 = .ok (.bipush 21, 2) := by decide +kernel
theorem dX1_reckonAhead_51 : decode cX1_reckonAhead 51 = .ok (.if_icmp .ge 26, 3) := by decide +kernel
theorem dX1_reckonAhead_54 : decode cX1_reckonAhead 54 = .ok (.aload_n 0, 1) := by decide +kernel
theorem dX1_reckonAhead_55 : decode cX1_reckonAhead 55 = .ok (.getfield 34, 3) := by decide +kernel
theorem dX1_reckonAhead_58 : decode cX1_reckonAhead 58 = .ok (.iload_n 1, 1) := by decide +kernel
theorem dX1_reckonAhead_59 : decode cX1_reckonAhead 59 = .ok (.aaload, 1) := by decide +kernel
theorem dX1_reckonAhead_60 : decode cX1_reckonAhead 60 = .ok (.iload_n 2, 1) := by decide +kernel
theorem dX1_reckonAhead_61 : decode cX1_reckonAhead 61 = .ok (.aload_n 0, 1) := by decide +kernel
theorem dX1_reckonAhead_62 : decode cX1_reckonAhead 62 = .ok (.iload_n 2, 1) := by decide +kernel
theorem dX1_reckonAhead_63 : decode cX1_reckonAhead 63 = .ok (.iload_n 1, 1) := by decide +kernel
theorem dX1_reckonAhead_64 : decode cX1_reckonAhead 64 = .ok (.iconst 1, 1) := by decide +kernel
theorem dX1_reckonAhead_65 : decode cX1_reckonAhead 65 = .ok (.isub, 1) := by decide +kernel
theorem dX1_reckonAhead_66 : decode cX1_reckonAhead 66 = .ok (.iconst 1, 1) := by decide +kernel
theorem dX1_reckonAhead_67 : decode cX1_reckonAhead 67 = .ok (.invokevirtual 131, 3) := by decide +kernel
theorem dX1_reckonAhead_70 : decode cX1_reckonAhead 70 = .ok (.lastore, 1) := by decide +kernel
theorem dX1_reckonAhead_71 : decode cX1_reckonAhead 71 = .ok (.iinc 2 1, 3) := by decide +kernel
theorem dX1_reckonAhead_74 : decode cX1_reckonAhead 74 = .ok (.goto (-26), 3) := by decide +kernel
theorem dX1_reckonAhead_77 : decode cX1_reckonAhead 77 = .ok (.iinc 1 1, 3) := by decide +kernel
theorem dX1_reckonAhead_80 : decode cX1_reckonAhead 80 = .ok (.goto (-55), 3) := by decide +kernel
theorem dX1_reckonAhead_83 : decode cX1_reckonAhead 83 = .ok (.aload_n 0, 1) := by decide +kernel
theorem dX1_reckonAhead_84 : decode cX1_reckonAhead 84 = .ok (.bipush 7, 2) := by decide +kernel
theorem dX1_reckonAhead_86 : decode cX1_reckonAhead 86 = .ok (.aload_n 0, 1) := by decide +kernel
theorem dX1_reckonAhead_87 : decode cX1_reckonAhead 87 = .ok (.getfield 34, 3) := by decide +kernel
theorem dX1_reckonAhead_90 : decode cX1_reckonAhead 90 = .ok (.bipush 7, 2) := by decide +kernel
theorem dX1_reckonAhead_92 : decode cX1_reckonAhead 92 = .ok (.aaload, 1) := by decide +kernel
theorem dX1_reckonAhead_93 : decode cX1_reckonAhead 93 = .ok (.invokevirtual 127, 3) := by decide +kernel
theorem dX1_reckonAhead_96 : decode cX1_reckonAhead 96 = .ok (.aload_n 0, 1) := by decide +kernel
theorem dX1_reckonAhead_97 : decode cX1_reckonAhead 97 = .ok (.aload_n 0, 1) := by decide +kernel
theorem dX1_reckonAhead_98 : decode cX1_reckonAhead 98 = .ok (.getfield 135, 3) := by decide +kernel
theorem dX1_reckonAhead_101 : decode cX1_reckonAhead 101 = .ok (.putfield 139, 3) := by decide +kernel
theorem dX1_reckonAhead_104 : decode cX1_reckonAhead 104 = .ok (.return_, 1) := by decide +kernel
theorem dX1_reckonBehind_0 : decode cX1_reckonBehind 0 = .ok (.iconst 0, 1) := by decide +kernel
theorem dX1_reckonBehind_1 : decode cX1_reckonBehind 1 = .ok (.istore_n 1, 1) := by decide +kernel
theorem dX1_reckonBehind_2 : decode cX1_reckonBehind 2 = .ok (.iload_n 1, 1) := by decide +kernel
theorem dX1_reckonBehind_3 : decode cX1_reckonBehind 3 = .ok (.bipush 21, 2) := by decide +kernel
theorem dX1_reckonBehind_5 : decode cX1_reckonBehind 5 = .ok (.if_icmp .ge 19, 3) := by decide +kernel
theorem dX1_reckonBehind_8 : decode cX1_reckonBehind 8 = .ok (.aload_n 0, 1) := by decide +kernel
theorem dX1_reckonBehind_9 : decode cX1_reckonBehind 9 = .ok (.getfield 37, 3) := by decide +kernel
theorem dX1_reckonBehind_12 : decode cX1_reckonBehind 12 = .ok (.bipush 7, 2) := by decide +kernel
theorem dX1_reckonBehind_14 : decode cX1_reckonBehind 14 = .ok (.aaload, 1) := by decide +kernel
theorem dX1_reckonBehind_15 : decode cX1_reckonBehind 15 = .ok (.iload_n 1, 1) := by decide +kernel
theorem dX1_reckonBehind_16 : decode cX1_reckonBehind 16 = .ok (.lconst 1, 1) := by decide +kernel
theorem dX1_reckonBehind_17 : decode cX1_reckonBehind 17 = .ok (.lastore, 1) := by decide +kernel
theorem dX1_reckonBehind_18 : decode cX1_reckonBehind 18 = .ok (.iinc 1 1, 3) := by decide +kernel
theorem dX1_reckonBehind_21 : decode cX1_reckonBehind 21 = .ok (.goto (-19), 3) := by decide +kernel
theorem dX1_reckonBehind_24 : decode cX1_reckonBehind 24 = .ok (.bipush 6, 2) := by decide +kernel
theorem dX1_reckonBehind_26 : decode cX1_reckonBehind 26 = .ok (.istore_n 1, 1) := by decide +kernel
theorem dX1_reckonBehind_27 : decode cX1_reckonBehind 27 = .ok (.iload_n 1, 1) := by decide +kernel
theorem dX1_reckonBehind_28 : decode cX1_reckonBehind 28 = .ok (.ifCond .lt 53, 3) := by decide +kernel
theorem dX1_reckonBehind_31 : decode cX1_reckonBehind 31 = .ok (.aload_n 0, 1) := by decide +kernel
theorem dX1_reckonBehind_32 : decode cX1_reckonBehind 32 = .ok (.iload_n 1, 1) := by decide +kernel
theorem dX1_reckonBehind_33 : decode cX1_reckonBehind 33 = .ok (.iconst 1, 1) := by decide +kernel
theorem dX1_reckonBehind_34 : decode cX1_reckonBehind 34 = .ok (.iadd, 1) := by decide +kernel
theorem dX1_reckonBehind_35 : decode cX1_reckonBehind 35 = .ok (.aload_n 0, 1) := by decide +kernel
theorem dX1_reckonBehind_36 : decode cX1_reckonBehind 36 = .ok (.getfield 37, 3) := by decide +kernel
theorem dX1_reckonBehind_39 : decode cX1_reckonBehind 39 = .ok (.iload_n 1, 1) := by decide +kernel
theorem dX1_reckonBehind_40 : decode cX1_reckonBehind 40 = .ok (.iconst 1, 1) := by decide +kernel
theorem dX1_reckonBehind_41 : decode cX1_reckonBehind 41 = .ok (.iadd, 1) := by decide +kernel
theorem dX1_reckonBehind_42 : decode cX1_reckonBehind 42 = .ok (.aaload, 1) := by decide +kernel
theorem dX1_reckonBehind_43 : decode cX1_reckonBehind 43 = .ok (.invokevirtual 127, 3) := by decide +kernel
theorem dX1_reckonBehind_46 : decode cX1_reckonBehind 46 = .ok (.iconst 0, 1) := by decide +kernel
theorem dX1_reckonBehind_47 : decode cX1_reckonBehind 47 = .ok (.istore_n 2, 1) := by decide +kernel
theorem dX1_reckonBehind_48 : decode cX1_reckonBehind 48 = .ok (.iload_n 2, 1) := by decide +kernel
theorem dX1_reckonBehind_49 : decode cX1_reckonBehind 49 = .ok (.bipush 21, 2) := by decide +kernel
theorem dX1_reckonBehind_51 : decode cX1_reckonBehind 51 = .ok (.if_icmp .ge 24, 3) := by decide +kernel
theorem dX1_reckonBehind_54 : decode cX1_reckonBehind 54 = .ok (.aload_n 0, 1) := by decide +kernel
theorem dX1_reckonBehind_55 : decode cX1_reckonBehind 55 = .ok (.getfield 37, 3) := by decide +kernel
theorem dX1_reckonBehind_58 : decode cX1_reckonBehind 58 = .ok (.iload_n 1, 1) := by decide +kernel
theorem dX1_reckonBehind_59 : decode cX1_reckonBehind 59 = .ok (.aaload, 1) := by decide +kernel
theorem dX1_reckonBehind_60 : decode cX1_reckonBehind 60 = .ok (.iload_n 2, 1) := by decide +kernel
theorem dX1_reckonBehind_61 : decode cX1_reckonBehind 61 = .ok (.aload_n 0, 1) := by decide +kernel
theorem dX1_reckonBehind_62 : decode cX1_reckonBehind 62 = .ok (.iload_n 2, 1) := by decide +kernel
theorem dX1_reckonBehind_63 : decode cX1_reckonBehind 63 = .ok (.iload_n 1, 1) := by decide +kernel
theorem dX1_reckonBehind_64 : decode cX1_reckonBehind 64 = .ok (.iconst 0, 1) := by decide +kernel
theorem dX1_reckonBehind_65 : decode cX1_reckonBehind 65 = .ok (.invokevirtual 131, 3) := by decide +kernel
theorem dX1_reckonBehind_68 : decode cX1_reckonBehind 68 = .ok (.lastore, 1) := by decide +kernel
theorem dX1_reckonBehind_69 : decode cX1_reckonBehind 69 = .ok (.iinc 2 1, 3) := by decide +kernel
theorem dX1_reckonBehind_72 : decode cX1_reckonBehind 72 = .ok (.goto (-24), 3) := by decide +kernel
theorem dX1_reckonBehind_75 : decode cX1_reckonBehind 75 = .ok (.iinc 1 (-1), 3) := by decide +kernel
theorem dX1_reckonBehind_78 : decode cX1_reckonBehind 78 = .ok (.goto (-51), 3) := by decide +kernel
theorem dX1_reckonBehind_81 : decode cX1_reckonBehind 81 = .ok (.return_, 1) := by decide +kernel
theorem dX1_weighParts_0 : decode cX1_weighParts 0 = .ok (.aload_n 0, 1) := by decide +kernel
theorem dX1_weighParts_1 : decode cX1_weighParts 1 = .ok (.lconst 0, 1) := by decide +kernel
theorem dX1_weighParts_2 : decode cX1_weighParts 2 = .ok (.putfield 135, 3) := by decide +kernel
theorem dX1_weighParts_5 : decode cX1_weighParts 5 = .ok (.iconst 0, 1) := by decide +kernel
theorem dX1_weighParts_6 : decode cX1_weighParts 6 = .ok (.istore_n 3, 1) := by decide +kernel
theorem dX1_weighParts_7 : decode cX1_weighParts 7 = .ok (.iload_n 3, 1) := by decide +kernel
theorem dX1_weighParts_8 : decode cX1_weighParts 8 = .ok (.bipush 21, 2) := by decide +kernel
theorem dX1_weighParts_10 : decode cX1_weighParts 10 = .ok (.if_icmp .ge 56, 3) := by decide +kernel
theorem dX1_weighParts_13 : decode cX1_weighParts 13 = .ok (.aload_n 0, 1) := by decide +kernel
theorem dX1_weighParts_14 : decode cX1_weighParts 14 = .ok (.getfield 43, 3) := by decide +kernel
theorem dX1_weighParts_17 : decode cX1_weighParts 17 = .ok (.iload_n 3, 1) := by decide +kernel
theorem dX1_weighParts_18 : decode cX1_weighParts 18 = .ok (.aload_n 0, 1) := by decide +kernel
theorem dX1_weighParts_19 : decode cX1_weighParts 19 = .ok (.getfield 17, 3) := by decide +kernel
theorem dX1_weighParts_22 : decode cX1_weighParts 22 = .ok (.iload_n 1, 1) := by decide +kernel
theorem dX1_weighParts_23 : decode cX1_weighParts 23 = .ok (.aaload, 1) := by decide +kernel
theorem dX1_weighParts_24 : decode cX1_weighParts 24 = .ok (.iload_n 3, 1) := by decide +kernel
theorem dX1_weighParts_25 : decode cX1_weighParts 25 = .ok (.iaload, 1) := by decide +kernel
theorem dX1_weighParts_26 : decode cX1_weighParts 26 = .ok (.ifCond .ne 17, 3) := by decide +kernel
theorem dX1_weighParts_29 : decode cX1_weighParts 29 = .ok (.aload_n 0, 1) := by decide +kernel
theorem dX1_weighParts_30 : decode cX1_weighParts 30 = .ok (.getfield 9, 3) := by decide +kernel
theorem dX1_weighParts_33 : decode cX1_weighParts 33 = .ok (.iload_n 3, 1) := by decide +kernel
theorem dX1_weighParts_34 : decode cX1_weighParts 34 = .ok (.iaload, 1) := by decide +kernel
theorem dX1_weighParts_35 : decode cX1_weighParts 35 = .ok (.i2l, 1) := by decide +kernel
theorem dX1_weighParts_36 : decode cX1_weighParts 36 = .ok (.aload_n 2, 1) := by decide +kernel
theorem dX1_weighParts_37 : decode cX1_weighParts 37 = .ok (.iload_n 3, 1) := by decide +kernel
theorem dX1_weighParts_38 : decode cX1_weighParts 38 = .ok (.laload, 1) := by decide +kernel
theorem dX1_weighParts_39 : decode cX1_weighParts 39 = .ok (.lmul, 1) := by decide +kernel
theorem dX1_weighParts_40 : decode cX1_weighParts 40 = .ok (.goto 4, 3) := by decide +kernel
theorem dX1_weighParts_43 : decode cX1_weighParts 43 = .ok (.lconst 0, 1) := by decide +kernel
theorem dX1_weighParts_44 : decode cX1_weighParts 44 = .ok (.lastore, 1) := by decide +kernel
theorem dX1_weighParts_45 : decode cX1_weighParts 45 = .ok (.aload_n 0, 1) := by decide +kernel
theorem dX1_weighParts_46 : decode cX1_weighParts 46 = .ok (.dup, 1) := by decide +kernel
theorem dX1_weighParts_47 : decode cX1_weighParts 47 = .ok (.getfield 135, 3) := by decide +kernel
theorem dX1_weighParts_50 : decode cX1_weighParts 50 = .ok (.aload_n 0, 1) := by decide +kernel
theorem dX1_weighParts_51 : decode cX1_weighParts 51 = .ok (.getfield 43, 3) := by decide +kernel
theorem dX1_weighParts_54 : decode cX1_weighParts 54 = .ok (.iload_n 3, 1) := by decide +kernel
theorem dX1_weighParts_55 : decode cX1_weighParts 55 = .ok (.laload, 1) := by decide +kernel
theorem dX1_weighParts_56 : decode cX1_weighParts 56 = .ok (.ladd, 1) := by decide +kernel
theorem dX1_weighParts_57 : decode cX1_weighParts 57 = .ok (.putfield 135, 3) := by decide +kernel
theorem dX1_weighParts_60 : decode cX1_weighParts 60 = .ok (.iinc 3 1, 3) := by decide +kernel
theorem dX1_weighParts_63 : decode cX1_weighParts 63 = .ok (.goto (-56), 3) := by decide +kernel
theorem dX1_weighParts_66 : decode cX1_weighParts 66 = .ok (.return_, 1) := by decide +kernel
theorem dX1_partsBeside_0 : decode cX1_partsBeside 0 = .ok (.aload_n 0, 1) := by decide +kernel
theorem dX1_partsBeside_1 : decode cX1_partsBeside 1 = .ok (.getfield 29, 3) := by decide +kernel
theorem dX1_partsBeside_4 : decode cX1_partsBeside 4 = .ok (.iload_n 2, 1) := by decide +kernel
theorem dX1_partsBeside_5 : decode cX1_partsBeside 5 = .ok (.iaload, 1) := by decide +kernel
theorem dX1_partsBeside_6 : decode cX1_partsBeside 6 = .ok (.ifCond .ne 23, 3) := by decide +kernel
theorem dX1_partsBeside_9 : decode cX1_partsBeside 9 = .ok (.aload_n 0, 1) := by decide +kernel
theorem dX1_partsBeside_10 : decode cX1_partsBeside 10 = .ok (.getfield 135, 3) := by decide +kernel
theorem dX1_partsBeside_13 : decode cX1_partsBeside 13 = .ok (.aload_n 0, 1) := by decide +kernel
theorem dX1_partsBeside_14 : decode cX1_partsBeside 14 = .ok (.getfield 55, 3) := by decide +kernel
theorem dX1_partsBeside_17 : decode cX1_partsBeside 17 = .ok (.iconst 1, 1) := by decide +kernel
theorem dX1_partsBeside_18 : decode cX1_partsBeside 18 = .ok (.isub, 1) := by decide +kernel
theorem dX1_partsBeside_19 : decode cX1_partsBeside 19 = .ok (.i2l, 1) := by decide +kernel
theorem dX1_partsBeside_20 : decode cX1_partsBeside 20 = .ok (.aload_n 0, 1) := by decide +kernel
theorem dX1_partsBeside_21 : decode cX1_partsBeside 21 = .ok (.getfield 43, 3) := by decide +kernel
theorem dX1_partsBeside_24 : decode cX1_partsBeside 24 = .ok (.iload_n 1, 1) := by decide +kernel
theorem dX1_partsBeside_25 : decode cX1_partsBeside 25 = .ok (.laload, 1) := by decide +kernel
theorem dX1_partsBeside_26 : decode cX1_partsBeside 26 = .ok (.lmul, 1) := by decide +kernel
theorem dX1_partsBeside_27 : decode cX1_partsBeside 27 = .ok (.ladd, 1) := by decide +kernel
theorem dX1_partsBeside_28 : decode cX1_partsBeside 28 = .ok (.lreturn, 1) := by decide +kernel
theorem dX1_partsBeside_29 : decode cX1_partsBeside 29 = .ok (.lconst 0, 1) := by decide +kernel
theorem dX1_partsBeside_30 : decode cX1_partsBeside 30 = .ok (.lstore 4, 2) := by decide +kernel
theorem dX1_partsBeside_32 : decode cX1_partsBeside 32 = .ok (.iconst 0, 1) := by decide +kernel
theorem dX1_partsBeside_33 : decode cX1_partsBeside 33 = .ok (.istore 6, 2) := by decide +kernel
theorem dX1_partsBeside_35 : decode cX1_partsBeside 35 = .ok (.iload 6, 2) := by decide +kernel
theorem dX1_partsBeside_37 : decode cX1_partsBeside 37 = .ok (.bipush 21, 2) := by decide +kernel
theorem dX1_partsBeside_39 : decode cX1_partsBeside 39 = .ok (.if_icmp .ge 46, 3) := by decide +kernel
theorem dX1_partsBeside_42 : decode cX1_partsBeside 42 = .ok (.lload 4, 2) := by decide +kernel
theorem dX1_partsBeside_44 : decode cX1_partsBeside 44 = .ok (.aload_n 0, 1) := by decide +kernel
theorem dX1_partsBeside_45 : decode cX1_partsBeside 45 = .ok (.getfield 43, 3) := by decide +kernel
theorem dX1_partsBeside_48 : decode cX1_partsBeside 48 = .ok (.iload 6, 2) := by decide +kernel
theorem dX1_partsBeside_50 : decode cX1_partsBeside 50 = .ok (.laload, 1) := by decide +kernel
theorem dX1_partsBeside_51 : decode cX1_partsBeside 51 = .ok (.iload_n 3, 1) := by decide +kernel
theorem dX1_partsBeside_52 : decode cX1_partsBeside 52 = .ok (.ifCond .eq 14, 3) := by decide +kernel
theorem dX1_partsBeside_55 : decode cX1_partsBeside 55 = .ok (.aload_n 0, 1) := by decide +kernel
theorem dX1_partsBeside_56 : decode cX1_partsBeside 56 = .ok (.iload_n 2, 1) := by decide +kernel
theorem dX1_partsBeside_57 : decode cX1_partsBeside 57 = .ok (.iload 6, 2) := by decide +kernel
theorem dX1_partsBeside_59 : decode cX1_partsBeside 59 = .ok (.iload_n 1, 1) := by decide +kernel
theorem dX1_partsBeside_60 : decode cX1_partsBeside 60 = .ok (.invokevirtual 142, 3) := by decide +kernel
theorem dX1_partsBeside_63 : decode cX1_partsBeside 63 = .ok (.goto 11, 3) := by decide +kernel
theorem dX1_partsBeside_66 : decode cX1_partsBeside 66 = .ok (.aload_n 0, 1) := by decide +kernel
theorem dX1_partsBeside_67 : decode cX1_partsBeside 67 = .ok (.iload_n 2, 1) := by decide +kernel
theorem dX1_partsBeside_68 : decode cX1_partsBeside 68 = .ok (.iload_n 1, 1) := by decide +kernel
theorem dX1_partsBeside_69 : decode cX1_partsBeside 69 = .ok (.iload 6, 2) := by decide +kernel
theorem dX1_partsBeside_71 : decode cX1_partsBeside 71 = .ok (.invokevirtual 142, 3) := by decide +kernel
theorem dX1_partsBeside_74 : decode cX1_partsBeside 74 = .ok (.i2l, 1) := by decide +kernel
theorem dX1_partsBeside_75 : decode cX1_partsBeside 75 = .ok (.lmul, 1) := by decide +kernel
theorem dX1_partsBeside_76 : decode cX1_partsBeside 76 = .ok (.ladd, 1) := by decide +kernel
theorem dX1_partsBeside_77 : decode cX1_partsBeside 77 = .ok (.lstore 4, 2) := by decide +kernel
theorem dX1_partsBeside_79 : decode cX1_partsBeside 79 = .ok (.iinc 6 1, 3) := by decide +kernel
theorem dX1_partsBeside_82 : decode cX1_partsBeside 82 = .ok (.goto (-47), 3) := by decide +kernel
theorem dX1_partsBeside_85 : decode cX1_partsBeside 85 = .ok (.lload 4, 2) := by decide +kernel
theorem dX1_partsBeside_87 : decode cX1_partsBeside 87 = .ok (.lreturn, 1) := by decide +kernel
theorem dX1_joint_0 : decode cX1_joint 0 = .ok (.iload_n 1, 1) := by decide +kernel
theorem dX1_joint_1 : decode cX1_joint 1 = .ok (.iconst 1, 1) := by decide +kernel
theorem dX1_joint_2 : decode cX1_joint 2 = .ok (.iadd, 1) := by decide +kernel
theorem dX1_joint_3 : decode cX1_joint 3 = .ok (.bipush 8, 2) := by decide +kernel
theorem dX1_joint_5 : decode cX1_joint 5 = .ok (.if_icmp .ge 42, 3) := by decide +kernel
theorem dX1_joint_8 : decode cX1_joint 8 = .ok (.aload_n 0, 1) := by decide +kernel
theorem dX1_joint_9 : decode cX1_joint 9 = .ok (.getfield 29, 3) := by decide +kernel
theorem dX1_joint_12 : decode cX1_joint 12 = .ok (.iload_n 1, 1) := by decide +kernel
theorem dX1_joint_13 : decode cX1_joint 13 = .ok (.iaload, 1) := by decide +kernel
theorem dX1_joint_14 : decode cX1_joint 14 = .ok (.ifCond .eq 33, 3) := by decide +kernel
theorem dX1_joint_17 : decode cX1_joint 17 = .ok (.aload_n 0, 1) := by decide +kernel
theorem dX1_joint_18 : decode cX1_joint 18 = .ok (.getfield 20, 3) := by decide +kernel
theorem dX1_joint_21 : decode cX1_joint 21 = .ok (.iload_n 1, 1) := by decide +kernel
theorem dX1_joint_22 : decode cX1_joint 22 = .ok (.iconst 1, 1) := by decide +kernel
theorem dX1_joint_23 : decode cX1_joint 23 = .ok (.iadd, 1) := by decide +kernel
theorem dX1_joint_24 : decode cX1_joint 24 = .ok (.aaload, 1) := by decide +kernel
theorem dX1_joint_25 : decode cX1_joint 25 = .ok (.iload_n 3, 1) := by decide +kernel
theorem dX1_joint_26 : decode cX1_joint 26 = .ok (.iaload, 1) := by decide +kernel
theorem dX1_joint_27 : decode cX1_joint 27 = .ok (.aload_n 0, 1) := by decide +kernel
theorem dX1_joint_28 : decode cX1_joint 28 = .ok (.getfield 20, 3) := by decide +kernel
theorem dX1_joint_31 : decode cX1_joint 31 = .ok (.iload_n 1, 1) := by decide +kernel
theorem dX1_joint_32 : decode cX1_joint 32 = .ok (.aaload, 1) := by decide +kernel
theorem dX1_joint_33 : decode cX1_joint 33 = .ok (.iload_n 2, 1) := by decide +kernel
theorem dX1_joint_34 : decode cX1_joint 34 = .ok (.iaload, 1) := by decide +kernel
theorem dX1_joint_35 : decode cX1_joint 35 = .ok (.isub, 1) := by decide +kernel
theorem dX1_joint_36 : decode cX1_joint 36 = .ok (.aload_n 0, 1) := by decide +kernel
theorem dX1_joint_37 : decode cX1_joint 37 = .ok (.getfield 29, 3) := by decide +kernel
theorem dX1_joint_40 : decode cX1_joint 40 = .ok (.iload_n 1, 1) := by decide +kernel
theorem dX1_joint_41 : decode cX1_joint 41 = .ok (.iaload, 1) := by decide +kernel
theorem dX1_joint_42 : decode cX1_joint 42 = .ok (.if_icmp .ge 5, 3) := by decide +kernel
theorem dX1_joint_45 : decode cX1_joint 45 = .ok (.iconst 0, 1) := by decide +kernel
theorem dX1_joint_46 : decode cX1_joint 46 = .ok (.ireturn, 1) := by decide +kernel
theorem dX1_joint_47 : decode cX1_joint 47 = .ok (.iload_n 2, 1) := by decide +kernel
theorem dX1_joint_48 : decode cX1_joint 48 = .ok (.iload_n 3, 1) := by decide +kernel
theorem dX1_joint_49 : decode cX1_joint 49 = .ok (.if_icmp .ne 10, 3) := by decide +kernel
theorem dX1_joint_52 : decode cX1_joint 52 = .ok (.aload_n 0, 1) := by decide +kernel
theorem dX1_joint_53 : decode cX1_joint 53 = .ok (.getfield 55, 3) := by decide +kernel
theorem dX1_joint_56 : decode cX1_joint 56 = .ok (.goto 4, 3) := by decide +kernel
theorem dX1_joint_59 : decode cX1_joint 59 = .ok (.iconst 1, 1) := by decide +kernel
theorem dX1_joint_60 : decode cX1_joint 60 = .ok (.ireturn, 1) := by decide +kernel
theorem dX1_weightOf_0 : decode cX1_weightOf 0 = .ok (.aload_n 0, 1) := by decide +kernel
theorem dX1_weightOf_1 : decode cX1_weightOf 1 = .ok (.getfield 17, 3) := by decide +kernel
theorem dX1_weightOf_4 : decode cX1_weightOf 4 = .ok (.iload_n 1, 1) := by decide +kernel
theorem dX1_weightOf_5 : decode cX1_weightOf 5 = .ok (.aaload, 1) := by decide +kernel
theorem dX1_weightOf_6 : decode cX1_weightOf 6 = .ok (.iload_n 2, 1) := by decide +kernel
theorem dX1_weightOf_7 : decode cX1_weightOf 7 = .ok (.iaload, 1) := by decide +kernel
theorem dX1_weightOf_8 : decode cX1_weightOf 8 = .ok (.ifCond .eq 5, 3) := by decide +kernel
theorem dX1_weightOf_11 : decode cX1_weightOf 11 = .ok (.lconst 0, 1) := by decide +kernel
theorem dX1_weightOf_12 : decode cX1_weightOf 12 = .ok (.lreturn, 1) := by decide +kernel
theorem dX1_weightOf_13 : decode cX1_weightOf 13 = .ok (.aload_n 0, 1) := by decide +kernel
theorem dX1_weightOf_14 : decode cX1_weightOf 14 = .ok (.getfield 34, 3) := by decide +kernel
theorem dX1_weightOf_17 : decode cX1_weightOf 17 = .ok (.iload_n 1, 1) := by decide +kernel
theorem dX1_weightOf_18 : decode cX1_weightOf 18 = .ok (.aaload, 1) := by decide +kernel
theorem dX1_weightOf_19 : decode cX1_weightOf 19 = .ok (.iload_n 2, 1) := by decide +kernel
theorem dX1_weightOf_20 : decode cX1_weightOf 20 = .ok (.laload, 1) := by decide +kernel
theorem dX1_weightOf_21 : decode cX1_weightOf 21 = .ok (.aload_n 0, 1) := by decide +kernel
theorem dX1_weightOf_22 : decode cX1_weightOf 22 = .ok (.getfield 9, 3) := by decide +kernel
theorem dX1_weightOf_25 : decode cX1_weightOf 25 = .ok (.iload_n 2, 1) := by decide +kernel
theorem dX1_weightOf_26 : decode cX1_weightOf 26 = .ok (.iaload, 1) := by decide +kernel
theorem dX1_weightOf_27 : decode cX1_weightOf 27 = .ok (.i2l, 1) := by decide +kernel
theorem dX1_weightOf_28 : decode cX1_weightOf 28 = .ok (.lmul, 1) := by decide +kernel
theorem dX1_weightOf_29 : decode cX1_weightOf 29 = .ok (.aload_n 0, 1) := by decide +kernel
theorem dX1_weightOf_30 : decode cX1_weightOf 30 = .ok (.getfield 37, 3) := by decide +kernel
theorem dX1_weightOf_33 : decode cX1_weightOf 33 = .ok (.iload_n 1, 1) := by decide +kernel
theorem dX1_weightOf_34 : decode cX1_weightOf 34 = .ok (.aaload, 1) := by decide +kernel
theorem dX1_weightOf_35 : decode cX1_weightOf 35 = .ok (.iload_n 2, 1) := by decide +kernel
theorem dX1_weightOf_36 : decode cX1_weightOf 36 = .ok (.laload, 1) := by decide +kernel
theorem dX1_weightOf_37 : decode cX1_weightOf 37 = .ok (.lmul, 1) := by decide +kernel
theorem dX1_weightOf_38 : decode cX1_weightOf 38 = .ok (.lreturn, 1) := by decide +kernel
theorem dX1_likeliestAt_0 : decode cX1_likeliestAt 0 = .ok (.aload_n 0, 1) := by decide +kernel
theorem dX1_likeliestAt_1 : decode cX1_likeliestAt 1 = .ok (.invokevirtual 146, 3) := by decide +kernel
theorem dX1_likeliestAt_4 : decode cX1_likeliestAt 4 = .ok (.iconst (-1), 1) := by decide +kernel
theorem dX1_likeliestAt_5 : decode cX1_likeliestAt 5 = .ok (.istore_n 2, 1) := by decide +kernel
theorem dX1_likeliestAt_6 : decode cX1_likeliestAt 6 = .ok (.iconst 0, 1) := by decide +kernel
theorem dX1_likeliestAt_7 : decode cX1_likeliestAt 7 = .ok (.istore_n 3, 1) := by decide +kernel
theorem dX1_likeliestAt_8 : decode cX1_likeliestAt 8 = .ok (.iload_n 3, 1) := by decide +kernel
theorem dX1_likeliestAt_9 : decode cX1_likeliestAt 9 = .ok (.iload_n 1, 1) := by decide +kernel
theorem dX1_likeliestAt_10 : decode cX1_likeliestAt 10 = .ok (.if_icmp .gt 22, 3) := by decide +kernel
theorem dX1_likeliestAt_13 : decode cX1_likeliestAt 13 = .ok (.iload_n 3, 1) := by decide +kernel
theorem dX1_likeliestAt_14 : decode cX1_likeliestAt 14 = .ok (.bipush 8, 2) := by decide +kernel
theorem dX1_likeliestAt_16 : decode cX1_likeliestAt 16 = .ok (.if_icmp .ge 16, 3) := by decide +kernel
theorem dX1_likeliestAt_19 : decode cX1_likeliestAt 19 = .ok (.aload_n 0, 1) := by decide +kernel
theorem dX1_likeliestAt_20 : decode cX1_likeliestAt 20 = .ok (.iload_n 3, 1) := by decide +kernel
theorem dX1_likeliestAt_21 : decode cX1_likeliestAt 21 = .ok (.iload_n 2, 1) := by decide +kernel
theorem dX1_likeliestAt_22 : decode cX1_likeliestAt 22 = .ok (.invokevirtual 149, 3) := by decide +kernel
theorem dX1_likeliestAt_25 : decode cX1_likeliestAt 25 = .ok (.istore_n 2, 1) := by decide +kernel
theorem dX1_likeliestAt_26 : decode cX1_likeliestAt 26 = .ok (.iinc 3 1, 3) := by decide +kernel
theorem dX1_likeliestAt_29 : decode cX1_likeliestAt 29 = .ok (.goto (-21), 3) := by decide +kernel
theorem dX1_likeliestAt_32 : decode cX1_likeliestAt 32 = .ok (.iload_n 2, 1) := by decide +kernel
theorem dX1_likeliestAt_33 : decode cX1_likeliestAt 33 = .ok (.ireturn, 1) := by decide +kernel
theorem dX1_reckonMost_0 : decode cX1_reckonMost 0 = .ok (.bipush 7, 2) := by decide +kernel
theorem dX1_reckonMost_2 : decode cX1_reckonMost 2 = .ok (.istore_n 1, 1) := by decide +kernel
theorem dX1_reckonMost_3 : decode cX1_reckonMost 3 = .ok (.iload_n 1, 1) := by decide +kernel
theorem dX1_reckonMost_4 : decode cX1_reckonMost 4 = .ok (.ifCond .lt 82, 3) := by decide +kernel
theorem dX1_reckonMost_7 : decode cX1_reckonMost 7 = .ok (.iconst 0, 1) := by decide +kernel
theorem dX1_reckonMost_8 : decode cX1_reckonMost 8 = .ok (.istore_n 2, 1) := by decide +kernel
theorem dX1_reckonMost_9 : decode cX1_reckonMost 9 = .ok (.iload_n 2, 1) := by decide +kernel
theorem dX1_reckonMost_10 : decode cX1_reckonMost 10 = .ok (.bipush 21, 2) := by decide +kernel
theorem dX1_reckonMost_12 : decode cX1_reckonMost 12 = .ok (.if_icmp .ge 68, 3) := by decide +kernel
theorem dX1_reckonMost_15 : decode cX1_reckonMost 15 = .ok (.iload_n 1, 1) := by decide +kernel
theorem dX1_reckonMost_16 : decode cX1_reckonMost 16 = .ok (.bipush 7, 2) := by decide +kernel
theorem dX1_reckonMost_18 : decode cX1_reckonMost 18 = .ok (.if_icmp .ne 7, 3) := by decide +kernel
theorem dX1_reckonMost_21 : decode cX1_reckonMost 21 = .ok (.lconst 1, 1) := by decide +kernel
theorem dX1_reckonMost_22 : decode cX1_reckonMost 22 = .ok (.goto 19, 3) := by decide +kernel
theorem dX1_reckonMost_25 : decode cX1_reckonMost 25 = .ok (.aload_n 0, 1) := by decide +kernel
theorem dX1_reckonMost_26 : decode cX1_reckonMost 26 = .ok (.iload_n 1, 1) := by decide +kernel
theorem dX1_reckonMost_27 : decode cX1_reckonMost 27 = .ok (.iconst 1, 1) := by decide +kernel
theorem dX1_reckonMost_28 : decode cX1_reckonMost 28 = .ok (.iadd, 1) := by decide +kernel
theorem dX1_reckonMost_29 : decode cX1_reckonMost 29 = .ok (.aload_n 0, 1) := by decide +kernel
theorem dX1_reckonMost_30 : decode cX1_reckonMost 30 = .ok (.iload_n 1, 1) := by decide +kernel
theorem dX1_reckonMost_31 : decode cX1_reckonMost 31 = .ok (.iconst 1, 1) := by decide +kernel
theorem dX1_reckonMost_32 : decode cX1_reckonMost 32 = .ok (.iadd, 1) := by decide +kernel
theorem dX1_reckonMost_33 : decode cX1_reckonMost 33 = .ok (.iload_n 2, 1) := by decide +kernel
theorem dX1_reckonMost_34 : decode cX1_reckonMost 34 = .ok (.invokevirtual 149, 3) := by decide +kernel
theorem dX1_reckonMost_37 : decode cX1_reckonMost 37 = .ok (.iload_n 2, 1) := by decide +kernel
theorem dX1_reckonMost_38 : decode cX1_reckonMost 38 = .ok (.invokevirtual 152, 3) := by decide +kernel
theorem dX1_reckonMost_41 : decode cX1_reckonMost 41 = .ok (.lstore_n 3, 1) := by decide +kernel
theorem dX1_reckonMost_42 : decode cX1_reckonMost 42 = .ok (.aload_n 0, 1) := by decide +kernel
theorem dX1_reckonMost_43 : decode cX1_reckonMost 43 = .ok (.getfield 40, 3) := by decide +kernel
theorem dX1_reckonMost_46 : decode cX1_reckonMost 46 = .ok (.iload_n 1, 1) := by decide +kernel
theorem dX1_reckonMost_47 : decode cX1_reckonMost 47 = .ok (.aaload, 1) := by decide +kernel
theorem dX1_reckonMost_48 : decode cX1_reckonMost 48 = .ok (.iload_n 2, 1) := by decide +kernel
theorem dX1_reckonMost_49 : decode cX1_reckonMost 49 = .ok (.aload_n 0, 1) := by decide +kernel
theorem dX1_reckonMost_50 : decode cX1_reckonMost 50 = .ok (.getfield 17, 3) := by decide +kernel
theorem dX1_reckonMost_53 : decode cX1_reckonMost 53 = .ok (.iload_n 1, 1) := by decide +kernel
theorem dX1_reckonMost_54 : decode cX1_reckonMost 54 = .ok (.aaload, 1) := by decide +kernel
theorem dX1_reckonMost_55 : decode cX1_reckonMost 55 = .ok (.iload_n 2, 1) := by decide +kernel
theorem dX1_reckonMost_56 : decode cX1_reckonMost 56 = .ok (.iaload, 1) := by decide +kernel
theorem dX1_reckonMost_57 : decode cX1_reckonMost 57 = .ok (.ifCond .ne 15, 3) := by decide +kernel
theorem dX1_reckonMost_60 : decode cX1_reckonMost 60 = .ok (.aload_n 0, 1) := by decide +kernel
theorem dX1_reckonMost_61 : decode cX1_reckonMost 61 = .ok (.getfield 9, 3) := by decide +kernel
theorem dX1_reckonMost_64 : decode cX1_reckonMost 64 = .ok (.iload_n 2, 1) := by decide +kernel
theorem dX1_reckonMost_65 : decode cX1_reckonMost 65 = .ok (.iaload, 1) := by decide +kernel
theorem dX1_reckonMost_66 : decode cX1_reckonMost 66 = .ok (.i2l, 1) := by decide +kernel
theorem dX1_reckonMost_67 : decode cX1_reckonMost 67 = .ok (.lload_n 3, 1) := by decide +kernel
theorem dX1_reckonMost_68 : decode cX1_reckonMost 68 = .ok (.lmul, 1) := by decide +kernel
theorem dX1_reckonMost_69 : decode cX1_reckonMost 69 = .ok (.goto 4, 3) := by decide +kernel
theorem dX1_reckonMost_72 : decode cX1_reckonMost 72 = .ok (.lconst 0, 1) := by decide +kernel
theorem dX1_reckonMost_73 : decode cX1_reckonMost 73 = .ok (.lastore, 1) := by decide +kernel
theorem dX1_reckonMost_74 : decode cX1_reckonMost 74 = .ok (.iinc 2 1, 3) := by decide +kernel
theorem dX1_reckonMost_77 : decode cX1_reckonMost 77 = .ok (.goto (-68), 3) := by decide +kernel
theorem dX1_reckonMost_80 : decode cX1_reckonMost 80 = .ok (.iinc 1 (-1), 3) := by decide +kernel
theorem dX1_reckonMost_83 : decode cX1_reckonMost 83 = .ok (.goto (-80), 3) := by decide +kernel
theorem dX1_reckonMost_86 : decode cX1_reckonMost 86 = .ok (.return_, 1) := by decide +kernel
theorem dX1_bestNext_0 : decode cX1_bestNext 0 = .ok (.iconst 0, 1) := by decide +kernel
theorem dX1_bestNext_1 : decode cX1_bestNext 1 = .ok (.istore_n 3, 1) := by decide +kernel
theorem dX1_bestNext_2 : decode cX1_bestNext 2 = .ok (.iconst 1, 1) := by decide +kernel
theorem dX1_bestNext_3 : decode cX1_bestNext 3 = .ok (.istore 4, 2) := by decide +kernel
theorem dX1_bestNext_5 : decode cX1_bestNext 5 = .ok (.iload 4, 2) := by decide +kernel
theorem dX1_bestNext_7 : decode cX1_bestNext 7 = .ok (.bipush 21, 2) := by decide +kernel
theorem dX1_bestNext_9 : decode cX1_bestNext 9 = .ok (.if_icmp .ge 31, 3) := by decide +kernel
theorem dX1_bestNext_12 : decode cX1_bestNext 12 = .ok (.aload_n 0, 1) := by decide +kernel
theorem dX1_bestNext_13 : decode cX1_bestNext 13 = .ok (.iload_n 1, 1) := by decide +kernel
theorem dX1_bestNext_14 : decode cX1_bestNext 14 = .ok (.iload 4, 2) := by decide +kernel
theorem dX1_bestNext_16 : decode cX1_bestNext 16 = .ok (.iload_n 2, 1) := by decide +kernel
theorem dX1_bestNext_17 : decode cX1_bestNext 17 = .ok (.invokevirtual 152, 3) := by decide +kernel
theorem dX1_bestNext_20 : decode cX1_bestNext 20 = .ok (.aload_n 0, 1) := by decide +kernel
theorem dX1_bestNext_21 : decode cX1_bestNext 21 = .ok (.iload_n 1, 1) := by decide +kernel
theorem dX1_bestNext_22 : decode cX1_bestNext 22 = .ok (.iload_n 3, 1) := by decide +kernel
theorem dX1_bestNext_23 : decode cX1_bestNext 23 = .ok (.iload_n 2, 1) := by decide +kernel
theorem dX1_bestNext_24 : decode cX1_bestNext 24 = .ok (.invokevirtual 152, 3) := by decide +kernel
theorem dX1_bestNext_27 : decode cX1_bestNext 27 = .ok (.lcmp, 1) := by decide +kernel
theorem dX1_bestNext_28 : decode cX1_bestNext 28 = .ok (.ifCond .le 6, 3) := by decide +kernel
theorem dX1_bestNext_31 : decode cX1_bestNext 31 = .ok (.iload 4, 2) := by decide +kernel
theorem dX1_bestNext_33 : decode cX1_bestNext 33 = .ok (.istore_n 3, 1) := by decide +kernel
theorem dX1_bestNext_34 : decode cX1_bestNext 34 = .ok (.iinc 4 1, 3) := by decide +kernel
theorem dX1_bestNext_37 : decode cX1_bestNext 37 = .ok (.goto (-32), 3) := by decide +kernel
theorem dX1_bestNext_40 : decode cX1_bestNext 40 = .ok (.iload_n 3, 1) := by decide +kernel
theorem dX1_bestNext_41 : decode cX1_bestNext 41 = .ok (.ireturn, 1) := by decide +kernel
theorem dX1_mostNext_0 : decode cX1_mostNext 0 = .ok (.iload_n 1, 1) := by decide +kernel
theorem dX1_mostNext_1 : decode cX1_mostNext 1 = .ok (.ifCond .eq 8, 3) := by decide +kernel
theorem dX1_mostNext_4 : decode cX1_mostNext 4 = .ok (.iload_n 3, 1) := by decide +kernel
theorem dX1_mostNext_5 : decode cX1_mostNext 5 = .ok (.iconst (-1), 1) := by decide +kernel
theorem dX1_mostNext_6 : decode cX1_mostNext 6 = .ok (.if_icmp .ne 12, 3) := by decide +kernel
theorem dX1_mostNext_9 : decode cX1_mostNext 9 = .ok (.aload_n 0, 1) := by decide +kernel
theorem dX1_mostNext_10 : decode cX1_mostNext 10 = .ok (.getfield 40, 3) := by decide +kernel
theorem dX1_mostNext_13 : decode cX1_mostNext 13 = .ok (.iload_n 1, 1) := by decide +kernel
theorem dX1_mostNext_14 : decode cX1_mostNext 14 = .ok (.aaload, 1) := by decide +kernel
theorem dX1_mostNext_15 : decode cX1_mostNext 15 = .ok (.iload_n 2, 1) := by decide +kernel
theorem dX1_mostNext_16 : decode cX1_mostNext 16 = .ok (.laload, 1) := by decide +kernel
theorem dX1_mostNext_17 : decode cX1_mostNext 17 = .ok (.lreturn, 1) := by decide +kernel
theorem dX1_mostNext_18 : decode cX1_mostNext 18 = .ok (.aload_n 0, 1) := by decide +kernel
theorem dX1_mostNext_19 : decode cX1_mostNext 19 = .ok (.getfield 40, 3) := by decide +kernel
theorem dX1_mostNext_22 : decode cX1_mostNext 22 = .ok (.iload_n 1, 1) := by decide +kernel
theorem dX1_mostNext_23 : decode cX1_mostNext 23 = .ok (.aaload, 1) := by decide +kernel
theorem dX1_mostNext_24 : decode cX1_mostNext 24 = .ok (.iload_n 2, 1) := by decide +kernel
theorem dX1_mostNext_25 : decode cX1_mostNext 25 = .ok (.laload, 1) := by decide +kernel
theorem dX1_mostNext_26 : decode cX1_mostNext 26 = .ok (.aload_n 0, 1) := by decide +kernel
theorem dX1_mostNext_27 : decode cX1_mostNext 27 = .ok (.iload_n 1, 1) := by decide +kernel
theorem dX1_mostNext_28 : decode cX1_mostNext 28 = .ok (.iconst 1, 1) := by decide +kernel
theorem dX1_mostNext_29 : decode cX1_mostNext 29 = .ok (.isub, 1) := by decide +kernel
theorem dX1_mostNext_30 : decode cX1_mostNext 30 = .ok (.iload_n 3, 1) := by decide +kernel
theorem dX1_mostNext_31 : decode cX1_mostNext 31 = .ok (.iload_n 2, 1) := by decide +kernel
theorem dX1_mostNext_32 : decode cX1_mostNext 32 = .ok (.invokevirtual 142, 3) := by decide +kernel
theorem dX1_mostNext_35 : decode cX1_mostNext 35 = .ok (.i2l, 1) := by decide +kernel
theorem dX1_mostNext_36 : decode cX1_mostNext 36 = .ok (.lmul, 1) := by decide +kernel
theorem dX1_mostNext_37 : decode cX1_mostNext 37 = .ok (.lreturn, 1) := by decide +kernel
theorem dX1_seekHalf_0 : decode cX1_seekHalf 0 = .ok (.aload_n 0, 1) := by decide +kernel
theorem dX1_seekHalf_1 : decode cX1_seekHalf 1 = .ok (.iconst (-1), 1) := by decide +kernel
theorem dX1_seekHalf_2 : decode cX1_seekHalf 2 = .ok (.putfield 156, 3) := by decide +kernel
theorem dX1_seekHalf_5 : decode cX1_seekHalf 5 = .ok (.iconst 0, 1) := by decide +kernel
theorem dX1_seekHalf_6 : decode cX1_seekHalf 6 = .ok (.istore_n 2, 1) := by decide +kernel
theorem dX1_seekHalf_7 : decode cX1_seekHalf 7 = .ok (.iload_n 2, 1) := by decide +kernel
theorem dX1_seekHalf_8 : decode cX1_seekHalf 8 = .ok (.bipush 8, 2) := by decide +kernel
theorem dX1_seekHalf_10 : decode cX1_seekHalf 10 = .ok (.if_icmp .ge 106, 3) := by decide +kernel
theorem dX1_seekHalf_13 : decode cX1_seekHalf 13 = .ok (.aload_n 0, 1) := by decide +kernel
theorem dX1_seekHalf_14 : decode cX1_seekHalf 14 = .ok (.aload_n 1, 1) := by decide +kernel
theorem dX1_seekHalf_15 : decode cX1_seekHalf 15 = .ok (.iload_n 2, 1) := by decide +kernel
theorem dX1_seekHalf_16 : decode cX1_seekHalf 16 = .ok (.invokevirtual 159, 3) := by decide +kernel
theorem dX1_seekHalf_19 : decode cX1_seekHalf 19 = .ok (.iconst 0, 1) := by decide +kernel
theorem dX1_seekHalf_20 : decode cX1_seekHalf 20 = .ok (.istore_n 3, 1) := by decide +kernel
theorem dX1_seekHalf_21 : decode cX1_seekHalf 21 = .ok (.iload_n 3, 1) := by decide +kernel
theorem dX1_seekHalf_22 : decode cX1_seekHalf 22 = .ok (.iconst 4, 1) := by decide +kernel
theorem dX1_seekHalf_23 : decode cX1_seekHalf 23 = .ok (.if_icmp .ge 87, 3) := by decide +kernel
theorem dX1_seekHalf_26 : decode cX1_seekHalf 26 = .ok (.aload_n 0, 1) := by decide +kernel
theorem dX1_seekHalf_27 : decode cX1_seekHalf 27 = .ok (.getfield 47, 3) := by decide +kernel
theorem dX1_seekHalf_30 : decode cX1_seekHalf 30 = .ok (.iload_n 3, 1) := by decide +kernel
theorem dX1_seekHalf_31 : decode cX1_seekHalf 31 = .ok (.laload, 1) := by decide +kernel
theorem dX1_seekHalf_32 : decode cX1_seekHalf 32 = .ok (.lstore 4, 2) := by decide +kernel
theorem dX1_seekHalf_34 : decode cX1_seekHalf 34 = .ok (.aload_n 0, 1) := by decide +kernel
theorem dX1_seekHalf_35 : decode cX1_seekHalf 35 = .ok (.getfield 139, 3) := by decide +kernel
theorem dX1_seekHalf_38 : decode cX1_seekHalf 38 = .ok (.lload 4, 2) := by decide +kernel
theorem dX1_seekHalf_40 : decode cX1_seekHalf 40 = .ok (.lsub, 1) := by decide +kernel
theorem dX1_seekHalf_41 : decode cX1_seekHalf 41 = .ok (.lstore 6, 2) := by decide +kernel
theorem dX1_seekHalf_43 : decode cX1_seekHalf 43 = .ok (.lload 4, 2) := by decide +kernel
theorem dX1_seekHalf_45 : decode cX1_seekHalf 45 = .ok (.lload 6, 2) := by decide +kernel
theorem dX1_seekHalf_47 : decode cX1_seekHalf 47 = .ok (.invokestatic 163, 3) := by decide +kernel
theorem dX1_seekHalf_50 : decode cX1_seekHalf 50 = .ok (.ifCond .eq 11, 3) := by decide +kernel
theorem dX1_seekHalf_53 : decode cX1_seekHalf 53 = .ok (.lload 6, 2) := by decide +kernel
theorem dX1_seekHalf_55 : decode cX1_seekHalf 55 = .ok (.lload 4, 2) := by decide +kernel
theorem dX1_seekHalf_57 : decode cX1_seekHalf 57 = .ok (.lsub, 1) := by decide +kernel
theorem dX1_seekHalf_58 : decode cX1_seekHalf 58 = .ok (.goto 8, 3) := by decide +kernel
theorem dX1_seekHalf_61 : decode cX1_seekHalf 61 = .ok (.lload 4, 2) := by decide +kernel
theorem dX1_seekHalf_63 : decode cX1_seekHalf 63 = .ok (.lload 6, 2) := by decide +kernel
theorem dX1_seekHalf_65 : decode cX1_seekHalf 65 = .ok (.lsub, 1) := by decide +kernel
theorem dX1_seekHalf_66 : decode cX1_seekHalf 66 = .ok (.lstore 8, 2) := by decide +kernel
theorem dX1_seekHalf_68 : decode cX1_seekHalf 68 = .ok (.aload_n 0, 1) := by decide +kernel
theorem dX1_seekHalf_69 : decode cX1_seekHalf 69 = .ok (.getfield 156, 3) := by decide +kernel
theorem dX1_seekHalf_72 : decode cX1_seekHalf 72 = .ok (.iconst (-1), 1) := by decide +kernel
theorem dX1_seekHalf_73 : decode cX1_seekHalf 73 = .ok (.if_icmp .eq 15, 3) := by decide +kernel
theorem dX1_seekHalf_76 : decode cX1_seekHalf 76 = .ok (.lload 8, 2) := by decide +kernel
theorem dX1_seekHalf_78 : decode cX1_seekHalf 78 = .ok (.aload_n 0, 1) := by decide +kernel
theorem dX1_seekHalf_79 : decode cX1_seekHalf 79 = .ok (.getfield 167, 3) := by decide +kernel
theorem dX1_seekHalf_82 : decode cX1_seekHalf 82 = .ok (.invokestatic 163, 3) := by decide +kernel
theorem dX1_seekHalf_85 : decode cX1_seekHalf 85 = .ok (.ifCond .eq 19, 3) := by decide +kernel
theorem dX1_seekHalf_88 : decode cX1_seekHalf 88 = .ok (.aload_n 0, 1) := by decide +kernel
theorem dX1_seekHalf_89 : decode cX1_seekHalf 89 = .ok (.bipush 10, 2) := by decide +kernel
theorem dX1_seekHalf_91 : decode cX1_seekHalf 91 = .ok (.iload_n 2, 1) := by decide +kernel
theorem dX1_seekHalf_92 : decode cX1_seekHalf 92 = .ok (.imul, 1) := by decide +kernel
theorem dX1_seekHalf_93 : decode cX1_seekHalf 93 = .ok (.iload_n 3, 1) := by decide +kernel
theorem dX1_seekHalf_94 : decode cX1_seekHalf 94 = .ok (.iadd, 1) := by decide +kernel
theorem dX1_seekHalf_95 : decode cX1_seekHalf 95 = .ok (.putfield 156, 3) := by decide +kernel
theorem dX1_seekHalf_98 : decode cX1_seekHalf 98 = .ok (.aload_n 0, 1) := by decide +kernel
theorem dX1_seekHalf_99 : decode cX1_seekHalf 99 = .ok (.lload 8, 2) := by decide +kernel
theorem dX1_seekHalf_101 : decode cX1_seekHalf 101 = .ok (.putfield 167, 3) := by decide +kernel
theorem dX1_seekHalf_104 : decode cX1_seekHalf 104 = .ok (.iinc 3 1, 3) := by decide +kernel
theorem dX1_seekHalf_107 : decode cX1_seekHalf 107 = .ok (.goto (-86), 3) := by decide +kernel
theorem dX1_seekHalf_110 : decode cX1_seekHalf 110 = .ok (.iinc 2 1, 3) := by decide +kernel
theorem dX1_seekHalf_113 : decode cX1_seekHalf 113 = .ok (.goto (-106), 3) := by decide +kernel
theorem dX1_seekHalf_116 : decode cX1_seekHalf 116 = .ok (.return_, 1) := by decide +kernel
theorem dX1_weighLamps_0 : decode cX1_weighLamps 0 = .ok (.iconst 0, 1) := by decide +kernel
theorem dX1_weighLamps_1 : decode cX1_weighLamps 1 = .ok (.istore_n 3, 1) := by decide +kernel
theorem dX1_weighLamps_2 : decode cX1_weighLamps 2 = .ok (.iload_n 3, 1) := by decide +kernel
theorem dX1_weighLamps_3 : decode cX1_weighLamps 3 = .ok (.iconst 4, 1) := by decide +kernel
theorem dX1_weighLamps_4 : decode cX1_weighLamps 4 = .ok (.if_icmp .ge 16, 3) := by decide +kernel
theorem dX1_weighLamps_7 : decode cX1_weighLamps 7 = .ok (.aload_n 0, 1) := by decide +kernel
theorem dX1_weighLamps_8 : decode cX1_weighLamps 8 = .ok (.getfield 47, 3) := by decide +kernel
theorem dX1_weighLamps_11 : decode cX1_weighLamps 11 = .ok (.iload_n 3, 1) := by decide +kernel
theorem dX1_weighLamps_12 : decode cX1_weighLamps 12 = .ok (.lconst 0, 1) := by decide +kernel
theorem dX1_weighLamps_13 : decode cX1_weighLamps 13 = .ok (.lastore, 1) := by decide +kernel
theorem dX1_weighLamps_14 : decode cX1_weighLamps 14 = .ok (.iinc 3 1, 3) := by decide +kernel
theorem dX1_weighLamps_17 : decode cX1_weighLamps 17 = .ok (.goto (-15), 3) := by decide +kernel
theorem dX1_weighLamps_20 : decode cX1_weighLamps 20 = .ok (.iconst 0, 1) := by decide +kernel
theorem dX1_weighLamps_21 : decode cX1_weighLamps 21 = .ok (.istore_n 3, 1) := by decide +kernel
theorem dX1_weighLamps_22 : decode cX1_weighLamps 22 = .ok (.iload_n 3, 1) := by decide +kernel
theorem dX1_weighLamps_23 : decode cX1_weighLamps 23 = .ok (.bipush 21, 2) := by decide +kernel
theorem dX1_weighLamps_25 : decode cX1_weighLamps 25 = .ok (.if_icmp .ge 66, 3) := by decide +kernel
theorem dX1_weighLamps_28 : decode cX1_weighLamps 28 = .ok (.aload_n 0, 1) := by decide +kernel
theorem dX1_weighLamps_29 : decode cX1_weighLamps 29 = .ok (.iload_n 2, 1) := by decide +kernel
theorem dX1_weighLamps_30 : decode cX1_weighLamps 30 = .ok (.iload_n 3, 1) := by decide +kernel
theorem dX1_weighLamps_31 : decode cX1_weighLamps 31 = .ok (.invokevirtual 170, 3) := by decide +kernel
theorem dX1_weighLamps_34 : decode cX1_weighLamps 34 = .ok (.lstore 4, 2) := by decide +kernel
theorem dX1_weighLamps_36 : decode cX1_weighLamps 36 = .ok (.aload_n 1, 1) := by decide +kernel
theorem dX1_weighLamps_37 : decode cX1_weighLamps 37 = .ok (.getfield 174, 3) := by decide +kernel
theorem dX1_weighLamps_40 : decode cX1_weighLamps 40 = .ok (.iload_n 2, 1) := by decide +kernel
theorem dX1_weighLamps_41 : decode cX1_weighLamps 41 = .ok (.invokestatic 69, 3) := by decide +kernel
theorem dX1_weighLamps_44 : decode cX1_weighLamps 44 = .ok (.aaload, 1) := by decide +kernel
theorem dX1_weighLamps_45 : decode cX1_weighLamps 45 = .ok (.iload_n 3, 1) := by decide +kernel
theorem dX1_weighLamps_46 : decode cX1_weighLamps 46 = .ok (.iaload, 1) := by decide +kernel
theorem dX1_weighLamps_47 : decode cX1_weighLamps 47 = .ok (.istore 6, 2) := by decide +kernel
theorem dX1_weighLamps_49 : decode cX1_weighLamps 49 = .ok (.iconst 0, 1) := by decide +kernel
theorem dX1_weighLamps_50 : decode cX1_weighLamps 50 = .ok (.istore 7, 2) := by decide +kernel
theorem dX1_weighLamps_52 : decode cX1_weighLamps 52 = .ok (.iload 7, 2) := by decide +kernel
theorem dX1_weighLamps_54 : decode cX1_weighLamps 54 = .ok (.iconst 4, 1) := by decide +kernel
theorem dX1_weighLamps_55 : decode cX1_weighLamps 55 = .ok (.if_icmp .ge 30, 3) := by decide +kernel
theorem dX1_weighLamps_58 : decode cX1_weighLamps 58 = .ok (.aload_n 0, 1) := by decide +kernel
theorem dX1_weighLamps_59 : decode cX1_weighLamps 59 = .ok (.getfield 47, 3) := by decide +kernel
theorem dX1_weighLamps_62 : decode cX1_weighLamps 62 = .ok (.iload 7, 2) := by decide +kernel
theorem dX1_weighLamps_64 : decode cX1_weighLamps 64 = .ok (.dup2, 1) := by decide +kernel
theorem dX1_weighLamps_65 : decode cX1_weighLamps 65 = .ok (.laload, 1) := by decide +kernel
theorem dX1_weighLamps_66 : decode cX1_weighLamps 66 = .ok (.iload 6, 2) := by decide +kernel
theorem dX1_weighLamps_68 : decode cX1_weighLamps 68 = .ok (.iload 7, 2) := by decide +kernel
theorem dX1_weighLamps_70 : decode cX1_weighLamps 70 = .ok (.ishr, 1) := by decide +kernel
theorem dX1_weighLamps_71 : decode cX1_weighLamps 71 = .ok (.iconst 1, 1) := by decide +kernel
theorem dX1_weighLamps_72 : decode cX1_weighLamps 72 = .ok (.iand, 1) := by decide +kernel
theorem dX1_weighLamps_73 : decode cX1_weighLamps 73 = .ok (.i2l, 1) := by decide +kernel
theorem dX1_weighLamps_74 : decode cX1_weighLamps 74 = .ok (.lload 4, 2) := by decide +kernel
theorem dX1_weighLamps_76 : decode cX1_weighLamps 76 = .ok (.lmul, 1) := by decide +kernel
theorem dX1_weighLamps_77 : decode cX1_weighLamps 77 = .ok (.ladd, 1) := by decide +kernel
theorem dX1_weighLamps_78 : decode cX1_weighLamps 78 = .ok (.lastore, 1) := by decide +kernel
theorem dX1_weighLamps_79 : decode cX1_weighLamps 79 = .ok (.iinc 7 1, 3) := by decide +kernel
theorem dX1_weighLamps_82 : decode cX1_weighLamps 82 = .ok (.goto (-30), 3) := by decide +kernel
theorem dX1_weighLamps_85 : decode cX1_weighLamps 85 = .ok (.iinc 3 1, 3) := by decide +kernel
theorem dX1_weighLamps_88 : decode cX1_weighLamps 88 = .ok (.goto (-66), 3) := by decide +kernel
theorem dX1_weighLamps_91 : decode cX1_weighLamps 91 = .ok (.return_, 1) := by decide +kernel
theorem dX2_init_0 : decode cX2_init 0 = .ok (.aload_n 0, 1) := by decide +kernel
theorem dX2_init_1 : decode cX2_init 1 = .ok (.invokespecial 3, 3) := by decide +kernel
theorem dX2_init_4 : decode cX2_init 4 = .ok (.aload_n 0, 1) := by decide +kernel
theorem dX2_init_5 : decode cX2_init 5 = .ok (.iconst 4, 1) := by decide +kernel
theorem dX2_init_6 : decode cX2_init 6 = .ok (.newarray .int, 2) := by decide +kernel
theorem dX2_init_8 : decode cX2_init 8 = .ok (.putfield 9, 3) := by decide +kernel
theorem dX2_init_11 : decode cX2_init 11 = .ok (.aload_n 0, 1) := by decide +kernel
theorem dX2_init_12 : decode cX2_init 12 = .ok (.iconst 4, 1) := by decide +kernel
theorem dX2_init_13 : decode cX2_init 13 = .ok (.newarray .int, 2) := by decide +kernel
theorem dX2_init_15 : decode cX2_init 15 = .ok (.putfield 15, 3) := by decide +kernel
theorem dX2_init_18 : decode cX2_init 18 = .ok (.aload_n 0, 1) := by decide +kernel
theorem dX2_init_19 : decode cX2_init 19 = .ok (.iconst 4, 1) := by decide +kernel
theorem dX2_init_20 : decode cX2_init 20 = .ok (.newarray .int, 2) := by decide +kernel
theorem dX2_init_22 : decode cX2_init 22 = .ok (.putfield 18, 3) := by decide +kernel
theorem dX2_init_25 : decode cX2_init 25 = .ok (.aload_n 0, 1) := by decide +kernel
theorem dX2_init_26 : decode cX2_init 26 = .ok (.iconst 4, 1) := by decide +kernel
theorem dX2_init_27 : decode cX2_init 27 = .ok (.newarray .int, 2) := by decide +kernel
theorem dX2_init_29 : decode cX2_init 29 = .ok (.putfield 21, 3) := by decide +kernel
theorem dX2_init_32 : decode cX2_init 32 = .ok (.aload_n 0, 1) := by decide +kernel
theorem dX2_init_33 : decode cX2_init 33 = .ok (.bipush 7, 2) := by decide +kernel
theorem dX2_init_35 : decode cX2_init 35 = .ok (.newarray .int, 2) := by decide +kernel
theorem dX2_init_37 : decode cX2_init 37 = .ok (.putfield 24, 3) := by decide +kernel
theorem dX2_init_40 : decode cX2_init 40 = .ok (.aload_n 0, 1) := by decide +kernel
theorem dX2_init_41 : decode cX2_init 41 = .ok (.bipush 21, 2) := by decide +kernel
theorem dX2_init_43 : decode cX2_init 43 = .ok (.newarray .int, 2) := by decide +kernel
theorem dX2_init_45 : decode cX2_init 45 = .ok (.putfield 27, 3) := by decide +kernel
theorem dX2_init_48 : decode cX2_init 48 = .ok (.aload_n 0, 1) := by decide +kernel
theorem dX2_init_49 : decode cX2_init 49 = .ok (.bipush 20, 2) := by decide +kernel
theorem dX2_init_51 : decode cX2_init 51 = .ok (.newarray .int, 2) := by decide +kernel
theorem dX2_init_53 : decode cX2_init 53 = .ok (.putfield 30, 3) := by decide +kernel
theorem dX2_init_56 : decode cX2_init 56 = .ok (.aload_n 0, 1) := by decide +kernel
theorem dX2_init_57 : decode cX2_init 57 = .ok (.bipush 20, 2) := by decide +kernel
theorem dX2_init_59 : decode cX2_init 59 = .ok (.newarray .int, 2) := by decide +kernel
theorem dX2_init_61 : decode cX2_init 61 = .ok (.putfield 33, 3) := by decide +kernel
theorem dX2_init_64 : decode cX2_init 64 = .ok (.aload_n 0, 1) := by decide +kernel
theorem dX2_init_65 : decode cX2_init 65 = .ok (.bipush 20, 2) := by decide +kernel
theorem dX2_init_67 : decode cX2_init 67 = .ok (.newarray .int, 2) := by decide +kernel
theorem dX2_init_69 : decode cX2_init 69 = .ok (.putfield 36, 3) := by decide +kernel
theorem dX2_init_72 : decode cX2_init 72 = .ok (.aload_n 0, 1) := by decide +kernel
theorem dX2_init_73 : decode cX2_init 73 = .ok (.bipush 20, 2) := by decide +kernel
theorem dX2_init_75 : decode cX2_init 75 = .ok (.newarray .int, 2) := by decide +kernel
theorem dX2_init_77 : decode cX2_init 77 = .ok (.putfield 39, 3) := by decide +kernel
theorem dX2_init_80 : decode cX2_init 80 = .ok (.aload_n 0, 1) := by decide +kernel
theorem dX2_init_81 : decode cX2_init 81 = .ok (.bipush 48, 2) := by decide +kernel
theorem dX2_init_83 : decode cX2_init 83 = .ok (.newarray .int, 2) := by decide +kernel
theorem dX2_init_85 : decode cX2_init 85 = .ok (.putfield 42, 3) := by decide +kernel
theorem dX2_init_88 : decode cX2_init 88 = .ok (.aload_n 0, 1) := by decide +kernel
theorem dX2_init_89 : decode cX2_init 89 = .ok (.invokevirtual 45, 3) := by decide +kernel
theorem dX2_init_92 : decode cX2_init 92 = .ok (.return_, 1) := by decide +kernel
theorem dX2_beAtFirst_0 : decode cX2_beAtFirst 0 = .ok (.aload_n 0, 1) := by decide +kernel
theorem dX2_beAtFirst_1 : decode cX2_beAtFirst 1 = .ok (.iconst 0, 1) := by decide +kernel
theorem dX2_beAtFirst_2 : decode cX2_beAtFirst 2 = .ok (.putfield 48, 3) := by decide +kernel
theorem dX2_beAtFirst_5 : decode cX2_beAtFirst 5 = .ok (.aload_n 0, 1) := by decide +kernel
theorem dX2_beAtFirst_6 : decode cX2_beAtFirst 6 = .ok (.iconst 0, 1) := by decide +kernel
theorem dX2_beAtFirst_7 : decode cX2_beAtFirst 7 = .ok (.putfield 52, 3) := by decide +kernel
theorem dX2_beAtFirst_10 : decode cX2_beAtFirst 10 = .ok (.getstatic 55, 3) := by decide +kernel
theorem dX2_beAtFirst_13 : decode cX2_beAtFirst 13 = .ok (.iconst 0, 1) := by decide +kernel
theorem dX2_beAtFirst_14 : decode cX2_beAtFirst 14 = .ok (.aload_n 0, 1) := by decide +kernel
theorem dX2_beAtFirst_15 : decode cX2_beAtFirst 15 = .ok (.getfield 24, 3) := by decide +kernel
theorem dX2_beAtFirst_18 : decode cX2_beAtFirst 18 = .ok (.iconst 0, 1) := by decide +kernel
theorem dX2_beAtFirst_19 : decode cX2_beAtFirst 19 = .ok (.bipush 7, 2) := by decide +kernel
theorem dX2_beAtFirst_21 : decode cX2_beAtFirst 21 = .ok (.invokestatic 58, 3) := by decide +kernel
theorem dX2_beAtFirst_24 : decode cX2_beAtFirst 24 = .ok (.iconst 0, 1) := by decide +kernel
theorem dX2_beAtFirst_25 : decode cX2_beAtFirst 25 = .ok (.istore_n 1, 1) := by decide +kernel
theorem dX2_beAtFirst_26 : decode cX2_beAtFirst 26 = .ok (.iload_n 1, 1) := by decide +kernel
theorem dX2_beAtFirst_27 : decode cX2_beAtFirst 27 = .ok (.bipush 21, 2) := by decide +kernel
theorem dX2_beAtFirst_29 : decode cX2_beAtFirst 29 = .ok (.if_icmp .ge 16, 3) := by decide +kernel
theorem dX2_beAtFirst_32 : decode cX2_beAtFirst 32 = .ok (.aload_n 0, 1) := by decide +kernel
theorem dX2_beAtFirst_33 : decode cX2_beAtFirst 33 = .ok (.getfield 27, 3) := by decide +kernel
theorem dX2_beAtFirst_36 : decode cX2_beAtFirst 36 = .ok (.iload_n 1, 1) := by decide +kernel
theorem dX2_beAtFirst_37 : decode cX2_beAtFirst 37 = .ok (.iconst 1, 1) := by decide +kernel
theorem dX2_beAtFirst_38 : decode cX2_beAtFirst 38 = .ok (.iastore, 1) := by decide +kernel
theorem dX2_beAtFirst_39 : decode cX2_beAtFirst 39 = .ok (.iinc 1 1, 3) := by decide +kernel
theorem dX2_beAtFirst_42 : decode cX2_beAtFirst 42 = .ok (.goto (-16), 3) := by decide +kernel
theorem dX2_beAtFirst_45 : decode cX2_beAtFirst 45 = .ok (.iconst 0, 1) := by decide +kernel
theorem dX2_beAtFirst_46 : decode cX2_beAtFirst 46 = .ok (.istore_n 1, 1) := by decide +kernel
theorem dX2_beAtFirst_47 : decode cX2_beAtFirst 47 = .ok (.iload_n 1, 1) := by decide +kernel
theorem dX2_beAtFirst_48 : decode cX2_beAtFirst 48 = .ok (.bipush 48, 2) := by decide +kernel
theorem dX2_beAtFirst_50 : decode cX2_beAtFirst 50 = .ok (.if_icmp .ge 16, 3) := by decide +kernel
theorem dX2_beAtFirst_53 : decode cX2_beAtFirst 53 = .ok (.aload_n 0, 1) := by decide +kernel
theorem dX2_beAtFirst_54 : decode cX2_beAtFirst 54 = .ok (.getfield 42, 3) := by decide +kernel
theorem dX2_beAtFirst_57 : decode cX2_beAtFirst 57 = .ok (.iload_n 1, 1) := by decide +kernel
theorem dX2_beAtFirst_58 : decode cX2_beAtFirst 58 = .ok (.iconst (-1), 1) := by decide +kernel
theorem dX2_beAtFirst_59 : decode cX2_beAtFirst 59 = .ok (.iastore, 1) := by decide +kernel
theorem dX2_beAtFirst_60 : decode cX2_beAtFirst 60 = .ok (.iinc 1 1, 3) := by decide +kernel
theorem dX2_beAtFirst_63 : decode cX2_beAtFirst 63 = .ok (.goto (-16), 3) := by decide +kernel
theorem dX2_beAtFirst_66 : decode cX2_beAtFirst 66 = .ok (.return_, 1) := by decide +kernel
theorem dX2_become_0 : decode cX2_become 0 = .ok (.aload_n 0, 1) := by decide +kernel
theorem dX2_become_1 : decode cX2_become 1 = .ok (.aload_n 1, 1) := by decide +kernel
theorem dX2_become_2 : decode cX2_become 2 = .ok (.getfield 48, 3) := by decide +kernel
theorem dX2_become_5 : decode cX2_become 5 = .ok (.putfield 48, 3) := by decide +kernel
theorem dX2_become_8 : decode cX2_become 8 = .ok (.aload_n 0, 1) := by decide +kernel
theorem dX2_become_9 : decode cX2_become 9 = .ok (.aload_n 1, 1) := by decide +kernel
theorem dX2_become_10 : decode cX2_become 10 = .ok (.getfield 52, 3) := by decide +kernel
theorem dX2_become_13 : decode cX2_become 13 = .ok (.putfield 52, 3) := by decide +kernel
theorem dX2_become_16 : decode cX2_become 16 = .ok (.aload_n 1, 1) := by decide +kernel
theorem dX2_become_17 : decode cX2_become 17 = .ok (.getfield 9, 3) := by decide +kernel
theorem dX2_become_20 : decode cX2_become 20 = .ok (.iconst 0, 1) := by decide +kernel
theorem dX2_become_21 : decode cX2_become 21 = .ok (.aload_n 0, 1) := by decide +kernel
theorem dX2_become_22 : decode cX2_become 22 = .ok (.getfield 9, 3) := by decide +kernel
theorem dX2_become_25 : decode cX2_become 25 = .ok (.iconst 0, 1) := by decide +kernel
theorem dX2_become_26 : decode cX2_become 26 = .ok (.iconst 4, 1) := by decide +kernel
theorem dX2_become_27 : decode cX2_become 27 = .ok (.invokestatic 58, 3) := by decide +kernel
theorem dX2_become_30 : decode cX2_become 30 = .ok (.aload_n 1, 1) := by decide +kernel
theorem dX2_become_31 : decode cX2_become 31 = .ok (.getfield 15, 3) := by decide +kernel
theorem dX2_become_34 : decode cX2_become 34 = .ok (.iconst 0, 1) := by decide +kernel
theorem dX2_become_35 : decode cX2_become 35 = .ok (.aload_n 0, 1) := by decide +kernel
theorem dX2_become_36 : decode cX2_become 36 = .ok (.getfield 15, 3) := by decide +kernel
theorem dX2_become_39 : decode cX2_become 39 = .ok (.iconst 0, 1) := by decide +kernel
theorem dX2_become_40 : decode cX2_become 40 = .ok (.iconst 4, 1) := by decide +kernel
theorem dX2_become_41 : decode cX2_become 41 = .ok (.invokestatic 58, 3) := by decide +kernel
theorem dX2_become_44 : decode cX2_become 44 = .ok (.aload_n 1, 1) := by decide +kernel
theorem dX2_become_45 : decode cX2_become 45 = .ok (.getfield 18, 3) := by decide +kernel
theorem dX2_become_48 : decode cX2_become 48 = .ok (.iconst 0, 1) := by decide +kernel
theorem dX2_become_49 : decode cX2_become 49 = .ok (.aload_n 0, 1) := by decide +kernel
theorem dX2_become_50 : decode cX2_become 50 = .ok (.getfield 18, 3) := by decide +kernel
theorem dX2_become_53 : decode cX2_become 53 = .ok (.iconst 0, 1) := by decide +kernel
theorem dX2_become_54 : decode cX2_become 54 = .ok (.iconst 4, 1) := by decide +kernel
theorem dX2_become_55 : decode cX2_become 55 = .ok (.invokestatic 58, 3) := by decide +kernel
theorem dX2_become_58 : decode cX2_become 58 = .ok (.aload_n 1, 1) := by decide +kernel
theorem dX2_become_59 : decode cX2_become 59 = .ok (.getfield 21, 3) := by decide +kernel
theorem dX2_become_62 : decode cX2_become 62 = .ok (.iconst 0, 1) := by decide +kernel
theorem dX2_become_63 : decode cX2_become 63 = .ok (.aload_n 0, 1) := by decide +kernel
theorem dX2_become_64 : decode cX2_become 64 = .ok (.getfield 21, 3) := by decide +kernel
theorem dX2_become_67 : decode cX2_become 67 = .ok (.iconst 0, 1) := by decide +kernel
theorem dX2_become_68 : decode cX2_become 68 = .ok (.iconst 4, 1) := by decide +kernel
theorem dX2_become_69 : decode cX2_become 69 = .ok (.invokestatic 58, 3) := by decide +kernel
theorem dX2_become_72 : decode cX2_become 72 = .ok (.aload_n 1, 1) := by decide +kernel
theorem dX2_become_73 : decode cX2_become 73 = .ok (.getfield 24, 3) := by decide +kernel
theorem dX2_become_76 : decode cX2_become 76 = .ok (.iconst 0, 1) := by decide +kernel
theorem dX2_become_77 : decode cX2_become 77 = .ok (.aload_n 0, 1) := by decide +kernel
theorem dX2_become_78 : decode cX2_become 78 = .ok (.getfield 24, 3) := by decide +kernel
theorem dX2_become_81 : decode cX2_become 81 = .ok (.iconst 0, 1) := by decide +kernel
theorem dX2_become_82 : decode cX2_become 82 = .ok (.bipush 7, 2) := by decide +kernel
theorem dX2_become_84 : decode cX2_become 84 = .ok (.invokestatic 58, 3) := by decide +kernel
theorem dX2_become_87 : decode cX2_become 87 = .ok (.aload_n 1, 1) := by decide +kernel
theorem dX2_become_88 : decode cX2_become 88 = .ok (.getfield 27, 3) := by decide +kernel
theorem dX2_become_91 : decode cX2_become 91 = .ok (.iconst 0, 1) := by decide +kernel
theorem dX2_become_92 : decode cX2_become 92 = .ok (.aload_n 0, 1) := by decide +kernel
theorem dX2_become_93 : decode cX2_become 93 = .ok (.getfield 27, 3) := by decide +kernel
theorem dX2_become_96 : decode cX2_become 96 = .ok (.iconst 0, 1) := by decide +kernel
theorem dX2_become_97 : decode cX2_become 97 = .ok (.bipush 21, 2) := by decide +kernel
theorem dX2_become_99 : decode cX2_become 99 = .ok (.invokestatic 58, 3) := by decide +kernel
theorem dX2_become_102 : decode cX2_become 102 = .ok (.aload_n 1, 1) := by decide +kernel
theorem dX2_become_103 : decode cX2_become 103 = .ok (.getfield 30, 3) := by decide +kernel
theorem dX2_become_106 : decode cX2_become 106 = .ok (.iconst 0, 1) := by decide +kernel
theorem dX2_become_107 : decode cX2_become 107 = .ok (.aload_n 0, 1) := by decide +kernel
theorem dX2_become_108 : decode cX2_become 108 = .ok (.getfield 30, 3) := by decide +kernel
theorem dX2_become_111 : decode cX2_become 111 = .ok (.iconst 0, 1) := by decide +kernel
theorem dX2_become_112 : decode cX2_become 112 = .ok (.bipush 20, 2) := by decide +kernel
theorem dX2_become_114 : decode cX2_become 114 = .ok (.invokestatic 58, 3) := by decide +kernel
theorem dX2_become_117 : decode cX2_become 117 = .ok (.aload_n 1, 1) := by decide +kernel
theorem dX2_become_118 : decode cX2_become 118 = .ok (.getfield 33, 3) := by decide +kernel
theorem dX2_become_121 : decode cX2_become 121 = .ok (.iconst 0, 1) := by decide +kernel
theorem dX2_become_122 : decode cX2_become 122 = .ok (.aload_n 0, 1) := by decide +kernel
theorem dX2_become_123 : decode cX2_become 123 = .ok (.getfield 33, 3) := by decide +kernel
theorem dX2_become_126 : decode cX2_become 126 = .ok (.iconst 0, 1) := by decide +kernel
theorem dX2_become_127 : decode cX2_become 127 = .ok (.bipush 20, 2) := by decide +kernel
theorem dX2_become_129 : decode cX2_become 129 = .ok (.invokestatic 58, 3) := by decide +kernel
theorem dX2_become_132 : decode cX2_become 132 = .ok (.aload_n 1, 1) := by decide +kernel
theorem dX2_become_133 : decode cX2_become 133 = .ok (.getfield 36, 3) := by decide +kernel
theorem dX2_become_136 : decode cX2_become 136 = .ok (.iconst 0, 1) := by decide +kernel
theorem dX2_become_137 : decode cX2_become 137 = .ok (.aload_n 0, 1) := by decide +kernel
theorem dX2_become_138 : decode cX2_become 138 = .ok (.getfield 36, 3) := by decide +kernel
theorem dX2_become_141 : decode cX2_become 141 = .ok (.iconst 0, 1) := by decide +kernel
theorem dX2_become_142 : decode cX2_become 142 = .ok (.bipush 20, 2) := by decide +kernel
theorem dX2_become_144 : decode cX2_become 144 = .ok (.invokestatic 58, 3) := by decide +kernel
theorem dX2_become_147 : decode cX2_become 147 = .ok (.aload_n 1, 1) := by decide +kernel
theorem dX2_become_148 : decode cX2_become 148 = .ok (.getfield 39, 3) := by decide +kernel
theorem dX2_become_151 : decode cX2_become 151 = .ok (.iconst 0, 1) := by decide +kernel
theorem dX2_become_152 : decode cX2_become 152 = .ok (.aload_n 0, 1) := by decide +kernel
theorem dX2_become_153 : decode cX2_become 153 = .ok (.getfield 39, 3) := by decide +kernel
theorem dX2_become_156 : decode cX2_become 156 = .ok (.iconst 0, 1) := by decide +kernel
theorem dX2_become_157 : decode cX2_become 157 = .ok (.bipush 20, 2) := by decide +kernel
theorem dX2_become_159 : decode cX2_become 159 = .ok (.invokestatic 58, 3) := by decide +kernel
theorem dX2_become_162 : decode cX2_become 162 = .ok (.aload_n 1, 1) := by decide +kernel
theorem dX2_become_163 : decode cX2_become 163 = .ok (.getfield 42, 3) := by decide +kernel
theorem dX2_become_166 : decode cX2_become 166 = .ok (.iconst 0, 1) := by decide +kernel
theorem dX2_become_167 : decode cX2_become 167 = .ok (.aload_n 0, 1) := by decide +kernel
theorem dX2_become_168 : decode cX2_become 168 = .ok (.getfield 42, 3) := by decide +kernel
theorem dX2_become_171 : decode cX2_become 171 = .ok (.iconst 0, 1) := by decide +kernel
theorem dX2_become_172 : decode cX2_become 172 = .ok (.bipush 48, 2) := by decide +kernel
theorem dX2_become_174 : decode cX2_become 174 = .ok (.invokestatic 58, 3) := by decide +kernel
theorem dX2_become_177 : decode cX2_become 177 = .ok (.return_, 1) := by decide +kernel
theorem dX2_addStuff_0 : decode cX2_addStuff 0 = .ok (.iload_n 1, 1) := by decide +kernel
theorem dX2_addStuff_1 : decode cX2_addStuff 1 = .ok (.iconst 1, 1) := by decide +kernel
theorem dX2_addStuff_2 : decode cX2_addStuff 2 = .ok (.bipush 60, 2) := by decide +kernel
theorem dX2_addStuff_4 : decode cX2_addStuff 4 = .ok (.invokestatic 64, 3) := by decide +kernel
theorem dX2_addStuff_7 : decode cX2_addStuff 7 = .ok (.ifCond .eq 34, 3) := by decide +kernel
theorem dX2_addStuff_10 : decode cX2_addStuff 10 = .ok (.iload_n 2, 1) := by decide +kernel
theorem dX2_addStuff_11 : decode cX2_addStuff 11 = .ok (.iconst 0, 1) := by decide +kernel
theorem dX2_addStuff_12 : decode cX2_addStuff 12 = .ok (.bipush 9, 2) := by decide +kernel
theorem dX2_addStuff_14 : decode cX2_addStuff 14 = .ok (.invokestatic 64, 3) := by decide +kernel
theorem dX2_addStuff_17 : decode cX2_addStuff 17 = .ok (.ifCond .eq 24, 3) := by decide +kernel
theorem dX2_addStuff_20 : decode cX2_addStuff 20 = .ok (.iload_n 3, 1) := by decide +kernel
theorem dX2_addStuff_21 : decode cX2_addStuff 21 = .ok (.iconst 0, 1) := by decide +kernel
theorem dX2_addStuff_22 : decode cX2_addStuff 22 = .ok (.bipush 15, 2) := by decide +kernel
theorem dX2_addStuff_24 : decode cX2_addStuff 24 = .ok (.invokestatic 64, 3) := by decide +kernel
theorem dX2_addStuff_27 : decode cX2_addStuff 27 = .ok (.ifCond .eq 14, 3) := by decide +kernel
theorem dX2_addStuff_30 : decode cX2_addStuff 30 = .ok (.iload 4, 2) := by decide +kernel
theorem dX2_addStuff_32 : decode cX2_addStuff 32 = .ok (.iconst 1, 1) := by decide +kernel
theorem dX2_addStuff_33 : decode cX2_addStuff 33 = .ok (.bipush 9, 2) := by decide +kernel
theorem dX2_addStuff_35 : decode cX2_addStuff 35 = .ok (.invokestatic 64, 3) := by decide +kernel
theorem dX2_addStuff_38 : decode cX2_addStuff 38 = .ok (.ifCond .ne 6, 3) := by decide +kernel
theorem dX2_addStuff_41 : decode cX2_addStuff 41 = .ok (.bipush (-2), 2) := by decide +kernel
theorem dX2_addStuff_43 : decode cX2_addStuff 43 = .ok (.ireturn, 1) := by decide +kernel
theorem dX2_addStuff_44 : decode cX2_addStuff 44 = .ok (.aload_n 0, 1) := by decide +kernel
theorem dX2_addStuff_45 : decode cX2_addStuff 45 = .ok (.getfield 48, 3) := by decide +kernel
theorem dX2_addStuff_48 : decode cX2_addStuff 48 = .ok (.iconst 4, 1) := by decide +kernel
theorem dX2_addStuff_49 : decode cX2_addStuff 49 = .ok (.if_icmp .lt 6, 3) := by decide +kernel
theorem dX2_addStuff_52 : decode cX2_addStuff 52 = .ok (.bipush (-4), 2) := by decide +kernel
theorem dX2_addStuff_54 : decode cX2_addStuff 54 = .ok (.ireturn, 1) := by decide +kernel
theorem dX2_addStuff_55 : decode cX2_addStuff 55 = .ok (.aload_n 0, 1) := by decide +kernel
theorem dX2_addStuff_56 : decode cX2_addStuff 56 = .ok (.getfield 9, 3) := by decide +kernel
theorem dX2_addStuff_59 : decode cX2_addStuff 59 = .ok (.aload_n 0, 1) := by decide +kernel
theorem dX2_addStuff_60 : decode cX2_addStuff 60 = .ok (.getfield 48, 3) := by decide +kernel
theorem dX2_addStuff_63 : decode cX2_addStuff 63 = .ok (.iload_n 1, 1) := by decide +kernel
theorem dX2_addStuff_64 : decode cX2_addStuff 64 = .ok (.iastore, 1) := by decide +kernel
theorem dX2_addStuff_65 : decode cX2_addStuff 65 = .ok (.aload_n 0, 1) := by decide +kernel
theorem dX2_addStuff_66 : decode cX2_addStuff 66 = .ok (.getfield 15, 3) := by decide +kernel
theorem dX2_addStuff_69 : decode cX2_addStuff 69 = .ok (.aload_n 0, 1) := by decide +kernel
theorem dX2_addStuff_70 : decode cX2_addStuff 70 = .ok (.getfield 48, 3) := by decide +kernel
theorem dX2_addStuff_73 : decode cX2_addStuff 73 = .ok (.iload_n 2, 1) := by decide +kernel
theorem dX2_addStuff_74 : decode cX2_addStuff 74 = .ok (.iastore, 1) := by decide +kernel
theorem dX2_addStuff_75 : decode cX2_addStuff 75 = .ok (.aload_n 0, 1) := by decide +kernel
theorem dX2_addStuff_76 : decode cX2_addStuff 76 = .ok (.getfield 18, 3) := by decide +kernel
theorem dX2_addStuff_79 : decode cX2_addStuff 79 = .ok (.aload_n 0, 1) := by decide +kernel
theorem dX2_addStuff_80 : decode cX2_addStuff 80 = .ok (.getfield 48, 3) := by decide +kernel
theorem dX2_addStuff_83 : decode cX2_addStuff 83 = .ok (.iload_n 3, 1) := by decide +kernel
theorem dX2_addStuff_84 : decode cX2_addStuff 84 = .ok (.iastore, 1) := by decide +kernel
theorem dX2_addStuff_85 : decode cX2_addStuff 85 = .ok (.aload_n 0, 1) := by decide +kernel
theorem dX2_addStuff_86 : decode cX2_addStuff 86 = .ok (.getfield 21, 3) := by decide +kernel
theorem dX2_addStuff_89 : decode cX2_addStuff 89 = .ok (.aload_n 0, 1) := by decide +kernel
theorem dX2_addStuff_90 : decode cX2_addStuff 90 = .ok (.getfield 48, 3) := by decide +kernel
theorem dX2_addStuff_93 : decode cX2_addStuff 93 = .ok (.iload 4, 2) := by decide +kernel
theorem dX2_addStuff_95 : decode cX2_addStuff 95 = .ok (.iastore, 1) := by decide +kernel
theorem dX2_addStuff_96 : decode cX2_addStuff 96 = .ok (.aload_n 0, 1) := by decide +kernel
theorem dX2_addStuff_97 : decode cX2_addStuff 97 = .ok (.dup, 1) := by decide +kernel
theorem dX2_addStuff_98 : decode cX2_addStuff 98 = .ok (.getfield 48, 3) := by decide +kernel
theorem dX2_addStuff_101 : decode cX2_addStuff 101 = .ok (.dup_x1, 1) := by decide +kernel
theorem dX2_addStuff_102 : decode cX2_addStuff 102 = .ok (.iconst 1, 1) := by decide +kernel
theorem dX2_addStuff_103 : decode cX2_addStuff 103 = .ok (.iadd, 1) := by decide +kernel
theorem dX2_addStuff_104 : decode cX2_addStuff 104 = .ok (.putfield 48, 3) := by decide +kernel
theorem dX2_addStuff_107 : decode cX2_addStuff 107 = .ok (.ireturn, 1) := by decide +kernel
theorem dX2_set_0 : decode cX2_set 0 = .ok (.iload_n 1, 1) := by decide +kernel
theorem dX2_set_1 : decode cX2_set 1 = .ok (.iconst 0, 1) := by decide +kernel
theorem dX2_set_2 : decode cX2_set 2 = .ok (.bipush 6, 2) := by decide +kernel
theorem dX2_set_4 : decode cX2_set 4 = .ok (.invokestatic 64, 3) := by decide +kernel
theorem dX2_set_7 : decode cX2_set 7 = .ok (.ifCond .eq 20, 3) := by decide +kernel
theorem dX2_set_10 : decode cX2_set 10 = .ok (.iload_n 2, 1) := by decide +kernel
theorem dX2_set_11 : decode cX2_set 11 = .ok (.getstatic 68, 3) := by decide +kernel
theorem dX2_set_14 : decode cX2_set 14 = .ok (.iload_n 1, 1) := by decide +kernel
theorem dX2_set_15 : decode cX2_set 15 = .ok (.iaload, 1) := by decide +kernel
theorem dX2_set_16 : decode cX2_set 16 = .ok (.getstatic 71, 3) := by decide +kernel
theorem dX2_set_19 : decode cX2_set 19 = .ok (.iload_n 1, 1) := by decide +kernel
theorem dX2_set_20 : decode cX2_set 20 = .ok (.iaload, 1) := by decide +kernel
theorem dX2_set_21 : decode cX2_set 21 = .ok (.invokestatic 64, 3) := by decide +kernel
theorem dX2_set_24 : decode cX2_set 24 = .ok (.ifCond .ne 6, 3) := by decide +kernel
theorem dX2_set_27 : decode cX2_set 27 = .ok (.bipush (-2), 2) := by decide +kernel
theorem dX2_set_29 : decode cX2_set 29 = .ok (.ireturn, 1) := by decide +kernel
theorem dX2_set_30 : decode cX2_set 30 = .ok (.aload_n 0, 1) := by decide +kernel
theorem dX2_set_31 : decode cX2_set 31 = .ok (.getfield 24, 3) := by decide +kernel
theorem dX2_set_34 : decode cX2_set 34 = .ok (.iload_n 1, 1) := by decide +kernel
theorem dX2_set_35 : decode cX2_set 35 = .ok (.iaload, 1) := by decide +kernel
theorem dX2_set_36 : decode cX2_set 36 = .ok (.istore_n 3, 1) := by decide +kernel
theorem dX2_set_37 : decode cX2_set 37 = .ok (.aload_n 0, 1) := by decide +kernel
theorem dX2_set_38 : decode cX2_set 38 = .ok (.getfield 24, 3) := by decide +kernel
theorem dX2_set_41 : decode cX2_set 41 = .ok (.iload_n 1, 1) := by decide +kernel
theorem dX2_set_42 : decode cX2_set 42 = .ok (.iload_n 2, 1) := by decide +kernel
theorem dX2_set_43 : decode cX2_set 43 = .ok (.iastore, 1) := by decide +kernel
theorem dX2_set_44 : decode cX2_set 44 = .ok (.iload_n 3, 1) := by decide +kernel
theorem dX2_set_45 : decode cX2_set 45 = .ok (.ireturn, 1) := by decide +kernel
theorem dX2_setHabit_0 : decode cX2_setHabit 0 = .ok (.iload_n 1, 1) := by decide +kernel
theorem dX2_setHabit_1 : decode cX2_setHabit 1 = .ok (.iconst 0, 1) := by decide +kernel
theorem dX2_setHabit_2 : decode cX2_setHabit 2 = .ok (.bipush 20, 2) := by decide +kernel
theorem dX2_setHabit_4 : decode cX2_setHabit 4 = .ok (.invokestatic 64, 3) := by decide +kernel
theorem dX2_setHabit_7 : decode cX2_setHabit 7 = .ok (.ifCond .eq 13, 3) := by decide +kernel
theorem dX2_setHabit_10 : decode cX2_setHabit 10 = .ok (.iload_n 2, 1) := by decide +kernel
theorem dX2_setHabit_11 : decode cX2_setHabit 11 = .ok (.iconst 0, 1) := by decide +kernel
theorem dX2_setHabit_12 : decode cX2_setHabit 12 = .ok (.bipush 9, 2) := by decide +kernel
theorem dX2_setHabit_14 : decode cX2_setHabit 14 = .ok (.invokestatic 64, 3) := by decide +kernel
theorem dX2_setHabit_17 : decode cX2_setHabit 17 = .ok (.ifCond .ne 6, 3) := by decide +kernel
theorem dX2_setHabit_20 : decode cX2_setHabit 20 = .ok (.bipush (-2), 2) := by decide +kernel
theorem dX2_setHabit_22 : decode cX2_setHabit 22 = .ok (.ireturn, 1) := by decide +kernel
theorem dX2_setHabit_23 : decode cX2_setHabit 23 = .ok (.aload_n 0, 1) := by decide +kernel
theorem dX2_setHabit_24 : decode cX2_setHabit 24 = .ok (.getfield 27, 3) := by decide +kernel
theorem dX2_setHabit_27 : decode cX2_setHabit 27 = .ok (.iload_n 1, 1) := by decide +kernel
theorem dX2_setHabit_28 : decode cX2_setHabit 28 = .ok (.iaload, 1) := by decide +kernel
theorem dX2_setHabit_29 : decode cX2_setHabit 29 = .ok (.istore_n 3, 1) := by decide +kernel
theorem dX2_setHabit_30 : decode cX2_setHabit 30 = .ok (.aload_n 0, 1) := by decide +kernel
theorem dX2_setHabit_31 : decode cX2_setHabit 31 = .ok (.getfield 27, 3) := by decide +kernel
theorem dX2_setHabit_34 : decode cX2_setHabit 34 = .ok (.iload_n 1, 1) := by decide +kernel
theorem dX2_setHabit_35 : decode cX2_setHabit 35 = .ok (.iload_n 2, 1) := by decide +kernel
theorem dX2_setHabit_36 : decode cX2_setHabit 36 = .ok (.iastore, 1) := by decide +kernel
theorem dX2_setHabit_37 : decode cX2_setHabit 37 = .ok (.iload_n 3, 1) := by decide +kernel
theorem dX2_setHabit_38 : decode cX2_setHabit 38 = .ok (.ireturn, 1) := by decide +kernel
theorem dX2_addTrace_0 : decode cX2_addTrace 0 = .ok (.iload_n 1, 1) := by decide +kernel
theorem dX2_addTrace_1 : decode cX2_addTrace 1 = .ok (.invokestatic 74, 3) := by decide +kernel
theorem dX2_addTrace_4 : decode cX2_addTrace 4 = .ok (.ifCond .eq 13, 3) := by decide +kernel
theorem dX2_addTrace_7 : decode cX2_addTrace 7 = .ok (.aload_n 0, 1) := by decide +kernel
theorem dX2_addTrace_8 : decode cX2_addTrace 8 = .ok (.iload_n 1, 1) := by decide +kernel
theorem dX2_addTrace_9 : decode cX2_addTrace 9 = .ok (.iload_n 2, 1) := by decide +kernel
theorem dX2_addTrace_10 : decode cX2_addTrace 10 = .ok (.iload_n 3, 1) := by decide +kernel
theorem dX2_addTrace_11 : decode cX2_addTrace 11 = .ok (.invokevirtual 78, 3) := by decide +kernel
theorem dX2_addTrace_14 : decode cX2_addTrace 14 = .ok (.ifCond .ne 6, 3) := by decide +kernel
theorem dX2_addTrace_17 : decode cX2_addTrace 17 = .ok (.bipush (-2), 2) := by decide +kernel
theorem dX2_addTrace_19 : decode cX2_addTrace 19 = .ok (.ireturn, 1) := by decide +kernel
theorem dX2_addTrace_20 : decode cX2_addTrace 20 = .ok (.aload_n 0, 1) := by decide +kernel
theorem dX2_addTrace_21 : decode cX2_addTrace 21 = .ok (.getfield 52, 3) := by decide +kernel
theorem dX2_addTrace_24 : decode cX2_addTrace 24 = .ok (.bipush 20, 2) := by decide +kernel
theorem dX2_addTrace_26 : decode cX2_addTrace 26 = .ok (.if_icmp .lt 6, 3) := by decide +kernel
theorem dX2_addTrace_29 : decode cX2_addTrace 29 = .ok (.bipush (-4), 2) := by decide +kernel
theorem dX2_addTrace_31 : decode cX2_addTrace 31 = .ok (.ireturn, 1) := by decide +kernel
theorem dX2_addTrace_32 : decode cX2_addTrace 32 = .ok (.aload_n 0, 1) := by decide +kernel
theorem dX2_addTrace_33 : decode cX2_addTrace 33 = .ok (.getfield 30, 3) := by decide +kernel
theorem dX2_addTrace_36 : decode cX2_addTrace 36 = .ok (.aload_n 0, 1) := by decide +kernel
theorem dX2_addTrace_37 : decode cX2_addTrace 37 = .ok (.getfield 52, 3) := by decide +kernel
theorem dX2_addTrace_40 : decode cX2_addTrace 40 = .ok (.iload_n 1, 1) := by decide +kernel
theorem dX2_addTrace_41 : decode cX2_addTrace 41 = .ok (.iastore, 1) := by decide +kernel
theorem dX2_addTrace_42 : decode cX2_addTrace 42 = .ok (.aload_n 0, 1) := by decide +kernel
theorem dX2_addTrace_43 : decode cX2_addTrace 43 = .ok (.getfield 33, 3) := by decide +kernel
theorem dX2_addTrace_46 : decode cX2_addTrace 46 = .ok (.aload_n 0, 1) := by decide +kernel
theorem dX2_addTrace_47 : decode cX2_addTrace 47 = .ok (.getfield 52, 3) := by decide +kernel
theorem dX2_addTrace_50 : decode cX2_addTrace 50 = .ok (.iload_n 2, 1) := by decide +kernel
theorem dX2_addTrace_51 : decode cX2_addTrace 51 = .ok (.iastore, 1) := by decide +kernel
theorem dX2_addTrace_52 : decode cX2_addTrace 52 = .ok (.aload_n 0, 1) := by decide +kernel
theorem dX2_addTrace_53 : decode cX2_addTrace 53 = .ok (.getfield 36, 3) := by decide +kernel
theorem dX2_addTrace_56 : decode cX2_addTrace 56 = .ok (.aload_n 0, 1) := by decide +kernel
theorem dX2_addTrace_57 : decode cX2_addTrace 57 = .ok (.getfield 52, 3) := by decide +kernel
theorem dX2_addTrace_60 : decode cX2_addTrace 60 = .ok (.iload_n 3, 1) := by decide +kernel
theorem dX2_addTrace_61 : decode cX2_addTrace 61 = .ok (.iastore, 1) := by decide +kernel
theorem dX2_addTrace_62 : decode cX2_addTrace 62 = .ok (.aload_n 0, 1) := by decide +kernel
theorem dX2_addTrace_63 : decode cX2_addTrace 63 = .ok (.getfield 39, 3) := by decide +kernel
theorem dX2_addTrace_66 : decode cX2_addTrace 66 = .ok (.aload_n 0, 1) := by decide +kernel
theorem dX2_addTrace_67 : decode cX2_addTrace 67 = .ok (.getfield 52, 3) := by decide +kernel
theorem dX2_addTrace_70 : decode cX2_addTrace 70 = .ok (.iconst 0, 1) := by decide +kernel
theorem dX2_addTrace_71 : decode cX2_addTrace 71 = .ok (.iastore, 1) := by decide +kernel
theorem dX2_addTrace_72 : decode cX2_addTrace 72 = .ok (.aload_n 0, 1) := by decide +kernel
theorem dX2_addTrace_73 : decode cX2_addTrace 73 = .ok (.dup, 1) := by decide +kernel
theorem dX2_addTrace_74 : decode cX2_addTrace 74 = .ok (.getfield 52, 3) := by decide +kernel
theorem dX2_addTrace_77 : decode cX2_addTrace 77 = .ok (.dup_x1, 1) := by decide +kernel
theorem dX2_addTrace_78 : decode cX2_addTrace 78 = .ok (.iconst 1, 1) := by decide +kernel
theorem dX2_addTrace_79 : decode cX2_addTrace 79 = .ok (.iadd, 1) := by decide +kernel
theorem dX2_addTrace_80 : decode cX2_addTrace 80 = .ok (.putfield 52, 3) := by decide +kernel
theorem dX2_addTrace_83 : decode cX2_addTrace 83 = .ok (.ireturn, 1) := by decide +kernel
theorem dX2_canTell_0 : decode cX2_canTell 0 = .ok (.iload_n 2, 1) := by decide +kernel
theorem dX2_canTell_1 : decode cX2_canTell 1 = .ok (.tableswitch 101 0 6 #[43, 49, 49, 56, 56, 65, 91], 43) := by decide +kernel
theorem dX2_canTell_44 : decode cX2_canTell 44 = .ok (.aload_n 0, 1) := by decide +kernel
theorem dX2_canTell_45 : decode cX2_canTell 45 = .ok (.iload_n 3, 1) := by decide +kernel
theorem dX2_canTell_46 : decode cX2_canTell 46 = .ok (.invokevirtual 81, 3) := by decide +kernel
theorem dX2_canTell_49 : decode cX2_canTell 49 = .ok (.ireturn, 1) := by decide +kernel
theorem dX2_canTell_50 : decode cX2_canTell 50 = .ok (.iload_n 3, 1) := by decide +kernel
theorem dX2_canTell_51 : decode cX2_canTell 51 = .ok (.iconst 0, 1) := by decide +kernel
theorem dX2_canTell_52 : decode cX2_canTell 52 = .ok (.iconst 3, 1) := by decide +kernel
theorem dX2_canTell_53 : decode cX2_canTell 53 = .ok (.invokestatic 64, 3) := by decide +kernel
theorem dX2_canTell_56 : decode cX2_canTell 56 = .ok (.ireturn, 1) := by decide +kernel
theorem dX2_canTell_57 : decode cX2_canTell 57 = .ok (.iload_n 3, 1) := by decide +kernel
theorem dX2_canTell_58 : decode cX2_canTell 58 = .ok (.iconst 0, 1) := by decide +kernel
theorem dX2_canTell_59 : decode cX2_canTell 59 = .ok (.sipush 400, 3) := by decide +kernel
theorem dX2_canTell_62 : decode cX2_canTell 62 = .ok (.invokestatic 64, 3) := by decide +kernel
theorem dX2_canTell_65 : decode cX2_canTell 65 = .ok (.ireturn, 1) := by decide +kernel
theorem dX2_canTell_66 : decode cX2_canTell 66 = .ok (.iload_n 3, 1) := by decide +kernel
theorem dX2_canTell_67 : decode cX2_canTell 67 = .ok (.iconst 1, 1) := by decide +kernel
theorem dX2_canTell_68 : decode cX2_canTell 68 = .ok (.sipush 400, 3) := by decide +kernel
theorem dX2_canTell_71 : decode cX2_canTell 71 = .ok (.invokestatic 64, 3) := by decide +kernel
theorem dX2_canTell_74 : decode cX2_canTell 74 = .ok (.ifCond .eq 16, 3) := by decide +kernel
theorem dX2_canTell_77 : decode cX2_canTell 77 = .ok (.iload_n 1, 1) := by decide +kernel
theorem dX2_canTell_78 : decode cX2_canTell 78 = .ok (.bipush 8, 2) := by decide +kernel
theorem dX2_canTell_80 : decode cX2_canTell 80 = .ok (.irem, 1) := by decide +kernel
theorem dX2_canTell_81 : decode cX2_canTell 81 = .ok (.bipush 7, 2) := by decide +kernel
theorem dX2_canTell_83 : decode cX2_canTell 83 = .ok (.if_icmp .eq 7, 3) := by decide +kernel
theorem dX2_canTell_86 : decode cX2_canTell 86 = .ok (.iconst 1, 1) := by decide +kernel
theorem dX2_canTell_87 : decode cX2_canTell 87 = .ok (.goto 4, 3) := by decide +kernel
theorem dX2_canTell_90 : decode cX2_canTell 90 = .ok (.iconst 0, 1) := by decide +kernel
theorem dX2_canTell_91 : decode cX2_canTell 91 = .ok (.ireturn, 1) := by decide +kernel
theorem dX2_canTell_92 : decode cX2_canTell 92 = .ok (.iload_n 3, 1) := by decide +kernel
theorem dX2_canTell_93 : decode cX2_canTell 93 = .ok (.ifCond .ne 7, 3) := by decide +kernel
theorem dX2_canTell_96 : decode cX2_canTell 96 = .ok (.iconst 1, 1) := by decide +kernel
theorem dX2_canTell_97 : decode cX2_canTell 97 = .ok (.goto 4, 3) := by decide +kernel
theorem dX2_canTell_100 : decode cX2_canTell 100 = .ok (.iconst 0, 1) := by decide +kernel
theorem dX2_canTell_101 : decode cX2_canTell 101 = .ok (.ireturn, 1) := by decide +kernel
theorem dX2_canTell_102 : decode cX2_canTell 102 = .ok (.iconst 0, 1) := by decide +kernel
theorem dX2_canTell_103 : decode cX2_canTell 103 = .ok (.ireturn, 1) := by decide +kernel
theorem dX2_setAside_0 : decode cX2_setAside 0 = .ok (.iload_n 1, 1) := by decide +kernel
theorem dX2_setAside_1 : decode cX2_setAside 1 = .ok (.iconst 0, 1) := by decide +kernel
theorem dX2_setAside_2 : decode cX2_setAside 2 = .ok (.aload_n 0, 1) := by decide +kernel
theorem dX2_setAside_3 : decode cX2_setAside 3 = .ok (.getfield 52, 3) := by decide +kernel
theorem dX2_setAside_6 : decode cX2_setAside 6 = .ok (.iconst 1, 1) := by decide +kernel
theorem dX2_setAside_7 : decode cX2_setAside 7 = .ok (.isub, 1) := by decide +kernel
theorem dX2_setAside_8 : decode cX2_setAside 8 = .ok (.invokestatic 64, 3) := by decide +kernel
theorem dX2_setAside_11 : decode cX2_setAside 11 = .ok (.ifCond .ne 6, 3) := by decide +kernel
theorem dX2_setAside_14 : decode cX2_setAside 14 = .ok (.bipush (-2), 2) := by decide +kernel
theorem dX2_setAside_16 : decode cX2_setAside 16 = .ok (.ireturn, 1) := by decide +kernel
theorem dX2_setAside_17 : decode cX2_setAside 17 = .ok (.iload_n 2, 1) := by decide +kernel
theorem dX2_setAside_18 : decode cX2_setAside 18 = .ok (.ifCond .eq 7, 3) := by decide +kernel
theorem dX2_setAside_21 : decode cX2_setAside 21 = .ok (.iconst 1, 1) := by decide +kernel
theorem dX2_setAside_22 : decode cX2_setAside 22 = .ok (.goto 4, 3) := by decide +kernel
theorem dX2_setAside_25 : decode cX2_setAside 25 = .ok (.iconst 0, 1) := by decide +kernel
theorem dX2_setAside_26 : decode cX2_setAside 26 = .ok (.istore_n 3, 1) := by decide +kernel
theorem dX2_setAside_27 : decode cX2_setAside 27 = .ok (.aload_n 0, 1) := by decide +kernel
theorem dX2_setAside_28 : decode cX2_setAside 28 = .ok (.getfield 39, 3) := by decide +kernel
theorem dX2_setAside_31 : decode cX2_setAside 31 = .ok (.iload_n 1, 1) := by decide +kernel
theorem dX2_setAside_32 : decode cX2_setAside 32 = .ok (.iaload, 1) := by decide +kernel
theorem dX2_setAside_33 : decode cX2_setAside 33 = .ok (.iload_n 3, 1) := by decide +kernel
theorem dX2_setAside_34 : decode cX2_setAside 34 = .ok (.if_icmp .ne 6, 3) := by decide +kernel
theorem dX2_setAside_37 : decode cX2_setAside 37 = .ok (.bipush (-3), 2) := by decide +kernel
theorem dX2_setAside_39 : decode cX2_setAside 39 = .ok (.ireturn, 1) := by decide +kernel
theorem dX2_setAside_40 : decode cX2_setAside 40 = .ok (.aload_n 0, 1) := by decide +kernel
theorem dX2_setAside_41 : decode cX2_setAside 41 = .ok (.getfield 39, 3) := by decide +kernel
theorem dX2_setAside_44 : decode cX2_setAside 44 = .ok (.iload_n 1, 1) := by decide +kernel
theorem dX2_setAside_45 : decode cX2_setAside 45 = .ok (.iload_n 3, 1) := by decide +kernel
theorem dX2_setAside_46 : decode cX2_setAside 46 = .ok (.iastore, 1) := by decide +kernel
theorem dX2_setAside_47 : decode cX2_setAside 47 = .ok (.iconst 1, 1) := by decide +kernel
theorem dX2_setAside_48 : decode cX2_setAside 48 = .ok (.ireturn, 1) := by decide +kernel
theorem dX2_paint_0 : decode cX2_paint 0 = .ok (.iload_n 1, 1) := by decide +kernel
theorem dX2_paint_1 : decode cX2_paint 1 = .ok (.invokestatic 74, 3) := by decide +kernel
theorem dX2_paint_4 : decode cX2_paint 4 = .ok (.ifCond .eq 16, 3) := by decide +kernel
theorem dX2_paint_7 : decode cX2_paint 7 = .ok (.iload_n 2, 1) := by decide +kernel
theorem dX2_paint_8 : decode cX2_paint 8 = .ok (.iconst (-1), 1) := by decide +kernel
theorem dX2_paint_9 : decode cX2_paint 9 = .ok (.if_icmp .eq 14, 3) := by decide +kernel
theorem dX2_paint_12 : decode cX2_paint 12 = .ok (.aload_n 0, 1) := by decide +kernel
theorem dX2_paint_13 : decode cX2_paint 13 = .ok (.iload_n 2, 1) := by decide +kernel
theorem dX2_paint_14 : decode cX2_paint 14 = .ok (.invokevirtual 81, 3) := by decide +kernel
theorem dX2_paint_17 : decode cX2_paint 17 = .ok (.ifCond .ne 6, 3) := by decide +kernel
theorem dX2_paint_20 : decode cX2_paint 20 = .ok (.bipush (-10), 2) := by decide +kernel
theorem dX2_paint_22 : decode cX2_paint 22 = .ok (.ireturn, 1) := by decide +kernel
theorem dX2_paint_23 : decode cX2_paint 23 = .ok (.aload_n 0, 1) := by decide +kernel
theorem dX2_paint_24 : decode cX2_paint 24 = .ok (.getfield 42, 3) := by decide +kernel
theorem dX2_paint_27 : decode cX2_paint 27 = .ok (.iload_n 1, 1) := by decide +kernel
theorem dX2_paint_28 : decode cX2_paint 28 = .ok (.iaload, 1) := by decide +kernel
theorem dX2_paint_29 : decode cX2_paint 29 = .ok (.istore_n 3, 1) := by decide +kernel
theorem dX2_paint_30 : decode cX2_paint 30 = .ok (.aload_n 0, 1) := by decide +kernel
theorem dX2_paint_31 : decode cX2_paint 31 = .ok (.getfield 42, 3) := by decide +kernel
theorem dX2_paint_34 : decode cX2_paint 34 = .ok (.iload_n 1, 1) := by decide +kernel
theorem dX2_paint_35 : decode cX2_paint 35 = .ok (.iload_n 2, 1) := by decide +kernel
theorem dX2_paint_36 : decode cX2_paint 36 = .ok (.iastore, 1) := by decide +kernel
theorem dX2_paint_37 : decode cX2_paint 37 = .ok (.iload_n 3, 1) := by decide +kernel
theorem dX2_paint_38 : decode cX2_paint 38 = .ok (.ireturn, 1) := by decide +kernel
theorem dX2_isStuff_0 : decode cX2_isStuff 0 = .ok (.iload_n 1, 1) := by decide +kernel
theorem dX2_isStuff_1 : decode cX2_isStuff 1 = .ok (.ifCond .lt 20, 3) := by decide +kernel
theorem dX2_isStuff_4 : decode cX2_isStuff 4 = .ok (.iload_n 1, 1) := by decide +kernel
theorem dX2_isStuff_5 : decode cX2_isStuff 5 = .ok (.aload_n 0, 1) := by decide +kernel
theorem dX2_isStuff_6 : decode cX2_isStuff 6 = .ok (.getfield 48, 3) := by decide +kernel
theorem dX2_isStuff_9 : decode cX2_isStuff 9 = .ok (.if_icmp .ge 12, 3) := by decide +kernel
theorem dX2_isStuff_12 : decode cX2_isStuff 12 = .ok (.iload_n 1, 1) := by decide +kernel
theorem dX2_isStuff_13 : decode cX2_isStuff 13 = .ok (.iconst 4, 1) := by decide +kernel
theorem dX2_isStuff_14 : decode cX2_isStuff 14 = .ok (.if_icmp .ge 7, 3) := by decide +kernel
theorem dX2_isStuff_17 : decode cX2_isStuff 17 = .ok (.iconst 1, 1) := by decide +kernel
theorem dX2_isStuff_18 : decode cX2_isStuff 18 = .ok (.goto 4, 3) := by decide +kernel
theorem dX2_isStuff_21 : decode cX2_isStuff 21 = .ok (.iconst 0, 1) := by decide +kernel
theorem dX2_isStuff_22 : decode cX2_isStuff 22 = .ok (.ireturn, 1) := by decide +kernel
theorem dX2_isStack_0 : decode cX2_isStack 0 = .ok (.iload_n 1, 1) := by decide +kernel
theorem dX2_isStack_1 : decode cX2_isStack 1 = .ok (.iconst 0, 1) := by decide +kernel
theorem dX2_isStack_2 : decode cX2_isStack 2 = .ok (.bipush 20, 2) := by decide +kernel
theorem dX2_isStack_4 : decode cX2_isStack 4 = .ok (.invokestatic 64, 3) := by decide +kernel
theorem dX2_isStack_7 : decode cX2_isStack 7 = .ok (.ifCond .eq 29, 3) := by decide +kernel
theorem dX2_isStack_10 : decode cX2_isStack 10 = .ok (.iload_n 1, 1) := by decide +kernel
theorem dX2_isStack_11 : decode cX2_isStack 11 = .ok (.invokestatic 84, 3) := by decide +kernel
theorem dX2_isStack_14 : decode cX2_isStack 14 = .ok (.aload_n 0, 1) := by decide +kernel
theorem dX2_isStack_15 : decode cX2_isStack 15 = .ok (.getfield 48, 3) := by decide +kernel
theorem dX2_isStack_18 : decode cX2_isStack 18 = .ok (.if_icmp .ge 18, 3) := by decide +kernel
theorem dX2_isStack_21 : decode cX2_isStack 21 = .ok (.iload_n 1, 1) := by decide +kernel
theorem dX2_isStack_22 : decode cX2_isStack 22 = .ok (.invokestatic 88, 3) := by decide +kernel
theorem dX2_isStack_25 : decode cX2_isStack 25 = .ok (.aload_n 0, 1) := by decide +kernel
theorem dX2_isStack_26 : decode cX2_isStack 26 = .ok (.getfield 48, 3) := by decide +kernel
theorem dX2_isStack_29 : decode cX2_isStack 29 = .ok (.if_icmp .ge 7, 3) := by decide +kernel
theorem dX2_isStack_32 : decode cX2_isStack 32 = .ok (.iconst 1, 1) := by decide +kernel
theorem dX2_isStack_33 : decode cX2_isStack 33 = .ok (.goto 4, 3) := by decide +kernel
theorem dX2_isStack_36 : decode cX2_isStack 36 = .ok (.iconst 0, 1) := by decide +kernel
theorem dX2_isStack_37 : decode cX2_isStack 37 = .ok (.ireturn, 1) := by decide +kernel
theorem dX2_countAside_0 : decode cX2_countAside 0 = .ok (.iconst 0, 1) := by decide +kernel
theorem dX2_countAside_1 : decode cX2_countAside 1 = .ok (.istore_n 1, 1) := by decide +kernel
theorem dX2_countAside_2 : decode cX2_countAside 2 = .ok (.iconst 0, 1) := by decide +kernel
theorem dX2_countAside_3 : decode cX2_countAside 3 = .ok (.istore_n 2, 1) := by decide +kernel
theorem dX2_countAside_4 : decode cX2_countAside 4 = .ok (.iload_n 2, 1) := by decide +kernel
theorem dX2_countAside_5 : decode cX2_countAside 5 = .ok (.aload_n 0, 1) := by decide +kernel
theorem dX2_countAside_6 : decode cX2_countAside 6 = .ok (.getfield 52, 3) := by decide +kernel
theorem dX2_countAside_9 : decode cX2_countAside 9 = .ok (.if_icmp .ge 18, 3) := by decide +kernel
theorem dX2_countAside_12 : decode cX2_countAside 12 = .ok (.iload_n 1, 1) := by decide +kernel
theorem dX2_countAside_13 : decode cX2_countAside 13 = .ok (.aload_n 0, 1) := by decide +kernel
theorem dX2_countAside_14 : decode cX2_countAside 14 = .ok (.getfield 39, 3) := by decide +kernel
theorem dX2_countAside_17 : decode cX2_countAside 17 = .ok (.iload_n 2, 1) := by decide +kernel
theorem dX2_countAside_18 : decode cX2_countAside 18 = .ok (.iaload, 1) := by decide +kernel
theorem dX2_countAside_19 : decode cX2_countAside 19 = .ok (.iadd, 1) := by decide +kernel
theorem dX2_countAside_20 : decode cX2_countAside 20 = .ok (.istore_n 1, 1) := by decide +kernel
theorem dX2_countAside_21 : decode cX2_countAside 21 = .ok (.iinc 2 1, 3) := by decide +kernel
theorem dX2_countAside_24 : decode cX2_countAside 24 = .ok (.goto (-20), 3) := by decide +kernel
theorem dX2_countAside_27 : decode cX2_countAside 27 = .ok (.iload_n 1, 1) := by decide +kernel
theorem dX2_countAside_28 : decode cX2_countAside 28 = .ok (.ireturn, 1) := by decide +kernel
theorem dX2_wearOf_0 : decode cX2_wearOf 0 = .ok (.aload_n 0, 1) := by decide +kernel
theorem dX2_wearOf_1 : decode cX2_wearOf 1 = .ok (.getfield 24, 3) := by decide +kernel
theorem dX2_wearOf_4 : decode cX2_wearOf 4 = .ok (.iconst 4, 1) := by decide +kernel
theorem dX2_wearOf_5 : decode cX2_wearOf 5 = .ok (.iaload, 1) := by decide +kernel
theorem dX2_wearOf_6 : decode cX2_wearOf 6 = .ok (.aload_n 0, 1) := by decide +kernel
theorem dX2_wearOf_7 : decode cX2_wearOf 7 = .ok (.getfield 24, 3) := by decide +kernel
theorem dX2_wearOf_10 : decode cX2_wearOf 10 = .ok (.iload_n 1, 1) := by decide +kernel
theorem dX2_wearOf_11 : decode cX2_wearOf 11 = .ok (.aload_n 0, 1) := by decide +kernel
theorem dX2_wearOf_12 : decode cX2_wearOf 12 = .ok (.getfield 24, 3) := by decide +kernel
theorem dX2_wearOf_15 : decode cX2_wearOf 15 = .ok (.iconst 5, 1) := by decide +kernel
theorem dX2_wearOf_16 : decode cX2_wearOf 16 = .ok (.iaload, 1) := by decide +kernel
theorem dX2_wearOf_17 : decode cX2_wearOf 17 = .ok (.iadd, 1) := by decide +kernel
theorem dX2_wearOf_18 : decode cX2_wearOf 18 = .ok (.iconst 4, 1) := by decide +kernel
theorem dX2_wearOf_19 : decode cX2_wearOf 19 = .ok (.irem, 1) := by decide +kernel
theorem dX2_wearOf_20 : decode cX2_wearOf 20 = .ok (.iaload, 1) := by decide +kernel
theorem dX2_wearOf_21 : decode cX2_wearOf 21 = .ok (.imul, 1) := by decide +kernel
theorem dX2_wearOf_22 : decode cX2_wearOf 22 = .ok (.ireturn, 1) := by decide +kernel
theorem dX2_thickOf_0 : decode cX2_thickOf 0 = .ok (.iload_n 1, 1) := by decide +kernel
theorem dX2_thickOf_1 : decode cX2_thickOf 1 = .ok (.ifCond .lt 17, 3) := by decide +kernel
theorem dX2_thickOf_4 : decode cX2_thickOf 4 = .ok (.iload_n 1, 1) := by decide +kernel
theorem dX2_thickOf_5 : decode cX2_thickOf 5 = .ok (.iconst 4, 1) := by decide +kernel
theorem dX2_thickOf_6 : decode cX2_thickOf 6 = .ok (.if_icmp .ge 12, 3) := by decide +kernel
theorem dX2_thickOf_9 : decode cX2_thickOf 9 = .ok (.aload_n 0, 1) := by decide +kernel
theorem dX2_thickOf_10 : decode cX2_thickOf 10 = .ok (.getfield 9, 3) := by decide +kernel
theorem dX2_thickOf_13 : decode cX2_thickOf 13 = .ok (.iload_n 1, 1) := by decide +kernel
theorem dX2_thickOf_14 : decode cX2_thickOf 14 = .ok (.iaload, 1) := by decide +kernel
theorem dX2_thickOf_15 : decode cX2_thickOf 15 = .ok (.goto 4, 3) := by decide +kernel
theorem dX2_thickOf_18 : decode cX2_thickOf 18 = .ok (.iconst 0, 1) := by decide +kernel
theorem dX2_thickOf_19 : decode cX2_thickOf 19 = .ok (.ireturn, 1) := by decide +kernel
theorem dX2_upperLeft_0 : decode cX2_upperLeft 0 = .ok (.iconst 0, 1) := by decide +kernel
theorem dX2_upperLeft_1 : decode cX2_upperLeft 1 = .ok (.aload_n 0, 1) := by decide +kernel
theorem dX2_upperLeft_2 : decode cX2_upperLeft 2 = .ok (.iload_n 1, 1) := by decide +kernel
theorem dX2_upperLeft_3 : decode cX2_upperLeft 3 = .ok (.invokestatic 88, 3) := by decide +kernel
theorem dX2_upperLeft_6 : decode cX2_upperLeft 6 = .ok (.invokevirtual 91, 3) := by decide +kernel
theorem dX2_upperLeft_9 : decode cX2_upperLeft 9 = .ok (.iload_n 2, 1) := by decide +kernel
theorem dX2_upperLeft_10 : decode cX2_upperLeft 10 = .ok (.isub, 1) := by decide +kernel
theorem dX2_upperLeft_11 : decode cX2_upperLeft 11 = .ok (.invokestatic 94, 3) := by decide +kernel
theorem dX2_upperLeft_14 : decode cX2_upperLeft 14 = .ok (.ireturn, 1) := by decide +kernel
theorem dX2_groundLeft_0 : decode cX2_groundLeft 0 = .ok (.aload_n 0, 1) := by decide +kernel
theorem dX2_groundLeft_1 : decode cX2_groundLeft 1 = .ok (.iload_n 1, 1) := by decide +kernel
theorem dX2_groundLeft_2 : decode cX2_groundLeft 2 = .ok (.invokestatic 84, 3) := by decide +kernel
theorem dX2_groundLeft_5 : decode cX2_groundLeft 5 = .ok (.invokevirtual 91, 3) := by decide +kernel
theorem dX2_groundLeft_8 : decode cX2_groundLeft 8 = .ok (.istore_n 3, 1) := by decide +kernel
theorem dX2_groundLeft_9 : decode cX2_groundLeft 9 = .ok (.iload_n 3, 1) := by decide +kernel
theorem dX2_groundLeft_10 : decode cX2_groundLeft 10 = .ok (.iconst 0, 1) := by decide +kernel
theorem dX2_groundLeft_11 : decode cX2_groundLeft 11 = .ok (.iload_n 3, 1) := by decide +kernel
theorem dX2_groundLeft_12 : decode cX2_groundLeft 12 = .ok (.aload_n 0, 1) := by decide +kernel
theorem dX2_groundLeft_13 : decode cX2_groundLeft 13 = .ok (.iload_n 1, 1) := by decide +kernel
theorem dX2_groundLeft_14 : decode cX2_groundLeft 14 = .ok (.invokestatic 88, 3) := by decide +kernel
theorem dX2_groundLeft_17 : decode cX2_groundLeft 17 = .ok (.invokevirtual 91, 3) := by decide +kernel
theorem dX2_groundLeft_20 : decode cX2_groundLeft 20 = .ok (.iadd, 1) := by decide +kernel
theorem dX2_groundLeft_21 : decode cX2_groundLeft 21 = .ok (.iload_n 2, 1) := by decide +kernel
theorem dX2_groundLeft_22 : decode cX2_groundLeft 22 = .ok (.isub, 1) := by decide +kernel
theorem dX2_groundLeft_23 : decode cX2_groundLeft 23 = .ok (.invokestatic 94, 3) := by decide +kernel
theorem dX2_groundLeft_26 : decode cX2_groundLeft 26 = .ok (.invokestatic 100, 3) := by decide +kernel
theorem dX2_groundLeft_29 : decode cX2_groundLeft 29 = .ok (.ireturn, 1) := by decide +kernel
theorem dX2_stoneLost_0 : decode cX2_stoneLost 0 = .ok (.iconst 0, 1) := by decide +kernel
theorem dX2_stoneLost_1 : decode cX2_stoneLost 1 = .ok (.iload_n 2, 1) := by decide +kernel
theorem dX2_stoneLost_2 : decode cX2_stoneLost 2 = .ok (.aload_n 0, 1) := by decide +kernel
theorem dX2_stoneLost_3 : decode cX2_stoneLost 3 = .ok (.iload_n 1, 1) := by decide +kernel
theorem dX2_stoneLost_4 : decode cX2_stoneLost 4 = .ok (.invokestatic 84, 3) := by decide +kernel
theorem dX2_stoneLost_7 : decode cX2_stoneLost 7 = .ok (.invokevirtual 91, 3) := by decide +kernel
theorem dX2_stoneLost_10 : decode cX2_stoneLost 10 = .ok (.isub, 1) := by decide +kernel
theorem dX2_stoneLost_11 : decode cX2_stoneLost 11 = .ok (.aload_n 0, 1) := by decide +kernel
theorem dX2_stoneLost_12 : decode cX2_stoneLost 12 = .ok (.iload_n 1, 1) := by decide +kernel
theorem dX2_stoneLost_13 : decode cX2_stoneLost 13 = .ok (.invokestatic 88, 3) := by decide +kernel
theorem dX2_stoneLost_16 : decode cX2_stoneLost 16 = .ok (.invokevirtual 91, 3) := by decide +kernel
theorem dX2_stoneLost_19 : decode cX2_stoneLost 19 = .ok (.isub, 1) := by decide +kernel
theorem dX2_stoneLost_20 : decode cX2_stoneLost 20 = .ok (.invokestatic 94, 3) := by decide +kernel
theorem dX2_stoneLost_23 : decode cX2_stoneLost 23 = .ok (.ireturn, 1) := by decide +kernel
theorem dX2_lampsOf_0 : decode cX2_lampsOf 0 = .ok (.aload_n 0, 1) := by decide +kernel
theorem dX2_lampsOf_1 : decode cX2_lampsOf 1 = .ok (.iload_n 1, 1) := by decide +kernel
theorem dX2_lampsOf_2 : decode cX2_lampsOf 2 = .ok (.invokestatic 84, 3) := by decide +kernel
theorem dX2_lampsOf_5 : decode cX2_lampsOf 5 = .ok (.aload_n 0, 1) := by decide +kernel
theorem dX2_lampsOf_6 : decode cX2_lampsOf 6 = .ok (.iload_n 1, 1) := by decide +kernel
theorem dX2_lampsOf_7 : decode cX2_lampsOf 7 = .ok (.iload_n 2, 1) := by decide +kernel
theorem dX2_lampsOf_8 : decode cX2_lampsOf 8 = .ok (.invokevirtual 103, 3) := by decide +kernel
theorem dX2_lampsOf_11 : decode cX2_lampsOf 11 = .ok (.invokevirtual 106, 3) := by decide +kernel
theorem dX2_lampsOf_14 : decode cX2_lampsOf 14 = .ok (.aload_n 0, 1) := by decide +kernel
theorem dX2_lampsOf_15 : decode cX2_lampsOf 15 = .ok (.iload_n 1, 1) := by decide +kernel
theorem dX2_lampsOf_16 : decode cX2_lampsOf 16 = .ok (.invokestatic 88, 3) := by decide +kernel
theorem dX2_lampsOf_19 : decode cX2_lampsOf 19 = .ok (.aload_n 0, 1) := by decide +kernel
theorem dX2_lampsOf_20 : decode cX2_lampsOf 20 = .ok (.iload_n 1, 1) := by decide +kernel
theorem dX2_lampsOf_21 : decode cX2_lampsOf 21 = .ok (.iload_n 2, 1) := by decide +kernel
theorem dX2_lampsOf_22 : decode cX2_lampsOf 22 = .ok (.invokevirtual 109, 3) := by decide +kernel
theorem dX2_lampsOf_25 : decode cX2_lampsOf 25 = .ok (.invokevirtual 106, 3) := by decide +kernel
theorem dX2_lampsOf_28 : decode cX2_lampsOf 28 = .ok (.ior, 1) := by decide +kernel
theorem dX2_lampsOf_29 : decode cX2_lampsOf 29 = .ok (.ireturn, 1) := by decide +kernel
theorem dX2_lampsOfCoat_0 : decode cX2_lampsOfCoat 0 = .ok (.aload_n 0, 1) := by decide +kernel
theorem dX2_lampsOfCoat_1 : decode cX2_lampsOfCoat 1 = .ok (.iload_n 1, 1) := by decide +kernel
theorem dX2_lampsOfCoat_2 : decode cX2_lampsOfCoat 2 = .ok (.invokevirtual 81, 3) := by decide +kernel
theorem dX2_lampsOfCoat_5 : decode cX2_lampsOfCoat 5 = .ok (.ifCond .eq 22, 3) := by decide +kernel
theorem dX2_lampsOfCoat_8 : decode cX2_lampsOfCoat 8 = .ok (.iload_n 2, 1) := by decide +kernel
theorem dX2_lampsOfCoat_9 : decode cX2_lampsOfCoat 9 = .ok (.aload_n 0, 1) := by decide +kernel
theorem dX2_lampsOfCoat_10 : decode cX2_lampsOfCoat 10 = .ok (.getfield 21, 3) := by decide +kernel
theorem dX2_lampsOfCoat_13 : decode cX2_lampsOfCoat 13 = .ok (.iload_n 1, 1) := by decide +kernel
theorem dX2_lampsOfCoat_14 : decode cX2_lampsOfCoat 14 = .ok (.iaload, 1) := by decide +kernel
theorem dX2_lampsOfCoat_15 : decode cX2_lampsOfCoat 15 = .ok (.if_icmp .lt 12, 3) := by decide +kernel
theorem dX2_lampsOfCoat_18 : decode cX2_lampsOfCoat 18 = .ok (.aload_n 0, 1) := by decide +kernel
theorem dX2_lampsOfCoat_19 : decode cX2_lampsOfCoat 19 = .ok (.getfield 18, 3) := by decide +kernel
theorem dX2_lampsOfCoat_22 : decode cX2_lampsOfCoat 22 = .ok (.iload_n 1, 1) := by decide +kernel
theorem dX2_lampsOfCoat_23 : decode cX2_lampsOfCoat 23 = .ok (.iaload, 1) := by decide +kernel
theorem dX2_lampsOfCoat_24 : decode cX2_lampsOfCoat 24 = .ok (.goto 4, 3) := by decide +kernel
theorem dX2_lampsOfCoat_27 : decode cX2_lampsOfCoat 27 = .ok (.iconst 0, 1) := by decide +kernel
theorem dX2_lampsOfCoat_28 : decode cX2_lampsOfCoat 28 = .ok (.ireturn, 1) := by decide +kernel
theorem dX2_grainsOf_0 : decode cX2_grainsOf 0 = .ok (.aload_n 0, 1) := by decide +kernel
theorem dX2_grainsOf_1 : decode cX2_grainsOf 1 = .ok (.iload_n 1, 1) := by decide +kernel
theorem dX2_grainsOf_2 : decode cX2_grainsOf 2 = .ok (.iload_n 2, 1) := by decide +kernel
theorem dX2_grainsOf_3 : decode cX2_grainsOf 3 = .ok (.invokevirtual 103, 3) := by decide +kernel
theorem dX2_grainsOf_6 : decode cX2_grainsOf 6 = .ok (.ifCond .le 12, 3) := by decide +kernel
theorem dX2_grainsOf_9 : decode cX2_grainsOf 9 = .ok (.iconst 1, 1) := by decide +kernel
theorem dX2_grainsOf_10 : decode cX2_grainsOf 10 = .ok (.iload_n 1, 1) := by decide +kernel
theorem dX2_grainsOf_11 : decode cX2_grainsOf 11 = .ok (.invokestatic 84, 3) := by decide +kernel
theorem dX2_grainsOf_14 : decode cX2_grainsOf 14 = .ok (.ishl, 1) := by decide +kernel
theorem dX2_grainsOf_15 : decode cX2_grainsOf 15 = .ok (.goto 4, 3) := by decide +kernel
theorem dX2_grainsOf_18 : decode cX2_grainsOf 18 = .ok (.iconst 0, 1) := by decide +kernel
theorem dX2_grainsOf_19 : decode cX2_grainsOf 19 = .ok (.istore_n 3, 1) := by decide +kernel
theorem dX2_grainsOf_20 : decode cX2_grainsOf 20 = .ok (.aload_n 0, 1) := by decide +kernel
theorem dX2_grainsOf_21 : decode cX2_grainsOf 21 = .ok (.iload_n 1, 1) := by decide +kernel
theorem dX2_grainsOf_22 : decode cX2_grainsOf 22 = .ok (.iload_n 2, 1) := by decide +kernel
theorem dX2_grainsOf_23 : decode cX2_grainsOf 23 = .ok (.invokevirtual 109, 3) := by decide +kernel
theorem dX2_grainsOf_26 : decode cX2_grainsOf 26 = .ok (.ifCond .le 12, 3) := by decide +kernel
theorem dX2_grainsOf_29 : decode cX2_grainsOf 29 = .ok (.iconst 1, 1) := by decide +kernel
theorem dX2_grainsOf_30 : decode cX2_grainsOf 30 = .ok (.iload_n 1, 1) := by decide +kernel
theorem dX2_grainsOf_31 : decode cX2_grainsOf 31 = .ok (.invokestatic 88, 3) := by decide +kernel
theorem dX2_grainsOf_34 : decode cX2_grainsOf 34 = .ok (.ishl, 1) := by decide +kernel
theorem dX2_grainsOf_35 : decode cX2_grainsOf 35 = .ok (.goto 4, 3) := by decide +kernel
theorem dX2_grainsOf_38 : decode cX2_grainsOf 38 = .ok (.iconst 0, 1) := by decide +kernel
theorem dX2_grainsOf_39 : decode cX2_grainsOf 39 = .ok (.istore 4, 2) := by decide +kernel
theorem dX2_grainsOf_41 : decode cX2_grainsOf 41 = .ok (.iload_n 3, 1) := by decide +kernel
theorem dX2_grainsOf_42 : decode cX2_grainsOf 42 = .ok (.iload 4, 2) := by decide +kernel
theorem dX2_grainsOf_44 : decode cX2_grainsOf 44 = .ok (.ior, 1) := by decide +kernel
theorem dX2_grainsOf_45 : decode cX2_grainsOf 45 = .ok (.ireturn, 1) := by decide +kernel
theorem dX2_brightOf_0 : decode cX2_brightOf 0 = .ok (.iload_n 1, 1) := by decide +kernel
theorem dX2_brightOf_1 : decode cX2_brightOf 1 = .ok (.invokestatic 112, 3) := by decide +kernel
theorem dX2_brightOf_4 : decode cX2_brightOf 4 = .ok (.istore_n 2, 1) := by decide +kernel
theorem dX2_brightOf_5 : decode cX2_brightOf 5 = .ok (.aload_n 0, 1) := by decide +kernel
theorem dX2_brightOf_6 : decode cX2_brightOf 6 = .ok (.iload_n 2, 1) := by decide +kernel
theorem dX2_brightOf_7 : decode cX2_brightOf 7 = .ok (.invokevirtual 81, 3) := by decide +kernel
theorem dX2_brightOf_10 : decode cX2_brightOf 10 = .ok (.ifCond .eq 12, 3) := by decide +kernel
theorem dX2_brightOf_13 : decode cX2_brightOf 13 = .ok (.aload_n 0, 1) := by decide +kernel
theorem dX2_brightOf_14 : decode cX2_brightOf 14 = .ok (.getfield 15, 3) := by decide +kernel
theorem dX2_brightOf_17 : decode cX2_brightOf 17 = .ok (.iload_n 2, 1) := by decide +kernel
theorem dX2_brightOf_18 : decode cX2_brightOf 18 = .ok (.iaload, 1) := by decide +kernel
theorem dX2_brightOf_19 : decode cX2_brightOf 19 = .ok (.goto 5, 3) := by decide +kernel
theorem dX2_brightOf_22 : decode cX2_brightOf 22 = .ok (.bipush 9, 2) := by decide +kernel
theorem dX2_brightOf_24 : decode cX2_brightOf 24 = .ok (.ireturn, 1) := by decide +kernel
theorem dX2_mix_0 : decode cX2_mix 0 = .ok (.lload_n 1, 1) := by decide +kernel
theorem dX2_mix_1 : decode cX2_mix 1 = .ok (.lstore_n 3, 1) := by decide +kernel
theorem dX2_mix_2 : decode cX2_mix 2 = .ok (.iconst 0, 1) := by decide +kernel
theorem dX2_mix_3 : decode cX2_mix 3 = .ok (.istore 5, 2) := by decide +kernel
theorem dX2_mix_5 : decode cX2_mix 5 = .ok (.iload 5, 2) := by decide +kernel
theorem dX2_mix_7 : decode cX2_mix 7 = .ok (.aload_n 0, 1) := by decide +kernel
theorem dX2_mix_8 : decode cX2_mix 8 = .ok (.getfield 48, 3) := by decide +kernel
theorem dX2_mix_11 : decode cX2_mix 11 = .ok (.if_icmp .ge 69, 3) := by decide +kernel
theorem dX2_mix_14 : decode cX2_mix 14 = .ok (.ldc2_w 115, 3) := by decide +kernel
theorem dX2_mix_17 : decode cX2_mix 17 = .ok (.lload_n 3, 1) := by decide +kernel
theorem dX2_mix_18 : decode cX2_mix 18 = .ok (.lmul, 1) := by decide +kernel
theorem dX2_mix_19 : decode cX2_mix 19 = .ok (.aload_n 0, 1) := by decide +kernel
theorem dX2_mix_20 : decode cX2_mix 20 = .ok (.getfield 9, 3) := by decide +kernel
theorem dX2_mix_23 : decode cX2_mix 23 = .ok (.iload 5, 2) := by decide +kernel
theorem dX2_mix_25 : decode cX2_mix 25 = .ok (.iaload, 1) := by decide +kernel
theorem dX2_mix_26 : decode cX2_mix 26 = .ok (.i2l, 1) := by decide +kernel
theorem dX2_mix_27 : decode cX2_mix 27 = .ok (.ladd, 1) := by decide +kernel
theorem dX2_mix_28 : decode cX2_mix 28 = .ok (.lstore_n 3, 1) := by decide +kernel
theorem dX2_mix_29 : decode cX2_mix 29 = .ok (.ldc2_w 115, 3) := by decide +kernel
theorem dX2_mix_32 : decode cX2_mix 32 = .ok (.lload_n 3, 1) := by decide +kernel
theorem dX2_mix_33 : decode cX2_mix 33 = .ok (.lmul, 1) := by decide +kernel
theorem dX2_mix_34 : decode cX2_mix 34 = .ok (.aload_n 0, 1) := by decide +kernel
theorem dX2_mix_35 : decode cX2_mix 35 = .ok (.getfield 15, 3) := by decide +kernel
theorem dX2_mix_38 : decode cX2_mix 38 = .ok (.iload 5, 2) := by decide +kernel
theorem dX2_mix_40 : decode cX2_mix 40 = .ok (.iaload, 1) := by decide +kernel
theorem dX2_mix_41 : decode cX2_mix 41 = .ok (.i2l, 1) := by decide +kernel
theorem dX2_mix_42 : decode cX2_mix 42 = .ok (.ladd, 1) := by decide +kernel
theorem dX2_mix_43 : decode cX2_mix 43 = .ok (.lstore_n 3, 1) := by decide +kernel
theorem dX2_mix_44 : decode cX2_mix 44 = .ok (.ldc2_w 115, 3) := by decide +kernel
theorem dX2_mix_47 : decode cX2_mix 47 = .ok (.lload_n 3, 1) := by decide +kernel
theorem dX2_mix_48 : decode cX2_mix 48 = .ok (.lmul, 1) := by decide +kernel
theorem dX2_mix_49 : decode cX2_mix 49 = .ok (.aload_n 0, 1) := by decide +kernel
theorem dX2_mix_50 : decode cX2_mix 50 = .ok (.getfield 18, 3) := by decide +kernel
theorem dX2_mix_53 : decode cX2_mix 53 = .ok (.iload 5, 2) := by decide +kernel
theorem dX2_mix_55 : decode cX2_mix 55 = .ok (.iaload, 1) := by decide +kernel
theorem dX2_mix_56 : decode cX2_mix 56 = .ok (.i2l, 1) := by decide +kernel
theorem dX2_mix_57 : decode cX2_mix 57 = .ok (.ladd, 1) := by decide +kernel
theorem dX2_mix_58 : decode cX2_mix 58 = .ok (.lstore_n 3, 1) := by decide +kernel
theorem dX2_mix_59 : decode cX2_mix 59 = .ok (.ldc2_w 115, 3) := by decide +kernel
theorem dX2_mix_62 : decode cX2_mix 62 = .ok (.lload_n 3, 1) := by decide +kernel
theorem dX2_mix_63 : decode cX2_mix 63 = .ok (.lmul, 1) := by decide +kernel
theorem dX2_mix_64 : decode cX2_mix 64 = .ok (.aload_n 0, 1) := by decide +kernel
theorem dX2_mix_65 : decode cX2_mix 65 = .ok (.getfield 21, 3) := by decide +kernel
theorem dX2_mix_68 : decode cX2_mix 68 = .ok (.iload 5, 2) := by decide +kernel
theorem dX2_mix_70 : decode cX2_mix 70 = .ok (.iaload, 1) := by decide +kernel
theorem dX2_mix_71 : decode cX2_mix 71 = .ok (.i2l, 1) := by decide +kernel
theorem dX2_mix_72 : decode cX2_mix 72 = .ok (.ladd, 1) := by decide +kernel
theorem dX2_mix_73 : decode cX2_mix 73 = .ok (.lstore_n 3, 1) := by decide +kernel
theorem dX2_mix_74 : decode cX2_mix 74 = .ok (.iinc 5 1, 3) := by decide +kernel
theorem dX2_mix_77 : decode cX2_mix 77 = .ok (.goto (-72), 3) := by decide +kernel
theorem dX2_mix_80 : decode cX2_mix 80 = .ok (.iconst 0, 1) := by decide +kernel
theorem dX2_mix_81 : decode cX2_mix 81 = .ok (.istore 5, 2) := by decide +kernel
theorem dX2_mix_83 : decode cX2_mix 83 = .ok (.iload 5, 2) := by decide +kernel
theorem dX2_mix_85 : decode cX2_mix 85 = .ok (.bipush 7, 2) := by decide +kernel
theorem dX2_mix_87 : decode cX2_mix 87 = .ok (.if_icmp .ge 24, 3) := by decide +kernel
theorem dX2_mix_90 : decode cX2_mix 90 = .ok (.ldc2_w 115, 3) := by decide +kernel
theorem dX2_mix_93 : decode cX2_mix 93 = .ok (.lload_n 3, 1) := by decide +kernel
theorem dX2_mix_94 : decode cX2_mix 94 = .ok (.lmul, 1) := by decide +kernel
theorem dX2_mix_95 : decode cX2_mix 95 = .ok (.aload_n 0, 1) := by decide +kernel
theorem dX2_mix_96 : decode cX2_mix 96 = .ok (.getfield 24, 3) := by decide +kernel
theorem dX2_mix_99 : decode cX2_mix 99 = .ok (.iload 5, 2) := by decide +kernel
theorem dX2_mix_101 : decode cX2_mix 101 = .ok (.iaload, 1) := by decide +kernel
theorem dX2_mix_102 : decode cX2_mix 102 = .ok (.i2l, 1) := by decide +kernel
theorem dX2_mix_103 : decode cX2_mix 103 = .ok (.ladd, 1) := by decide +kernel
theorem dX2_mix_104 : decode cX2_mix 104 = .ok (.lstore_n 3, 1) := by decide +kernel
theorem dX2_mix_105 : decode cX2_mix 105 = .ok (.iinc 5 1, 3) := by decide +kernel
theorem dX2_mix_108 : decode cX2_mix 108 = .ok (.goto (-25), 3) := by decide +kernel
theorem dX2_mix_111 : decode cX2_mix 111 = .ok (.iconst 0, 1) := by decide +kernel
theorem dX2_mix_112 : decode cX2_mix 112 = .ok (.istore 5, 2) := by decide +kernel
theorem dX2_mix_114 : decode cX2_mix 114 = .ok (.iload 5, 2) := by decide +kernel
theorem dX2_mix_116 : decode cX2_mix 116 = .ok (.bipush 21, 2) := by decide +kernel
theorem dX2_mix_118 : decode cX2_mix 118 = .ok (.if_icmp .ge 24, 3) := by decide +kernel
theorem dX2_mix_121 : decode cX2_mix 121 = .ok (.ldc2_w 115, 3) := by decide +kernel
theorem dX2_mix_124 : decode cX2_mix 124 = .ok (.lload_n 3, 1) := by decide +kernel
theorem dX2_mix_125 : decode cX2_mix 125 = .ok (.lmul, 1) := by decide +kernel
theorem dX2_mix_126 : decode cX2_mix 126 = .ok (.aload_n 0, 1) := by decide +kernel
theorem dX2_mix_127 : decode cX2_mix 127 = .ok (.getfield 27, 3) := by decide +kernel
theorem dX2_mix_130 : decode cX2_mix 130 = .ok (.iload 5, 2) := by decide +kernel
theorem dX2_mix_132 : decode cX2_mix 132 = .ok (.iaload, 1) := by decide +kernel
theorem dX2_mix_133 : decode cX2_mix 133 = .ok (.i2l, 1) := by decide +kernel
theorem dX2_mix_134 : decode cX2_mix 134 = .ok (.ladd, 1) := by decide +kernel
theorem dX2_mix_135 : decode cX2_mix 135 = .ok (.lstore_n 3, 1) := by decide +kernel
theorem dX2_mix_136 : decode cX2_mix 136 = .ok (.iinc 5 1, 3) := by decide +kernel
theorem dX2_mix_139 : decode cX2_mix 139 = .ok (.goto (-25), 3) := by decide +kernel
theorem dX2_mix_142 : decode cX2_mix 142 = .ok (.iconst 0, 1) := by decide +kernel
theorem dX2_mix_143 : decode cX2_mix 143 = .ok (.istore 5, 2) := by decide +kernel
theorem dX2_mix_145 : decode cX2_mix 145 = .ok (.iload 5, 2) := by decide +kernel
theorem dX2_mix_147 : decode cX2_mix 147 = .ok (.aload_n 0, 1) := by decide +kernel
theorem dX2_mix_148 : decode cX2_mix 148 = .ok (.getfield 52, 3) := by decide +kernel
theorem dX2_mix_151 : decode cX2_mix 151 = .ok (.if_icmp .ge 69, 3) := by decide +kernel
theorem dX2_mix_154 : decode cX2_mix 154 = .ok (.ldc2_w 115, 3) := by decide +kernel
theorem dX2_mix_157 : decode cX2_mix 157 = .ok (.lload_n 3, 1) := by decide +kernel
theorem dX2_mix_158 : decode cX2_mix 158 = .ok (.lmul, 1) := by decide +kernel
theorem dX2_mix_159 : decode cX2_mix 159 = .ok (.aload_n 0, 1) := by decide +kernel
theorem dX2_mix_160 : decode cX2_mix 160 = .ok (.getfield 30, 3) := by decide +kernel
theorem dX2_mix_163 : decode cX2_mix 163 = .ok (.iload 5, 2) := by decide +kernel
theorem dX2_mix_165 : decode cX2_mix 165 = .ok (.iaload, 1) := by decide +kernel
theorem dX2_mix_166 : decode cX2_mix 166 = .ok (.i2l, 1) := by decide +kernel
theorem dX2_mix_167 : decode cX2_mix 167 = .ok (.ladd, 1) := by decide +kernel
theorem dX2_mix_168 : decode cX2_mix 168 = .ok (.lstore_n 3, 1) := by decide +kernel
theorem dX2_mix_169 : decode cX2_mix 169 = .ok (.ldc2_w 115, 3) := by decide +kernel
theorem dX2_mix_172 : decode cX2_mix 172 = .ok (.lload_n 3, 1) := by decide +kernel
theorem dX2_mix_173 : decode cX2_mix 173 = .ok (.lmul, 1) := by decide +kernel
theorem dX2_mix_174 : decode cX2_mix 174 = .ok (.aload_n 0, 1) := by decide +kernel
theorem dX2_mix_175 : decode cX2_mix 175 = .ok (.getfield 33, 3) := by decide +kernel
theorem dX2_mix_178 : decode cX2_mix 178 = .ok (.iload 5, 2) := by decide +kernel
theorem dX2_mix_180 : decode cX2_mix 180 = .ok (.iaload, 1) := by decide +kernel
theorem dX2_mix_181 : decode cX2_mix 181 = .ok (.i2l, 1) := by decide +kernel
theorem dX2_mix_182 : decode cX2_mix 182 = .ok (.ladd, 1) := by decide +kernel
theorem dX2_mix_183 : decode cX2_mix 183 = .ok (.lstore_n 3, 1) := by decide +kernel
theorem dX2_mix_184 : decode cX2_mix 184 = .ok (.ldc2_w 115, 3) := by decide +kernel
theorem dX2_mix_187 : decode cX2_mix 187 = .ok (.lload_n 3, 1) := by decide +kernel
theorem dX2_mix_188 : decode cX2_mix 188 = .ok (.lmul, 1) := by decide +kernel
theorem dX2_mix_189 : decode cX2_mix 189 = .ok (.aload_n 0, 1) := by decide +kernel
theorem dX2_mix_190 : decode cX2_mix 190 = .ok (.getfield 36, 3) := by decide +kernel
theorem dX2_mix_193 : decode cX2_mix 193 = .ok (.iload 5, 2) := by decide +kernel
theorem dX2_mix_195 : decode cX2_mix 195 = .ok (.iaload, 1) := by decide +kernel
theorem dX2_mix_196 : decode cX2_mix 196 = .ok (.i2l, 1) := by decide +kernel
theorem dX2_mix_197 : decode cX2_mix 197 = .ok (.ladd, 1) := by decide +kernel
theorem dX2_mix_198 : decode cX2_mix 198 = .ok (.lstore_n 3, 1) := by decide +kernel
theorem dX2_mix_199 : decode cX2_mix 199 = .ok (.ldc2_w 115, 3) := by decide +kernel
theorem dX2_mix_202 : decode cX2_mix 202 = .ok (.lload_n 3, 1) := by decide +kernel
theorem dX2_mix_203 : decode cX2_mix 203 = .ok (.lmul, 1) := by decide +kernel
theorem dX2_mix_204 : decode cX2_mix 204 = .ok (.aload_n 0, 1) := by decide +kernel
theorem dX2_mix_205 : decode cX2_mix 205 = .ok (.getfield 39, 3) := by decide +kernel
theorem dX2_mix_208 : decode cX2_mix 208 = .ok (.iload 5, 2) := by decide +kernel
theorem dX2_mix_210 : decode cX2_mix 210 = .ok (.iaload, 1) := by decide +kernel
theorem dX2_mix_211 : decode cX2_mix 211 = .ok (.i2l, 1) := by decide +kernel
theorem dX2_mix_212 : decode cX2_mix 212 = .ok (.ladd, 1) := by decide +kernel
theorem dX2_mix_213 : decode cX2_mix 213 = .ok (.lstore_n 3, 1) := by decide +kernel
theorem dX2_mix_214 : decode cX2_mix 214 = .ok (.iinc 5 1, 3) := by decide +kernel
theorem dX2_mix_217 : decode cX2_mix 217 = .ok (.goto (-72), 3) := by decide +kernel
theorem dX2_mix_220 : decode cX2_mix 220 = .ok (.iconst 0, 1) := by decide +kernel
theorem dX2_mix_221 : decode cX2_mix 221 = .ok (.istore 5, 2) := by decide +kernel
theorem dX2_mix_223 : decode cX2_mix 223 = .ok (.iload 5, 2) := by decide +kernel
theorem dX2_mix_225 : decode cX2_mix 225 = .ok (.bipush 48, 2) := by decide +kernel
theorem dX2_mix_227 : decode cX2_mix 227 = .ok (.if_icmp .ge 24, 3) := by decide +kernel
theorem dX2_mix_230 : decode cX2_mix 230 = .ok (.ldc2_w 115, 3) := by decide +kernel
theorem dX2_mix_233 : decode cX2_mix 233 = .ok (.lload_n 3, 1) := by decide +kernel
theorem dX2_mix_234 : decode cX2_mix 234 = .ok (.lmul, 1) := by decide +kernel
theorem dX2_mix_235 : decode cX2_mix 235 = .ok (.aload_n 0, 1) := by decide +kernel
theorem dX2_mix_236 : decode cX2_mix 236 = .ok (.getfield 42, 3) := by decide +kernel
theorem dX2_mix_239 : decode cX2_mix 239 = .ok (.iload 5, 2) := by decide +kernel
theorem dX2_mix_241 : decode cX2_mix 241 = .ok (.iaload, 1) := by decide +kernel
theorem dX2_mix_242 : decode cX2_mix 242 = .ok (.i2l, 1) := by decide +kernel
theorem dX2_mix_243 : decode cX2_mix 243 = .ok (.ladd, 1) := by decide +kernel
theorem dX2_mix_244 : decode cX2_mix 244 = .ok (.lstore_n 3, 1) := by decide +kernel
theorem dX2_mix_245 : decode cX2_mix 245 = .ok (.iinc 5 1, 3) := by decide +kernel
theorem dX2_mix_248 : decode cX2_mix 248 = .ok (.goto (-25), 3) := by decide +kernel
theorem dX2_mix_251 : decode cX2_mix 251 = .ok (.lload_n 3, 1) := by decide +kernel
theorem dX2_mix_252 : decode cX2_mix 252 = .ok (.lreturn, 1) := by decide +kernel
theorem dX3_init_0 : decode cX3_init 0 = .ok (.aload_n 0, 1) := by decide +kernel
theorem dX3_init_1 : decode cX3_init 1 = .ok (.invokespecial 3, 3) := by decide +kernel
theorem dX3_init_4 : decode cX3_init 4 = .ok (.aload_n 0, 1) := by decide +kernel
theorem dX3_init_5 : decode cX3_init 5 = .ok (.sipush 300, 3) := by decide +kernel
theorem dX3_init_8 : decode cX3_init 8 = .ok (.newarray .byte, 2) := by decide +kernel
theorem dX3_init_10 : decode cX3_init 10 = .ok (.putfield 9, 3) := by decide +kernel
theorem dX3_init_13 : decode cX3_init 13 = .ok (.aload_n 0, 1) := by decide +kernel
theorem dX3_init_14 : decode cX3_init 14 = .ok (.iconst 4, 1) := by decide +kernel
theorem dX3_init_15 : decode cX3_init 15 = .ok (.newarray .int, 2) := by decide +kernel
theorem dX3_init_17 : decode cX3_init 17 = .ok (.putfield 15, 3) := by decide +kernel
theorem dX3_init_20 : decode cX3_init 20 = .ok (.return_, 1) := by decide +kernel
theorem dX3_write_0 : decode cX3_write 0 = .ok (.iload_n 3, 1) := by decide +kernel
theorem dX3_write_1 : decode cX3_write 1 = .ok (.iconst 1, 1) := by decide +kernel
theorem dX3_write_2 : decode cX3_write 2 = .ok (.bipush 8, 2) := by decide +kernel
theorem dX3_write_4 : decode cX3_write 4 = .ok (.invokestatic 19, 3) := by decide +kernel
theorem dX3_write_7 : decode cX3_write 7 = .ok (.ifCond .ne 6, 3) := by decide +kernel
theorem dX3_write_10 : decode cX3_write 10 = .ok (.bipush (-2), 2) := by decide +kernel
theorem dX3_write_12 : decode cX3_write 12 = .ok (.ireturn, 1) := by decide +kernel
theorem dX3_write_13 : decode cX3_write 13 = .ok (.aload_n 0, 1) := by decide +kernel
theorem dX3_write_14 : decode cX3_write 14 = .ok (.getfield 23, 3) := by decide +kernel
theorem dX3_write_17 : decode cX3_write 17 = .ok (.iload_n 3, 1) := by decide +kernel
theorem dX3_write_18 : decode cX3_write 18 = .ok (.iadd, 1) := by decide +kernel
theorem dX3_write_19 : decode cX3_write 19 = .ok (.sipush 300, 3) := by decide +kernel
theorem dX3_write_22 : decode cX3_write 22 = .ok (.if_icmp .le 6, 3) := by decide +kernel
theorem dX3_write_25 : decode cX3_write 25 = .ok (.bipush (-4), 2) := by decide +kernel
theorem dX3_write_27 : decode cX3_write 27 = .ok (.ireturn, 1) := by decide +kernel
theorem dX3_write_28 : decode cX3_write 28 = .ok (.iload_n 3, 1) := by decide +kernel
theorem dX3_write_29 : decode cX3_write 29 = .ok (.iconst 1, 1) := by decide +kernel
theorem dX3_write_30 : decode cX3_write 30 = .ok (.isub, 1) := by decide +kernel
theorem dX3_write_31 : decode cX3_write 31 = .ok (.istore 4, 2) := by decide +kernel
theorem dX3_write_33 : decode cX3_write 33 = .ok (.iload 4, 2) := by decide +kernel
theorem dX3_write_35 : decode cX3_write 35 = .ok (.ifCond .lt 34, 3) := by decide +kernel
theorem dX3_write_38 : decode cX3_write 38 = .ok (.aload_n 0, 1) := by decide +kernel
theorem dX3_write_39 : decode cX3_write 39 = .ok (.getfield 9, 3) := by decide +kernel
theorem dX3_write_42 : decode cX3_write 42 = .ok (.aload_n 0, 1) := by decide +kernel
theorem dX3_write_43 : decode cX3_write 43 = .ok (.dup, 1) := by decide +kernel
theorem dX3_write_44 : decode cX3_write 44 = .ok (.getfield 23, 3) := by decide +kernel
theorem dX3_write_47 : decode cX3_write 47 = .ok (.dup_x1, 1) := by decide +kernel
theorem dX3_write_48 : decode cX3_write 48 = .ok (.iconst 1, 1) := by decide +kernel
theorem dX3_write_49 : decode cX3_write 49 = .ok (.iadd, 1) := by decide +kernel
theorem dX3_write_50 : decode cX3_write 50 = .ok (.putfield 23, 3) := by decide +kernel
theorem dX3_write_53 : decode cX3_write 53 = .ok (.lload_n 1, 1) := by decide +kernel
theorem dX3_write_54 : decode cX3_write 54 = .ok (.bipush 8, 2) := by decide +kernel
theorem dX3_write_56 : decode cX3_write 56 = .ok (.iload 4, 2) := by decide +kernel
theorem dX3_write_58 : decode cX3_write 58 = .ok (.imul, 1) := by decide +kernel
theorem dX3_write_59 : decode cX3_write 59 = .ok (.lushr, 1) := by decide +kernel
theorem dX3_write_60 : decode cX3_write 60 = .ok (.l2i, 1) := by decide +kernel
theorem dX3_write_61 : decode cX3_write 61 = .ok (.i2b, 1) := by decide +kernel
theorem dX3_write_62 : decode cX3_write 62 = .ok (.bastore, 1) := by decide +kernel
theorem dX3_write_63 : decode cX3_write 63 = .ok (.iinc 4 (-1), 3) := by decide +kernel
theorem dX3_write_66 : decode cX3_write 66 = .ok (.goto (-33), 3) := by decide +kernel
theorem dX3_write_69 : decode cX3_write 69 = .ok (.aload_n 0, 1) := by decide +kernel
theorem dX3_write_70 : decode cX3_write 70 = .ok (.getfield 23, 3) := by decide +kernel
theorem dX3_write_73 : decode cX3_write 73 = .ok (.ireturn, 1) := by decide +kernel
theorem dX3_wipe_0 : decode cX3_wipe 0 = .ok (.aload_n 0, 1) := by decide +kernel
theorem dX3_wipe_1 : decode cX3_wipe 1 = .ok (.getfield 23, 3) := by decide +kernel
theorem dX3_wipe_4 : decode cX3_wipe 4 = .ok (.istore_n 1, 1) := by decide +kernel
theorem dX3_wipe_5 : decode cX3_wipe 5 = .ok (.aload_n 0, 1) := by decide +kernel
theorem dX3_wipe_6 : decode cX3_wipe 6 = .ok (.iconst 0, 1) := by decide +kernel
theorem dX3_wipe_7 : decode cX3_wipe 7 = .ok (.putfield 23, 3) := by decide +kernel
theorem dX3_wipe_10 : decode cX3_wipe 10 = .ok (.iload_n 1, 1) := by decide +kernel
theorem dX3_wipe_11 : decode cX3_wipe 11 = .ok (.ireturn, 1) := by decide +kernel
theorem dX3_tell_0 : decode cX3_tell 0 = .ok (.aload_n 1, 1) := by decide +kernel
theorem dX3_tell_1 : decode cX3_tell 1 = .ok (.invokevirtual 27, 3) := by decide +kernel
theorem dX3_tell_4 : decode cX3_tell 4 = .ok (.iconst 0, 1) := by decide +kernel
theorem dX3_tell_5 : decode cX3_tell 5 = .ok (.istore_n 2, 1) := by decide +kernel
theorem dX3_tell_6 : decode cX3_tell 6 = .ok (.iconst (-1), 1) := by decide +kernel
theorem dX3_tell_7 : decode cX3_tell 7 = .ok (.istore_n 3, 1) := by decide +kernel
theorem dX3_tell_8 : decode cX3_tell 8 = .ok (.aload_n 0, 1) := by decide +kernel
theorem dX3_tell_9 : decode cX3_tell 9 = .ok (.iconst 0, 1) := by decide +kernel
theorem dX3_tell_10 : decode cX3_tell 10 = .ok (.putfield 32, 3) := by decide +kernel
theorem dX3_tell_13 : decode cX3_tell 13 = .ok (.aload_n 0, 1) := by decide +kernel
theorem dX3_tell_14 : decode cX3_tell 14 = .ok (.invokevirtual 35, 3) := by decide +kernel
theorem dX3_tell_17 : decode cX3_tell 17 = .ok (.iconst 0, 1) := by decide +kernel
theorem dX3_tell_18 : decode cX3_tell 18 = .ok (.istore 4, 2) := by decide +kernel
theorem dX3_tell_20 : decode cX3_tell 20 = .ok (.iload 4, 2) := by decide +kernel
theorem dX3_tell_22 : decode cX3_tell 22 = .ok (.sipush 300, 3) := by decide +kernel
theorem dX3_tell_25 : decode cX3_tell 25 = .ok (.if_icmp .ge 73, 3) := by decide +kernel
theorem dX3_tell_28 : decode cX3_tell 28 = .ok (.aload_n 0, 1) := by decide +kernel
theorem dX3_tell_29 : decode cX3_tell 29 = .ok (.getfield 38, 3) := by decide +kernel
theorem dX3_tell_32 : decode cX3_tell 32 = .ok (.ifCond .eq 66, 3) := by decide +kernel
theorem dX3_tell_35 : decode cX3_tell 35 = .ok (.aload_n 0, 1) := by decide +kernel
theorem dX3_tell_36 : decode cX3_tell 36 = .ok (.getfield 38, 3) := by decide +kernel
theorem dX3_tell_39 : decode cX3_tell 39 = .ok (.iconst 1, 1) := by decide +kernel
theorem dX3_tell_40 : decode cX3_tell 40 = .ok (.if_icmp .ne 10, 3) := by decide +kernel
theorem dX3_tell_43 : decode cX3_tell 43 = .ok (.aload_n 0, 1) := by decide +kernel
theorem dX3_tell_44 : decode cX3_tell 44 = .ok (.getfield 41, 3) := by decide +kernel
theorem dX3_tell_47 : decode cX3_tell 47 = .ok (.goto 4, 3) := by decide +kernel
theorem dX3_tell_50 : decode cX3_tell 50 = .ok (.iconst (-1), 1) := by decide +kernel
theorem dX3_tell_51 : decode cX3_tell 51 = .ok (.istore 5, 2) := by decide +kernel
theorem dX3_tell_53 : decode cX3_tell 53 = .ok (.aload_n 0, 1) := by decide +kernel
theorem dX3_tell_54 : decode cX3_tell 54 = .ok (.invokevirtual 44, 3) := by decide +kernel
theorem dX3_tell_57 : decode cX3_tell 57 = .ok (.ifCond .ne 11, 3) := by decide +kernel
theorem dX3_tell_60 : decode cX3_tell 60 = .ok (.bipush (-10), 2) := by decide +kernel
theorem dX3_tell_62 : decode cX3_tell 62 = .ok (.aload_n 0, 1) := by decide +kernel
theorem dX3_tell_63 : decode cX3_tell 63 = .ok (.getfield 48, 3) := by decide +kernel
theorem dX3_tell_66 : decode cX3_tell 66 = .ok (.isub, 1) := by decide +kernel
theorem dX3_tell_67 : decode cX3_tell 67 = .ok (.ireturn, 1) := by decide +kernel
theorem dX3_tell_68 : decode cX3_tell 68 = .ok (.iload_n 3, 1) := by decide +kernel
theorem dX3_tell_69 : decode cX3_tell 69 = .ok (.iconst (-1), 1) := by decide +kernel
theorem dX3_tell_70 : decode cX3_tell 70 = .ok (.if_icmp .ne 15, 3) := by decide +kernel
theorem dX3_tell_73 : decode cX3_tell 73 = .ok (.aload_n 0, 1) := by decide +kernel
theorem dX3_tell_74 : decode cX3_tell 74 = .ok (.aload_n 1, 1) := by decide +kernel
theorem dX3_tell_75 : decode cX3_tell 75 = .ok (.iload 5, 2) := by decide +kernel
theorem dX3_tell_77 : decode cX3_tell 77 = .ok (.invokevirtual 51, 3) := by decide +kernel
theorem dX3_tell_80 : decode cX3_tell 80 = .ok (.ifCond .ne 5, 3) := by decide +kernel
theorem dX3_tell_83 : decode cX3_tell 83 = .ok (.iload_n 2, 1) := by decide +kernel
theorem dX3_tell_84 : decode cX3_tell 84 = .ok (.istore_n 3, 1) := by decide +kernel
theorem dX3_tell_85 : decode cX3_tell 85 = .ok (.iinc 2 1, 3) := by decide +kernel
theorem dX3_tell_88 : decode cX3_tell 88 = .ok (.aload_n 0, 1) := by decide +kernel
theorem dX3_tell_89 : decode cX3_tell 89 = .ok (.invokevirtual 35, 3) := by decide +kernel
theorem dX3_tell_92 : decode cX3_tell 92 = .ok (.iinc 4 1, 3) := by decide +kernel
theorem dX3_tell_95 : decode cX3_tell 95 = .ok (.goto (-75), 3) := by decide +kernel
theorem dX3_tell_98 : decode cX3_tell 98 = .ok (.iload_n 3, 1) := by decide +kernel
theorem dX3_tell_99 : decode cX3_tell 99 = .ok (.iconst (-1), 1) := by decide +kernel
theorem dX3_tell_100 : decode cX3_tell 100 = .ok (.if_icmp .ne 7, 3) := by decide +kernel
theorem dX3_tell_103 : decode cX3_tell 103 = .ok (.iload_n 2, 1) := by decide +kernel
theorem dX3_tell_104 : decode cX3_tell 104 = .ok (.goto 8, 3) := by decide +kernel
theorem dX3_tell_107 : decode cX3_tell 107 = .ok (.sipush (-1000), 3) := by decide +kernel
theorem dX3_tell_110 : decode cX3_tell 110 = .ok (.iload_n 3, 1) := by decide +kernel
theorem dX3_tell_111 : decode cX3_tell 111 = .ok (.isub, 1) := by decide +kernel
theorem dX3_tell_112 : decode cX3_tell 112 = .ok (.ireturn, 1) := by decide +kernel
theorem dX3_readItem_0 : decode cX3_readItem 0 = .ok (.aload_n 0, 1) := by decide +kernel
theorem dX3_readItem_1 : decode cX3_readItem 1 = .ok (.getfield 38, 3) := by decide +kernel
theorem dX3_readItem_4 : decode cX3_readItem 4 = .ok (.iconst 1, 1) := by decide +kernel
theorem dX3_readItem_5 : decode cX3_readItem 5 = .ok (.if_icmp .ne 20, 3) := by decide +kernel
theorem dX3_readItem_8 : decode cX3_readItem 8 = .ok (.aload_n 0, 1) := by decide +kernel
theorem dX3_readItem_9 : decode cX3_readItem 9 = .ok (.getfield 41, 3) := by decide +kernel
theorem dX3_readItem_12 : decode cX3_readItem 12 = .ok (.iconst 0, 1) := by decide +kernel
theorem dX3_readItem_13 : decode cX3_readItem 13 = .ok (.getstatic 55, 3) := by decide +kernel
theorem dX3_readItem_16 : decode cX3_readItem 16 = .ok (.arraylength, 1) := by decide +kernel
theorem dX3_readItem_17 : decode cX3_readItem 17 = .ok (.iconst 1, 1) := by decide +kernel
theorem dX3_readItem_18 : decode cX3_readItem 18 = .ok (.isub, 1) := by decide +kernel
theorem dX3_readItem_19 : decode cX3_readItem 19 = .ok (.invokestatic 19, 3) := by decide +kernel
theorem dX3_readItem_22 : decode cX3_readItem 22 = .ok (.ifCond .ne 5, 3) := by decide +kernel
theorem dX3_readItem_25 : decode cX3_readItem 25 = .ok (.iconst 0, 1) := by decide +kernel
theorem dX3_readItem_26 : decode cX3_readItem 26 = .ok (.ireturn, 1) := by decide +kernel
theorem dX3_readItem_27 : decode cX3_readItem 27 = .ok (.getstatic 55, 3) := by decide +kernel
theorem dX3_readItem_30 : decode cX3_readItem 30 = .ok (.aload_n 0, 1) := by decide +kernel
theorem dX3_readItem_31 : decode cX3_readItem 31 = .ok (.getfield 41, 3) := by decide +kernel
theorem dX3_readItem_34 : decode cX3_readItem 34 = .ok (.iaload, 1) := by decide +kernel
theorem dX3_readItem_35 : decode cX3_readItem 35 = .ok (.istore_n 1, 1) := by decide +kernel
theorem dX3_readItem_36 : decode cX3_readItem 36 = .ok (.iconst 0, 1) := by decide +kernel
theorem dX3_readItem_37 : decode cX3_readItem 37 = .ok (.istore_n 2, 1) := by decide +kernel
theorem dX3_readItem_38 : decode cX3_readItem 38 = .ok (.iload_n 2, 1) := by decide +kernel
theorem dX3_readItem_39 : decode cX3_readItem 39 = .ok (.iload_n 1, 1) := by decide +kernel
theorem dX3_readItem_40 : decode cX3_readItem 40 = .ok (.if_icmp .ge 42, 3) := by decide +kernel
theorem dX3_readItem_43 : decode cX3_readItem 43 = .ok (.iload_n 2, 1) := by decide +kernel
theorem dX3_readItem_44 : decode cX3_readItem 44 = .ok (.aload_n 0, 1) := by decide +kernel
theorem dX3_readItem_45 : decode cX3_readItem 45 = .ok (.getfield 15, 3) := by decide +kernel
theorem dX3_readItem_48 : decode cX3_readItem 48 = .ok (.arraylength, 1) := by decide +kernel
theorem dX3_readItem_49 : decode cX3_readItem 49 = .ok (.if_icmp .ge 33, 3) := by decide +kernel
theorem dX3_readItem_52 : decode cX3_readItem 52 = .ok (.aload_n 0, 1) := by decide +kernel
theorem dX3_readItem_53 : decode cX3_readItem 53 = .ok (.invokevirtual 35, 3) := by decide +kernel
theorem dX3_readItem_56 : decode cX3_readItem 56 = .ok (.aload_n 0, 1) := by decide +kernel
theorem dX3_readItem_57 : decode cX3_readItem 57 = .ok (.getfield 38, 3) := by decide +kernel
theorem dX3_readItem_60 : decode cX3_readItem 60 = .ok (.iconst 2, 1) := by decide +kernel
theorem dX3_readItem_61 : decode cX3_readItem 61 = .ok (.if_icmp .eq 5, 3) := by decide +kernel
theorem dX3_readItem_64 : decode cX3_readItem 64 = .ok (.iconst 0, 1) := by decide +kernel
theorem dX3_readItem_65 : decode cX3_readItem 65 = .ok (.ireturn, 1) := by decide +kernel
theorem dX3_readItem_66 : decode cX3_readItem 66 = .ok (.aload_n 0, 1) := by decide +kernel
theorem dX3_readItem_67 : decode cX3_readItem 67 = .ok (.getfield 15, 3) := by decide +kernel
theorem dX3_readItem_70 : decode cX3_readItem 70 = .ok (.iload_n 2, 1) := by decide +kernel
theorem dX3_readItem_71 : decode cX3_readItem 71 = .ok (.aload_n 0, 1) := by decide +kernel
theorem dX3_readItem_72 : decode cX3_readItem 72 = .ok (.getfield 41, 3) := by decide +kernel
theorem dX3_readItem_75 : decode cX3_readItem 75 = .ok (.iastore, 1) := by decide +kernel
theorem dX3_readItem_76 : decode cX3_readItem 76 = .ok (.iinc 2 1, 3) := by decide +kernel
theorem dX3_readItem_79 : decode cX3_readItem 79 = .ok (.goto (-41), 3) := by decide +kernel
theorem dX3_readItem_82 : decode cX3_readItem 82 = .ok (.aload_n 0, 1) := by decide +kernel
theorem dX3_readItem_83 : decode cX3_readItem 83 = .ok (.invokevirtual 35, 3) := by decide +kernel
theorem dX3_readItem_86 : decode cX3_readItem 86 = .ok (.aload_n 0, 1) := by decide +kernel
theorem dX3_readItem_87 : decode cX3_readItem 87 = .ok (.getfield 38, 3) := by decide +kernel
theorem dX3_readItem_90 : decode cX3_readItem 90 = .ok (.iconst 3, 1) := by decide +kernel
theorem dX3_readItem_91 : decode cX3_readItem 91 = .ok (.if_icmp .ne 7, 3) := by decide +kernel
theorem dX3_readItem_94 : decode cX3_readItem 94 = .ok (.iconst 1, 1) := by decide +kernel
theorem dX3_readItem_95 : decode cX3_readItem 95 = .ok (.goto 4, 3) := by decide +kernel
theorem dX3_readItem_98 : decode cX3_readItem 98 = .ok (.iconst 0, 1) := by decide +kernel
theorem dX3_readItem_99 : decode cX3_readItem 99 = .ok (.ireturn, 1) := by decide +kernel
theorem dX3_tellItem_0 : decode cX3_tellItem 0 = .ok (.aload_n 0, 1) := by decide +kernel
theorem dX3_tellItem_1 : decode cX3_tellItem 1 = .ok (.aload_n 1, 1) := by decide +kernel
theorem dX3_tellItem_2 : decode cX3_tellItem 2 = .ok (.iload_n 2, 1) := by decide +kernel
theorem dX3_tellItem_3 : decode cX3_tellItem 3 = .ok (.invokevirtual 58, 3) := by decide +kernel
theorem dX3_tellItem_6 : decode cX3_tellItem 6 = .ok (.iconst (-1), 1) := by decide +kernel
theorem dX3_tellItem_7 : decode cX3_tellItem 7 = .ok (.if_icmp .lt 7, 3) := by decide +kernel
theorem dX3_tellItem_10 : decode cX3_tellItem 10 = .ok (.iconst 1, 1) := by decide +kernel
theorem dX3_tellItem_11 : decode cX3_tellItem 11 = .ok (.goto 4, 3) := by decide +kernel
theorem dX3_tellItem_14 : decode cX3_tellItem 14 = .ok (.iconst 0, 1) := by decide +kernel
theorem dX3_tellItem_15 : decode cX3_tellItem 15 = .ok (.ireturn, 1) := by decide +kernel
theorem dX3_answerTo_0 : decode cX3_answerTo 0 = .ok (.iload_n 2, 1) := by decide +kernel
theorem dX3_answerTo_1 : decode cX3_answerTo 1 = .ok (.tableswitch 217 0 13 #[71, 100, 132, 144, 156, 169, 217, 217, 217, 217, 217, 217, 186, 200], 71) := by decide +kernel
theorem dX3_answerTo_72 : decode cX3_answerTo 72 = .ok (.aload_n 1, 1) := by decide +kernel
theorem dX3_answerTo_73 : decode cX3_answerTo 73 = .ok (.aload_n 0, 1) := by decide +kernel
theorem dX3_answerTo_74 : decode cX3_answerTo 74 = .ok (.getfield 15, 3) := by decide +kernel
theorem dX3_answerTo_77 : decode cX3_answerTo 77 = .ok (.iconst 0, 1) := by decide +kernel
theorem dX3_answerTo_78 : decode cX3_answerTo 78 = .ok (.iaload, 1) := by decide +kernel
theorem dX3_answerTo_79 : decode cX3_answerTo 79 = .ok (.aload_n 0, 1) := by decide +kernel
theorem dX3_answerTo_80 : decode cX3_answerTo 80 = .ok (.getfield 15, 3) := by decide +kernel
theorem dX3_answerTo_83 : decode cX3_answerTo 83 = .ok (.iconst 1, 1) := by decide +kernel
theorem dX3_answerTo_84 : decode cX3_answerTo 84 = .ok (.iaload, 1) := by decide +kernel
theorem dX3_answerTo_85 : decode cX3_answerTo 85 = .ok (.aload_n 0, 1) := by decide +kernel
theorem dX3_answerTo_86 : decode cX3_answerTo 86 = .ok (.getfield 15, 3) := by decide +kernel
theorem dX3_answerTo_89 : decode cX3_answerTo 89 = .ok (.iconst 2, 1) := by decide +kernel
theorem dX3_answerTo_90 : decode cX3_answerTo 90 = .ok (.iaload, 1) := by decide +kernel
theorem dX3_answerTo_91 : decode cX3_answerTo 91 = .ok (.aload_n 0, 1) := by decide +kernel
theorem dX3_answerTo_92 : decode cX3_answerTo 92 = .ok (.getfield 15, 3) := by decide +kernel
theorem dX3_answerTo_95 : decode cX3_answerTo 95 = .ok (.iconst 3, 1) := by decide +kernel
theorem dX3_answerTo_96 : decode cX3_answerTo 96 = .ok (.iaload, 1) := by decide +kernel
theorem dX3_answerTo_97 : decode cX3_answerTo 97 = .ok (.invokevirtual 62, 3) := by decide +kernel
theorem dX3_answerTo_100 : decode cX3_answerTo 100 = .ok (.ireturn, 1) := by decide +kernel
theorem dX3_answerTo_101 : decode cX3_answerTo 101 = .ok (.aload_n 0, 1) := by decide +kernel
theorem dX3_answerTo_102 : decode cX3_answerTo 102 = .ok (.getfield 15, 3) := by decide +kernel
theorem dX3_answerTo_105 : decode cX3_answerTo 105 = .ok (.iconst 0, 1) := by decide +kernel
theorem dX3_answerTo_106 : decode cX3_answerTo 106 = .ok (.iaload, 1) := by decide +kernel
theorem dX3_answerTo_107 : decode cX3_answerTo 107 = .ok (.iconst 4, 1) := by decide +kernel
theorem dX3_answerTo_108 : decode cX3_answerTo 108 = .ok (.if_icmp .ge 22, 3) := by decide +kernel
theorem dX3_answerTo_111 : decode cX3_answerTo 111 = .ok (.aload_n 1, 1) := by decide +kernel
theorem dX3_answerTo_112 : decode cX3_answerTo 112 = .ok (.aload_n 0, 1) := by decide +kernel
theorem dX3_answerTo_113 : decode cX3_answerTo 113 = .ok (.getfield 15, 3) := by decide +kernel
theorem dX3_answerTo_116 : decode cX3_answerTo 116 = .ok (.iconst 0, 1) := by decide +kernel
theorem dX3_answerTo_117 : decode cX3_answerTo 117 = .ok (.iaload, 1) := by decide +kernel
theorem dX3_answerTo_118 : decode cX3_answerTo 118 = .ok (.aload_n 0, 1) := by decide +kernel
theorem dX3_answerTo_119 : decode cX3_answerTo 119 = .ok (.getfield 15, 3) := by decide +kernel
theorem dX3_answerTo_122 : decode cX3_answerTo 122 = .ok (.iconst 1, 1) := by decide +kernel
theorem dX3_answerTo_123 : decode cX3_answerTo 123 = .ok (.iaload, 1) := by decide +kernel
theorem dX3_answerTo_124 : decode cX3_answerTo 124 = .ok (.invokevirtual 66, 3) := by decide +kernel
theorem dX3_answerTo_127 : decode cX3_answerTo 127 = .ok (.goto 5, 3) := by decide +kernel
theorem dX3_answerTo_130 : decode cX3_answerTo 130 = .ok (.bipush (-2), 2) := by decide +kernel
theorem dX3_answerTo_132 : decode cX3_answerTo 132 = .ok (.ireturn, 1) := by decide +kernel
theorem dX3_answerTo_133 : decode cX3_answerTo 133 = .ok (.aload_n 1, 1) := by decide +kernel
theorem dX3_answerTo_134 : decode cX3_answerTo 134 = .ok (.iconst 4, 1) := by decide +kernel
theorem dX3_answerTo_135 : decode cX3_answerTo 135 = .ok (.aload_n 0, 1) := by decide +kernel
theorem dX3_answerTo_136 : decode cX3_answerTo 136 = .ok (.getfield 15, 3) := by decide +kernel
theorem dX3_answerTo_139 : decode cX3_answerTo 139 = .ok (.iconst 0, 1) := by decide +kernel
theorem dX3_answerTo_140 : decode cX3_answerTo 140 = .ok (.iaload, 1) := by decide +kernel
theorem dX3_answerTo_141 : decode cX3_answerTo 141 = .ok (.invokevirtual 66, 3) := by decide +kernel
theorem dX3_answerTo_144 : decode cX3_answerTo 144 = .ok (.ireturn, 1) := by decide +kernel
theorem dX3_answerTo_145 : decode cX3_answerTo 145 = .ok (.aload_n 1, 1) := by decide +kernel
theorem dX3_answerTo_146 : decode cX3_answerTo 146 = .ok (.iconst 5, 1) := by decide +kernel
theorem dX3_answerTo_147 : decode cX3_answerTo 147 = .ok (.aload_n 0, 1) := by decide +kernel
theorem dX3_answerTo_148 : decode cX3_answerTo 148 = .ok (.getfield 15, 3) := by decide +kernel
theorem dX3_answerTo_151 : decode cX3_answerTo 151 = .ok (.iconst 0, 1) := by decide +kernel
theorem dX3_answerTo_152 : decode cX3_answerTo 152 = .ok (.iaload, 1) := by decide +kernel
theorem dX3_answerTo_153 : decode cX3_answerTo 153 = .ok (.invokevirtual 66, 3) := by decide +kernel
theorem dX3_answerTo_156 : decode cX3_answerTo 156 = .ok (.ireturn, 1) := by decide +kernel
theorem dX3_answerTo_157 : decode cX3_answerTo 157 = .ok (.aload_n 1, 1) := by decide +kernel
theorem dX3_answerTo_158 : decode cX3_answerTo 158 = .ok (.bipush 6, 2) := by decide +kernel
theorem dX3_answerTo_160 : decode cX3_answerTo 160 = .ok (.aload_n 0, 1) := by decide +kernel
theorem dX3_answerTo_161 : decode cX3_answerTo 161 = .ok (.getfield 15, 3) := by decide +kernel
theorem dX3_answerTo_164 : decode cX3_answerTo 164 = .ok (.iconst 0, 1) := by decide +kernel
theorem dX3_answerTo_165 : decode cX3_answerTo 165 = .ok (.iaload, 1) := by decide +kernel
theorem dX3_answerTo_166 : decode cX3_answerTo 166 = .ok (.invokevirtual 66, 3) := by decide +kernel
theorem dX3_answerTo_169 : decode cX3_answerTo 169 = .ok (.ireturn, 1) := by decide +kernel
theorem dX3_answerTo_170 : decode cX3_answerTo 170 = .ok (.aload_n 1, 1) := by decide +kernel
theorem dX3_answerTo_171 : decode cX3_answerTo 171 = .ok (.aload_n 0, 1) := by decide +kernel
theorem dX3_answerTo_172 : decode cX3_answerTo 172 = .ok (.getfield 15, 3) := by decide +kernel
theorem dX3_answerTo_175 : decode cX3_answerTo 175 = .ok (.iconst 0, 1) := by decide +kernel
theorem dX3_answerTo_176 : decode cX3_answerTo 176 = .ok (.iaload, 1) := by decide +kernel
theorem dX3_answerTo_177 : decode cX3_answerTo 177 = .ok (.aload_n 0, 1) := by decide +kernel
theorem dX3_answerTo_178 : decode cX3_answerTo 178 = .ok (.getfield 15, 3) := by decide +kernel
theorem dX3_answerTo_181 : decode cX3_answerTo 181 = .ok (.iconst 1, 1) := by decide +kernel
theorem dX3_answerTo_182 : decode cX3_answerTo 182 = .ok (.iaload, 1) := by decide +kernel
theorem dX3_answerTo_183 : decode cX3_answerTo 183 = .ok (.invokevirtual 70, 3) := by decide +kernel
theorem dX3_answerTo_186 : decode cX3_answerTo 186 = .ok (.ireturn, 1) := by decide +kernel
theorem dX3_answerTo_187 : decode cX3_answerTo 187 = .ok (.aload_n 1, 1) := by decide +kernel
theorem dX3_answerTo_188 : decode cX3_answerTo 188 = .ok (.aload_n 0, 1) := by decide +kernel
theorem dX3_answerTo_189 : decode cX3_answerTo 189 = .ok (.getfield 15, 3) := by decide +kernel
theorem dX3_answerTo_192 : decode cX3_answerTo 192 = .ok (.iconst 0, 1) := by decide +kernel
theorem dX3_answerTo_193 : decode cX3_answerTo 193 = .ok (.iaload, 1) := by decide +kernel
theorem dX3_answerTo_194 : decode cX3_answerTo 194 = .ok (.bipush 6, 2) := by decide +kernel
theorem dX3_answerTo_196 : decode cX3_answerTo 196 = .ok (.iconst 0, 1) := by decide +kernel
theorem dX3_answerTo_197 : decode cX3_answerTo 197 = .ok (.invokevirtual 73, 3) := by decide +kernel
theorem dX3_answerTo_200 : decode cX3_answerTo 200 = .ok (.ireturn, 1) := by decide +kernel
theorem dX3_answerTo_201 : decode cX3_answerTo 201 = .ok (.aload_n 1, 1) := by decide +kernel
theorem dX3_answerTo_202 : decode cX3_answerTo 202 = .ok (.aload_n 0, 1) := by decide +kernel
theorem dX3_answerTo_203 : decode cX3_answerTo 203 = .ok (.getfield 15, 3) := by decide +kernel
theorem dX3_answerTo_206 : decode cX3_answerTo 206 = .ok (.iconst 0, 1) := by decide +kernel
theorem dX3_answerTo_207 : decode cX3_answerTo 207 = .ok (.iaload, 1) := by decide +kernel
theorem dX3_answerTo_208 : decode cX3_answerTo 208 = .ok (.aload_n 0, 1) := by decide +kernel
theorem dX3_answerTo_209 : decode cX3_answerTo 209 = .ok (.getfield 15, 3) := by decide +kernel
theorem dX3_answerTo_212 : decode cX3_answerTo 212 = .ok (.iconst 1, 1) := by decide +kernel
theorem dX3_answerTo_213 : decode cX3_answerTo 213 = .ok (.iaload, 1) := by decide +kernel
theorem dX3_answerTo_214 : decode cX3_answerTo 214 = .ok (.invokevirtual 77, 3) := by decide +kernel
theorem dX3_answerTo_217 : decode cX3_answerTo 217 = .ok (.ireturn, 1) := by decide +kernel
theorem dX3_answerTo_218 : decode cX3_answerTo 218 = .ok (.aload_n 1, 1) := by decide +kernel
theorem dX3_answerTo_219 : decode cX3_answerTo 219 = .ok (.aload_n 0, 1) := by decide +kernel
theorem dX3_answerTo_220 : decode cX3_answerTo 220 = .ok (.getfield 15, 3) := by decide +kernel
theorem dX3_answerTo_223 : decode cX3_answerTo 223 = .ok (.iconst 0, 1) := by decide +kernel
theorem dX3_answerTo_224 : decode cX3_answerTo 224 = .ok (.iaload, 1) := by decide +kernel
theorem dX3_answerTo_225 : decode cX3_answerTo 225 = .ok (.iload_n 2, 1) := by decide +kernel
theorem dX3_answerTo_226 : decode cX3_answerTo 226 = .ok (.bipush 6, 2) := by decide +kernel
theorem dX3_answerTo_228 : decode cX3_answerTo 228 = .ok (.isub, 1) := by decide +kernel
theorem dX3_answerTo_229 : decode cX3_answerTo 229 = .ok (.aload_n 0, 1) := by decide +kernel
theorem dX3_answerTo_230 : decode cX3_answerTo 230 = .ok (.getfield 15, 3) := by decide +kernel
theorem dX3_answerTo_233 : decode cX3_answerTo 233 = .ok (.iconst 1, 1) := by decide +kernel
theorem dX3_answerTo_234 : decode cX3_answerTo 234 = .ok (.iaload, 1) := by decide +kernel
theorem dX3_answerTo_235 : decode cX3_answerTo 235 = .ok (.invokevirtual 73, 3) := by decide +kernel
theorem dX3_answerTo_238 : decode cX3_answerTo 238 = .ok (.ireturn, 1) := by decide +kernel
theorem dX3_readToken_0 : decode cX3_readToken 0 = .ok (.aload_n 0, 1) := by decide +kernel
theorem dX3_readToken_1 : decode cX3_readToken 1 = .ok (.getfield 32, 3) := by decide +kernel
theorem dX3_readToken_4 : decode cX3_readToken 4 = .ok (.aload_n 0, 1) := by decide +kernel
theorem dX3_readToken_5 : decode cX3_readToken 5 = .ok (.getfield 23, 3) := by decide +kernel
theorem dX3_readToken_8 : decode cX3_readToken 8 = .ok (.if_icmp .ge 29, 3) := by decide +kernel
theorem dX3_readToken_11 : decode cX3_readToken 11 = .ok (.aload_n 0, 1) := by decide +kernel
theorem dX3_readToken_12 : decode cX3_readToken 12 = .ok (.aload_n 0, 1) := by decide +kernel
theorem dX3_readToken_13 : decode cX3_readToken 13 = .ok (.getfield 32, 3) := by decide +kernel
theorem dX3_readToken_16 : decode cX3_readToken 16 = .ok (.invokevirtual 80, 3) := by decide +kernel
theorem dX3_readToken_19 : decode cX3_readToken 19 = .ok (.bipush 32, 2) := by decide +kernel
theorem dX3_readToken_21 : decode cX3_readToken 21 = .ok (.if_icmp .ne 16, 3) := by decide +kernel
theorem dX3_readToken_24 : decode cX3_readToken 24 = .ok (.aload_n 0, 1) := by decide +kernel
theorem dX3_readToken_25 : decode cX3_readToken 25 = .ok (.dup, 1) := by decide +kernel
theorem dX3_readToken_26 : decode cX3_readToken 26 = .ok (.getfield 32, 3) := by decide +kernel
theorem dX3_readToken_29 : decode cX3_readToken 29 = .ok (.iconst 1, 1) := by decide +kernel
theorem dX3_readToken_30 : decode cX3_readToken 30 = .ok (.iadd, 1) := by decide +kernel
theorem dX3_readToken_31 : decode cX3_readToken 31 = .ok (.putfield 32, 3) := by decide +kernel
theorem dX3_readToken_34 : decode cX3_readToken 34 = .ok (.goto (-34), 3) := by decide +kernel
theorem dX3_readToken_37 : decode cX3_readToken 37 = .ok (.aload_n 0, 1) := by decide +kernel
theorem dX3_readToken_38 : decode cX3_readToken 38 = .ok (.aload_n 0, 1) := by decide +kernel
theorem dX3_readToken_39 : decode cX3_readToken 39 = .ok (.getfield 32, 3) := by decide +kernel
theorem dX3_readToken_42 : decode cX3_readToken 42 = .ok (.putfield 48, 3) := by decide +kernel
theorem dX3_readToken_45 : decode cX3_readToken 45 = .ok (.aload_n 0, 1) := by decide +kernel
theorem dX3_readToken_46 : decode cX3_readToken 46 = .ok (.aload_n 0, 1) := by decide +kernel
theorem dX3_readToken_47 : decode cX3_readToken 47 = .ok (.getfield 32, 3) := by decide +kernel
theorem dX3_readToken_50 : decode cX3_readToken 50 = .ok (.invokevirtual 80, 3) := by decide +kernel
theorem dX3_readToken_53 : decode cX3_readToken 53 = .ok (.istore_n 1, 1) := by decide +kernel
theorem dX3_readToken_54 : decode cX3_readToken 54 = .ok (.aload_n 0, 1) := by decide +kernel
theorem dX3_readToken_55 : decode cX3_readToken 55 = .ok (.getfield 32, 3) := by decide +kernel
theorem dX3_readToken_58 : decode cX3_readToken 58 = .ok (.aload_n 0, 1) := by decide +kernel
theorem dX3_readToken_59 : decode cX3_readToken 59 = .ok (.getfield 23, 3) := by decide +kernel
theorem dX3_readToken_62 : decode cX3_readToken 62 = .ok (.if_icmp .lt 11, 3) := by decide +kernel
theorem dX3_readToken_65 : decode cX3_readToken 65 = .ok (.aload_n 0, 1) := by decide +kernel
theorem dX3_readToken_66 : decode cX3_readToken 66 = .ok (.iconst 0, 1) := by decide +kernel
theorem dX3_readToken_67 : decode cX3_readToken 67 = .ok (.putfield 38, 3) := by decide +kernel
theorem dX3_readToken_70 : decode cX3_readToken 70 = .ok (.goto 56, 3) := by decide +kernel
theorem dX3_readToken_73 : decode cX3_readToken 73 = .ok (.iload_n 1, 1) := by decide +kernel
theorem dX3_readToken_74 : decode cX3_readToken 74 = .ok (.invokestatic 84, 3) := by decide +kernel
theorem dX3_readToken_77 : decode cX3_readToken 77 = .ok (.ifCond .eq 10, 3) := by decide +kernel
theorem dX3_readToken_80 : decode cX3_readToken 80 = .ok (.aload_n 0, 1) := by decide +kernel
theorem dX3_readToken_81 : decode cX3_readToken 81 = .ok (.invokevirtual 88, 3) := by decide +kernel
theorem dX3_readToken_84 : decode cX3_readToken 84 = .ok (.goto 42, 3) := by decide +kernel
theorem dX3_readToken_87 : decode cX3_readToken 87 = .ok (.iload_n 1, 1) := by decide +kernel
theorem dX3_readToken_88 : decode cX3_readToken 88 = .ok (.invokestatic 91, 3) := by decide +kernel
theorem dX3_readToken_91 : decode cX3_readToken 91 = .ok (.ifCond .eq 10, 3) := by decide +kernel
theorem dX3_readToken_94 : decode cX3_readToken 94 = .ok (.aload_n 0, 1) := by decide +kernel
theorem dX3_readToken_95 : decode cX3_readToken 95 = .ok (.invokevirtual 94, 3) := by decide +kernel
theorem dX3_readToken_98 : decode cX3_readToken 98 = .ok (.goto 28, 3) := by decide +kernel
theorem dX3_readToken_101 : decode cX3_readToken 101 = .ok (.aload_n 0, 1) := by decide +kernel
theorem dX3_readToken_102 : decode cX3_readToken 102 = .ok (.iload_n 1, 1) := by decide +kernel
theorem dX3_readToken_103 : decode cX3_readToken 103 = .ok (.bipush 59, 2) := by decide +kernel
theorem dX3_readToken_105 : decode cX3_readToken 105 = .ok (.if_icmp .ne 7, 3) := by decide +kernel
theorem dX3_readToken_108 : decode cX3_readToken 108 = .ok (.iconst 3, 1) := by decide +kernel
theorem dX3_readToken_109 : decode cX3_readToken 109 = .ok (.goto 4, 3) := by decide +kernel
theorem dX3_readToken_112 : decode cX3_readToken 112 = .ok (.iconst 4, 1) := by decide +kernel
theorem dX3_readToken_113 : decode cX3_readToken 113 = .ok (.putfield 38, 3) := by decide +kernel
theorem dX3_readToken_116 : decode cX3_readToken 116 = .ok (.aload_n 0, 1) := by decide +kernel
theorem dX3_readToken_117 : decode cX3_readToken 117 = .ok (.dup, 1) := by decide +kernel
theorem dX3_readToken_118 : decode cX3_readToken 118 = .ok (.getfield 32, 3) := by decide +kernel
theorem dX3_readToken_121 : decode cX3_readToken 121 = .ok (.iconst 1, 1) := by decide +kernel
theorem dX3_readToken_122 : decode cX3_readToken 122 = .ok (.iadd, 1) := by decide +kernel
theorem dX3_readToken_123 : decode cX3_readToken 123 = .ok (.putfield 32, 3) := by decide +kernel
theorem dX3_readToken_126 : decode cX3_readToken 126 = .ok (.return_, 1) := by decide +kernel
theorem dX3_readWord_0 : decode cX3_readWord 0 = .ok (.aload_n 0, 1) := by decide +kernel
theorem dX3_readWord_1 : decode cX3_readWord 1 = .ok (.getfield 32, 3) := by decide +kernel
theorem dX3_readWord_4 : decode cX3_readWord 4 = .ok (.aload_n 0, 1) := by decide +kernel
theorem dX3_readWord_5 : decode cX3_readWord 5 = .ok (.getfield 23, 3) := by decide +kernel
theorem dX3_readWord_8 : decode cX3_readWord 8 = .ok (.if_icmp .ge 30, 3) := by decide +kernel
theorem dX3_readWord_11 : decode cX3_readWord 11 = .ok (.aload_n 0, 1) := by decide +kernel
theorem dX3_readWord_12 : decode cX3_readWord 12 = .ok (.aload_n 0, 1) := by decide +kernel
theorem dX3_readWord_13 : decode cX3_readWord 13 = .ok (.getfield 32, 3) := by decide +kernel
theorem dX3_readWord_16 : decode cX3_readWord 16 = .ok (.invokevirtual 80, 3) := by decide +kernel
theorem dX3_readWord_19 : decode cX3_readWord 19 = .ok (.invokestatic 84, 3) := by decide +kernel
theorem dX3_readWord_22 : decode cX3_readWord 22 = .ok (.ifCond .eq 16, 3) := by decide +kernel
theorem dX3_readWord_25 : decode cX3_readWord 25 = .ok (.aload_n 0, 1) := by decide +kernel
theorem dX3_readWord_26 : decode cX3_readWord 26 = .ok (.dup, 1) := by decide +kernel
theorem dX3_readWord_27 : decode cX3_readWord 27 = .ok (.getfield 32, 3) := by decide +kernel
theorem dX3_readWord_30 : decode cX3_readWord 30 = .ok (.iconst 1, 1) := by decide +kernel
theorem dX3_readWord_31 : decode cX3_readWord 31 = .ok (.iadd, 1) := by decide +kernel
theorem dX3_readWord_32 : decode cX3_readWord 32 = .ok (.putfield 32, 3) := by decide +kernel
theorem dX3_readWord_35 : decode cX3_readWord 35 = .ok (.goto (-35), 3) := by decide +kernel
theorem dX3_readWord_38 : decode cX3_readWord 38 = .ok (.aload_n 0, 1) := by decide +kernel
theorem dX3_readWord_39 : decode cX3_readWord 39 = .ok (.aload_n 0, 1) := by decide +kernel
theorem dX3_readWord_40 : decode cX3_readWord 40 = .ok (.aload_n 0, 1) := by decide +kernel
theorem dX3_readWord_41 : decode cX3_readWord 41 = .ok (.getfield 48, 3) := by decide +kernel
theorem dX3_readWord_44 : decode cX3_readWord 44 = .ok (.invokevirtual 97, 3) := by decide +kernel
theorem dX3_readWord_47 : decode cX3_readWord 47 = .ok (.putfield 41, 3) := by decide +kernel
theorem dX3_readWord_50 : decode cX3_readWord 50 = .ok (.aload_n 0, 1) := by decide +kernel
theorem dX3_readWord_51 : decode cX3_readWord 51 = .ok (.aload_n 0, 1) := by decide +kernel
theorem dX3_readWord_52 : decode cX3_readWord 52 = .ok (.getfield 41, 3) := by decide +kernel
theorem dX3_readWord_55 : decode cX3_readWord 55 = .ok (.iconst (-1), 1) := by decide +kernel
theorem dX3_readWord_56 : decode cX3_readWord 56 = .ok (.if_icmp .ne 7, 3) := by decide +kernel
theorem dX3_readWord_59 : decode cX3_readWord 59 = .ok (.iconst 4, 1) := by decide +kernel
theorem dX3_readWord_60 : decode cX3_readWord 60 = .ok (.goto 4, 3) := by decide +kernel
theorem dX3_readWord_63 : decode cX3_readWord 63 = .ok (.iconst 1, 1) := by decide +kernel
theorem dX3_readWord_64 : decode cX3_readWord 64 = .ok (.putfield 38, 3) := by decide +kernel
theorem dX3_readWord_67 : decode cX3_readWord 67 = .ok (.return_, 1) := by decide +kernel
theorem dX3_readNumber_0 : decode cX3_readNumber 0 = .ok (.aload_n 0, 1) := by decide +kernel
theorem dX3_readNumber_1 : decode cX3_readNumber 1 = .ok (.iconst 0, 1) := by decide +kernel
theorem dX3_readNumber_2 : decode cX3_readNumber 2 = .ok (.putfield 41, 3) := by decide +kernel
theorem dX3_readNumber_5 : decode cX3_readNumber 5 = .ok (.aload_n 0, 1) := by decide +kernel
theorem dX3_readNumber_6 : decode cX3_readNumber 6 = .ok (.getfield 32, 3) := by decide +kernel
theorem dX3_readNumber_9 : decode cX3_readNumber 9 = .ok (.aload_n 0, 1) := by decide +kernel
theorem dX3_readNumber_10 : decode cX3_readNumber 10 = .ok (.getfield 23, 3) := by decide +kernel
theorem dX3_readNumber_13 : decode cX3_readNumber 13 = .ok (.if_icmp .ge 66, 3) := by decide +kernel
theorem dX3_readNumber_16 : decode cX3_readNumber 16 = .ok (.aload_n 0, 1) := by decide +kernel
theorem dX3_readNumber_17 : decode cX3_readNumber 17 = .ok (.aload_n 0, 1) := by decide +kernel
theorem dX3_readNumber_18 : decode cX3_readNumber 18 = .ok (.getfield 32, 3) := by decide +kernel
theorem dX3_readNumber_21 : decode cX3_readNumber 21 = .ok (.invokevirtual 80, 3) := by decide +kernel
theorem dX3_readNumber_24 : decode cX3_readNumber 24 = .ok (.invokestatic 91, 3) := by decide +kernel
theorem dX3_readNumber_27 : decode cX3_readNumber 27 = .ok (.ifCond .eq 52, 3) := by decide +kernel
theorem dX3_readNumber_30 : decode cX3_readNumber 30 = .ok (.aload_n 0, 1) := by decide +kernel
theorem dX3_readNumber_31 : decode cX3_readNumber 31 = .ok (.getfield 32, 3) := by decide +kernel
theorem dX3_readNumber_34 : decode cX3_readNumber 34 = .ok (.aload_n 0, 1) := by decide +kernel
theorem dX3_readNumber_35 : decode cX3_readNumber 35 = .ok (.getfield 48, 3) := by decide +kernel
theorem dX3_readNumber_38 : decode cX3_readNumber 38 = .ok (.isub, 1) := by decide +kernel
theorem dX3_readNumber_39 : decode cX3_readNumber 39 = .ok (.iconst 3, 1) := by decide +kernel
theorem dX3_readNumber_40 : decode cX3_readNumber 40 = .ok (.if_icmp .ge 26, 3) := by decide +kernel
theorem dX3_readNumber_43 : decode cX3_readNumber 43 = .ok (.aload_n 0, 1) := by decide +kernel
theorem dX3_readNumber_44 : decode cX3_readNumber 44 = .ok (.bipush 10, 2) := by decide +kernel
theorem dX3_readNumber_46 : decode cX3_readNumber 46 = .ok (.aload_n 0, 1) := by decide +kernel
theorem dX3_readNumber_47 : decode cX3_readNumber 47 = .ok (.getfield 41, 3) := by decide +kernel
theorem dX3_readNumber_50 : decode cX3_readNumber 50 = .ok (.imul, 1) := by decide +kernel
theorem dX3_readNumber_51 : decode cX3_readNumber 51 = .ok (.aload_n 0, 1) := by decide +kernel
theorem dX3_readNumber_52 : decode cX3_readNumber 52 = .ok (.aload_n 0, 1) := by decide +kernel
theorem dX3_readNumber_53 : decode cX3_readNumber 53 = .ok (.getfield 32, 3) := by decide +kernel
theorem dX3_readNumber_56 : decode cX3_readNumber 56 = .ok (.invokevirtual 80, 3) := by decide +kernel
theorem dX3_readNumber_59 : decode cX3_readNumber 59 = .ok (.iadd, 1) := by decide +kernel
theorem dX3_readNumber_60 : decode cX3_readNumber 60 = .ok (.bipush 48, 2) := by decide +kernel
theorem dX3_readNumber_62 : decode cX3_readNumber 62 = .ok (.isub, 1) := by decide +kernel
theorem dX3_readNumber_63 : decode cX3_readNumber 63 = .ok (.putfield 41, 3) := by decide +kernel
theorem dX3_readNumber_66 : decode cX3_readNumber 66 = .ok (.aload_n 0, 1) := by decide +kernel
theorem dX3_readNumber_67 : decode cX3_readNumber 67 = .ok (.dup, 1) := by decide +kernel
theorem dX3_readNumber_68 : decode cX3_readNumber 68 = .ok (.getfield 32, 3) := by decide +kernel
theorem dX3_readNumber_71 : decode cX3_readNumber 71 = .ok (.iconst 1, 1) := by decide +kernel
theorem dX3_readNumber_72 : decode cX3_readNumber 72 = .ok (.iadd, 1) := by decide +kernel
theorem dX3_readNumber_73 : decode cX3_readNumber 73 = .ok (.putfield 32, 3) := by decide +kernel
theorem dX3_readNumber_76 : decode cX3_readNumber 76 = .ok (.goto (-71), 3) := by decide +kernel
theorem dX3_readNumber_79 : decode cX3_readNumber 79 = .ok (.aload_n 0, 1) := by decide +kernel
theorem dX3_readNumber_80 : decode cX3_readNumber 80 = .ok (.aload_n 0, 1) := by decide +kernel
theorem dX3_readNumber_81 : decode cX3_readNumber 81 = .ok (.getfield 32, 3) := by decide +kernel
theorem dX3_readNumber_84 : decode cX3_readNumber 84 = .ok (.aload_n 0, 1) := by decide +kernel
theorem dX3_readNumber_85 : decode cX3_readNumber 85 = .ok (.getfield 48, 3) := by decide +kernel
theorem dX3_readNumber_88 : decode cX3_readNumber 88 = .ok (.isub, 1) := by decide +kernel
theorem dX3_readNumber_89 : decode cX3_readNumber 89 = .ok (.iconst 3, 1) := by decide +kernel
theorem dX3_readNumber_90 : decode cX3_readNumber 90 = .ok (.if_icmp .le 7, 3) := by decide +kernel
theorem dX3_readNumber_93 : decode cX3_readNumber 93 = .ok (.iconst 4, 1) := by decide +kernel
theorem dX3_readNumber_94 : decode cX3_readNumber 94 = .ok (.goto 4, 3) := by decide +kernel
theorem dX3_readNumber_97 : decode cX3_readNumber 97 = .ok (.iconst 2, 1) := by decide +kernel
theorem dX3_readNumber_98 : decode cX3_readNumber 98 = .ok (.putfield 38, 3) := by decide +kernel
theorem dX3_readNumber_101 : decode cX3_readNumber 101 = .ok (.return_, 1) := by decide +kernel
theorem dX3_wordFrom_0 : decode cX3_wordFrom 0 = .ok (.iconst 0, 1) := by decide +kernel
theorem dX3_wordFrom_1 : decode cX3_wordFrom 1 = .ok (.istore_n 2, 1) := by decide +kernel
theorem dX3_wordFrom_2 : decode cX3_wordFrom 2 = .ok (.iconst 0, 1) := by decide +kernel
theorem dX3_wordFrom_3 : decode cX3_wordFrom 3 = .ok (.istore_n 3, 1) := by decide +kernel
theorem dX3_wordFrom_4 : decode cX3_wordFrom 4 = .ok (.iconst 1, 1) := by decide +kernel
theorem dX3_wordFrom_5 : decode cX3_wordFrom 5 = .ok (.istore 4, 2) := by decide +kernel
theorem dX3_wordFrom_7 : decode cX3_wordFrom 7 = .ok (.iconst 0, 1) := by decide +kernel
theorem dX3_wordFrom_8 : decode cX3_wordFrom 8 = .ok (.istore 5, 2) := by decide +kernel
theorem dX3_wordFrom_10 : decode cX3_wordFrom 10 = .ok (.iload 5, 2) := by decide +kernel
theorem dX3_wordFrom_12 : decode cX3_wordFrom 12 = .ok (.ldc 100, 2) := by decide +kernel
theorem dX3_wordFrom_14 : decode cX3_wordFrom 14 = .ok (.invokevirtual 102, 3) := by decide +kernel
theorem dX3_wordFrom_17 : decode cX3_wordFrom 17 = .ok (.if_icmp .ge 90, 3) := by decide +kernel
theorem dX3_wordFrom_20 : decode cX3_wordFrom 20 = .ok (.ldc 100, 2) := by decide +kernel
theorem dX3_wordFrom_22 : decode cX3_wordFrom 22 = .ok (.iload 5, 2) := by decide +kernel
theorem dX3_wordFrom_24 : decode cX3_wordFrom 24 = .ok (.invokevirtual 107, 3) := by decide +kernel
theorem dX3_wordFrom_27 : decode cX3_wordFrom 27 = .ok (.istore 6, 2) := by decide +kernel
theorem dX3_wordFrom_29 : decode cX3_wordFrom 29 = .ok (.iload 6, 2) := by decide +kernel
theorem dX3_wordFrom_31 : decode cX3_wordFrom 31 = .ok (.bipush 32, 2) := by decide +kernel
theorem dX3_wordFrom_33 : decode cX3_wordFrom 33 = .ok (.if_icmp .ne 31, 3) := by decide +kernel
theorem dX3_wordFrom_36 : decode cX3_wordFrom 36 = .ok (.iload 4, 2) := by decide +kernel
theorem dX3_wordFrom_38 : decode cX3_wordFrom 38 = .ok (.ifCond .eq 15, 3) := by decide +kernel
theorem dX3_wordFrom_41 : decode cX3_wordFrom 41 = .ok (.iload_n 3, 1) := by decide +kernel
theorem dX3_wordFrom_42 : decode cX3_wordFrom 42 = .ok (.aload_n 0, 1) := by decide +kernel
theorem dX3_wordFrom_43 : decode cX3_wordFrom 43 = .ok (.getfield 32, 3) := by decide +kernel
theorem dX3_wordFrom_46 : decode cX3_wordFrom 46 = .ok (.iload_n 1, 1) := by decide +kernel
theorem dX3_wordFrom_47 : decode cX3_wordFrom 47 = .ok (.isub, 1) := by decide +kernel
theorem dX3_wordFrom_48 : decode cX3_wordFrom 48 = .ok (.if_icmp .ne 5, 3) := by decide +kernel
theorem dX3_wordFrom_51 : decode cX3_wordFrom 51 = .ok (.iload_n 2, 1) := by decide +kernel
theorem dX3_wordFrom_52 : decode cX3_wordFrom 52 = .ok (.ireturn, 1) := by decide +kernel
theorem dX3_wordFrom_53 : decode cX3_wordFrom 53 = .ok (.iinc 2 1, 3) := by decide +kernel
theorem dX3_wordFrom_56 : decode cX3_wordFrom 56 = .ok (.iconst 0, 1) := by decide +kernel
theorem dX3_wordFrom_57 : decode cX3_wordFrom 57 = .ok (.istore_n 3, 1) := by decide +kernel
theorem dX3_wordFrom_58 : decode cX3_wordFrom 58 = .ok (.iconst 1, 1) := by decide +kernel
theorem dX3_wordFrom_59 : decode cX3_wordFrom 59 = .ok (.istore 4, 2) := by decide +kernel
theorem dX3_wordFrom_61 : decode cX3_wordFrom 61 = .ok (.goto 40, 3) := by decide +kernel
theorem dX3_wordFrom_64 : decode cX3_wordFrom 64 = .ok (.iload 4, 2) := by decide +kernel
theorem dX3_wordFrom_66 : decode cX3_wordFrom 66 = .ok (.ifCond .eq 29, 3) := by decide +kernel
theorem dX3_wordFrom_69 : decode cX3_wordFrom 69 = .ok (.iload_n 3, 1) := by decide +kernel
theorem dX3_wordFrom_70 : decode cX3_wordFrom 70 = .ok (.aload_n 0, 1) := by decide +kernel
theorem dX3_wordFrom_71 : decode cX3_wordFrom 71 = .ok (.getfield 32, 3) := by decide +kernel
theorem dX3_wordFrom_74 : decode cX3_wordFrom 74 = .ok (.iload_n 1, 1) := by decide +kernel
theorem dX3_wordFrom_75 : decode cX3_wordFrom 75 = .ok (.isub, 1) := by decide +kernel
theorem dX3_wordFrom_76 : decode cX3_wordFrom 76 = .ok (.if_icmp .ge 19, 3) := by decide +kernel
theorem dX3_wordFrom_79 : decode cX3_wordFrom 79 = .ok (.aload_n 0, 1) := by decide +kernel
theorem dX3_wordFrom_80 : decode cX3_wordFrom 80 = .ok (.iload_n 1, 1) := by decide +kernel
theorem dX3_wordFrom_81 : decode cX3_wordFrom 81 = .ok (.iload_n 3, 1) := by decide +kernel
theorem dX3_wordFrom_82 : decode cX3_wordFrom 82 = .ok (.iadd, 1) := by decide +kernel
theorem dX3_wordFrom_83 : decode cX3_wordFrom 83 = .ok (.invokevirtual 80, 3) := by decide +kernel
theorem dX3_wordFrom_86 : decode cX3_wordFrom 86 = .ok (.iload 6, 2) := by decide +kernel
theorem dX3_wordFrom_88 : decode cX3_wordFrom 88 = .ok (.if_icmp .ne 7, 3) := by decide +kernel
theorem dX3_wordFrom_91 : decode cX3_wordFrom 91 = .ok (.iconst 1, 1) := by decide +kernel
theorem dX3_wordFrom_92 : decode cX3_wordFrom 92 = .ok (.goto 4, 3) := by decide +kernel
theorem dX3_wordFrom_95 : decode cX3_wordFrom 95 = .ok (.iconst 0, 1) := by decide +kernel
theorem dX3_wordFrom_96 : decode cX3_wordFrom 96 = .ok (.istore 4, 2) := by decide +kernel
theorem dX3_wordFrom_98 : decode cX3_wordFrom 98 = .ok (.iinc 3 1, 3) := by decide +kernel
theorem dX3_wordFrom_101 : decode cX3_wordFrom 101 = .ok (.iinc 5 1, 3) := by decide +kernel
theorem dX3_wordFrom_104 : decode cX3_wordFrom 104 = .ok (.goto (-94), 3) := by decide +kernel
theorem dX3_wordFrom_107 : decode cX3_wordFrom 107 = .ok (.iconst (-1), 1) := by decide +kernel
theorem dX3_wordFrom_108 : decode cX3_wordFrom 108 = .ok (.ireturn, 1) := by decide +kernel
theorem dX3_byteAt_0 : decode cX3_byteAt 0 = .ok (.iload_n 1, 1) := by decide +kernel
theorem dX3_byteAt_1 : decode cX3_byteAt 1 = .ok (.ifCond .lt 23, 3) := by decide +kernel
theorem dX3_byteAt_4 : decode cX3_byteAt 4 = .ok (.iload_n 1, 1) := by decide +kernel
theorem dX3_byteAt_5 : decode cX3_byteAt 5 = .ok (.sipush 300, 3) := by decide +kernel
theorem dX3_byteAt_8 : decode cX3_byteAt 8 = .ok (.if_icmp .ge 16, 3) := by decide +kernel
theorem dX3_byteAt_11 : decode cX3_byteAt 11 = .ok (.aload_n 0, 1) := by decide +kernel
theorem dX3_byteAt_12 : decode cX3_byteAt 12 = .ok (.getfield 9, 3) := by decide +kernel
theorem dX3_byteAt_15 : decode cX3_byteAt 15 = .ok (.iload_n 1, 1) := by decide +kernel
theorem dX3_byteAt_16 : decode cX3_byteAt 16 = .ok (.baload, 1) := by decide +kernel
theorem dX3_byteAt_17 : decode cX3_byteAt 17 = .ok (.sipush 255, 3) := by decide +kernel
theorem dX3_byteAt_20 : decode cX3_byteAt 20 = .ok (.iand, 1) := by decide +kernel
theorem dX3_byteAt_21 : decode cX3_byteAt 21 = .ok (.goto 4, 3) := by decide +kernel
theorem dX3_byteAt_24 : decode cX3_byteAt 24 = .ok (.iconst 0, 1) := by decide +kernel
theorem dX3_byteAt_25 : decode cX3_byteAt 25 = .ok (.ireturn, 1) := by decide +kernel
theorem dX3_isLetter_0 : decode cX3_isLetter 0 = .ok (.iload_n 0, 1) := by decide +kernel
theorem dX3_isLetter_1 : decode cX3_isLetter 1 = .ok (.bipush 97, 2) := by decide +kernel
theorem dX3_isLetter_3 : decode cX3_isLetter 3 = .ok (.bipush 122, 2) := by decide +kernel
theorem dX3_isLetter_5 : decode cX3_isLetter 5 = .ok (.invokestatic 19, 3) := by decide +kernel
theorem dX3_isLetter_8 : decode cX3_isLetter 8 = .ok (.ireturn, 1) := by decide +kernel
theorem dX3_isFigure_0 : decode cX3_isFigure 0 = .ok (.iload_n 0, 1) := by decide +kernel
theorem dX3_isFigure_1 : decode cX3_isFigure 1 = .ok (.bipush 48, 2) := by decide +kernel
theorem dX3_isFigure_3 : decode cX3_isFigure 3 = .ok (.bipush 57, 2) := by decide +kernel
theorem dX3_isFigure_5 : decode cX3_isFigure 5 = .ok (.invokestatic 19, 3) := by decide +kernel
theorem dX3_isFigure_8 : decode cX3_isFigure 8 = .ok (.ireturn, 1) := by decide +kernel
theorem dX4_init_0 : decode cX4_init 0 = .ok (.aload_n 0, 1) := by decide +kernel
theorem dX4_init_1 : decode cX4_init 1 = .ok (.invokespecial 3, 3) := by decide +kernel
theorem dX4_init_4 : decode cX4_init 4 = .ok (.aload_n 0, 1) := by decide +kernel
theorem dX4_init_5 : decode cX4_init 5 = .ok (.iconst 4, 1) := by decide +kernel
theorem dX4_init_6 : decode cX4_init 6 = .ok (.bipush 21, 2) := by decide +kernel
theorem dX4_init_8 : decode cX4_init 8 = .ok (.multianewarray 9 2, 4) := by decide +kernel
theorem dX4_init_12 : decode cX4_init 12 = .ok (.putfield 11, 3) := by decide +kernel
theorem dX4_init_15 : decode cX4_init 15 = .ok (.aload_n 0, 1) := by decide +kernel
theorem dX4_init_16 : decode cX4_init 16 = .ok (.iconst 4, 1) := by decide +kernel
theorem dX4_init_17 : decode cX4_init 17 = .ok (.bipush 21, 2) := by decide +kernel
theorem dX4_init_19 : decode cX4_init 19 = .ok (.multianewarray 9 2, 4) := by decide +kernel
theorem dX4_init_23 : decode cX4_init 23 = .ok (.putfield 16, 3) := by decide +kernel
theorem dX4_init_26 : decode cX4_init 26 = .ok (.aload_n 0, 1) := by decide +kernel
theorem dX4_init_27 : decode cX4_init 27 = .ok (.iconst 4, 1) := by decide +kernel
theorem dX4_init_28 : decode cX4_init 28 = .ok (.bipush 21, 2) := by decide +kernel
theorem dX4_init_30 : decode cX4_init 30 = .ok (.multianewarray 9 2, 4) := by decide +kernel
theorem dX4_init_34 : decode cX4_init 34 = .ok (.putfield 19, 3) := by decide +kernel
theorem dX4_init_37 : decode cX4_init 37 = .ok (.return_, 1) := by decide +kernel
theorem dX4_take_0 : decode cX4_take 0 = .ok (.iconst 0, 1) := by decide +kernel
theorem dX4_take_1 : decode cX4_take 1 = .ok (.istore_n 2, 1) := by decide +kernel
theorem dX4_take_2 : decode cX4_take 2 = .ok (.iload_n 2, 1) := by decide +kernel
theorem dX4_take_3 : decode cX4_take 3 = .ok (.iconst 4, 1) := by decide +kernel
theorem dX4_take_4 : decode cX4_take 4 = .ok (.if_icmp .ge 88, 3) := by decide +kernel
theorem dX4_take_7 : decode cX4_take 7 = .ok (.aload_n 1, 1) := by decide +kernel
theorem dX4_take_8 : decode cX4_take 8 = .ok (.iload_n 2, 1) := by decide +kernel
theorem dX4_take_9 : decode cX4_take 9 = .ok (.invokevirtual 22, 3) := by decide +kernel
theorem dX4_take_12 : decode cX4_take 12 = .ok (.istore_n 3, 1) := by decide +kernel
theorem dX4_take_13 : decode cX4_take 13 = .ok (.iconst 0, 1) := by decide +kernel
theorem dX4_take_14 : decode cX4_take 14 = .ok (.istore 4, 2) := by decide +kernel
theorem dX4_take_16 : decode cX4_take 16 = .ok (.iload 4, 2) := by decide +kernel
theorem dX4_take_18 : decode cX4_take 18 = .ok (.bipush 21, 2) := by decide +kernel
theorem dX4_take_20 : decode cX4_take 20 = .ok (.if_icmp .ge 66, 3) := by decide +kernel
theorem dX4_take_23 : decode cX4_take 23 = .ok (.aload_n 1, 1) := by decide +kernel
theorem dX4_take_24 : decode cX4_take 24 = .ok (.iload 4, 2) := by decide +kernel
theorem dX4_take_26 : decode cX4_take 26 = .ok (.invokevirtual 28, 3) := by decide +kernel
theorem dX4_take_29 : decode cX4_take 29 = .ok (.ifCond .eq 51, 3) := by decide +kernel
theorem dX4_take_32 : decode cX4_take 32 = .ok (.aload_n 0, 1) := by decide +kernel
theorem dX4_take_33 : decode cX4_take 33 = .ok (.getfield 11, 3) := by decide +kernel
theorem dX4_take_36 : decode cX4_take 36 = .ok (.iload_n 2, 1) := by decide +kernel
theorem dX4_take_37 : decode cX4_take 37 = .ok (.aaload, 1) := by decide +kernel
theorem dX4_take_38 : decode cX4_take 38 = .ok (.iload 4, 2) := by decide +kernel
theorem dX4_take_40 : decode cX4_take 40 = .ok (.aload_n 1, 1) := by decide +kernel
theorem dX4_take_41 : decode cX4_take 41 = .ok (.iload 4, 2) := by decide +kernel
theorem dX4_take_43 : decode cX4_take 43 = .ok (.iload_n 3, 1) := by decide +kernel
theorem dX4_take_44 : decode cX4_take 44 = .ok (.invokevirtual 32, 3) := by decide +kernel
theorem dX4_take_47 : decode cX4_take 47 = .ok (.iastore, 1) := by decide +kernel
theorem dX4_take_48 : decode cX4_take 48 = .ok (.aload_n 0, 1) := by decide +kernel
theorem dX4_take_49 : decode cX4_take 49 = .ok (.getfield 16, 3) := by decide +kernel
theorem dX4_take_52 : decode cX4_take 52 = .ok (.iload_n 2, 1) := by decide +kernel
theorem dX4_take_53 : decode cX4_take 53 = .ok (.aaload, 1) := by decide +kernel
theorem dX4_take_54 : decode cX4_take 54 = .ok (.iload 4, 2) := by decide +kernel
theorem dX4_take_56 : decode cX4_take 56 = .ok (.aload_n 1, 1) := by decide +kernel
theorem dX4_take_57 : decode cX4_take 57 = .ok (.iload 4, 2) := by decide +kernel
theorem dX4_take_59 : decode cX4_take 59 = .ok (.iload_n 3, 1) := by decide +kernel
theorem dX4_take_60 : decode cX4_take 60 = .ok (.invokevirtual 36, 3) := by decide +kernel
theorem dX4_take_63 : decode cX4_take 63 = .ok (.iastore, 1) := by decide +kernel
theorem dX4_take_64 : decode cX4_take 64 = .ok (.aload_n 0, 1) := by decide +kernel
theorem dX4_take_65 : decode cX4_take 65 = .ok (.getfield 19, 3) := by decide +kernel
theorem dX4_take_68 : decode cX4_take 68 = .ok (.iload_n 2, 1) := by decide +kernel
theorem dX4_take_69 : decode cX4_take 69 = .ok (.aaload, 1) := by decide +kernel
theorem dX4_take_70 : decode cX4_take 70 = .ok (.iload 4, 2) := by decide +kernel
theorem dX4_take_72 : decode cX4_take 72 = .ok (.aload_n 1, 1) := by decide +kernel
theorem dX4_take_73 : decode cX4_take 73 = .ok (.iload 4, 2) := by decide +kernel
theorem dX4_take_75 : decode cX4_take 75 = .ok (.iload_n 3, 1) := by decide +kernel
theorem dX4_take_76 : decode cX4_take 76 = .ok (.invokevirtual 39, 3) := by decide +kernel
theorem dX4_take_79 : decode cX4_take 79 = .ok (.iastore, 1) := by decide +kernel
theorem dX4_take_80 : decode cX4_take 80 = .ok (.iinc 4 1, 3) := by decide +kernel
theorem dX4_take_83 : decode cX4_take 83 = .ok (.goto (-67), 3) := by decide +kernel
theorem dX4_take_86 : decode cX4_take 86 = .ok (.iinc 2 1, 3) := by decide +kernel
theorem dX4_take_89 : decode cX4_take 89 = .ok (.goto (-87), 3) := by decide +kernel
theorem dX4_take_92 : decode cX4_take 92 = .ok (.return_, 1) := by decide +kernel
theorem dX4_isSo_0 : decode cX4_isSo 0 = .ok (.iload_n 1, 1) := by decide +kernel
theorem dX4_isSo_1 : decode cX4_isSo 1 = .ok (.tableswitch 160 0 6 #[43, 66, 89, 111, 130, 160, 149], 43) := by decide +kernel
theorem dX4_isSo_44 : decode cX4_isSo 44 = .ok (.aload_n 0, 1) := by decide +kernel
theorem dX4_isSo_45 : decode cX4_isSo 45 = .ok (.getfield 19, 3) := by decide +kernel
theorem dX4_isSo_48 : decode cX4_isSo 48 = .ok (.iload_n 3, 1) := by decide +kernel
theorem dX4_isSo_49 : decode cX4_isSo 49 = .ok (.aaload, 1) := by decide +kernel
theorem dX4_isSo_50 : decode cX4_isSo 50 = .ok (.iload 4, 2) := by decide +kernel
theorem dX4_isSo_52 : decode cX4_isSo 52 = .ok (.iaload, 1) := by decide +kernel
theorem dX4_isSo_53 : decode cX4_isSo 53 = .ok (.iload_n 2, 1) := by decide +kernel
theorem dX4_isSo_54 : decode cX4_isSo 54 = .ok (.ishr, 1) := by decide +kernel
theorem dX4_isSo_55 : decode cX4_isSo 55 = .ok (.iconst 1, 1) := by decide +kernel
theorem dX4_isSo_56 : decode cX4_isSo 56 = .ok (.iand, 1) := by decide +kernel
theorem dX4_isSo_57 : decode cX4_isSo 57 = .ok (.iconst 1, 1) := by decide +kernel
theorem dX4_isSo_58 : decode cX4_isSo 58 = .ok (.if_icmp .ne 7, 3) := by decide +kernel
theorem dX4_isSo_61 : decode cX4_isSo 61 = .ok (.iconst 1, 1) := by decide +kernel
theorem dX4_isSo_62 : decode cX4_isSo 62 = .ok (.goto 4, 3) := by decide +kernel
theorem dX4_isSo_65 : decode cX4_isSo 65 = .ok (.iconst 0, 1) := by decide +kernel
theorem dX4_isSo_66 : decode cX4_isSo 66 = .ok (.ireturn, 1) := by decide +kernel
theorem dX4_isSo_67 : decode cX4_isSo 67 = .ok (.aload_n 0, 1) := by decide +kernel
theorem dX4_isSo_68 : decode cX4_isSo 68 = .ok (.getfield 16, 3) := by decide +kernel
theorem dX4_isSo_71 : decode cX4_isSo 71 = .ok (.iload_n 3, 1) := by decide +kernel
theorem dX4_isSo_72 : decode cX4_isSo 72 = .ok (.aaload, 1) := by decide +kernel
theorem dX4_isSo_73 : decode cX4_isSo 73 = .ok (.iload 4, 2) := by decide +kernel
theorem dX4_isSo_75 : decode cX4_isSo 75 = .ok (.iaload, 1) := by decide +kernel
theorem dX4_isSo_76 : decode cX4_isSo 76 = .ok (.iload_n 2, 1) := by decide +kernel
theorem dX4_isSo_77 : decode cX4_isSo 77 = .ok (.ishr, 1) := by decide +kernel
theorem dX4_isSo_78 : decode cX4_isSo 78 = .ok (.iconst 1, 1) := by decide +kernel
theorem dX4_isSo_79 : decode cX4_isSo 79 = .ok (.iand, 1) := by decide +kernel
theorem dX4_isSo_80 : decode cX4_isSo 80 = .ok (.iconst 1, 1) := by decide +kernel
theorem dX4_isSo_81 : decode cX4_isSo 81 = .ok (.if_icmp .ne 7, 3) := by decide +kernel
theorem dX4_isSo_84 : decode cX4_isSo 84 = .ok (.iconst 1, 1) := by decide +kernel
theorem dX4_isSo_85 : decode cX4_isSo 85 = .ok (.goto 4, 3) := by decide +kernel
theorem dX4_isSo_88 : decode cX4_isSo 88 = .ok (.iconst 0, 1) := by decide +kernel
theorem dX4_isSo_89 : decode cX4_isSo 89 = .ok (.ireturn, 1) := by decide +kernel
theorem dX4_isSo_90 : decode cX4_isSo 90 = .ok (.aload_n 0, 1) := by decide +kernel
theorem dX4_isSo_91 : decode cX4_isSo 91 = .ok (.getfield 16, 3) := by decide +kernel
theorem dX4_isSo_94 : decode cX4_isSo 94 = .ok (.iload_n 3, 1) := by decide +kernel
theorem dX4_isSo_95 : decode cX4_isSo 95 = .ok (.aaload, 1) := by decide +kernel
theorem dX4_isSo_96 : decode cX4_isSo 96 = .ok (.iload 4, 2) := by decide +kernel
theorem dX4_isSo_98 : decode cX4_isSo 98 = .ok (.iaload, 1) := by decide +kernel
theorem dX4_isSo_99 : decode cX4_isSo 99 = .ok (.iload_n 2, 1) := by decide +kernel
theorem dX4_isSo_100 : decode cX4_isSo 100 = .ok (.ishr, 1) := by decide +kernel
theorem dX4_isSo_101 : decode cX4_isSo 101 = .ok (.iconst 1, 1) := by decide +kernel
theorem dX4_isSo_102 : decode cX4_isSo 102 = .ok (.iand, 1) := by decide +kernel
theorem dX4_isSo_103 : decode cX4_isSo 103 = .ok (.ifCond .ne 7, 3) := by decide +kernel
theorem dX4_isSo_106 : decode cX4_isSo 106 = .ok (.iconst 1, 1) := by decide +kernel
theorem dX4_isSo_107 : decode cX4_isSo 107 = .ok (.goto 4, 3) := by decide +kernel
theorem dX4_isSo_110 : decode cX4_isSo 110 = .ok (.iconst 0, 1) := by decide +kernel
theorem dX4_isSo_111 : decode cX4_isSo 111 = .ok (.ireturn, 1) := by decide +kernel
theorem dX4_isSo_112 : decode cX4_isSo 112 = .ok (.aload_n 0, 1) := by decide +kernel
theorem dX4_isSo_113 : decode cX4_isSo 113 = .ok (.getfield 11, 3) := by decide +kernel
theorem dX4_isSo_116 : decode cX4_isSo 116 = .ok (.iload_n 3, 1) := by decide +kernel
theorem dX4_isSo_117 : decode cX4_isSo 117 = .ok (.aaload, 1) := by decide +kernel
theorem dX4_isSo_118 : decode cX4_isSo 118 = .ok (.iload 4, 2) := by decide +kernel
theorem dX4_isSo_120 : decode cX4_isSo 120 = .ok (.iaload, 1) := by decide +kernel
theorem dX4_isSo_121 : decode cX4_isSo 121 = .ok (.iload_n 2, 1) := by decide +kernel
theorem dX4_isSo_122 : decode cX4_isSo 122 = .ok (.if_icmp .gt 7, 3) := by decide +kernel
theorem dX4_isSo_125 : decode cX4_isSo 125 = .ok (.iconst 1, 1) := by decide +kernel
theorem dX4_isSo_126 : decode cX4_isSo 126 = .ok (.goto 4, 3) := by decide +kernel
theorem dX4_isSo_129 : decode cX4_isSo 129 = .ok (.iconst 0, 1) := by decide +kernel
theorem dX4_isSo_130 : decode cX4_isSo 130 = .ok (.ireturn, 1) := by decide +kernel
theorem dX4_isSo_131 : decode cX4_isSo 131 = .ok (.aload_n 0, 1) := by decide +kernel
theorem dX4_isSo_132 : decode cX4_isSo 132 = .ok (.getfield 11, 3) := by decide +kernel
theorem dX4_isSo_135 : decode cX4_isSo 135 = .ok (.iload_n 3, 1) := by decide +kernel
theorem dX4_isSo_136 : decode cX4_isSo 136 = .ok (.aaload, 1) := by decide +kernel
theorem dX4_isSo_137 : decode cX4_isSo 137 = .ok (.iload 4, 2) := by decide +kernel
theorem dX4_isSo_139 : decode cX4_isSo 139 = .ok (.iaload, 1) := by decide +kernel
theorem dX4_isSo_140 : decode cX4_isSo 140 = .ok (.iload_n 2, 1) := by decide +kernel
theorem dX4_isSo_141 : decode cX4_isSo 141 = .ok (.if_icmp .lt 7, 3) := by decide +kernel
theorem dX4_isSo_144 : decode cX4_isSo 144 = .ok (.iconst 1, 1) := by decide +kernel
theorem dX4_isSo_145 : decode cX4_isSo 145 = .ok (.goto 4, 3) := by decide +kernel
theorem dX4_isSo_148 : decode cX4_isSo 148 = .ok (.iconst 0, 1) := by decide +kernel
theorem dX4_isSo_149 : decode cX4_isSo 149 = .ok (.ireturn, 1) := by decide +kernel
theorem dX4_isSo_150 : decode cX4_isSo 150 = .ok (.iload 4, 2) := by decide +kernel
theorem dX4_isSo_152 : decode cX4_isSo 152 = .ok (.ifCond .eq 7, 3) := by decide +kernel
theorem dX4_isSo_155 : decode cX4_isSo 155 = .ok (.iconst 1, 1) := by decide +kernel
theorem dX4_isSo_156 : decode cX4_isSo 156 = .ok (.goto 4, 3) := by decide +kernel
theorem dX4_isSo_159 : decode cX4_isSo 159 = .ok (.iconst 0, 1) := by decide +kernel
theorem dX4_isSo_160 : decode cX4_isSo 160 = .ok (.ireturn, 1) := by decide +kernel
theorem dX4_isSo_161 : decode cX4_isSo 161 = .ok (.iconst 1, 1) := by decide +kernel
theorem dX4_isSo_162 : decode cX4_isSo 162 = .ok (.ireturn, 1) := by decide +kernel
theorem dX5_init_0 : decode cX5_init 0 = .ok (.aload_n 0, 1) := by decide +kernel
theorem dX5_init_1 : decode cX5_init 1 = .ok (.invokespecial 3, 3) := by decide +kernel
theorem dX5_init_4 : decode cX5_init 4 = .ok (.aload_n 0, 1) := by decide +kernel
theorem dX5_init_5 : decode cX5_init 5 = .ok (.bipush 16, 2) := by decide +kernel
theorem dX5_init_7 : decode cX5_init 7 = .ok (.newarray .int, 2) := by decide +kernel
theorem dX5_init_9 : decode cX5_init 9 = .ok (.putfield 11, 3) := by decide +kernel
theorem dX5_init_12 : decode cX5_init 12 = .ok (.aload_n 0, 1) := by decide +kernel
theorem dX5_init_13 : decode cX5_init 13 = .ok (.bipush 16, 2) := by decide +kernel
theorem dX5_init_15 : decode cX5_init 15 = .ok (.newarray .int, 2) := by decide +kernel
theorem dX5_init_17 : decode cX5_init 17 = .ok (.putfield 15, 3) := by decide +kernel
theorem dX5_init_20 : decode cX5_init 20 = .ok (.return_, 1) := by decide +kernel
theorem dX5_isZero_0 : decode cX5_isZero 0 = .ok (.aload_n 0, 1) := by decide +kernel
theorem dX5_isZero_1 : decode cX5_isZero 1 = .ok (.getfield 18, 3) := by decide +kernel
theorem dX5_isZero_4 : decode cX5_isZero 4 = .ok (.ifCond .ne 7, 3) := by decide +kernel
theorem dX5_isZero_7 : decode cX5_isZero 7 = .ok (.iconst 1, 1) := by decide +kernel
theorem dX5_isZero_8 : decode cX5_isZero 8 = .ok (.goto 4, 3) := by decide +kernel
theorem dX5_isZero_11 : decode cX5_isZero 11 = .ok (.iconst 0, 1) := by decide +kernel
theorem dX5_isZero_12 : decode cX5_isZero 12 = .ok (.ireturn, 1) := by decide +kernel
theorem dX5_digit_0 : decode cX5_digit 0 = .ok (.iload_n 1, 1) := by decide +kernel
theorem dX5_digit_1 : decode cX5_digit 1 = .ok (.iconst 0, 1) := by decide +kernel
theorem dX5_digit_2 : decode cX5_digit 2 = .ok (.aload_n 0, 1) := by decide +kernel
theorem dX5_digit_3 : decode cX5_digit 3 = .ok (.getfield 18, 3) := by decide +kernel
theorem dX5_digit_6 : decode cX5_digit 6 = .ok (.iconst 1, 1) := by decide +kernel
theorem dX5_digit_7 : decode cX5_digit 7 = .ok (.isub, 1) := by decide +kernel
theorem dX5_digit_8 : decode cX5_digit 8 = .ok (.invokestatic 22, 3) := by decide +kernel
theorem dX5_digit_11 : decode cX5_digit 11 = .ok (.ifCond .eq 12, 3) := by decide +kernel
theorem dX5_digit_14 : decode cX5_digit 14 = .ok (.aload_n 0, 1) := by decide +kernel
theorem dX5_digit_15 : decode cX5_digit 15 = .ok (.getfield 11, 3) := by decide +kernel
theorem dX5_digit_18 : decode cX5_digit 18 = .ok (.iload_n 1, 1) := by decide +kernel
theorem dX5_digit_19 : decode cX5_digit 19 = .ok (.iaload, 1) := by decide +kernel
theorem dX5_digit_20 : decode cX5_digit 20 = .ok (.goto 4, 3) := by decide +kernel
theorem dX5_digit_23 : decode cX5_digit 23 = .ok (.iconst (-1), 1) := by decide +kernel
theorem dX5_digit_24 : decode cX5_digit 24 = .ok (.ireturn, 1) := by decide +kernel
theorem dX5_set_0 : decode cX5_set 0 = .ok (.iconst 0, 1) := by decide +kernel
theorem dX5_set_1 : decode cX5_set 1 = .ok (.istore_n 3, 1) := by decide +kernel
theorem dX5_set_2 : decode cX5_set 2 = .ok (.iload_n 3, 1) := by decide +kernel
theorem dX5_set_3 : decode cX5_set 3 = .ok (.bipush 16, 2) := by decide +kernel
theorem dX5_set_5 : decode cX5_set 5 = .ok (.if_icmp .ge 16, 3) := by decide +kernel
theorem dX5_set_8 : decode cX5_set 8 = .ok (.aload_n 0, 1) := by decide +kernel
theorem dX5_set_9 : decode cX5_set 9 = .ok (.getfield 11, 3) := by decide +kernel
theorem dX5_set_12 : decode cX5_set 12 = .ok (.iload_n 3, 1) := by decide +kernel
theorem dX5_set_13 : decode cX5_set 13 = .ok (.iconst 0, 1) := by decide +kernel
theorem dX5_set_14 : decode cX5_set 14 = .ok (.iastore, 1) := by decide +kernel
theorem dX5_set_15 : decode cX5_set 15 = .ok (.iinc 3 1, 3) := by decide +kernel
theorem dX5_set_18 : decode cX5_set 18 = .ok (.goto (-16), 3) := by decide +kernel
theorem dX5_set_21 : decode cX5_set 21 = .ok (.aload_n 0, 1) := by decide +kernel
theorem dX5_set_22 : decode cX5_set 22 = .ok (.lload_n 1, 1) := by decide +kernel
theorem dX5_set_23 : decode cX5_set 23 = .ok (.iconst 1, 1) := by decide +kernel
theorem dX5_set_24 : decode cX5_set 24 = .ok (.invokevirtual 26, 3) := by decide +kernel
theorem dX5_set_27 : decode cX5_set 27 = .ok (.return_, 1) := by decide +kernel
theorem dX5_become_0 : decode cX5_become 0 = .ok (.aload_n 1, 1) := by decide +kernel
theorem dX5_become_1 : decode cX5_become 1 = .ok (.getfield 11, 3) := by decide +kernel
theorem dX5_become_4 : decode cX5_become 4 = .ok (.iconst 0, 1) := by decide +kernel
theorem dX5_become_5 : decode cX5_become 5 = .ok (.aload_n 0, 1) := by decide +kernel
theorem dX5_become_6 : decode cX5_become 6 = .ok (.getfield 11, 3) := by decide +kernel
theorem dX5_become_9 : decode cX5_become 9 = .ok (.iconst 0, 1) := by decide +kernel
theorem dX5_become_10 : decode cX5_become 10 = .ok (.bipush 16, 2) := by decide +kernel
theorem dX5_become_12 : decode cX5_become 12 = .ok (.invokestatic 30, 3) := by decide +kernel
theorem dX5_become_15 : decode cX5_become 15 = .ok (.aload_n 0, 1) := by decide +kernel
theorem dX5_become_16 : decode cX5_become 16 = .ok (.aload_n 1, 1) := by decide +kernel
theorem dX5_become_17 : decode cX5_become 17 = .ok (.getfield 18, 3) := by decide +kernel
theorem dX5_become_20 : decode cX5_become 20 = .ok (.putfield 18, 3) := by decide +kernel
theorem dX5_become_23 : decode cX5_become 23 = .ok (.return_, 1) := by decide +kernel
theorem dX5_add_0 : decode cX5_add 0 = .ok (.iconst 0, 1) := by decide +kernel
theorem dX5_add_1 : decode cX5_add 1 = .ok (.istore_n 2, 1) := by decide +kernel
theorem dX5_add_2 : decode cX5_add 2 = .ok (.iconst 0, 1) := by decide +kernel
theorem dX5_add_3 : decode cX5_add 3 = .ok (.istore_n 3, 1) := by decide +kernel
theorem dX5_add_4 : decode cX5_add 4 = .ok (.iload_n 3, 1) := by decide +kernel
theorem dX5_add_5 : decode cX5_add 5 = .ok (.bipush 16, 2) := by decide +kernel
theorem dX5_add_7 : decode cX5_add 7 = .ok (.if_icmp .ge 40, 3) := by decide +kernel
theorem dX5_add_10 : decode cX5_add 10 = .ok (.iload_n 2, 1) := by decide +kernel
theorem dX5_add_11 : decode cX5_add 11 = .ok (.aload_n 0, 1) := by decide +kernel
theorem dX5_add_12 : decode cX5_add 12 = .ok (.getfield 11, 3) := by decide +kernel
theorem dX5_add_15 : decode cX5_add 15 = .ok (.iload_n 3, 1) := by decide +kernel
theorem dX5_add_16 : decode cX5_add 16 = .ok (.iaload, 1) := by decide +kernel
theorem dX5_add_17 : decode cX5_add 17 = .ok (.aload_n 1, 1) := by decide +kernel
theorem dX5_add_18 : decode cX5_add 18 = .ok (.getfield 11, 3) := by decide +kernel
theorem dX5_add_21 : decode cX5_add 21 = .ok (.iload_n 3, 1) := by decide +kernel
theorem dX5_add_22 : decode cX5_add 22 = .ok (.iaload, 1) := by decide +kernel
theorem dX5_add_23 : decode cX5_add 23 = .ok (.iadd, 1) := by decide +kernel
theorem dX5_add_24 : decode cX5_add 24 = .ok (.iadd, 1) := by decide +kernel
theorem dX5_add_25 : decode cX5_add 25 = .ok (.istore_n 2, 1) := by decide +kernel
theorem dX5_add_26 : decode cX5_add 26 = .ok (.aload_n 0, 1) := by decide +kernel
theorem dX5_add_27 : decode cX5_add 27 = .ok (.getfield 11, 3) := by decide +kernel
theorem dX5_add_30 : decode cX5_add 30 = .ok (.iload_n 3, 1) := by decide +kernel
theorem dX5_add_31 : decode cX5_add 31 = .ok (.iload_n 2, 1) := by decide +kernel
theorem dX5_add_32 : decode cX5_add 32 = .ok (.ldc 36, 2) := by decide +kernel
theorem dX5_add_34 : decode cX5_add 34 = .ok (.iand, 1) := by decide +kernel
theorem dX5_add_35 : decode cX5_add 35 = .ok (.iastore, 1) := by decide +kernel
theorem dX5_add_36 : decode cX5_add 36 = .ok (.iload_n 2, 1) := by decide +kernel
theorem dX5_add_37 : decode cX5_add 37 = .ok (.bipush 30, 2) := by decide +kernel
theorem dX5_add_39 : decode cX5_add 39 = .ok (.iushr, 1) := by decide +kernel
theorem dX5_add_40 : decode cX5_add 40 = .ok (.istore_n 2, 1) := by decide +kernel
theorem dX5_add_41 : decode cX5_add 41 = .ok (.iinc 3 1, 3) := by decide +kernel
theorem dX5_add_44 : decode cX5_add 44 = .ok (.goto (-40), 3) := by decide +kernel
theorem dX5_add_47 : decode cX5_add 47 = .ok (.aload_n 0, 1) := by decide +kernel
theorem dX5_add_48 : decode cX5_add 48 = .ok (.invokevirtual 37, 3) := by decide +kernel
theorem dX5_add_51 : decode cX5_add 51 = .ok (.return_, 1) := by decide +kernel
theorem dX5_addTimes_0 : decode cX5_addTimes 0 = .ok (.lload_n 1, 1) := by decide +kernel
theorem dX5_addTimes_1 : decode cX5_addTimes 1 = .ok (.lstore 4, 2) := by decide +kernel
theorem dX5_addTimes_3 : decode cX5_addTimes 3 = .ok (.lconst 0, 1) := by decide +kernel
theorem dX5_addTimes_4 : decode cX5_addTimes 4 = .ok (.lstore 6, 2) := by decide +kernel
theorem dX5_addTimes_6 : decode cX5_addTimes 6 = .ok (.iconst 0, 1) := by decide +kernel
theorem dX5_addTimes_7 : decode cX5_addTimes 7 = .ok (.istore 8, 2) := by decide +kernel
theorem dX5_addTimes_9 : decode cX5_addTimes 9 = .ok (.iload 8, 2) := by decide +kernel
theorem dX5_addTimes_11 : decode cX5_addTimes 11 = .ok (.bipush 16, 2) := by decide +kernel
theorem dX5_addTimes_13 : decode cX5_addTimes 13 = .ok (.if_icmp .ge 60, 3) := by decide +kernel
theorem dX5_addTimes_16 : decode cX5_addTimes 16 = .ok (.lload 6, 2) := by decide +kernel
theorem dX5_addTimes_18 : decode cX5_addTimes 18 = .ok (.aload_n 0, 1) := by decide +kernel
theorem dX5_addTimes_19 : decode cX5_addTimes 19 = .ok (.getfield 11, 3) := by decide +kernel
theorem dX5_addTimes_22 : decode cX5_addTimes 22 = .ok (.iload 8, 2) := by decide +kernel
theorem dX5_addTimes_24 : decode cX5_addTimes 24 = .ok (.iaload, 1) := by decide +kernel
theorem dX5_addTimes_25 : decode cX5_addTimes 25 = .ok (.i2l, 1) := by decide +kernel
theorem dX5_addTimes_26 : decode cX5_addTimes 26 = .ok (.lload 4, 2) := by decide +kernel
theorem dX5_addTimes_28 : decode cX5_addTimes 28 = .ok (.ldc2_w 40, 3) := by decide +kernel
theorem dX5_addTimes_31 : decode cX5_addTimes 31 = .ok (.land, 1) := by decide +kernel
theorem dX5_addTimes_32 : decode cX5_addTimes 32 = .ok (.iload_n 3, 1) := by decide +kernel
theorem dX5_addTimes_33 : decode cX5_addTimes 33 = .ok (.i2l, 1) := by decide +kernel
theorem dX5_addTimes_34 : decode cX5_addTimes 34 = .ok (.lmul, 1) := by decide +kernel
theorem dX5_addTimes_35 : decode cX5_addTimes 35 = .ok (.ladd, 1) := by decide +kernel
theorem dX5_addTimes_36 : decode cX5_addTimes 36 = .ok (.ladd, 1) := by decide +kernel
theorem dX5_addTimes_37 : decode cX5_addTimes 37 = .ok (.lstore 6, 2) := by decide +kernel
theorem dX5_addTimes_39 : decode cX5_addTimes 39 = .ok (.aload_n 0, 1) := by decide +kernel
theorem dX5_addTimes_40 : decode cX5_addTimes 40 = .ok (.getfield 11, 3) := by decide +kernel
theorem dX5_addTimes_43 : decode cX5_addTimes 43 = .ok (.iload 8, 2) := by decide +kernel
theorem dX5_addTimes_45 : decode cX5_addTimes 45 = .ok (.lload 6, 2) := by decide +kernel
theorem dX5_addTimes_47 : decode cX5_addTimes 47 = .ok (.ldc2_w 40, 3) := by decide +kernel
theorem dX5_addTimes_50 : decode cX5_addTimes 50 = .ok (.land, 1) := by decide +kernel
theorem dX5_addTimes_51 : decode cX5_addTimes 51 = .ok (.l2i, 1) := by decide +kernel
theorem dX5_addTimes_52 : decode cX5_addTimes 52 = .ok (.iastore, 1) := by decide +kernel
theorem dX5_addTimes_53 : decode cX5_addTimes 53 = .ok (.lload 6, 2) := by decide +kernel
theorem dX5_addTimes_55 : decode cX5_addTimes 55 = .ok (.bipush 30, 2) := by decide +kernel
theorem dX5_addTimes_57 : decode cX5_addTimes 57 = .ok (.lushr, 1) := by decide +kernel
theorem dX5_addTimes_58 : decode cX5_addTimes 58 = .ok (.lstore 6, 2) := by decide +kernel
theorem dX5_addTimes_60 : decode cX5_addTimes 60 = .ok (.lload 4, 2) := by decide +kernel
theorem dX5_addTimes_62 : decode cX5_addTimes 62 = .ok (.bipush 30, 2) := by decide +kernel
theorem dX5_addTimes_64 : decode cX5_addTimes 64 = .ok (.lushr, 1) := by decide +kernel
theorem dX5_addTimes_65 : decode cX5_addTimes 65 = .ok (.lstore 4, 2) := by decide +kernel
theorem dX5_addTimes_67 : decode cX5_addTimes 67 = .ok (.iinc 8 1, 3) := by decide +kernel
theorem dX5_addTimes_70 : decode cX5_addTimes 70 = .ok (.goto (-61), 3) := by decide +kernel
theorem dX5_addTimes_73 : decode cX5_addTimes 73 = .ok (.aload_n 0, 1) := by decide +kernel
theorem dX5_addTimes_74 : decode cX5_addTimes 74 = .ok (.invokevirtual 37, 3) := by decide +kernel
theorem dX5_addTimes_77 : decode cX5_addTimes 77 = .ok (.return_, 1) := by decide +kernel
theorem dX5_multiply_0 : decode cX5_multiply 0 = .ok (.iconst 0, 1) := by decide +kernel
theorem dX5_multiply_1 : decode cX5_multiply 1 = .ok (.istore_n 3, 1) := by decide +kernel
theorem dX5_multiply_2 : decode cX5_multiply 2 = .ok (.iload_n 3, 1) := by decide +kernel
theorem dX5_multiply_3 : decode cX5_multiply 3 = .ok (.bipush 16, 2) := by decide +kernel
theorem dX5_multiply_5 : decode cX5_multiply 5 = .ok (.if_icmp .ge 16, 3) := by decide +kernel
theorem dX5_multiply_8 : decode cX5_multiply 8 = .ok (.aload_n 0, 1) := by decide +kernel
theorem dX5_multiply_9 : decode cX5_multiply 9 = .ok (.getfield 15, 3) := by decide +kernel
theorem dX5_multiply_12 : decode cX5_multiply 12 = .ok (.iload_n 3, 1) := by decide +kernel
theorem dX5_multiply_13 : decode cX5_multiply 13 = .ok (.iconst 0, 1) := by decide +kernel
theorem dX5_multiply_14 : decode cX5_multiply 14 = .ok (.iastore, 1) := by decide +kernel
theorem dX5_multiply_15 : decode cX5_multiply 15 = .ok (.iinc 3 1, 3) := by decide +kernel
theorem dX5_multiply_18 : decode cX5_multiply 18 = .ok (.goto (-16), 3) := by decide +kernel
theorem dX5_multiply_21 : decode cX5_multiply 21 = .ok (.iconst 0, 1) := by decide +kernel
theorem dX5_multiply_22 : decode cX5_multiply 22 = .ok (.istore_n 3, 1) := by decide +kernel
theorem dX5_multiply_23 : decode cX5_multiply 23 = .ok (.iload_n 3, 1) := by decide +kernel
theorem dX5_multiply_24 : decode cX5_multiply 24 = .ok (.iconst 3, 1) := by decide +kernel
theorem dX5_multiply_25 : decode cX5_multiply 25 = .ok (.if_icmp .ge 92, 3) := by decide +kernel
theorem dX5_multiply_28 : decode cX5_multiply 28 = .ok (.lload_n 1, 1) := by decide +kernel
theorem dX5_multiply_29 : decode cX5_multiply 29 = .ok (.iload_n 3, 1) := by decide +kernel
theorem dX5_multiply_30 : decode cX5_multiply 30 = .ok (.bipush 30, 2) := by decide +kernel
theorem dX5_multiply_32 : decode cX5_multiply 32 = .ok (.imul, 1) := by decide +kernel
theorem dX5_multiply_33 : decode cX5_multiply 33 = .ok (.lushr, 1) := by decide +kernel
theorem dX5_multiply_34 : decode cX5_multiply 34 = .ok (.ldc2_w 40, 3) := by decide +kernel
theorem dX5_multiply_37 : decode cX5_multiply 37 = .ok (.land, 1) := by decide +kernel
theorem dX5_multiply_38 : decode cX5_multiply 38 = .ok (.lstore 4, 2) := by decide +kernel
theorem dX5_multiply_40 : decode cX5_multiply 40 = .ok (.lconst 0, 1) := by decide +kernel
theorem dX5_multiply_41 : decode cX5_multiply 41 = .ok (.lstore 6, 2) := by decide +kernel
theorem dX5_multiply_43 : decode cX5_multiply 43 = .ok (.iconst 0, 1) := by decide +kernel
theorem dX5_multiply_44 : decode cX5_multiply 44 = .ok (.istore 8, 2) := by decide +kernel
theorem dX5_multiply_46 : decode cX5_multiply 46 = .ok (.iload 8, 2) := by decide +kernel
theorem dX5_multiply_48 : decode cX5_multiply 48 = .ok (.iload_n 3, 1) := by decide +kernel
theorem dX5_multiply_49 : decode cX5_multiply 49 = .ok (.iadd, 1) := by decide +kernel
theorem dX5_multiply_50 : decode cX5_multiply 50 = .ok (.bipush 16, 2) := by decide +kernel
theorem dX5_multiply_52 : decode cX5_multiply 52 = .ok (.if_icmp .ge 59, 3) := by decide +kernel
theorem dX5_multiply_55 : decode cX5_multiply 55 = .ok (.lload 6, 2) := by decide +kernel
theorem dX5_multiply_57 : decode cX5_multiply 57 = .ok (.aload_n 0, 1) := by decide +kernel
theorem dX5_multiply_58 : decode cX5_multiply 58 = .ok (.getfield 15, 3) := by decide +kernel
theorem dX5_multiply_61 : decode cX5_multiply 61 = .ok (.iload 8, 2) := by decide +kernel
theorem dX5_multiply_63 : decode cX5_multiply 63 = .ok (.iload_n 3, 1) := by decide +kernel
theorem dX5_multiply_64 : decode cX5_multiply 64 = .ok (.iadd, 1) := by decide +kernel
theorem dX5_multiply_65 : decode cX5_multiply 65 = .ok (.iaload, 1) := by decide +kernel
theorem dX5_multiply_66 : decode cX5_multiply 66 = .ok (.i2l, 1) := by decide +kernel
theorem dX5_multiply_67 : decode cX5_multiply 67 = .ok (.lload 4, 2) := by decide +kernel
theorem dX5_multiply_69 : decode cX5_multiply 69 = .ok (.aload_n 0, 1) := by decide +kernel
theorem dX5_multiply_70 : decode cX5_multiply 70 = .ok (.getfield 11, 3) := by decide +kernel
theorem dX5_multiply_73 : decode cX5_multiply 73 = .ok (.iload 8, 2) := by decide +kernel
theorem dX5_multiply_75 : decode cX5_multiply 75 = .ok (.iaload, 1) := by decide +kernel
theorem dX5_multiply_76 : decode cX5_multiply 76 = .ok (.i2l, 1) := by decide +kernel
theorem dX5_multiply_77 : decode cX5_multiply 77 = .ok (.lmul, 1) := by decide +kernel
theorem dX5_multiply_78 : decode cX5_multiply 78 = .ok (.ladd, 1) := by decide +kernel
theorem dX5_multiply_79 : decode cX5_multiply 79 = .ok (.ladd, 1) := by decide +kernel
theorem dX5_multiply_80 : decode cX5_multiply 80 = .ok (.lstore 6, 2) := by decide +kernel
theorem dX5_multiply_82 : decode cX5_multiply 82 = .ok (.aload_n 0, 1) := by decide +kernel
theorem dX5_multiply_83 : decode cX5_multiply 83 = .ok (.getfield 15, 3) := by decide +kernel
theorem dX5_multiply_86 : decode cX5_multiply 86 = .ok (.iload 8, 2) := by decide +kernel
theorem dX5_multiply_88 : decode cX5_multiply 88 = .ok (.iload_n 3, 1) := by decide +kernel
theorem dX5_multiply_89 : decode cX5_multiply 89 = .ok (.iadd, 1) := by decide +kernel
theorem dX5_multiply_90 : decode cX5_multiply 90 = .ok (.lload 6, 2) := by decide +kernel
theorem dX5_multiply_92 : decode cX5_multiply 92 = .ok (.ldc2_w 40, 3) := by decide +kernel
theorem dX5_multiply_95 : decode cX5_multiply 95 = .ok (.land, 1) := by decide +kernel
theorem dX5_multiply_96 : decode cX5_multiply 96 = .ok (.l2i, 1) := by decide +kernel
theorem dX5_multiply_97 : decode cX5_multiply 97 = .ok (.iastore, 1) := by decide +kernel
theorem dX5_multiply_98 : decode cX5_multiply 98 = .ok (.lload 6, 2) := by decide +kernel
theorem dX5_multiply_100 : decode cX5_multiply 100 = .ok (.bipush 30, 2) := by decide +kernel
theorem dX5_multiply_102 : decode cX5_multiply 102 = .ok (.lushr, 1) := by decide +kernel
theorem dX5_multiply_103 : decode cX5_multiply 103 = .ok (.lstore 6, 2) := by decide +kernel
theorem dX5_multiply_105 : decode cX5_multiply 105 = .ok (.iinc 8 1, 3) := by decide +kernel
theorem dX5_multiply_108 : decode cX5_multiply 108 = .ok (.goto (-62), 3) := by decide +kernel
theorem dX5_multiply_111 : decode cX5_multiply 111 = .ok (.iinc 3 1, 3) := by decide +kernel
theorem dX5_multiply_114 : decode cX5_multiply 114 = .ok (.goto (-91), 3) := by decide +kernel
theorem dX5_multiply_117 : decode cX5_multiply 117 = .ok (.aload_n 0, 1) := by decide +kernel
theorem dX5_multiply_118 : decode cX5_multiply 118 = .ok (.getfield 15, 3) := by decide +kernel
theorem dX5_multiply_121 : decode cX5_multiply 121 = .ok (.iconst 0, 1) := by decide +kernel
theorem dX5_multiply_122 : decode cX5_multiply 122 = .ok (.aload_n 0, 1) := by decide +kernel
theorem dX5_multiply_123 : decode cX5_multiply 123 = .ok (.getfield 11, 3) := by decide +kernel
theorem dX5_multiply_126 : decode cX5_multiply 126 = .ok (.iconst 0, 1) := by decide +kernel
theorem dX5_multiply_127 : decode cX5_multiply 127 = .ok (.bipush 16, 2) := by decide +kernel
theorem dX5_multiply_129 : decode cX5_multiply 129 = .ok (.invokestatic 30, 3) := by decide +kernel
theorem dX5_multiply_132 : decode cX5_multiply 132 = .ok (.aload_n 0, 1) := by decide +kernel
theorem dX5_multiply_133 : decode cX5_multiply 133 = .ok (.invokevirtual 37, 3) := by decide +kernel
theorem dX5_multiply_136 : decode cX5_multiply 136 = .ok (.return_, 1) := by decide +kernel
theorem dX5_compareWith_0 : decode cX5_compareWith 0 = .ok (.aload_n 0, 1) := by decide +kernel
theorem dX5_compareWith_1 : decode cX5_compareWith 1 = .ok (.getfield 18, 3) := by decide +kernel
theorem dX5_compareWith_4 : decode cX5_compareWith 4 = .ok (.aload_n 1, 1) := by decide +kernel
theorem dX5_compareWith_5 : decode cX5_compareWith 5 = .ok (.getfield 18, 3) := by decide +kernel
theorem dX5_compareWith_8 : decode cX5_compareWith 8 = .ok (.if_icmp .eq 20, 3) := by decide +kernel
theorem dX5_compareWith_11 : decode cX5_compareWith 11 = .ok (.aload_n 0, 1) := by decide +kernel
theorem dX5_compareWith_12 : decode cX5_compareWith 12 = .ok (.getfield 18, 3) := by decide +kernel
theorem dX5_compareWith_15 : decode cX5_compareWith 15 = .ok (.aload_n 1, 1) := by decide +kernel
theorem dX5_compareWith_16 : decode cX5_compareWith 16 = .ok (.getfield 18, 3) := by decide +kernel
theorem dX5_compareWith_19 : decode cX5_compareWith 19 = .ok (.if_icmp .ge 7, 3) := by decide +kernel
theorem dX5_compareWith_22 : decode cX5_compareWith 22 = .ok (.iconst (-1), 1) := by decide +kernel
theorem dX5_compareWith_23 : decode cX5_compareWith 23 = .ok (.goto 4, 3) := by decide +kernel
theorem dX5_compareWith_26 : decode cX5_compareWith 26 = .ok (.iconst 1, 1) := by decide +kernel
theorem dX5_compareWith_27 : decode cX5_compareWith 27 = .ok (.ireturn, 1) := by decide +kernel
theorem dX5_compareWith_28 : decode cX5_compareWith 28 = .ok (.bipush 15, 2) := by decide +kernel
theorem dX5_compareWith_30 : decode cX5_compareWith 30 = .ok (.istore_n 2, 1) := by decide +kernel
theorem dX5_compareWith_31 : decode cX5_compareWith 31 = .ok (.iload_n 2, 1) := by decide +kernel
theorem dX5_compareWith_32 : decode cX5_compareWith 32 = .ok (.ifCond .lt 45, 3) := by decide +kernel
theorem dX5_compareWith_35 : decode cX5_compareWith 35 = .ok (.aload_n 0, 1) := by decide +kernel
theorem dX5_compareWith_36 : decode cX5_compareWith 36 = .ok (.getfield 11, 3) := by decide +kernel
theorem dX5_compareWith_39 : decode cX5_compareWith 39 = .ok (.iload_n 2, 1) := by decide +kernel
theorem dX5_compareWith_40 : decode cX5_compareWith 40 = .ok (.iaload, 1) := by decide +kernel
theorem dX5_compareWith_41 : decode cX5_compareWith 41 = .ok (.aload_n 1, 1) := by decide +kernel
theorem dX5_compareWith_42 : decode cX5_compareWith 42 = .ok (.getfield 11, 3) := by decide +kernel
theorem dX5_compareWith_45 : decode cX5_compareWith 45 = .ok (.iload_n 2, 1) := by decide +kernel
theorem dX5_compareWith_46 : decode cX5_compareWith 46 = .ok (.iaload, 1) := by decide +kernel
theorem dX5_compareWith_47 : decode cX5_compareWith 47 = .ok (.if_icmp .eq 24, 3) := by decide +kernel
theorem dX5_compareWith_50 : decode cX5_compareWith 50 = .ok (.aload_n 0, 1) := by decide +kernel
theorem dX5_compareWith_51 : decode cX5_compareWith 51 = .ok (.getfield 11, 3) := by decide +kernel
theorem dX5_compareWith_54 : decode cX5_compareWith 54 = .ok (.iload_n 2, 1) := by decide +kernel
theorem dX5_compareWith_55 : decode cX5_compareWith 55 = .ok (.iaload, 1) := by decide +kernel
theorem dX5_compareWith_56 : decode cX5_compareWith 56 = .ok (.aload_n 1, 1) := by decide +kernel
theorem dX5_compareWith_57 : decode cX5_compareWith 57 = .ok (.getfield 11, 3) := by decide +kernel
theorem dX5_compareWith_60 : decode cX5_compareWith 60 = .ok (.iload_n 2, 1) := by decide +kernel
theorem dX5_compareWith_61 : decode cX5_compareWith 61 = .ok (.iaload, 1) := by decide +kernel
theorem dX5_compareWith_62 : decode cX5_compareWith 62 = .ok (.if_icmp .ge 7, 3) := by decide +kernel
theorem dX5_compareWith_65 : decode cX5_compareWith 65 = .ok (.iconst (-1), 1) := by decide +kernel
theorem dX5_compareWith_66 : decode cX5_compareWith 66 = .ok (.goto 4, 3) := by decide +kernel
theorem dX5_compareWith_69 : decode cX5_compareWith 69 = .ok (.iconst 1, 1) := by decide +kernel
theorem dX5_compareWith_70 : decode cX5_compareWith 70 = .ok (.ireturn, 1) := by decide +kernel
theorem dX5_compareWith_71 : decode cX5_compareWith 71 = .ok (.iinc 2 (-1), 3) := by decide +kernel
theorem dX5_compareWith_74 : decode cX5_compareWith 74 = .ok (.goto (-43), 3) := by decide +kernel
theorem dX5_compareWith_77 : decode cX5_compareWith 77 = .ok (.iconst 0, 1) := by decide +kernel
theorem dX5_compareWith_78 : decode cX5_compareWith 78 = .ok (.ireturn, 1) := by decide +kernel
theorem dX5_subtract_0 : decode cX5_subtract 0 = .ok (.iconst 0, 1) := by decide +kernel
theorem dX5_subtract_1 : decode cX5_subtract 1 = .ok (.istore_n 2, 1) := by decide +kernel
theorem dX5_subtract_2 : decode cX5_subtract 2 = .ok (.iconst 0, 1) := by decide +kernel
theorem dX5_subtract_3 : decode cX5_subtract 3 = .ok (.istore_n 3, 1) := by decide +kernel
theorem dX5_subtract_4 : decode cX5_subtract 4 = .ok (.iload_n 3, 1) := by decide +kernel
theorem dX5_subtract_5 : decode cX5_subtract 5 = .ok (.bipush 16, 2) := by decide +kernel
theorem dX5_subtract_7 : decode cX5_subtract 7 = .ok (.if_icmp .ge 40, 3) := by decide +kernel
theorem dX5_subtract_10 : decode cX5_subtract 10 = .ok (.iload_n 2, 1) := by decide +kernel
theorem dX5_subtract_11 : decode cX5_subtract 11 = .ok (.aload_n 0, 1) := by decide +kernel
theorem dX5_subtract_12 : decode cX5_subtract 12 = .ok (.getfield 11, 3) := by decide +kernel
theorem dX5_subtract_15 : decode cX5_subtract 15 = .ok (.iload_n 3, 1) := by decide +kernel
theorem dX5_subtract_16 : decode cX5_subtract 16 = .ok (.iaload, 1) := by decide +kernel
theorem dX5_subtract_17 : decode cX5_subtract 17 = .ok (.aload_n 1, 1) := by decide +kernel
theorem dX5_subtract_18 : decode cX5_subtract 18 = .ok (.getfield 11, 3) := by decide +kernel
theorem dX5_subtract_21 : decode cX5_subtract 21 = .ok (.iload_n 3, 1) := by decide +kernel
theorem dX5_subtract_22 : decode cX5_subtract 22 = .ok (.iaload, 1) := by decide +kernel
theorem dX5_subtract_23 : decode cX5_subtract 23 = .ok (.isub, 1) := by decide +kernel
theorem dX5_subtract_24 : decode cX5_subtract 24 = .ok (.iadd, 1) := by decide +kernel
theorem dX5_subtract_25 : decode cX5_subtract 25 = .ok (.istore_n 2, 1) := by decide +kernel
theorem dX5_subtract_26 : decode cX5_subtract 26 = .ok (.aload_n 0, 1) := by decide +kernel
theorem dX5_subtract_27 : decode cX5_subtract 27 = .ok (.getfield 11, 3) := by decide +kernel
theorem dX5_subtract_30 : decode cX5_subtract 30 = .ok (.iload_n 3, 1) := by decide +kernel
theorem dX5_subtract_31 : decode cX5_subtract 31 = .ok (.iload_n 2, 1) := by decide +kernel
theorem dX5_subtract_32 : decode cX5_subtract 32 = .ok (.ldc 36, 2) := by decide +kernel
theorem dX5_subtract_34 : decode cX5_subtract 34 = .ok (.iand, 1) := by decide +kernel
theorem dX5_subtract_35 : decode cX5_subtract 35 = .ok (.iastore, 1) := by decide +kernel
theorem dX5_subtract_36 : decode cX5_subtract 36 = .ok (.iload_n 2, 1) := by decide +kernel
theorem dX5_subtract_37 : decode cX5_subtract 37 = .ok (.bipush 30, 2) := by decide +kernel
theorem dX5_subtract_39 : decode cX5_subtract 39 = .ok (.ishr, 1) := by decide +kernel
theorem dX5_subtract_40 : decode cX5_subtract 40 = .ok (.istore_n 2, 1) := by decide +kernel
theorem dX5_subtract_41 : decode cX5_subtract 41 = .ok (.iinc 3 1, 3) := by decide +kernel
theorem dX5_subtract_44 : decode cX5_subtract 44 = .ok (.goto (-40), 3) := by decide +kernel
theorem dX5_subtract_47 : decode cX5_subtract 47 = .ok (.aload_n 0, 1) := by decide +kernel
theorem dX5_subtract_48 : decode cX5_subtract 48 = .ok (.invokevirtual 37, 3) := by decide +kernel
theorem dX5_subtract_51 : decode cX5_subtract 51 = .ok (.return_, 1) := by decide +kernel
theorem dX5_twos_0 : decode cX5_twos 0 = .ok (.iconst 0, 1) := by decide +kernel
theorem dX5_twos_1 : decode cX5_twos 1 = .ok (.istore_n 1, 1) := by decide +kernel
theorem dX5_twos_2 : decode cX5_twos 2 = .ok (.iload_n 1, 1) := by decide +kernel
theorem dX5_twos_3 : decode cX5_twos 3 = .ok (.aload_n 0, 1) := by decide +kernel
theorem dX5_twos_4 : decode cX5_twos 4 = .ok (.getfield 18, 3) := by decide +kernel
theorem dX5_twos_7 : decode cX5_twos 7 = .ok (.if_icmp .ge 49, 3) := by decide +kernel
theorem dX5_twos_10 : decode cX5_twos 10 = .ok (.iload_n 1, 1) := by decide +kernel
theorem dX5_twos_11 : decode cX5_twos 11 = .ok (.bipush 16, 2) := by decide +kernel
theorem dX5_twos_13 : decode cX5_twos 13 = .ok (.if_icmp .ge 43, 3) := by decide +kernel
theorem dX5_twos_16 : decode cX5_twos 16 = .ok (.aload_n 0, 1) := by decide +kernel
theorem dX5_twos_17 : decode cX5_twos 17 = .ok (.getfield 11, 3) := by decide +kernel
theorem dX5_twos_20 : decode cX5_twos 20 = .ok (.iload_n 1, 1) := by decide +kernel
theorem dX5_twos_21 : decode cX5_twos 21 = .ok (.iaload, 1) := by decide +kernel
theorem dX5_twos_22 : decode cX5_twos 22 = .ok (.ifCond .eq 28, 3) := by decide +kernel
theorem dX5_twos_25 : decode cX5_twos 25 = .ok (.iload_n 1, 1) := by decide +kernel
theorem dX5_twos_26 : decode cX5_twos 26 = .ok (.bipush 30, 2) := by decide +kernel
theorem dX5_twos_28 : decode cX5_twos 28 = .ok (.imul, 1) := by decide +kernel
theorem dX5_twos_29 : decode cX5_twos 29 = .ok (.aload_n 0, 1) := by decide +kernel
theorem dX5_twos_30 : decode cX5_twos 30 = .ok (.getfield 11, 3) := by decide +kernel
theorem dX5_twos_33 : decode cX5_twos 33 = .ok (.iload_n 1, 1) := by decide +kernel
theorem dX5_twos_34 : decode cX5_twos 34 = .ok (.iaload, 1) := by decide +kernel
theorem dX5_twos_35 : decode cX5_twos 35 = .ok (.aload_n 0, 1) := by decide +kernel
theorem dX5_twos_36 : decode cX5_twos 36 = .ok (.getfield 11, 3) := by decide +kernel
theorem dX5_twos_39 : decode cX5_twos 39 = .ok (.iload_n 1, 1) := by decide +kernel
theorem dX5_twos_40 : decode cX5_twos 40 = .ok (.iaload, 1) := by decide +kernel
theorem dX5_twos_41 : decode cX5_twos 41 = .ok (.ineg, 1) := by decide +kernel
theorem dX5_twos_42 : decode cX5_twos 42 = .ok (.iand, 1) := by decide +kernel
theorem dX5_twos_43 : decode cX5_twos 43 = .ok (.iconst 1, 1) := by decide +kernel
theorem dX5_twos_44 : decode cX5_twos 44 = .ok (.isub, 1) := by decide +kernel
theorem dX5_twos_45 : decode cX5_twos 45 = .ok (.invokestatic 42, 3) := by decide +kernel
theorem dX5_twos_48 : decode cX5_twos 48 = .ok (.iadd, 1) := by decide +kernel
theorem dX5_twos_49 : decode cX5_twos 49 = .ok (.ireturn, 1) := by decide +kernel
theorem dX5_twos_50 : decode cX5_twos 50 = .ok (.iinc 1 1, 3) := by decide +kernel
theorem dX5_twos_53 : decode cX5_twos 53 = .ok (.goto (-51), 3) := by decide +kernel
theorem dX5_twos_56 : decode cX5_twos 56 = .ok (.iconst 0, 1) := by decide +kernel
theorem dX5_twos_57 : decode cX5_twos 57 = .ok (.ireturn, 1) := by decide +kernel
theorem dX5_shiftDown_0 : decode cX5_shiftDown 0 = .ok (.iload_n 1, 1) := by decide +kernel
theorem dX5_shiftDown_1 : decode cX5_shiftDown 1 = .ok (.ifCond .gt 4, 3) := by decide +kernel
theorem dX5_shiftDown_4 : decode cX5_shiftDown 4 = .ok (.return_, 1) := by decide +kernel
theorem dX5_shiftDown_5 : decode cX5_shiftDown 5 = .ok (.iload_n 1, 1) := by decide +kernel
theorem dX5_shiftDown_6 : decode cX5_shiftDown 6 = .ok (.bipush 30, 2) := by decide +kernel
theorem dX5_shiftDown_8 : decode cX5_shiftDown 8 = .ok (.idiv, 1) := by decide +kernel
theorem dX5_shiftDown_9 : decode cX5_shiftDown 9 = .ok (.istore_n 2, 1) := by decide +kernel
theorem dX5_shiftDown_10 : decode cX5_shiftDown 10 = .ok (.iload_n 1, 1) := by decide +kernel
theorem dX5_shiftDown_11 : decode cX5_shiftDown 11 = .ok (.bipush 30, 2) := by decide +kernel
theorem dX5_shiftDown_13 : decode cX5_shiftDown 13 = .ok (.irem, 1) := by decide +kernel
theorem dX5_shiftDown_14 : decode cX5_shiftDown 14 = .ok (.istore_n 3, 1) := by decide +kernel
theorem dX5_shiftDown_15 : decode cX5_shiftDown 15 = .ok (.iconst 0, 1) := by decide +kernel
theorem dX5_shiftDown_16 : decode cX5_shiftDown 16 = .ok (.istore 4, 2) := by decide +kernel
theorem dX5_shiftDown_18 : decode cX5_shiftDown 18 = .ok (.iload 4, 2) := by decide +kernel
theorem dX5_shiftDown_20 : decode cX5_shiftDown 20 = .ok (.bipush 16, 2) := by decide +kernel
theorem dX5_shiftDown_22 : decode cX5_shiftDown 22 = .ok (.if_icmp .ge 85, 3) := by decide +kernel
theorem dX5_shiftDown_25 : decode cX5_shiftDown 25 = .ok (.iload 4, 2) := by decide +kernel
theorem dX5_shiftDown_27 : decode cX5_shiftDown 27 = .ok (.iload_n 2, 1) := by decide +kernel
theorem dX5_shiftDown_28 : decode cX5_shiftDown 28 = .ok (.iadd, 1) := by decide +kernel
theorem dX5_shiftDown_29 : decode cX5_shiftDown 29 = .ok (.bipush 16, 2) := by decide +kernel
theorem dX5_shiftDown_31 : decode cX5_shiftDown 31 = .ok (.if_icmp .ge 16, 3) := by decide +kernel
theorem dX5_shiftDown_34 : decode cX5_shiftDown 34 = .ok (.aload_n 0, 1) := by decide +kernel
theorem dX5_shiftDown_35 : decode cX5_shiftDown 35 = .ok (.getfield 11, 3) := by decide +kernel
theorem dX5_shiftDown_38 : decode cX5_shiftDown 38 = .ok (.iload 4, 2) := by decide +kernel
theorem dX5_shiftDown_40 : decode cX5_shiftDown 40 = .ok (.iload_n 2, 1) := by decide +kernel
theorem dX5_shiftDown_41 : decode cX5_shiftDown 41 = .ok (.iadd, 1) := by decide +kernel
theorem dX5_shiftDown_42 : decode cX5_shiftDown 42 = .ok (.iaload, 1) := by decide +kernel
theorem dX5_shiftDown_43 : decode cX5_shiftDown 43 = .ok (.i2l, 1) := by decide +kernel
theorem dX5_shiftDown_44 : decode cX5_shiftDown 44 = .ok (.goto 4, 3) := by decide +kernel
theorem dX5_shiftDown_47 : decode cX5_shiftDown 47 = .ok (.lconst 0, 1) := by decide +kernel
theorem dX5_shiftDown_48 : decode cX5_shiftDown 48 = .ok (.lstore 5, 2) := by decide +kernel
theorem dX5_shiftDown_50 : decode cX5_shiftDown 50 = .ok (.iload 4, 2) := by decide +kernel
theorem dX5_shiftDown_52 : decode cX5_shiftDown 52 = .ok (.iload_n 2, 1) := by decide +kernel
theorem dX5_shiftDown_53 : decode cX5_shiftDown 53 = .ok (.iadd, 1) := by decide +kernel
theorem dX5_shiftDown_54 : decode cX5_shiftDown 54 = .ok (.iconst 1, 1) := by decide +kernel
theorem dX5_shiftDown_55 : decode cX5_shiftDown 55 = .ok (.iadd, 1) := by decide +kernel
theorem dX5_shiftDown_56 : decode cX5_shiftDown 56 = .ok (.bipush 16, 2) := by decide +kernel
theorem dX5_shiftDown_58 : decode cX5_shiftDown 58 = .ok (.if_icmp .ge 18, 3) := by decide +kernel
theorem dX5_shiftDown_61 : decode cX5_shiftDown 61 = .ok (.aload_n 0, 1) := by decide +kernel
theorem dX5_shiftDown_62 : decode cX5_shiftDown 62 = .ok (.getfield 11, 3) := by decide +kernel
theorem dX5_shiftDown_65 : decode cX5_shiftDown 65 = .ok (.iload 4, 2) := by decide +kernel
theorem dX5_shiftDown_67 : decode cX5_shiftDown 67 = .ok (.iload_n 2, 1) := by decide +kernel
theorem dX5_shiftDown_68 : decode cX5_shiftDown 68 = .ok (.iadd, 1) := by decide +kernel
theorem dX5_shiftDown_69 : decode cX5_shiftDown 69 = .ok (.iconst 1, 1) := by decide +kernel
theorem dX5_shiftDown_70 : decode cX5_shiftDown 70 = .ok (.iadd, 1) := by decide +kernel
theorem dX5_shiftDown_71 : decode cX5_shiftDown 71 = .ok (.iaload, 1) := by decide +kernel
theorem dX5_shiftDown_72 : decode cX5_shiftDown 72 = .ok (.i2l, 1) := by decide +kernel
theorem dX5_shiftDown_73 : decode cX5_shiftDown 73 = .ok (.goto 4, 3) := by decide +kernel
theorem dX5_shiftDown_76 : decode cX5_shiftDown 76 = .ok (.lconst 0, 1) := by decide +kernel
theorem dX5_shiftDown_77 : decode cX5_shiftDown 77 = .ok (.lstore 7, 2) := by decide +kernel
theorem dX5_shiftDown_79 : decode cX5_shiftDown 79 = .ok (.aload_n 0, 1) := by decide +kernel
theorem dX5_shiftDown_80 : decode cX5_shiftDown 80 = .ok (.getfield 11, 3) := by decide +kernel
theorem dX5_shiftDown_83 : decode cX5_shiftDown 83 = .ok (.iload 4, 2) := by decide +kernel
theorem dX5_shiftDown_85 : decode cX5_shiftDown 85 = .ok (.lload 7, 2) := by decide +kernel
theorem dX5_shiftDown_87 : decode cX5_shiftDown 87 = .ok (.bipush 30, 2) := by decide +kernel
theorem dX5_shiftDown_89 : decode cX5_shiftDown 89 = .ok (.lshl, 1) := by decide +kernel
theorem dX5_shiftDown_90 : decode cX5_shiftDown 90 = .ok (.lload 5, 2) := by decide +kernel
theorem dX5_shiftDown_92 : decode cX5_shiftDown 92 = .ok (.lor, 1) := by decide +kernel
theorem dX5_shiftDown_93 : decode cX5_shiftDown 93 = .ok (.iload_n 3, 1) := by decide +kernel
theorem dX5_shiftDown_94 : decode cX5_shiftDown 94 = .ok (.lushr, 1) := by decide +kernel
theorem dX5_shiftDown_95 : decode cX5_shiftDown 95 = .ok (.ldc2_w 40, 3) := by decide +kernel
theorem dX5_shiftDown_98 : decode cX5_shiftDown 98 = .ok (.land, 1) := by decide +kernel
theorem dX5_shiftDown_99 : decode cX5_shiftDown 99 = .ok (.l2i, 1) := by decide +kernel
theorem dX5_shiftDown_100 : decode cX5_shiftDown 100 = .ok (.iastore, 1) := by decide +kernel
theorem dX5_shiftDown_101 : decode cX5_shiftDown 101 = .ok (.iinc 4 1, 3) := by decide +kernel
theorem dX5_shiftDown_104 : decode cX5_shiftDown 104 = .ok (.goto (-86), 3) := by decide +kernel
theorem dX5_shiftDown_107 : decode cX5_shiftDown 107 = .ok (.aload_n 0, 1) := by decide +kernel
theorem dX5_shiftDown_108 : decode cX5_shiftDown 108 = .ok (.invokevirtual 37, 3) := by decide +kernel
theorem dX5_shiftDown_111 : decode cX5_shiftDown 111 = .ok (.return_, 1) := by decide +kernel
theorem dX5_divideExactly_0 : decode cX5_divideExactly 0 = .ok (.aload_n 1, 1) := by decide +kernel
theorem dX5_divideExactly_1 : decode cX5_divideExactly 1 = .ok (.getfield 11, 3) := by decide +kernel
theorem dX5_divideExactly_4 : decode cX5_divideExactly 4 = .ok (.iconst 0, 1) := by decide +kernel
theorem dX5_divideExactly_5 : decode cX5_divideExactly 5 = .ok (.iaload, 1) := by decide +kernel
theorem dX5_divideExactly_6 : decode cX5_divideExactly 6 = .ok (.istore_n 2, 1) := by decide +kernel
theorem dX5_divideExactly_7 : decode cX5_divideExactly 7 = .ok (.iload_n 2, 1) := by decide +kernel
theorem dX5_divideExactly_8 : decode cX5_divideExactly 8 = .ok (.istore_n 3, 1) := by decide +kernel
theorem dX5_divideExactly_9 : decode cX5_divideExactly 9 = .ok (.iconst 3, 1) := by decide +kernel
theorem dX5_divideExactly_10 : decode cX5_divideExactly 10 = .ok (.istore 4, 2) := by decide +kernel
theorem dX5_divideExactly_12 : decode cX5_divideExactly 12 = .ok (.iload 4, 2) := by decide +kernel
theorem dX5_divideExactly_14 : decode cX5_divideExactly 14 = .ok (.bipush 30, 2) := by decide +kernel
theorem dX5_divideExactly_16 : decode cX5_divideExactly 16 = .ok (.if_icmp .ge 20, 3) := by decide +kernel
theorem dX5_divideExactly_19 : decode cX5_divideExactly 19 = .ok (.iload_n 3, 1) := by decide +kernel
theorem dX5_divideExactly_20 : decode cX5_divideExactly 20 = .ok (.iconst 2, 1) := by decide +kernel
theorem dX5_divideExactly_21 : decode cX5_divideExactly 21 = .ok (.iload_n 2, 1) := by decide +kernel
end
section
theorem dX5_divideExactly_22 : decode cX5_divideExactly 22 = .ok (.iload_n 3, 1) := by decide +kernel
theorem dX5_divideExactly_23 : decode cX5_divideExactly 23 = .ok (.imul, 1) := by decide +kernel
theorem dX5_divideExactly_24 : decode cX5_divideExactly 24 = .ok (.isub, 1) := by decide +kernel
theorem dX5_divideExactly_25 : decode cX5_divideExactly 25 = .ok (.imul, 1) := by decide +kernel
theorem dX5_divideExactly_26 : decode cX5_divideExactly 26 = .ok (.istore_n 3, 1) := by decide +kernel
theorem dX5_divideExactly_27 : decode cX5_divideExactly 27 = .ok (.iload 4, 2) := by decide +kernel
theorem dX5_divideExactly_29 : decode cX5_divideExactly 29 = .ok (.iconst 2, 1) := by decide +kernel
theorem dX5_divideExactly_30 : decode cX5_divideExactly 30 = .ok (.imul, 1) := by decide +kernel
theorem dX5_divideExactly_31 : decode cX5_divideExactly 31 = .ok (.istore 4, 2) := by decide +kernel
theorem dX5_divideExactly_33 : decode cX5_divideExactly 33 = .ok (.goto (-21), 3) := by decide +kernel
theorem dX5_divideExactly_36 : decode cX5_divideExactly 36 = .ok (.iconst 0, 1) := by decide +kernel
theorem dX5_divideExactly_37 : decode cX5_divideExactly 37 = .ok (.istore 4, 2) := by decide +kernel
theorem dX5_divideExactly_39 : decode cX5_divideExactly 39 = .ok (.iload 4, 2) := by decide +kernel
theorem dX5_divideExactly_41 : decode cX5_divideExactly 41 = .ok (.bipush 16, 2) := by decide +kernel
theorem dX5_divideExactly_43 : decode cX5_divideExactly 43 = .ok (.if_icmp .ge 107, 3) := by decide +kernel
theorem dX5_divideExactly_46 : decode cX5_divideExactly 46 = .ok (.aload_n 0, 1) := by decide +kernel
theorem dX5_divideExactly_47 : decode cX5_divideExactly 47 = .ok (.getfield 11, 3) := by decide +kernel
theorem dX5_divideExactly_50 : decode cX5_divideExactly 50 = .ok (.iload 4, 2) := by decide +kernel
theorem dX5_divideExactly_52 : decode cX5_divideExactly 52 = .ok (.iaload, 1) := by decide +kernel
theorem dX5_divideExactly_53 : decode cX5_divideExactly 53 = .ok (.iload_n 3, 1) := by decide +kernel
theorem dX5_divideExactly_54 : decode cX5_divideExactly 54 = .ok (.imul, 1) := by decide +kernel
theorem dX5_divideExactly_55 : decode cX5_divideExactly 55 = .ok (.ldc 36, 2) := by decide +kernel
theorem dX5_divideExactly_57 : decode cX5_divideExactly 57 = .ok (.iand, 1) := by decide +kernel
theorem dX5_divideExactly_58 : decode cX5_divideExactly 58 = .ok (.istore 5, 2) := by decide +kernel
theorem dX5_divideExactly_60 : decode cX5_divideExactly 60 = .ok (.lconst 0, 1) := by decide +kernel
theorem dX5_divideExactly_61 : decode cX5_divideExactly 61 = .ok (.lstore 6, 2) := by decide +kernel
theorem dX5_divideExactly_63 : decode cX5_divideExactly 63 = .ok (.iconst 0, 1) := by decide +kernel
theorem dX5_divideExactly_64 : decode cX5_divideExactly 64 = .ok (.istore 8, 2) := by decide +kernel
theorem dX5_divideExactly_66 : decode cX5_divideExactly 66 = .ok (.iload 8, 2) := by decide +kernel
theorem dX5_divideExactly_68 : decode cX5_divideExactly 68 = .ok (.iload 4, 2) := by decide +kernel
theorem dX5_divideExactly_70 : decode cX5_divideExactly 70 = .ok (.iadd, 1) := by decide +kernel
theorem dX5_divideExactly_71 : decode cX5_divideExactly 71 = .ok (.bipush 16, 2) := by decide +kernel
theorem dX5_divideExactly_73 : decode cX5_divideExactly 73 = .ok (.if_icmp .ge 62, 3) := by decide +kernel
theorem dX5_divideExactly_76 : decode cX5_divideExactly 76 = .ok (.lload 6, 2) := by decide +kernel
theorem dX5_divideExactly_78 : decode cX5_divideExactly 78 = .ok (.aload_n 0, 1) := by decide +kernel
theorem dX5_divideExactly_79 : decode cX5_divideExactly 79 = .ok (.getfield 11, 3) := by decide +kernel
theorem dX5_divideExactly_82 : decode cX5_divideExactly 82 = .ok (.iload 8, 2) := by decide +kernel
theorem dX5_divideExactly_84 : decode cX5_divideExactly 84 = .ok (.iload 4, 2) := by decide +kernel
theorem dX5_divideExactly_86 : decode cX5_divideExactly 86 = .ok (.iadd, 1) := by decide +kernel
theorem dX5_divideExactly_87 : decode cX5_divideExactly 87 = .ok (.iaload, 1) := by decide +kernel
theorem dX5_divideExactly_88 : decode cX5_divideExactly 88 = .ok (.i2l, 1) := by decide +kernel
theorem dX5_divideExactly_89 : decode cX5_divideExactly 89 = .ok (.iload 5, 2) := by decide +kernel
theorem dX5_divideExactly_91 : decode cX5_divideExactly 91 = .ok (.i2l, 1) := by decide +kernel
theorem dX5_divideExactly_92 : decode cX5_divideExactly 92 = .ok (.aload_n 1, 1) := by decide +kernel
theorem dX5_divideExactly_93 : decode cX5_divideExactly 93 = .ok (.getfield 11, 3) := by decide +kernel
theorem dX5_divideExactly_96 : decode cX5_divideExactly 96 = .ok (.iload 8, 2) := by decide +kernel
theorem dX5_divideExactly_98 : decode cX5_divideExactly 98 = .ok (.iaload, 1) := by decide +kernel
theorem dX5_divideExactly_99 : decode cX5_divideExactly 99 = .ok (.i2l, 1) := by decide +kernel
theorem dX5_divideExactly_100 : decode cX5_divideExactly 100 = .ok (.lmul, 1) := by decide +kernel
theorem dX5_divideExactly_101 : decode cX5_divideExactly 101 = .ok (.lsub, 1) := by decide +kernel
theorem dX5_divideExactly_102 : decode cX5_divideExactly 102 = .ok (.ladd, 1) := by decide +kernel
theorem dX5_divideExactly_103 : decode cX5_divideExactly 103 = .ok (.lstore 6, 2) := by decide +kernel
theorem dX5_divideExactly_105 : decode cX5_divideExactly 105 = .ok (.aload_n 0, 1) := by decide +kernel
theorem dX5_divideExactly_106 : decode cX5_divideExactly 106 = .ok (.getfield 11, 3) := by decide +kernel
theorem dX5_divideExactly_109 : decode cX5_divideExactly 109 = .ok (.iload 8, 2) := by decide +kernel
theorem dX5_divideExactly_111 : decode cX5_divideExactly 111 = .ok (.iload 4, 2) := by decide +kernel
theorem dX5_divideExactly_113 : decode cX5_divideExactly 113 = .ok (.iadd, 1) := by decide +kernel
theorem dX5_divideExactly_114 : decode cX5_divideExactly 114 = .ok (.lload 6, 2) := by decide +kernel
theorem dX5_divideExactly_116 : decode cX5_divideExactly 116 = .ok (.ldc2_w 40, 3) := by decide +kernel
theorem dX5_divideExactly_119 : decode cX5_divideExactly 119 = .ok (.land, 1) := by decide +kernel
theorem dX5_divideExactly_120 : decode cX5_divideExactly 120 = .ok (.l2i, 1) := by decide +kernel
theorem dX5_divideExactly_121 : decode cX5_divideExactly 121 = .ok (.iastore, 1) := by decide +kernel
theorem dX5_divideExactly_122 : decode cX5_divideExactly 122 = .ok (.lload 6, 2) := by decide +kernel
theorem dX5_divideExactly_124 : decode cX5_divideExactly 124 = .ok (.bipush 30, 2) := by decide +kernel
theorem dX5_divideExactly_126 : decode cX5_divideExactly 126 = .ok (.lshr, 1) := by decide +kernel
theorem dX5_divideExactly_127 : decode cX5_divideExactly 127 = .ok (.lstore 6, 2) := by decide +kernel
theorem dX5_divideExactly_129 : decode cX5_divideExactly 129 = .ok (.iinc 8 1, 3) := by decide +kernel
theorem dX5_divideExactly_132 : decode cX5_divideExactly 132 = .ok (.goto (-66), 3) := by decide +kernel
theorem dX5_divideExactly_135 : decode cX5_divideExactly 135 = .ok (.aload_n 0, 1) := by decide +kernel
theorem dX5_divideExactly_136 : decode cX5_divideExactly 136 = .ok (.getfield 15, 3) := by decide +kernel
theorem dX5_divideExactly_139 : decode cX5_divideExactly 139 = .ok (.iload 4, 2) := by decide +kernel
theorem dX5_divideExactly_141 : decode cX5_divideExactly 141 = .ok (.iload 5, 2) := by decide +kernel
theorem dX5_divideExactly_143 : decode cX5_divideExactly 143 = .ok (.iastore, 1) := by decide +kernel
theorem dX5_divideExactly_144 : decode cX5_divideExactly 144 = .ok (.iinc 4 1, 3) := by decide +kernel
theorem dX5_divideExactly_147 : decode cX5_divideExactly 147 = .ok (.goto (-108), 3) := by decide +kernel
theorem dX5_divideExactly_150 : decode cX5_divideExactly 150 = .ok (.aload_n 0, 1) := by decide +kernel
theorem dX5_divideExactly_151 : decode cX5_divideExactly 151 = .ok (.getfield 15, 3) := by decide +kernel
theorem dX5_divideExactly_154 : decode cX5_divideExactly 154 = .ok (.iconst 0, 1) := by decide +kernel
theorem dX5_divideExactly_155 : decode cX5_divideExactly 155 = .ok (.aload_n 0, 1) := by decide +kernel
theorem dX5_divideExactly_156 : decode cX5_divideExactly 156 = .ok (.getfield 11, 3) := by decide +kernel
theorem dX5_divideExactly_159 : decode cX5_divideExactly 159 = .ok (.iconst 0, 1) := by decide +kernel
theorem dX5_divideExactly_160 : decode cX5_divideExactly 160 = .ok (.bipush 16, 2) := by decide +kernel
theorem dX5_divideExactly_162 : decode cX5_divideExactly 162 = .ok (.invokestatic 30, 3) := by decide +kernel
theorem dX5_divideExactly_165 : decode cX5_divideExactly 165 = .ok (.aload_n 0, 1) := by decide +kernel
theorem dX5_divideExactly_166 : decode cX5_divideExactly 166 = .ok (.invokevirtual 37, 3) := by decide +kernel
theorem dX5_divideExactly_169 : decode cX5_divideExactly 169 = .ok (.return_, 1) := by decide +kernel
theorem dX5_mix_0 : decode cX5_mix 0 = .ok (.lload_n 1, 1) := by decide +kernel
theorem dX5_mix_1 : decode cX5_mix 1 = .ok (.lstore_n 3, 1) := by decide +kernel
theorem dX5_mix_2 : decode cX5_mix 2 = .ok (.iconst 0, 1) := by decide +kernel
theorem dX5_mix_3 : decode cX5_mix 3 = .ok (.istore 5, 2) := by decide +kernel
theorem dX5_mix_5 : decode cX5_mix 5 = .ok (.iload 5, 2) := by decide +kernel
theorem dX5_mix_7 : decode cX5_mix 7 = .ok (.aload_n 0, 1) := by decide +kernel
theorem dX5_mix_8 : decode cX5_mix 8 = .ok (.getfield 18, 3) := by decide +kernel
theorem dX5_mix_11 : decode cX5_mix 11 = .ok (.if_icmp .ge 31, 3) := by decide +kernel
theorem dX5_mix_14 : decode cX5_mix 14 = .ok (.iload 5, 2) := by decide +kernel
theorem dX5_mix_16 : decode cX5_mix 16 = .ok (.bipush 16, 2) := by decide +kernel
theorem dX5_mix_18 : decode cX5_mix 18 = .ok (.if_icmp .ge 24, 3) := by decide +kernel
theorem dX5_mix_21 : decode cX5_mix 21 = .ok (.ldc2_w 48, 3) := by decide +kernel
theorem dX5_mix_24 : decode cX5_mix 24 = .ok (.lload_n 3, 1) := by decide +kernel
theorem dX5_mix_25 : decode cX5_mix 25 = .ok (.lmul, 1) := by decide +kernel
theorem dX5_mix_26 : decode cX5_mix 26 = .ok (.aload_n 0, 1) := by decide +kernel
theorem dX5_mix_27 : decode cX5_mix 27 = .ok (.getfield 11, 3) := by decide +kernel
theorem dX5_mix_30 : decode cX5_mix 30 = .ok (.iload 5, 2) := by decide +kernel
theorem dX5_mix_32 : decode cX5_mix 32 = .ok (.iaload, 1) := by decide +kernel
theorem dX5_mix_33 : decode cX5_mix 33 = .ok (.i2l, 1) := by decide +kernel
theorem dX5_mix_34 : decode cX5_mix 34 = .ok (.ladd, 1) := by decide +kernel
theorem dX5_mix_35 : decode cX5_mix 35 = .ok (.lstore_n 3, 1) := by decide +kernel
theorem dX5_mix_36 : decode cX5_mix 36 = .ok (.iinc 5 1, 3) := by decide +kernel
theorem dX5_mix_39 : decode cX5_mix 39 = .ok (.goto (-34), 3) := by decide +kernel
theorem dX5_mix_42 : decode cX5_mix 42 = .ok (.lload_n 3, 1) := by decide +kernel
theorem dX5_mix_43 : decode cX5_mix 43 = .ok (.lreturn, 1) := by decide +kernel
theorem dX5_measure_0 : decode cX5_measure 0 = .ok (.aload_n 0, 1) := by decide +kernel
theorem dX5_measure_1 : decode cX5_measure 1 = .ok (.bipush 16, 2) := by decide +kernel
theorem dX5_measure_3 : decode cX5_measure 3 = .ok (.putfield 18, 3) := by decide +kernel
theorem dX5_measure_6 : decode cX5_measure 6 = .ok (.aload_n 0, 1) := by decide +kernel
theorem dX5_measure_7 : decode cX5_measure 7 = .ok (.getfield 18, 3) := by decide +kernel
theorem dX5_measure_10 : decode cX5_measure 10 = .ok (.ifCond .le 30, 3) := by decide +kernel
theorem dX5_measure_13 : decode cX5_measure 13 = .ok (.aload_n 0, 1) := by decide +kernel
theorem dX5_measure_14 : decode cX5_measure 14 = .ok (.getfield 11, 3) := by decide +kernel
theorem dX5_measure_17 : decode cX5_measure 17 = .ok (.aload_n 0, 1) := by decide +kernel
theorem dX5_measure_18 : decode cX5_measure 18 = .ok (.getfield 18, 3) := by decide +kernel
theorem dX5_measure_21 : decode cX5_measure 21 = .ok (.iconst 1, 1) := by decide +kernel
theorem dX5_measure_22 : decode cX5_measure 22 = .ok (.isub, 1) := by decide +kernel
theorem dX5_measure_23 : decode cX5_measure 23 = .ok (.iaload, 1) := by decide +kernel
theorem dX5_measure_24 : decode cX5_measure 24 = .ok (.ifCond .ne 16, 3) := by decide +kernel
theorem dX5_measure_27 : decode cX5_measure 27 = .ok (.aload_n 0, 1) := by decide +kernel
theorem dX5_measure_28 : decode cX5_measure 28 = .ok (.dup, 1) := by decide +kernel
theorem dX5_measure_29 : decode cX5_measure 29 = .ok (.getfield 18, 3) := by decide +kernel
theorem dX5_measure_32 : decode cX5_measure 32 = .ok (.iconst 1, 1) := by decide +kernel
theorem dX5_measure_33 : decode cX5_measure 33 = .ok (.isub, 1) := by decide +kernel
theorem dX5_measure_34 : decode cX5_measure 34 = .ok (.putfield 18, 3) := by decide +kernel
theorem dX5_measure_37 : decode cX5_measure 37 = .ok (.goto (-31), 3) := by decide +kernel
theorem dX5_measure_40 : decode cX5_measure 40 = .ok (.return_, 1) := by decide +kernel
theorem dX6_init_0 : decode cX6_init 0 = .ok (.aload_n 0, 1) := by decide +kernel
theorem dX6_init_1 : decode cX6_init 1 = .ok (.invokespecial 1, 3) := by decide +kernel
theorem dX6_init_4 : decode cX6_init 4 = .ok (.aload_n 0, 1) := by decide +kernel
theorem dX6_init_5 : decode cX6_init 5 = .ok (.new 7, 3) := by decide +kernel
theorem dX6_init_8 : decode cX6_init 8 = .ok (.dup, 1) := by decide +kernel
theorem dX6_init_9 : decode cX6_init 9 = .ok (.invokespecial 9, 3) := by decide +kernel
theorem dX6_init_12 : decode cX6_init 12 = .ok (.putfield 10, 3) := by decide +kernel
theorem dX6_init_15 : decode cX6_init 15 = .ok (.aload_n 0, 1) := by decide +kernel
theorem dX6_init_16 : decode cX6_init 16 = .ok (.new 7, 3) := by decide +kernel
theorem dX6_init_19 : decode cX6_init 19 = .ok (.dup, 1) := by decide +kernel
theorem dX6_init_20 : decode cX6_init 20 = .ok (.invokespecial 9, 3) := by decide +kernel
theorem dX6_init_23 : decode cX6_init 23 = .ok (.putfield 16, 3) := by decide +kernel
theorem dX6_init_26 : decode cX6_init 26 = .ok (.aload_n 0, 1) := by decide +kernel
theorem dX6_init_27 : decode cX6_init 27 = .ok (.iconst 2, 1) := by decide +kernel
theorem dX6_init_28 : decode cX6_init 28 = .ok (.anewarray 7, 3) := by decide +kernel
theorem dX6_init_31 : decode cX6_init 31 = .ok (.dup, 1) := by decide +kernel
theorem dX6_init_32 : decode cX6_init 32 = .ok (.iconst 0, 1) := by decide +kernel
theorem dX6_init_33 : decode cX6_init 33 = .ok (.new 7, 3) := by decide +kernel
theorem dX6_init_36 : decode cX6_init 36 = .ok (.dup, 1) := by decide +kernel
theorem dX6_init_37 : decode cX6_init 37 = .ok (.invokespecial 9, 3) := by decide +kernel
theorem dX6_init_40 : decode cX6_init 40 = .ok (.aastore, 1) := by decide +kernel
theorem dX6_init_41 : decode cX6_init 41 = .ok (.dup, 1) := by decide +kernel
theorem dX6_init_42 : decode cX6_init 42 = .ok (.iconst 1, 1) := by decide +kernel
theorem dX6_init_43 : decode cX6_init 43 = .ok (.new 7, 3) := by decide +kernel
theorem dX6_init_46 : decode cX6_init 46 = .ok (.dup, 1) := by decide +kernel
theorem dX6_init_47 : decode cX6_init 47 = .ok (.invokespecial 9, 3) := by decide +kernel
theorem dX6_init_50 : decode cX6_init 50 = .ok (.aastore, 1) := by decide +kernel
theorem dX6_init_51 : decode cX6_init 51 = .ok (.putfield 19, 3) := by decide +kernel
theorem dX6_init_54 : decode cX6_init 54 = .ok (.aload_n 0, 1) := by decide +kernel
theorem dX6_init_55 : decode cX6_init 55 = .ok (.iconst 2, 1) := by decide +kernel
theorem dX6_init_56 : decode cX6_init 56 = .ok (.newarray .boolean, 2) := by decide +kernel
theorem dX6_init_58 : decode cX6_init 58 = .ok (.putfield 23, 3) := by decide +kernel
theorem dX6_init_61 : decode cX6_init 61 = .ok (.aload_n 0, 1) := by decide +kernel
theorem dX6_init_62 : decode cX6_init 62 = .ok (.new 27, 3) := by decide +kernel
theorem dX6_init_65 : decode cX6_init 65 = .ok (.dup, 1) := by decide +kernel
theorem dX6_init_66 : decode cX6_init 66 = .ok (.invokespecial 29, 3) := by decide +kernel
theorem dX6_init_69 : decode cX6_init 69 = .ok (.putfield 30, 3) := by decide +kernel
theorem dX6_init_72 : decode cX6_init 72 = .ok (.aload_n 0, 1) := by decide +kernel
theorem dX6_init_73 : decode cX6_init 73 = .ok (.new 34, 3) := by decide +kernel
theorem dX6_init_76 : decode cX6_init 76 = .ok (.dup, 1) := by decide +kernel
theorem dX6_init_77 : decode cX6_init 77 = .ok (.invokespecial 36, 3) := by decide +kernel
theorem dX6_init_80 : decode cX6_init 80 = .ok (.putfield 37, 3) := by decide +kernel
theorem dX6_init_83 : decode cX6_init 83 = .ok (.aload_n 0, 1) := by decide +kernel
theorem dX6_init_84 : decode cX6_init 84 = .ok (.new 41, 3) := by decide +kernel
theorem dX6_init_87 : decode cX6_init 87 = .ok (.dup, 1) := by decide +kernel
theorem dX6_init_88 : decode cX6_init 88 = .ok (.invokespecial 43, 3) := by decide +kernel
theorem dX6_init_91 : decode cX6_init 91 = .ok (.putfield 44, 3) := by decide +kernel
theorem dX6_init_94 : decode cX6_init 94 = .ok (.aload_n 0, 1) := by decide +kernel
theorem dX6_init_95 : decode cX6_init 95 = .ok (.new 48, 3) := by decide +kernel
theorem dX6_init_98 : decode cX6_init 98 = .ok (.dup, 1) := by decide +kernel
theorem dX6_init_99 : decode cX6_init 99 = .ok (.invokespecial 50, 3) := by decide +kernel
theorem dX6_init_102 : decode cX6_init 102 = .ok (.putfield 51, 3) := by decide +kernel
theorem dX6_init_105 : decode cX6_init 105 = .ok (.aload_n 0, 1) := by decide +kernel
theorem dX6_init_106 : decode cX6_init 106 = .ok (.new 55, 3) := by decide +kernel
theorem dX6_init_109 : decode cX6_init 109 = .ok (.dup, 1) := by decide +kernel
theorem dX6_init_110 : decode cX6_init 110 = .ok (.invokespecial 57, 3) := by decide +kernel
theorem dX6_init_113 : decode cX6_init 113 = .ok (.putfield 58, 3) := by decide +kernel
theorem dX6_init_116 : decode cX6_init 116 = .ok (.aload_n 0, 1) := by decide +kernel
theorem dX6_init_117 : decode cX6_init 117 = .ok (.new 55, 3) := by decide +kernel
theorem dX6_init_120 : decode cX6_init 120 = .ok (.dup, 1) := by decide +kernel
theorem dX6_init_121 : decode cX6_init 121 = .ok (.invokespecial 57, 3) := by decide +kernel
theorem dX6_init_124 : decode cX6_init 124 = .ok (.putfield 62, 3) := by decide +kernel
theorem dX6_init_127 : decode cX6_init 127 = .ok (.aload_n 0, 1) := by decide +kernel
theorem dX6_init_128 : decode cX6_init 128 = .ok (.new 55, 3) := by decide +kernel
theorem dX6_init_131 : decode cX6_init 131 = .ok (.dup, 1) := by decide +kernel
theorem dX6_init_132 : decode cX6_init 132 = .ok (.invokespecial 57, 3) := by decide +kernel
theorem dX6_init_135 : decode cX6_init 135 = .ok (.putfield 65, 3) := by decide +kernel
theorem dX6_init_138 : decode cX6_init 138 = .ok (.aload_n 0, 1) := by decide +kernel
theorem dX6_init_139 : decode cX6_init 139 = .ok (.iconst 3, 1) := by decide +kernel
theorem dX6_init_140 : decode cX6_init 140 = .ok (.newarray .int, 2) := by decide +kernel
theorem dX6_init_142 : decode cX6_init 142 = .ok (.putfield 68, 3) := by decide +kernel
theorem dX6_init_145 : decode cX6_init 145 = .ok (.return_, 1) := by decide +kernel
theorem dX6_stuff_0 : decode cX6_stuff 0 = .ok (.aload_n 0, 1) := by decide +kernel
theorem dX6_stuff_1 : decode cX6_stuff 1 = .ok (.aload_n 0, 1) := by decide +kernel
theorem dX6_stuff_2 : decode cX6_stuff 2 = .ok (.getfield 10, 3) := by decide +kernel
theorem dX6_stuff_5 : decode cX6_stuff 5 = .ok (.iload_n 1, 1) := by decide +kernel
theorem dX6_stuff_6 : decode cX6_stuff 6 = .ok (.iload_n 2, 1) := by decide +kernel
theorem dX6_stuff_7 : decode cX6_stuff 7 = .ok (.iload_n 3, 1) := by decide +kernel
theorem dX6_stuff_8 : decode cX6_stuff 8 = .ok (.iload 4, 2) := by decide +kernel
theorem dX6_stuff_10 : decode cX6_stuff 10 = .ok (.invokevirtual 72, 3) := by decide +kernel
theorem dX6_stuff_13 : decode cX6_stuff 13 = .ok (.invokevirtual 76, 3) := by decide +kernel
theorem dX6_stuff_16 : decode cX6_stuff 16 = .ok (.ireturn, 1) := by decide +kernel
theorem dX6_put_0 : decode cX6_put 0 = .ok (.aload_n 0, 1) := by decide +kernel
theorem dX6_put_1 : decode cX6_put 1 = .ok (.aload_n 0, 1) := by decide +kernel
theorem dX6_put_2 : decode cX6_put 2 = .ok (.getfield 10, 3) := by decide +kernel
theorem dX6_put_5 : decode cX6_put 5 = .ok (.iload_n 1, 1) := by decide +kernel
theorem dX6_put_6 : decode cX6_put 6 = .ok (.iload_n 2, 1) := by decide +kernel
theorem dX6_put_7 : decode cX6_put 7 = .ok (.invokevirtual 80, 3) := by decide +kernel
theorem dX6_put_10 : decode cX6_put 10 = .ok (.invokevirtual 76, 3) := by decide +kernel
theorem dX6_put_13 : decode cX6_put 13 = .ok (.ireturn, 1) := by decide +kernel
theorem dX6_habit_0 : decode cX6_habit 0 = .ok (.aload_n 0, 1) := by decide +kernel
theorem dX6_habit_1 : decode cX6_habit 1 = .ok (.aload_n 0, 1) := by decide +kernel
theorem dX6_habit_2 : decode cX6_habit 2 = .ok (.getfield 10, 3) := by decide +kernel
theorem dX6_habit_5 : decode cX6_habit 5 = .ok (.iload_n 1, 1) := by decide +kernel
theorem dX6_habit_6 : decode cX6_habit 6 = .ok (.iload_n 2, 1) := by decide +kernel
theorem dX6_habit_7 : decode cX6_habit 7 = .ok (.invokevirtual 84, 3) := by decide +kernel
theorem dX6_habit_10 : decode cX6_habit 10 = .ok (.invokevirtual 76, 3) := by decide +kernel
theorem dX6_habit_13 : decode cX6_habit 13 = .ok (.ireturn, 1) := by decide +kernel
theorem dX6_trace_0 : decode cX6_trace 0 = .ok (.aload_n 0, 1) := by decide +kernel
theorem dX6_trace_1 : decode cX6_trace 1 = .ok (.aload_n 0, 1) := by decide +kernel
theorem dX6_trace_2 : decode cX6_trace 2 = .ok (.getfield 10, 3) := by decide +kernel
theorem dX6_trace_5 : decode cX6_trace 5 = .ok (.iload_n 1, 1) := by decide +kernel
theorem dX6_trace_6 : decode cX6_trace 6 = .ok (.iload_n 2, 1) := by decide +kernel
theorem dX6_trace_7 : decode cX6_trace 7 = .ok (.iload_n 3, 1) := by decide +kernel
theorem dX6_trace_8 : decode cX6_trace 8 = .ok (.invokevirtual 87, 3) := by decide +kernel
theorem dX6_trace_11 : decode cX6_trace 11 = .ok (.invokevirtual 76, 3) := by decide +kernel
theorem dX6_trace_14 : decode cX6_trace 14 = .ok (.ireturn, 1) := by decide +kernel
theorem dX6_aside_0 : decode cX6_aside 0 = .ok (.aload_n 0, 1) := by decide +kernel
theorem dX6_aside_1 : decode cX6_aside 1 = .ok (.aload_n 0, 1) := by decide +kernel
theorem dX6_aside_2 : decode cX6_aside 2 = .ok (.getfield 10, 3) := by decide +kernel
theorem dX6_aside_5 : decode cX6_aside 5 = .ok (.iload_n 1, 1) := by decide +kernel
theorem dX6_aside_6 : decode cX6_aside 6 = .ok (.iload_n 2, 1) := by decide +kernel
theorem dX6_aside_7 : decode cX6_aside 7 = .ok (.invokevirtual 91, 3) := by decide +kernel
theorem dX6_aside_10 : decode cX6_aside 10 = .ok (.invokevirtual 76, 3) := by decide +kernel
theorem dX6_aside_13 : decode cX6_aside 13 = .ok (.ireturn, 1) := by decide +kernel
theorem dX6_copy_0 : decode cX6_copy 0 = .ok (.aload_n 0, 1) := by decide +kernel
theorem dX6_copy_1 : decode cX6_copy 1 = .ok (.getfield 10, 3) := by decide +kernel
theorem dX6_copy_4 : decode cX6_copy 4 = .ok (.iload_n 1, 1) := by decide +kernel
theorem dX6_copy_5 : decode cX6_copy 5 = .ok (.iload_n 2, 1) := by decide +kernel
theorem dX6_copy_6 : decode cX6_copy 6 = .ok (.invokevirtual 95, 3) := by decide +kernel
theorem dX6_copy_9 : decode cX6_copy 9 = .ok (.istore_n 3, 1) := by decide +kernel
theorem dX6_copy_10 : decode cX6_copy 10 = .ok (.iload_n 3, 1) := by decide +kernel
theorem dX6_copy_11 : decode cX6_copy 11 = .ok (.bipush (-10), 2) := by decide +kernel
theorem dX6_copy_13 : decode cX6_copy 13 = .ok (.if_icmp .ne 10, 3) := by decide +kernel
theorem dX6_copy_16 : decode cX6_copy 16 = .ok (.aload_n 0, 1) := by decide +kernel
theorem dX6_copy_17 : decode cX6_copy 17 = .ok (.bipush (-2), 2) := by decide +kernel
theorem dX6_copy_19 : decode cX6_copy 19 = .ok (.invokevirtual 76, 3) := by decide +kernel
theorem dX6_copy_22 : decode cX6_copy 22 = .ok (.pop, 1) := by decide +kernel
theorem dX6_copy_23 : decode cX6_copy 23 = .ok (.iload_n 3, 1) := by decide +kernel
theorem dX6_copy_24 : decode cX6_copy 24 = .ok (.ireturn, 1) := by decide +kernel
theorem dX6_type_0 : decode cX6_type 0 = .ok (.aload_n 0, 1) := by decide +kernel
theorem dX6_type_1 : decode cX6_type 1 = .ok (.aload_n 0, 1) := by decide +kernel
theorem dX6_type_2 : decode cX6_type 2 = .ok (.getfield 30, 3) := by decide +kernel
theorem dX6_type_5 : decode cX6_type 5 = .ok (.lload_n 1, 1) := by decide +kernel
theorem dX6_type_6 : decode cX6_type 6 = .ok (.iload_n 3, 1) := by decide +kernel
theorem dX6_type_7 : decode cX6_type 7 = .ok (.invokevirtual 98, 3) := by decide +kernel
theorem dX6_type_10 : decode cX6_type 10 = .ok (.invokevirtual 76, 3) := by decide +kernel
theorem dX6_type_13 : decode cX6_type 13 = .ok (.ireturn, 1) := by decide +kernel
theorem dX6_clear_0 : decode cX6_clear 0 = .ok (.aload_n 0, 1) := by decide +kernel
theorem dX6_clear_1 : decode cX6_clear 1 = .ok (.getfield 30, 3) := by decide +kernel
theorem dX6_clear_4 : decode cX6_clear 4 = .ok (.invokevirtual 102, 3) := by decide +kernel
theorem dX6_clear_7 : decode cX6_clear 7 = .ok (.ireturn, 1) := by decide +kernel
theorem dX6_statue_0 : decode cX6_statue 0 = .ok (.aload_n 0, 1) := by decide +kernel
theorem dX6_statue_1 : decode cX6_statue 1 = .ok (.getfield 30, 3) := by decide +kernel
theorem dX6_statue_4 : decode cX6_statue 4 = .ok (.aload_n 0, 1) := by decide +kernel
theorem dX6_statue_5 : decode cX6_statue 5 = .ok (.getfield 16, 3) := by decide +kernel
theorem dX6_statue_8 : decode cX6_statue 8 = .ok (.invokevirtual 106, 3) := by decide +kernel
theorem dX6_statue_11 : decode cX6_statue 11 = .ok (.istore_n 1, 1) := by decide +kernel
theorem dX6_statue_12 : decode cX6_statue 12 = .ok (.iload_n 1, 1) := by decide +kernel
theorem dX6_statue_13 : decode cX6_statue 13 = .ok (.ifCond .lt 14, 3) := by decide +kernel
theorem dX6_statue_16 : decode cX6_statue 16 = .ok (.aload_n 0, 1) := by decide +kernel
theorem dX6_statue_17 : decode cX6_statue 17 = .ok (.getfield 10, 3) := by decide +kernel
theorem dX6_statue_20 : decode cX6_statue 20 = .ok (.aload_n 0, 1) := by decide +kernel
theorem dX6_statue_21 : decode cX6_statue 21 = .ok (.getfield 16, 3) := by decide +kernel
theorem dX6_statue_24 : decode cX6_statue 24 = .ok (.invokevirtual 110, 3) := by decide +kernel
theorem dX6_statue_27 : decode cX6_statue 27 = .ok (.iload_n 1, 1) := by decide +kernel
theorem dX6_statue_28 : decode cX6_statue 28 = .ok (.ireturn, 1) := by decide +kernel
theorem dX6_left_0 : decode cX6_left 0 = .ok (.iload_n 1, 1) := by decide +kernel
theorem dX6_left_1 : decode cX6_left 1 = .ok (.invokestatic 114, 3) := by decide +kernel
theorem dX6_left_4 : decode cX6_left 4 = .ok (.ifCond .eq 23, 3) := by decide +kernel
theorem dX6_left_7 : decode cX6_left 7 = .ok (.aload_n 0, 1) := by decide +kernel
theorem dX6_left_8 : decode cX6_left 8 = .ok (.getfield 10, 3) := by decide +kernel
theorem dX6_left_11 : decode cX6_left 11 = .ok (.iload_n 2, 1) := by decide +kernel
theorem dX6_left_12 : decode cX6_left 12 = .ok (.invokevirtual 118, 3) := by decide +kernel
theorem dX6_left_15 : decode cX6_left 15 = .ok (.ifCond .eq 12, 3) := by decide +kernel
theorem dX6_left_18 : decode cX6_left 18 = .ok (.iload_n 3, 1) := by decide +kernel
theorem dX6_left_19 : decode cX6_left 19 = .ok (.iconst 0, 1) := by decide +kernel
theorem dX6_left_20 : decode cX6_left 20 = .ok (.iconst 2, 1) := by decide +kernel
theorem dX6_left_21 : decode cX6_left 21 = .ok (.invokestatic 121, 3) := by decide +kernel
theorem dX6_left_24 : decode cX6_left 24 = .ok (.ifCond .ne 10, 3) := by decide +kernel
theorem dX6_left_27 : decode cX6_left 27 = .ok (.aload_n 0, 1) := by decide +kernel
theorem dX6_left_28 : decode cX6_left 28 = .ok (.bipush (-2), 2) := by decide +kernel
theorem dX6_left_30 : decode cX6_left 30 = .ok (.invokevirtual 76, 3) := by decide +kernel
theorem dX6_left_33 : decode cX6_left 33 = .ok (.ireturn, 1) := by decide +kernel
theorem dX6_left_34 : decode cX6_left 34 = .ok (.aload_n 0, 1) := by decide +kernel
theorem dX6_left_35 : decode cX6_left 35 = .ok (.getfield 10, 3) := by decide +kernel
theorem dX6_left_38 : decode cX6_left 38 = .ok (.iload_n 1, 1) := by decide +kernel
theorem dX6_left_39 : decode cX6_left 39 = .ok (.invokestatic 125, 3) := by decide +kernel
theorem dX6_left_42 : decode cX6_left 42 = .ok (.invokevirtual 128, 3) := by decide +kernel
theorem dX6_left_45 : decode cX6_left 45 = .ok (.istore 4, 2) := by decide +kernel
theorem dX6_left_47 : decode cX6_left 47 = .ok (.iload_n 3, 1) := by decide +kernel
theorem dX6_left_48 : decode cX6_left 48 = .ok (.ifCond .ne 14, 3) := by decide +kernel
theorem dX6_left_51 : decode cX6_left 51 = .ok (.aload_n 0, 1) := by decide +kernel
theorem dX6_left_52 : decode cX6_left 52 = .ok (.getfield 10, 3) := by decide +kernel
theorem dX6_left_55 : decode cX6_left 55 = .ok (.iload_n 2, 1) := by decide +kernel
theorem dX6_left_56 : decode cX6_left 56 = .ok (.iload 4, 2) := by decide +kernel
theorem dX6_left_58 : decode cX6_left 58 = .ok (.invokevirtual 131, 3) := by decide +kernel
theorem dX6_left_61 : decode cX6_left 61 = .ok (.ireturn, 1) := by decide +kernel
theorem dX6_left_62 : decode cX6_left 62 = .ok (.iload_n 3, 1) := by decide +kernel
theorem dX6_left_63 : decode cX6_left 63 = .ok (.iconst 1, 1) := by decide +kernel
theorem dX6_left_64 : decode cX6_left 64 = .ok (.if_icmp .ne 16, 3) := by decide +kernel
theorem dX6_left_67 : decode cX6_left 67 = .ok (.aload_n 0, 1) := by decide +kernel
theorem dX6_left_68 : decode cX6_left 68 = .ok (.getfield 10, 3) := by decide +kernel
theorem dX6_left_71 : decode cX6_left 71 = .ok (.iload_n 2, 1) := by decide +kernel
theorem dX6_left_72 : decode cX6_left 72 = .ok (.iload 4, 2) := by decide +kernel
theorem dX6_left_74 : decode cX6_left 74 = .ok (.invokevirtual 134, 3) := by decide +kernel
theorem dX6_left_77 : decode cX6_left 77 = .ok (.goto 13, 3) := by decide +kernel
theorem dX6_left_80 : decode cX6_left 80 = .ok (.aload_n 0, 1) := by decide +kernel
theorem dX6_left_81 : decode cX6_left 81 = .ok (.getfield 10, 3) := by decide +kernel
theorem dX6_left_84 : decode cX6_left 84 = .ok (.iload_n 2, 1) := by decide +kernel
theorem dX6_left_85 : decode cX6_left 85 = .ok (.iload 4, 2) := by decide +kernel
theorem dX6_left_87 : decode cX6_left 87 = .ok (.invokevirtual 137, 3) := by decide +kernel
theorem dX6_left_90 : decode cX6_left 90 = .ok (.ireturn, 1) := by decide +kernel
theorem dX6_shines_0 : decode cX6_shines 0 = .ok (.iload_n 1, 1) := by decide +kernel
theorem dX6_shines_1 : decode cX6_shines 1 = .ok (.invokestatic 114, 3) := by decide +kernel
theorem dX6_shines_4 : decode cX6_shines 4 = .ok (.ifCond .eq 23, 3) := by decide +kernel
theorem dX6_shines_7 : decode cX6_shines 7 = .ok (.aload_n 0, 1) := by decide +kernel
theorem dX6_shines_8 : decode cX6_shines 8 = .ok (.getfield 10, 3) := by decide +kernel
theorem dX6_shines_11 : decode cX6_shines 11 = .ok (.iload_n 2, 1) := by decide +kernel
theorem dX6_shines_12 : decode cX6_shines 12 = .ok (.invokevirtual 118, 3) := by decide +kernel
theorem dX6_shines_15 : decode cX6_shines 15 = .ok (.ifCond .eq 12, 3) := by decide +kernel
theorem dX6_shines_18 : decode cX6_shines 18 = .ok (.iload_n 3, 1) := by decide +kernel
theorem dX6_shines_19 : decode cX6_shines 19 = .ok (.iconst 0, 1) := by decide +kernel
theorem dX6_shines_20 : decode cX6_shines 20 = .ok (.iconst 3, 1) := by decide +kernel
theorem dX6_shines_21 : decode cX6_shines 21 = .ok (.invokestatic 121, 3) := by decide +kernel
theorem dX6_shines_24 : decode cX6_shines 24 = .ok (.ifCond .ne 10, 3) := by decide +kernel
theorem dX6_shines_27 : decode cX6_shines 27 = .ok (.aload_n 0, 1) := by decide +kernel
theorem dX6_shines_28 : decode cX6_shines 28 = .ok (.bipush (-2), 2) := by decide +kernel
theorem dX6_shines_30 : decode cX6_shines 30 = .ok (.invokevirtual 76, 3) := by decide +kernel
theorem dX6_shines_33 : decode cX6_shines 33 = .ok (.ireturn, 1) := by decide +kernel
theorem dX6_shines_34 : decode cX6_shines 34 = .ok (.aload_n 0, 1) := by decide +kernel
theorem dX6_shines_35 : decode cX6_shines 35 = .ok (.getfield 10, 3) := by decide +kernel
theorem dX6_shines_38 : decode cX6_shines 38 = .ok (.iload_n 2, 1) := by decide +kernel
theorem dX6_shines_39 : decode cX6_shines 39 = .ok (.aload_n 0, 1) := by decide +kernel
theorem dX6_shines_40 : decode cX6_shines 40 = .ok (.getfield 10, 3) := by decide +kernel
theorem dX6_shines_43 : decode cX6_shines 43 = .ok (.iload_n 1, 1) := by decide +kernel
theorem dX6_shines_44 : decode cX6_shines 44 = .ok (.invokestatic 125, 3) := by decide +kernel
theorem dX6_shines_47 : decode cX6_shines 47 = .ok (.invokevirtual 128, 3) := by decide +kernel
theorem dX6_shines_50 : decode cX6_shines 50 = .ok (.invokevirtual 140, 3) := by decide +kernel
theorem dX6_shines_53 : decode cX6_shines 53 = .ok (.iload_n 3, 1) := by decide +kernel
theorem dX6_shines_54 : decode cX6_shines 54 = .ok (.ishr, 1) := by decide +kernel
theorem dX6_shines_55 : decode cX6_shines 55 = .ok (.iconst 1, 1) := by decide +kernel
theorem dX6_shines_56 : decode cX6_shines 56 = .ok (.iand, 1) := by decide +kernel
theorem dX6_shines_57 : decode cX6_shines 57 = .ok (.ireturn, 1) := by decide +kernel
theorem dX6_fits_0 : decode cX6_fits 0 = .ok (.iload_n 1, 1) := by decide +kernel
theorem dX6_fits_1 : decode cX6_fits 1 = .ok (.invokestatic 114, 3) := by decide +kernel
theorem dX6_fits_4 : decode cX6_fits 4 = .ok (.ifCond .eq 14, 3) := by decide +kernel
theorem dX6_fits_7 : decode cX6_fits 7 = .ok (.aload_n 0, 1) := by decide +kernel
theorem dX6_fits_8 : decode cX6_fits 8 = .ok (.getfield 10, 3) := by decide +kernel
theorem dX6_fits_11 : decode cX6_fits 11 = .ok (.iload_n 2, 1) := by decide +kernel
theorem dX6_fits_12 : decode cX6_fits 12 = .ok (.invokevirtual 118, 3) := by decide +kernel
theorem dX6_fits_15 : decode cX6_fits 15 = .ok (.ifCond .ne 10, 3) := by decide +kernel
theorem dX6_fits_18 : decode cX6_fits 18 = .ok (.aload_n 0, 1) := by decide +kernel
theorem dX6_fits_19 : decode cX6_fits 19 = .ok (.bipush (-2), 2) := by decide +kernel
theorem dX6_fits_21 : decode cX6_fits 21 = .ok (.invokevirtual 76, 3) := by decide +kernel
theorem dX6_fits_24 : decode cX6_fits 24 = .ok (.ireturn, 1) := by decide +kernel
theorem dX6_fits_25 : decode cX6_fits 25 = .ok (.aload_n 0, 1) := by decide +kernel
theorem dX6_fits_26 : decode cX6_fits 26 = .ok (.aload_n 0, 1) := by decide +kernel
theorem dX6_fits_27 : decode cX6_fits 27 = .ok (.getfield 10, 3) := by decide +kernel
theorem dX6_fits_30 : decode cX6_fits 30 = .ok (.iload_n 1, 1) := by decide +kernel
theorem dX6_fits_31 : decode cX6_fits 31 = .ok (.bipush 8, 2) := by decide +kernel
theorem dX6_fits_33 : decode cX6_fits 33 = .ok (.idiv, 1) := by decide +kernel
theorem dX6_fits_34 : decode cX6_fits 34 = .ok (.invokevirtual 143, 3) := by decide +kernel
theorem dX6_fits_37 : decode cX6_fits 37 = .ok (.aload_n 0, 1) := by decide +kernel
theorem dX6_fits_38 : decode cX6_fits 38 = .ok (.getfield 44, 3) := by decide +kernel
theorem dX6_fits_41 : decode cX6_fits 41 = .ok (.iload_n 1, 1) := by decide +kernel
theorem dX6_fits_42 : decode cX6_fits 42 = .ok (.bipush 8, 2) := by decide +kernel
theorem dX6_fits_44 : decode cX6_fits 44 = .ok (.irem, 1) := by decide +kernel
theorem dX6_fits_45 : decode cX6_fits 45 = .ok (.iload_n 2, 1) := by decide +kernel
theorem dX6_fits_46 : decode cX6_fits 46 = .ok (.invokevirtual 147, 3) := by decide +kernel
theorem dX6_fits_49 : decode cX6_fits 49 = .ok (.ifCond .eq 7, 3) := by decide +kernel
theorem dX6_fits_52 : decode cX6_fits 52 = .ok (.iconst 1, 1) := by decide +kernel
theorem dX6_fits_53 : decode cX6_fits 53 = .ok (.goto 4, 3) := by decide +kernel
theorem dX6_fits_56 : decode cX6_fits 56 = .ok (.iconst 0, 1) := by decide +kernel
theorem dX6_fits_57 : decode cX6_fits 57 = .ok (.ireturn, 1) := by decide +kernel
theorem dX6_odds_0 : decode cX6_odds 0 = .ok (.iload_n 1, 1) := by decide +kernel
theorem dX6_odds_1 : decode cX6_odds 1 = .ok (.invokestatic 114, 3) := by decide +kernel
theorem dX6_odds_4 : decode cX6_odds 4 = .ok (.ifCond .eq 14, 3) := by decide +kernel
theorem dX6_odds_7 : decode cX6_odds 7 = .ok (.aload_n 0, 1) := by decide +kernel
theorem dX6_odds_8 : decode cX6_odds 8 = .ok (.getfield 10, 3) := by decide +kernel
theorem dX6_odds_11 : decode cX6_odds 11 = .ok (.iload_n 2, 1) := by decide +kernel
theorem dX6_odds_12 : decode cX6_odds 12 = .ok (.invokevirtual 118, 3) := by decide +kernel
theorem dX6_odds_15 : decode cX6_odds 15 = .ok (.ifCond .ne 10, 3) := by decide +kernel
theorem dX6_odds_18 : decode cX6_odds 18 = .ok (.aload_n 0, 1) := by decide +kernel
theorem dX6_odds_19 : decode cX6_odds 19 = .ok (.bipush (-2), 2) := by decide +kernel
theorem dX6_odds_21 : decode cX6_odds 21 = .ok (.invokevirtual 76, 3) := by decide +kernel
theorem dX6_odds_24 : decode cX6_odds 24 = .ok (.ireturn, 1) := by decide +kernel
theorem dX6_odds_25 : decode cX6_odds 25 = .ok (.aload_n 0, 1) := by decide +kernel
theorem dX6_odds_26 : decode cX6_odds 26 = .ok (.iload_n 1, 1) := by decide +kernel
theorem dX6_odds_27 : decode cX6_odds 27 = .ok (.invokevirtual 151, 3) := by decide +kernel
theorem dX6_odds_30 : decode cX6_odds 30 = .ok (.ifCond .ne 10, 3) := by decide +kernel
theorem dX6_odds_33 : decode cX6_odds 33 = .ok (.aload_n 0, 1) := by decide +kernel
theorem dX6_odds_34 : decode cX6_odds 34 = .ok (.bipush (-3), 2) := by decide +kernel
theorem dX6_odds_36 : decode cX6_odds 36 = .ok (.invokevirtual 76, 3) := by decide +kernel
theorem dX6_odds_39 : decode cX6_odds 39 = .ok (.ireturn, 1) := by decide +kernel
theorem dX6_odds_40 : decode cX6_odds 40 = .ok (.aload_n 0, 1) := by decide +kernel
theorem dX6_odds_41 : decode cX6_odds 41 = .ok (.getfield 51, 3) := by decide +kernel
theorem dX6_odds_44 : decode cX6_odds 44 = .ok (.aload_n 0, 1) := by decide +kernel
theorem dX6_odds_45 : decode cX6_odds 45 = .ok (.getfield 44, 3) := by decide +kernel
theorem dX6_odds_48 : decode cX6_odds 48 = .ok (.iload_n 1, 1) := by decide +kernel
theorem dX6_odds_49 : decode cX6_odds 49 = .ok (.bipush 8, 2) := by decide +kernel
theorem dX6_odds_51 : decode cX6_odds 51 = .ok (.irem, 1) := by decide +kernel
theorem dX6_odds_52 : decode cX6_odds 52 = .ok (.iload_n 2, 1) := by decide +kernel
theorem dX6_odds_53 : decode cX6_odds 53 = .ok (.invokevirtual 154, 3) := by decide +kernel
theorem dX6_odds_56 : decode cX6_odds 56 = .ok (.aload_n 0, 1) := by decide +kernel
theorem dX6_odds_57 : decode cX6_odds 57 = .ok (.getfield 44, 3) := by decide +kernel
theorem dX6_odds_60 : decode cX6_odds 60 = .ok (.getfield 158, 3) := by decide +kernel
theorem dX6_odds_63 : decode cX6_odds 63 = .ok (.invokevirtual 162, 3) := by decide +kernel
theorem dX6_odds_66 : decode cX6_odds 66 = .ok (.iconst 1, 1) := by decide +kernel
theorem dX6_odds_67 : decode cX6_odds 67 = .ok (.ireturn, 1) := by decide +kernel
theorem dX6_above_0 : decode cX6_above 0 = .ok (.iload_n 1, 1) := by decide +kernel
theorem dX6_above_1 : decode cX6_above 1 = .ok (.invokestatic 114, 3) := by decide +kernel
theorem dX6_above_4 : decode cX6_above 4 = .ok (.ifCond .ne 10, 3) := by decide +kernel
theorem dX6_above_7 : decode cX6_above 7 = .ok (.aload_n 0, 1) := by decide +kernel
theorem dX6_above_8 : decode cX6_above 8 = .ok (.bipush (-2), 2) := by decide +kernel
theorem dX6_above_10 : decode cX6_above 10 = .ok (.invokevirtual 76, 3) := by decide +kernel
theorem dX6_above_13 : decode cX6_above 13 = .ok (.ireturn, 1) := by decide +kernel
theorem dX6_above_14 : decode cX6_above 14 = .ok (.aload_n 0, 1) := by decide +kernel
theorem dX6_above_15 : decode cX6_above 15 = .ok (.iload_n 1, 1) := by decide +kernel
theorem dX6_above_16 : decode cX6_above 16 = .ok (.invokevirtual 151, 3) := by decide +kernel
theorem dX6_above_19 : decode cX6_above 19 = .ok (.ifCond .ne 10, 3) := by decide +kernel
theorem dX6_above_22 : decode cX6_above 22 = .ok (.aload_n 0, 1) := by decide +kernel
theorem dX6_above_23 : decode cX6_above 23 = .ok (.bipush (-3), 2) := by decide +kernel
theorem dX6_above_25 : decode cX6_above 25 = .ok (.invokevirtual 76, 3) := by decide +kernel
theorem dX6_above_28 : decode cX6_above 28 = .ok (.ireturn, 1) := by decide +kernel
theorem dX6_above_29 : decode cX6_above 29 = .ok (.lconst 0, 1) := by decide +kernel
theorem dX6_above_30 : decode cX6_above 30 = .ok (.lstore_n 2, 1) := by decide +kernel
theorem dX6_above_31 : decode cX6_above 31 = .ok (.iconst 0, 1) := by decide +kernel
theorem dX6_above_32 : decode cX6_above 32 = .ok (.istore 4, 2) := by decide +kernel
theorem dX6_above_34 : decode cX6_above 34 = .ok (.iload 4, 2) := by decide +kernel
theorem dX6_above_36 : decode cX6_above 36 = .ok (.bipush 21, 2) := by decide +kernel
theorem dX6_above_38 : decode cX6_above 38 = .ok (.if_icmp .ge 34, 3) := by decide +kernel
theorem dX6_above_41 : decode cX6_above 41 = .ok (.iload 4, 2) := by decide +kernel
theorem dX6_above_43 : decode cX6_above 43 = .ok (.invokestatic 166, 3) := by decide +kernel
theorem dX6_above_46 : decode cX6_above 46 = .ok (.iconst (-1), 1) := by decide +kernel
theorem dX6_above_47 : decode cX6_above 47 = .ok (.if_icmp .eq 19, 3) := by decide +kernel
theorem dX6_above_50 : decode cX6_above 50 = .ok (.lload_n 2, 1) := by decide +kernel
theorem dX6_above_51 : decode cX6_above 51 = .ok (.aload_n 0, 1) := by decide +kernel
theorem dX6_above_52 : decode cX6_above 52 = .ok (.getfield 44, 3) := by decide +kernel
theorem dX6_above_55 : decode cX6_above 55 = .ok (.iload_n 1, 1) := by decide +kernel
theorem dX6_above_56 : decode cX6_above 56 = .ok (.bipush 8, 2) := by decide +kernel
theorem dX6_above_58 : decode cX6_above 58 = .ok (.irem, 1) := by decide +kernel
theorem dX6_above_59 : decode cX6_above 59 = .ok (.iload 4, 2) := by decide +kernel
theorem dX6_above_61 : decode cX6_above 61 = .ok (.invokevirtual 154, 3) := by decide +kernel
theorem dX6_above_64 : decode cX6_above 64 = .ok (.ladd, 1) := by decide +kernel
theorem dX6_above_65 : decode cX6_above 65 = .ok (.lstore_n 2, 1) := by decide +kernel
theorem dX6_above_66 : decode cX6_above 66 = .ok (.iinc 4 1, 3) := by decide +kernel
theorem dX6_above_69 : decode cX6_above 69 = .ok (.goto (-35), 3) := by decide +kernel
theorem dX6_above_72 : decode cX6_above 72 = .ok (.aload_n 0, 1) := by decide +kernel
theorem dX6_above_73 : decode cX6_above 73 = .ok (.getfield 51, 3) := by decide +kernel
theorem dX6_above_76 : decode cX6_above 76 = .ok (.lload_n 2, 1) := by decide +kernel
theorem dX6_above_77 : decode cX6_above 77 = .ok (.aload_n 0, 1) := by decide +kernel
theorem dX6_above_78 : decode cX6_above 78 = .ok (.getfield 44, 3) := by decide +kernel
theorem dX6_above_81 : decode cX6_above 81 = .ok (.getfield 158, 3) := by decide +kernel
theorem dX6_above_84 : decode cX6_above 84 = .ok (.invokevirtual 162, 3) := by decide +kernel
theorem dX6_above_87 : decode cX6_above 87 = .ok (.iconst 1, 1) := by decide +kernel
theorem dX6_above_88 : decode cX6_above 88 = .ok (.ireturn, 1) := by decide +kernel
theorem dX6_likeliest_0 : decode cX6_likeliest 0 = .ok (.iload_n 1, 1) := by decide +kernel
theorem dX6_likeliest_1 : decode cX6_likeliest 1 = .ok (.invokestatic 169, 3) := by decide +kernel
theorem dX6_likeliest_4 : decode cX6_likeliest 4 = .ok (.ifCond .eq 13, 3) := by decide +kernel
theorem dX6_likeliest_7 : decode cX6_likeliest 7 = .ok (.iload_n 2, 1) := by decide +kernel
theorem dX6_likeliest_8 : decode cX6_likeliest 8 = .ok (.iconst 0, 1) := by decide +kernel
theorem dX6_likeliest_9 : decode cX6_likeliest 9 = .ok (.bipush 7, 2) := by decide +kernel
theorem dX6_likeliest_11 : decode cX6_likeliest 11 = .ok (.invokestatic 121, 3) := by decide +kernel
theorem dX6_likeliest_14 : decode cX6_likeliest 14 = .ok (.ifCond .ne 10, 3) := by decide +kernel
theorem dX6_likeliest_17 : decode cX6_likeliest 17 = .ok (.aload_n 0, 1) := by decide +kernel
theorem dX6_likeliest_18 : decode cX6_likeliest 18 = .ok (.bipush (-2), 2) := by decide +kernel
theorem dX6_likeliest_20 : decode cX6_likeliest 20 = .ok (.invokevirtual 76, 3) := by decide +kernel
theorem dX6_likeliest_23 : decode cX6_likeliest 23 = .ok (.ireturn, 1) := by decide +kernel
theorem dX6_likeliest_24 : decode cX6_likeliest 24 = .ok (.aload_n 0, 1) := by decide +kernel
theorem dX6_likeliest_25 : decode cX6_likeliest 25 = .ok (.aload_n 0, 1) := by decide +kernel
theorem dX6_likeliest_26 : decode cX6_likeliest 26 = .ok (.getfield 10, 3) := by decide +kernel
theorem dX6_likeliest_29 : decode cX6_likeliest 29 = .ok (.iload_n 1, 1) := by decide +kernel
theorem dX6_likeliest_30 : decode cX6_likeliest 30 = .ok (.invokevirtual 143, 3) := by decide +kernel
theorem dX6_likeliest_33 : decode cX6_likeliest 33 = .ok (.aload_n 0, 1) := by decide +kernel
theorem dX6_likeliest_34 : decode cX6_likeliest 34 = .ok (.getfield 44, 3) := by decide +kernel
theorem dX6_likeliest_37 : decode cX6_likeliest 37 = .ok (.iconst 0, 1) := by decide +kernel
theorem dX6_likeliest_38 : decode cX6_likeliest 38 = .ok (.invokevirtual 172, 3) := by decide +kernel
theorem dX6_likeliest_41 : decode cX6_likeliest 41 = .ok (.ifCond .eq 14, 3) := by decide +kernel
theorem dX6_likeliest_44 : decode cX6_likeliest 44 = .ok (.aload_n 0, 1) := by decide +kernel
theorem dX6_likeliest_45 : decode cX6_likeliest 45 = .ok (.getfield 44, 3) := by decide +kernel
theorem dX6_likeliest_48 : decode cX6_likeliest 48 = .ok (.iload_n 2, 1) := by decide +kernel
theorem dX6_likeliest_49 : decode cX6_likeliest 49 = .ok (.invokevirtual 175, 3) := by decide +kernel
theorem dX6_likeliest_52 : decode cX6_likeliest 52 = .ok (.goto 9, 3) := by decide +kernel
theorem dX6_likeliest_55 : decode cX6_likeliest 55 = .ok (.aload_n 0, 1) := by decide +kernel
theorem dX6_likeliest_56 : decode cX6_likeliest 56 = .ok (.bipush (-3), 2) := by decide +kernel
theorem dX6_likeliest_58 : decode cX6_likeliest 58 = .ok (.invokevirtual 76, 3) := by decide +kernel
theorem dX6_likeliest_61 : decode cX6_likeliest 61 = .ok (.ireturn, 1) := by decide +kernel
theorem dX6_stood_0 : decode cX6_stood 0 = .ok (.iload_n 1, 1) := by decide +kernel
theorem dX6_stood_1 : decode cX6_stood 1 = .ok (.iconst 0, 1) := by decide +kernel
theorem dX6_stood_2 : decode cX6_stood 2 = .ok (.iconst 3, 1) := by decide +kernel
theorem dX6_stood_3 : decode cX6_stood 3 = .ok (.invokestatic 121, 3) := by decide +kernel
theorem dX6_stood_6 : decode cX6_stood 6 = .ok (.ifCond .ne 10, 3) := by decide +kernel
theorem dX6_stood_9 : decode cX6_stood 9 = .ok (.aload_n 0, 1) := by decide +kernel
theorem dX6_stood_10 : decode cX6_stood 10 = .ok (.bipush (-2), 2) := by decide +kernel
theorem dX6_stood_12 : decode cX6_stood 12 = .ok (.invokevirtual 76, 3) := by decide +kernel
theorem dX6_stood_15 : decode cX6_stood 15 = .ok (.ireturn, 1) := by decide +kernel
theorem dX6_stood_16 : decode cX6_stood 16 = .ok (.aload_n 0, 1) := by decide +kernel
theorem dX6_stood_17 : decode cX6_stood 17 = .ok (.getfield 16, 3) := by decide +kernel
theorem dX6_stood_20 : decode cX6_stood 20 = .ok (.aload_n 0, 1) := by decide +kernel
theorem dX6_stood_21 : decode cX6_stood 21 = .ok (.getfield 10, 3) := by decide +kernel
theorem dX6_stood_24 : decode cX6_stood 24 = .ok (.invokevirtual 110, 3) := by decide +kernel
theorem dX6_stood_27 : decode cX6_stood 27 = .ok (.aload_n 0, 1) := by decide +kernel
theorem dX6_stood_28 : decode cX6_stood 28 = .ok (.getfield 65, 3) := by decide +kernel
theorem dX6_stood_31 : decode cX6_stood 31 = .ok (.lconst 0, 1) := by decide +kernel
theorem dX6_stood_32 : decode cX6_stood 32 = .ok (.invokevirtual 178, 3) := by decide +kernel
theorem dX6_stood_35 : decode cX6_stood 35 = .ok (.iconst 0, 1) := by decide +kernel
theorem dX6_stood_36 : decode cX6_stood 36 = .ok (.istore_n 2, 1) := by decide +kernel
theorem dX6_stood_37 : decode cX6_stood 37 = .ok (.iload_n 2, 1) := by decide +kernel
theorem dX6_stood_38 : decode cX6_stood 38 = .ok (.iconst 4, 1) := by decide +kernel
theorem dX6_stood_39 : decode cX6_stood 39 = .ok (.if_icmp .ge 54, 3) := by decide +kernel
theorem dX6_stood_42 : decode cX6_stood 42 = .ok (.aload_n 0, 1) := by decide +kernel
theorem dX6_stood_43 : decode cX6_stood 43 = .ok (.getfield 16, 3) := by decide +kernel
theorem dX6_stood_46 : decode cX6_stood 46 = .ok (.iconst 5, 1) := by decide +kernel
theorem dX6_stood_47 : decode cX6_stood 47 = .ok (.iload_n 2, 1) := by decide +kernel
theorem dX6_stood_48 : decode cX6_stood 48 = .ok (.invokevirtual 80, 3) := by decide +kernel
theorem dX6_stood_51 : decode cX6_stood 51 = .ok (.pop, 1) := by decide +kernel
theorem dX6_stood_52 : decode cX6_stood 52 = .ok (.aload_n 0, 1) := by decide +kernel
theorem dX6_stood_53 : decode cX6_stood 53 = .ok (.aload_n 0, 1) := by decide +kernel
theorem dX6_stood_54 : decode cX6_stood 54 = .ok (.getfield 16, 3) := by decide +kernel
theorem dX6_stood_57 : decode cX6_stood 57 = .ok (.invokevirtual 181, 3) := by decide +kernel
theorem dX6_stood_60 : decode cX6_stood 60 = .ok (.aload_n 0, 1) := by decide +kernel
theorem dX6_stood_61 : decode cX6_stood 61 = .ok (.getfield 65, 3) := by decide +kernel
theorem dX6_stood_64 : decode cX6_stood 64 = .ok (.aload_n 0, 1) := by decide +kernel
theorem dX6_stood_65 : decode cX6_stood 65 = .ok (.getfield 58, 3) := by decide +kernel
theorem dX6_stood_68 : decode cX6_stood 68 = .ok (.invokevirtual 184, 3) := by decide +kernel
theorem dX6_stood_71 : decode cX6_stood 71 = .ok (.iload_n 2, 1) := by decide +kernel
theorem dX6_stood_72 : decode cX6_stood 72 = .ok (.iload_n 1, 1) := by decide +kernel
theorem dX6_stood_73 : decode cX6_stood 73 = .ok (.if_icmp .ne 14, 3) := by decide +kernel
theorem dX6_stood_76 : decode cX6_stood 76 = .ok (.aload_n 0, 1) := by decide +kernel
theorem dX6_stood_77 : decode cX6_stood 77 = .ok (.getfield 62, 3) := by decide +kernel
theorem dX6_stood_80 : decode cX6_stood 80 = .ok (.aload_n 0, 1) := by decide +kernel
theorem dX6_stood_81 : decode cX6_stood 81 = .ok (.getfield 58, 3) := by decide +kernel
theorem dX6_stood_84 : decode cX6_stood 84 = .ok (.invokevirtual 188, 3) := by decide +kernel
theorem dX6_stood_87 : decode cX6_stood 87 = .ok (.iinc 2 1, 3) := by decide +kernel
theorem dX6_stood_90 : decode cX6_stood 90 = .ok (.goto (-53), 3) := by decide +kernel
theorem dX6_stood_93 : decode cX6_stood 93 = .ok (.aload_n 0, 1) := by decide +kernel
theorem dX6_stood_94 : decode cX6_stood 94 = .ok (.getfield 65, 3) := by decide +kernel
theorem dX6_stood_97 : decode cX6_stood 97 = .ok (.invokevirtual 190, 3) := by decide +kernel
theorem dX6_stood_100 : decode cX6_stood 100 = .ok (.ifCond .eq 10, 3) := by decide +kernel
theorem dX6_stood_103 : decode cX6_stood 103 = .ok (.aload_n 0, 1) := by decide +kernel
theorem dX6_stood_104 : decode cX6_stood 104 = .ok (.bipush (-3), 2) := by decide +kernel
theorem dX6_stood_106 : decode cX6_stood 106 = .ok (.invokevirtual 76, 3) := by decide +kernel
theorem dX6_stood_109 : decode cX6_stood 109 = .ok (.ireturn, 1) := by decide +kernel
theorem dX6_stood_110 : decode cX6_stood 110 = .ok (.aload_n 0, 1) := by decide +kernel
theorem dX6_stood_111 : decode cX6_stood 111 = .ok (.getfield 51, 3) := by decide +kernel
theorem dX6_stood_114 : decode cX6_stood 114 = .ok (.aload_n 0, 1) := by decide +kernel
theorem dX6_stood_115 : decode cX6_stood 115 = .ok (.getfield 62, 3) := by decide +kernel
theorem dX6_stood_118 : decode cX6_stood 118 = .ok (.aload_n 0, 1) := by decide +kernel
theorem dX6_stood_119 : decode cX6_stood 119 = .ok (.getfield 65, 3) := by decide +kernel
theorem dX6_stood_122 : decode cX6_stood 122 = .ok (.invokevirtual 194, 3) := by decide +kernel
theorem dX6_stood_125 : decode cX6_stood 125 = .ok (.iconst 1, 1) := by decide +kernel
theorem dX6_stood_126 : decode cX6_stood 126 = .ok (.ireturn, 1) := by decide +kernel
theorem dX6_span_0 : decode cX6_span 0 = .ok (.aload_n 0, 1) := by decide +kernel
theorem dX6_span_1 : decode cX6_span 1 = .ok (.getfield 10, 3) := by decide +kernel
theorem dX6_span_4 : decode cX6_span 4 = .ok (.iload_n 1, 1) := by decide +kernel
theorem dX6_span_5 : decode cX6_span 5 = .ok (.invokevirtual 197, 3) := by decide +kernel
theorem dX6_span_8 : decode cX6_span 8 = .ok (.ifCond .eq 12, 3) := by decide +kernel
theorem dX6_span_11 : decode cX6_span 11 = .ok (.iload_n 2, 1) := by decide +kernel
theorem dX6_span_12 : decode cX6_span 12 = .ok (.iconst 0, 1) := by decide +kernel
theorem dX6_span_13 : decode cX6_span 13 = .ok (.iconst 1, 1) := by decide +kernel
theorem dX6_span_14 : decode cX6_span 14 = .ok (.invokestatic 121, 3) := by decide +kernel
theorem dX6_span_17 : decode cX6_span 17 = .ok (.ifCond .ne 10, 3) := by decide +kernel
theorem dX6_span_20 : decode cX6_span 20 = .ok (.aload_n 0, 1) := by decide +kernel
theorem dX6_span_21 : decode cX6_span 21 = .ok (.bipush (-2), 2) := by decide +kernel
theorem dX6_span_23 : decode cX6_span 23 = .ok (.invokevirtual 76, 3) := by decide +kernel
theorem dX6_span_26 : decode cX6_span 26 = .ok (.ireturn, 1) := by decide +kernel
theorem dX6_span_27 : decode cX6_span 27 = .ok (.aload_n 0, 1) := by decide +kernel
theorem dX6_span_28 : decode cX6_span 28 = .ok (.getfield 16, 3) := by decide +kernel
theorem dX6_span_31 : decode cX6_span 31 = .ok (.aload_n 0, 1) := by decide +kernel
theorem dX6_span_32 : decode cX6_span 32 = .ok (.getfield 10, 3) := by decide +kernel
theorem dX6_span_35 : decode cX6_span 35 = .ok (.invokevirtual 110, 3) := by decide +kernel
theorem dX6_span_38 : decode cX6_span 38 = .ok (.iconst 0, 1) := by decide +kernel
theorem dX6_span_39 : decode cX6_span 39 = .ok (.istore_n 3, 1) := by decide +kernel
theorem dX6_span_40 : decode cX6_span 40 = .ok (.iload_n 3, 1) := by decide +kernel
theorem dX6_span_41 : decode cX6_span 41 = .ok (.bipush 60, 2) := by decide +kernel
theorem dX6_span_43 : decode cX6_span 43 = .ok (.if_icmp .ge 50, 3) := by decide +kernel
theorem dX6_span_46 : decode cX6_span 46 = .ok (.iload_n 2, 1) := by decide +kernel
theorem dX6_span_47 : decode cX6_span 47 = .ok (.ifCond .ne 9, 3) := by decide +kernel
theorem dX6_span_50 : decode cX6_span 50 = .ok (.iconst 1, 1) := by decide +kernel
theorem dX6_span_51 : decode cX6_span 51 = .ok (.iload_n 3, 1) := by decide +kernel
theorem dX6_span_52 : decode cX6_span 52 = .ok (.iadd, 1) := by decide +kernel
theorem dX6_span_53 : decode cX6_span 53 = .ok (.goto 7, 3) := by decide +kernel
theorem dX6_span_56 : decode cX6_span 56 = .ok (.bipush 60, 2) := by decide +kernel
theorem dX6_span_58 : decode cX6_span 58 = .ok (.iload_n 3, 1) := by decide +kernel
theorem dX6_span_59 : decode cX6_span 59 = .ok (.isub, 1) := by decide +kernel
theorem dX6_span_60 : decode cX6_span 60 = .ok (.istore 4, 2) := by decide +kernel
theorem dX6_span_62 : decode cX6_span 62 = .ok (.aload_n 0, 1) := by decide +kernel
theorem dX6_span_63 : decode cX6_span 63 = .ok (.getfield 16, 3) := by decide +kernel
theorem dX6_span_66 : decode cX6_span 66 = .ok (.getfield 200, 3) := by decide +kernel
theorem dX6_span_69 : decode cX6_span 69 = .ok (.iload_n 1, 1) := by decide +kernel
theorem dX6_span_70 : decode cX6_span 70 = .ok (.iload 4, 2) := by decide +kernel
theorem dX6_span_72 : decode cX6_span 72 = .ok (.iastore, 1) := by decide +kernel
theorem dX6_span_73 : decode cX6_span 73 = .ok (.aload_n 0, 1) := by decide +kernel
theorem dX6_span_74 : decode cX6_span 74 = .ok (.aload_n 0, 1) := by decide +kernel
theorem dX6_span_75 : decode cX6_span 75 = .ok (.getfield 16, 3) := by decide +kernel
theorem dX6_span_78 : decode cX6_span 78 = .ok (.invokevirtual 203, 3) := by decide +kernel
theorem dX6_span_81 : decode cX6_span 81 = .ok (.ifCond .eq 6, 3) := by decide +kernel
theorem dX6_span_84 : decode cX6_span 84 = .ok (.iload 4, 2) := by decide +kernel
theorem dX6_span_86 : decode cX6_span 86 = .ok (.ireturn, 1) := by decide +kernel
theorem dX6_span_87 : decode cX6_span 87 = .ok (.iinc 3 1, 3) := by decide +kernel
theorem dX6_span_90 : decode cX6_span 90 = .ok (.goto (-50), 3) := by decide +kernel
theorem dX6_span_93 : decode cX6_span 93 = .ok (.iconst (-1), 1) := by decide +kernel
theorem dX6_span_94 : decode cX6_span 94 = .ok (.ireturn, 1) := by decide +kernel
theorem dX6_later_0 : decode cX6_later 0 = .ok (.iload_n 1, 1) := by decide +kernel
theorem dX6_later_1 : decode cX6_later 1 = .ok (.invokestatic 169, 3) := by decide +kernel
theorem dX6_later_4 : decode cX6_later 4 = .ok (.ifCond .ne 10, 3) := by decide +kernel
theorem dX6_later_7 : decode cX6_later 7 = .ok (.aload_n 0, 1) := by decide +kernel
theorem dX6_later_8 : decode cX6_later 8 = .ok (.bipush (-2), 2) := by decide +kernel
theorem dX6_later_10 : decode cX6_later 10 = .ok (.invokevirtual 76, 3) := by decide +kernel
theorem dX6_later_13 : decode cX6_later 13 = .ok (.ireturn, 1) := by decide +kernel
theorem dX6_later_14 : decode cX6_later 14 = .ok (.aload_n 0, 1) := by decide +kernel
theorem dX6_later_15 : decode cX6_later 15 = .ok (.aload_n 0, 1) := by decide +kernel
theorem dX6_later_16 : decode cX6_later 16 = .ok (.getfield 10, 3) := by decide +kernel
theorem dX6_later_19 : decode cX6_later 19 = .ok (.iload_n 1, 1) := by decide +kernel
theorem dX6_later_20 : decode cX6_later 20 = .ok (.invokevirtual 143, 3) := by decide +kernel
theorem dX6_later_23 : decode cX6_later 23 = .ok (.aload_n 0, 1) := by decide +kernel
theorem dX6_later_24 : decode cX6_later 24 = .ok (.getfield 44, 3) := by decide +kernel
theorem dX6_later_27 : decode cX6_later 27 = .ok (.invokevirtual 207, 3) := by decide +kernel
theorem dX6_later_30 : decode cX6_later 30 = .ok (.ireturn, 1) := by decide +kernel
theorem dX6_next_0 : decode cX6_next 0 = .ok (.iconst (-1), 1) := by decide +kernel
theorem dX6_next_1 : decode cX6_next 1 = .ok (.istore_n 1, 1) := by decide +kernel
theorem dX6_next_2 : decode cX6_next 2 = .ok (.lconst 0, 1) := by decide +kernel
theorem dX6_next_3 : decode cX6_next 3 = .ok (.lstore_n 2, 1) := by decide +kernel
theorem dX6_next_4 : decode cX6_next 4 = .ok (.lconst 0, 1) := by decide +kernel
theorem dX6_next_5 : decode cX6_next 5 = .ok (.lstore 4, 2) := by decide +kernel
theorem dX6_next_7 : decode cX6_next 7 = .ok (.iconst 0, 1) := by decide +kernel
theorem dX6_next_8 : decode cX6_next 8 = .ok (.istore 6, 2) := by decide +kernel
theorem dX6_next_10 : decode cX6_next 10 = .ok (.iload 6, 2) := by decide +kernel
theorem dX6_next_12 : decode cX6_next 12 = .ok (.bipush 6, 2) := by decide +kernel
theorem dX6_next_14 : decode cX6_next 14 = .ok (.if_icmp .ge 94, 3) := by decide +kernel
theorem dX6_next_17 : decode cX6_next 17 = .ok (.aload_n 0, 1) := by decide +kernel
theorem dX6_next_18 : decode cX6_next 18 = .ok (.iload 6, 2) := by decide +kernel
theorem dX6_next_20 : decode cX6_next 20 = .ok (.bipush 8, 2) := by decide +kernel
theorem dX6_next_22 : decode cX6_next 22 = .ok (.imul, 1) := by decide +kernel
theorem dX6_next_23 : decode cX6_next 23 = .ok (.invokevirtual 151, 3) := by decide +kernel
theorem dX6_next_26 : decode cX6_next 26 = .ok (.ifCond .eq 76, 3) := by decide +kernel
theorem dX6_next_29 : decode cX6_next 29 = .ok (.aload_n 0, 1) := by decide +kernel
theorem dX6_next_30 : decode cX6_next 30 = .ok (.getfield 44, 3) := by decide +kernel
theorem dX6_next_33 : decode cX6_next 33 = .ok (.aload_n 0, 1) := by decide +kernel
theorem dX6_next_34 : decode cX6_next 34 = .ok (.getfield 37, 3) := by decide +kernel
theorem dX6_next_37 : decode cX6_next 37 = .ok (.invokevirtual 210, 3) := by decide +kernel
theorem dX6_next_40 : decode cX6_next 40 = .ok (.iload_n 1, 1) := by decide +kernel
theorem dX6_next_41 : decode cX6_next 41 = .ok (.iconst (-1), 1) := by decide +kernel
theorem dX6_next_42 : decode cX6_next 42 = .ok (.if_icmp .eq 26, 3) := by decide +kernel
theorem dX6_next_45 : decode cX6_next 45 = .ok (.aload_n 0, 1) := by decide +kernel
theorem dX6_next_46 : decode cX6_next 46 = .ok (.getfield 44, 3) := by decide +kernel
theorem dX6_next_49 : decode cX6_next 49 = .ok (.getfield 214, 3) := by decide +kernel
theorem dX6_next_52 : decode cX6_next 52 = .ok (.lload 4, 2) := by decide +kernel
theorem dX6_next_54 : decode cX6_next 54 = .ok (.lload_n 2, 1) := by decide +kernel
theorem dX6_next_55 : decode cX6_next 55 = .ok (.aload_n 0, 1) := by decide +kernel
theorem dX6_next_56 : decode cX6_next 56 = .ok (.getfield 44, 3) := by decide +kernel
theorem dX6_next_59 : decode cX6_next 59 = .ok (.getfield 158, 3) := by decide +kernel
theorem dX6_next_62 : decode cX6_next 62 = .ok (.invokestatic 217, 3) := by decide +kernel
theorem dX6_next_65 : decode cX6_next 65 = .ok (.ifCond .eq 37, 3) := by decide +kernel
theorem dX6_next_68 : decode cX6_next 68 = .ok (.bipush 10, 2) := by decide +kernel
theorem dX6_next_70 : decode cX6_next 70 = .ok (.iload 6, 2) := by decide +kernel
theorem dX6_next_72 : decode cX6_next 72 = .ok (.imul, 1) := by decide +kernel
theorem dX6_next_73 : decode cX6_next 73 = .ok (.bipush 8, 2) := by decide +kernel
theorem dX6_next_75 : decode cX6_next 75 = .ok (.imul, 1) := by decide +kernel
theorem dX6_next_76 : decode cX6_next 76 = .ok (.aload_n 0, 1) := by decide +kernel
theorem dX6_next_77 : decode cX6_next 77 = .ok (.getfield 44, 3) := by decide +kernel
theorem dX6_next_80 : decode cX6_next 80 = .ok (.getfield 221, 3) := by decide +kernel
theorem dX6_next_83 : decode cX6_next 83 = .ok (.iadd, 1) := by decide +kernel
theorem dX6_next_84 : decode cX6_next 84 = .ok (.istore_n 1, 1) := by decide +kernel
theorem dX6_next_85 : decode cX6_next 85 = .ok (.aload_n 0, 1) := by decide +kernel
theorem dX6_next_86 : decode cX6_next 86 = .ok (.getfield 44, 3) := by decide +kernel
theorem dX6_next_89 : decode cX6_next 89 = .ok (.getfield 214, 3) := by decide +kernel
theorem dX6_next_92 : decode cX6_next 92 = .ok (.lstore_n 2, 1) := by decide +kernel
theorem dX6_next_93 : decode cX6_next 93 = .ok (.aload_n 0, 1) := by decide +kernel
theorem dX6_next_94 : decode cX6_next 94 = .ok (.getfield 44, 3) := by decide +kernel
theorem dX6_next_97 : decode cX6_next 97 = .ok (.getfield 158, 3) := by decide +kernel
theorem dX6_next_100 : decode cX6_next 100 = .ok (.lstore 4, 2) := by decide +kernel
theorem dX6_next_102 : decode cX6_next 102 = .ok (.iinc 6 1, 3) := by decide +kernel
theorem dX6_next_105 : decode cX6_next 105 = .ok (.goto (-95), 3) := by decide +kernel
theorem dX6_next_108 : decode cX6_next 108 = .ok (.iload_n 1, 1) := by decide +kernel
theorem dX6_next_109 : decode cX6_next 109 = .ok (.iconst (-1), 1) := by decide +kernel
theorem dX6_next_110 : decode cX6_next 110 = .ok (.if_icmp .ne 12, 3) := by decide +kernel
theorem dX6_next_113 : decode cX6_next 113 = .ok (.aload_n 0, 1) := by decide +kernel
theorem dX6_next_114 : decode cX6_next 114 = .ok (.bipush (-3), 2) := by decide +kernel
theorem dX6_next_116 : decode cX6_next 116 = .ok (.invokevirtual 76, 3) := by decide +kernel
theorem dX6_next_119 : decode cX6_next 119 = .ok (.goto 4, 3) := by decide +kernel
theorem dX6_next_122 : decode cX6_next 122 = .ok (.iload_n 1, 1) := by decide +kernel
theorem dX6_next_123 : decode cX6_next 123 = .ok (.ireturn, 1) := by decide +kernel
theorem dX6_rests_0 : decode cX6_rests 0 = .ok (.iload_n 1, 1) := by decide +kernel
theorem dX6_rests_1 : decode cX6_rests 1 = .ok (.invokestatic 114, 3) := by decide +kernel
theorem dX6_rests_4 : decode cX6_rests 4 = .ok (.ifCond .ne 10, 3) := by decide +kernel
theorem dX6_rests_7 : decode cX6_rests 7 = .ok (.aload_n 0, 1) := by decide +kernel
theorem dX6_rests_8 : decode cX6_rests 8 = .ok (.bipush (-2), 2) := by decide +kernel
theorem dX6_rests_10 : decode cX6_rests 10 = .ok (.invokevirtual 76, 3) := by decide +kernel
theorem dX6_rests_13 : decode cX6_rests 13 = .ok (.ireturn, 1) := by decide +kernel
theorem dX6_rests_14 : decode cX6_rests 14 = .ok (.aload_n 0, 1) := by decide +kernel
theorem dX6_rests_15 : decode cX6_rests 15 = .ok (.iload_n 1, 1) := by decide +kernel
theorem dX6_rests_16 : decode cX6_rests 16 = .ok (.invokevirtual 151, 3) := by decide +kernel
theorem dX6_rests_19 : decode cX6_rests 19 = .ok (.ifCond .eq 11, 3) := by decide +kernel
theorem dX6_rests_22 : decode cX6_rests 22 = .ok (.aload_n 0, 1) := by decide +kernel
theorem dX6_rests_23 : decode cX6_rests 23 = .ok (.iload_n 1, 1) := by decide +kernel
theorem dX6_rests_24 : decode cX6_rests 24 = .ok (.invokevirtual 225, 3) := by decide +kernel
theorem dX6_rests_27 : decode cX6_rests 27 = .ok (.goto 9, 3) := by decide +kernel
theorem dX6_rests_30 : decode cX6_rests 30 = .ok (.aload_n 0, 1) := by decide +kernel
theorem dX6_rests_31 : decode cX6_rests 31 = .ok (.bipush (-3), 2) := by decide +kernel
theorem dX6_rests_33 : decode cX6_rests 33 = .ok (.invokevirtual 76, 3) := by decide +kernel
theorem dX6_rests_36 : decode cX6_rests 36 = .ok (.ireturn, 1) := by decide +kernel
theorem dX6_resting_0 : decode cX6_resting 0 = .ok (.iload_n 1, 1) := by decide +kernel
theorem dX6_resting_1 : decode cX6_resting 1 = .ok (.invokestatic 169, 3) := by decide +kernel
theorem dX6_resting_4 : decode cX6_resting 4 = .ok (.ifCond .eq 12, 3) := by decide +kernel
theorem dX6_resting_7 : decode cX6_resting 7 = .ok (.iload_n 2, 1) := by decide +kernel
theorem dX6_resting_8 : decode cX6_resting 8 = .ok (.iconst 0, 1) := by decide +kernel
theorem dX6_resting_9 : decode cX6_resting 9 = .ok (.iconst 3, 1) := by decide +kernel
theorem dX6_resting_10 : decode cX6_resting 10 = .ok (.invokestatic 121, 3) := by decide +kernel
theorem dX6_resting_13 : decode cX6_resting 13 = .ok (.ifCond .ne 10, 3) := by decide +kernel
theorem dX6_resting_16 : decode cX6_resting 16 = .ok (.aload_n 0, 1) := by decide +kernel
theorem dX6_resting_17 : decode cX6_resting 17 = .ok (.bipush (-2), 2) := by decide +kernel
theorem dX6_resting_19 : decode cX6_resting 19 = .ok (.invokevirtual 76, 3) := by decide +kernel
theorem dX6_resting_22 : decode cX6_resting 22 = .ok (.ireturn, 1) := by decide +kernel
theorem dX6_resting_23 : decode cX6_resting 23 = .ok (.aload_n 0, 1) := by decide +kernel
theorem dX6_resting_24 : decode cX6_resting 24 = .ok (.iload_n 1, 1) := by decide +kernel
theorem dX6_resting_25 : decode cX6_resting 25 = .ok (.bipush 8, 2) := by decide +kernel
theorem dX6_resting_27 : decode cX6_resting 27 = .ok (.imul, 1) := by decide +kernel
theorem dX6_resting_28 : decode cX6_resting 28 = .ok (.invokevirtual 151, 3) := by decide +kernel
theorem dX6_resting_31 : decode cX6_resting 31 = .ok (.ifCond .ne 10, 3) := by decide +kernel
theorem dX6_resting_34 : decode cX6_resting 34 = .ok (.aload_n 0, 1) := by decide +kernel
theorem dX6_resting_35 : decode cX6_resting 35 = .ok (.bipush (-3), 2) := by decide +kernel
theorem dX6_resting_37 : decode cX6_resting 37 = .ok (.invokevirtual 76, 3) := by decide +kernel
theorem dX6_resting_40 : decode cX6_resting 40 = .ok (.ireturn, 1) := by decide +kernel
theorem dX6_resting_41 : decode cX6_resting 41 = .ok (.iconst 0, 1) := by decide +kernel
theorem dX6_resting_42 : decode cX6_resting 42 = .ok (.istore_n 3, 1) := by decide +kernel
theorem dX6_resting_43 : decode cX6_resting 43 = .ok (.iconst 0, 1) := by decide +kernel
theorem dX6_resting_44 : decode cX6_resting 44 = .ok (.istore 4, 2) := by decide +kernel
theorem dX6_resting_46 : decode cX6_resting 46 = .ok (.iload 4, 2) := by decide +kernel
theorem dX6_resting_48 : decode cX6_resting 48 = .ok (.bipush 8, 2) := by decide +kernel
theorem dX6_resting_50 : decode cX6_resting 50 = .ok (.if_icmp .ge 27, 3) := by decide +kernel
theorem dX6_resting_53 : decode cX6_resting 53 = .ok (.aload_n 0, 1) := by decide +kernel
theorem dX6_resting_54 : decode cX6_resting 54 = .ok (.iload_n 1, 1) := by decide +kernel
theorem dX6_resting_55 : decode cX6_resting 55 = .ok (.bipush 8, 2) := by decide +kernel
theorem dX6_resting_57 : decode cX6_resting 57 = .ok (.imul, 1) := by decide +kernel
theorem dX6_resting_58 : decode cX6_resting 58 = .ok (.iload 4, 2) := by decide +kernel
theorem dX6_resting_60 : decode cX6_resting 60 = .ok (.iadd, 1) := by decide +kernel
theorem dX6_resting_61 : decode cX6_resting 61 = .ok (.invokevirtual 225, 3) := by decide +kernel
theorem dX6_resting_64 : decode cX6_resting 64 = .ok (.iload_n 2, 1) := by decide +kernel
theorem dX6_resting_65 : decode cX6_resting 65 = .ok (.if_icmp .ne 6, 3) := by decide +kernel
theorem dX6_resting_68 : decode cX6_resting 68 = .ok (.iinc 3 1, 3) := by decide +kernel
theorem dX6_resting_71 : decode cX6_resting 71 = .ok (.iinc 4 1, 3) := by decide +kernel
theorem dX6_resting_74 : decode cX6_resting 74 = .ok (.goto (-28), 3) := by decide +kernel
theorem dX6_resting_77 : decode cX6_resting 77 = .ok (.iload_n 3, 1) := by decide +kernel
theorem dX6_resting_78 : decode cX6_resting 78 = .ok (.ireturn, 1) := by decide +kernel
theorem dX6_bright_0 : decode cX6_bright 0 = .ok (.iload_n 1, 1) := by decide +kernel
theorem dX6_bright_1 : decode cX6_bright 1 = .ok (.invokestatic 114, 3) := by decide +kernel
theorem dX6_bright_4 : decode cX6_bright 4 = .ok (.ifCond .eq 12, 3) := by decide +kernel
theorem dX6_bright_7 : decode cX6_bright 7 = .ok (.iload_n 2, 1) := by decide +kernel
theorem dX6_bright_8 : decode cX6_bright 8 = .ok (.iconst 0, 1) := by decide +kernel
theorem dX6_bright_9 : decode cX6_bright 9 = .ok (.iconst 2, 1) := by decide +kernel
theorem dX6_bright_10 : decode cX6_bright 10 = .ok (.invokestatic 121, 3) := by decide +kernel
theorem dX6_bright_13 : decode cX6_bright 13 = .ok (.ifCond .ne 10, 3) := by decide +kernel
theorem dX6_bright_16 : decode cX6_bright 16 = .ok (.aload_n 0, 1) := by decide +kernel
theorem dX6_bright_17 : decode cX6_bright 17 = .ok (.bipush (-2), 2) := by decide +kernel
theorem dX6_bright_19 : decode cX6_bright 19 = .ok (.invokevirtual 76, 3) := by decide +kernel
theorem dX6_bright_22 : decode cX6_bright 22 = .ok (.ireturn, 1) := by decide +kernel
theorem dX6_bright_23 : decode cX6_bright 23 = .ok (.aload_n 0, 1) := by decide +kernel
theorem dX6_bright_24 : decode cX6_bright 24 = .ok (.iload_n 1, 1) := by decide +kernel
theorem dX6_bright_25 : decode cX6_bright 25 = .ok (.invokevirtual 151, 3) := by decide +kernel
theorem dX6_bright_28 : decode cX6_bright 28 = .ok (.ifCond .ne 10, 3) := by decide +kernel
theorem dX6_bright_31 : decode cX6_bright 31 = .ok (.aload_n 0, 1) := by decide +kernel
theorem dX6_bright_32 : decode cX6_bright 32 = .ok (.bipush (-3), 2) := by decide +kernel
theorem dX6_bright_34 : decode cX6_bright 34 = .ok (.invokevirtual 76, 3) := by decide +kernel
theorem dX6_bright_37 : decode cX6_bright 37 = .ok (.ireturn, 1) := by decide +kernel
theorem dX6_bright_38 : decode cX6_bright 38 = .ok (.iload_n 2, 1) := by decide +kernel
theorem dX6_bright_39 : decode cX6_bright 39 = .ok (.iconst 2, 1) := by decide +kernel
theorem dX6_bright_40 : decode cX6_bright 40 = .ok (.if_icmp .ne 14, 3) := by decide +kernel
theorem dX6_bright_43 : decode cX6_bright 43 = .ok (.aload_n 0, 1) := by decide +kernel
theorem dX6_bright_44 : decode cX6_bright 44 = .ok (.iload_n 1, 1) := by decide +kernel
theorem dX6_bright_45 : decode cX6_bright 45 = .ok (.bipush 8, 2) := by decide +kernel
theorem dX6_bright_47 : decode cX6_bright 47 = .ok (.irem, 1) := by decide +kernel
theorem dX6_bright_48 : decode cX6_bright 48 = .ok (.invokevirtual 228, 3) := by decide +kernel
theorem dX6_bright_51 : decode cX6_bright 51 = .ok (.goto 21, 3) := by decide +kernel
theorem dX6_bright_54 : decode cX6_bright 54 = .ok (.aload_n 0, 1) := by decide +kernel
theorem dX6_bright_55 : decode cX6_bright 55 = .ok (.iload_n 1, 1) := by decide +kernel
theorem dX6_bright_56 : decode cX6_bright 56 = .ok (.bipush 8, 2) := by decide +kernel
theorem dX6_bright_58 : decode cX6_bright 58 = .ok (.irem, 1) := by decide +kernel
theorem dX6_bright_59 : decode cX6_bright 59 = .ok (.iload_n 2, 1) := by decide +kernel
theorem dX6_bright_60 : decode cX6_bright 60 = .ok (.iconst 1, 1) := by decide +kernel
theorem dX6_bright_61 : decode cX6_bright 61 = .ok (.if_icmp .ne 7, 3) := by decide +kernel
theorem dX6_bright_64 : decode cX6_bright 64 = .ok (.iconst 1, 1) := by decide +kernel
theorem dX6_bright_65 : decode cX6_bright 65 = .ok (.goto 4, 3) := by decide +kernel
theorem dX6_bright_68 : decode cX6_bright 68 = .ok (.iconst 0, 1) := by decide +kernel
theorem dX6_bright_69 : decode cX6_bright 69 = .ok (.invokevirtual 231, 3) := by decide +kernel
theorem dX6_bright_72 : decode cX6_bright 72 = .ok (.ireturn, 1) := by decide +kernel
theorem dX6_sign_0 : decode cX6_sign 0 = .ok (.iload_n 1, 1) := by decide +kernel
theorem dX6_sign_1 : decode cX6_sign 1 = .ok (.iconst 0, 1) := by decide +kernel
theorem dX6_sign_2 : decode cX6_sign 2 = .ok (.iconst 2, 1) := by decide +kernel
theorem dX6_sign_3 : decode cX6_sign 3 = .ok (.invokestatic 121, 3) := by decide +kernel
theorem dX6_sign_6 : decode cX6_sign 6 = .ok (.ifCond .ne 10, 3) := by decide +kernel
theorem dX6_sign_9 : decode cX6_sign 9 = .ok (.aload_n 0, 1) := by decide +kernel
theorem dX6_sign_10 : decode cX6_sign 10 = .ok (.bipush (-2), 2) := by decide +kernel
theorem dX6_sign_12 : decode cX6_sign 12 = .ok (.invokevirtual 76, 3) := by decide +kernel
theorem dX6_sign_15 : decode cX6_sign 15 = .ok (.ireturn, 1) := by decide +kernel
theorem dX6_sign_16 : decode cX6_sign 16 = .ok (.iload_n 1, 1) := by decide +kernel
theorem dX6_sign_17 : decode cX6_sign 17 = .ok (.ifCond .ne 22, 3) := by decide +kernel
theorem dX6_sign_20 : decode cX6_sign 20 = .ok (.aload_n 0, 1) := by decide +kernel
theorem dX6_sign_21 : decode cX6_sign 21 = .ok (.getfield 51, 3) := by decide +kernel
theorem dX6_sign_24 : decode cX6_sign 24 = .ok (.getfield 234, 3) := by decide +kernel
theorem dX6_sign_27 : decode cX6_sign 27 = .ok (.invokevirtual 190, 3) := by decide +kernel
theorem dX6_sign_30 : decode cX6_sign 30 = .ok (.ifCond .eq 7, 3) := by decide +kernel
theorem dX6_sign_33 : decode cX6_sign 33 = .ok (.iconst 0, 1) := by decide +kernel
theorem dX6_sign_34 : decode cX6_sign 34 = .ok (.goto 4, 3) := by decide +kernel
theorem dX6_sign_37 : decode cX6_sign 37 = .ok (.iconst 1, 1) := by decide +kernel
theorem dX6_sign_38 : decode cX6_sign 38 = .ok (.ireturn, 1) := by decide +kernel
theorem dX6_sign_39 : decode cX6_sign 39 = .ok (.iload_n 1, 1) := by decide +kernel
theorem dX6_sign_40 : decode cX6_sign 40 = .ok (.iconst 1, 1) := by decide +kernel
theorem dX6_sign_41 : decode cX6_sign 41 = .ok (.if_icmp .ne 16, 3) := by decide +kernel
theorem dX6_sign_44 : decode cX6_sign 44 = .ok (.aload_n 0, 1) := by decide +kernel
theorem dX6_sign_45 : decode cX6_sign 45 = .ok (.getfield 51, 3) := by decide +kernel
theorem dX6_sign_48 : decode cX6_sign 48 = .ok (.getfield 234, 3) := by decide +kernel
theorem dX6_sign_51 : decode cX6_sign 51 = .ok (.getfield 237, 3) := by decide +kernel
theorem dX6_sign_54 : decode cX6_sign 54 = .ok (.goto 13, 3) := by decide +kernel
theorem dX6_sign_57 : decode cX6_sign 57 = .ok (.aload_n 0, 1) := by decide +kernel
theorem dX6_sign_58 : decode cX6_sign 58 = .ok (.getfield 51, 3) := by decide +kernel
theorem dX6_sign_61 : decode cX6_sign 61 = .ok (.getfield 240, 3) := by decide +kernel
theorem dX6_sign_64 : decode cX6_sign 64 = .ok (.getfield 237, 3) := by decide +kernel
theorem dX6_sign_67 : decode cX6_sign 67 = .ok (.ireturn, 1) := by decide +kernel
theorem dX6_limb_0 : decode cX6_limb 0 = .ok (.iload_n 1, 1) := by decide +kernel
theorem dX6_limb_1 : decode cX6_limb 1 = .ok (.iconst 0, 1) := by decide +kernel
theorem dX6_limb_2 : decode cX6_limb 2 = .ok (.iconst 1, 1) := by decide +kernel
theorem dX6_limb_3 : decode cX6_limb 3 = .ok (.invokestatic 121, 3) := by decide +kernel
theorem dX6_limb_6 : decode cX6_limb 6 = .ok (.ifCond .eq 7, 3) := by decide +kernel
theorem dX6_limb_9 : decode cX6_limb 9 = .ok (.iload_n 2, 1) := by decide +kernel
theorem dX6_limb_10 : decode cX6_limb 10 = .ok (.ifCond .ge 10, 3) := by decide +kernel
theorem dX6_limb_13 : decode cX6_limb 13 = .ok (.aload_n 0, 1) := by decide +kernel
theorem dX6_limb_14 : decode cX6_limb 14 = .ok (.bipush (-2), 2) := by decide +kernel
theorem dX6_limb_16 : decode cX6_limb 16 = .ok (.invokevirtual 76, 3) := by decide +kernel
theorem dX6_limb_19 : decode cX6_limb 19 = .ok (.ireturn, 1) := by decide +kernel
theorem dX6_limb_20 : decode cX6_limb 20 = .ok (.iload_n 1, 1) := by decide +kernel
theorem dX6_limb_21 : decode cX6_limb 21 = .ok (.ifCond .ne 17, 3) := by decide +kernel
theorem dX6_limb_24 : decode cX6_limb 24 = .ok (.aload_n 0, 1) := by decide +kernel
theorem dX6_limb_25 : decode cX6_limb 25 = .ok (.getfield 51, 3) := by decide +kernel
theorem dX6_limb_28 : decode cX6_limb 28 = .ok (.getfield 234, 3) := by decide +kernel
theorem dX6_limb_31 : decode cX6_limb 31 = .ok (.iload_n 2, 1) := by decide +kernel
theorem dX6_limb_32 : decode cX6_limb 32 = .ok (.invokevirtual 243, 3) := by decide +kernel
theorem dX6_limb_35 : decode cX6_limb 35 = .ok (.goto 14, 3) := by decide +kernel
theorem dX6_limb_38 : decode cX6_limb 38 = .ok (.aload_n 0, 1) := by decide +kernel
theorem dX6_limb_39 : decode cX6_limb 39 = .ok (.getfield 51, 3) := by decide +kernel
theorem dX6_limb_42 : decode cX6_limb 42 = .ok (.getfield 240, 3) := by decide +kernel
theorem dX6_limb_45 : decode cX6_limb 45 = .ok (.iload_n 2, 1) := by decide +kernel
theorem dX6_limb_46 : decode cX6_limb 46 = .ok (.invokevirtual 243, 3) := by decide +kernel
theorem dX6_limb_49 : decode cX6_limb 49 = .ok (.ireturn, 1) := by decide +kernel
theorem dX6_image_0 : decode cX6_image 0 = .ok (.iload_n 1, 1) := by decide +kernel
theorem dX6_image_1 : decode cX6_image 1 = .ok (.iconst 0, 1) := by decide +kernel
theorem dX6_image_2 : decode cX6_image 2 = .ok (.iconst 1, 1) := by decide +kernel
theorem dX6_image_3 : decode cX6_image 3 = .ok (.invokestatic 121, 3) := by decide +kernel
theorem dX6_image_6 : decode cX6_image 6 = .ok (.ifCond .ne 10, 3) := by decide +kernel
theorem dX6_image_9 : decode cX6_image 9 = .ok (.aload_n 0, 1) := by decide +kernel
theorem dX6_image_10 : decode cX6_image 10 = .ok (.bipush (-2), 2) := by decide +kernel
theorem dX6_image_12 : decode cX6_image 12 = .ok (.invokevirtual 76, 3) := by decide +kernel
theorem dX6_image_15 : decode cX6_image 15 = .ok (.ireturn, 1) := by decide +kernel
theorem dX6_image_16 : decode cX6_image 16 = .ok (.aload_n 0, 1) := by decide +kernel
theorem dX6_image_17 : decode cX6_image 17 = .ok (.getfield 19, 3) := by decide +kernel
theorem dX6_image_20 : decode cX6_image 20 = .ok (.iload_n 1, 1) := by decide +kernel
theorem dX6_image_21 : decode cX6_image 21 = .ok (.aaload, 1) := by decide +kernel
theorem dX6_image_22 : decode cX6_image 22 = .ok (.aload_n 0, 1) := by decide +kernel
theorem dX6_image_23 : decode cX6_image 23 = .ok (.getfield 10, 3) := by decide +kernel
theorem dX6_image_26 : decode cX6_image 26 = .ok (.invokevirtual 110, 3) := by decide +kernel
theorem dX6_image_29 : decode cX6_image 29 = .ok (.aload_n 0, 1) := by decide +kernel
theorem dX6_image_30 : decode cX6_image 30 = .ok (.getfield 23, 3) := by decide +kernel
theorem dX6_image_33 : decode cX6_image 33 = .ok (.iload_n 1, 1) := by decide +kernel
theorem dX6_image_34 : decode cX6_image 34 = .ok (.iconst 1, 1) := by decide +kernel
theorem dX6_image_35 : decode cX6_image 35 = .ok (.bastore, 1) := by decide +kernel
theorem dX6_image_36 : decode cX6_image 36 = .ok (.iconst 1, 1) := by decide +kernel
theorem dX6_image_37 : decode cX6_image 37 = .ok (.ireturn, 1) := by decide +kernel
theorem dX6_from_0 : decode cX6_from 0 = .ok (.iload_n 1, 1) := by decide +kernel
theorem dX6_from_1 : decode cX6_from 1 = .ok (.iconst 0, 1) := by decide +kernel
theorem dX6_from_2 : decode cX6_from 2 = .ok (.iconst 1, 1) := by decide +kernel
theorem dX6_from_3 : decode cX6_from 3 = .ok (.invokestatic 121, 3) := by decide +kernel
theorem dX6_from_6 : decode cX6_from 6 = .ok (.ifCond .ne 10, 3) := by decide +kernel
theorem dX6_from_9 : decode cX6_from 9 = .ok (.aload_n 0, 1) := by decide +kernel
theorem dX6_from_10 : decode cX6_from 10 = .ok (.bipush (-2), 2) := by decide +kernel
theorem dX6_from_12 : decode cX6_from 12 = .ok (.invokevirtual 76, 3) := by decide +kernel
theorem dX6_from_15 : decode cX6_from 15 = .ok (.ireturn, 1) := by decide +kernel
theorem dX6_from_16 : decode cX6_from 16 = .ok (.aload_n 0, 1) := by decide +kernel
theorem dX6_from_17 : decode cX6_from 17 = .ok (.getfield 23, 3) := by decide +kernel
theorem dX6_from_20 : decode cX6_from 20 = .ok (.iload_n 1, 1) := by decide +kernel
theorem dX6_from_21 : decode cX6_from 21 = .ok (.baload, 1) := by decide +kernel
theorem dX6_from_22 : decode cX6_from 22 = .ok (.ifCond .ne 10, 3) := by decide +kernel
theorem dX6_from_25 : decode cX6_from 25 = .ok (.aload_n 0, 1) := by decide +kernel
theorem dX6_from_26 : decode cX6_from 26 = .ok (.bipush (-3), 2) := by decide +kernel
theorem dX6_from_28 : decode cX6_from 28 = .ok (.invokevirtual 76, 3) := by decide +kernel
theorem dX6_from_31 : decode cX6_from 31 = .ok (.ireturn, 1) := by decide +kernel
theorem dX6_from_32 : decode cX6_from 32 = .ok (.aload_n 0, 1) := by decide +kernel
theorem dX6_from_33 : decode cX6_from 33 = .ok (.getfield 10, 3) := by decide +kernel
theorem dX6_from_36 : decode cX6_from 36 = .ok (.aload_n 0, 1) := by decide +kernel
theorem dX6_from_37 : decode cX6_from 37 = .ok (.getfield 19, 3) := by decide +kernel
theorem dX6_from_40 : decode cX6_from 40 = .ok (.iload_n 1, 1) := by decide +kernel
theorem dX6_from_41 : decode cX6_from 41 = .ok (.aaload, 1) := by decide +kernel
theorem dX6_from_42 : decode cX6_from 42 = .ok (.invokevirtual 110, 3) := by decide +kernel
theorem dX6_from_45 : decode cX6_from 45 = .ok (.iconst 1, 1) := by decide +kernel
theorem dX6_from_46 : decode cX6_from 46 = .ok (.ireturn, 1) := by decide +kernel
theorem dX6_status_0 : decode cX6_status 0 = .ok (.iload_n 1, 1) := by decide +kernel
theorem dX6_status_1 : decode cX6_status 1 = .ok (.iconst 0, 1) := by decide +kernel
theorem dX6_status_2 : decode cX6_status 2 = .ok (.iconst 2, 1) := by decide +kernel
theorem dX6_status_3 : decode cX6_status 3 = .ok (.invokestatic 121, 3) := by decide +kernel
theorem dX6_status_6 : decode cX6_status 6 = .ok (.ifCond .ne 12, 3) := by decide +kernel
theorem dX6_status_9 : decode cX6_status 9 = .ok (.aload_n 0, 1) := by decide +kernel
theorem dX6_status_10 : decode cX6_status 10 = .ok (.bipush (-2), 2) := by decide +kernel
theorem dX6_status_12 : decode cX6_status 12 = .ok (.invokevirtual 76, 3) := by decide +kernel
theorem dX6_status_15 : decode cX6_status 15 = .ok (.pop, 1) := by decide +kernel
theorem dX6_status_16 : decode cX6_status 16 = .ok (.iconst (-1), 1) := by decide +kernel
theorem dX6_status_17 : decode cX6_status 17 = .ok (.ireturn, 1) := by decide +kernel
theorem dX6_status_18 : decode cX6_status 18 = .ok (.aload_n 0, 1) := by decide +kernel
theorem dX6_status_19 : decode cX6_status 19 = .ok (.getfield 68, 3) := by decide +kernel
theorem dX6_status_22 : decode cX6_status 22 = .ok (.iload_n 1, 1) := by decide +kernel
theorem dX6_status_23 : decode cX6_status 23 = .ok (.iaload, 1) := by decide +kernel
theorem dX6_status_24 : decode cX6_status 24 = .ok (.ireturn, 1) := by decide +kernel
theorem dX6_count_0 : decode cX6_count 0 = .ok (.iload_n 1, 1) := by decide +kernel
theorem dX6_count_1 : decode cX6_count 1 = .ok (.tableswitch 63 0 3 #[31, 39, 47, 55], 31) := by decide +kernel
theorem dX6_count_32 : decode cX6_count 32 = .ok (.aload_n 0, 1) := by decide +kernel
theorem dX6_count_33 : decode cX6_count 33 = .ok (.getfield 10, 3) := by decide +kernel
theorem dX6_count_36 : decode cX6_count 36 = .ok (.getfield 246, 3) := by decide +kernel
theorem dX6_count_39 : decode cX6_count 39 = .ok (.ireturn, 1) := by decide +kernel
theorem dX6_count_40 : decode cX6_count 40 = .ok (.aload_n 0, 1) := by decide +kernel
theorem dX6_count_41 : decode cX6_count 41 = .ok (.getfield 10, 3) := by decide +kernel
theorem dX6_count_44 : decode cX6_count 44 = .ok (.getfield 249, 3) := by decide +kernel
theorem dX6_count_47 : decode cX6_count 47 = .ok (.ireturn, 1) := by decide +kernel
theorem dX6_count_48 : decode cX6_count 48 = .ok (.aload_n 0, 1) := by decide +kernel
theorem dX6_count_49 : decode cX6_count 49 = .ok (.getfield 10, 3) := by decide +kernel
theorem dX6_count_52 : decode cX6_count 52 = .ok (.invokevirtual 252, 3) := by decide +kernel
theorem dX6_count_55 : decode cX6_count 55 = .ok (.ireturn, 1) := by decide +kernel
theorem dX6_count_56 : decode cX6_count 56 = .ok (.aload_n 0, 1) := by decide +kernel
theorem dX6_count_57 : decode cX6_count 57 = .ok (.getfield 30, 3) := by decide +kernel
theorem dX6_count_60 : decode cX6_count 60 = .ok (.getfield 255, 3) := by decide +kernel
theorem dX6_count_63 : decode cX6_count 63 = .ok (.ireturn, 1) := by decide +kernel
theorem dX6_count_64 : decode cX6_count 64 = .ok (.aload_n 0, 1) := by decide +kernel
theorem dX6_count_65 : decode cX6_count 65 = .ok (.bipush (-2), 2) := by decide +kernel
theorem dX6_count_67 : decode cX6_count 67 = .ok (.invokevirtual 76, 3) := by decide +kernel
theorem dX6_count_70 : decode cX6_count 70 = .ok (.ireturn, 1) := by decide +kernel
theorem dX6_digest_0 : decode cX6_digest 0 = .ok (.ldc2_w 256, 3) := by decide +kernel
theorem dX6_digest_3 : decode cX6_digest 3 = .ok (.lstore_n 1, 1) := by decide +kernel
theorem dX6_digest_4 : decode cX6_digest 4 = .ok (.ldc2_w 258, 3) := by decide +kernel
theorem dX6_digest_7 : decode cX6_digest 7 = .ok (.lload_n 1, 1) := by decide +kernel
theorem dX6_digest_8 : decode cX6_digest 8 = .ok (.lmul, 1) := by decide +kernel
theorem dX6_digest_9 : decode cX6_digest 9 = .ok (.aload_n 0, 1) := by decide +kernel
theorem dX6_digest_10 : decode cX6_digest 10 = .ok (.getfield 10, 3) := by decide +kernel
theorem dX6_digest_13 : decode cX6_digest 13 = .ok (.getfield 246, 3) := by decide +kernel
theorem dX6_digest_16 : decode cX6_digest 16 = .ok (.i2l, 1) := by decide +kernel
theorem dX6_digest_17 : decode cX6_digest 17 = .ok (.ladd, 1) := by decide +kernel
theorem dX6_digest_18 : decode cX6_digest 18 = .ok (.lstore_n 1, 1) := by decide +kernel
theorem dX6_digest_19 : decode cX6_digest 19 = .ok (.ldc2_w 258, 3) := by decide +kernel
theorem dX6_digest_22 : decode cX6_digest 22 = .ok (.lload_n 1, 1) := by decide +kernel
theorem dX6_digest_23 : decode cX6_digest 23 = .ok (.lmul, 1) := by decide +kernel
theorem dX6_digest_24 : decode cX6_digest 24 = .ok (.aload_n 0, 1) := by decide +kernel
theorem dX6_digest_25 : decode cX6_digest 25 = .ok (.getfield 10, 3) := by decide +kernel
theorem dX6_digest_28 : decode cX6_digest 28 = .ok (.getfield 249, 3) := by decide +kernel
theorem dX6_digest_31 : decode cX6_digest 31 = .ok (.i2l, 1) := by decide +kernel
theorem dX6_digest_32 : decode cX6_digest 32 = .ok (.ladd, 1) := by decide +kernel
theorem dX6_digest_33 : decode cX6_digest 33 = .ok (.lstore_n 1, 1) := by decide +kernel
theorem dX6_digest_34 : decode cX6_digest 34 = .ok (.ldc2_w 258, 3) := by decide +kernel
theorem dX6_digest_37 : decode cX6_digest 37 = .ok (.lload_n 1, 1) := by decide +kernel
theorem dX6_digest_38 : decode cX6_digest 38 = .ok (.lmul, 1) := by decide +kernel
theorem dX6_digest_39 : decode cX6_digest 39 = .ok (.aload_n 0, 1) := by decide +kernel
theorem dX6_digest_40 : decode cX6_digest 40 = .ok (.getfield 10, 3) := by decide +kernel
theorem dX6_digest_43 : decode cX6_digest 43 = .ok (.invokevirtual 252, 3) := by decide +kernel
theorem dX6_digest_46 : decode cX6_digest 46 = .ok (.i2l, 1) := by decide +kernel
theorem dX6_digest_47 : decode cX6_digest 47 = .ok (.ladd, 1) := by decide +kernel
theorem dX6_digest_48 : decode cX6_digest 48 = .ok (.lstore_n 1, 1) := by decide +kernel
theorem dX6_digest_49 : decode cX6_digest 49 = .ok (.ldc2_w 258, 3) := by decide +kernel
theorem dX6_digest_52 : decode cX6_digest 52 = .ok (.lload_n 1, 1) := by decide +kernel
theorem dX6_digest_53 : decode cX6_digest 53 = .ok (.lmul, 1) := by decide +kernel
theorem dX6_digest_54 : decode cX6_digest 54 = .ok (.aload_n 0, 1) := by decide +kernel
theorem dX6_digest_55 : decode cX6_digest 55 = .ok (.getfield 30, 3) := by decide +kernel
theorem dX6_digest_58 : decode cX6_digest 58 = .ok (.getfield 255, 3) := by decide +kernel
theorem dX6_digest_61 : decode cX6_digest 61 = .ok (.i2l, 1) := by decide +kernel
theorem dX6_digest_62 : decode cX6_digest 62 = .ok (.ladd, 1) := by decide +kernel
theorem dX6_digest_63 : decode cX6_digest 63 = .ok (.lstore_n 1, 1) := by decide +kernel
theorem dX6_digest_64 : decode cX6_digest 64 = .ok (.aload_n 0, 1) := by decide +kernel
theorem dX6_digest_65 : decode cX6_digest 65 = .ok (.getfield 10, 3) := by decide +kernel
theorem dX6_digest_68 : decode cX6_digest 68 = .ok (.lload_n 1, 1) := by decide +kernel
theorem dX6_digest_69 : decode cX6_digest 69 = .ok (.invokevirtual 260, 3) := by decide +kernel
theorem dX6_digest_72 : decode cX6_digest 72 = .ok (.lstore_n 1, 1) := by decide +kernel
theorem dX6_digest_73 : decode cX6_digest 73 = .ok (.ldc2_w 258, 3) := by decide +kernel
theorem dX6_digest_76 : decode cX6_digest 76 = .ok (.lload_n 1, 1) := by decide +kernel
theorem dX6_digest_77 : decode cX6_digest 77 = .ok (.lmul, 1) := by decide +kernel
theorem dX6_digest_78 : decode cX6_digest 78 = .ok (.aload_n 0, 1) := by decide +kernel
theorem dX6_digest_79 : decode cX6_digest 79 = .ok (.getfield 51, 3) := by decide +kernel
theorem dX6_digest_82 : decode cX6_digest 82 = .ok (.getfield 234, 3) := by decide +kernel
theorem dX6_digest_85 : decode cX6_digest 85 = .ok (.invokevirtual 190, 3) := by decide +kernel
theorem dX6_digest_88 : decode cX6_digest 88 = .ok (.ifCond .eq 7, 3) := by decide +kernel
theorem dX6_digest_91 : decode cX6_digest 91 = .ok (.iconst 0, 1) := by decide +kernel
theorem dX6_digest_92 : decode cX6_digest 92 = .ok (.goto 4, 3) := by decide +kernel
theorem dX6_digest_95 : decode cX6_digest 95 = .ok (.iconst 1, 1) := by decide +kernel
theorem dX6_digest_96 : decode cX6_digest 96 = .ok (.i2l, 1) := by decide +kernel
theorem dX6_digest_97 : decode cX6_digest 97 = .ok (.ladd, 1) := by decide +kernel
theorem dX6_digest_98 : decode cX6_digest 98 = .ok (.lstore_n 1, 1) := by decide +kernel
theorem dX6_digest_99 : decode cX6_digest 99 = .ok (.ldc2_w 258, 3) := by decide +kernel
theorem dX6_digest_102 : decode cX6_digest 102 = .ok (.lload_n 1, 1) := by decide +kernel
theorem dX6_digest_103 : decode cX6_digest 103 = .ok (.lmul, 1) := by decide +kernel
theorem dX6_digest_104 : decode cX6_digest 104 = .ok (.aload_n 0, 1) := by decide +kernel
theorem dX6_digest_105 : decode cX6_digest 105 = .ok (.getfield 51, 3) := by decide +kernel
theorem dX6_digest_108 : decode cX6_digest 108 = .ok (.getfield 234, 3) := by decide +kernel
theorem dX6_digest_111 : decode cX6_digest 111 = .ok (.getfield 237, 3) := by decide +kernel
theorem dX6_digest_114 : decode cX6_digest 114 = .ok (.i2l, 1) := by decide +kernel
theorem dX6_digest_115 : decode cX6_digest 115 = .ok (.ladd, 1) := by decide +kernel
theorem dX6_digest_116 : decode cX6_digest 116 = .ok (.lstore_n 1, 1) := by decide +kernel
theorem dX6_digest_117 : decode cX6_digest 117 = .ok (.ldc2_w 258, 3) := by decide +kernel
theorem dX6_digest_120 : decode cX6_digest 120 = .ok (.lload_n 1, 1) := by decide +kernel
theorem dX6_digest_121 : decode cX6_digest 121 = .ok (.lmul, 1) := by decide +kernel
theorem dX6_digest_122 : decode cX6_digest 122 = .ok (.aload_n 0, 1) := by decide +kernel
theorem dX6_digest_123 : decode cX6_digest 123 = .ok (.getfield 51, 3) := by decide +kernel
theorem dX6_digest_126 : decode cX6_digest 126 = .ok (.getfield 240, 3) := by decide +kernel
theorem dX6_digest_129 : decode cX6_digest 129 = .ok (.getfield 237, 3) := by decide +kernel
theorem dX6_digest_132 : decode cX6_digest 132 = .ok (.i2l, 1) := by decide +kernel
theorem dX6_digest_133 : decode cX6_digest 133 = .ok (.ladd, 1) := by decide +kernel
theorem dX6_digest_134 : decode cX6_digest 134 = .ok (.lstore_n 1, 1) := by decide +kernel
theorem dX6_digest_135 : decode cX6_digest 135 = .ok (.aload_n 0, 1) := by decide +kernel
theorem dX6_digest_136 : decode cX6_digest 136 = .ok (.getfield 51, 3) := by decide +kernel
theorem dX6_digest_139 : decode cX6_digest 139 = .ok (.getfield 234, 3) := by decide +kernel
theorem dX6_digest_142 : decode cX6_digest 142 = .ok (.lload_n 1, 1) := by decide +kernel
theorem dX6_digest_143 : decode cX6_digest 143 = .ok (.invokevirtual 264, 3) := by decide +kernel
theorem dX6_digest_146 : decode cX6_digest 146 = .ok (.lstore_n 1, 1) := by decide +kernel
theorem dX6_digest_147 : decode cX6_digest 147 = .ok (.aload_n 0, 1) := by decide +kernel
theorem dX6_digest_148 : decode cX6_digest 148 = .ok (.getfield 51, 3) := by decide +kernel
theorem dX6_digest_151 : decode cX6_digest 151 = .ok (.getfield 240, 3) := by decide +kernel
theorem dX6_digest_154 : decode cX6_digest 154 = .ok (.lload_n 1, 1) := by decide +kernel
theorem dX6_digest_155 : decode cX6_digest 155 = .ok (.invokevirtual 264, 3) := by decide +kernel
theorem dX6_digest_158 : decode cX6_digest 158 = .ok (.lreturn, 1) := by decide +kernel
theorem dX6_told_0 : decode cX6_told 0 = .ok (.iload_n 1, 1) := by decide +kernel
theorem dX6_told_1 : decode cX6_told 1 = .ok (.bipush (-2), 2) := by decide +kernel
theorem dX6_told_3 : decode cX6_told 3 = .ok (.if_icmp .gt 22, 3) := by decide +kernel
theorem dX6_told_6 : decode cX6_told 6 = .ok (.iload_n 1, 1) := by decide +kernel
theorem dX6_told_7 : decode cX6_told 7 = .ok (.bipush (-4), 2) := by decide +kernel
theorem dX6_told_9 : decode cX6_told 9 = .ok (.if_icmp .lt 16, 3) := by decide +kernel
theorem dX6_told_12 : decode cX6_told 12 = .ok (.aload_n 0, 1) := by decide +kernel
theorem dX6_told_13 : decode cX6_told 13 = .ok (.getfield 68, 3) := by decide +kernel
theorem dX6_told_16 : decode cX6_told 16 = .ok (.bipush (-2), 2) := by decide +kernel
theorem dX6_told_18 : decode cX6_told 18 = .ok (.iload_n 1, 1) := by decide +kernel
theorem dX6_told_19 : decode cX6_told 19 = .ok (.isub, 1) := by decide +kernel
theorem dX6_told_20 : decode cX6_told 20 = .ok (.dup2, 1) := by decide +kernel
theorem dX6_told_21 : decode cX6_told 21 = .ok (.iaload, 1) := by decide +kernel
theorem dX6_told_22 : decode cX6_told 22 = .ok (.iconst 1, 1) := by decide +kernel
theorem dX6_told_23 : decode cX6_told 23 = .ok (.iadd, 1) := by decide +kernel
theorem dX6_told_24 : decode cX6_told 24 = .ok (.iastore, 1) := by decide +kernel
theorem dX6_told_25 : decode cX6_told 25 = .ok (.iload_n 1, 1) := by decide +kernel
theorem dX6_told_26 : decode cX6_told 26 = .ok (.ireturn, 1) := by decide +kernel
theorem dX6_lookAt_0 : decode cX6_lookAt 0 = .ok (.aload_n 0, 1) := by decide +kernel
theorem dX6_lookAt_1 : decode cX6_lookAt 1 = .ok (.getfield 37, 3) := by decide +kernel
theorem dX6_lookAt_4 : decode cX6_lookAt 4 = .ok (.aload_n 1, 1) := by decide +kernel
theorem dX6_lookAt_5 : decode cX6_lookAt 5 = .ok (.invokevirtual 265, 3) := by decide +kernel
theorem dX6_lookAt_8 : decode cX6_lookAt 8 = .ok (.aload_n 0, 1) := by decide +kernel
theorem dX6_lookAt_9 : decode cX6_lookAt 9 = .ok (.getfield 44, 3) := by decide +kernel
theorem dX6_lookAt_12 : decode cX6_lookAt 12 = .ok (.aload_n 1, 1) := by decide +kernel
theorem dX6_lookAt_13 : decode cX6_lookAt 13 = .ok (.aload_n 0, 1) := by decide +kernel
theorem dX6_lookAt_14 : decode cX6_lookAt 14 = .ok (.getfield 37, 3) := by decide +kernel
theorem dX6_lookAt_17 : decode cX6_lookAt 17 = .ok (.iload_n 2, 1) := by decide +kernel
theorem dX6_lookAt_18 : decode cX6_lookAt 18 = .ok (.invokevirtual 268, 3) := by decide +kernel
theorem dX6_lookAt_21 : decode cX6_lookAt 21 = .ok (.return_, 1) := by decide +kernel
theorem dX6_reckonAround_0 : decode cX6_reckonAround 0 = .ok (.aload_n 0, 1) := by decide +kernel
theorem dX6_reckonAround_1 : decode cX6_reckonAround 1 = .ok (.aload_n 0, 1) := by decide +kernel
theorem dX6_reckonAround_2 : decode cX6_reckonAround 2 = .ok (.getfield 10, 3) := by decide +kernel
theorem dX6_reckonAround_5 : decode cX6_reckonAround 5 = .ok (.iload_n 1, 1) := by decide +kernel
theorem dX6_reckonAround_6 : decode cX6_reckonAround 6 = .ok (.bipush 8, 2) := by decide +kernel
theorem dX6_reckonAround_8 : decode cX6_reckonAround 8 = .ok (.idiv, 1) := by decide +kernel
theorem dX6_reckonAround_9 : decode cX6_reckonAround 9 = .ok (.invokevirtual 143, 3) := by decide +kernel
theorem dX6_reckonAround_12 : decode cX6_reckonAround 12 = .ok (.aload_n 0, 1) := by decide +kernel
theorem dX6_reckonAround_13 : decode cX6_reckonAround 13 = .ok (.getfield 44, 3) := by decide +kernel
theorem dX6_reckonAround_16 : decode cX6_reckonAround 16 = .ok (.invokevirtual 272, 3) := by decide +kernel
theorem dX6_reckonAround_19 : decode cX6_reckonAround 19 = .ok (.aload_n 0, 1) := by decide +kernel
theorem dX6_reckonAround_20 : decode cX6_reckonAround 20 = .ok (.getfield 44, 3) := by decide +kernel
theorem dX6_reckonAround_23 : decode cX6_reckonAround 23 = .ok (.getfield 158, 3) := by decide +kernel
theorem dX6_reckonAround_26 : decode cX6_reckonAround 26 = .ok (.lconst 0, 1) := by decide +kernel
theorem dX6_reckonAround_27 : decode cX6_reckonAround 27 = .ok (.lcmp, 1) := by decide +kernel
theorem dX6_reckonAround_28 : decode cX6_reckonAround 28 = .ok (.ifCond .eq 7, 3) := by decide +kernel
theorem dX6_reckonAround_31 : decode cX6_reckonAround 31 = .ok (.iconst 1, 1) := by decide +kernel
theorem dX6_reckonAround_32 : decode cX6_reckonAround 32 = .ok (.goto 4, 3) := by decide +kernel
theorem dX6_reckonAround_35 : decode cX6_reckonAround 35 = .ok (.iconst 0, 1) := by decide +kernel
theorem dX6_reckonAround_36 : decode cX6_reckonAround 36 = .ok (.ireturn, 1) := by decide +kernel
theorem dX6_multiplyHems_0 : decode cX6_multiplyHems 0 = .ok (.aload_n 0, 1) := by decide +kernel
theorem dX6_multiplyHems_1 : decode cX6_multiplyHems 1 = .ok (.getfield 58, 3) := by decide +kernel
theorem dX6_multiplyHems_4 : decode cX6_multiplyHems 4 = .ok (.lconst 1, 1) := by decide +kernel
theorem dX6_multiplyHems_5 : decode cX6_multiplyHems 5 = .ok (.invokevirtual 178, 3) := by decide +kernel
theorem dX6_multiplyHems_8 : decode cX6_multiplyHems 8 = .ok (.aload_n 0, 1) := by decide +kernel
theorem dX6_multiplyHems_9 : decode cX6_multiplyHems 9 = .ok (.getfield 37, 3) := by decide +kernel
theorem dX6_multiplyHems_12 : decode cX6_multiplyHems 12 = .ok (.aload_n 1, 1) := by decide +kernel
theorem dX6_multiplyHems_13 : decode cX6_multiplyHems 13 = .ok (.invokevirtual 265, 3) := by decide +kernel
theorem dX6_multiplyHems_16 : decode cX6_multiplyHems 16 = .ok (.iconst 0, 1) := by decide +kernel
theorem dX6_multiplyHems_17 : decode cX6_multiplyHems 17 = .ok (.istore_n 2, 1) := by decide +kernel
theorem dX6_multiplyHems_18 : decode cX6_multiplyHems 18 = .ok (.iload_n 2, 1) := by decide +kernel
theorem dX6_multiplyHems_19 : decode cX6_multiplyHems 19 = .ok (.bipush 6, 2) := by decide +kernel
theorem dX6_multiplyHems_21 : decode cX6_multiplyHems 21 = .ok (.if_icmp .ge 53, 3) := by decide +kernel
theorem dX6_multiplyHems_24 : decode cX6_multiplyHems 24 = .ok (.aload_n 0, 1) := by decide +kernel
theorem dX6_multiplyHems_25 : decode cX6_multiplyHems 25 = .ok (.getfield 58, 3) := by decide +kernel
theorem dX6_multiplyHems_28 : decode cX6_multiplyHems 28 = .ok (.invokevirtual 190, 3) := by decide +kernel
theorem dX6_multiplyHems_31 : decode cX6_multiplyHems 31 = .ok (.ifCond .ne 43, 3) := by decide +kernel
theorem dX6_multiplyHems_34 : decode cX6_multiplyHems 34 = .ok (.aload_n 0, 1) := by decide +kernel
theorem dX6_multiplyHems_35 : decode cX6_multiplyHems 35 = .ok (.getfield 44, 3) := by decide +kernel
theorem dX6_multiplyHems_38 : decode cX6_multiplyHems 38 = .ok (.aload_n 1, 1) := by decide +kernel
theorem dX6_multiplyHems_39 : decode cX6_multiplyHems 39 = .ok (.aload_n 0, 1) := by decide +kernel
theorem dX6_multiplyHems_40 : decode cX6_multiplyHems 40 = .ok (.getfield 37, 3) := by decide +kernel
theorem dX6_multiplyHems_43 : decode cX6_multiplyHems 43 = .ok (.iload_n 2, 1) := by decide +kernel
theorem dX6_multiplyHems_44 : decode cX6_multiplyHems 44 = .ok (.invokevirtual 268, 3) := by decide +kernel
theorem dX6_multiplyHems_47 : decode cX6_multiplyHems 47 = .ok (.aload_n 0, 1) := by decide +kernel
theorem dX6_multiplyHems_48 : decode cX6_multiplyHems 48 = .ok (.getfield 44, 3) := by decide +kernel
theorem dX6_multiplyHems_51 : decode cX6_multiplyHems 51 = .ok (.invokevirtual 275, 3) := by decide +kernel
theorem dX6_multiplyHems_54 : decode cX6_multiplyHems 54 = .ok (.aload_n 0, 1) := by decide +kernel
theorem dX6_multiplyHems_55 : decode cX6_multiplyHems 55 = .ok (.getfield 58, 3) := by decide +kernel
theorem dX6_multiplyHems_58 : decode cX6_multiplyHems 58 = .ok (.aload_n 0, 1) := by decide +kernel
theorem dX6_multiplyHems_59 : decode cX6_multiplyHems 59 = .ok (.getfield 44, 3) := by decide +kernel
theorem dX6_multiplyHems_62 : decode cX6_multiplyHems 62 = .ok (.getfield 158, 3) := by decide +kernel
theorem dX6_multiplyHems_65 : decode cX6_multiplyHems 65 = .ok (.invokevirtual 278, 3) := by decide +kernel
theorem dX6_multiplyHems_68 : decode cX6_multiplyHems 68 = .ok (.iinc 2 1, 3) := by decide +kernel
theorem dX6_multiplyHems_71 : decode cX6_multiplyHems 71 = .ok (.goto (-53), 3) := by decide +kernel
theorem dX6_multiplyHems_74 : decode cX6_multiplyHems 74 = .ok (.return_, 1) := by decide +kernel
theorem dX6_allHemsCanBe_0 : decode cX6_allHemsCanBe 0 = .ok (.aload_n 0, 1) := by decide +kernel
theorem dX6_allHemsCanBe_1 : decode cX6_allHemsCanBe 1 = .ok (.getfield 37, 3) := by decide +kernel
theorem dX6_allHemsCanBe_4 : decode cX6_allHemsCanBe 4 = .ok (.aload_n 1, 1) := by decide +kernel
theorem dX6_allHemsCanBe_5 : decode cX6_allHemsCanBe 5 = .ok (.invokevirtual 265, 3) := by decide +kernel
theorem dX6_allHemsCanBe_8 : decode cX6_allHemsCanBe 8 = .ok (.iconst 0, 1) := by decide +kernel
theorem dX6_allHemsCanBe_9 : decode cX6_allHemsCanBe 9 = .ok (.istore_n 2, 1) := by decide +kernel
theorem dX6_allHemsCanBe_10 : decode cX6_allHemsCanBe 10 = .ok (.iload_n 2, 1) := by decide +kernel
theorem dX6_allHemsCanBe_11 : decode cX6_allHemsCanBe 11 = .ok (.bipush 6, 2) := by decide +kernel
theorem dX6_allHemsCanBe_13 : decode cX6_allHemsCanBe 13 = .ok (.if_icmp .ge 35, 3) := by decide +kernel
theorem dX6_allHemsCanBe_16 : decode cX6_allHemsCanBe 16 = .ok (.aload_n 0, 1) := by decide +kernel
theorem dX6_allHemsCanBe_17 : decode cX6_allHemsCanBe 17 = .ok (.getfield 44, 3) := by decide +kernel
theorem dX6_allHemsCanBe_20 : decode cX6_allHemsCanBe 20 = .ok (.aload_n 1, 1) := by decide +kernel
theorem dX6_allHemsCanBe_21 : decode cX6_allHemsCanBe 21 = .ok (.aload_n 0, 1) := by decide +kernel
theorem dX6_allHemsCanBe_22 : decode cX6_allHemsCanBe 22 = .ok (.getfield 37, 3) := by decide +kernel
theorem dX6_allHemsCanBe_25 : decode cX6_allHemsCanBe 25 = .ok (.iload_n 2, 1) := by decide +kernel
theorem dX6_allHemsCanBe_26 : decode cX6_allHemsCanBe 26 = .ok (.invokevirtual 268, 3) := by decide +kernel
theorem dX6_allHemsCanBe_29 : decode cX6_allHemsCanBe 29 = .ok (.aload_n 0, 1) := by decide +kernel
theorem dX6_allHemsCanBe_30 : decode cX6_allHemsCanBe 30 = .ok (.getfield 44, 3) := by decide +kernel
theorem dX6_allHemsCanBe_33 : decode cX6_allHemsCanBe 33 = .ok (.iconst 0, 1) := by decide +kernel
theorem dX6_allHemsCanBe_34 : decode cX6_allHemsCanBe 34 = .ok (.invokevirtual 172, 3) := by decide +kernel
theorem dX6_allHemsCanBe_37 : decode cX6_allHemsCanBe 37 = .ok (.ifCond .ne 5, 3) := by decide +kernel
theorem dX6_allHemsCanBe_40 : decode cX6_allHemsCanBe 40 = .ok (.iconst 0, 1) := by decide +kernel
theorem dX6_allHemsCanBe_41 : decode cX6_allHemsCanBe 41 = .ok (.ireturn, 1) := by decide +kernel
theorem dX6_allHemsCanBe_42 : decode cX6_allHemsCanBe 42 = .ok (.iinc 2 1, 3) := by decide +kernel
theorem dX6_allHemsCanBe_45 : decode cX6_allHemsCanBe 45 = .ok (.goto (-35), 3) := by decide +kernel
theorem dX6_allHemsCanBe_48 : decode cX6_allHemsCanBe 48 = .ok (.iconst 1, 1) := by decide +kernel
theorem dX6_allHemsCanBe_49 : decode cX6_allHemsCanBe 49 = .ok (.ireturn, 1) := by decide +kernel
theorem dX6_restsOn_0 : decode cX6_restsOn 0 = .ok (.lconst 0, 1) := by decide +kernel
theorem dX6_restsOn_1 : decode cX6_restsOn 1 = .ok (.lstore_n 2, 1) := by decide +kernel
theorem dX6_restsOn_2 : decode cX6_restsOn 2 = .ok (.iconst 0, 1) := by decide +kernel
theorem dX6_restsOn_3 : decode cX6_restsOn 3 = .ok (.istore 4, 2) := by decide +kernel
theorem dX6_restsOn_5 : decode cX6_restsOn 5 = .ok (.iload 4, 2) := by decide +kernel
theorem dX6_restsOn_7 : decode cX6_restsOn 7 = .ok (.bipush 21, 2) := by decide +kernel
theorem dX6_restsOn_9 : decode cX6_restsOn 9 = .ok (.if_icmp .ge 42, 3) := by decide +kernel
theorem dX6_restsOn_12 : decode cX6_restsOn 12 = .ok (.iload 4, 2) := by decide +kernel
theorem dX6_restsOn_14 : decode cX6_restsOn 14 = .ok (.invokestatic 281, 3) := by decide +kernel
theorem dX6_restsOn_17 : decode cX6_restsOn 17 = .ok (.aload_n 0, 1) := by decide +kernel
theorem dX6_restsOn_18 : decode cX6_restsOn 18 = .ok (.getfield 10, 3) := by decide +kernel
theorem dX6_restsOn_21 : decode cX6_restsOn 21 = .ok (.getfield 284, 3) := by decide +kernel
theorem dX6_restsOn_24 : decode cX6_restsOn 24 = .ok (.iload_n 1, 1) := by decide +kernel
theorem dX6_restsOn_25 : decode cX6_restsOn 25 = .ok (.iaload, 1) := by decide +kernel
theorem dX6_restsOn_26 : decode cX6_restsOn 26 = .ok (.if_icmp .ne 19, 3) := by decide +kernel
theorem dX6_restsOn_29 : decode cX6_restsOn 29 = .ok (.lload_n 2, 1) := by decide +kernel
theorem dX6_restsOn_30 : decode cX6_restsOn 30 = .ok (.aload_n 0, 1) := by decide +kernel
theorem dX6_restsOn_31 : decode cX6_restsOn 31 = .ok (.getfield 44, 3) := by decide +kernel
theorem dX6_restsOn_34 : decode cX6_restsOn 34 = .ok (.iload_n 1, 1) := by decide +kernel
theorem dX6_restsOn_35 : decode cX6_restsOn 35 = .ok (.bipush 8, 2) := by decide +kernel
theorem dX6_restsOn_37 : decode cX6_restsOn 37 = .ok (.irem, 1) := by decide +kernel
theorem dX6_restsOn_38 : decode cX6_restsOn 38 = .ok (.iload 4, 2) := by decide +kernel
theorem dX6_restsOn_40 : decode cX6_restsOn 40 = .ok (.invokevirtual 154, 3) := by decide +kernel
theorem dX6_restsOn_43 : decode cX6_restsOn 43 = .ok (.ladd, 1) := by decide +kernel
theorem dX6_restsOn_44 : decode cX6_restsOn 44 = .ok (.lstore_n 2, 1) := by decide +kernel
theorem dX6_restsOn_45 : decode cX6_restsOn 45 = .ok (.iinc 4 1, 3) := by decide +kernel
theorem dX6_restsOn_48 : decode cX6_restsOn 48 = .ok (.goto (-43), 3) := by decide +kernel
theorem dX6_restsOn_51 : decode cX6_restsOn 51 = .ok (.lload_n 2, 1) := by decide +kernel
theorem dX6_restsOn_52 : decode cX6_restsOn 52 = .ok (.aload_n 0, 1) := by decide +kernel
theorem dX6_restsOn_53 : decode cX6_restsOn 53 = .ok (.getfield 44, 3) := by decide +kernel
theorem dX6_restsOn_56 : decode cX6_restsOn 56 = .ok (.getfield 158, 3) := by decide +kernel
theorem dX6_restsOn_59 : decode cX6_restsOn 59 = .ok (.lcmp, 1) := by decide +kernel
theorem dX6_restsOn_60 : decode cX6_restsOn 60 = .ok (.ifCond .ne 5, 3) := by decide +kernel
theorem dX6_restsOn_63 : decode cX6_restsOn 63 = .ok (.iconst 0, 1) := by decide +kernel
theorem dX6_restsOn_64 : decode cX6_restsOn 64 = .ok (.ireturn, 1) := by decide +kernel
theorem dX6_restsOn_65 : decode cX6_restsOn 65 = .ok (.aload_n 0, 1) := by decide +kernel
theorem dX6_restsOn_66 : decode cX6_restsOn 66 = .ok (.getfield 44, 3) := by decide +kernel
theorem dX6_restsOn_69 : decode cX6_restsOn 69 = .ok (.getfield 158, 3) := by decide +kernel
theorem dX6_restsOn_72 : decode cX6_restsOn 72 = .ok (.lload_n 2, 1) := by decide +kernel
theorem dX6_restsOn_73 : decode cX6_restsOn 73 = .ok (.lsub, 1) := by decide +kernel
theorem dX6_restsOn_74 : decode cX6_restsOn 74 = .ok (.lload_n 2, 1) := by decide +kernel
theorem dX6_restsOn_75 : decode cX6_restsOn 75 = .ok (.invokestatic 287, 3) := by decide +kernel
theorem dX6_restsOn_78 : decode cX6_restsOn 78 = .ok (.ifCond .eq 5, 3) := by decide +kernel
theorem dX6_restsOn_81 : decode cX6_restsOn 81 = .ok (.iconst 1, 1) := by decide +kernel
theorem dX6_restsOn_82 : decode cX6_restsOn 82 = .ok (.ireturn, 1) := by decide +kernel
theorem dX6_restsOn_83 : decode cX6_restsOn 83 = .ok (.lload_n 2, 1) := by decide +kernel
theorem dX6_restsOn_84 : decode cX6_restsOn 84 = .ok (.lconst 0, 1) := by decide +kernel
theorem dX6_restsOn_85 : decode cX6_restsOn 85 = .ok (.lcmp, 1) := by decide +kernel
theorem dX6_restsOn_86 : decode cX6_restsOn 86 = .ok (.ifCond .eq 7, 3) := by decide +kernel
theorem dX6_restsOn_89 : decode cX6_restsOn 89 = .ok (.iconst 2, 1) := by decide +kernel
theorem dX6_restsOn_90 : decode cX6_restsOn 90 = .ok (.goto 4, 3) := by decide +kernel
theorem dX6_restsOn_93 : decode cX6_restsOn 93 = .ok (.iconst 3, 1) := by decide +kernel
theorem dX6_restsOn_94 : decode cX6_restsOn 94 = .ok (.ireturn, 1) := by decide +kernel
theorem dX6_farthestBright_0 : decode cX6_farthestBright 0 = .ok (.iconst (-1), 1) := by decide +kernel
theorem dX6_farthestBright_1 : decode cX6_farthestBright 1 = .ok (.istore_n 3, 1) := by decide +kernel
theorem dX6_farthestBright_2 : decode cX6_farthestBright 2 = .ok (.iconst 0, 1) := by decide +kernel
theorem dX6_farthestBright_3 : decode cX6_farthestBright 3 = .ok (.istore 4, 2) := by decide +kernel
theorem dX6_farthestBright_5 : decode cX6_farthestBright 5 = .ok (.iload 4, 2) := by decide +kernel
theorem dX6_farthestBright_7 : decode cX6_farthestBright 7 = .ok (.bipush 21, 2) := by decide +kernel
theorem dX6_farthestBright_9 : decode cX6_farthestBright 9 = .ok (.if_icmp .ge 62, 3) := by decide +kernel
theorem dX6_farthestBright_12 : decode cX6_farthestBright 12 = .ok (.aload_n 0, 1) := by decide +kernel
theorem dX6_farthestBright_13 : decode cX6_farthestBright 13 = .ok (.getfield 44, 3) := by decide +kernel
theorem dX6_farthestBright_16 : decode cX6_farthestBright 16 = .ok (.iload_n 1, 1) := by decide +kernel
theorem dX6_farthestBright_17 : decode cX6_farthestBright 17 = .ok (.iload 4, 2) := by decide +kernel
theorem dX6_farthestBright_19 : decode cX6_farthestBright 19 = .ok (.invokevirtual 154, 3) := by decide +kernel
theorem dX6_farthestBright_22 : decode cX6_farthestBright 22 = .ok (.lconst 0, 1) := by decide +kernel
theorem dX6_farthestBright_23 : decode cX6_farthestBright 23 = .ok (.lcmp, 1) := by decide +kernel
theorem dX6_farthestBright_24 : decode cX6_farthestBright 24 = .ok (.ifCond .eq 41, 3) := by decide +kernel
theorem dX6_farthestBright_27 : decode cX6_farthestBright 27 = .ok (.aload_n 0, 1) := by decide +kernel
theorem dX6_farthestBright_28 : decode cX6_farthestBright 28 = .ok (.getfield 10, 3) := by decide +kernel
theorem dX6_farthestBright_31 : decode cX6_farthestBright 31 = .ok (.iload 4, 2) := by decide +kernel
theorem dX6_farthestBright_33 : decode cX6_farthestBright 33 = .ok (.invokevirtual 290, 3) := by decide +kernel
theorem dX6_farthestBright_36 : decode cX6_farthestBright 36 = .ok (.istore 5, 2) := by decide +kernel
theorem dX6_farthestBright_38 : decode cX6_farthestBright 38 = .ok (.iload_n 3, 1) := by decide +kernel
theorem dX6_farthestBright_39 : decode cX6_farthestBright 39 = .ok (.iconst (-1), 1) := by decide +kernel
theorem dX6_farthestBright_40 : decode cX6_farthestBright 40 = .ok (.if_icmp .eq 22, 3) := by decide +kernel
theorem dX6_farthestBright_43 : decode cX6_farthestBright 43 = .ok (.iload_n 2, 1) := by decide +kernel
theorem dX6_farthestBright_44 : decode cX6_farthestBright 44 = .ok (.ifCond .eq 12, 3) := by decide +kernel
theorem dX6_farthestBright_47 : decode cX6_farthestBright 47 = .ok (.iload 5, 2) := by decide +kernel
theorem dX6_farthestBright_49 : decode cX6_farthestBright 49 = .ok (.iload_n 3, 1) := by decide +kernel
theorem dX6_farthestBright_50 : decode cX6_farthestBright 50 = .ok (.if_icmp .le 15, 3) := by decide +kernel
theorem dX6_farthestBright_53 : decode cX6_farthestBright 53 = .ok (.goto 9, 3) := by decide +kernel
theorem dX6_farthestBright_56 : decode cX6_farthestBright 56 = .ok (.iload 5, 2) := by decide +kernel
theorem dX6_farthestBright_58 : decode cX6_farthestBright 58 = .ok (.iload_n 3, 1) := by decide +kernel
theorem dX6_farthestBright_59 : decode cX6_farthestBright 59 = .ok (.if_icmp .ge 6, 3) := by decide +kernel
theorem dX6_farthestBright_62 : decode cX6_farthestBright 62 = .ok (.iload 5, 2) := by decide +kernel
theorem dX6_farthestBright_64 : decode cX6_farthestBright 64 = .ok (.istore_n 3, 1) := by decide +kernel
theorem dX6_farthestBright_65 : decode cX6_farthestBright 65 = .ok (.iinc 4 1, 3) := by decide +kernel
theorem dX6_farthestBright_68 : decode cX6_farthestBright 68 = .ok (.goto (-63), 3) := by decide +kernel
theorem dX6_farthestBright_71 : decode cX6_farthestBright 71 = .ok (.iload_n 3, 1) := by decide +kernel
theorem dX6_farthestBright_72 : decode cX6_farthestBright 72 = .ok (.ireturn, 1) := by decide +kernel
theorem dX6_meanBright_0 : decode cX6_meanBright 0 = .ok (.aload_n 0, 1) := by decide +kernel
theorem dX6_meanBright_1 : decode cX6_meanBright 1 = .ok (.getfield 65, 3) := by decide +kernel
theorem dX6_meanBright_4 : decode cX6_meanBright 4 = .ok (.lconst 0, 1) := by decide +kernel
theorem dX6_meanBright_5 : decode cX6_meanBright 5 = .ok (.invokevirtual 178, 3) := by decide +kernel
theorem dX6_meanBright_8 : decode cX6_meanBright 8 = .ok (.iconst 0, 1) := by decide +kernel
theorem dX6_meanBright_9 : decode cX6_meanBright 9 = .ok (.istore_n 2, 1) := by decide +kernel
theorem dX6_meanBright_10 : decode cX6_meanBright 10 = .ok (.iload_n 2, 1) := by decide +kernel
theorem dX6_meanBright_11 : decode cX6_meanBright 11 = .ok (.bipush 21, 2) := by decide +kernel
theorem dX6_meanBright_13 : decode cX6_meanBright 13 = .ok (.if_icmp .ge 33, 3) := by decide +kernel
theorem dX6_meanBright_16 : decode cX6_meanBright 16 = .ok (.aload_n 0, 1) := by decide +kernel
theorem dX6_meanBright_17 : decode cX6_meanBright 17 = .ok (.getfield 65, 3) := by decide +kernel
theorem dX6_meanBright_20 : decode cX6_meanBright 20 = .ok (.aload_n 0, 1) := by decide +kernel
theorem dX6_meanBright_21 : decode cX6_meanBright 21 = .ok (.getfield 44, 3) := by decide +kernel
theorem dX6_meanBright_24 : decode cX6_meanBright 24 = .ok (.iload_n 1, 1) := by decide +kernel
theorem dX6_meanBright_25 : decode cX6_meanBright 25 = .ok (.iload_n 2, 1) := by decide +kernel
theorem dX6_meanBright_26 : decode cX6_meanBright 26 = .ok (.invokevirtual 154, 3) := by decide +kernel
theorem dX6_meanBright_29 : decode cX6_meanBright 29 = .ok (.aload_n 0, 1) := by decide +kernel
theorem dX6_meanBright_30 : decode cX6_meanBright 30 = .ok (.getfield 10, 3) := by decide +kernel
theorem dX6_meanBright_33 : decode cX6_meanBright 33 = .ok (.iload_n 2, 1) := by decide +kernel
theorem dX6_meanBright_34 : decode cX6_meanBright 34 = .ok (.invokevirtual 290, 3) := by decide +kernel
theorem dX6_meanBright_37 : decode cX6_meanBright 37 = .ok (.invokevirtual 293, 3) := by decide +kernel
theorem dX6_meanBright_40 : decode cX6_meanBright 40 = .ok (.iinc 2 1, 3) := by decide +kernel
theorem dX6_meanBright_43 : decode cX6_meanBright 43 = .ok (.goto (-33), 3) := by decide +kernel
theorem dX6_meanBright_46 : decode cX6_meanBright 46 = .ok (.aload_n 0, 1) := by decide +kernel
theorem dX6_meanBright_47 : decode cX6_meanBright 47 = .ok (.getfield 62, 3) := by decide +kernel
theorem dX6_meanBright_50 : decode cX6_meanBright 50 = .ok (.aload_n 0, 1) := by decide +kernel
theorem dX6_meanBright_51 : decode cX6_meanBright 51 = .ok (.getfield 44, 3) := by decide +kernel
theorem dX6_meanBright_54 : decode cX6_meanBright 54 = .ok (.getfield 158, 3) := by decide +kernel
theorem dX6_meanBright_57 : decode cX6_meanBright 57 = .ok (.invokevirtual 178, 3) := by decide +kernel
theorem dX6_meanBright_60 : decode cX6_meanBright 60 = .ok (.aload_n 0, 1) := by decide +kernel
theorem dX6_meanBright_61 : decode cX6_meanBright 61 = .ok (.getfield 51, 3) := by decide +kernel
theorem dX6_meanBright_64 : decode cX6_meanBright 64 = .ok (.aload_n 0, 1) := by decide +kernel
theorem dX6_meanBright_65 : decode cX6_meanBright 65 = .ok (.getfield 65, 3) := by decide +kernel
theorem dX6_meanBright_68 : decode cX6_meanBright 68 = .ok (.aload_n 0, 1) := by decide +kernel
theorem dX6_meanBright_69 : decode cX6_meanBright 69 = .ok (.getfield 62, 3) := by decide +kernel
theorem dX6_meanBright_72 : decode cX6_meanBright 72 = .ok (.invokevirtual 194, 3) := by decide +kernel
theorem dX6_meanBright_75 : decode cX6_meanBright 75 = .ok (.iconst 1, 1) := by decide +kernel
theorem dX6_meanBright_76 : decode cX6_meanBright 76 = .ok (.ireturn, 1) := by decide +kernel
theorem dX6_within_0 : decode cX6_within 0 = .ok (.iload_n 0, 1) := by decide +kernel
theorem dX6_within_1 : decode cX6_within 1 = .ok (.iload_n 1, 1) := by decide +kernel
theorem dX6_within_2 : decode cX6_within 2 = .ok (.if_icmp .lt 12, 3) := by decide +kernel
theorem dX6_within_5 : decode cX6_within 5 = .ok (.iload_n 0, 1) := by decide +kernel
theorem dX6_within_6 : decode cX6_within 6 = .ok (.iload_n 2, 1) := by decide +kernel
theorem dX6_within_7 : decode cX6_within 7 = .ok (.if_icmp .gt 7, 3) := by decide +kernel
theorem dX6_within_10 : decode cX6_within 10 = .ok (.iconst 1, 1) := by decide +kernel
theorem dX6_within_11 : decode cX6_within 11 = .ok (.goto 4, 3) := by decide +kernel
theorem dX6_within_14 : decode cX6_within 14 = .ok (.iconst 0, 1) := by decide +kernel
theorem dX6_within_15 : decode cX6_within 15 = .ok (.ireturn, 1) := by decide +kernel
theorem dX6_isCell_0 : decode cX6_isCell 0 = .ok (.iload_n 0, 1) := by decide +kernel
theorem dX6_isCell_1 : decode cX6_isCell 1 = .ok (.iconst 0, 1) := by decide +kernel
theorem dX6_isCell_2 : decode cX6_isCell 2 = .ok (.bipush 47, 2) := by decide +kernel
theorem dX6_isCell_4 : decode cX6_isCell 4 = .ok (.invokestatic 121, 3) := by decide +kernel
theorem dX6_isCell_7 : decode cX6_isCell 7 = .ok (.ireturn, 1) := by decide +kernel
theorem dX6_sideOf_0 : decode cX6_sideOf 0 = .ok (.iload_n 0, 1) := by decide +kernel
theorem dX6_sideOf_1 : decode cX6_sideOf 1 = .ok (.bipush 8, 2) := by decide +kernel
theorem dX6_sideOf_3 : decode cX6_sideOf 3 = .ok (.irem, 1) := by decide +kernel
theorem dX6_sideOf_4 : decode cX6_sideOf 4 = .ok (.iconst 2, 1) := by decide +kernel
theorem dX6_sideOf_5 : decode cX6_sideOf 5 = .ok (.idiv, 1) := by decide +kernel
theorem dX6_sideOf_6 : decode cX6_sideOf 6 = .ok (.ireturn, 1) := by decide +kernel
theorem dX6_isHem_0 : decode cX6_isHem 0 = .ok (.iload_n 0, 1) := by decide +kernel
theorem dX6_isHem_1 : decode cX6_isHem 1 = .ok (.iconst 0, 1) := by decide +kernel
theorem dX6_isHem_2 : decode cX6_isHem 2 = .ok (.iconst 5, 1) := by decide +kernel
theorem dX6_isHem_3 : decode cX6_isHem 3 = .ok (.invokestatic 121, 3) := by decide +kernel
theorem dX6_isHem_6 : decode cX6_isHem 6 = .ok (.ireturn, 1) := by decide +kernel
theorem dX6_groundOf_0 : decode cX6_groundOf 0 = .ok (.iload_n 0, 1) := by decide +kernel
theorem dX6_groundOf_1 : decode cX6_groundOf 1 = .ok (.ifCond .gt 5, 3) := by decide +kernel
theorem dX6_groundOf_4 : decode cX6_groundOf 4 = .ok (.iconst (-1), 1) := by decide +kernel
theorem dX6_groundOf_5 : decode cX6_groundOf 5 = .ok (.ireturn, 1) := by decide +kernel
theorem dX6_groundOf_6 : decode cX6_groundOf 6 = .ok (.iload_n 0, 1) := by decide +kernel
theorem dX6_groundOf_7 : decode cX6_groundOf 7 = .ok (.iconst 4, 1) := by decide +kernel
theorem dX6_groundOf_8 : decode cX6_groundOf 8 = .ok (.if_icmp .gt 9, 3) := by decide +kernel
theorem dX6_groundOf_11 : decode cX6_groundOf 11 = .ok (.iload_n 0, 1) := by decide +kernel
theorem dX6_groundOf_12 : decode cX6_groundOf 12 = .ok (.iconst 1, 1) := by decide +kernel
theorem dX6_groundOf_13 : decode cX6_groundOf 13 = .ok (.isub, 1) := by decide +kernel
theorem dX6_groundOf_14 : decode cX6_groundOf 14 = .ok (.goto 10, 3) := by decide +kernel
theorem dX6_groundOf_17 : decode cX6_groundOf 17 = .ok (.iload_n 0, 1) := by decide +kernel
theorem dX6_groundOf_18 : decode cX6_groundOf 18 = .ok (.iconst 1, 1) := by decide +kernel
theorem dX6_groundOf_19 : decode cX6_groundOf 19 = .ok (.isub, 1) := by decide +kernel
theorem dX6_groundOf_20 : decode cX6_groundOf 20 = .ok (.iconst 4, 1) := by decide +kernel
theorem dX6_groundOf_21 : decode cX6_groundOf 21 = .ok (.isub, 1) := by decide +kernel
theorem dX6_groundOf_22 : decode cX6_groundOf 22 = .ok (.iconst 4, 1) := by decide +kernel
theorem dX6_groundOf_23 : decode cX6_groundOf 23 = .ok (.idiv, 1) := by decide +kernel
theorem dX6_groundOf_24 : decode cX6_groundOf 24 = .ok (.ireturn, 1) := by decide +kernel
theorem dX6_upperOf_0 : decode cX6_upperOf 0 = .ok (.iload_n 0, 1) := by decide +kernel
theorem dX6_upperOf_1 : decode cX6_upperOf 1 = .ok (.iconst 4, 1) := by decide +kernel
theorem dX6_upperOf_2 : decode cX6_upperOf 2 = .ok (.if_icmp .gt 7, 3) := by decide +kernel
theorem dX6_upperOf_5 : decode cX6_upperOf 5 = .ok (.iconst (-1), 1) := by decide +kernel
theorem dX6_upperOf_6 : decode cX6_upperOf 6 = .ok (.goto 10, 3) := by decide +kernel
theorem dX6_upperOf_9 : decode cX6_upperOf 9 = .ok (.iload_n 0, 1) := by decide +kernel
theorem dX6_upperOf_10 : decode cX6_upperOf 10 = .ok (.iconst 1, 1) := by decide +kernel
theorem dX6_upperOf_11 : decode cX6_upperOf 11 = .ok (.isub, 1) := by decide +kernel
theorem dX6_upperOf_12 : decode cX6_upperOf 12 = .ok (.iconst 4, 1) := by decide +kernel
theorem dX6_upperOf_13 : decode cX6_upperOf 13 = .ok (.isub, 1) := by decide +kernel
theorem dX6_upperOf_14 : decode cX6_upperOf 14 = .ok (.iconst 4, 1) := by decide +kernel
theorem dX6_upperOf_15 : decode cX6_upperOf 15 = .ok (.irem, 1) := by decide +kernel
theorem dX6_upperOf_16 : decode cX6_upperOf 16 = .ok (.ireturn, 1) := by decide +kernel
theorem dX6_topOf_0 : decode cX6_topOf 0 = .ok (.iload_n 0, 1) := by decide +kernel
theorem dX6_topOf_1 : decode cX6_topOf 1 = .ok (.invokestatic 166, 3) := by decide +kernel
theorem dX6_topOf_4 : decode cX6_topOf 4 = .ok (.istore_n 1, 1) := by decide +kernel
theorem dX6_topOf_5 : decode cX6_topOf 5 = .ok (.iload_n 1, 1) := by decide +kernel
theorem dX6_topOf_6 : decode cX6_topOf 6 = .ok (.iconst (-1), 1) := by decide +kernel
theorem dX6_topOf_7 : decode cX6_topOf 7 = .ok (.if_icmp .ne 10, 3) := by decide +kernel
theorem dX6_topOf_10 : decode cX6_topOf 10 = .ok (.iload_n 0, 1) := by decide +kernel
theorem dX6_topOf_11 : decode cX6_topOf 11 = .ok (.invokestatic 297, 3) := by decide +kernel
theorem dX6_topOf_14 : decode cX6_topOf 14 = .ok (.goto 4, 3) := by decide +kernel
theorem dX6_topOf_17 : decode cX6_topOf 17 = .ok (.iload_n 1, 1) := by decide +kernel
theorem dX6_topOf_18 : decode cX6_topOf 18 = .ok (.ireturn, 1) := by decide +kernel
theorem dX6_isLess_0 : decode cX6_isLess 0 = .ok (.lload_n 0, 1) := by decide +kernel
theorem dX6_isLess_1 : decode cX6_isLess 1 = .ok (.ldc2_w 300, 3) := by decide +kernel
theorem dX6_isLess_4 : decode cX6_isLess 4 = .ok (.lxor, 1) := by decide +kernel
theorem dX6_isLess_5 : decode cX6_isLess 5 = .ok (.lload_n 2, 1) := by decide +kernel
theorem dX6_isLess_6 : decode cX6_isLess 6 = .ok (.ldc2_w 300, 3) := by decide +kernel
theorem dX6_isLess_9 : decode cX6_isLess 9 = .ok (.lxor, 1) := by decide +kernel
theorem dX6_isLess_10 : decode cX6_isLess 10 = .ok (.lcmp, 1) := by decide +kernel
theorem dX6_isLess_11 : decode cX6_isLess 11 = .ok (.ifCond .ge 7, 3) := by decide +kernel
theorem dX6_isLess_14 : decode cX6_isLess 14 = .ok (.iconst 1, 1) := by decide +kernel
theorem dX6_isLess_15 : decode cX6_isLess 15 = .ok (.goto 4, 3) := by decide +kernel
theorem dX6_isLess_18 : decode cX6_isLess 18 = .ok (.iconst 0, 1) := by decide +kernel
theorem dX6_isLess_19 : decode cX6_isLess 19 = .ok (.ireturn, 1) := by decide +kernel
theorem dX6_isLess__0 : decode cX6_isLess_ 0 = .ok (.lload_n 0, 1) := by decide +kernel
theorem dX6_isLess__1 : decode cX6_isLess_ 1 = .ok (.lload_n 2, 1) := by decide +kernel
theorem dX6_isLess__2 : decode cX6_isLess_ 2 = .ok (.invokestatic 302, 3) := by decide +kernel
theorem dX6_isLess__5 : decode cX6_isLess_ 5 = .ok (.lstore 8, 2) := by decide +kernel
theorem dX6_isLess__7 : decode cX6_isLess_ 7 = .ok (.lload 4, 2) := by decide +kernel
theorem dX6_isLess__9 : decode cX6_isLess_ 9 = .ok (.lload 6, 2) := by decide +kernel
theorem dX6_isLess__11 : decode cX6_isLess_ 11 = .ok (.invokestatic 302, 3) := by decide +kernel
theorem dX6_isLess__14 : decode cX6_isLess_ 14 = .ok (.lstore 10, 2) := by decide +kernel
theorem dX6_isLess__16 : decode cX6_isLess_ 16 = .ok (.lload 8, 2) := by decide +kernel
theorem dX6_isLess__18 : decode cX6_isLess_ 18 = .ok (.lload 10, 2) := by decide +kernel
theorem dX6_isLess__20 : decode cX6_isLess_ 20 = .ok (.lcmp, 1) := by decide +kernel
theorem dX6_isLess__21 : decode cX6_isLess_ 21 = .ok (.ifCond .ne 17, 3) := by decide +kernel
theorem dX6_isLess__24 : decode cX6_isLess_ 24 = .ok (.lload_n 0, 1) := by decide +kernel
theorem dX6_isLess__25 : decode cX6_isLess_ 25 = .ok (.lload_n 2, 1) := by decide +kernel
theorem dX6_isLess__26 : decode cX6_isLess_ 26 = .ok (.lmul, 1) := by decide +kernel
theorem dX6_isLess__27 : decode cX6_isLess_ 27 = .ok (.lload 4, 2) := by decide +kernel
theorem dX6_isLess__29 : decode cX6_isLess_ 29 = .ok (.lload 6, 2) := by decide +kernel
theorem dX6_isLess__31 : decode cX6_isLess_ 31 = .ok (.lmul, 1) := by decide +kernel
theorem dX6_isLess__32 : decode cX6_isLess_ 32 = .ok (.invokestatic 287, 3) := by decide +kernel
theorem dX6_isLess__35 : decode cX6_isLess_ 35 = .ok (.goto 10, 3) := by decide +kernel
theorem dX6_isLess__38 : decode cX6_isLess_ 38 = .ok (.lload 8, 2) := by decide +kernel
theorem dX6_isLess__40 : decode cX6_isLess_ 40 = .ok (.lload 10, 2) := by decide +kernel
theorem dX6_isLess__42 : decode cX6_isLess_ 42 = .ok (.invokestatic 287, 3) := by decide +kernel
theorem dX6_isLess__45 : decode cX6_isLess_ 45 = .ok (.ireturn, 1) := by decide +kernel
theorem dX6_highBits_0 : decode cX6_highBits 0 = .ok (.ldc2_w 306, 3) := by decide +kernel
theorem dX6_highBits_3 : decode cX6_highBits 3 = .ok (.lstore 4, 2) := by decide +kernel
theorem dX6_highBits_5 : decode cX6_highBits 5 = .ok (.lload_n 0, 1) := by decide +kernel
theorem dX6_highBits_6 : decode cX6_highBits 6 = .ok (.bipush 32, 2) := by decide +kernel
theorem dX6_highBits_8 : decode cX6_highBits 8 = .ok (.lushr, 1) := by decide +kernel
theorem dX6_highBits_9 : decode cX6_highBits 9 = .ok (.lload_n 2, 1) := by decide +kernel
theorem dX6_highBits_10 : decode cX6_highBits 10 = .ok (.lload 4, 2) := by decide +kernel
theorem dX6_highBits_12 : decode cX6_highBits 12 = .ok (.land, 1) := by decide +kernel
theorem dX6_highBits_13 : decode cX6_highBits 13 = .ok (.lmul, 1) := by decide +kernel
theorem dX6_highBits_14 : decode cX6_highBits 14 = .ok (.lload_n 0, 1) := by decide +kernel
theorem dX6_highBits_15 : decode cX6_highBits 15 = .ok (.lload 4, 2) := by decide +kernel
theorem dX6_highBits_17 : decode cX6_highBits 17 = .ok (.land, 1) := by decide +kernel
theorem dX6_highBits_18 : decode cX6_highBits 18 = .ok (.lload_n 2, 1) := by decide +kernel
theorem dX6_highBits_19 : decode cX6_highBits 19 = .ok (.lload 4, 2) := by decide +kernel
theorem dX6_highBits_21 : decode cX6_highBits 21 = .ok (.land, 1) := by decide +kernel
theorem dX6_highBits_22 : decode cX6_highBits 22 = .ok (.lmul, 1) := by decide +kernel
theorem dX6_highBits_23 : decode cX6_highBits 23 = .ok (.bipush 32, 2) := by decide +kernel
theorem dX6_highBits_25 : decode cX6_highBits 25 = .ok (.lushr, 1) := by decide +kernel
theorem dX6_highBits_26 : decode cX6_highBits 26 = .ok (.ladd, 1) := by decide +kernel
theorem dX6_highBits_27 : decode cX6_highBits 27 = .ok (.lstore 6, 2) := by decide +kernel
theorem dX6_highBits_29 : decode cX6_highBits 29 = .ok (.lload_n 0, 1) := by decide +kernel
theorem dX6_highBits_30 : decode cX6_highBits 30 = .ok (.lload 4, 2) := by decide +kernel
theorem dX6_highBits_32 : decode cX6_highBits 32 = .ok (.land, 1) := by decide +kernel
theorem dX6_highBits_33 : decode cX6_highBits 33 = .ok (.lload_n 2, 1) := by decide +kernel
theorem dX6_highBits_34 : decode cX6_highBits 34 = .ok (.bipush 32, 2) := by decide +kernel
theorem dX6_highBits_36 : decode cX6_highBits 36 = .ok (.lushr, 1) := by decide +kernel
theorem dX6_highBits_37 : decode cX6_highBits 37 = .ok (.lmul, 1) := by decide +kernel
theorem dX6_highBits_38 : decode cX6_highBits 38 = .ok (.lload 6, 2) := by decide +kernel
theorem dX6_highBits_40 : decode cX6_highBits 40 = .ok (.lload 4, 2) := by decide +kernel
theorem dX6_highBits_42 : decode cX6_highBits 42 = .ok (.land, 1) := by decide +kernel
theorem dX6_highBits_43 : decode cX6_highBits 43 = .ok (.ladd, 1) := by decide +kernel
theorem dX6_highBits_44 : decode cX6_highBits 44 = .ok (.lstore 8, 2) := by decide +kernel
theorem dX6_highBits_46 : decode cX6_highBits 46 = .ok (.lload_n 0, 1) := by decide +kernel
theorem dX6_highBits_47 : decode cX6_highBits 47 = .ok (.bipush 32, 2) := by decide +kernel
theorem dX6_highBits_49 : decode cX6_highBits 49 = .ok (.lushr, 1) := by decide +kernel
theorem dX6_highBits_50 : decode cX6_highBits 50 = .ok (.lload_n 2, 1) := by decide +kernel
theorem dX6_highBits_51 : decode cX6_highBits 51 = .ok (.bipush 32, 2) := by decide +kernel
theorem dX6_highBits_53 : decode cX6_highBits 53 = .ok (.lushr, 1) := by decide +kernel
theorem dX6_highBits_54 : decode cX6_highBits 54 = .ok (.lmul, 1) := by decide +kernel
theorem dX6_highBits_55 : decode cX6_highBits 55 = .ok (.lload 6, 2) := by decide +kernel
theorem dX6_highBits_57 : decode cX6_highBits 57 = .ok (.bipush 32, 2) := by decide +kernel
theorem dX6_highBits_59 : decode cX6_highBits 59 = .ok (.lushr, 1) := by decide +kernel
theorem dX6_highBits_60 : decode cX6_highBits 60 = .ok (.ladd, 1) := by decide +kernel
theorem dX6_highBits_61 : decode cX6_highBits 61 = .ok (.lload 8, 2) := by decide +kernel
theorem dX6_highBits_63 : decode cX6_highBits 63 = .ok (.bipush 32, 2) := by decide +kernel
theorem dX6_highBits_65 : decode cX6_highBits 65 = .ok (.lushr, 1) := by decide +kernel
theorem dX6_highBits_66 : decode cX6_highBits 66 = .ok (.ladd, 1) := by decide +kernel
theorem dX6_highBits_67 : decode cX6_highBits 67 = .ok (.lreturn, 1) := by decide +kernel
theorem dX7_in_0 : decode cX7_in 0 = .ok (.lload_n 0, 1) := by decide +kernel
theorem dX7_in_1 : decode cX7_in 1 = .ok (.lload_n 2, 1) := by decide +kernel
theorem dX7_in_2 : decode cX7_in 2 = .ok (.lcmp, 1) := by decide +kernel
theorem dX7_in_3 : decode cX7_in 3 = .ok (.ifCond .lt 14, 3) := by decide +kernel
theorem dX7_in_6 : decode cX7_in 6 = .ok (.lload_n 0, 1) := by decide +kernel
theorem dX7_in_7 : decode cX7_in 7 = .ok (.lload 4, 2) := by decide +kernel
theorem dX7_in_9 : decode cX7_in 9 = .ok (.lcmp, 1) := by decide +kernel
theorem dX7_in_10 : decode cX7_in 10 = .ok (.ifCond .gt 7, 3) := by decide +kernel
theorem dX7_in_13 : decode cX7_in 13 = .ok (.iconst 1, 1) := by decide +kernel
theorem dX7_in_14 : decode cX7_in 14 = .ok (.goto 4, 3) := by decide +kernel
theorem dX7_in_17 : decode cX7_in 17 = .ok (.iconst 0, 1) := by decide +kernel
theorem dX7_in_18 : decode cX7_in 18 = .ok (.ireturn, 1) := by decide +kernel
theorem dX7_init_0 : decode cX7_init 0 = .ok (.aload_n 0, 1) := by decide +kernel
theorem dX7_init_1 : decode cX7_init 1 = .ok (.invokespecial 1, 3) := by decide +kernel
theorem dX7_init_4 : decode cX7_init 4 = .ok (.aload_n 0, 1) := by decide +kernel
theorem dX7_init_5 : decode cX7_init 5 = .ok (.sipush 210, 3) := by decide +kernel
theorem dX7_init_8 : decode cX7_init 8 = .ok (.newarray .int, 2) := by decide +kernel
theorem dX7_init_10 : decode cX7_init 10 = .ok (.putfield 7, 3) := by decide +kernel
theorem dX7_init_13 : decode cX7_init 13 = .ok (.aload_n 0, 1) := by decide +kernel
theorem dX7_init_14 : decode cX7_init 14 = .ok (.sipush 420, 3) := by decide +kernel
theorem dX7_init_17 : decode cX7_init 17 = .ok (.newarray .int, 2) := by decide +kernel
theorem dX7_init_19 : decode cX7_init 19 = .ok (.putfield 13, 3) := by decide +kernel
theorem dX7_init_22 : decode cX7_init 22 = .ok (.aload_n 0, 1) := by decide +kernel
theorem dX7_init_23 : decode cX7_init 23 = .ok (.iconst 2, 1) := by decide +kernel
theorem dX7_init_24 : decode cX7_init 24 = .ok (.newarray .boolean, 2) := by decide +kernel
theorem dX7_init_26 : decode cX7_init 26 = .ok (.putfield 16, 3) := by decide +kernel
theorem dX7_init_29 : decode cX7_init 29 = .ok (.aload_n 0, 1) := by decide +kernel
theorem dX7_init_30 : decode cX7_init 30 = .ok (.sipush 210, 3) := by decide +kernel
theorem dX7_init_33 : decode cX7_init 33 = .ok (.newarray .int, 2) := by decide +kernel
theorem dX7_init_35 : decode cX7_init 35 = .ok (.putfield 20, 3) := by decide +kernel
theorem dX7_init_38 : decode cX7_init 38 = .ok (.aload_n 0, 1) := by decide +kernel
theorem dX7_init_39 : decode cX7_init 39 = .ok (.iconst 3, 1) := by decide +kernel
theorem dX7_init_40 : decode cX7_init 40 = .ok (.newarray .int, 2) := by decide +kernel
theorem dX7_init_42 : decode cX7_init 42 = .ok (.putfield 23, 3) := by decide +kernel
theorem dX7_init_45 : decode cX7_init 45 = .ok (.aload_n 0, 1) := by decide +kernel
theorem dX7_init_46 : decode cX7_init 46 = .ok (.sipush 14400, 3) := by decide +kernel
theorem dX7_init_49 : decode cX7_init 49 = .ok (.newarray .int, 2) := by decide +kernel
theorem dX7_init_51 : decode cX7_init 51 = .ok (.putfield 26, 3) := by decide +kernel
theorem dX7_init_54 : decode cX7_init 54 = .ok (.aload_n 0, 1) := by decide +kernel
theorem dX7_init_55 : decode cX7_init 55 = .ok (.sipush 360, 3) := by decide +kernel
theorem dX7_init_58 : decode cX7_init 58 = .ok (.newarray .int, 2) := by decide +kernel
theorem dX7_init_60 : decode cX7_init 60 = .ok (.putfield 29, 3) := by decide +kernel
theorem dX7_init_63 : decode cX7_init 63 = .ok (.aload_n 0, 1) := by decide +kernel
theorem dX7_init_64 : decode cX7_init 64 = .ok (.sipush 300, 3) := by decide +kernel
theorem dX7_init_67 : decode cX7_init 67 = .ok (.newarray .int, 2) := by decide +kernel
theorem dX7_init_69 : decode cX7_init 69 = .ok (.putfield 32, 3) := by decide +kernel
theorem dX7_init_72 : decode cX7_init 72 = .ok (.aload_n 0, 1) := by decide +kernel
theorem dX7_init_73 : decode cX7_init 73 = .ok (.sipush 300, 3) := by decide +kernel
theorem dX7_init_76 : decode cX7_init 76 = .ok (.newarray .int, 2) := by decide +kernel
theorem dX7_init_78 : decode cX7_init 78 = .ok (.putfield 35, 3) := by decide +kernel
theorem dX7_init_81 : decode cX7_init 81 = .ok (.aload_n 0, 1) := by decide +kernel
theorem dX7_init_82 : decode cX7_init 82 = .ok (.sipush 1200, 3) := by decide +kernel
theorem dX7_init_85 : decode cX7_init 85 = .ok (.newarray .int, 2) := by decide +kernel
theorem dX7_init_87 : decode cX7_init 87 = .ok (.putfield 38, 3) := by decide +kernel
theorem dX7_init_90 : decode cX7_init 90 = .ok (.aload_n 0, 1) := by decide +kernel
theorem dX7_init_91 : decode cX7_init 91 = .ok (.sipush 168, 3) := by decide +kernel
theorem dX7_init_94 : decode cX7_init 94 = .ok (.newarray .int, 2) := by decide +kernel
theorem dX7_init_96 : decode cX7_init 96 = .ok (.putfield 41, 3) := by decide +kernel
theorem dX7_init_99 : decode cX7_init 99 = .ok (.aload_n 0, 1) := by decide +kernel
theorem dX7_init_100 : decode cX7_init 100 = .ok (.sipush 168, 3) := by decide +kernel
theorem dX7_init_103 : decode cX7_init 103 = .ok (.newarray .int, 2) := by decide +kernel
theorem dX7_init_105 : decode cX7_init 105 = .ok (.putfield 44, 3) := by decide +kernel
theorem dX7_init_108 : decode cX7_init 108 = .ok (.aload_n 0, 1) := by decide +kernel
theorem dX7_init_109 : decode cX7_init 109 = .ok (.bipush 8, 2) := by decide +kernel
theorem dX7_init_111 : decode cX7_init 111 = .ok (.newarray .int, 2) := by decide +kernel
theorem dX7_init_113 : decode cX7_init 113 = .ok (.putfield 47, 3) := by decide +kernel
theorem dX7_init_116 : decode cX7_init 116 = .ok (.aload_n 0, 1) := by decide +kernel
theorem dX7_init_117 : decode cX7_init 117 = .ok (.sipush 168, 3) := by decide +kernel
theorem dX7_init_120 : decode cX7_init 120 = .ok (.newarray .boolean, 2) := by decide +kernel
theorem dX7_init_122 : decode cX7_init 122 = .ok (.putfield 50, 3) := by decide +kernel
theorem dX7_init_125 : decode cX7_init 125 = .ok (.aload_n 0, 1) := by decide +kernel
theorem dX7_init_126 : decode cX7_init 126 = .ok (.invokevirtual 53, 3) := by decide +kernel
theorem dX7_init_129 : decode cX7_init 129 = .ok (.aload_n 0, 1) := by decide +kernel
theorem dX7_init_130 : decode cX7_init 130 = .ok (.iconst 1, 1) := by decide +kernel
theorem dX7_init_131 : decode cX7_init 131 = .ok (.lconst 1, 1) := by decide +kernel
theorem dX7_init_132 : decode cX7_init 132 = .ok (.invokevirtual 56, 3) := by decide +kernel
theorem dX7_init_135 : decode cX7_init 135 = .ok (.return_, 1) := by decide +kernel
theorem dX7_begins_0 : decode cX7_begins 0 = .ok (.aload_n 0, 1) := by decide +kernel
theorem dX7_begins_1 : decode cX7_begins 1 = .ok (.getfield 7, 3) := by decide +kernel
theorem dX7_begins_4 : decode cX7_begins 4 = .ok (.iconst 0, 1) := by decide +kernel
theorem dX7_begins_5 : decode cX7_begins 5 = .ok (.iconst 0, 1) := by decide +kernel
theorem dX7_begins_6 : decode cX7_begins 6 = .ok (.iastore, 1) := by decide +kernel
theorem dX7_begins_7 : decode cX7_begins 7 = .ok (.aload_n 0, 1) := by decide +kernel
theorem dX7_begins_8 : decode cX7_begins 8 = .ok (.getfield 7, 3) := by decide +kernel
theorem dX7_begins_11 : decode cX7_begins 11 = .ok (.iconst 1, 1) := by decide +kernel
theorem dX7_begins_12 : decode cX7_begins 12 = .ok (.iconst 0, 1) := by decide +kernel
theorem dX7_begins_13 : decode cX7_begins 13 = .ok (.iastore, 1) := by decide +kernel
theorem dX7_begins_14 : decode cX7_begins 14 = .ok (.iconst 0, 1) := by decide +kernel
theorem dX7_begins_15 : decode cX7_begins 15 = .ok (.istore_n 1, 1) := by decide +kernel
theorem dX7_begins_16 : decode cX7_begins 16 = .ok (.iload_n 1, 1) := by decide +kernel
theorem dX7_begins_17 : decode cX7_begins 17 = .ok (.iconst 4, 1) := by decide +kernel
theorem dX7_begins_18 : decode cX7_begins 18 = .ok (.if_icmp .ge 18, 3) := by decide +kernel
theorem dX7_begins_21 : decode cX7_begins 21 = .ok (.aload_n 0, 1) := by decide +kernel
theorem dX7_begins_22 : decode cX7_begins 22 = .ok (.getfield 7, 3) := by decide +kernel
theorem dX7_begins_25 : decode cX7_begins 25 = .ok (.iconst 2, 1) := by decide +kernel
theorem dX7_begins_26 : decode cX7_begins 26 = .ok (.iload_n 1, 1) := by decide +kernel
theorem dX7_begins_27 : decode cX7_begins 27 = .ok (.iadd, 1) := by decide +kernel
theorem dX7_begins_28 : decode cX7_begins 28 = .ok (.iconst 1, 1) := by decide +kernel
theorem dX7_begins_29 : decode cX7_begins 29 = .ok (.iastore, 1) := by decide +kernel
theorem dX7_begins_30 : decode cX7_begins 30 = .ok (.iinc 1 1, 3) := by decide +kernel
theorem dX7_begins_33 : decode cX7_begins 33 = .ok (.goto (-17), 3) := by decide +kernel
theorem dX7_begins_36 : decode cX7_begins 36 = .ok (.aload_n 0, 1) := by decide +kernel
theorem dX7_begins_37 : decode cX7_begins 37 = .ok (.getfield 7, 3) := by decide +kernel
theorem dX7_begins_40 : decode cX7_begins 40 = .ok (.bipush 6, 2) := by decide +kernel
theorem dX7_begins_42 : decode cX7_begins 42 = .ok (.bipush 10, 2) := by decide +kernel
theorem dX7_begins_44 : decode cX7_begins 44 = .ok (.iastore, 1) := by decide +kernel
theorem dX7_begins_45 : decode cX7_begins 45 = .ok (.aload_n 0, 1) := by decide +kernel
theorem dX7_begins_46 : decode cX7_begins 46 = .ok (.getfield 7, 3) := by decide +kernel
theorem dX7_begins_49 : decode cX7_begins 49 = .ok (.bipush 7, 2) := by decide +kernel
theorem dX7_begins_51 : decode cX7_begins 51 = .ok (.iconst 0, 1) := by decide +kernel
theorem dX7_begins_52 : decode cX7_begins 52 = .ok (.iastore, 1) := by decide +kernel
theorem dX7_begins_53 : decode cX7_begins 53 = .ok (.aload_n 0, 1) := by decide +kernel
theorem dX7_begins_54 : decode cX7_begins 54 = .ok (.getfield 7, 3) := by decide +kernel
theorem dX7_begins_57 : decode cX7_begins 57 = .ok (.bipush 8, 2) := by decide +kernel
theorem dX7_begins_59 : decode cX7_begins 59 = .ok (.iconst 3, 1) := by decide +kernel
theorem dX7_begins_60 : decode cX7_begins 60 = .ok (.iastore, 1) := by decide +kernel
theorem dX7_begins_61 : decode cX7_begins 61 = .ok (.iconst 0, 1) := by decide +kernel
theorem dX7_begins_62 : decode cX7_begins 62 = .ok (.istore_n 1, 1) := by decide +kernel
theorem dX7_begins_63 : decode cX7_begins 63 = .ok (.iload_n 1, 1) := by decide +kernel
theorem dX7_begins_64 : decode cX7_begins 64 = .ok (.bipush 21, 2) := by decide +kernel
theorem dX7_begins_66 : decode cX7_begins 66 = .ok (.if_icmp .ge 19, 3) := by decide +kernel
theorem dX7_begins_69 : decode cX7_begins 69 = .ok (.aload_n 0, 1) := by decide +kernel
theorem dX7_begins_70 : decode cX7_begins 70 = .ok (.getfield 7, 3) := by decide +kernel
theorem dX7_begins_73 : decode cX7_begins 73 = .ok (.bipush 10, 2) := by decide +kernel
theorem dX7_begins_75 : decode cX7_begins 75 = .ok (.iload_n 1, 1) := by decide +kernel
theorem dX7_begins_76 : decode cX7_begins 76 = .ok (.iadd, 1) := by decide +kernel
theorem dX7_begins_77 : decode cX7_begins 77 = .ok (.iconst 1, 1) := by decide +kernel
theorem dX7_begins_78 : decode cX7_begins 78 = .ok (.iastore, 1) := by decide +kernel
theorem dX7_begins_79 : decode cX7_begins 79 = .ok (.iinc 1 1, 3) := by decide +kernel
theorem dX7_begins_82 : decode cX7_begins 82 = .ok (.goto (-19), 3) := by decide +kernel
theorem dX7_begins_85 : decode cX7_begins 85 = .ok (.iconst 0, 1) := by decide +kernel
theorem dX7_begins_86 : decode cX7_begins 86 = .ok (.istore_n 1, 1) := by decide +kernel
theorem dX7_begins_87 : decode cX7_begins 87 = .ok (.iload_n 1, 1) := by decide +kernel
theorem dX7_begins_88 : decode cX7_begins 88 = .ok (.bipush 48, 2) := by decide +kernel
theorem dX7_begins_90 : decode cX7_begins 90 = .ok (.if_icmp .ge 20, 3) := by decide +kernel
theorem dX7_begins_93 : decode cX7_begins 93 = .ok (.aload_n 0, 1) := by decide +kernel
theorem dX7_begins_94 : decode cX7_begins 94 = .ok (.getfield 7, 3) := by decide +kernel
theorem dX7_begins_97 : decode cX7_begins 97 = .ok (.sipush 150, 3) := by decide +kernel
theorem dX7_begins_100 : decode cX7_begins 100 = .ok (.iload_n 1, 1) := by decide +kernel
theorem dX7_begins_101 : decode cX7_begins 101 = .ok (.iadd, 1) := by decide +kernel
theorem dX7_begins_102 : decode cX7_begins 102 = .ok (.iconst (-1), 1) := by decide +kernel
theorem dX7_begins_103 : decode cX7_begins 103 = .ok (.iastore, 1) := by decide +kernel
theorem dX7_begins_104 : decode cX7_begins 104 = .ok (.iinc 1 1, 3) := by decide +kernel
theorem dX7_begins_107 : decode cX7_begins 107 = .ok (.goto (-20), 3) := by decide +kernel
theorem dX7_begins_110 : decode cX7_begins 110 = .ok (.return_, 1) := by decide +kernel
theorem dX7_refuses_0 : decode cX7_refuses 0 = .ok (.aload_n 0, 1) := by decide +kernel
theorem dX7_refuses_1 : decode cX7_refuses 1 = .ok (.getfield 23, 3) := by decide +kernel
theorem dX7_refuses_4 : decode cX7_refuses 4 = .ok (.iload_n 1, 1) := by decide +kernel
theorem dX7_refuses_5 : decode cX7_refuses 5 = .ok (.dup2, 1) := by decide +kernel
theorem dX7_refuses_6 : decode cX7_refuses 6 = .ok (.iaload, 1) := by decide +kernel
theorem dX7_refuses_7 : decode cX7_refuses 7 = .ok (.aload_n 0, 1) := by decide +kernel
theorem dX7_refuses_8 : decode cX7_refuses 8 = .ok (.getfield 60, 3) := by decide +kernel
theorem dX7_refuses_11 : decode cX7_refuses 11 = .ok (.ifCond .eq 7, 3) := by decide +kernel
theorem dX7_refuses_14 : decode cX7_refuses 14 = .ok (.iconst 0, 1) := by decide +kernel
theorem dX7_refuses_15 : decode cX7_refuses 15 = .ok (.goto 4, 3) := by decide +kernel
theorem dX7_refuses_18 : decode cX7_refuses 18 = .ok (.iconst 1, 1) := by decide +kernel
theorem dX7_refuses_19 : decode cX7_refuses 19 = .ok (.iadd, 1) := by decide +kernel
theorem dX7_refuses_20 : decode cX7_refuses 20 = .ok (.iastore, 1) := by decide +kernel
theorem dX7_refuses_21 : decode cX7_refuses 21 = .ok (.iload_n 2, 1) := by decide +kernel
theorem dX7_refuses_22 : decode cX7_refuses 22 = .ok (.ireturn, 1) := by decide +kernel
theorem dX7_bad_0 : decode cX7_bad 0 = .ok (.aload_n 0, 1) := by decide +kernel
theorem dX7_bad_1 : decode cX7_bad 1 = .ok (.iconst 0, 1) := by decide +kernel
theorem dX7_bad_2 : decode cX7_bad 2 = .ok (.bipush (-2), 2) := by decide +kernel
theorem dX7_bad_4 : decode cX7_bad 4 = .ok (.invokevirtual 64, 3) := by decide +kernel
theorem dX7_bad_7 : decode cX7_bad 7 = .ok (.ireturn, 1) := by decide +kernel
theorem dX7_no_0 : decode cX7_no 0 = .ok (.aload_n 0, 1) := by decide +kernel
theorem dX7_no_1 : decode cX7_no 1 = .ok (.iconst 1, 1) := by decide +kernel
theorem dX7_no_2 : decode cX7_no 2 = .ok (.bipush (-3), 2) := by decide +kernel
theorem dX7_no_4 : decode cX7_no 4 = .ok (.invokevirtual 64, 3) := by decide +kernel
theorem dX7_no_7 : decode cX7_no 7 = .ok (.ireturn, 1) := by decide +kernel
theorem dX7_full_0 : decode cX7_full 0 = .ok (.aload_n 0, 1) := by decide +kernel
theorem dX7_full_1 : decode cX7_full 1 = .ok (.iconst 2, 1) := by decide +kernel
theorem dX7_full_2 : decode cX7_full 2 = .ok (.bipush (-4), 2) := by decide +kernel
theorem dX7_full_4 : decode cX7_full 4 = .ok (.invokevirtual 64, 3) := by decide +kernel
theorem dX7_full_7 : decode cX7_full 7 = .ok (.ireturn, 1) := by decide +kernel
theorem dX7_trims_0 : decode cX7_trims 0 = .ok (.aload_n 0, 1) := by decide +kernel
theorem dX7_trims_1 : decode cX7_trims 1 = .ok (.getfield 29, 3) := by decide +kernel
theorem dX7_trims_4 : decode cX7_trims 4 = .ok (.iload_n 1, 1) := by decide +kernel
theorem dX7_trims_5 : decode cX7_trims 5 = .ok (.iaload, 1) := by decide +kernel
theorem dX7_trims_6 : decode cX7_trims 6 = .ok (.ifCond .le 37, 3) := by decide +kernel
theorem dX7_trims_9 : decode cX7_trims 9 = .ok (.aload_n 0, 1) := by decide +kernel
theorem dX7_trims_10 : decode cX7_trims 10 = .ok (.getfield 26, 3) := by decide +kernel
theorem dX7_trims_13 : decode cX7_trims 13 = .ok (.bipush 40, 2) := by decide +kernel
theorem dX7_trims_15 : decode cX7_trims 15 = .ok (.iload_n 1, 1) := by decide +kernel
theorem dX7_trims_16 : decode cX7_trims 16 = .ok (.imul, 1) := by decide +kernel
theorem dX7_trims_17 : decode cX7_trims 17 = .ok (.aload_n 0, 1) := by decide +kernel
theorem dX7_trims_18 : decode cX7_trims 18 = .ok (.getfield 29, 3) := by decide +kernel
theorem dX7_trims_21 : decode cX7_trims 21 = .ok (.iload_n 1, 1) := by decide +kernel
theorem dX7_trims_22 : decode cX7_trims 22 = .ok (.iaload, 1) := by decide +kernel
theorem dX7_trims_23 : decode cX7_trims 23 = .ok (.iadd, 1) := by decide +kernel
theorem dX7_trims_24 : decode cX7_trims 24 = .ok (.iconst 1, 1) := by decide +kernel
theorem dX7_trims_25 : decode cX7_trims 25 = .ok (.isub, 1) := by decide +kernel
theorem dX7_trims_26 : decode cX7_trims 26 = .ok (.iaload, 1) := by decide +kernel
theorem dX7_trims_27 : decode cX7_trims 27 = .ok (.ifCond .ne 16, 3) := by decide +kernel
theorem dX7_trims_30 : decode cX7_trims 30 = .ok (.aload_n 0, 1) := by decide +kernel
theorem dX7_trims_31 : decode cX7_trims 31 = .ok (.getfield 29, 3) := by decide +kernel
theorem dX7_trims_34 : decode cX7_trims 34 = .ok (.iload_n 1, 1) := by decide +kernel
theorem dX7_trims_35 : decode cX7_trims 35 = .ok (.dup2, 1) := by decide +kernel
theorem dX7_trims_36 : decode cX7_trims 36 = .ok (.iaload, 1) := by decide +kernel
theorem dX7_trims_37 : decode cX7_trims 37 = .ok (.iconst 1, 1) := by decide +kernel
theorem dX7_trims_38 : decode cX7_trims 38 = .ok (.isub, 1) := by decide +kernel
theorem dX7_trims_39 : decode cX7_trims 39 = .ok (.iastore, 1) := by decide +kernel
theorem dX7_trims_40 : decode cX7_trims 40 = .ok (.goto (-40), 3) := by decide +kernel
theorem dX7_trims_43 : decode cX7_trims 43 = .ok (.return_, 1) := by decide +kernel
theorem dX7_sets_0 : decode cX7_sets 0 = .ok (.iconst 0, 1) := by decide +kernel
theorem dX7_sets_1 : decode cX7_sets 1 = .ok (.istore 4, 2) := by decide +kernel
theorem dX7_sets_3 : decode cX7_sets 3 = .ok (.iload 4, 2) := by decide +kernel
theorem dX7_sets_5 : decode cX7_sets 5 = .ok (.bipush 40, 2) := by decide +kernel
theorem dX7_sets_7 : decode cX7_sets 7 = .ok (.if_icmp .ge 43, 3) := by decide +kernel
theorem dX7_sets_10 : decode cX7_sets 10 = .ok (.aload_n 0, 1) := by decide +kernel
theorem dX7_sets_11 : decode cX7_sets 11 = .ok (.getfield 26, 3) := by decide +kernel
theorem dX7_sets_14 : decode cX7_sets 14 = .ok (.bipush 40, 2) := by decide +kernel
theorem dX7_sets_16 : decode cX7_sets 16 = .ok (.iload_n 1, 1) := by decide +kernel
theorem dX7_sets_17 : decode cX7_sets 17 = .ok (.imul, 1) := by decide +kernel
theorem dX7_sets_18 : decode cX7_sets 18 = .ok (.iload 4, 2) := by decide +kernel
theorem dX7_sets_20 : decode cX7_sets 20 = .ok (.iadd, 1) := by decide +kernel
theorem dX7_sets_21 : decode cX7_sets 21 = .ok (.iload 4, 2) := by decide +kernel
theorem dX7_sets_23 : decode cX7_sets 23 = .ok (.iconst 3, 1) := by decide +kernel
theorem dX7_sets_24 : decode cX7_sets 24 = .ok (.if_icmp .ge 18, 3) := by decide +kernel
theorem dX7_sets_27 : decode cX7_sets 27 = .ok (.lload_n 2, 1) := by decide +kernel
theorem dX7_sets_28 : decode cX7_sets 28 = .ok (.bipush 30, 2) := by decide +kernel
theorem dX7_sets_30 : decode cX7_sets 30 = .ok (.iload 4, 2) := by decide +kernel
theorem dX7_sets_32 : decode cX7_sets 32 = .ok (.imul, 1) := by decide +kernel
theorem dX7_sets_33 : decode cX7_sets 33 = .ok (.lshr, 1) := by decide +kernel
theorem dX7_sets_34 : decode cX7_sets 34 = .ok (.ldc2_w 68, 3) := by decide +kernel
theorem dX7_sets_37 : decode cX7_sets 37 = .ok (.land, 1) := by decide +kernel
theorem dX7_sets_38 : decode cX7_sets 38 = .ok (.l2i, 1) := by decide +kernel
theorem dX7_sets_39 : decode cX7_sets 39 = .ok (.goto 4, 3) := by decide +kernel
theorem dX7_sets_42 : decode cX7_sets 42 = .ok (.iconst 0, 1) := by decide +kernel
theorem dX7_sets_43 : decode cX7_sets 43 = .ok (.iastore, 1) := by decide +kernel
theorem dX7_sets_44 : decode cX7_sets 44 = .ok (.iinc 4 1, 3) := by decide +kernel
theorem dX7_sets_47 : decode cX7_sets 47 = .ok (.goto (-44), 3) := by decide +kernel
theorem dX7_sets_50 : decode cX7_sets 50 = .ok (.aload_n 0, 1) := by decide +kernel
theorem dX7_sets_51 : decode cX7_sets 51 = .ok (.getfield 29, 3) := by decide +kernel
theorem dX7_sets_54 : decode cX7_sets 54 = .ok (.iload_n 1, 1) := by decide +kernel
theorem dX7_sets_55 : decode cX7_sets 55 = .ok (.iconst 3, 1) := by decide +kernel
theorem dX7_sets_56 : decode cX7_sets 56 = .ok (.iastore, 1) := by decide +kernel
theorem dX7_sets_57 : decode cX7_sets 57 = .ok (.aload_n 0, 1) := by decide +kernel
theorem dX7_sets_58 : decode cX7_sets 58 = .ok (.iload_n 1, 1) := by decide +kernel
theorem dX7_sets_59 : decode cX7_sets 59 = .ok (.invokevirtual 70, 3) := by decide +kernel
theorem dX7_sets_62 : decode cX7_sets 62 = .ok (.return_, 1) := by decide +kernel
theorem dX7_copies_0 : decode cX7_copies 0 = .ok (.iconst 0, 1) := by decide +kernel
theorem dX7_copies_1 : decode cX7_copies 1 = .ok (.istore_n 3, 1) := by decide +kernel
theorem dX7_copies_2 : decode cX7_copies 2 = .ok (.iload_n 3, 1) := by decide +kernel
theorem dX7_copies_3 : decode cX7_copies 3 = .ok (.bipush 40, 2) := by decide +kernel
theorem dX7_copies_5 : decode cX7_copies 5 = .ok (.if_icmp .ge 31, 3) := by decide +kernel
theorem dX7_copies_8 : decode cX7_copies 8 = .ok (.aload_n 0, 1) := by decide +kernel
theorem dX7_copies_9 : decode cX7_copies 9 = .ok (.getfield 26, 3) := by decide +kernel
theorem dX7_copies_12 : decode cX7_copies 12 = .ok (.bipush 40, 2) := by decide +kernel
theorem dX7_copies_14 : decode cX7_copies 14 = .ok (.iload_n 1, 1) := by decide +kernel
theorem dX7_copies_15 : decode cX7_copies 15 = .ok (.imul, 1) := by decide +kernel
theorem dX7_copies_16 : decode cX7_copies 16 = .ok (.iload_n 3, 1) := by decide +kernel
theorem dX7_copies_17 : decode cX7_copies 17 = .ok (.iadd, 1) := by decide +kernel
theorem dX7_copies_18 : decode cX7_copies 18 = .ok (.aload_n 0, 1) := by decide +kernel
theorem dX7_copies_19 : decode cX7_copies 19 = .ok (.getfield 26, 3) := by decide +kernel
theorem dX7_copies_22 : decode cX7_copies 22 = .ok (.bipush 40, 2) := by decide +kernel
theorem dX7_copies_24 : decode cX7_copies 24 = .ok (.iload_n 2, 1) := by decide +kernel
theorem dX7_copies_25 : decode cX7_copies 25 = .ok (.imul, 1) := by decide +kernel
theorem dX7_copies_26 : decode cX7_copies 26 = .ok (.iload_n 3, 1) := by decide +kernel
theorem dX7_copies_27 : decode cX7_copies 27 = .ok (.iadd, 1) := by decide +kernel
theorem dX7_copies_28 : decode cX7_copies 28 = .ok (.iaload, 1) := by decide +kernel
theorem dX7_copies_29 : decode cX7_copies 29 = .ok (.iastore, 1) := by decide +kernel
theorem dX7_copies_30 : decode cX7_copies 30 = .ok (.iinc 3 1, 3) := by decide +kernel
theorem dX7_copies_33 : decode cX7_copies 33 = .ok (.goto (-31), 3) := by decide +kernel
theorem dX7_copies_36 : decode cX7_copies 36 = .ok (.aload_n 0, 1) := by decide +kernel
theorem dX7_copies_37 : decode cX7_copies 37 = .ok (.getfield 29, 3) := by decide +kernel
theorem dX7_copies_40 : decode cX7_copies 40 = .ok (.iload_n 1, 1) := by decide +kernel
theorem dX7_copies_41 : decode cX7_copies 41 = .ok (.aload_n 0, 1) := by decide +kernel
theorem dX7_copies_42 : decode cX7_copies 42 = .ok (.getfield 29, 3) := by decide +kernel
theorem dX7_copies_45 : decode cX7_copies 45 = .ok (.iload_n 2, 1) := by decide +kernel
theorem dX7_copies_46 : decode cX7_copies 46 = .ok (.iaload, 1) := by decide +kernel
theorem dX7_copies_47 : decode cX7_copies 47 = .ok (.iastore, 1) := by decide +kernel
theorem dX7_copies_48 : decode cX7_copies 48 = .ok (.return_, 1) := by decide +kernel
theorem dX7_times_0 : decode cX7_times 0 = .ok (.lconst 0, 1) := by decide +kernel
theorem dX7_times_1 : decode cX7_times 1 = .ok (.lstore_n 3, 1) := by decide +kernel
theorem dX7_times_2 : decode cX7_times 2 = .ok (.iconst 0, 1) := by decide +kernel
theorem dX7_times_3 : decode cX7_times 3 = .ok (.istore 5, 2) := by decide +kernel
theorem dX7_times_5 : decode cX7_times 5 = .ok (.iload 5, 2) := by decide +kernel
theorem dX7_times_7 : decode cX7_times 7 = .ok (.aload_n 0, 1) := by decide +kernel
theorem dX7_times_8 : decode cX7_times 8 = .ok (.getfield 29, 3) := by decide +kernel
theorem dX7_times_11 : decode cX7_times 11 = .ok (.iload_n 1, 1) := by decide +kernel
theorem dX7_times_12 : decode cX7_times 12 = .ok (.iaload, 1) := by decide +kernel
theorem dX7_times_13 : decode cX7_times 13 = .ok (.if_icmp .ge 54, 3) := by decide +kernel
theorem dX7_times_16 : decode cX7_times 16 = .ok (.aload_n 0, 1) := by decide +kernel
theorem dX7_times_17 : decode cX7_times 17 = .ok (.getfield 26, 3) := by decide +kernel
theorem dX7_times_20 : decode cX7_times 20 = .ok (.bipush 40, 2) := by decide +kernel
theorem dX7_times_22 : decode cX7_times 22 = .ok (.iload_n 1, 1) := by decide +kernel
theorem dX7_times_23 : decode cX7_times 23 = .ok (.imul, 1) := by decide +kernel
theorem dX7_times_24 : decode cX7_times 24 = .ok (.iload 5, 2) := by decide +kernel
theorem dX7_times_26 : decode cX7_times 26 = .ok (.iadd, 1) := by decide +kernel
theorem dX7_times_27 : decode cX7_times 27 = .ok (.iaload, 1) := by decide +kernel
theorem dX7_times_28 : decode cX7_times 28 = .ok (.i2l, 1) := by decide +kernel
theorem dX7_times_29 : decode cX7_times 29 = .ok (.iload_n 2, 1) := by decide +kernel
theorem dX7_times_30 : decode cX7_times 30 = .ok (.i2l, 1) := by decide +kernel
theorem dX7_times_31 : decode cX7_times 31 = .ok (.lmul, 1) := by decide +kernel
theorem dX7_times_32 : decode cX7_times 32 = .ok (.lload_n 3, 1) := by decide +kernel
theorem dX7_times_33 : decode cX7_times 33 = .ok (.ladd, 1) := by decide +kernel
theorem dX7_times_34 : decode cX7_times 34 = .ok (.lstore 6, 2) := by decide +kernel
theorem dX7_times_36 : decode cX7_times 36 = .ok (.aload_n 0, 1) := by decide +kernel
theorem dX7_times_37 : decode cX7_times 37 = .ok (.getfield 26, 3) := by decide +kernel
theorem dX7_times_40 : decode cX7_times 40 = .ok (.bipush 40, 2) := by decide +kernel
theorem dX7_times_42 : decode cX7_times 42 = .ok (.iload_n 1, 1) := by decide +kernel
theorem dX7_times_43 : decode cX7_times 43 = .ok (.imul, 1) := by decide +kernel
theorem dX7_times_44 : decode cX7_times 44 = .ok (.iload 5, 2) := by decide +kernel
theorem dX7_times_46 : decode cX7_times 46 = .ok (.iadd, 1) := by decide +kernel
theorem dX7_times_47 : decode cX7_times 47 = .ok (.lload 6, 2) := by decide +kernel
theorem dX7_times_49 : decode cX7_times 49 = .ok (.ldc2_w 68, 3) := by decide +kernel
theorem dX7_times_52 : decode cX7_times 52 = .ok (.land, 1) := by decide +kernel
theorem dX7_times_53 : decode cX7_times 53 = .ok (.l2i, 1) := by decide +kernel
theorem dX7_times_54 : decode cX7_times 54 = .ok (.iastore, 1) := by decide +kernel
theorem dX7_times_55 : decode cX7_times 55 = .ok (.lload 6, 2) := by decide +kernel
theorem dX7_times_57 : decode cX7_times 57 = .ok (.bipush 30, 2) := by decide +kernel
theorem dX7_times_59 : decode cX7_times 59 = .ok (.lshr, 1) := by decide +kernel
theorem dX7_times_60 : decode cX7_times 60 = .ok (.lstore_n 3, 1) := by decide +kernel
theorem dX7_times_61 : decode cX7_times 61 = .ok (.iinc 5 1, 3) := by decide +kernel
theorem dX7_times_64 : decode cX7_times 64 = .ok (.goto (-59), 3) := by decide +kernel
theorem dX7_times_67 : decode cX7_times 67 = .ok (.lload_n 3, 1) := by decide +kernel
theorem dX7_times_68 : decode cX7_times 68 = .ok (.lconst 0, 1) := by decide +kernel
theorem dX7_times_69 : decode cX7_times 69 = .ok (.lcmp, 1) := by decide +kernel
theorem dX7_times_70 : decode cX7_times 70 = .ok (.ifCond .le 31, 3) := by decide +kernel
theorem dX7_times_73 : decode cX7_times 73 = .ok (.aload_n 0, 1) := by decide +kernel
theorem dX7_times_74 : decode cX7_times 74 = .ok (.getfield 26, 3) := by decide +kernel
theorem dX7_times_77 : decode cX7_times 77 = .ok (.bipush 40, 2) := by decide +kernel
theorem dX7_times_79 : decode cX7_times 79 = .ok (.iload_n 1, 1) := by decide +kernel
theorem dX7_times_80 : decode cX7_times 80 = .ok (.imul, 1) := by decide +kernel
theorem dX7_times_81 : decode cX7_times 81 = .ok (.aload_n 0, 1) := by decide +kernel
theorem dX7_times_82 : decode cX7_times 82 = .ok (.getfield 29, 3) := by decide +kernel
theorem dX7_times_85 : decode cX7_times 85 = .ok (.iload_n 1, 1) := by decide +kernel
theorem dX7_times_86 : decode cX7_times 86 = .ok (.iaload, 1) := by decide +kernel
theorem dX7_times_87 : decode cX7_times 87 = .ok (.iadd, 1) := by decide +kernel
theorem dX7_times_88 : decode cX7_times 88 = .ok (.lload_n 3, 1) := by decide +kernel
theorem dX7_times_89 : decode cX7_times 89 = .ok (.l2i, 1) := by decide +kernel
theorem dX7_times_90 : decode cX7_times 90 = .ok (.iastore, 1) := by decide +kernel
theorem dX7_times_91 : decode cX7_times 91 = .ok (.aload_n 0, 1) := by decide +kernel
theorem dX7_times_92 : decode cX7_times 92 = .ok (.getfield 29, 3) := by decide +kernel
theorem dX7_times_95 : decode cX7_times 95 = .ok (.iload_n 1, 1) := by decide +kernel
theorem dX7_times_96 : decode cX7_times 96 = .ok (.dup2, 1) := by decide +kernel
theorem dX7_times_97 : decode cX7_times 97 = .ok (.iaload, 1) := by decide +kernel
theorem dX7_times_98 : decode cX7_times 98 = .ok (.iconst 1, 1) := by decide +kernel
theorem dX7_times_99 : decode cX7_times 99 = .ok (.iadd, 1) := by decide +kernel
theorem dX7_times_100 : decode cX7_times 100 = .ok (.iastore, 1) := by decide +kernel
theorem dX7_times_101 : decode cX7_times 101 = .ok (.aload_n 0, 1) := by decide +kernel
theorem dX7_times_102 : decode cX7_times 102 = .ok (.iload_n 1, 1) := by decide +kernel
theorem dX7_times_103 : decode cX7_times 103 = .ok (.invokevirtual 70, 3) := by decide +kernel
theorem dX7_times_106 : decode cX7_times 106 = .ok (.return_, 1) := by decide +kernel
theorem dX7_multiplies_0 : decode cX7_multiplies 0 = .ok (.aload_n 0, 1) := by decide +kernel
theorem dX7_multiplies_1 : decode cX7_multiplies 1 = .ok (.iconst 4, 1) := by decide +kernel
theorem dX7_multiplies_2 : decode cX7_multiplies 2 = .ok (.lconst 0, 1) := by decide +kernel
theorem dX7_multiplies_3 : decode cX7_multiplies 3 = .ok (.invokevirtual 56, 3) := by decide +kernel
theorem dX7_multiplies_6 : decode cX7_multiplies 6 = .ok (.iconst 0, 1) := by decide +kernel
theorem dX7_multiplies_7 : decode cX7_multiplies 7 = .ok (.istore_n 3, 1) := by decide +kernel
theorem dX7_multiplies_8 : decode cX7_multiplies 8 = .ok (.iload_n 3, 1) := by decide +kernel
theorem dX7_multiplies_9 : decode cX7_multiplies 9 = .ok (.aload_n 0, 1) := by decide +kernel
theorem dX7_multiplies_10 : decode cX7_multiplies 10 = .ok (.getfield 29, 3) := by decide +kernel
theorem dX7_multiplies_13 : decode cX7_multiplies 13 = .ok (.iload_n 1, 1) := by decide +kernel
theorem dX7_multiplies_14 : decode cX7_multiplies 14 = .ok (.iaload, 1) := by decide +kernel
theorem dX7_multiplies_15 : decode cX7_multiplies 15 = .ok (.if_icmp .ge 131, 3) := by decide +kernel
theorem dX7_multiplies_18 : decode cX7_multiplies 18 = .ok (.lconst 0, 1) := by decide +kernel
theorem dX7_multiplies_19 : decode cX7_multiplies 19 = .ok (.lstore 4, 2) := by decide +kernel
theorem dX7_multiplies_21 : decode cX7_multiplies 21 = .ok (.iconst 0, 1) := by decide +kernel
theorem dX7_multiplies_22 : decode cX7_multiplies 22 = .ok (.istore 6, 2) := by decide +kernel
theorem dX7_multiplies_24 : decode cX7_multiplies 24 = .ok (.iload 6, 2) := by decide +kernel
theorem dX7_multiplies_26 : decode cX7_multiplies 26 = .ok (.aload_n 0, 1) := by decide +kernel
theorem dX7_multiplies_27 : decode cX7_multiplies 27 = .ok (.getfield 29, 3) := by decide +kernel
theorem dX7_multiplies_30 : decode cX7_multiplies 30 = .ok (.iload_n 2, 1) := by decide +kernel
theorem dX7_multiplies_31 : decode cX7_multiplies 31 = .ok (.iaload, 1) := by decide +kernel
theorem dX7_multiplies_32 : decode cX7_multiplies 32 = .ok (.if_icmp .lt 10, 3) := by decide +kernel
theorem dX7_multiplies_35 : decode cX7_multiplies 35 = .ok (.lload 4, 2) := by decide +kernel
theorem dX7_multiplies_37 : decode cX7_multiplies 37 = .ok (.lconst 0, 1) := by decide +kernel
theorem dX7_multiplies_38 : decode cX7_multiplies 38 = .ok (.lcmp, 1) := by decide +kernel
theorem dX7_multiplies_39 : decode cX7_multiplies 39 = .ok (.ifCond .le 101, 3) := by decide +kernel
theorem dX7_multiplies_42 : decode cX7_multiplies 42 = .ok (.iload 6, 2) := by decide +kernel
theorem dX7_multiplies_44 : decode cX7_multiplies 44 = .ok (.aload_n 0, 1) := by decide +kernel
theorem dX7_multiplies_45 : decode cX7_multiplies 45 = .ok (.getfield 29, 3) := by decide +kernel
theorem dX7_multiplies_48 : decode cX7_multiplies 48 = .ok (.iload_n 2, 1) := by decide +kernel
theorem dX7_multiplies_49 : decode cX7_multiplies 49 = .ok (.iaload, 1) := by decide +kernel
theorem dX7_multiplies_50 : decode cX7_multiplies 50 = .ok (.if_icmp .ge 32, 3) := by decide +kernel
theorem dX7_multiplies_53 : decode cX7_multiplies 53 = .ok (.aload_n 0, 1) := by decide +kernel
theorem dX7_multiplies_54 : decode cX7_multiplies 54 = .ok (.getfield 26, 3) := by decide +kernel
theorem dX7_multiplies_57 : decode cX7_multiplies 57 = .ok (.bipush 40, 2) := by decide +kernel
theorem dX7_multiplies_59 : decode cX7_multiplies 59 = .ok (.iload_n 1, 1) := by decide +kernel
theorem dX7_multiplies_60 : decode cX7_multiplies 60 = .ok (.imul, 1) := by decide +kernel
theorem dX7_multiplies_61 : decode cX7_multiplies 61 = .ok (.iload_n 3, 1) := by decide +kernel
theorem dX7_multiplies_62 : decode cX7_multiplies 62 = .ok (.iadd, 1) := by decide +kernel
theorem dX7_multiplies_63 : decode cX7_multiplies 63 = .ok (.iaload, 1) := by decide +kernel
theorem dX7_multiplies_64 : decode cX7_multiplies 64 = .ok (.i2l, 1) := by decide +kernel
theorem dX7_multiplies_65 : decode cX7_multiplies 65 = .ok (.aload_n 0, 1) := by decide +kernel
theorem dX7_multiplies_66 : decode cX7_multiplies 66 = .ok (.getfield 26, 3) := by decide +kernel
theorem dX7_multiplies_69 : decode cX7_multiplies 69 = .ok (.bipush 40, 2) := by decide +kernel
theorem dX7_multiplies_71 : decode cX7_multiplies 71 = .ok (.iload_n 2, 1) := by decide +kernel
theorem dX7_multiplies_72 : decode cX7_multiplies 72 = .ok (.imul, 1) := by decide +kernel
theorem dX7_multiplies_73 : decode cX7_multiplies 73 = .ok (.iload 6, 2) := by decide +kernel
theorem dX7_multiplies_75 : decode cX7_multiplies 75 = .ok (.iadd, 1) := by decide +kernel
theorem dX7_multiplies_76 : decode cX7_multiplies 76 = .ok (.iaload, 1) := by decide +kernel
theorem dX7_multiplies_77 : decode cX7_multiplies 77 = .ok (.i2l, 1) := by decide +kernel
theorem dX7_multiplies_78 : decode cX7_multiplies 78 = .ok (.lmul, 1) := by decide +kernel
theorem dX7_multiplies_79 : decode cX7_multiplies 79 = .ok (.goto 4, 3) := by decide +kernel
theorem dX7_multiplies_82 : decode cX7_multiplies 82 = .ok (.lconst 0, 1) := by decide +kernel
theorem dX7_multiplies_83 : decode cX7_multiplies 83 = .ok (.lstore 7, 2) := by decide +kernel
theorem dX7_multiplies_85 : decode cX7_multiplies 85 = .ok (.aload_n 0, 1) := by decide +kernel
theorem dX7_multiplies_86 : decode cX7_multiplies 86 = .ok (.getfield 26, 3) := by decide +kernel
theorem dX7_multiplies_89 : decode cX7_multiplies 89 = .ok (.sipush 160, 3) := by decide +kernel
theorem dX7_multiplies_92 : decode cX7_multiplies 92 = .ok (.iload_n 3, 1) := by decide +kernel
theorem dX7_multiplies_93 : decode cX7_multiplies 93 = .ok (.iadd, 1) := by decide +kernel
theorem dX7_multiplies_94 : decode cX7_multiplies 94 = .ok (.iload 6, 2) := by decide +kernel
theorem dX7_multiplies_96 : decode cX7_multiplies 96 = .ok (.iadd, 1) := by decide +kernel
theorem dX7_multiplies_97 : decode cX7_multiplies 97 = .ok (.iaload, 1) := by decide +kernel
theorem dX7_multiplies_98 : decode cX7_multiplies 98 = .ok (.i2l, 1) := by decide +kernel
theorem dX7_multiplies_99 : decode cX7_multiplies 99 = .ok (.lload 7, 2) := by decide +kernel
theorem dX7_multiplies_101 : decode cX7_multiplies 101 = .ok (.ladd, 1) := by decide +kernel
theorem dX7_multiplies_102 : decode cX7_multiplies 102 = .ok (.lload 4, 2) := by decide +kernel
theorem dX7_multiplies_104 : decode cX7_multiplies 104 = .ok (.ladd, 1) := by decide +kernel
theorem dX7_multiplies_105 : decode cX7_multiplies 105 = .ok (.lstore 9, 2) := by decide +kernel
theorem dX7_multiplies_107 : decode cX7_multiplies 107 = .ok (.aload_n 0, 1) := by decide +kernel
theorem dX7_multiplies_108 : decode cX7_multiplies 108 = .ok (.getfield 26, 3) := by decide +kernel
theorem dX7_multiplies_111 : decode cX7_multiplies 111 = .ok (.sipush 160, 3) := by decide +kernel
theorem dX7_multiplies_114 : decode cX7_multiplies 114 = .ok (.iload_n 3, 1) := by decide +kernel
theorem dX7_multiplies_115 : decode cX7_multiplies 115 = .ok (.iadd, 1) := by decide +kernel
theorem dX7_multiplies_116 : decode cX7_multiplies 116 = .ok (.iload 6, 2) := by decide +kernel
theorem dX7_multiplies_118 : decode cX7_multiplies 118 = .ok (.iadd, 1) := by decide +kernel
theorem dX7_multiplies_119 : decode cX7_multiplies 119 = .ok (.lload 9, 2) := by decide +kernel
theorem dX7_multiplies_121 : decode cX7_multiplies 121 = .ok (.ldc2_w 68, 3) := by decide +kernel
theorem dX7_multiplies_124 : decode cX7_multiplies 124 = .ok (.land, 1) := by decide +kernel
theorem dX7_multiplies_125 : decode cX7_multiplies 125 = .ok (.l2i, 1) := by decide +kernel
theorem dX7_multiplies_126 : decode cX7_multiplies 126 = .ok (.iastore, 1) := by decide +kernel
theorem dX7_multiplies_127 : decode cX7_multiplies 127 = .ok (.lload 9, 2) := by decide +kernel
theorem dX7_multiplies_129 : decode cX7_multiplies 129 = .ok (.bipush 30, 2) := by decide +kernel
theorem dX7_multiplies_131 : decode cX7_multiplies 131 = .ok (.lshr, 1) := by decide +kernel
theorem dX7_multiplies_132 : decode cX7_multiplies 132 = .ok (.lstore 4, 2) := by decide +kernel
theorem dX7_multiplies_134 : decode cX7_multiplies 134 = .ok (.iinc 6 1, 3) := by decide +kernel
theorem dX7_multiplies_137 : decode cX7_multiplies 137 = .ok (.goto (-113), 3) := by decide +kernel
theorem dX7_multiplies_140 : decode cX7_multiplies 140 = .ok (.iinc 3 1, 3) := by decide +kernel
theorem dX7_multiplies_143 : decode cX7_multiplies 143 = .ok (.goto (-135), 3) := by decide +kernel
theorem dX7_multiplies_146 : decode cX7_multiplies 146 = .ok (.aload_n 0, 1) := by decide +kernel
theorem dX7_multiplies_147 : decode cX7_multiplies 147 = .ok (.getfield 29, 3) := by decide +kernel
theorem dX7_multiplies_150 : decode cX7_multiplies 150 = .ok (.iconst 4, 1) := by decide +kernel
theorem dX7_multiplies_151 : decode cX7_multiplies 151 = .ok (.aload_n 0, 1) := by decide +kernel
theorem dX7_multiplies_152 : decode cX7_multiplies 152 = .ok (.getfield 29, 3) := by decide +kernel
theorem dX7_multiplies_155 : decode cX7_multiplies 155 = .ok (.iload_n 1, 1) := by decide +kernel
theorem dX7_multiplies_156 : decode cX7_multiplies 156 = .ok (.iaload, 1) := by decide +kernel
theorem dX7_multiplies_157 : decode cX7_multiplies 157 = .ok (.aload_n 0, 1) := by decide +kernel
theorem dX7_multiplies_158 : decode cX7_multiplies 158 = .ok (.getfield 29, 3) := by decide +kernel
theorem dX7_multiplies_161 : decode cX7_multiplies 161 = .ok (.iload_n 2, 1) := by decide +kernel
theorem dX7_multiplies_162 : decode cX7_multiplies 162 = .ok (.iaload, 1) := by decide +kernel
theorem dX7_multiplies_163 : decode cX7_multiplies 163 = .ok (.iadd, 1) := by decide +kernel
theorem dX7_multiplies_164 : decode cX7_multiplies 164 = .ok (.iastore, 1) := by decide +kernel
theorem dX7_multiplies_165 : decode cX7_multiplies 165 = .ok (.aload_n 0, 1) := by decide +kernel
theorem dX7_multiplies_166 : decode cX7_multiplies 166 = .ok (.iconst 4, 1) := by decide +kernel
theorem dX7_multiplies_167 : decode cX7_multiplies 167 = .ok (.invokevirtual 70, 3) := by decide +kernel
theorem dX7_multiplies_170 : decode cX7_multiplies 170 = .ok (.aload_n 0, 1) := by decide +kernel
theorem dX7_multiplies_171 : decode cX7_multiplies 171 = .ok (.iload_n 1, 1) := by decide +kernel
theorem dX7_multiplies_172 : decode cX7_multiplies 172 = .ok (.iconst 4, 1) := by decide +kernel
theorem dX7_multiplies_173 : decode cX7_multiplies 173 = .ok (.invokevirtual 74, 3) := by decide +kernel
theorem dX7_multiplies_176 : decode cX7_multiplies 176 = .ok (.return_, 1) := by decide +kernel
theorem dX7_adds_0 : decode cX7_adds 0 = .ok (.iconst 0, 1) := by decide +kernel
theorem dX7_adds_1 : decode cX7_adds 1 = .ok (.istore_n 3, 1) := by decide +kernel
theorem dX7_adds_2 : decode cX7_adds 2 = .ok (.aload_n 0, 1) := by decide +kernel
theorem dX7_adds_3 : decode cX7_adds 3 = .ok (.getfield 29, 3) := by decide +kernel
theorem dX7_adds_6 : decode cX7_adds 6 = .ok (.iload_n 1, 1) := by decide +kernel
theorem dX7_adds_7 : decode cX7_adds 7 = .ok (.iaload, 1) := by decide +kernel
theorem dX7_adds_8 : decode cX7_adds 8 = .ok (.aload_n 0, 1) := by decide +kernel
theorem dX7_adds_9 : decode cX7_adds 9 = .ok (.getfield 29, 3) := by decide +kernel
theorem dX7_adds_12 : decode cX7_adds 12 = .ok (.iload_n 2, 1) := by decide +kernel
theorem dX7_adds_13 : decode cX7_adds 13 = .ok (.iaload, 1) := by decide +kernel
theorem dX7_adds_14 : decode cX7_adds 14 = .ok (.if_icmp .le 12, 3) := by decide +kernel
theorem dX7_adds_17 : decode cX7_adds 17 = .ok (.aload_n 0, 1) := by decide +kernel
theorem dX7_adds_18 : decode cX7_adds 18 = .ok (.getfield 29, 3) := by decide +kernel
theorem dX7_adds_21 : decode cX7_adds 21 = .ok (.iload_n 1, 1) := by decide +kernel
theorem dX7_adds_22 : decode cX7_adds 22 = .ok (.iaload, 1) := by decide +kernel
theorem dX7_adds_23 : decode cX7_adds 23 = .ok (.goto 9, 3) := by decide +kernel
theorem dX7_adds_26 : decode cX7_adds 26 = .ok (.aload_n 0, 1) := by decide +kernel
theorem dX7_adds_27 : decode cX7_adds 27 = .ok (.getfield 29, 3) := by decide +kernel
theorem dX7_adds_30 : decode cX7_adds 30 = .ok (.iload_n 2, 1) := by decide +kernel
theorem dX7_adds_31 : decode cX7_adds 31 = .ok (.iaload, 1) := by decide +kernel
theorem dX7_adds_32 : decode cX7_adds 32 = .ok (.istore 4, 2) := by decide +kernel
theorem dX7_adds_34 : decode cX7_adds 34 = .ok (.iconst 0, 1) := by decide +kernel
theorem dX7_adds_35 : decode cX7_adds 35 = .ok (.istore 5, 2) := by decide +kernel
theorem dX7_adds_37 : decode cX7_adds 37 = .ok (.iload 5, 2) := by decide +kernel
theorem dX7_adds_39 : decode cX7_adds 39 = .ok (.iload 4, 2) := by decide +kernel
theorem dX7_adds_41 : decode cX7_adds 41 = .ok (.if_icmp .ge 61, 3) := by decide +kernel
theorem dX7_adds_44 : decode cX7_adds 44 = .ok (.aload_n 0, 1) := by decide +kernel
theorem dX7_adds_45 : decode cX7_adds 45 = .ok (.getfield 26, 3) := by decide +kernel
theorem dX7_adds_48 : decode cX7_adds 48 = .ok (.bipush 40, 2) := by decide +kernel
theorem dX7_adds_50 : decode cX7_adds 50 = .ok (.iload_n 1, 1) := by decide +kernel
theorem dX7_adds_51 : decode cX7_adds 51 = .ok (.imul, 1) := by decide +kernel
theorem dX7_adds_52 : decode cX7_adds 52 = .ok (.iload 5, 2) := by decide +kernel
theorem dX7_adds_54 : decode cX7_adds 54 = .ok (.iadd, 1) := by decide +kernel
theorem dX7_adds_55 : decode cX7_adds 55 = .ok (.iaload, 1) := by decide +kernel
theorem dX7_adds_56 : decode cX7_adds 56 = .ok (.aload_n 0, 1) := by decide +kernel
theorem dX7_adds_57 : decode cX7_adds 57 = .ok (.getfield 26, 3) := by decide +kernel
theorem dX7_adds_60 : decode cX7_adds 60 = .ok (.bipush 40, 2) := by decide +kernel
theorem dX7_adds_62 : decode cX7_adds 62 = .ok (.iload_n 2, 1) := by decide +kernel
theorem dX7_adds_63 : decode cX7_adds 63 = .ok (.imul, 1) := by decide +kernel
theorem dX7_adds_64 : decode cX7_adds 64 = .ok (.iload 5, 2) := by decide +kernel
theorem dX7_adds_66 : decode cX7_adds 66 = .ok (.iadd, 1) := by decide +kernel
theorem dX7_adds_67 : decode cX7_adds 67 = .ok (.iaload, 1) := by decide +kernel
theorem dX7_adds_68 : decode cX7_adds 68 = .ok (.iadd, 1) := by decide +kernel
theorem dX7_adds_69 : decode cX7_adds 69 = .ok (.iload_n 3, 1) := by decide +kernel
theorem dX7_adds_70 : decode cX7_adds 70 = .ok (.iadd, 1) := by decide +kernel
theorem dX7_adds_71 : decode cX7_adds 71 = .ok (.istore 6, 2) := by decide +kernel
theorem dX7_adds_73 : decode cX7_adds 73 = .ok (.aload_n 0, 1) := by decide +kernel
theorem dX7_adds_74 : decode cX7_adds 74 = .ok (.getfield 26, 3) := by decide +kernel
theorem dX7_adds_77 : decode cX7_adds 77 = .ok (.bipush 40, 2) := by decide +kernel
theorem dX7_adds_79 : decode cX7_adds 79 = .ok (.iload_n 1, 1) := by decide +kernel
theorem dX7_adds_80 : decode cX7_adds 80 = .ok (.imul, 1) := by decide +kernel
theorem dX7_adds_81 : decode cX7_adds 81 = .ok (.iload 5, 2) := by decide +kernel
theorem dX7_adds_83 : decode cX7_adds 83 = .ok (.iadd, 1) := by decide +kernel
theorem dX7_adds_84 : decode cX7_adds 84 = .ok (.iload 6, 2) := by decide +kernel
theorem dX7_adds_86 : decode cX7_adds 86 = .ok (.ldc 78, 2) := by decide +kernel
theorem dX7_adds_88 : decode cX7_adds 88 = .ok (.iand, 1) := by decide +kernel
theorem dX7_adds_89 : decode cX7_adds 89 = .ok (.iastore, 1) := by decide +kernel
theorem dX7_adds_90 : decode cX7_adds 90 = .ok (.iload 6, 2) := by decide +kernel
theorem dX7_adds_92 : decode cX7_adds 92 = .ok (.bipush 30, 2) := by decide +kernel
theorem dX7_adds_94 : decode cX7_adds 94 = .ok (.iushr, 1) := by decide +kernel
theorem dX7_adds_95 : decode cX7_adds 95 = .ok (.istore_n 3, 1) := by decide +kernel
theorem dX7_adds_96 : decode cX7_adds 96 = .ok (.iinc 5 1, 3) := by decide +kernel
theorem dX7_adds_99 : decode cX7_adds 99 = .ok (.goto (-62), 3) := by decide +kernel
theorem dX7_adds_102 : decode cX7_adds 102 = .ok (.aload_n 0, 1) := by decide +kernel
theorem dX7_adds_103 : decode cX7_adds 103 = .ok (.getfield 26, 3) := by decide +kernel
theorem dX7_adds_106 : decode cX7_adds 106 = .ok (.bipush 40, 2) := by decide +kernel
theorem dX7_adds_108 : decode cX7_adds 108 = .ok (.iload_n 1, 1) := by decide +kernel
theorem dX7_adds_109 : decode cX7_adds 109 = .ok (.imul, 1) := by decide +kernel
theorem dX7_adds_110 : decode cX7_adds 110 = .ok (.iload 4, 2) := by decide +kernel
theorem dX7_adds_112 : decode cX7_adds 112 = .ok (.iadd, 1) := by decide +kernel
theorem dX7_adds_113 : decode cX7_adds 113 = .ok (.iload_n 3, 1) := by decide +kernel
theorem dX7_adds_114 : decode cX7_adds 114 = .ok (.iastore, 1) := by decide +kernel
theorem dX7_adds_115 : decode cX7_adds 115 = .ok (.aload_n 0, 1) := by decide +kernel
theorem dX7_adds_116 : decode cX7_adds 116 = .ok (.getfield 29, 3) := by decide +kernel
theorem dX7_adds_119 : decode cX7_adds 119 = .ok (.iload_n 1, 1) := by decide +kernel
theorem dX7_adds_120 : decode cX7_adds 120 = .ok (.iload 4, 2) := by decide +kernel
theorem dX7_adds_122 : decode cX7_adds 122 = .ok (.iload_n 3, 1) := by decide +kernel
theorem dX7_adds_123 : decode cX7_adds 123 = .ok (.iadd, 1) := by decide +kernel
theorem dX7_adds_124 : decode cX7_adds 124 = .ok (.iastore, 1) := by decide +kernel
theorem dX7_adds_125 : decode cX7_adds 125 = .ok (.aload_n 0, 1) := by decide +kernel
theorem dX7_adds_126 : decode cX7_adds 126 = .ok (.iload_n 1, 1) := by decide +kernel
theorem dX7_adds_127 : decode cX7_adds 127 = .ok (.invokevirtual 70, 3) := by decide +kernel
theorem dX7_adds_130 : decode cX7_adds 130 = .ok (.return_, 1) := by decide +kernel
theorem dX7_lessens_0 : decode cX7_lessens 0 = .ok (.iconst 0, 1) := by decide +kernel
theorem dX7_lessens_1 : decode cX7_lessens 1 = .ok (.istore_n 3, 1) := by decide +kernel
theorem dX7_lessens_2 : decode cX7_lessens 2 = .ok (.iconst 0, 1) := by decide +kernel
theorem dX7_lessens_3 : decode cX7_lessens 3 = .ok (.istore 4, 2) := by decide +kernel
theorem dX7_lessens_5 : decode cX7_lessens 5 = .ok (.iload 4, 2) := by decide +kernel
theorem dX7_lessens_7 : decode cX7_lessens 7 = .ok (.aload_n 0, 1) := by decide +kernel
theorem dX7_lessens_8 : decode cX7_lessens 8 = .ok (.getfield 29, 3) := by decide +kernel
theorem dX7_lessens_11 : decode cX7_lessens 11 = .ok (.iload_n 1, 1) := by decide +kernel
theorem dX7_lessens_12 : decode cX7_lessens 12 = .ok (.iaload, 1) := by decide +kernel
theorem dX7_lessens_13 : decode cX7_lessens 13 = .ok (.if_icmp .ge 66, 3) := by decide +kernel
theorem dX7_lessens_16 : decode cX7_lessens 16 = .ok (.aload_n 0, 1) := by decide +kernel
theorem dX7_lessens_17 : decode cX7_lessens 17 = .ok (.getfield 26, 3) := by decide +kernel
theorem dX7_lessens_20 : decode cX7_lessens 20 = .ok (.bipush 40, 2) := by decide +kernel
theorem dX7_lessens_22 : decode cX7_lessens 22 = .ok (.iload_n 1, 1) := by decide +kernel
theorem dX7_lessens_23 : decode cX7_lessens 23 = .ok (.imul, 1) := by decide +kernel
theorem dX7_lessens_24 : decode cX7_lessens 24 = .ok (.iload 4, 2) := by decide +kernel
theorem dX7_lessens_26 : decode cX7_lessens 26 = .ok (.iadd, 1) := by decide +kernel
theorem dX7_lessens_27 : decode cX7_lessens 27 = .ok (.iaload, 1) := by decide +kernel
theorem dX7_lessens_28 : decode cX7_lessens 28 = .ok (.aload_n 0, 1) := by decide +kernel
theorem dX7_lessens_29 : decode cX7_lessens 29 = .ok (.getfield 26, 3) := by decide +kernel
theorem dX7_lessens_32 : decode cX7_lessens 32 = .ok (.bipush 40, 2) := by decide +kernel
theorem dX7_lessens_34 : decode cX7_lessens 34 = .ok (.iload_n 2, 1) := by decide +kernel
theorem dX7_lessens_35 : decode cX7_lessens 35 = .ok (.imul, 1) := by decide +kernel
theorem dX7_lessens_36 : decode cX7_lessens 36 = .ok (.iload 4, 2) := by decide +kernel
theorem dX7_lessens_38 : decode cX7_lessens 38 = .ok (.iadd, 1) := by decide +kernel
theorem dX7_lessens_39 : decode cX7_lessens 39 = .ok (.iaload, 1) := by decide +kernel
theorem dX7_lessens_40 : decode cX7_lessens 40 = .ok (.isub, 1) := by decide +kernel
theorem dX7_lessens_41 : decode cX7_lessens 41 = .ok (.iload_n 3, 1) := by decide +kernel
theorem dX7_lessens_42 : decode cX7_lessens 42 = .ok (.isub, 1) := by decide +kernel
theorem dX7_lessens_43 : decode cX7_lessens 43 = .ok (.istore 5, 2) := by decide +kernel
theorem dX7_lessens_45 : decode cX7_lessens 45 = .ok (.aload_n 0, 1) := by decide +kernel
theorem dX7_lessens_46 : decode cX7_lessens 46 = .ok (.getfield 26, 3) := by decide +kernel
theorem dX7_lessens_49 : decode cX7_lessens 49 = .ok (.bipush 40, 2) := by decide +kernel
theorem dX7_lessens_51 : decode cX7_lessens 51 = .ok (.iload_n 1, 1) := by decide +kernel
theorem dX7_lessens_52 : decode cX7_lessens 52 = .ok (.imul, 1) := by decide +kernel
theorem dX7_lessens_53 : decode cX7_lessens 53 = .ok (.iload 4, 2) := by decide +kernel
theorem dX7_lessens_55 : decode cX7_lessens 55 = .ok (.iadd, 1) := by decide +kernel
theorem dX7_lessens_56 : decode cX7_lessens 56 = .ok (.iload 5, 2) := by decide +kernel
theorem dX7_lessens_58 : decode cX7_lessens 58 = .ok (.ldc 78, 2) := by decide +kernel
theorem dX7_lessens_60 : decode cX7_lessens 60 = .ok (.iand, 1) := by decide +kernel
theorem dX7_lessens_61 : decode cX7_lessens 61 = .ok (.iastore, 1) := by decide +kernel
theorem dX7_lessens_62 : decode cX7_lessens 62 = .ok (.iload 5, 2) := by decide +kernel
theorem dX7_lessens_64 : decode cX7_lessens 64 = .ok (.ifCond .ge 7, 3) := by decide +kernel
theorem dX7_lessens_67 : decode cX7_lessens 67 = .ok (.iconst 1, 1) := by decide +kernel
theorem dX7_lessens_68 : decode cX7_lessens 68 = .ok (.goto 4, 3) := by decide +kernel
theorem dX7_lessens_71 : decode cX7_lessens 71 = .ok (.iconst 0, 1) := by decide +kernel
theorem dX7_lessens_72 : decode cX7_lessens 72 = .ok (.istore_n 3, 1) := by decide +kernel
theorem dX7_lessens_73 : decode cX7_lessens 73 = .ok (.iinc 4 1, 3) := by decide +kernel
theorem dX7_lessens_76 : decode cX7_lessens 76 = .ok (.goto (-71), 3) := by decide +kernel
theorem dX7_lessens_79 : decode cX7_lessens 79 = .ok (.aload_n 0, 1) := by decide +kernel
theorem dX7_lessens_80 : decode cX7_lessens 80 = .ok (.iload_n 1, 1) := by decide +kernel
theorem dX7_lessens_81 : decode cX7_lessens 81 = .ok (.invokevirtual 70, 3) := by decide +kernel
theorem dX7_lessens_84 : decode cX7_lessens 84 = .ok (.return_, 1) := by decide +kernel
theorem dX7_against_0 : decode cX7_against 0 = .ok (.aload_n 0, 1) := by decide +kernel
theorem dX7_against_1 : decode cX7_against 1 = .ok (.getfield 29, 3) := by decide +kernel
theorem dX7_against_4 : decode cX7_against 4 = .ok (.iload_n 1, 1) := by decide +kernel
theorem dX7_against_5 : decode cX7_against 5 = .ok (.iaload, 1) := by decide +kernel
theorem dX7_against_6 : decode cX7_against 6 = .ok (.aload_n 0, 1) := by decide +kernel
theorem dX7_against_7 : decode cX7_against 7 = .ok (.getfield 29, 3) := by decide +kernel
theorem dX7_against_10 : decode cX7_against 10 = .ok (.iload_n 2, 1) := by decide +kernel
theorem dX7_against_11 : decode cX7_against 11 = .ok (.iaload, 1) := by decide +kernel
theorem dX7_against_12 : decode cX7_against 12 = .ok (.if_icmp .eq 24, 3) := by decide +kernel
theorem dX7_against_15 : decode cX7_against 15 = .ok (.aload_n 0, 1) := by decide +kernel
theorem dX7_against_16 : decode cX7_against 16 = .ok (.getfield 29, 3) := by decide +kernel
theorem dX7_against_19 : decode cX7_against 19 = .ok (.iload_n 1, 1) := by decide +kernel
theorem dX7_against_20 : decode cX7_against 20 = .ok (.iaload, 1) := by decide +kernel
theorem dX7_against_21 : decode cX7_against 21 = .ok (.aload_n 0, 1) := by decide +kernel
theorem dX7_against_22 : decode cX7_against 22 = .ok (.getfield 29, 3) := by decide +kernel
theorem dX7_against_25 : decode cX7_against 25 = .ok (.iload_n 2, 1) := by decide +kernel
theorem dX7_against_26 : decode cX7_against 26 = .ok (.iaload, 1) := by decide +kernel
theorem dX7_against_27 : decode cX7_against 27 = .ok (.if_icmp .ge 7, 3) := by decide +kernel
theorem dX7_against_30 : decode cX7_against 30 = .ok (.iconst (-1), 1) := by decide +kernel
theorem dX7_against_31 : decode cX7_against 31 = .ok (.goto 4, 3) := by decide +kernel
theorem dX7_against_34 : decode cX7_against 34 = .ok (.iconst 1, 1) := by decide +kernel
theorem dX7_against_35 : decode cX7_against 35 = .ok (.ireturn, 1) := by decide +kernel
theorem dX7_against_36 : decode cX7_against 36 = .ok (.aload_n 0, 1) := by decide +kernel
theorem dX7_against_37 : decode cX7_against 37 = .ok (.getfield 29, 3) := by decide +kernel
theorem dX7_against_40 : decode cX7_against 40 = .ok (.iload_n 1, 1) := by decide +kernel
theorem dX7_against_41 : decode cX7_against 41 = .ok (.iaload, 1) := by decide +kernel
theorem dX7_against_42 : decode cX7_against 42 = .ok (.iconst 1, 1) := by decide +kernel
theorem dX7_against_43 : decode cX7_against 43 = .ok (.isub, 1) := by decide +kernel
theorem dX7_against_44 : decode cX7_against 44 = .ok (.istore_n 3, 1) := by decide +kernel
theorem dX7_against_45 : decode cX7_against 45 = .ok (.iload_n 3, 1) := by decide +kernel
theorem dX7_against_46 : decode cX7_against 46 = .ok (.ifCond .lt 65, 3) := by decide +kernel
theorem dX7_against_49 : decode cX7_against 49 = .ok (.aload_n 0, 1) := by decide +kernel
theorem dX7_against_50 : decode cX7_against 50 = .ok (.getfield 26, 3) := by decide +kernel
theorem dX7_against_53 : decode cX7_against 53 = .ok (.bipush 40, 2) := by decide +kernel
theorem dX7_against_55 : decode cX7_against 55 = .ok (.iload_n 1, 1) := by decide +kernel
theorem dX7_against_56 : decode cX7_against 56 = .ok (.imul, 1) := by decide +kernel
theorem dX7_against_57 : decode cX7_against 57 = .ok (.iload_n 3, 1) := by decide +kernel
theorem dX7_against_58 : decode cX7_against 58 = .ok (.iadd, 1) := by decide +kernel
theorem dX7_against_59 : decode cX7_against 59 = .ok (.iaload, 1) := by decide +kernel
theorem dX7_against_60 : decode cX7_against 60 = .ok (.aload_n 0, 1) := by decide +kernel
theorem dX7_against_61 : decode cX7_against 61 = .ok (.getfield 26, 3) := by decide +kernel
theorem dX7_against_64 : decode cX7_against 64 = .ok (.bipush 40, 2) := by decide +kernel
theorem dX7_against_66 : decode cX7_against 66 = .ok (.iload_n 2, 1) := by decide +kernel
theorem dX7_against_67 : decode cX7_against 67 = .ok (.imul, 1) := by decide +kernel
theorem dX7_against_68 : decode cX7_against 68 = .ok (.iload_n 3, 1) := by decide +kernel
theorem dX7_against_69 : decode cX7_against 69 = .ok (.iadd, 1) := by decide +kernel
theorem dX7_against_70 : decode cX7_against 70 = .ok (.iaload, 1) := by decide +kernel
theorem dX7_against_71 : decode cX7_against 71 = .ok (.if_icmp .eq 34, 3) := by decide +kernel
theorem dX7_against_74 : decode cX7_against 74 = .ok (.aload_n 0, 1) := by decide +kernel
theorem dX7_against_75 : decode cX7_against 75 = .ok (.getfield 26, 3) := by decide +kernel
theorem dX7_against_78 : decode cX7_against 78 = .ok (.bipush 40, 2) := by decide +kernel
theorem dX7_against_80 : decode cX7_against 80 = .ok (.iload_n 1, 1) := by decide +kernel
theorem dX7_against_81 : decode cX7_against 81 = .ok (.imul, 1) := by decide +kernel
theorem dX7_against_82 : decode cX7_against 82 = .ok (.iload_n 3, 1) := by decide +kernel
theorem dX7_against_83 : decode cX7_against 83 = .ok (.iadd, 1) := by decide +kernel
theorem dX7_against_84 : decode cX7_against 84 = .ok (.iaload, 1) := by decide +kernel
theorem dX7_against_85 : decode cX7_against 85 = .ok (.aload_n 0, 1) := by decide +kernel
theorem dX7_against_86 : decode cX7_against 86 = .ok (.getfield 26, 3) := by decide +kernel
theorem dX7_against_89 : decode cX7_against 89 = .ok (.bipush 40, 2) := by decide +kernel
theorem dX7_against_91 : decode cX7_against 91 = .ok (.iload_n 2, 1) := by decide +kernel
theorem dX7_against_92 : decode cX7_against 92 = .ok (.imul, 1) := by decide +kernel
theorem dX7_against_93 : decode cX7_against 93 = .ok (.iload_n 3, 1) := by decide +kernel
theorem dX7_against_94 : decode cX7_against 94 = .ok (.iadd, 1) := by decide +kernel
theorem dX7_against_95 : decode cX7_against 95 = .ok (.iaload, 1) := by decide +kernel
theorem dX7_against_96 : decode cX7_against 96 = .ok (.if_icmp .ge 7, 3) := by decide +kernel
theorem dX7_against_99 : decode cX7_against 99 = .ok (.iconst (-1), 1) := by decide +kernel
theorem dX7_against_100 : decode cX7_against 100 = .ok (.goto 4, 3) := by decide +kernel
theorem dX7_against_103 : decode cX7_against 103 = .ok (.iconst 1, 1) := by decide +kernel
theorem dX7_against_104 : decode cX7_against 104 = .ok (.ireturn, 1) := by decide +kernel
theorem dX7_against_105 : decode cX7_against 105 = .ok (.iinc 3 (-1), 3) := by decide +kernel
theorem dX7_against_108 : decode cX7_against 108 = .ok (.goto (-63), 3) := by decide +kernel
theorem dX7_against_111 : decode cX7_against 111 = .ok (.iconst 0, 1) := by decide +kernel
theorem dX7_against_112 : decode cX7_against 112 = .ok (.ireturn, 1) := by decide +kernel
theorem dX7_isEven_0 : decode cX7_isEven 0 = .ok (.aload_n 0, 1) := by decide +kernel
theorem dX7_isEven_1 : decode cX7_isEven 1 = .ok (.getfield 26, 3) := by decide +kernel
theorem dX7_isEven_4 : decode cX7_isEven 4 = .ok (.bipush 40, 2) := by decide +kernel
theorem dX7_isEven_6 : decode cX7_isEven 6 = .ok (.iload_n 1, 1) := by decide +kernel
theorem dX7_isEven_7 : decode cX7_isEven 7 = .ok (.imul, 1) := by decide +kernel
theorem dX7_isEven_8 : decode cX7_isEven 8 = .ok (.iaload, 1) := by decide +kernel
theorem dX7_isEven_9 : decode cX7_isEven 9 = .ok (.iconst 1, 1) := by decide +kernel
theorem dX7_isEven_10 : decode cX7_isEven 10 = .ok (.iand, 1) := by decide +kernel
theorem dX7_isEven_11 : decode cX7_isEven 11 = .ok (.ifCond .ne 7, 3) := by decide +kernel
theorem dX7_isEven_14 : decode cX7_isEven 14 = .ok (.iconst 1, 1) := by decide +kernel
theorem dX7_isEven_15 : decode cX7_isEven 15 = .ok (.goto 4, 3) := by decide +kernel
theorem dX7_isEven_18 : decode cX7_isEven 18 = .ok (.iconst 0, 1) := by decide +kernel
theorem dX7_isEven_19 : decode cX7_isEven 19 = .ok (.ireturn, 1) := by decide +kernel
theorem dX7_halves_0 : decode cX7_halves 0 = .ok (.iconst 0, 1) := by decide +kernel
theorem dX7_halves_1 : decode cX7_halves 1 = .ok (.istore_n 2, 1) := by decide +kernel
theorem dX7_halves_2 : decode cX7_halves 2 = .ok (.iload_n 2, 1) := by decide +kernel
theorem dX7_halves_3 : decode cX7_halves 3 = .ok (.aload_n 0, 1) := by decide +kernel
theorem dX7_halves_4 : decode cX7_halves 4 = .ok (.getfield 29, 3) := by decide +kernel
theorem dX7_halves_7 : decode cX7_halves 7 = .ok (.iload_n 1, 1) := by decide +kernel
theorem dX7_halves_8 : decode cX7_halves 8 = .ok (.iaload, 1) := by decide +kernel
theorem dX7_halves_9 : decode cX7_halves 9 = .ok (.if_icmp .ge 70, 3) := by decide +kernel
theorem dX7_halves_12 : decode cX7_halves 12 = .ok (.iload_n 2, 1) := by decide +kernel
theorem dX7_halves_13 : decode cX7_halves 13 = .ok (.iconst 1, 1) := by decide +kernel
theorem dX7_halves_14 : decode cX7_halves 14 = .ok (.iadd, 1) := by decide +kernel
theorem dX7_halves_15 : decode cX7_halves 15 = .ok (.aload_n 0, 1) := by decide +kernel
theorem dX7_halves_16 : decode cX7_halves 16 = .ok (.getfield 29, 3) := by decide +kernel
theorem dX7_halves_19 : decode cX7_halves 19 = .ok (.iload_n 1, 1) := by decide +kernel
theorem dX7_halves_20 : decode cX7_halves 20 = .ok (.iaload, 1) := by decide +kernel
theorem dX7_halves_21 : decode cX7_halves 21 = .ok (.if_icmp .ge 21, 3) := by decide +kernel
theorem dX7_halves_24 : decode cX7_halves 24 = .ok (.aload_n 0, 1) := by decide +kernel
theorem dX7_halves_25 : decode cX7_halves 25 = .ok (.getfield 26, 3) := by decide +kernel
theorem dX7_halves_28 : decode cX7_halves 28 = .ok (.bipush 40, 2) := by decide +kernel
theorem dX7_halves_30 : decode cX7_halves 30 = .ok (.iload_n 1, 1) := by decide +kernel
theorem dX7_halves_31 : decode cX7_halves 31 = .ok (.imul, 1) := by decide +kernel
theorem dX7_halves_32 : decode cX7_halves 32 = .ok (.iload_n 2, 1) := by decide +kernel
theorem dX7_halves_33 : decode cX7_halves 33 = .ok (.iadd, 1) := by decide +kernel
theorem dX7_halves_34 : decode cX7_halves 34 = .ok (.iconst 1, 1) := by decide +kernel
theorem dX7_halves_35 : decode cX7_halves 35 = .ok (.iadd, 1) := by decide +kernel
theorem dX7_halves_36 : decode cX7_halves 36 = .ok (.iaload, 1) := by decide +kernel
theorem dX7_halves_37 : decode cX7_halves 37 = .ok (.iconst 1, 1) := by decide +kernel
theorem dX7_halves_38 : decode cX7_halves 38 = .ok (.iand, 1) := by decide +kernel
theorem dX7_halves_39 : decode cX7_halves 39 = .ok (.goto 4, 3) := by decide +kernel
theorem dX7_halves_42 : decode cX7_halves 42 = .ok (.iconst 0, 1) := by decide +kernel
theorem dX7_halves_43 : decode cX7_halves 43 = .ok (.istore_n 3, 1) := by decide +kernel
theorem dX7_halves_44 : decode cX7_halves 44 = .ok (.aload_n 0, 1) := by decide +kernel
theorem dX7_halves_45 : decode cX7_halves 45 = .ok (.getfield 26, 3) := by decide +kernel
theorem dX7_halves_48 : decode cX7_halves 48 = .ok (.bipush 40, 2) := by decide +kernel
theorem dX7_halves_50 : decode cX7_halves 50 = .ok (.iload_n 1, 1) := by decide +kernel
theorem dX7_halves_51 : decode cX7_halves 51 = .ok (.imul, 1) := by decide +kernel
theorem dX7_halves_52 : decode cX7_halves 52 = .ok (.iload_n 2, 1) := by decide +kernel
theorem dX7_halves_53 : decode cX7_halves 53 = .ok (.iadd, 1) := by decide +kernel
theorem dX7_halves_54 : decode cX7_halves 54 = .ok (.aload_n 0, 1) := by decide +kernel
theorem dX7_halves_55 : decode cX7_halves 55 = .ok (.getfield 26, 3) := by decide +kernel
theorem dX7_halves_58 : decode cX7_halves 58 = .ok (.bipush 40, 2) := by decide +kernel
theorem dX7_halves_60 : decode cX7_halves 60 = .ok (.iload_n 1, 1) := by decide +kernel
theorem dX7_halves_61 : decode cX7_halves 61 = .ok (.imul, 1) := by decide +kernel
theorem dX7_halves_62 : decode cX7_halves 62 = .ok (.iload_n 2, 1) := by decide +kernel
theorem dX7_halves_63 : decode cX7_halves 63 = .ok (.iadd, 1) := by decide +kernel
theorem dX7_halves_64 : decode cX7_halves 64 = .ok (.iaload, 1) := by decide +kernel
theorem dX7_halves_65 : decode cX7_halves 65 = .ok (.iconst 1, 1) := by decide +kernel
theorem dX7_halves_66 : decode cX7_halves 66 = .ok (.ishr, 1) := by decide +kernel
theorem dX7_halves_67 : decode cX7_halves 67 = .ok (.iload_n 3, 1) := by decide +kernel
theorem dX7_halves_68 : decode cX7_halves 68 = .ok (.bipush 29, 2) := by decide +kernel
theorem dX7_halves_70 : decode cX7_halves 70 = .ok (.ishl, 1) := by decide +kernel
theorem dX7_halves_71 : decode cX7_halves 71 = .ok (.ior, 1) := by decide +kernel
theorem dX7_halves_72 : decode cX7_halves 72 = .ok (.iastore, 1) := by decide +kernel
theorem dX7_halves_73 : decode cX7_halves 73 = .ok (.iinc 2 1, 3) := by decide +kernel
theorem dX7_halves_76 : decode cX7_halves 76 = .ok (.goto (-74), 3) := by decide +kernel
theorem dX7_halves_79 : decode cX7_halves 79 = .ok (.aload_n 0, 1) := by decide +kernel
theorem dX7_halves_80 : decode cX7_halves 80 = .ok (.iload_n 1, 1) := by decide +kernel
theorem dX7_halves_81 : decode cX7_halves 81 = .ok (.invokevirtual 70, 3) := by decide +kernel
theorem dX7_halves_84 : decode cX7_halves 84 = .ok (.return_, 1) := by decide +kernel
theorem dX7_lowers_0 : decode cX7_lowers 0 = .ok (.aload_n 0, 1) := by decide +kernel
theorem dX7_lowers_1 : decode cX7_lowers 1 = .ok (.getfield 29, 3) := by decide +kernel
theorem dX7_lowers_4 : decode cX7_lowers 4 = .ok (.iconst 0, 1) := by decide +kernel
theorem dX7_lowers_5 : decode cX7_lowers 5 = .ok (.iaload, 1) := by decide +kernel
theorem dX7_lowers_6 : decode cX7_lowers 6 = .ok (.ifCond .ne 10, 3) := by decide +kernel
theorem dX7_lowers_9 : decode cX7_lowers 9 = .ok (.aload_n 0, 1) := by decide +kernel
theorem dX7_lowers_10 : decode cX7_lowers 10 = .ok (.iconst 1, 1) := by decide +kernel
theorem dX7_lowers_11 : decode cX7_lowers 11 = .ok (.lconst 1, 1) := by decide +kernel
theorem dX7_lowers_12 : decode cX7_lowers 12 = .ok (.invokevirtual 56, 3) := by decide +kernel
theorem dX7_lowers_15 : decode cX7_lowers 15 = .ok (.return_, 1) := by decide +kernel
theorem dX7_lowers_16 : decode cX7_lowers 16 = .ok (.aload_n 0, 1) := by decide +kernel
theorem dX7_lowers_17 : decode cX7_lowers 17 = .ok (.iconst 0, 1) := by decide +kernel
theorem dX7_lowers_18 : decode cX7_lowers 18 = .ok (.invokevirtual 79, 3) := by decide +kernel
theorem dX7_lowers_21 : decode cX7_lowers 21 = .ok (.ifCond .eq 24, 3) := by decide +kernel
theorem dX7_lowers_24 : decode cX7_lowers 24 = .ok (.aload_n 0, 1) := by decide +kernel
theorem dX7_lowers_25 : decode cX7_lowers 25 = .ok (.iconst 1, 1) := by decide +kernel
theorem dX7_lowers_26 : decode cX7_lowers 26 = .ok (.invokevirtual 79, 3) := by decide +kernel
theorem dX7_lowers_29 : decode cX7_lowers 29 = .ok (.ifCond .eq 16, 3) := by decide +kernel
theorem dX7_lowers_32 : decode cX7_lowers 32 = .ok (.aload_n 0, 1) := by decide +kernel
theorem dX7_lowers_33 : decode cX7_lowers 33 = .ok (.iconst 0, 1) := by decide +kernel
theorem dX7_lowers_34 : decode cX7_lowers 34 = .ok (.invokevirtual 83, 3) := by decide +kernel
theorem dX7_lowers_37 : decode cX7_lowers 37 = .ok (.aload_n 0, 1) := by decide +kernel
theorem dX7_lowers_38 : decode cX7_lowers 38 = .ok (.iconst 1, 1) := by decide +kernel
theorem dX7_lowers_39 : decode cX7_lowers 39 = .ok (.invokevirtual 83, 3) := by decide +kernel
theorem dX7_lowers_42 : decode cX7_lowers 42 = .ok (.goto (-26), 3) := by decide +kernel
theorem dX7_lowers_45 : decode cX7_lowers 45 = .ok (.aload_n 0, 1) := by decide +kernel
theorem dX7_lowers_46 : decode cX7_lowers 46 = .ok (.iconst 2, 1) := by decide +kernel
theorem dX7_lowers_47 : decode cX7_lowers 47 = .ok (.iconst 0, 1) := by decide +kernel
theorem dX7_lowers_48 : decode cX7_lowers 48 = .ok (.invokevirtual 74, 3) := by decide +kernel
theorem dX7_lowers_51 : decode cX7_lowers 51 = .ok (.aload_n 0, 1) := by decide +kernel
theorem dX7_lowers_52 : decode cX7_lowers 52 = .ok (.iconst 3, 1) := by decide +kernel
theorem dX7_lowers_53 : decode cX7_lowers 53 = .ok (.iconst 1, 1) := by decide +kernel
theorem dX7_lowers_54 : decode cX7_lowers 54 = .ok (.invokevirtual 74, 3) := by decide +kernel
theorem dX7_lowers_57 : decode cX7_lowers 57 = .ok (.aload_n 0, 1) := by decide +kernel
theorem dX7_lowers_58 : decode cX7_lowers 58 = .ok (.getfield 29, 3) := by decide +kernel
theorem dX7_lowers_61 : decode cX7_lowers 61 = .ok (.iconst 2, 1) := by decide +kernel
theorem dX7_lowers_62 : decode cX7_lowers 62 = .ok (.iaload, 1) := by decide +kernel
theorem dX7_lowers_63 : decode cX7_lowers 63 = .ok (.ifCond .le 82, 3) := by decide +kernel
theorem dX7_lowers_66 : decode cX7_lowers 66 = .ok (.aload_n 0, 1) := by decide +kernel
theorem dX7_lowers_67 : decode cX7_lowers 67 = .ok (.iconst 2, 1) := by decide +kernel
theorem dX7_lowers_68 : decode cX7_lowers 68 = .ok (.invokevirtual 79, 3) := by decide +kernel
theorem dX7_lowers_71 : decode cX7_lowers 71 = .ok (.ifCond .eq 11, 3) := by decide +kernel
theorem dX7_lowers_74 : decode cX7_lowers 74 = .ok (.aload_n 0, 1) := by decide +kernel
theorem dX7_lowers_75 : decode cX7_lowers 75 = .ok (.iconst 2, 1) := by decide +kernel
theorem dX7_lowers_76 : decode cX7_lowers 76 = .ok (.invokevirtual 83, 3) := by decide +kernel
theorem dX7_lowers_79 : decode cX7_lowers 79 = .ok (.goto (-13), 3) := by decide +kernel
theorem dX7_lowers_82 : decode cX7_lowers 82 = .ok (.aload_n 0, 1) := by decide +kernel
theorem dX7_lowers_83 : decode cX7_lowers 83 = .ok (.iconst 3, 1) := by decide +kernel
theorem dX7_lowers_84 : decode cX7_lowers 84 = .ok (.invokevirtual 79, 3) := by decide +kernel
theorem dX7_lowers_87 : decode cX7_lowers 87 = .ok (.ifCond .eq 11, 3) := by decide +kernel
theorem dX7_lowers_90 : decode cX7_lowers 90 = .ok (.aload_n 0, 1) := by decide +kernel
theorem dX7_lowers_91 : decode cX7_lowers 91 = .ok (.iconst 3, 1) := by decide +kernel
theorem dX7_lowers_92 : decode cX7_lowers 92 = .ok (.invokevirtual 83, 3) := by decide +kernel
theorem dX7_lowers_95 : decode cX7_lowers 95 = .ok (.goto (-13), 3) := by decide +kernel
theorem dX7_lowers_98 : decode cX7_lowers 98 = .ok (.aload_n 0, 1) := by decide +kernel
theorem dX7_lowers_99 : decode cX7_lowers 99 = .ok (.iconst 2, 1) := by decide +kernel
theorem dX7_lowers_100 : decode cX7_lowers 100 = .ok (.iconst 3, 1) := by decide +kernel
theorem dX7_lowers_101 : decode cX7_lowers 101 = .ok (.invokevirtual 86, 3) := by decide +kernel
theorem dX7_lowers_104 : decode cX7_lowers 104 = .ok (.ifCond .lt 7, 3) := by decide +kernel
theorem dX7_lowers_107 : decode cX7_lowers 107 = .ok (.iconst 2, 1) := by decide +kernel
theorem dX7_lowers_108 : decode cX7_lowers 108 = .ok (.goto 4, 3) := by decide +kernel
theorem dX7_lowers_111 : decode cX7_lowers 111 = .ok (.iconst 3, 1) := by decide +kernel
theorem dX7_lowers_112 : decode cX7_lowers 112 = .ok (.istore_n 1, 1) := by decide +kernel
theorem dX7_lowers_113 : decode cX7_lowers 113 = .ok (.aload_n 0, 1) := by decide +kernel
theorem dX7_lowers_114 : decode cX7_lowers 114 = .ok (.iload_n 1, 1) := by decide +kernel
theorem dX7_lowers_115 : decode cX7_lowers 115 = .ok (.iconst 5, 1) := by decide +kernel
theorem dX7_lowers_116 : decode cX7_lowers 116 = .ok (.iload_n 1, 1) := by decide +kernel
theorem dX7_lowers_117 : decode cX7_lowers 117 = .ok (.isub, 1) := by decide +kernel
theorem dX7_lowers_118 : decode cX7_lowers 118 = .ok (.invokevirtual 89, 3) := by decide +kernel
theorem dX7_lowers_121 : decode cX7_lowers 121 = .ok (.aload_n 0, 1) := by decide +kernel
theorem dX7_lowers_122 : decode cX7_lowers 122 = .ok (.getfield 29, 3) := by decide +kernel
theorem dX7_lowers_125 : decode cX7_lowers 125 = .ok (.iconst 3, 1) := by decide +kernel
theorem dX7_lowers_126 : decode cX7_lowers 126 = .ok (.iaload, 1) := by decide +kernel
theorem dX7_lowers_127 : decode cX7_lowers 127 = .ok (.ifCond .ne 15, 3) := by decide +kernel
theorem dX7_lowers_130 : decode cX7_lowers 130 = .ok (.aload_n 0, 1) := by decide +kernel
theorem dX7_lowers_131 : decode cX7_lowers 131 = .ok (.iconst 3, 1) := by decide +kernel
theorem dX7_lowers_132 : decode cX7_lowers 132 = .ok (.iconst 2, 1) := by decide +kernel
theorem dX7_lowers_133 : decode cX7_lowers 133 = .ok (.invokevirtual 74, 3) := by decide +kernel
theorem dX7_lowers_136 : decode cX7_lowers 136 = .ok (.aload_n 0, 1) := by decide +kernel
theorem dX7_lowers_137 : decode cX7_lowers 137 = .ok (.iconst 2, 1) := by decide +kernel
theorem dX7_lowers_138 : decode cX7_lowers 138 = .ok (.lconst 0, 1) := by decide +kernel
theorem dX7_lowers_139 : decode cX7_lowers 139 = .ok (.invokevirtual 56, 3) := by decide +kernel
theorem dX7_lowers_142 : decode cX7_lowers 142 = .ok (.goto (-85), 3) := by decide +kernel
theorem dX7_lowers_145 : decode cX7_lowers 145 = .ok (.aload_n 0, 1) := by decide +kernel
theorem dX7_lowers_146 : decode cX7_lowers 146 = .ok (.iconst 0, 1) := by decide +kernel
theorem dX7_lowers_147 : decode cX7_lowers 147 = .ok (.invokevirtual 92, 3) := by decide +kernel
theorem dX7_lowers_150 : decode cX7_lowers 150 = .ok (.aload_n 0, 1) := by decide +kernel
theorem dX7_lowers_151 : decode cX7_lowers 151 = .ok (.iconst 1, 1) := by decide +kernel
theorem dX7_lowers_152 : decode cX7_lowers 152 = .ok (.invokevirtual 92, 3) := by decide +kernel
theorem dX7_lowers_155 : decode cX7_lowers 155 = .ok (.return_, 1) := by decide +kernel
theorem dX7_parts_0 : decode cX7_parts 0 = .ok (.iconst 1, 1) := by decide +kernel
theorem dX7_parts_1 : decode cX7_parts 1 = .ok (.istore_n 2, 1) := by decide +kernel
theorem dX7_parts_2 : decode cX7_parts 2 = .ok (.iconst 0, 1) := by decide +kernel
theorem dX7_parts_3 : decode cX7_parts 3 = .ok (.istore_n 3, 1) := by decide +kernel
theorem dX7_parts_4 : decode cX7_parts 4 = .ok (.iload_n 3, 1) := by decide +kernel
theorem dX7_parts_5 : decode cX7_parts 5 = .ok (.iconst 5, 1) := by decide +kernel
theorem dX7_parts_6 : decode cX7_parts 6 = .ok (.if_icmp .ge 23, 3) := by decide +kernel
theorem dX7_parts_9 : decode cX7_parts 9 = .ok (.iload_n 2, 1) := by decide +kernel
theorem dX7_parts_10 : decode cX7_parts 10 = .ok (.iconst 2, 1) := by decide +kernel
theorem dX7_parts_11 : decode cX7_parts 11 = .ok (.aload_n 0, 1) := by decide +kernel
theorem dX7_parts_12 : decode cX7_parts 12 = .ok (.getfield 26, 3) := by decide +kernel
theorem dX7_parts_15 : decode cX7_parts 15 = .ok (.bipush 120, 2) := by decide +kernel
theorem dX7_parts_17 : decode cX7_parts 17 = .ok (.iaload, 1) := by decide +kernel
theorem dX7_parts_18 : decode cX7_parts 18 = .ok (.iload_n 2, 1) := by decide +kernel
theorem dX7_parts_19 : decode cX7_parts 19 = .ok (.imul, 1) := by decide +kernel
theorem dX7_parts_20 : decode cX7_parts 20 = .ok (.isub, 1) := by decide +kernel
theorem dX7_parts_21 : decode cX7_parts 21 = .ok (.imul, 1) := by decide +kernel
theorem dX7_parts_22 : decode cX7_parts 22 = .ok (.istore_n 2, 1) := by decide +kernel
theorem dX7_parts_23 : decode cX7_parts 23 = .ok (.iinc 3 1, 3) := by decide +kernel
theorem dX7_parts_26 : decode cX7_parts 26 = .ok (.goto (-22), 3) := by decide +kernel
theorem dX7_parts_29 : decode cX7_parts 29 = .ok (.aload_n 0, 1) := by decide +kernel
theorem dX7_parts_30 : decode cX7_parts 30 = .ok (.getfield 29, 3) := by decide +kernel
theorem dX7_parts_33 : decode cX7_parts 33 = .ok (.iload_n 1, 1) := by decide +kernel
theorem dX7_parts_34 : decode cX7_parts 34 = .ok (.iaload, 1) := by decide +kernel
theorem dX7_parts_35 : decode cX7_parts 35 = .ok (.istore_n 3, 1) := by decide +kernel
theorem dX7_parts_36 : decode cX7_parts 36 = .ok (.iconst 0, 1) := by decide +kernel
theorem dX7_parts_37 : decode cX7_parts 37 = .ok (.istore 4, 2) := by decide +kernel
theorem dX7_parts_39 : decode cX7_parts 39 = .ok (.iload 4, 2) := by decide +kernel
theorem dX7_parts_41 : decode cX7_parts 41 = .ok (.iload_n 3, 1) := by decide +kernel
theorem dX7_parts_42 : decode cX7_parts 42 = .ok (.if_icmp .ge 148, 3) := by decide +kernel
theorem dX7_parts_45 : decode cX7_parts 45 = .ok (.aload_n 0, 1) := by decide +kernel
theorem dX7_parts_46 : decode cX7_parts 46 = .ok (.getfield 26, 3) := by decide +kernel
theorem dX7_parts_49 : decode cX7_parts 49 = .ok (.bipush 40, 2) := by decide +kernel
theorem dX7_parts_51 : decode cX7_parts 51 = .ok (.iload_n 1, 1) := by decide +kernel
theorem dX7_parts_52 : decode cX7_parts 52 = .ok (.imul, 1) := by decide +kernel
theorem dX7_parts_53 : decode cX7_parts 53 = .ok (.iload 4, 2) := by decide +kernel
theorem dX7_parts_55 : decode cX7_parts 55 = .ok (.iadd, 1) := by decide +kernel
theorem dX7_parts_56 : decode cX7_parts 56 = .ok (.iaload, 1) := by decide +kernel
theorem dX7_parts_57 : decode cX7_parts 57 = .ok (.iload_n 2, 1) := by decide +kernel
theorem dX7_parts_58 : decode cX7_parts 58 = .ok (.imul, 1) := by decide +kernel
theorem dX7_parts_59 : decode cX7_parts 59 = .ok (.ldc 78, 2) := by decide +kernel
theorem dX7_parts_61 : decode cX7_parts 61 = .ok (.iand, 1) := by decide +kernel
theorem dX7_parts_62 : decode cX7_parts 62 = .ok (.istore 5, 2) := by decide +kernel
theorem dX7_parts_64 : decode cX7_parts 64 = .ok (.lconst 0, 1) := by decide +kernel
theorem dX7_parts_65 : decode cX7_parts 65 = .ok (.lstore 6, 2) := by decide +kernel
theorem dX7_parts_67 : decode cX7_parts 67 = .ok (.iconst 0, 1) := by decide +kernel
theorem dX7_parts_68 : decode cX7_parts 68 = .ok (.istore 8, 2) := by decide +kernel
theorem dX7_parts_70 : decode cX7_parts 70 = .ok (.iload 4, 2) := by decide +kernel
theorem dX7_parts_72 : decode cX7_parts 72 = .ok (.iload 8, 2) := by decide +kernel
theorem dX7_parts_74 : decode cX7_parts 74 = .ok (.iadd, 1) := by decide +kernel
theorem dX7_parts_75 : decode cX7_parts 75 = .ok (.iload_n 3, 1) := by decide +kernel
theorem dX7_parts_76 : decode cX7_parts 76 = .ok (.if_icmp .ge 95, 3) := by decide +kernel
theorem dX7_parts_79 : decode cX7_parts 79 = .ok (.iload 8, 2) := by decide +kernel
theorem dX7_parts_81 : decode cX7_parts 81 = .ok (.aload_n 0, 1) := by decide +kernel
theorem dX7_parts_82 : decode cX7_parts 82 = .ok (.getfield 29, 3) := by decide +kernel
theorem dX7_parts_85 : decode cX7_parts 85 = .ok (.iconst 3, 1) := by decide +kernel
theorem dX7_parts_86 : decode cX7_parts 86 = .ok (.iaload, 1) := by decide +kernel
theorem dX7_parts_87 : decode cX7_parts 87 = .ok (.if_icmp .ge 21, 3) := by decide +kernel
theorem dX7_parts_90 : decode cX7_parts 90 = .ok (.iload 5, 2) := by decide +kernel
theorem dX7_parts_92 : decode cX7_parts 92 = .ok (.i2l, 1) := by decide +kernel
theorem dX7_parts_93 : decode cX7_parts 93 = .ok (.aload_n 0, 1) := by decide +kernel
theorem dX7_parts_94 : decode cX7_parts 94 = .ok (.getfield 26, 3) := by decide +kernel
theorem dX7_parts_97 : decode cX7_parts 97 = .ok (.bipush 120, 2) := by decide +kernel
theorem dX7_parts_99 : decode cX7_parts 99 = .ok (.iload 8, 2) := by decide +kernel
theorem dX7_parts_101 : decode cX7_parts 101 = .ok (.iadd, 1) := by decide +kernel
theorem dX7_parts_102 : decode cX7_parts 102 = .ok (.iaload, 1) := by decide +kernel
theorem dX7_parts_103 : decode cX7_parts 103 = .ok (.i2l, 1) := by decide +kernel
theorem dX7_parts_104 : decode cX7_parts 104 = .ok (.lmul, 1) := by decide +kernel
theorem dX7_parts_105 : decode cX7_parts 105 = .ok (.goto 4, 3) := by decide +kernel
theorem dX7_parts_108 : decode cX7_parts 108 = .ok (.lconst 0, 1) := by decide +kernel
theorem dX7_parts_109 : decode cX7_parts 109 = .ok (.lstore 9, 2) := by decide +kernel
theorem dX7_parts_111 : decode cX7_parts 111 = .ok (.aload_n 0, 1) := by decide +kernel
theorem dX7_parts_112 : decode cX7_parts 112 = .ok (.getfield 26, 3) := by decide +kernel
theorem dX7_parts_115 : decode cX7_parts 115 = .ok (.bipush 40, 2) := by decide +kernel
theorem dX7_parts_117 : decode cX7_parts 117 = .ok (.iload_n 1, 1) := by decide +kernel
theorem dX7_parts_118 : decode cX7_parts 118 = .ok (.imul, 1) := by decide +kernel
theorem dX7_parts_119 : decode cX7_parts 119 = .ok (.iload 4, 2) := by decide +kernel
theorem dX7_parts_121 : decode cX7_parts 121 = .ok (.iadd, 1) := by decide +kernel
theorem dX7_parts_122 : decode cX7_parts 122 = .ok (.iload 8, 2) := by decide +kernel
theorem dX7_parts_124 : decode cX7_parts 124 = .ok (.iadd, 1) := by decide +kernel
theorem dX7_parts_125 : decode cX7_parts 125 = .ok (.iaload, 1) := by decide +kernel
theorem dX7_parts_126 : decode cX7_parts 126 = .ok (.i2l, 1) := by decide +kernel
theorem dX7_parts_127 : decode cX7_parts 127 = .ok (.lload 9, 2) := by decide +kernel
theorem dX7_parts_129 : decode cX7_parts 129 = .ok (.lsub, 1) := by decide +kernel
theorem dX7_parts_130 : decode cX7_parts 130 = .ok (.lload 6, 2) := by decide +kernel
theorem dX7_parts_132 : decode cX7_parts 132 = .ok (.lsub, 1) := by decide +kernel
theorem dX7_parts_133 : decode cX7_parts 133 = .ok (.lstore 11, 2) := by decide +kernel
theorem dX7_parts_135 : decode cX7_parts 135 = .ok (.aload_n 0, 1) := by decide +kernel
theorem dX7_parts_136 : decode cX7_parts 136 = .ok (.getfield 26, 3) := by decide +kernel
theorem dX7_parts_139 : decode cX7_parts 139 = .ok (.bipush 40, 2) := by decide +kernel
theorem dX7_parts_141 : decode cX7_parts 141 = .ok (.iload_n 1, 1) := by decide +kernel
theorem dX7_parts_142 : decode cX7_parts 142 = .ok (.imul, 1) := by decide +kernel
theorem dX7_parts_143 : decode cX7_parts 143 = .ok (.iload 4, 2) := by decide +kernel
theorem dX7_parts_145 : decode cX7_parts 145 = .ok (.iadd, 1) := by decide +kernel
theorem dX7_parts_146 : decode cX7_parts 146 = .ok (.iload 8, 2) := by decide +kernel
theorem dX7_parts_148 : decode cX7_parts 148 = .ok (.iadd, 1) := by decide +kernel
theorem dX7_parts_149 : decode cX7_parts 149 = .ok (.lload 11, 2) := by decide +kernel
theorem dX7_parts_151 : decode cX7_parts 151 = .ok (.ldc2_w 68, 3) := by decide +kernel
theorem dX7_parts_154 : decode cX7_parts 154 = .ok (.land, 1) := by decide +kernel
theorem dX7_parts_155 : decode cX7_parts 155 = .ok (.l2i, 1) := by decide +kernel
theorem dX7_parts_156 : decode cX7_parts 156 = .ok (.iastore, 1) := by decide +kernel
theorem dX7_parts_157 : decode cX7_parts 157 = .ok (.lload 11, 2) := by decide +kernel
theorem dX7_parts_159 : decode cX7_parts 159 = .ok (.bipush 30, 2) := by decide +kernel
theorem dX7_parts_161 : decode cX7_parts 161 = .ok (.lshr, 1) := by decide +kernel
theorem dX7_parts_162 : decode cX7_parts 162 = .ok (.lneg, 1) := by decide +kernel
theorem dX7_parts_163 : decode cX7_parts 163 = .ok (.lstore 6, 2) := by decide +kernel
theorem dX7_parts_165 : decode cX7_parts 165 = .ok (.iinc 8 1, 3) := by decide +kernel
theorem dX7_parts_168 : decode cX7_parts 168 = .ok (.goto (-98), 3) := by decide +kernel
theorem dX7_parts_171 : decode cX7_parts 171 = .ok (.aload_n 0, 1) := by decide +kernel
theorem dX7_parts_172 : decode cX7_parts 172 = .ok (.getfield 26, 3) := by decide +kernel
theorem dX7_parts_175 : decode cX7_parts 175 = .ok (.sipush 160, 3) := by decide +kernel
theorem dX7_parts_178 : decode cX7_parts 178 = .ok (.iload 4, 2) := by decide +kernel
theorem dX7_parts_180 : decode cX7_parts 180 = .ok (.iadd, 1) := by decide +kernel
theorem dX7_parts_181 : decode cX7_parts 181 = .ok (.iload 5, 2) := by decide +kernel
theorem dX7_parts_183 : decode cX7_parts 183 = .ok (.iastore, 1) := by decide +kernel
theorem dX7_parts_184 : decode cX7_parts 184 = .ok (.iinc 4 1, 3) := by decide +kernel
theorem dX7_parts_187 : decode cX7_parts 187 = .ok (.goto (-148), 3) := by decide +kernel
theorem dX7_parts_190 : decode cX7_parts 190 = .ok (.iconst 0, 1) := by decide +kernel
theorem dX7_parts_191 : decode cX7_parts 191 = .ok (.istore 4, 2) := by decide +kernel
theorem dX7_parts_193 : decode cX7_parts 193 = .ok (.iload 4, 2) := by decide +kernel
theorem dX7_parts_195 : decode cX7_parts 195 = .ok (.iload_n 3, 1) := by decide +kernel
theorem dX7_parts_196 : decode cX7_parts 196 = .ok (.if_icmp .ge 32, 3) := by decide +kernel
theorem dX7_parts_199 : decode cX7_parts 199 = .ok (.aload_n 0, 1) := by decide +kernel
theorem dX7_parts_200 : decode cX7_parts 200 = .ok (.getfield 26, 3) := by decide +kernel
theorem dX7_parts_203 : decode cX7_parts 203 = .ok (.bipush 40, 2) := by decide +kernel
theorem dX7_parts_205 : decode cX7_parts 205 = .ok (.iload_n 1, 1) := by decide +kernel
theorem dX7_parts_206 : decode cX7_parts 206 = .ok (.imul, 1) := by decide +kernel
theorem dX7_parts_207 : decode cX7_parts 207 = .ok (.iload 4, 2) := by decide +kernel
theorem dX7_parts_209 : decode cX7_parts 209 = .ok (.iadd, 1) := by decide +kernel
theorem dX7_parts_210 : decode cX7_parts 210 = .ok (.aload_n 0, 1) := by decide +kernel
theorem dX7_parts_211 : decode cX7_parts 211 = .ok (.getfield 26, 3) := by decide +kernel
theorem dX7_parts_214 : decode cX7_parts 214 = .ok (.sipush 160, 3) := by decide +kernel
theorem dX7_parts_217 : decode cX7_parts 217 = .ok (.iload 4, 2) := by decide +kernel
theorem dX7_parts_219 : decode cX7_parts 219 = .ok (.iadd, 1) := by decide +kernel
theorem dX7_parts_220 : decode cX7_parts 220 = .ok (.iaload, 1) := by decide +kernel
theorem dX7_parts_221 : decode cX7_parts 221 = .ok (.iastore, 1) := by decide +kernel
theorem dX7_parts_222 : decode cX7_parts 222 = .ok (.iinc 4 1, 3) := by decide +kernel
theorem dX7_parts_225 : decode cX7_parts 225 = .ok (.goto (-32), 3) := by decide +kernel
theorem dX7_parts_228 : decode cX7_parts 228 = .ok (.aload_n 0, 1) := by decide +kernel
theorem dX7_parts_229 : decode cX7_parts 229 = .ok (.iload_n 1, 1) := by decide +kernel
theorem dX7_parts_230 : decode cX7_parts 230 = .ok (.invokevirtual 70, 3) := by decide +kernel
theorem dX7_parts_233 : decode cX7_parts 233 = .ok (.return_, 1) := by decide +kernel
theorem dX7_sign_0 : decode cX7_sign 0 = .ok (.iload_n 1, 1) := by decide +kernel
theorem dX7_sign_1 : decode cX7_sign 1 = .ok (.ifCond .ne 20, 3) := by decide +kernel
theorem dX7_sign_4 : decode cX7_sign 4 = .ok (.aload_n 0, 1) := by decide +kernel
theorem dX7_sign_5 : decode cX7_sign 5 = .ok (.getfield 29, 3) := by decide +kernel
theorem dX7_sign_8 : decode cX7_sign 8 = .ok (.iconst 0, 1) := by decide +kernel
theorem dX7_sign_9 : decode cX7_sign 9 = .ok (.iaload, 1) := by decide +kernel
theorem dX7_sign_10 : decode cX7_sign 10 = .ok (.ifCond .le 7, 3) := by decide +kernel
theorem dX7_sign_13 : decode cX7_sign 13 = .ok (.iconst 1, 1) := by decide +kernel
theorem dX7_sign_14 : decode cX7_sign 14 = .ok (.goto 39, 3) := by decide +kernel
theorem dX7_sign_17 : decode cX7_sign 17 = .ok (.iconst 0, 1) := by decide +kernel
theorem dX7_sign_18 : decode cX7_sign 18 = .ok (.goto 35, 3) := by decide +kernel
theorem dX7_sign_21 : decode cX7_sign 21 = .ok (.iload_n 1, 1) := by decide +kernel
theorem dX7_sign_22 : decode cX7_sign 22 = .ok (.iconst 1, 1) := by decide +kernel
theorem dX7_sign_23 : decode cX7_sign 23 = .ok (.if_icmp .ne 12, 3) := by decide +kernel
theorem dX7_sign_26 : decode cX7_sign 26 = .ok (.aload_n 0, 1) := by decide +kernel
theorem dX7_sign_27 : decode cX7_sign 27 = .ok (.getfield 29, 3) := by decide +kernel
theorem dX7_sign_30 : decode cX7_sign 30 = .ok (.iconst 0, 1) := by decide +kernel
theorem dX7_sign_31 : decode cX7_sign 31 = .ok (.iaload, 1) := by decide +kernel
theorem dX7_sign_32 : decode cX7_sign 32 = .ok (.goto 21, 3) := by decide +kernel
theorem dX7_sign_35 : decode cX7_sign 35 = .ok (.iload_n 1, 1) := by decide +kernel
theorem dX7_sign_36 : decode cX7_sign 36 = .ok (.iconst 2, 1) := by decide +kernel
theorem dX7_sign_37 : decode cX7_sign 37 = .ok (.if_icmp .ne 12, 3) := by decide +kernel
theorem dX7_sign_40 : decode cX7_sign 40 = .ok (.aload_n 0, 1) := by decide +kernel
theorem dX7_sign_41 : decode cX7_sign 41 = .ok (.getfield 29, 3) := by decide +kernel
theorem dX7_sign_44 : decode cX7_sign 44 = .ok (.iconst 1, 1) := by decide +kernel
theorem dX7_sign_45 : decode cX7_sign 45 = .ok (.iaload, 1) := by decide +kernel
theorem dX7_sign_46 : decode cX7_sign 46 = .ok (.goto 7, 3) := by decide +kernel
theorem dX7_sign_49 : decode cX7_sign 49 = .ok (.aload_n 0, 1) := by decide +kernel
theorem dX7_sign_50 : decode cX7_sign 50 = .ok (.invokevirtual 98, 3) := by decide +kernel
theorem dX7_sign_53 : decode cX7_sign 53 = .ok (.ireturn, 1) := by decide +kernel
theorem dX7_limb_0 : decode cX7_limb 0 = .ok (.iload_n 1, 1) := by decide +kernel
theorem dX7_limb_1 : decode cX7_limb 1 = .ok (.i2l, 1) := by decide +kernel
theorem dX7_limb_2 : decode cX7_limb 2 = .ok (.lconst 0, 1) := by decide +kernel
theorem dX7_limb_3 : decode cX7_limb 3 = .ok (.lconst 1, 1) := by decide +kernel
theorem dX7_limb_4 : decode cX7_limb 4 = .ok (.invokestatic 102, 3) := by decide +kernel
theorem dX7_limb_7 : decode cX7_limb 7 = .ok (.ifCond .eq 7, 3) := by decide +kernel
theorem dX7_limb_10 : decode cX7_limb 10 = .ok (.iload_n 2, 1) := by decide +kernel
theorem dX7_limb_11 : decode cX7_limb 11 = .ok (.ifCond .ge 8, 3) := by decide +kernel
theorem dX7_limb_14 : decode cX7_limb 14 = .ok (.aload_n 0, 1) := by decide +kernel
theorem dX7_limb_15 : decode cX7_limb 15 = .ok (.invokevirtual 98, 3) := by decide +kernel
theorem dX7_limb_18 : decode cX7_limb 18 = .ok (.ireturn, 1) := by decide +kernel
theorem dX7_limb_19 : decode cX7_limb 19 = .ok (.iload_n 2, 1) := by decide +kernel
theorem dX7_limb_20 : decode cX7_limb 20 = .ok (.aload_n 0, 1) := by decide +kernel
theorem dX7_limb_21 : decode cX7_limb 21 = .ok (.getfield 29, 3) := by decide +kernel
theorem dX7_limb_24 : decode cX7_limb 24 = .ok (.iload_n 1, 1) := by decide +kernel
theorem dX7_limb_25 : decode cX7_limb 25 = .ok (.iaload, 1) := by decide +kernel
theorem dX7_limb_26 : decode cX7_limb 26 = .ok (.if_icmp .ge 17, 3) := by decide +kernel
theorem dX7_limb_29 : decode cX7_limb 29 = .ok (.aload_n 0, 1) := by decide +kernel
theorem dX7_limb_30 : decode cX7_limb 30 = .ok (.getfield 26, 3) := by decide +kernel
theorem dX7_limb_33 : decode cX7_limb 33 = .ok (.bipush 40, 2) := by decide +kernel
theorem dX7_limb_35 : decode cX7_limb 35 = .ok (.iload_n 1, 1) := by decide +kernel
theorem dX7_limb_36 : decode cX7_limb 36 = .ok (.imul, 1) := by decide +kernel
theorem dX7_limb_37 : decode cX7_limb 37 = .ok (.iload_n 2, 1) := by decide +kernel
theorem dX7_limb_38 : decode cX7_limb 38 = .ok (.iadd, 1) := by decide +kernel
theorem dX7_limb_39 : decode cX7_limb 39 = .ok (.iaload, 1) := by decide +kernel
theorem dX7_limb_40 : decode cX7_limb 40 = .ok (.goto 4, 3) := by decide +kernel
theorem dX7_limb_43 : decode cX7_limb 43 = .ok (.iconst (-1), 1) := by decide +kernel
theorem dX7_limb_44 : decode cX7_limb 44 = .ok (.ireturn, 1) := by decide +kernel
theorem dX7_puts_0 : decode cX7_puts 0 = .ok (.aload_n 0, 1) := by decide +kernel
theorem dX7_puts_1 : decode cX7_puts 1 = .ok (.getfield 7, 3) := by decide +kernel
theorem dX7_puts_4 : decode cX7_puts 4 = .ok (.iload_n 1, 1) := by decide +kernel
theorem dX7_puts_5 : decode cX7_puts 5 = .ok (.iaload, 1) := by decide +kernel
theorem dX7_puts_6 : decode cX7_puts 6 = .ok (.istore_n 3, 1) := by decide +kernel
theorem dX7_puts_7 : decode cX7_puts 7 = .ok (.aload_n 0, 1) := by decide +kernel
theorem dX7_puts_8 : decode cX7_puts 8 = .ok (.getfield 7, 3) := by decide +kernel
theorem dX7_puts_11 : decode cX7_puts 11 = .ok (.iload_n 1, 1) := by decide +kernel
theorem dX7_puts_12 : decode cX7_puts 12 = .ok (.iload_n 2, 1) := by decide +kernel
theorem dX7_puts_13 : decode cX7_puts 13 = .ok (.iastore, 1) := by decide +kernel
theorem dX7_puts_14 : decode cX7_puts 14 = .ok (.iload_n 3, 1) := by decide +kernel
theorem dX7_puts_15 : decode cX7_puts 15 = .ok (.ireturn, 1) := by decide +kernel
theorem dX7_isCell_0 : decode cX7_isCell 0 = .ok (.iload_n 0, 1) := by decide +kernel
theorem dX7_isCell_1 : decode cX7_isCell 1 = .ok (.i2l, 1) := by decide +kernel
theorem dX7_isCell_2 : decode cX7_isCell 2 = .ok (.lconst 0, 1) := by decide +kernel
theorem dX7_isCell_3 : decode cX7_isCell 3 = .ok (.ldc2_w 106, 3) := by decide +kernel
theorem dX7_isCell_6 : decode cX7_isCell 6 = .ok (.invokestatic 102, 3) := by decide +kernel
theorem dX7_isCell_9 : decode cX7_isCell 9 = .ok (.ireturn, 1) := by decide +kernel
theorem dX7_isStuff_0 : decode cX7_isStuff 0 = .ok (.iload_n 1, 1) := by decide +kernel
theorem dX7_isStuff_1 : decode cX7_isStuff 1 = .ok (.i2l, 1) := by decide +kernel
theorem dX7_isStuff_2 : decode cX7_isStuff 2 = .ok (.lconst 0, 1) := by decide +kernel
theorem dX7_isStuff_3 : decode cX7_isStuff 3 = .ok (.aload_n 0, 1) := by decide +kernel
theorem dX7_isStuff_4 : decode cX7_isStuff 4 = .ok (.getfield 7, 3) := by decide +kernel
theorem dX7_isStuff_7 : decode cX7_isStuff 7 = .ok (.iconst 0, 1) := by decide +kernel
theorem dX7_isStuff_8 : decode cX7_isStuff 8 = .ok (.iaload, 1) := by decide +kernel
theorem dX7_isStuff_9 : decode cX7_isStuff 9 = .ok (.iconst 1, 1) := by decide +kernel
theorem dX7_isStuff_10 : decode cX7_isStuff 10 = .ok (.isub, 1) := by decide +kernel
theorem dX7_isStuff_11 : decode cX7_isStuff 11 = .ok (.i2l, 1) := by decide +kernel
theorem dX7_isStuff_12 : decode cX7_isStuff 12 = .ok (.invokestatic 102, 3) := by decide +kernel
theorem dX7_isStuff_15 : decode cX7_isStuff 15 = .ok (.ireturn, 1) := by decide +kernel
theorem dX7_ofStuff_0 : decode cX7_ofStuff 0 = .ok (.aload_n 0, 1) := by decide +kernel
theorem dX7_ofStuff_1 : decode cX7_ofStuff 1 = .ok (.getfield 7, 3) := by decide +kernel
theorem dX7_ofStuff_4 : decode cX7_ofStuff 4 = .ok (.bipush 40, 2) := by decide +kernel
theorem dX7_ofStuff_6 : decode cX7_ofStuff 6 = .ok (.iconst 4, 1) := by decide +kernel
theorem dX7_ofStuff_7 : decode cX7_ofStuff 7 = .ok (.iload_n 1, 1) := by decide +kernel
theorem dX7_ofStuff_8 : decode cX7_ofStuff 8 = .ok (.imul, 1) := by decide +kernel
theorem dX7_ofStuff_9 : decode cX7_ofStuff 9 = .ok (.iadd, 1) := by decide +kernel
theorem dX7_ofStuff_10 : decode cX7_ofStuff 10 = .ok (.iload_n 2, 1) := by decide +kernel
theorem dX7_ofStuff_11 : decode cX7_ofStuff 11 = .ok (.iadd, 1) := by decide +kernel
theorem dX7_ofStuff_12 : decode cX7_ofStuff 12 = .ok (.iaload, 1) := by decide +kernel
theorem dX7_ofStuff_13 : decode cX7_ofStuff 13 = .ok (.ireturn, 1) := by decide +kernel
theorem dX7_stuff_0 : decode cX7_stuff 0 = .ok (.iload_n 1, 1) := by decide +kernel
theorem dX7_stuff_1 : decode cX7_stuff 1 = .ok (.i2l, 1) := by decide +kernel
theorem dX7_stuff_2 : decode cX7_stuff 2 = .ok (.lconst 1, 1) := by decide +kernel
theorem dX7_stuff_3 : decode cX7_stuff 3 = .ok (.ldc2_w 108, 3) := by decide +kernel
theorem dX7_stuff_6 : decode cX7_stuff 6 = .ok (.invokestatic 102, 3) := by decide +kernel
theorem dX7_stuff_9 : decode cX7_stuff 9 = .ok (.ifCond .eq 40, 3) := by decide +kernel
theorem dX7_stuff_12 : decode cX7_stuff 12 = .ok (.iload_n 2, 1) := by decide +kernel
theorem dX7_stuff_13 : decode cX7_stuff 13 = .ok (.i2l, 1) := by decide +kernel
theorem dX7_stuff_14 : decode cX7_stuff 14 = .ok (.lconst 0, 1) := by decide +kernel
theorem dX7_stuff_15 : decode cX7_stuff 15 = .ok (.ldc2_w 110, 3) := by decide +kernel
theorem dX7_stuff_18 : decode cX7_stuff 18 = .ok (.invokestatic 102, 3) := by decide +kernel
theorem dX7_stuff_21 : decode cX7_stuff 21 = .ok (.ifCond .eq 28, 3) := by decide +kernel
theorem dX7_stuff_24 : decode cX7_stuff 24 = .ok (.iload_n 3, 1) := by decide +kernel
theorem dX7_stuff_25 : decode cX7_stuff 25 = .ok (.i2l, 1) := by decide +kernel
theorem dX7_stuff_26 : decode cX7_stuff 26 = .ok (.lconst 0, 1) := by decide +kernel
theorem dX7_stuff_27 : decode cX7_stuff 27 = .ok (.ldc2_w 112, 3) := by decide +kernel
theorem dX7_stuff_30 : decode cX7_stuff 30 = .ok (.invokestatic 102, 3) := by decide +kernel
theorem dX7_stuff_33 : decode cX7_stuff 33 = .ok (.ifCond .eq 16, 3) := by decide +kernel
theorem dX7_stuff_36 : decode cX7_stuff 36 = .ok (.iload 4, 2) := by decide +kernel
theorem dX7_stuff_38 : decode cX7_stuff 38 = .ok (.i2l, 1) := by decide +kernel
theorem dX7_stuff_39 : decode cX7_stuff 39 = .ok (.lconst 1, 1) := by decide +kernel
theorem dX7_stuff_40 : decode cX7_stuff 40 = .ok (.ldc2_w 110, 3) := by decide +kernel
theorem dX7_stuff_43 : decode cX7_stuff 43 = .ok (.invokestatic 102, 3) := by decide +kernel
theorem dX7_stuff_46 : decode cX7_stuff 46 = .ok (.ifCond .ne 8, 3) := by decide +kernel
theorem dX7_stuff_49 : decode cX7_stuff 49 = .ok (.aload_n 0, 1) := by decide +kernel
theorem dX7_stuff_50 : decode cX7_stuff 50 = .ok (.invokevirtual 98, 3) := by decide +kernel
theorem dX7_stuff_53 : decode cX7_stuff 53 = .ok (.ireturn, 1) := by decide +kernel
theorem dX7_stuff_54 : decode cX7_stuff 54 = .ok (.aload_n 0, 1) := by decide +kernel
theorem dX7_stuff_55 : decode cX7_stuff 55 = .ok (.getfield 7, 3) := by decide +kernel
theorem dX7_stuff_58 : decode cX7_stuff 58 = .ok (.iconst 0, 1) := by decide +kernel
theorem dX7_stuff_59 : decode cX7_stuff 59 = .ok (.iaload, 1) := by decide +kernel
theorem dX7_stuff_60 : decode cX7_stuff 60 = .ok (.iconst 4, 1) := by decide +kernel
theorem dX7_stuff_61 : decode cX7_stuff 61 = .ok (.if_icmp .ne 8, 3) := by decide +kernel
theorem dX7_stuff_64 : decode cX7_stuff 64 = .ok (.aload_n 0, 1) := by decide +kernel
theorem dX7_stuff_65 : decode cX7_stuff 65 = .ok (.invokevirtual 114, 3) := by decide +kernel
theorem dX7_stuff_68 : decode cX7_stuff 68 = .ok (.ireturn, 1) := by decide +kernel
theorem dX7_stuff_69 : decode cX7_stuff 69 = .ok (.bipush 40, 2) := by decide +kernel
theorem dX7_stuff_71 : decode cX7_stuff 71 = .ok (.iconst 4, 1) := by decide +kernel
theorem dX7_stuff_72 : decode cX7_stuff 72 = .ok (.aload_n 0, 1) := by decide +kernel
theorem dX7_stuff_73 : decode cX7_stuff 73 = .ok (.getfield 7, 3) := by decide +kernel
theorem dX7_stuff_76 : decode cX7_stuff 76 = .ok (.iconst 0, 1) := by decide +kernel
theorem dX7_stuff_77 : decode cX7_stuff 77 = .ok (.iaload, 1) := by decide +kernel
theorem dX7_stuff_78 : decode cX7_stuff 78 = .ok (.imul, 1) := by decide +kernel
theorem dX7_stuff_79 : decode cX7_stuff 79 = .ok (.iadd, 1) := by decide +kernel
theorem dX7_stuff_80 : decode cX7_stuff 80 = .ok (.istore 5, 2) := by decide +kernel
theorem dX7_stuff_82 : decode cX7_stuff 82 = .ok (.aload_n 0, 1) := by decide +kernel
theorem dX7_stuff_83 : decode cX7_stuff 83 = .ok (.getfield 7, 3) := by decide +kernel
theorem dX7_stuff_86 : decode cX7_stuff 86 = .ok (.iload 5, 2) := by decide +kernel
theorem dX7_stuff_88 : decode cX7_stuff 88 = .ok (.iload_n 1, 1) := by decide +kernel
theorem dX7_stuff_89 : decode cX7_stuff 89 = .ok (.iastore, 1) := by decide +kernel
theorem dX7_stuff_90 : decode cX7_stuff 90 = .ok (.aload_n 0, 1) := by decide +kernel
theorem dX7_stuff_91 : decode cX7_stuff 91 = .ok (.getfield 7, 3) := by decide +kernel
theorem dX7_stuff_94 : decode cX7_stuff 94 = .ok (.iload 5, 2) := by decide +kernel
theorem dX7_stuff_96 : decode cX7_stuff 96 = .ok (.iconst 1, 1) := by decide +kernel
theorem dX7_stuff_97 : decode cX7_stuff 97 = .ok (.iadd, 1) := by decide +kernel
theorem dX7_stuff_98 : decode cX7_stuff 98 = .ok (.iload_n 2, 1) := by decide +kernel
theorem dX7_stuff_99 : decode cX7_stuff 99 = .ok (.iastore, 1) := by decide +kernel
theorem dX7_stuff_100 : decode cX7_stuff 100 = .ok (.aload_n 0, 1) := by decide +kernel
theorem dX7_stuff_101 : decode cX7_stuff 101 = .ok (.getfield 7, 3) := by decide +kernel
theorem dX7_stuff_104 : decode cX7_stuff 104 = .ok (.iload 5, 2) := by decide +kernel
theorem dX7_stuff_106 : decode cX7_stuff 106 = .ok (.iconst 2, 1) := by decide +kernel
theorem dX7_stuff_107 : decode cX7_stuff 107 = .ok (.iadd, 1) := by decide +kernel
theorem dX7_stuff_108 : decode cX7_stuff 108 = .ok (.iload_n 3, 1) := by decide +kernel
theorem dX7_stuff_109 : decode cX7_stuff 109 = .ok (.iastore, 1) := by decide +kernel
theorem dX7_stuff_110 : decode cX7_stuff 110 = .ok (.aload_n 0, 1) := by decide +kernel
theorem dX7_stuff_111 : decode cX7_stuff 111 = .ok (.getfield 7, 3) := by decide +kernel
theorem dX7_stuff_114 : decode cX7_stuff 114 = .ok (.iload 5, 2) := by decide +kernel
theorem dX7_stuff_116 : decode cX7_stuff 116 = .ok (.iconst 3, 1) := by decide +kernel
theorem dX7_stuff_117 : decode cX7_stuff 117 = .ok (.iadd, 1) := by decide +kernel
theorem dX7_stuff_118 : decode cX7_stuff 118 = .ok (.iload 4, 2) := by decide +kernel
theorem dX7_stuff_120 : decode cX7_stuff 120 = .ok (.iastore, 1) := by decide +kernel
theorem dX7_stuff_121 : decode cX7_stuff 121 = .ok (.aload_n 0, 1) := by decide +kernel
theorem dX7_stuff_122 : decode cX7_stuff 122 = .ok (.getfield 7, 3) := by decide +kernel
theorem dX7_stuff_125 : decode cX7_stuff 125 = .ok (.iconst 0, 1) := by decide +kernel
theorem dX7_stuff_126 : decode cX7_stuff 126 = .ok (.dup2, 1) := by decide +kernel
theorem dX7_stuff_127 : decode cX7_stuff 127 = .ok (.iaload, 1) := by decide +kernel
theorem dX7_stuff_128 : decode cX7_stuff 128 = .ok (.iconst 1, 1) := by decide +kernel
theorem dX7_stuff_129 : decode cX7_stuff 129 = .ok (.iadd, 1) := by decide +kernel
theorem dX7_stuff_130 : decode cX7_stuff 130 = .ok (.iastore, 1) := by decide +kernel
theorem dX7_stuff_131 : decode cX7_stuff 131 = .ok (.aload_n 0, 1) := by decide +kernel
theorem dX7_stuff_132 : decode cX7_stuff 132 = .ok (.getfield 7, 3) := by decide +kernel
theorem dX7_stuff_135 : decode cX7_stuff 135 = .ok (.iconst 0, 1) := by decide +kernel
theorem dX7_stuff_136 : decode cX7_stuff 136 = .ok (.iaload, 1) := by decide +kernel
theorem dX7_stuff_137 : decode cX7_stuff 137 = .ok (.iconst 1, 1) := by decide +kernel
theorem dX7_stuff_138 : decode cX7_stuff 138 = .ok (.isub, 1) := by decide +kernel
theorem dX7_stuff_139 : decode cX7_stuff 139 = .ok (.ireturn, 1) := by decide +kernel
theorem dX7_put_0 : decode cX7_put 0 = .ok (.iload_n 1, 1) := by decide +kernel
theorem dX7_put_1 : decode cX7_put 1 = .ok (.i2l, 1) := by decide +kernel
theorem dX7_put_2 : decode cX7_put 2 = .ok (.lconst 0, 1) := by decide +kernel
theorem dX7_put_3 : decode cX7_put 3 = .ok (.ldc2_w 117, 3) := by decide +kernel
theorem dX7_put_6 : decode cX7_put 6 = .ok (.invokestatic 102, 3) := by decide +kernel
theorem dX7_put_9 : decode cX7_put 9 = .ok (.ifCond .eq 15, 3) := by decide +kernel
theorem dX7_put_12 : decode cX7_put 12 = .ok (.iload_n 2, 1) := by decide +kernel
theorem dX7_put_13 : decode cX7_put 13 = .ok (.i2l, 1) := by decide +kernel
theorem dX7_put_14 : decode cX7_put 14 = .ok (.lconst 0, 1) := by decide +kernel
theorem dX7_put_15 : decode cX7_put 15 = .ok (.ldc2_w 119, 3) := by decide +kernel
theorem dX7_put_18 : decode cX7_put 18 = .ok (.invokestatic 102, 3) := by decide +kernel
theorem dX7_put_21 : decode cX7_put 21 = .ok (.goto 60, 3) := by decide +kernel
theorem dX7_put_24 : decode cX7_put 24 = .ok (.iload_n 1, 1) := by decide +kernel
theorem dX7_put_25 : decode cX7_put 25 = .ok (.iconst 4, 1) := by decide +kernel
theorem dX7_put_26 : decode cX7_put 26 = .ok (.if_icmp .ne 15, 3) := by decide +kernel
theorem dX7_put_29 : decode cX7_put 29 = .ok (.iload_n 2, 1) := by decide +kernel
theorem dX7_put_30 : decode cX7_put 30 = .ok (.i2l, 1) := by decide +kernel
theorem dX7_put_31 : decode cX7_put 31 = .ok (.lconst 0, 1) := by decide +kernel
theorem dX7_put_32 : decode cX7_put 32 = .ok (.ldc2_w 108, 3) := by decide +kernel
theorem dX7_put_35 : decode cX7_put 35 = .ok (.invokestatic 102, 3) := by decide +kernel
theorem dX7_put_38 : decode cX7_put 38 = .ok (.goto 43, 3) := by decide +kernel
theorem dX7_put_41 : decode cX7_put 41 = .ok (.iload_n 1, 1) := by decide +kernel
theorem dX7_put_42 : decode cX7_put 42 = .ok (.iconst 5, 1) := by decide +kernel
theorem dX7_put_43 : decode cX7_put 43 = .ok (.if_icmp .ne 15, 3) := by decide +kernel
theorem dX7_put_46 : decode cX7_put 46 = .ok (.iload_n 2, 1) := by decide +kernel
theorem dX7_put_47 : decode cX7_put 47 = .ok (.i2l, 1) := by decide +kernel
theorem dX7_put_48 : decode cX7_put 48 = .ok (.lconst 0, 1) := by decide +kernel
theorem dX7_put_49 : decode cX7_put 49 = .ok (.ldc2_w 117, 3) := by decide +kernel
theorem dX7_put_52 : decode cX7_put 52 = .ok (.invokestatic 102, 3) := by decide +kernel
theorem dX7_put_55 : decode cX7_put 55 = .ok (.goto 26, 3) := by decide +kernel
theorem dX7_put_58 : decode cX7_put 58 = .ok (.iload_n 1, 1) := by decide +kernel
theorem dX7_put_59 : decode cX7_put 59 = .ok (.bipush 6, 2) := by decide +kernel
theorem dX7_put_61 : decode cX7_put 61 = .ok (.if_icmp .ne 19, 3) := by decide +kernel
theorem dX7_put_64 : decode cX7_put 64 = .ok (.iload_n 2, 1) := by decide +kernel
theorem dX7_put_65 : decode cX7_put 65 = .ok (.i2l, 1) := by decide +kernel
theorem dX7_put_66 : decode cX7_put 66 = .ok (.lconst 1, 1) := by decide +kernel
theorem dX7_put_67 : decode cX7_put 67 = .ok (.ldc2_w 110, 3) := by decide +kernel
theorem dX7_put_70 : decode cX7_put 70 = .ok (.invokestatic 102, 3) := by decide +kernel
theorem dX7_put_73 : decode cX7_put 73 = .ok (.ifCond .eq 7, 3) := by decide +kernel
theorem dX7_put_76 : decode cX7_put 76 = .ok (.iconst 1, 1) := by decide +kernel
theorem dX7_put_77 : decode cX7_put 77 = .ok (.goto 4, 3) := by decide +kernel
theorem dX7_put_80 : decode cX7_put 80 = .ok (.iconst 0, 1) := by decide +kernel
theorem dX7_put_81 : decode cX7_put 81 = .ok (.istore_n 3, 1) := by decide +kernel
theorem dX7_put_82 : decode cX7_put 82 = .ok (.iload_n 3, 1) := by decide +kernel
theorem dX7_put_83 : decode cX7_put 83 = .ok (.ifCond .eq 14, 3) := by decide +kernel
theorem dX7_put_86 : decode cX7_put 86 = .ok (.aload_n 0, 1) := by decide +kernel
theorem dX7_put_87 : decode cX7_put 87 = .ok (.iconst 2, 1) := by decide +kernel
theorem dX7_put_88 : decode cX7_put 88 = .ok (.iload_n 1, 1) := by decide +kernel
theorem dX7_put_89 : decode cX7_put 89 = .ok (.iadd, 1) := by decide +kernel
theorem dX7_put_90 : decode cX7_put 90 = .ok (.iload_n 2, 1) := by decide +kernel
theorem dX7_put_91 : decode cX7_put 91 = .ok (.invokevirtual 121, 3) := by decide +kernel
theorem dX7_put_94 : decode cX7_put 94 = .ok (.goto 7, 3) := by decide +kernel
theorem dX7_put_97 : decode cX7_put 97 = .ok (.aload_n 0, 1) := by decide +kernel
theorem dX7_put_98 : decode cX7_put 98 = .ok (.invokevirtual 98, 3) := by decide +kernel
theorem dX7_put_101 : decode cX7_put 101 = .ok (.ireturn, 1) := by decide +kernel
theorem dX7_habit_0 : decode cX7_habit 0 = .ok (.iload_n 1, 1) := by decide +kernel
theorem dX7_habit_1 : decode cX7_habit 1 = .ok (.i2l, 1) := by decide +kernel
theorem dX7_habit_2 : decode cX7_habit 2 = .ok (.lconst 0, 1) := by decide +kernel
theorem dX7_habit_3 : decode cX7_habit 3 = .ok (.ldc2_w 124, 3) := by decide +kernel
theorem dX7_habit_6 : decode cX7_habit 6 = .ok (.invokestatic 102, 3) := by decide +kernel
theorem dX7_habit_9 : decode cX7_habit 9 = .ok (.ifCond .eq 27, 3) := by decide +kernel
theorem dX7_habit_12 : decode cX7_habit 12 = .ok (.iload_n 2, 1) := by decide +kernel
theorem dX7_habit_13 : decode cX7_habit 13 = .ok (.i2l, 1) := by decide +kernel
theorem dX7_habit_14 : decode cX7_habit 14 = .ok (.lconst 0, 1) := by decide +kernel
theorem dX7_habit_15 : decode cX7_habit 15 = .ok (.ldc2_w 110, 3) := by decide +kernel
theorem dX7_habit_18 : decode cX7_habit 18 = .ok (.invokestatic 102, 3) := by decide +kernel
theorem dX7_habit_21 : decode cX7_habit 21 = .ok (.ifCond .eq 15, 3) := by decide +kernel
theorem dX7_habit_24 : decode cX7_habit 24 = .ok (.aload_n 0, 1) := by decide +kernel
theorem dX7_habit_25 : decode cX7_habit 25 = .ok (.bipush 10, 2) := by decide +kernel
theorem dX7_habit_27 : decode cX7_habit 27 = .ok (.iload_n 1, 1) := by decide +kernel
theorem dX7_habit_28 : decode cX7_habit 28 = .ok (.iadd, 1) := by decide +kernel
theorem dX7_habit_29 : decode cX7_habit 29 = .ok (.iload_n 2, 1) := by decide +kernel
theorem dX7_habit_30 : decode cX7_habit 30 = .ok (.invokevirtual 121, 3) := by decide +kernel
theorem dX7_habit_33 : decode cX7_habit 33 = .ok (.goto 7, 3) := by decide +kernel
theorem dX7_habit_36 : decode cX7_habit 36 = .ok (.aload_n 0, 1) := by decide +kernel
theorem dX7_habit_37 : decode cX7_habit 37 = .ok (.invokevirtual 98, 3) := by decide +kernel
theorem dX7_habit_40 : decode cX7_habit 40 = .ok (.ireturn, 1) := by decide +kernel
theorem dX7_isTrace_0 : decode cX7_isTrace 0 = .ok (.iload_n 2, 1) := by decide +kernel
theorem dX7_isTrace_1 : decode cX7_isTrace 1 = .ok (.tableswitch 106 0 6 #[43, 49, 49, 59, 59, 69, 96], 43) := by decide +kernel
theorem dX7_isTrace_44 : decode cX7_isTrace 44 = .ok (.aload_n 0, 1) := by decide +kernel
theorem dX7_isTrace_45 : decode cX7_isTrace 45 = .ok (.iload_n 3, 1) := by decide +kernel
theorem dX7_isTrace_46 : decode cX7_isTrace 46 = .ok (.invokevirtual 126, 3) := by decide +kernel
theorem dX7_isTrace_49 : decode cX7_isTrace 49 = .ok (.ireturn, 1) := by decide +kernel
theorem dX7_isTrace_50 : decode cX7_isTrace 50 = .ok (.iload_n 3, 1) := by decide +kernel
theorem dX7_isTrace_51 : decode cX7_isTrace 51 = .ok (.i2l, 1) := by decide +kernel
theorem dX7_isTrace_52 : decode cX7_isTrace 52 = .ok (.lconst 0, 1) := by decide +kernel
theorem dX7_isTrace_53 : decode cX7_isTrace 53 = .ok (.ldc2_w 117, 3) := by decide +kernel
theorem dX7_isTrace_56 : decode cX7_isTrace 56 = .ok (.invokestatic 102, 3) := by decide +kernel
theorem dX7_isTrace_59 : decode cX7_isTrace 59 = .ok (.ireturn, 1) := by decide +kernel
theorem dX7_isTrace_60 : decode cX7_isTrace 60 = .ok (.iload_n 3, 1) := by decide +kernel
theorem dX7_isTrace_61 : decode cX7_isTrace 61 = .ok (.i2l, 1) := by decide +kernel
theorem dX7_isTrace_62 : decode cX7_isTrace 62 = .ok (.lconst 0, 1) := by decide +kernel
theorem dX7_isTrace_63 : decode cX7_isTrace 63 = .ok (.ldc2_w 129, 3) := by decide +kernel
theorem dX7_isTrace_66 : decode cX7_isTrace 66 = .ok (.invokestatic 102, 3) := by decide +kernel
theorem dX7_isTrace_69 : decode cX7_isTrace 69 = .ok (.ireturn, 1) := by decide +kernel
theorem dX7_isTrace_70 : decode cX7_isTrace 70 = .ok (.iload_n 3, 1) := by decide +kernel
theorem dX7_isTrace_71 : decode cX7_isTrace 71 = .ok (.i2l, 1) := by decide +kernel
theorem dX7_isTrace_72 : decode cX7_isTrace 72 = .ok (.lconst 1, 1) := by decide +kernel
theorem dX7_isTrace_73 : decode cX7_isTrace 73 = .ok (.ldc2_w 129, 3) := by decide +kernel
theorem dX7_isTrace_76 : decode cX7_isTrace 76 = .ok (.invokestatic 102, 3) := by decide +kernel
theorem dX7_isTrace_79 : decode cX7_isTrace 79 = .ok (.ifCond .eq 16, 3) := by decide +kernel
theorem dX7_isTrace_82 : decode cX7_isTrace 82 = .ok (.iload_n 1, 1) := by decide +kernel
theorem dX7_isTrace_83 : decode cX7_isTrace 83 = .ok (.bipush 8, 2) := by decide +kernel
theorem dX7_isTrace_85 : decode cX7_isTrace 85 = .ok (.irem, 1) := by decide +kernel
theorem dX7_isTrace_86 : decode cX7_isTrace 86 = .ok (.bipush 7, 2) := by decide +kernel
theorem dX7_isTrace_88 : decode cX7_isTrace 88 = .ok (.if_icmp .eq 7, 3) := by decide +kernel
theorem dX7_isTrace_91 : decode cX7_isTrace 91 = .ok (.iconst 1, 1) := by decide +kernel
theorem dX7_isTrace_92 : decode cX7_isTrace 92 = .ok (.goto 4, 3) := by decide +kernel
theorem dX7_isTrace_95 : decode cX7_isTrace 95 = .ok (.iconst 0, 1) := by decide +kernel
theorem dX7_isTrace_96 : decode cX7_isTrace 96 = .ok (.ireturn, 1) := by decide +kernel
theorem dX7_isTrace_97 : decode cX7_isTrace 97 = .ok (.iload_n 3, 1) := by decide +kernel
theorem dX7_isTrace_98 : decode cX7_isTrace 98 = .ok (.ifCond .ne 7, 3) := by decide +kernel
theorem dX7_isTrace_101 : decode cX7_isTrace 101 = .ok (.iconst 1, 1) := by decide +kernel
theorem dX7_isTrace_102 : decode cX7_isTrace 102 = .ok (.goto 4, 3) := by decide +kernel
theorem dX7_isTrace_105 : decode cX7_isTrace 105 = .ok (.iconst 0, 1) := by decide +kernel
theorem dX7_isTrace_106 : decode cX7_isTrace 106 = .ok (.ireturn, 1) := by decide +kernel
theorem dX7_isTrace_107 : decode cX7_isTrace 107 = .ok (.iconst 0, 1) := by decide +kernel
theorem dX7_isTrace_108 : decode cX7_isTrace 108 = .ok (.ireturn, 1) := by decide +kernel
theorem dX7_trace_0 : decode cX7_trace 0 = .ok (.iload_n 1, 1) := by decide +kernel
theorem dX7_trace_1 : decode cX7_trace 1 = .ok (.invokestatic 131, 3) := by decide +kernel
theorem dX7_trace_4 : decode cX7_trace 4 = .ok (.ifCond .eq 13, 3) := by decide +kernel
theorem dX7_trace_7 : decode cX7_trace 7 = .ok (.aload_n 0, 1) := by decide +kernel
theorem dX7_trace_8 : decode cX7_trace 8 = .ok (.iload_n 1, 1) := by decide +kernel
theorem dX7_trace_9 : decode cX7_trace 9 = .ok (.iload_n 2, 1) := by decide +kernel
theorem dX7_trace_10 : decode cX7_trace 10 = .ok (.iload_n 3, 1) := by decide +kernel
theorem dX7_trace_11 : decode cX7_trace 11 = .ok (.invokevirtual 134, 3) := by decide +kernel
theorem dX7_trace_14 : decode cX7_trace 14 = .ok (.ifCond .ne 8, 3) := by decide +kernel
theorem dX7_trace_17 : decode cX7_trace 17 = .ok (.aload_n 0, 1) := by decide +kernel
theorem dX7_trace_18 : decode cX7_trace 18 = .ok (.invokevirtual 98, 3) := by decide +kernel
theorem dX7_trace_21 : decode cX7_trace 21 = .ok (.ireturn, 1) := by decide +kernel
theorem dX7_trace_22 : decode cX7_trace 22 = .ok (.aload_n 0, 1) := by decide +kernel
theorem dX7_trace_23 : decode cX7_trace 23 = .ok (.getfield 7, 3) := by decide +kernel
theorem dX7_trace_26 : decode cX7_trace 26 = .ok (.iconst 1, 1) := by decide +kernel
theorem dX7_trace_27 : decode cX7_trace 27 = .ok (.iaload, 1) := by decide +kernel
theorem dX7_trace_28 : decode cX7_trace 28 = .ok (.bipush 20, 2) := by decide +kernel
theorem dX7_trace_30 : decode cX7_trace 30 = .ok (.if_icmp .ne 8, 3) := by decide +kernel
theorem dX7_trace_33 : decode cX7_trace 33 = .ok (.aload_n 0, 1) := by decide +kernel
theorem dX7_trace_34 : decode cX7_trace 34 = .ok (.invokevirtual 114, 3) := by decide +kernel
theorem dX7_trace_37 : decode cX7_trace 37 = .ok (.ireturn, 1) := by decide +kernel
theorem dX7_trace_38 : decode cX7_trace 38 = .ok (.bipush 60, 2) := by decide +kernel
theorem dX7_trace_40 : decode cX7_trace 40 = .ok (.iconst 4, 1) := by decide +kernel
theorem dX7_trace_41 : decode cX7_trace 41 = .ok (.aload_n 0, 1) := by decide +kernel
theorem dX7_trace_42 : decode cX7_trace 42 = .ok (.getfield 7, 3) := by decide +kernel
theorem dX7_trace_45 : decode cX7_trace 45 = .ok (.iconst 1, 1) := by decide +kernel
theorem dX7_trace_46 : decode cX7_trace 46 = .ok (.iaload, 1) := by decide +kernel
theorem dX7_trace_47 : decode cX7_trace 47 = .ok (.imul, 1) := by decide +kernel
theorem dX7_trace_48 : decode cX7_trace 48 = .ok (.iadd, 1) := by decide +kernel
theorem dX7_trace_49 : decode cX7_trace 49 = .ok (.istore 4, 2) := by decide +kernel
theorem dX7_trace_51 : decode cX7_trace 51 = .ok (.aload_n 0, 1) := by decide +kernel
theorem dX7_trace_52 : decode cX7_trace 52 = .ok (.getfield 7, 3) := by decide +kernel
theorem dX7_trace_55 : decode cX7_trace 55 = .ok (.iload 4, 2) := by decide +kernel
theorem dX7_trace_57 : decode cX7_trace 57 = .ok (.iload_n 1, 1) := by decide +kernel
theorem dX7_trace_58 : decode cX7_trace 58 = .ok (.iastore, 1) := by decide +kernel
theorem dX7_trace_59 : decode cX7_trace 59 = .ok (.aload_n 0, 1) := by decide +kernel
theorem dX7_trace_60 : decode cX7_trace 60 = .ok (.getfield 7, 3) := by decide +kernel
theorem dX7_trace_63 : decode cX7_trace 63 = .ok (.iload 4, 2) := by decide +kernel
theorem dX7_trace_65 : decode cX7_trace 65 = .ok (.iconst 1, 1) := by decide +kernel
theorem dX7_trace_66 : decode cX7_trace 66 = .ok (.iadd, 1) := by decide +kernel
theorem dX7_trace_67 : decode cX7_trace 67 = .ok (.iload_n 2, 1) := by decide +kernel
theorem dX7_trace_68 : decode cX7_trace 68 = .ok (.iastore, 1) := by decide +kernel
theorem dX7_trace_69 : decode cX7_trace 69 = .ok (.aload_n 0, 1) := by decide +kernel
theorem dX7_trace_70 : decode cX7_trace 70 = .ok (.getfield 7, 3) := by decide +kernel
theorem dX7_trace_73 : decode cX7_trace 73 = .ok (.iload 4, 2) := by decide +kernel
theorem dX7_trace_75 : decode cX7_trace 75 = .ok (.iconst 2, 1) := by decide +kernel
theorem dX7_trace_76 : decode cX7_trace 76 = .ok (.iadd, 1) := by decide +kernel
theorem dX7_trace_77 : decode cX7_trace 77 = .ok (.iload_n 3, 1) := by decide +kernel
theorem dX7_trace_78 : decode cX7_trace 78 = .ok (.iastore, 1) := by decide +kernel
theorem dX7_trace_79 : decode cX7_trace 79 = .ok (.aload_n 0, 1) := by decide +kernel
theorem dX7_trace_80 : decode cX7_trace 80 = .ok (.getfield 7, 3) := by decide +kernel
theorem dX7_trace_83 : decode cX7_trace 83 = .ok (.iload 4, 2) := by decide +kernel
theorem dX7_trace_85 : decode cX7_trace 85 = .ok (.iconst 3, 1) := by decide +kernel
theorem dX7_trace_86 : decode cX7_trace 86 = .ok (.iadd, 1) := by decide +kernel
theorem dX7_trace_87 : decode cX7_trace 87 = .ok (.iconst 0, 1) := by decide +kernel
theorem dX7_trace_88 : decode cX7_trace 88 = .ok (.iastore, 1) := by decide +kernel
theorem dX7_trace_89 : decode cX7_trace 89 = .ok (.aload_n 0, 1) := by decide +kernel
theorem dX7_trace_90 : decode cX7_trace 90 = .ok (.getfield 7, 3) := by decide +kernel
theorem dX7_trace_93 : decode cX7_trace 93 = .ok (.iconst 1, 1) := by decide +kernel
theorem dX7_trace_94 : decode cX7_trace 94 = .ok (.dup2, 1) := by decide +kernel
theorem dX7_trace_95 : decode cX7_trace 95 = .ok (.iaload, 1) := by decide +kernel
theorem dX7_trace_96 : decode cX7_trace 96 = .ok (.iconst 1, 1) := by decide +kernel
theorem dX7_trace_97 : decode cX7_trace 97 = .ok (.iadd, 1) := by decide +kernel
theorem dX7_trace_98 : decode cX7_trace 98 = .ok (.iastore, 1) := by decide +kernel
theorem dX7_trace_99 : decode cX7_trace 99 = .ok (.aload_n 0, 1) := by decide +kernel
theorem dX7_trace_100 : decode cX7_trace 100 = .ok (.getfield 7, 3) := by decide +kernel
theorem dX7_trace_103 : decode cX7_trace 103 = .ok (.iconst 1, 1) := by decide +kernel
theorem dX7_trace_104 : decode cX7_trace 104 = .ok (.iaload, 1) := by decide +kernel
theorem dX7_trace_105 : decode cX7_trace 105 = .ok (.iconst 1, 1) := by decide +kernel
theorem dX7_trace_106 : decode cX7_trace 106 = .ok (.isub, 1) := by decide +kernel
theorem dX7_trace_107 : decode cX7_trace 107 = .ok (.ireturn, 1) := by decide +kernel
theorem dX7_ofTrace_0 : decode cX7_ofTrace 0 = .ok (.aload_n 0, 1) := by decide +kernel
theorem dX7_ofTrace_1 : decode cX7_ofTrace 1 = .ok (.getfield 7, 3) := by decide +kernel
theorem dX7_ofTrace_4 : decode cX7_ofTrace 4 = .ok (.bipush 60, 2) := by decide +kernel
theorem dX7_ofTrace_6 : decode cX7_ofTrace 6 = .ok (.iconst 4, 1) := by decide +kernel
theorem dX7_ofTrace_7 : decode cX7_ofTrace 7 = .ok (.iload_n 1, 1) := by decide +kernel
theorem dX7_ofTrace_8 : decode cX7_ofTrace 8 = .ok (.imul, 1) := by decide +kernel
theorem dX7_ofTrace_9 : decode cX7_ofTrace 9 = .ok (.iadd, 1) := by decide +kernel
theorem dX7_ofTrace_10 : decode cX7_ofTrace 10 = .ok (.iload_n 2, 1) := by decide +kernel
theorem dX7_ofTrace_11 : decode cX7_ofTrace 11 = .ok (.iadd, 1) := by decide +kernel
theorem dX7_ofTrace_12 : decode cX7_ofTrace 12 = .ok (.iaload, 1) := by decide +kernel
theorem dX7_ofTrace_13 : decode cX7_ofTrace 13 = .ok (.ireturn, 1) := by decide +kernel
theorem dX7_aside_0 : decode cX7_aside 0 = .ok (.iload_n 1, 1) := by decide +kernel
theorem dX7_aside_1 : decode cX7_aside 1 = .ok (.i2l, 1) := by decide +kernel
theorem dX7_aside_2 : decode cX7_aside 2 = .ok (.lconst 0, 1) := by decide +kernel
theorem dX7_aside_3 : decode cX7_aside 3 = .ok (.aload_n 0, 1) := by decide +kernel
theorem dX7_aside_4 : decode cX7_aside 4 = .ok (.getfield 7, 3) := by decide +kernel
theorem dX7_aside_7 : decode cX7_aside 7 = .ok (.iconst 1, 1) := by decide +kernel
theorem dX7_aside_8 : decode cX7_aside 8 = .ok (.iaload, 1) := by decide +kernel
theorem dX7_aside_9 : decode cX7_aside 9 = .ok (.iconst 1, 1) := by decide +kernel
theorem dX7_aside_10 : decode cX7_aside 10 = .ok (.isub, 1) := by decide +kernel
theorem dX7_aside_11 : decode cX7_aside 11 = .ok (.i2l, 1) := by decide +kernel
theorem dX7_aside_12 : decode cX7_aside 12 = .ok (.invokestatic 102, 3) := by decide +kernel
theorem dX7_aside_15 : decode cX7_aside 15 = .ok (.ifCond .ne 8, 3) := by decide +kernel
theorem dX7_aside_18 : decode cX7_aside 18 = .ok (.aload_n 0, 1) := by decide +kernel
theorem dX7_aside_19 : decode cX7_aside 19 = .ok (.invokevirtual 98, 3) := by decide +kernel
theorem dX7_aside_22 : decode cX7_aside 22 = .ok (.ireturn, 1) := by decide +kernel
theorem dX7_aside_23 : decode cX7_aside 23 = .ok (.aload_n 0, 1) := by decide +kernel
theorem dX7_aside_24 : decode cX7_aside 24 = .ok (.iload_n 1, 1) := by decide +kernel
theorem dX7_aside_25 : decode cX7_aside 25 = .ok (.iconst 3, 1) := by decide +kernel
theorem dX7_aside_26 : decode cX7_aside 26 = .ok (.invokevirtual 138, 3) := by decide +kernel
theorem dX7_aside_29 : decode cX7_aside 29 = .ok (.iconst 1, 1) := by decide +kernel
theorem dX7_aside_30 : decode cX7_aside 30 = .ok (.if_icmp .ne 7, 3) := by decide +kernel
theorem dX7_aside_33 : decode cX7_aside 33 = .ok (.iconst 1, 1) := by decide +kernel
theorem dX7_aside_34 : decode cX7_aside 34 = .ok (.goto 4, 3) := by decide +kernel
theorem dX7_aside_37 : decode cX7_aside 37 = .ok (.iconst 0, 1) := by decide +kernel
theorem dX7_aside_38 : decode cX7_aside 38 = .ok (.iload_n 2, 1) := by decide +kernel
theorem dX7_aside_39 : decode cX7_aside 39 = .ok (.if_icmp .ne 8, 3) := by decide +kernel
theorem dX7_aside_42 : decode cX7_aside 42 = .ok (.aload_n 0, 1) := by decide +kernel
theorem dX7_aside_43 : decode cX7_aside 43 = .ok (.invokevirtual 141, 3) := by decide +kernel
theorem dX7_aside_46 : decode cX7_aside 46 = .ok (.ireturn, 1) := by decide +kernel
theorem dX7_aside_47 : decode cX7_aside 47 = .ok (.aload_n 0, 1) := by decide +kernel
theorem dX7_aside_48 : decode cX7_aside 48 = .ok (.getfield 7, 3) := by decide +kernel
theorem dX7_aside_51 : decode cX7_aside 51 = .ok (.bipush 60, 2) := by decide +kernel
theorem dX7_aside_53 : decode cX7_aside 53 = .ok (.iconst 4, 1) := by decide +kernel
theorem dX7_aside_54 : decode cX7_aside 54 = .ok (.iload_n 1, 1) := by decide +kernel
theorem dX7_aside_55 : decode cX7_aside 55 = .ok (.imul, 1) := by decide +kernel
theorem dX7_aside_56 : decode cX7_aside 56 = .ok (.iadd, 1) := by decide +kernel
theorem dX7_aside_57 : decode cX7_aside 57 = .ok (.iconst 3, 1) := by decide +kernel
theorem dX7_aside_58 : decode cX7_aside 58 = .ok (.iadd, 1) := by decide +kernel
theorem dX7_aside_59 : decode cX7_aside 59 = .ok (.iload_n 2, 1) := by decide +kernel
theorem dX7_aside_60 : decode cX7_aside 60 = .ok (.ifCond .eq 7, 3) := by decide +kernel
theorem dX7_aside_63 : decode cX7_aside 63 = .ok (.iconst 1, 1) := by decide +kernel
theorem dX7_aside_64 : decode cX7_aside 64 = .ok (.goto 4, 3) := by decide +kernel
theorem dX7_aside_67 : decode cX7_aside 67 = .ok (.iconst 0, 1) := by decide +kernel
theorem dX7_aside_68 : decode cX7_aside 68 = .ok (.iastore, 1) := by decide +kernel
theorem dX7_aside_69 : decode cX7_aside 69 = .ok (.iconst 1, 1) := by decide +kernel
theorem dX7_aside_70 : decode cX7_aside 70 = .ok (.ireturn, 1) := by decide +kernel
theorem dX7_copy_0 : decode cX7_copy 0 = .ok (.iload_n 1, 1) := by decide +kernel
theorem dX7_copy_1 : decode cX7_copy 1 = .ok (.invokestatic 131, 3) := by decide +kernel
theorem dX7_copy_4 : decode cX7_copy 4 = .ok (.ifCond .eq 29, 3) := by decide +kernel
theorem dX7_copy_7 : decode cX7_copy 7 = .ok (.iload_n 2, 1) := by decide +kernel
theorem dX7_copy_8 : decode cX7_copy 8 = .ok (.iconst (-1), 1) := by decide +kernel
theorem dX7_copy_9 : decode cX7_copy 9 = .ok (.if_icmp .eq 11, 3) := by decide +kernel
theorem dX7_copy_12 : decode cX7_copy 12 = .ok (.aload_n 0, 1) := by decide +kernel
theorem dX7_copy_13 : decode cX7_copy 13 = .ok (.iload_n 2, 1) := by decide +kernel
theorem dX7_copy_14 : decode cX7_copy 14 = .ok (.invokevirtual 126, 3) := by decide +kernel
theorem dX7_copy_17 : decode cX7_copy 17 = .ok (.ifCond .eq 16, 3) := by decide +kernel
theorem dX7_copy_20 : decode cX7_copy 20 = .ok (.aload_n 0, 1) := by decide +kernel
theorem dX7_copy_21 : decode cX7_copy 21 = .ok (.sipush 150, 3) := by decide +kernel
theorem dX7_copy_24 : decode cX7_copy 24 = .ok (.iload_n 1, 1) := by decide +kernel
theorem dX7_copy_25 : decode cX7_copy 25 = .ok (.iadd, 1) := by decide +kernel
theorem dX7_copy_26 : decode cX7_copy 26 = .ok (.iload_n 2, 1) := by decide +kernel
theorem dX7_copy_27 : decode cX7_copy 27 = .ok (.invokevirtual 121, 3) := by decide +kernel
theorem dX7_copy_30 : decode cX7_copy 30 = .ok (.goto 10, 3) := by decide +kernel
theorem dX7_copy_33 : decode cX7_copy 33 = .ok (.aload_n 0, 1) := by decide +kernel
theorem dX7_copy_34 : decode cX7_copy 34 = .ok (.iconst 0, 1) := by decide +kernel
theorem dX7_copy_35 : decode cX7_copy 35 = .ok (.bipush (-10), 2) := by decide +kernel
theorem dX7_copy_37 : decode cX7_copy 37 = .ok (.invokevirtual 64, 3) := by decide +kernel
theorem dX7_copy_40 : decode cX7_copy 40 = .ok (.ireturn, 1) := by decide +kernel
theorem dX7_type_0 : decode cX7_type 0 = .ok (.iload_n 3, 1) := by decide +kernel
theorem dX7_type_1 : decode cX7_type 1 = .ok (.i2l, 1) := by decide +kernel
theorem dX7_type_2 : decode cX7_type 2 = .ok (.lconst 1, 1) := by decide +kernel
theorem dX7_type_3 : decode cX7_type 3 = .ok (.ldc2_w 144, 3) := by decide +kernel
theorem dX7_type_6 : decode cX7_type 6 = .ok (.invokestatic 102, 3) := by decide +kernel
theorem dX7_type_9 : decode cX7_type 9 = .ok (.ifCond .ne 8, 3) := by decide +kernel
theorem dX7_type_12 : decode cX7_type 12 = .ok (.aload_n 0, 1) := by decide +kernel
theorem dX7_type_13 : decode cX7_type 13 = .ok (.invokevirtual 98, 3) := by decide +kernel
theorem dX7_type_16 : decode cX7_type 16 = .ok (.ireturn, 1) := by decide +kernel
theorem dX7_type_17 : decode cX7_type 17 = .ok (.aload_n 0, 1) := by decide +kernel
theorem dX7_type_18 : decode cX7_type 18 = .ok (.getfield 146, 3) := by decide +kernel
theorem dX7_type_21 : decode cX7_type 21 = .ok (.iload_n 3, 1) := by decide +kernel
theorem dX7_type_22 : decode cX7_type 22 = .ok (.iadd, 1) := by decide +kernel
theorem dX7_type_23 : decode cX7_type 23 = .ok (.sipush 300, 3) := by decide +kernel
theorem dX7_type_26 : decode cX7_type 26 = .ok (.if_icmp .le 8, 3) := by decide +kernel
theorem dX7_type_29 : decode cX7_type 29 = .ok (.aload_n 0, 1) := by decide +kernel
theorem dX7_type_30 : decode cX7_type 30 = .ok (.invokevirtual 114, 3) := by decide +kernel
theorem dX7_type_33 : decode cX7_type 33 = .ok (.ireturn, 1) := by decide +kernel
theorem dX7_type_34 : decode cX7_type 34 = .ok (.iload_n 3, 1) := by decide +kernel
theorem dX7_type_35 : decode cX7_type 35 = .ok (.iconst 1, 1) := by decide +kernel
theorem dX7_type_36 : decode cX7_type 36 = .ok (.isub, 1) := by decide +kernel
theorem dX7_type_37 : decode cX7_type 37 = .ok (.istore 4, 2) := by decide +kernel
theorem dX7_type_39 : decode cX7_type 39 = .ok (.iload 4, 2) := by decide +kernel
theorem dX7_type_41 : decode cX7_type 41 = .ok (.ifCond .lt 40, 3) := by decide +kernel
theorem dX7_type_44 : decode cX7_type 44 = .ok (.aload_n 0, 1) := by decide +kernel
theorem dX7_type_45 : decode cX7_type 45 = .ok (.getfield 32, 3) := by decide +kernel
theorem dX7_type_48 : decode cX7_type 48 = .ok (.aload_n 0, 1) := by decide +kernel
theorem dX7_type_49 : decode cX7_type 49 = .ok (.getfield 146, 3) := by decide +kernel
theorem dX7_type_52 : decode cX7_type 52 = .ok (.lload_n 1, 1) := by decide +kernel
theorem dX7_type_53 : decode cX7_type 53 = .ok (.bipush 8, 2) := by decide +kernel
theorem dX7_type_55 : decode cX7_type 55 = .ok (.iload 4, 2) := by decide +kernel
theorem dX7_type_57 : decode cX7_type 57 = .ok (.imul, 1) := by decide +kernel
theorem dX7_type_58 : decode cX7_type 58 = .ok (.lshr, 1) := by decide +kernel
theorem dX7_type_59 : decode cX7_type 59 = .ok (.ldc2_w 150, 3) := by decide +kernel
theorem dX7_type_62 : decode cX7_type 62 = .ok (.land, 1) := by decide +kernel
theorem dX7_type_63 : decode cX7_type 63 = .ok (.l2i, 1) := by decide +kernel
theorem dX7_type_64 : decode cX7_type 64 = .ok (.iastore, 1) := by decide +kernel
theorem dX7_type_65 : decode cX7_type 65 = .ok (.aload_n 0, 1) := by decide +kernel
theorem dX7_type_66 : decode cX7_type 66 = .ok (.dup, 1) := by decide +kernel
theorem dX7_type_67 : decode cX7_type 67 = .ok (.getfield 146, 3) := by decide +kernel
theorem dX7_type_70 : decode cX7_type 70 = .ok (.iconst 1, 1) := by decide +kernel
theorem dX7_type_71 : decode cX7_type 71 = .ok (.iadd, 1) := by decide +kernel
theorem dX7_type_72 : decode cX7_type 72 = .ok (.putfield 146, 3) := by decide +kernel
theorem dX7_type_75 : decode cX7_type 75 = .ok (.iinc 4 (-1), 3) := by decide +kernel
theorem dX7_type_78 : decode cX7_type 78 = .ok (.goto (-39), 3) := by decide +kernel
theorem dX7_type_81 : decode cX7_type 81 = .ok (.aload_n 0, 1) := by decide +kernel
theorem dX7_type_82 : decode cX7_type 82 = .ok (.getfield 146, 3) := by decide +kernel
theorem dX7_type_85 : decode cX7_type 85 = .ok (.ireturn, 1) := by decide +kernel
theorem dX7_clear_0 : decode cX7_clear 0 = .ok (.aload_n 0, 1) := by decide +kernel
theorem dX7_clear_1 : decode cX7_clear 1 = .ok (.getfield 146, 3) := by decide +kernel
theorem dX7_clear_4 : decode cX7_clear 4 = .ok (.istore_n 1, 1) := by decide +kernel
theorem dX7_clear_5 : decode cX7_clear 5 = .ok (.aload_n 0, 1) := by decide +kernel
theorem dX7_clear_6 : decode cX7_clear 6 = .ok (.iconst 0, 1) := by decide +kernel
theorem dX7_clear_7 : decode cX7_clear 7 = .ok (.putfield 146, 3) := by decide +kernel
theorem dX7_clear_10 : decode cX7_clear 10 = .ok (.iload_n 1, 1) := by decide +kernel
theorem dX7_clear_11 : decode cX7_clear 11 = .ok (.ireturn, 1) := by decide +kernel
theorem dX7_isAt_0 : decode cX7_isAt 0 = .ok (.aload_n 0, 1) := by decide +kernel
theorem dX7_isAt_1 : decode cX7_isAt 1 = .ok (.getfield 152, 3) := by decide +kernel
theorem dX7_isAt_4 : decode cX7_isAt 4 = .ok (.aload_n 0, 1) := by decide +kernel
theorem dX7_isAt_5 : decode cX7_isAt 5 = .ok (.getfield 146, 3) := by decide +kernel
theorem dX7_isAt_8 : decode cX7_isAt 8 = .ok (.if_icmp .ge 27, 3) := by decide +kernel
theorem dX7_isAt_11 : decode cX7_isAt 11 = .ok (.aload_n 0, 1) := by decide +kernel
theorem dX7_isAt_12 : decode cX7_isAt 12 = .ok (.getfield 32, 3) := by decide +kernel
theorem dX7_isAt_15 : decode cX7_isAt 15 = .ok (.aload_n 0, 1) := by decide +kernel
theorem dX7_isAt_16 : decode cX7_isAt 16 = .ok (.getfield 152, 3) := by decide +kernel
theorem dX7_isAt_19 : decode cX7_isAt 19 = .ok (.iaload, 1) := by decide +kernel
theorem dX7_isAt_20 : decode cX7_isAt 20 = .ok (.i2l, 1) := by decide +kernel
theorem dX7_isAt_21 : decode cX7_isAt 21 = .ok (.iload_n 1, 1) := by decide +kernel
theorem dX7_isAt_22 : decode cX7_isAt 22 = .ok (.i2l, 1) := by decide +kernel
theorem dX7_isAt_23 : decode cX7_isAt 23 = .ok (.iload_n 2, 1) := by decide +kernel
theorem dX7_isAt_24 : decode cX7_isAt 24 = .ok (.i2l, 1) := by decide +kernel
theorem dX7_isAt_25 : decode cX7_isAt 25 = .ok (.invokestatic 102, 3) := by decide +kernel
theorem dX7_isAt_28 : decode cX7_isAt 28 = .ok (.ifCond .eq 7, 3) := by decide +kernel
theorem dX7_isAt_31 : decode cX7_isAt 31 = .ok (.iconst 1, 1) := by decide +kernel
theorem dX7_isAt_32 : decode cX7_isAt 32 = .ok (.goto 4, 3) := by decide +kernel
theorem dX7_isAt_35 : decode cX7_isAt 35 = .ok (.iconst 0, 1) := by decide +kernel
theorem dX7_isAt_36 : decode cX7_isAt 36 = .ok (.ireturn, 1) := by decide +kernel
theorem dX7_wordOf_0 : decode cX7_wordOf 0 = .ok (.lload_n 0, 1) := by decide +kernel
theorem dX7_wordOf_1 : decode cX7_wordOf 1 = .ok (.ldc2_w 155, 3) := by decide +kernel
theorem dX7_wordOf_4 : decode cX7_wordOf 4 = .ok (.lcmp, 1) := by decide +kernel
theorem dX7_wordOf_5 : decode cX7_wordOf 5 = .ok (.ifCond .ne 8, 3) := by decide +kernel
theorem dX7_wordOf_8 : decode cX7_wordOf 8 = .ok (.bipush 10, 2) := by decide +kernel
theorem dX7_wordOf_10 : decode cX7_wordOf 10 = .ok (.goto 82, 3) := by decide +kernel
theorem dX7_wordOf_13 : decode cX7_wordOf 13 = .ok (.lload_n 0, 1) := by decide +kernel
theorem dX7_wordOf_14 : decode cX7_wordOf 14 = .ok (.ldc2_w 157, 3) := by decide +kernel
theorem dX7_wordOf_17 : decode cX7_wordOf 17 = .ok (.lcmp, 1) := by decide +kernel
theorem dX7_wordOf_18 : decode cX7_wordOf 18 = .ok (.ifCond .ne 8, 3) := by decide +kernel
theorem dX7_wordOf_21 : decode cX7_wordOf 21 = .ok (.bipush 11, 2) := by decide +kernel
theorem dX7_wordOf_23 : decode cX7_wordOf 23 = .ok (.goto 69, 3) := by decide +kernel
theorem dX7_wordOf_26 : decode cX7_wordOf 26 = .ok (.lload_n 0, 1) := by decide +kernel
theorem dX7_wordOf_27 : decode cX7_wordOf 27 = .ok (.ldc2_w 159, 3) := by decide +kernel
theorem dX7_wordOf_30 : decode cX7_wordOf 30 = .ok (.lcmp, 1) := by decide +kernel
theorem dX7_wordOf_31 : decode cX7_wordOf 31 = .ok (.ifCond .ne 8, 3) := by decide +kernel
theorem dX7_wordOf_34 : decode cX7_wordOf 34 = .ok (.bipush 12, 2) := by decide +kernel
theorem dX7_wordOf_36 : decode cX7_wordOf 36 = .ok (.goto 56, 3) := by decide +kernel
theorem dX7_wordOf_39 : decode cX7_wordOf 39 = .ok (.lload_n 0, 1) := by decide +kernel
theorem dX7_wordOf_40 : decode cX7_wordOf 40 = .ok (.ldc2_w 161, 3) := by decide +kernel
theorem dX7_wordOf_43 : decode cX7_wordOf 43 = .ok (.lcmp, 1) := by decide +kernel
theorem dX7_wordOf_44 : decode cX7_wordOf 44 = .ok (.ifCond .ne 8, 3) := by decide +kernel
theorem dX7_wordOf_47 : decode cX7_wordOf 47 = .ok (.bipush 13, 2) := by decide +kernel
theorem dX7_wordOf_49 : decode cX7_wordOf 49 = .ok (.goto 43, 3) := by decide +kernel
theorem dX7_wordOf_52 : decode cX7_wordOf 52 = .ok (.lload_n 0, 1) := by decide +kernel
theorem dX7_wordOf_53 : decode cX7_wordOf 53 = .ok (.ldc2_w 163, 3) := by decide +kernel
theorem dX7_wordOf_56 : decode cX7_wordOf 56 = .ok (.lcmp, 1) := by decide +kernel
theorem dX7_wordOf_57 : decode cX7_wordOf 57 = .ok (.ifCond .ne 8, 3) := by decide +kernel
theorem dX7_wordOf_60 : decode cX7_wordOf 60 = .ok (.bipush 14, 2) := by decide +kernel
theorem dX7_wordOf_62 : decode cX7_wordOf 62 = .ok (.goto 30, 3) := by decide +kernel
theorem dX7_wordOf_65 : decode cX7_wordOf 65 = .ok (.lload_n 0, 1) := by decide +kernel
theorem dX7_wordOf_66 : decode cX7_wordOf 66 = .ok (.ldc2_w 165, 3) := by decide +kernel
theorem dX7_wordOf_69 : decode cX7_wordOf 69 = .ok (.lcmp, 1) := by decide +kernel
theorem dX7_wordOf_70 : decode cX7_wordOf 70 = .ok (.ifCond .ne 8, 3) := by decide +kernel
theorem dX7_wordOf_73 : decode cX7_wordOf 73 = .ok (.bipush 15, 2) := by decide +kernel
theorem dX7_wordOf_75 : decode cX7_wordOf 75 = .ok (.goto 17, 3) := by decide +kernel
theorem dX7_wordOf_78 : decode cX7_wordOf 78 = .ok (.lload_n 0, 1) := by decide +kernel
theorem dX7_wordOf_79 : decode cX7_wordOf 79 = .ok (.ldc2_w 167, 3) := by decide +kernel
theorem dX7_wordOf_82 : decode cX7_wordOf 82 = .ok (.lcmp, 1) := by decide +kernel
theorem dX7_wordOf_83 : decode cX7_wordOf 83 = .ok (.ifCond .ne 8, 3) := by decide +kernel
theorem dX7_wordOf_86 : decode cX7_wordOf 86 = .ok (.bipush 16, 2) := by decide +kernel
theorem dX7_wordOf_88 : decode cX7_wordOf 88 = .ok (.goto 4, 3) := by decide +kernel
theorem dX7_wordOf_91 : decode cX7_wordOf 91 = .ok (.iconst 1, 1) := by decide +kernel
theorem dX7_wordOf_92 : decode cX7_wordOf 92 = .ok (.istore_n 2, 1) := by decide +kernel
theorem dX7_wordOf_93 : decode cX7_wordOf 93 = .ok (.lload_n 0, 1) := by decide +kernel
theorem dX7_wordOf_94 : decode cX7_wordOf 94 = .ok (.ldc2_w 169, 3) := by decide +kernel
theorem dX7_wordOf_97 : decode cX7_wordOf 97 = .ok (.lcmp, 1) := by decide +kernel
theorem dX7_wordOf_98 : decode cX7_wordOf 98 = .ok (.ifCond .ne 8, 3) := by decide +kernel
theorem dX7_wordOf_101 : decode cX7_wordOf 101 = .ok (.bipush 20, 2) := by decide +kernel
theorem dX7_wordOf_103 : decode cX7_wordOf 103 = .ok (.goto 82, 3) := by decide +kernel
theorem dX7_wordOf_106 : decode cX7_wordOf 106 = .ok (.lload_n 0, 1) := by decide +kernel
theorem dX7_wordOf_107 : decode cX7_wordOf 107 = .ok (.ldc2_w 171, 3) := by decide +kernel
theorem dX7_wordOf_110 : decode cX7_wordOf 110 = .ok (.lcmp, 1) := by decide +kernel
theorem dX7_wordOf_111 : decode cX7_wordOf 111 = .ok (.ifCond .ne 8, 3) := by decide +kernel
theorem dX7_wordOf_114 : decode cX7_wordOf 114 = .ok (.bipush 21, 2) := by decide +kernel
theorem dX7_wordOf_116 : decode cX7_wordOf 116 = .ok (.goto 69, 3) := by decide +kernel
theorem dX7_wordOf_119 : decode cX7_wordOf 119 = .ok (.lload_n 0, 1) := by decide +kernel
theorem dX7_wordOf_120 : decode cX7_wordOf 120 = .ok (.ldc2_w 173, 3) := by decide +kernel
theorem dX7_wordOf_123 : decode cX7_wordOf 123 = .ok (.lcmp, 1) := by decide +kernel
theorem dX7_wordOf_124 : decode cX7_wordOf 124 = .ok (.ifCond .ne 8, 3) := by decide +kernel
theorem dX7_wordOf_127 : decode cX7_wordOf 127 = .ok (.bipush 22, 2) := by decide +kernel
theorem dX7_wordOf_129 : decode cX7_wordOf 129 = .ok (.goto 56, 3) := by decide +kernel
theorem dX7_wordOf_132 : decode cX7_wordOf 132 = .ok (.lload_n 0, 1) := by decide +kernel
theorem dX7_wordOf_133 : decode cX7_wordOf 133 = .ok (.ldc2_w 175, 3) := by decide +kernel
theorem dX7_wordOf_136 : decode cX7_wordOf 136 = .ok (.lcmp, 1) := by decide +kernel
theorem dX7_wordOf_137 : decode cX7_wordOf 137 = .ok (.ifCond .ne 8, 3) := by decide +kernel
theorem dX7_wordOf_140 : decode cX7_wordOf 140 = .ok (.bipush 23, 2) := by decide +kernel
theorem dX7_wordOf_142 : decode cX7_wordOf 142 = .ok (.goto 43, 3) := by decide +kernel
theorem dX7_wordOf_145 : decode cX7_wordOf 145 = .ok (.lload_n 0, 1) := by decide +kernel
theorem dX7_wordOf_146 : decode cX7_wordOf 146 = .ok (.ldc2_w 177, 3) := by decide +kernel
theorem dX7_wordOf_149 : decode cX7_wordOf 149 = .ok (.lcmp, 1) := by decide +kernel
theorem dX7_wordOf_150 : decode cX7_wordOf 150 = .ok (.ifCond .ne 8, 3) := by decide +kernel
theorem dX7_wordOf_153 : decode cX7_wordOf 153 = .ok (.bipush 24, 2) := by decide +kernel
theorem dX7_wordOf_155 : decode cX7_wordOf 155 = .ok (.goto 30, 3) := by decide +kernel
theorem dX7_wordOf_158 : decode cX7_wordOf 158 = .ok (.lload_n 0, 1) := by decide +kernel
theorem dX7_wordOf_159 : decode cX7_wordOf 159 = .ok (.ldc2_w 179, 3) := by decide +kernel
theorem dX7_wordOf_162 : decode cX7_wordOf 162 = .ok (.lcmp, 1) := by decide +kernel
theorem dX7_wordOf_163 : decode cX7_wordOf 163 = .ok (.ifCond .ne 8, 3) := by decide +kernel
theorem dX7_wordOf_166 : decode cX7_wordOf 166 = .ok (.bipush 25, 2) := by decide +kernel
theorem dX7_wordOf_168 : decode cX7_wordOf 168 = .ok (.goto 17, 3) := by decide +kernel
theorem dX7_wordOf_171 : decode cX7_wordOf 171 = .ok (.lload_n 0, 1) := by decide +kernel
theorem dX7_wordOf_172 : decode cX7_wordOf 172 = .ok (.ldc2_w 181, 3) := by decide +kernel
theorem dX7_wordOf_175 : decode cX7_wordOf 175 = .ok (.lcmp, 1) := by decide +kernel
theorem dX7_wordOf_176 : decode cX7_wordOf 176 = .ok (.ifCond .ne 8, 3) := by decide +kernel
theorem dX7_wordOf_179 : decode cX7_wordOf 179 = .ok (.bipush 26, 2) := by decide +kernel
theorem dX7_wordOf_181 : decode cX7_wordOf 181 = .ok (.goto 4, 3) := by decide +kernel
theorem dX7_wordOf_184 : decode cX7_wordOf 184 = .ok (.iconst 1, 1) := by decide +kernel
theorem dX7_wordOf_185 : decode cX7_wordOf 185 = .ok (.istore_n 3, 1) := by decide +kernel
theorem dX7_wordOf_186 : decode cX7_wordOf 186 = .ok (.iload_n 2, 1) := by decide +kernel
theorem dX7_wordOf_187 : decode cX7_wordOf 187 = .ok (.iconst 1, 1) := by decide +kernel
theorem dX7_wordOf_188 : decode cX7_wordOf 188 = .ok (.if_icmp .eq 7, 3) := by decide +kernel
theorem dX7_wordOf_191 : decode cX7_wordOf 191 = .ok (.iload_n 2, 1) := by decide +kernel
theorem dX7_wordOf_192 : decode cX7_wordOf 192 = .ok (.goto 4, 3) := by decide +kernel
theorem dX7_wordOf_195 : decode cX7_wordOf 195 = .ok (.iload_n 3, 1) := by decide +kernel
theorem dX7_wordOf_196 : decode cX7_wordOf 196 = .ok (.ireturn, 1) := by decide +kernel
theorem dX7_scans_0 : decode cX7_scans 0 = .ok (.aload_n 0, 1) := by decide +kernel
theorem dX7_scans_1 : decode cX7_scans 1 = .ok (.bipush 32, 2) := by decide +kernel
theorem dX7_scans_3 : decode cX7_scans 3 = .ok (.bipush 32, 2) := by decide +kernel
theorem dX7_scans_5 : decode cX7_scans 5 = .ok (.invokevirtual 183, 3) := by decide +kernel
theorem dX7_scans_8 : decode cX7_scans 8 = .ok (.ifCond .eq 16, 3) := by decide +kernel
theorem dX7_scans_11 : decode cX7_scans 11 = .ok (.aload_n 0, 1) := by decide +kernel
theorem dX7_scans_12 : decode cX7_scans 12 = .ok (.dup, 1) := by decide +kernel
theorem dX7_scans_13 : decode cX7_scans 13 = .ok (.getfield 152, 3) := by decide +kernel
theorem dX7_scans_16 : decode cX7_scans 16 = .ok (.iconst 1, 1) := by decide +kernel
theorem dX7_scans_17 : decode cX7_scans 17 = .ok (.iadd, 1) := by decide +kernel
theorem dX7_scans_18 : decode cX7_scans 18 = .ok (.putfield 152, 3) := by decide +kernel
theorem dX7_scans_21 : decode cX7_scans 21 = .ok (.goto (-21), 3) := by decide +kernel
theorem dX7_scans_24 : decode cX7_scans 24 = .ok (.aload_n 0, 1) := by decide +kernel
theorem dX7_scans_25 : decode cX7_scans 25 = .ok (.aload_n 0, 1) := by decide +kernel
theorem dX7_scans_26 : decode cX7_scans 26 = .ok (.getfield 152, 3) := by decide +kernel
theorem dX7_scans_29 : decode cX7_scans 29 = .ok (.putfield 187, 3) := by decide +kernel
theorem dX7_scans_32 : decode cX7_scans 32 = .ok (.aload_n 0, 1) := by decide +kernel
theorem dX7_scans_33 : decode cX7_scans 33 = .ok (.getfield 152, 3) := by decide +kernel
theorem dX7_scans_36 : decode cX7_scans 36 = .ok (.aload_n 0, 1) := by decide +kernel
theorem dX7_scans_37 : decode cX7_scans 37 = .ok (.getfield 146, 3) := by decide +kernel
theorem dX7_scans_40 : decode cX7_scans 40 = .ok (.if_icmp .ne 9, 3) := by decide +kernel
theorem dX7_scans_43 : decode cX7_scans 43 = .ok (.aload_n 0, 1) := by decide +kernel
theorem dX7_scans_44 : decode cX7_scans 44 = .ok (.iconst 0, 1) := by decide +kernel
theorem dX7_scans_45 : decode cX7_scans 45 = .ok (.putfield 190, 3) := by decide +kernel
theorem dX7_scans_48 : decode cX7_scans 48 = .ok (.return_, 1) := by decide +kernel
theorem dX7_scans_49 : decode cX7_scans 49 = .ok (.aload_n 0, 1) := by decide +kernel
theorem dX7_scans_50 : decode cX7_scans 50 = .ok (.bipush 97, 2) := by decide +kernel
theorem dX7_scans_52 : decode cX7_scans 52 = .ok (.bipush 122, 2) := by decide +kernel
theorem dX7_scans_54 : decode cX7_scans 54 = .ok (.invokevirtual 183, 3) := by decide +kernel
theorem dX7_scans_57 : decode cX7_scans 57 = .ok (.ifCond .eq 97, 3) := by decide +kernel
theorem dX7_scans_60 : decode cX7_scans 60 = .ok (.lconst 0, 1) := by decide +kernel
theorem dX7_scans_61 : decode cX7_scans 61 = .ok (.lstore_n 1, 1) := by decide +kernel
theorem dX7_scans_62 : decode cX7_scans 62 = .ok (.aload_n 0, 1) := by decide +kernel
theorem dX7_scans_63 : decode cX7_scans 63 = .ok (.bipush 97, 2) := by decide +kernel
theorem dX7_scans_65 : decode cX7_scans 65 = .ok (.bipush 122, 2) := by decide +kernel
theorem dX7_scans_67 : decode cX7_scans 67 = .ok (.invokevirtual 183, 3) := by decide +kernel
theorem dX7_scans_70 : decode cX7_scans 70 = .ok (.ifCond .eq 57, 3) := by decide +kernel
theorem dX7_scans_73 : decode cX7_scans 73 = .ok (.aload_n 0, 1) := by decide +kernel
theorem dX7_scans_74 : decode cX7_scans 74 = .ok (.getfield 152, 3) := by decide +kernel
theorem dX7_scans_77 : decode cX7_scans 77 = .ok (.aload_n 0, 1) := by decide +kernel
theorem dX7_scans_78 : decode cX7_scans 78 = .ok (.getfield 187, 3) := by decide +kernel
theorem dX7_scans_81 : decode cX7_scans 81 = .ok (.isub, 1) := by decide +kernel
theorem dX7_scans_82 : decode cX7_scans 82 = .ok (.bipush 6, 2) := by decide +kernel
theorem dX7_scans_84 : decode cX7_scans 84 = .ok (.if_icmp .le 7, 3) := by decide +kernel
theorem dX7_scans_87 : decode cX7_scans 87 = .ok (.lconst 0, 1) := by decide +kernel
theorem dX7_scans_88 : decode cX7_scans 88 = .ok (.goto 25, 3) := by decide +kernel
theorem dX7_scans_91 : decode cX7_scans 91 = .ok (.ldc2_w 193, 3) := by decide +kernel
theorem dX7_scans_94 : decode cX7_scans 94 = .ok (.lload_n 1, 1) := by decide +kernel
theorem dX7_scans_95 : decode cX7_scans 95 = .ok (.lmul, 1) := by decide +kernel
theorem dX7_scans_96 : decode cX7_scans 96 = .ok (.aload_n 0, 1) := by decide +kernel
theorem dX7_scans_97 : decode cX7_scans 97 = .ok (.getfield 32, 3) := by decide +kernel
theorem dX7_scans_100 : decode cX7_scans 100 = .ok (.aload_n 0, 1) := by decide +kernel
theorem dX7_scans_101 : decode cX7_scans 101 = .ok (.getfield 152, 3) := by decide +kernel
theorem dX7_scans_104 : decode cX7_scans 104 = .ok (.iaload, 1) := by decide +kernel
theorem dX7_scans_105 : decode cX7_scans 105 = .ok (.i2l, 1) := by decide +kernel
theorem dX7_scans_106 : decode cX7_scans 106 = .ok (.ladd, 1) := by decide +kernel
theorem dX7_scans_107 : decode cX7_scans 107 = .ok (.ldc2_w 195, 3) := by decide +kernel
theorem dX7_scans_110 : decode cX7_scans 110 = .ok (.lsub, 1) := by decide +kernel
theorem dX7_scans_111 : decode cX7_scans 111 = .ok (.lconst 1, 1) := by decide +kernel
theorem dX7_scans_112 : decode cX7_scans 112 = .ok (.ladd, 1) := by decide +kernel
theorem dX7_scans_113 : decode cX7_scans 113 = .ok (.lstore_n 1, 1) := by decide +kernel
theorem dX7_scans_114 : decode cX7_scans 114 = .ok (.aload_n 0, 1) := by decide +kernel
theorem dX7_scans_115 : decode cX7_scans 115 = .ok (.dup, 1) := by decide +kernel
theorem dX7_scans_116 : decode cX7_scans 116 = .ok (.getfield 152, 3) := by decide +kernel
theorem dX7_scans_119 : decode cX7_scans 119 = .ok (.iconst 1, 1) := by decide +kernel
theorem dX7_scans_120 : decode cX7_scans 120 = .ok (.iadd, 1) := by decide +kernel
theorem dX7_scans_121 : decode cX7_scans 121 = .ok (.putfield 152, 3) := by decide +kernel
theorem dX7_scans_124 : decode cX7_scans 124 = .ok (.goto (-62), 3) := by decide +kernel
theorem dX7_scans_127 : decode cX7_scans 127 = .ok (.aload_n 0, 1) := by decide +kernel
theorem dX7_scans_128 : decode cX7_scans 128 = .ok (.aload_n 0, 1) := by decide +kernel
theorem dX7_scans_129 : decode cX7_scans 129 = .ok (.getfield 152, 3) := by decide +kernel
theorem dX7_scans_132 : decode cX7_scans 132 = .ok (.aload_n 0, 1) := by decide +kernel
theorem dX7_scans_133 : decode cX7_scans 133 = .ok (.getfield 187, 3) := by decide +kernel
theorem dX7_scans_136 : decode cX7_scans 136 = .ok (.isub, 1) := by decide +kernel
theorem dX7_scans_137 : decode cX7_scans 137 = .ok (.bipush 6, 2) := by decide +kernel
theorem dX7_scans_139 : decode cX7_scans 139 = .ok (.if_icmp .le 7, 3) := by decide +kernel
theorem dX7_scans_142 : decode cX7_scans 142 = .ok (.iconst 1, 1) := by decide +kernel
theorem dX7_scans_143 : decode cX7_scans 143 = .ok (.goto 7, 3) := by decide +kernel
theorem dX7_scans_146 : decode cX7_scans 146 = .ok (.lload_n 1, 1) := by decide +kernel
theorem dX7_scans_147 : decode cX7_scans 147 = .ok (.invokestatic 197, 3) := by decide +kernel
theorem dX7_scans_150 : decode cX7_scans 150 = .ok (.putfield 190, 3) := by decide +kernel
theorem dX7_scans_153 : decode cX7_scans 153 = .ok (.return_, 1) := by decide +kernel
theorem dX7_scans_154 : decode cX7_scans 154 = .ok (.aload_n 0, 1) := by decide +kernel
theorem dX7_scans_155 : decode cX7_scans 155 = .ok (.bipush 48, 2) := by decide +kernel
theorem dX7_scans_157 : decode cX7_scans 157 = .ok (.bipush 57, 2) := by decide +kernel
theorem dX7_scans_159 : decode cX7_scans 159 = .ok (.invokevirtual 183, 3) := by decide +kernel
theorem dX7_scans_162 : decode cX7_scans 162 = .ok (.ifCond .eq 99, 3) := by decide +kernel
theorem dX7_scans_165 : decode cX7_scans 165 = .ok (.aload_n 0, 1) := by decide +kernel
theorem dX7_scans_166 : decode cX7_scans 166 = .ok (.iconst 0, 1) := by decide +kernel
theorem dX7_scans_167 : decode cX7_scans 167 = .ok (.putfield 201, 3) := by decide +kernel
theorem dX7_scans_170 : decode cX7_scans 170 = .ok (.aload_n 0, 1) := by decide +kernel
theorem dX7_scans_171 : decode cX7_scans 171 = .ok (.bipush 48, 2) := by decide +kernel
theorem dX7_scans_173 : decode cX7_scans 173 = .ok (.bipush 57, 2) := by decide +kernel
theorem dX7_scans_175 : decode cX7_scans 175 = .ok (.invokevirtual 183, 3) := by decide +kernel
theorem dX7_scans_178 : decode cX7_scans 178 = .ok (.ifCond .eq 60, 3) := by decide +kernel
theorem dX7_scans_181 : decode cX7_scans 181 = .ok (.aload_n 0, 1) := by decide +kernel
theorem dX7_scans_182 : decode cX7_scans 182 = .ok (.aload_n 0, 1) := by decide +kernel
theorem dX7_scans_183 : decode cX7_scans 183 = .ok (.getfield 152, 3) := by decide +kernel
theorem dX7_scans_186 : decode cX7_scans 186 = .ok (.aload_n 0, 1) := by decide +kernel
theorem dX7_scans_187 : decode cX7_scans 187 = .ok (.getfield 187, 3) := by decide +kernel
theorem dX7_scans_190 : decode cX7_scans 190 = .ok (.isub, 1) := by decide +kernel
theorem dX7_scans_191 : decode cX7_scans 191 = .ok (.iconst 3, 1) := by decide +kernel
theorem dX7_scans_192 : decode cX7_scans 192 = .ok (.if_icmp .ge 26, 3) := by decide +kernel
theorem dX7_scans_195 : decode cX7_scans 195 = .ok (.bipush 10, 2) := by decide +kernel
end
section
theorem dX7_scans_197 : decode cX7_scans 197 = .ok (.aload_n 0, 1) := by decide +kernel
theorem dX7_scans_198 : decode cX7_scans 198 = .ok (.getfield 201, 3) := by decide +kernel
theorem dX7_scans_201 : decode cX7_scans 201 = .ok (.imul, 1) := by decide +kernel
theorem dX7_scans_202 : decode cX7_scans 202 = .ok (.aload_n 0, 1) := by decide +kernel
theorem dX7_scans_203 : decode cX7_scans 203 = .ok (.getfield 32, 3) := by decide +kernel
theorem dX7_scans_206 : decode cX7_scans 206 = .ok (.aload_n 0, 1) := by decide +kernel
theorem dX7_scans_207 : decode cX7_scans 207 = .ok (.getfield 152, 3) := by decide +kernel
theorem dX7_scans_210 : decode cX7_scans 210 = .ok (.iaload, 1) := by decide +kernel
theorem dX7_scans_211 : decode cX7_scans 211 = .ok (.iadd, 1) := by decide +kernel
theorem dX7_scans_212 : decode cX7_scans 212 = .ok (.bipush 48, 2) := by decide +kernel
theorem dX7_scans_214 : decode cX7_scans 214 = .ok (.isub, 1) := by decide +kernel
theorem dX7_scans_215 : decode cX7_scans 215 = .ok (.goto 7, 3) := by decide +kernel
theorem dX7_scans_218 : decode cX7_scans 218 = .ok (.aload_n 0, 1) := by decide +kernel
theorem dX7_scans_219 : decode cX7_scans 219 = .ok (.getfield 201, 3) := by decide +kernel
theorem dX7_scans_222 : decode cX7_scans 222 = .ok (.putfield 201, 3) := by decide +kernel
theorem dX7_scans_225 : decode cX7_scans 225 = .ok (.aload_n 0, 1) := by decide +kernel
theorem dX7_scans_226 : decode cX7_scans 226 = .ok (.dup, 1) := by decide +kernel
theorem dX7_scans_227 : decode cX7_scans 227 = .ok (.getfield 152, 3) := by decide +kernel
theorem dX7_scans_230 : decode cX7_scans 230 = .ok (.iconst 1, 1) := by decide +kernel
theorem dX7_scans_231 : decode cX7_scans 231 = .ok (.iadd, 1) := by decide +kernel
theorem dX7_scans_232 : decode cX7_scans 232 = .ok (.putfield 152, 3) := by decide +kernel
theorem dX7_scans_235 : decode cX7_scans 235 = .ok (.goto (-65), 3) := by decide +kernel
theorem dX7_scans_238 : decode cX7_scans 238 = .ok (.aload_n 0, 1) := by decide +kernel
theorem dX7_scans_239 : decode cX7_scans 239 = .ok (.aload_n 0, 1) := by decide +kernel
theorem dX7_scans_240 : decode cX7_scans 240 = .ok (.getfield 152, 3) := by decide +kernel
theorem dX7_scans_243 : decode cX7_scans 243 = .ok (.aload_n 0, 1) := by decide +kernel
theorem dX7_scans_244 : decode cX7_scans 244 = .ok (.getfield 187, 3) := by decide +kernel
theorem dX7_scans_247 : decode cX7_scans 247 = .ok (.isub, 1) := by decide +kernel
theorem dX7_scans_248 : decode cX7_scans 248 = .ok (.iconst 3, 1) := by decide +kernel
theorem dX7_scans_249 : decode cX7_scans 249 = .ok (.if_icmp .le 7, 3) := by decide +kernel
theorem dX7_scans_252 : decode cX7_scans 252 = .ok (.iconst 1, 1) := by decide +kernel
theorem dX7_scans_253 : decode cX7_scans 253 = .ok (.goto 4, 3) := by decide +kernel
theorem dX7_scans_256 : decode cX7_scans 256 = .ok (.iconst 2, 1) := by decide +kernel
theorem dX7_scans_257 : decode cX7_scans 257 = .ok (.putfield 190, 3) := by decide +kernel
theorem dX7_scans_260 : decode cX7_scans 260 = .ok (.return_, 1) := by decide +kernel
theorem dX7_scans_261 : decode cX7_scans 261 = .ok (.aload_n 0, 1) := by decide +kernel
theorem dX7_scans_262 : decode cX7_scans 262 = .ok (.aload_n 0, 1) := by decide +kernel
theorem dX7_scans_263 : decode cX7_scans 263 = .ok (.bipush 59, 2) := by decide +kernel
theorem dX7_scans_265 : decode cX7_scans 265 = .ok (.bipush 59, 2) := by decide +kernel
theorem dX7_scans_267 : decode cX7_scans 267 = .ok (.invokevirtual 183, 3) := by decide +kernel
theorem dX7_scans_270 : decode cX7_scans 270 = .ok (.ifCond .eq 7, 3) := by decide +kernel
theorem dX7_scans_273 : decode cX7_scans 273 = .ok (.iconst 3, 1) := by decide +kernel
theorem dX7_scans_274 : decode cX7_scans 274 = .ok (.goto 4, 3) := by decide +kernel
theorem dX7_scans_277 : decode cX7_scans 277 = .ok (.iconst 1, 1) := by decide +kernel
theorem dX7_scans_278 : decode cX7_scans 278 = .ok (.putfield 190, 3) := by decide +kernel
theorem dX7_scans_281 : decode cX7_scans 281 = .ok (.aload_n 0, 1) := by decide +kernel
theorem dX7_scans_282 : decode cX7_scans 282 = .ok (.dup, 1) := by decide +kernel
theorem dX7_scans_283 : decode cX7_scans 283 = .ok (.getfield 152, 3) := by decide +kernel
theorem dX7_scans_286 : decode cX7_scans 286 = .ok (.iconst 1, 1) := by decide +kernel
theorem dX7_scans_287 : decode cX7_scans 287 = .ok (.iadd, 1) := by decide +kernel
theorem dX7_scans_288 : decode cX7_scans 288 = .ok (.putfield 152, 3) := by decide +kernel
theorem dX7_scans_291 : decode cX7_scans 291 = .ok (.return_, 1) := by decide +kernel
theorem dX7_numbers_0 : decode cX7_numbers 0 = .ok (.iload_n 0, 1) := by decide +kernel
theorem dX7_numbers_1 : decode cX7_numbers 1 = .ok (.tableswitch 55 16 24 #[53, 55, 55, 55, 51, 55, 53, 53, 53], 51) := by decide +kernel
theorem dX7_numbers_52 : decode cX7_numbers 52 = .ok (.iconst 4, 1) := by decide +kernel
theorem dX7_numbers_53 : decode cX7_numbers 53 = .ok (.ireturn, 1) := by decide +kernel
theorem dX7_numbers_54 : decode cX7_numbers 54 = .ok (.iconst 1, 1) := by decide +kernel
theorem dX7_numbers_55 : decode cX7_numbers 55 = .ok (.ireturn, 1) := by decide +kernel
theorem dX7_numbers_56 : decode cX7_numbers 56 = .ok (.iconst 2, 1) := by decide +kernel
theorem dX7_numbers_57 : decode cX7_numbers 57 = .ok (.ireturn, 1) := by decide +kernel
theorem dX7_reads_0 : decode cX7_reads 0 = .ok (.aload_n 0, 1) := by decide +kernel
theorem dX7_reads_1 : decode cX7_reads 1 = .ok (.iconst 0, 1) := by decide +kernel
theorem dX7_reads_2 : decode cX7_reads 2 = .ok (.putfield 152, 3) := by decide +kernel
theorem dX7_reads_5 : decode cX7_reads 5 = .ok (.aload_n 0, 1) := by decide +kernel
theorem dX7_reads_6 : decode cX7_reads 6 = .ok (.iconst 0, 1) := by decide +kernel
theorem dX7_reads_7 : decode cX7_reads 7 = .ok (.putfield 204, 3) := by decide +kernel
theorem dX7_reads_10 : decode cX7_reads 10 = .ok (.aload_n 0, 1) := by decide +kernel
theorem dX7_reads_11 : decode cX7_reads 11 = .ok (.invokevirtual 207, 3) := by decide +kernel
theorem dX7_reads_14 : decode cX7_reads 14 = .ok (.aload_n 0, 1) := by decide +kernel
theorem dX7_reads_15 : decode cX7_reads 15 = .ok (.getfield 190, 3) := by decide +kernel
theorem dX7_reads_18 : decode cX7_reads 18 = .ok (.ifCond .eq 104, 3) := by decide +kernel
theorem dX7_reads_21 : decode cX7_reads 21 = .ok (.aload_n 0, 1) := by decide +kernel
theorem dX7_reads_22 : decode cX7_reads 22 = .ok (.getfield 190, 3) := by decide +kernel
theorem dX7_reads_25 : decode cX7_reads 25 = .ok (.istore_n 1, 1) := by decide +kernel
theorem dX7_reads_26 : decode cX7_reads 26 = .ok (.iload_n 1, 1) := by decide +kernel
theorem dX7_reads_27 : decode cX7_reads 27 = .ok (.bipush 10, 2) := by decide +kernel
theorem dX7_reads_29 : decode cX7_reads 29 = .ok (.if_icmp .ge 5, 3) := by decide +kernel
theorem dX7_reads_32 : decode cX7_reads 32 = .ok (.iconst 0, 1) := by decide +kernel
theorem dX7_reads_33 : decode cX7_reads 33 = .ok (.ireturn, 1) := by decide +kernel
theorem dX7_reads_34 : decode cX7_reads 34 = .ok (.aload_n 0, 1) := by decide +kernel
theorem dX7_reads_35 : decode cX7_reads 35 = .ok (.invokevirtual 207, 3) := by decide +kernel
theorem dX7_reads_38 : decode cX7_reads 38 = .ok (.iconst 0, 1) := by decide +kernel
theorem dX7_reads_39 : decode cX7_reads 39 = .ok (.istore_n 2, 1) := by decide +kernel
theorem dX7_reads_40 : decode cX7_reads 40 = .ok (.iload_n 2, 1) := by decide +kernel
theorem dX7_reads_41 : decode cX7_reads 41 = .ok (.iload_n 1, 1) := by decide +kernel
theorem dX7_reads_42 : decode cX7_reads 42 = .ok (.invokestatic 210, 3) := by decide +kernel
theorem dX7_reads_45 : decode cX7_reads 45 = .ok (.if_icmp .ge 40, 3) := by decide +kernel
theorem dX7_reads_48 : decode cX7_reads 48 = .ok (.aload_n 0, 1) := by decide +kernel
theorem dX7_reads_49 : decode cX7_reads 49 = .ok (.getfield 190, 3) := by decide +kernel
theorem dX7_reads_52 : decode cX7_reads 52 = .ok (.iconst 2, 1) := by decide +kernel
theorem dX7_reads_53 : decode cX7_reads 53 = .ok (.if_icmp .eq 5, 3) := by decide +kernel
theorem dX7_reads_56 : decode cX7_reads 56 = .ok (.iconst 0, 1) := by decide +kernel
theorem dX7_reads_57 : decode cX7_reads 57 = .ok (.ireturn, 1) := by decide +kernel
theorem dX7_reads_58 : decode cX7_reads 58 = .ok (.aload_n 0, 1) := by decide +kernel
theorem dX7_reads_59 : decode cX7_reads 59 = .ok (.getfield 38, 3) := by decide +kernel
theorem dX7_reads_62 : decode cX7_reads 62 = .ok (.iconst 4, 1) := by decide +kernel
theorem dX7_reads_63 : decode cX7_reads 63 = .ok (.aload_n 0, 1) := by decide +kernel
theorem dX7_reads_64 : decode cX7_reads 64 = .ok (.getfield 204, 3) := by decide +kernel
theorem dX7_reads_67 : decode cX7_reads 67 = .ok (.imul, 1) := by decide +kernel
theorem dX7_reads_68 : decode cX7_reads 68 = .ok (.iload_n 2, 1) := by decide +kernel
theorem dX7_reads_69 : decode cX7_reads 69 = .ok (.iadd, 1) := by decide +kernel
theorem dX7_reads_70 : decode cX7_reads 70 = .ok (.aload_n 0, 1) := by decide +kernel
theorem dX7_reads_71 : decode cX7_reads 71 = .ok (.getfield 201, 3) := by decide +kernel
theorem dX7_reads_74 : decode cX7_reads 74 = .ok (.iastore, 1) := by decide +kernel
theorem dX7_reads_75 : decode cX7_reads 75 = .ok (.aload_n 0, 1) := by decide +kernel
theorem dX7_reads_76 : decode cX7_reads 76 = .ok (.invokevirtual 207, 3) := by decide +kernel
theorem dX7_reads_79 : decode cX7_reads 79 = .ok (.iinc 2 1, 3) := by decide +kernel
theorem dX7_reads_82 : decode cX7_reads 82 = .ok (.goto (-42), 3) := by decide +kernel
theorem dX7_reads_85 : decode cX7_reads 85 = .ok (.aload_n 0, 1) := by decide +kernel
theorem dX7_reads_86 : decode cX7_reads 86 = .ok (.getfield 190, 3) := by decide +kernel
theorem dX7_reads_89 : decode cX7_reads 89 = .ok (.iconst 3, 1) := by decide +kernel
theorem dX7_reads_90 : decode cX7_reads 90 = .ok (.if_icmp .eq 5, 3) := by decide +kernel
theorem dX7_reads_93 : decode cX7_reads 93 = .ok (.iconst 0, 1) := by decide +kernel
theorem dX7_reads_94 : decode cX7_reads 94 = .ok (.ireturn, 1) := by decide +kernel
theorem dX7_reads_95 : decode cX7_reads 95 = .ok (.aload_n 0, 1) := by decide +kernel
theorem dX7_reads_96 : decode cX7_reads 96 = .ok (.getfield 35, 3) := by decide +kernel
theorem dX7_reads_99 : decode cX7_reads 99 = .ok (.aload_n 0, 1) := by decide +kernel
theorem dX7_reads_100 : decode cX7_reads 100 = .ok (.getfield 204, 3) := by decide +kernel
theorem dX7_reads_103 : decode cX7_reads 103 = .ok (.iload_n 1, 1) := by decide +kernel
theorem dX7_reads_104 : decode cX7_reads 104 = .ok (.iastore, 1) := by decide +kernel
theorem dX7_reads_105 : decode cX7_reads 105 = .ok (.aload_n 0, 1) := by decide +kernel
theorem dX7_reads_106 : decode cX7_reads 106 = .ok (.dup, 1) := by decide +kernel
theorem dX7_reads_107 : decode cX7_reads 107 = .ok (.getfield 204, 3) := by decide +kernel
theorem dX7_reads_110 : decode cX7_reads 110 = .ok (.iconst 1, 1) := by decide +kernel
theorem dX7_reads_111 : decode cX7_reads 111 = .ok (.iadd, 1) := by decide +kernel
theorem dX7_reads_112 : decode cX7_reads 112 = .ok (.putfield 204, 3) := by decide +kernel
theorem dX7_reads_115 : decode cX7_reads 115 = .ok (.aload_n 0, 1) := by decide +kernel
theorem dX7_reads_116 : decode cX7_reads 116 = .ok (.invokevirtual 207, 3) := by decide +kernel
theorem dX7_reads_119 : decode cX7_reads 119 = .ok (.goto (-105), 3) := by decide +kernel
theorem dX7_reads_122 : decode cX7_reads 122 = .ok (.iconst 1, 1) := by decide +kernel
theorem dX7_reads_123 : decode cX7_reads 123 = .ok (.ireturn, 1) := by decide +kernel
theorem dX7_tellsItem_0 : decode cX7_tellsItem 0 = .ok (.aload_n 0, 1) := by decide +kernel
theorem dX7_tellsItem_1 : decode cX7_tellsItem 1 = .ok (.getfield 38, 3) := by decide +kernel
theorem dX7_tellsItem_4 : decode cX7_tellsItem 4 = .ok (.iconst 4, 1) := by decide +kernel
theorem dX7_tellsItem_5 : decode cX7_tellsItem 5 = .ok (.iload_n 1, 1) := by decide +kernel
theorem dX7_tellsItem_6 : decode cX7_tellsItem 6 = .ok (.imul, 1) := by decide +kernel
theorem dX7_tellsItem_7 : decode cX7_tellsItem 7 = .ok (.iaload, 1) := by decide +kernel
theorem dX7_tellsItem_8 : decode cX7_tellsItem 8 = .ok (.istore_n 2, 1) := by decide +kernel
theorem dX7_tellsItem_9 : decode cX7_tellsItem 9 = .ok (.aload_n 0, 1) := by decide +kernel
theorem dX7_tellsItem_10 : decode cX7_tellsItem 10 = .ok (.getfield 38, 3) := by decide +kernel
theorem dX7_tellsItem_13 : decode cX7_tellsItem 13 = .ok (.iconst 4, 1) := by decide +kernel
theorem dX7_tellsItem_14 : decode cX7_tellsItem 14 = .ok (.iload_n 1, 1) := by decide +kernel
theorem dX7_tellsItem_15 : decode cX7_tellsItem 15 = .ok (.imul, 1) := by decide +kernel
theorem dX7_tellsItem_16 : decode cX7_tellsItem 16 = .ok (.iconst 1, 1) := by decide +kernel
theorem dX7_tellsItem_17 : decode cX7_tellsItem 17 = .ok (.iadd, 1) := by decide +kernel
theorem dX7_tellsItem_18 : decode cX7_tellsItem 18 = .ok (.iaload, 1) := by decide +kernel
theorem dX7_tellsItem_19 : decode cX7_tellsItem 19 = .ok (.istore_n 3, 1) := by decide +kernel
theorem dX7_tellsItem_20 : decode cX7_tellsItem 20 = .ok (.aload_n 0, 1) := by decide +kernel
theorem dX7_tellsItem_21 : decode cX7_tellsItem 21 = .ok (.getfield 35, 3) := by decide +kernel
theorem dX7_tellsItem_24 : decode cX7_tellsItem 24 = .ok (.iload_n 1, 1) := by decide +kernel
theorem dX7_tellsItem_25 : decode cX7_tellsItem 25 = .ok (.iaload, 1) := by decide +kernel
theorem dX7_tellsItem_26 : decode cX7_tellsItem 26 = .ok (.tableswitch 175 20 26 #[42, 77, 97, 112, 127, 143, 158], 42) := by decide +kernel
theorem dX7_tellsItem_68 : decode cX7_tellsItem 68 = .ok (.aload_n 0, 1) := by decide +kernel
theorem dX7_tellsItem_69 : decode cX7_tellsItem 69 = .ok (.iload_n 2, 1) := by decide +kernel
theorem dX7_tellsItem_70 : decode cX7_tellsItem 70 = .ok (.iload_n 3, 1) := by decide +kernel
theorem dX7_tellsItem_71 : decode cX7_tellsItem 71 = .ok (.aload_n 0, 1) := by decide +kernel
theorem dX7_tellsItem_72 : decode cX7_tellsItem 72 = .ok (.getfield 38, 3) := by decide +kernel
theorem dX7_tellsItem_75 : decode cX7_tellsItem 75 = .ok (.iconst 4, 1) := by decide +kernel
theorem dX7_tellsItem_76 : decode cX7_tellsItem 76 = .ok (.iload_n 1, 1) := by decide +kernel
theorem dX7_tellsItem_77 : decode cX7_tellsItem 77 = .ok (.imul, 1) := by decide +kernel
theorem dX7_tellsItem_78 : decode cX7_tellsItem 78 = .ok (.iconst 2, 1) := by decide +kernel
theorem dX7_tellsItem_79 : decode cX7_tellsItem 79 = .ok (.iadd, 1) := by decide +kernel
theorem dX7_tellsItem_80 : decode cX7_tellsItem 80 = .ok (.iaload, 1) := by decide +kernel
theorem dX7_tellsItem_81 : decode cX7_tellsItem 81 = .ok (.aload_n 0, 1) := by decide +kernel
theorem dX7_tellsItem_82 : decode cX7_tellsItem 82 = .ok (.getfield 38, 3) := by decide +kernel
theorem dX7_tellsItem_85 : decode cX7_tellsItem 85 = .ok (.iconst 4, 1) := by decide +kernel
theorem dX7_tellsItem_86 : decode cX7_tellsItem 86 = .ok (.iload_n 1, 1) := by decide +kernel
theorem dX7_tellsItem_87 : decode cX7_tellsItem 87 = .ok (.imul, 1) := by decide +kernel
theorem dX7_tellsItem_88 : decode cX7_tellsItem 88 = .ok (.iconst 3, 1) := by decide +kernel
theorem dX7_tellsItem_89 : decode cX7_tellsItem 89 = .ok (.iadd, 1) := by decide +kernel
theorem dX7_tellsItem_90 : decode cX7_tellsItem 90 = .ok (.iaload, 1) := by decide +kernel
theorem dX7_tellsItem_91 : decode cX7_tellsItem 91 = .ok (.invokevirtual 214, 3) := by decide +kernel
theorem dX7_tellsItem_94 : decode cX7_tellsItem 94 = .ok (.ifCond .lt 7, 3) := by decide +kernel
theorem dX7_tellsItem_97 : decode cX7_tellsItem 97 = .ok (.iconst 1, 1) := by decide +kernel
theorem dX7_tellsItem_98 : decode cX7_tellsItem 98 = .ok (.goto 4, 3) := by decide +kernel
theorem dX7_tellsItem_101 : decode cX7_tellsItem 101 = .ok (.iconst 0, 1) := by decide +kernel
theorem dX7_tellsItem_102 : decode cX7_tellsItem 102 = .ok (.ireturn, 1) := by decide +kernel
theorem dX7_tellsItem_103 : decode cX7_tellsItem 103 = .ok (.iload_n 2, 1) := by decide +kernel
theorem dX7_tellsItem_104 : decode cX7_tellsItem 104 = .ok (.iconst 4, 1) := by decide +kernel
theorem dX7_tellsItem_105 : decode cX7_tellsItem 105 = .ok (.if_icmp .ge 16, 3) := by decide +kernel
theorem dX7_tellsItem_108 : decode cX7_tellsItem 108 = .ok (.aload_n 0, 1) := by decide +kernel
theorem dX7_tellsItem_109 : decode cX7_tellsItem 109 = .ok (.iload_n 2, 1) := by decide +kernel
theorem dX7_tellsItem_110 : decode cX7_tellsItem 110 = .ok (.iload_n 3, 1) := by decide +kernel
theorem dX7_tellsItem_111 : decode cX7_tellsItem 111 = .ok (.invokevirtual 218, 3) := by decide +kernel
theorem dX7_tellsItem_114 : decode cX7_tellsItem 114 = .ok (.ifCond .lt 7, 3) := by decide +kernel
theorem dX7_tellsItem_117 : decode cX7_tellsItem 117 = .ok (.iconst 1, 1) := by decide +kernel
theorem dX7_tellsItem_118 : decode cX7_tellsItem 118 = .ok (.goto 4, 3) := by decide +kernel
theorem dX7_tellsItem_121 : decode cX7_tellsItem 121 = .ok (.iconst 0, 1) := by decide +kernel
theorem dX7_tellsItem_122 : decode cX7_tellsItem 122 = .ok (.ireturn, 1) := by decide +kernel
theorem dX7_tellsItem_123 : decode cX7_tellsItem 123 = .ok (.aload_n 0, 1) := by decide +kernel
theorem dX7_tellsItem_124 : decode cX7_tellsItem 124 = .ok (.iconst 4, 1) := by decide +kernel
theorem dX7_tellsItem_125 : decode cX7_tellsItem 125 = .ok (.iload_n 2, 1) := by decide +kernel
theorem dX7_tellsItem_126 : decode cX7_tellsItem 126 = .ok (.invokevirtual 218, 3) := by decide +kernel
theorem dX7_tellsItem_129 : decode cX7_tellsItem 129 = .ok (.ifCond .lt 7, 3) := by decide +kernel
theorem dX7_tellsItem_132 : decode cX7_tellsItem 132 = .ok (.iconst 1, 1) := by decide +kernel
theorem dX7_tellsItem_133 : decode cX7_tellsItem 133 = .ok (.goto 4, 3) := by decide +kernel
theorem dX7_tellsItem_136 : decode cX7_tellsItem 136 = .ok (.iconst 0, 1) := by decide +kernel
theorem dX7_tellsItem_137 : decode cX7_tellsItem 137 = .ok (.ireturn, 1) := by decide +kernel
theorem dX7_tellsItem_138 : decode cX7_tellsItem 138 = .ok (.aload_n 0, 1) := by decide +kernel
theorem dX7_tellsItem_139 : decode cX7_tellsItem 139 = .ok (.iconst 5, 1) := by decide +kernel
theorem dX7_tellsItem_140 : decode cX7_tellsItem 140 = .ok (.iload_n 2, 1) := by decide +kernel
theorem dX7_tellsItem_141 : decode cX7_tellsItem 141 = .ok (.invokevirtual 218, 3) := by decide +kernel
theorem dX7_tellsItem_144 : decode cX7_tellsItem 144 = .ok (.ifCond .lt 7, 3) := by decide +kernel
theorem dX7_tellsItem_147 : decode cX7_tellsItem 147 = .ok (.iconst 1, 1) := by decide +kernel
theorem dX7_tellsItem_148 : decode cX7_tellsItem 148 = .ok (.goto 4, 3) := by decide +kernel
theorem dX7_tellsItem_151 : decode cX7_tellsItem 151 = .ok (.iconst 0, 1) := by decide +kernel
theorem dX7_tellsItem_152 : decode cX7_tellsItem 152 = .ok (.ireturn, 1) := by decide +kernel
theorem dX7_tellsItem_153 : decode cX7_tellsItem 153 = .ok (.aload_n 0, 1) := by decide +kernel
theorem dX7_tellsItem_154 : decode cX7_tellsItem 154 = .ok (.bipush 6, 2) := by decide +kernel
theorem dX7_tellsItem_156 : decode cX7_tellsItem 156 = .ok (.iload_n 2, 1) := by decide +kernel
theorem dX7_tellsItem_157 : decode cX7_tellsItem 157 = .ok (.invokevirtual 218, 3) := by decide +kernel
theorem dX7_tellsItem_160 : decode cX7_tellsItem 160 = .ok (.ifCond .lt 7, 3) := by decide +kernel
theorem dX7_tellsItem_163 : decode cX7_tellsItem 163 = .ok (.iconst 1, 1) := by decide +kernel
theorem dX7_tellsItem_164 : decode cX7_tellsItem 164 = .ok (.goto 4, 3) := by decide +kernel
theorem dX7_tellsItem_167 : decode cX7_tellsItem 167 = .ok (.iconst 0, 1) := by decide +kernel
theorem dX7_tellsItem_168 : decode cX7_tellsItem 168 = .ok (.ireturn, 1) := by decide +kernel
theorem dX7_tellsItem_169 : decode cX7_tellsItem 169 = .ok (.aload_n 0, 1) := by decide +kernel
theorem dX7_tellsItem_170 : decode cX7_tellsItem 170 = .ok (.iload_n 2, 1) := by decide +kernel
theorem dX7_tellsItem_171 : decode cX7_tellsItem 171 = .ok (.iload_n 3, 1) := by decide +kernel
theorem dX7_tellsItem_172 : decode cX7_tellsItem 172 = .ok (.invokevirtual 221, 3) := by decide +kernel
theorem dX7_tellsItem_175 : decode cX7_tellsItem 175 = .ok (.ifCond .lt 7, 3) := by decide +kernel
theorem dX7_tellsItem_178 : decode cX7_tellsItem 178 = .ok (.iconst 1, 1) := by decide +kernel
theorem dX7_tellsItem_179 : decode cX7_tellsItem 179 = .ok (.goto 4, 3) := by decide +kernel
theorem dX7_tellsItem_182 : decode cX7_tellsItem 182 = .ok (.iconst 0, 1) := by decide +kernel
theorem dX7_tellsItem_183 : decode cX7_tellsItem 183 = .ok (.ireturn, 1) := by decide +kernel
theorem dX7_tellsItem_184 : decode cX7_tellsItem 184 = .ok (.aload_n 0, 1) := by decide +kernel
theorem dX7_tellsItem_185 : decode cX7_tellsItem 185 = .ok (.iload_n 2, 1) := by decide +kernel
theorem dX7_tellsItem_186 : decode cX7_tellsItem 186 = .ok (.iload_n 3, 1) := by decide +kernel
theorem dX7_tellsItem_187 : decode cX7_tellsItem 187 = .ok (.invokevirtual 224, 3) := by decide +kernel
theorem dX7_tellsItem_190 : decode cX7_tellsItem 190 = .ok (.bipush (-10), 2) := by decide +kernel
theorem dX7_tellsItem_192 : decode cX7_tellsItem 192 = .ok (.if_icmp .eq 7, 3) := by decide +kernel
theorem dX7_tellsItem_195 : decode cX7_tellsItem 195 = .ok (.iconst 1, 1) := by decide +kernel
theorem dX7_tellsItem_196 : decode cX7_tellsItem 196 = .ok (.goto 4, 3) := by decide +kernel
theorem dX7_tellsItem_199 : decode cX7_tellsItem 199 = .ok (.iconst 0, 1) := by decide +kernel
theorem dX7_tellsItem_200 : decode cX7_tellsItem 200 = .ok (.ireturn, 1) := by decide +kernel
theorem dX7_tellsItem_201 : decode cX7_tellsItem 201 = .ok (.aload_n 0, 1) := by decide +kernel
theorem dX7_tellsItem_202 : decode cX7_tellsItem 202 = .ok (.iload_n 2, 1) := by decide +kernel
theorem dX7_tellsItem_203 : decode cX7_tellsItem 203 = .ok (.aload_n 0, 1) := by decide +kernel
theorem dX7_tellsItem_204 : decode cX7_tellsItem 204 = .ok (.getfield 35, 3) := by decide +kernel
theorem dX7_tellsItem_207 : decode cX7_tellsItem 207 = .ok (.iload_n 1, 1) := by decide +kernel
theorem dX7_tellsItem_208 : decode cX7_tellsItem 208 = .ok (.iaload, 1) := by decide +kernel
theorem dX7_tellsItem_209 : decode cX7_tellsItem 209 = .ok (.bipush 10, 2) := by decide +kernel
theorem dX7_tellsItem_211 : decode cX7_tellsItem 211 = .ok (.isub, 1) := by decide +kernel
theorem dX7_tellsItem_212 : decode cX7_tellsItem 212 = .ok (.aload_n 0, 1) := by decide +kernel
theorem dX7_tellsItem_213 : decode cX7_tellsItem 213 = .ok (.getfield 35, 3) := by decide +kernel
theorem dX7_tellsItem_216 : decode cX7_tellsItem 216 = .ok (.iload_n 1, 1) := by decide +kernel
theorem dX7_tellsItem_217 : decode cX7_tellsItem 217 = .ok (.iaload, 1) := by decide +kernel
theorem dX7_tellsItem_218 : decode cX7_tellsItem 218 = .ok (.bipush 16, 2) := by decide +kernel
theorem dX7_tellsItem_220 : decode cX7_tellsItem 220 = .ok (.if_icmp .ne 7, 3) := by decide +kernel
theorem dX7_tellsItem_223 : decode cX7_tellsItem 223 = .ok (.iconst 0, 1) := by decide +kernel
theorem dX7_tellsItem_224 : decode cX7_tellsItem 224 = .ok (.goto 4, 3) := by decide +kernel
theorem dX7_tellsItem_227 : decode cX7_tellsItem 227 = .ok (.iload_n 3, 1) := by decide +kernel
theorem dX7_tellsItem_228 : decode cX7_tellsItem 228 = .ok (.invokevirtual 227, 3) := by decide +kernel
theorem dX7_tellsItem_231 : decode cX7_tellsItem 231 = .ok (.ifCond .lt 7, 3) := by decide +kernel
theorem dX7_tellsItem_234 : decode cX7_tellsItem 234 = .ok (.iconst 1, 1) := by decide +kernel
theorem dX7_tellsItem_235 : decode cX7_tellsItem 235 = .ok (.goto 4, 3) := by decide +kernel
theorem dX7_tellsItem_238 : decode cX7_tellsItem 238 = .ok (.iconst 0, 1) := by decide +kernel
theorem dX7_tellsItem_239 : decode cX7_tellsItem 239 = .ok (.ireturn, 1) := by decide +kernel
theorem dX7_statue_0 : decode cX7_statue 0 = .ok (.aload_n 0, 1) := by decide +kernel
theorem dX7_statue_1 : decode cX7_statue 1 = .ok (.invokevirtual 231, 3) := by decide +kernel
theorem dX7_statue_4 : decode cX7_statue 4 = .ok (.ifCond .ne 11, 3) := by decide +kernel
theorem dX7_statue_7 : decode cX7_statue 7 = .ok (.bipush (-10), 2) := by decide +kernel
theorem dX7_statue_9 : decode cX7_statue 9 = .ok (.aload_n 0, 1) := by decide +kernel
theorem dX7_statue_10 : decode cX7_statue 10 = .ok (.getfield 187, 3) := by decide +kernel
theorem dX7_statue_13 : decode cX7_statue 13 = .ok (.isub, 1) := by decide +kernel
theorem dX7_statue_14 : decode cX7_statue 14 = .ok (.ireturn, 1) := by decide +kernel
theorem dX7_statue_15 : decode cX7_statue 15 = .ok (.iconst 0, 1) := by decide +kernel
theorem dX7_statue_16 : decode cX7_statue 16 = .ok (.istore_n 1, 1) := by decide +kernel
theorem dX7_statue_17 : decode cX7_statue 17 = .ok (.iload_n 1, 1) := by decide +kernel
theorem dX7_statue_18 : decode cX7_statue 18 = .ok (.sipush 210, 3) := by decide +kernel
theorem dX7_statue_21 : decode cX7_statue 21 = .ok (.if_icmp .ge 21, 3) := by decide +kernel
theorem dX7_statue_24 : decode cX7_statue 24 = .ok (.aload_n 0, 1) := by decide +kernel
theorem dX7_statue_25 : decode cX7_statue 25 = .ok (.getfield 20, 3) := by decide +kernel
theorem dX7_statue_28 : decode cX7_statue 28 = .ok (.iload_n 1, 1) := by decide +kernel
theorem dX7_statue_29 : decode cX7_statue 29 = .ok (.aload_n 0, 1) := by decide +kernel
theorem dX7_statue_30 : decode cX7_statue 30 = .ok (.getfield 7, 3) := by decide +kernel
theorem dX7_statue_33 : decode cX7_statue 33 = .ok (.iload_n 1, 1) := by decide +kernel
theorem dX7_statue_34 : decode cX7_statue 34 = .ok (.iaload, 1) := by decide +kernel
theorem dX7_statue_35 : decode cX7_statue 35 = .ok (.iastore, 1) := by decide +kernel
theorem dX7_statue_36 : decode cX7_statue 36 = .ok (.iinc 1 1, 3) := by decide +kernel
theorem dX7_statue_39 : decode cX7_statue 39 = .ok (.goto (-22), 3) := by decide +kernel
theorem dX7_statue_42 : decode cX7_statue 42 = .ok (.aload_n 0, 1) := by decide +kernel
theorem dX7_statue_43 : decode cX7_statue 43 = .ok (.invokevirtual 53, 3) := by decide +kernel
theorem dX7_statue_46 : decode cX7_statue 46 = .ok (.aload_n 0, 1) := by decide +kernel
theorem dX7_statue_47 : decode cX7_statue 47 = .ok (.iconst 1, 1) := by decide +kernel
theorem dX7_statue_48 : decode cX7_statue 48 = .ok (.putfield 60, 3) := by decide +kernel
theorem dX7_statue_51 : decode cX7_statue 51 = .ok (.iconst 0, 1) := by decide +kernel
theorem dX7_statue_52 : decode cX7_statue 52 = .ok (.istore_n 1, 1) := by decide +kernel
theorem dX7_statue_53 : decode cX7_statue 53 = .ok (.iload_n 1, 1) := by decide +kernel
theorem dX7_statue_54 : decode cX7_statue 54 = .ok (.aload_n 0, 1) := by decide +kernel
theorem dX7_statue_55 : decode cX7_statue 55 = .ok (.getfield 204, 3) := by decide +kernel
theorem dX7_statue_58 : decode cX7_statue 58 = .ok (.if_icmp .ge 17, 3) := by decide +kernel
theorem dX7_statue_61 : decode cX7_statue 61 = .ok (.aload_n 0, 1) := by decide +kernel
theorem dX7_statue_62 : decode cX7_statue 62 = .ok (.iload_n 1, 1) := by decide +kernel
theorem dX7_statue_63 : decode cX7_statue 63 = .ok (.invokevirtual 235, 3) := by decide +kernel
theorem dX7_statue_66 : decode cX7_statue 66 = .ok (.ifCond .eq 9, 3) := by decide +kernel
theorem dX7_statue_69 : decode cX7_statue 69 = .ok (.iinc 1 1, 3) := by decide +kernel
theorem dX7_statue_72 : decode cX7_statue 72 = .ok (.goto (-19), 3) := by decide +kernel
theorem dX7_statue_75 : decode cX7_statue 75 = .ok (.aload_n 0, 1) := by decide +kernel
theorem dX7_statue_76 : decode cX7_statue 76 = .ok (.iconst 0, 1) := by decide +kernel
theorem dX7_statue_77 : decode cX7_statue 77 = .ok (.putfield 60, 3) := by decide +kernel
theorem dX7_statue_80 : decode cX7_statue 80 = .ok (.iload_n 1, 1) := by decide +kernel
theorem dX7_statue_81 : decode cX7_statue 81 = .ok (.aload_n 0, 1) := by decide +kernel
theorem dX7_statue_82 : decode cX7_statue 82 = .ok (.getfield 204, 3) := by decide +kernel
theorem dX7_statue_85 : decode cX7_statue 85 = .ok (.if_icmp .ne 8, 3) := by decide +kernel
theorem dX7_statue_88 : decode cX7_statue 88 = .ok (.aload_n 0, 1) := by decide +kernel
theorem dX7_statue_89 : decode cX7_statue 89 = .ok (.getfield 204, 3) := by decide +kernel
theorem dX7_statue_92 : decode cX7_statue 92 = .ok (.ireturn, 1) := by decide +kernel
theorem dX7_statue_93 : decode cX7_statue 93 = .ok (.iconst 0, 1) := by decide +kernel
theorem dX7_statue_94 : decode cX7_statue 94 = .ok (.istore_n 2, 1) := by decide +kernel
theorem dX7_statue_95 : decode cX7_statue 95 = .ok (.iload_n 2, 1) := by decide +kernel
theorem dX7_statue_96 : decode cX7_statue 96 = .ok (.sipush 210, 3) := by decide +kernel
theorem dX7_statue_99 : decode cX7_statue 99 = .ok (.if_icmp .ge 21, 3) := by decide +kernel
theorem dX7_statue_102 : decode cX7_statue 102 = .ok (.aload_n 0, 1) := by decide +kernel
theorem dX7_statue_103 : decode cX7_statue 103 = .ok (.getfield 7, 3) := by decide +kernel
theorem dX7_statue_106 : decode cX7_statue 106 = .ok (.iload_n 2, 1) := by decide +kernel
theorem dX7_statue_107 : decode cX7_statue 107 = .ok (.aload_n 0, 1) := by decide +kernel
theorem dX7_statue_108 : decode cX7_statue 108 = .ok (.getfield 20, 3) := by decide +kernel
theorem dX7_statue_111 : decode cX7_statue 111 = .ok (.iload_n 2, 1) := by decide +kernel
theorem dX7_statue_112 : decode cX7_statue 112 = .ok (.iaload, 1) := by decide +kernel
theorem dX7_statue_113 : decode cX7_statue 113 = .ok (.iastore, 1) := by decide +kernel
theorem dX7_statue_114 : decode cX7_statue 114 = .ok (.iinc 2 1, 3) := by decide +kernel
theorem dX7_statue_117 : decode cX7_statue 117 = .ok (.goto (-22), 3) := by decide +kernel
theorem dX7_statue_120 : decode cX7_statue 120 = .ok (.sipush (-1000), 3) := by decide +kernel
theorem dX7_statue_123 : decode cX7_statue 123 = .ok (.iload_n 1, 1) := by decide +kernel
theorem dX7_statue_124 : decode cX7_statue 124 = .ok (.isub, 1) := by decide +kernel
theorem dX7_statue_125 : decode cX7_statue 125 = .ok (.ireturn, 1) := by decide +kernel
theorem dX7_groundOf_0 : decode cX7_groundOf 0 = .ok (.iload_n 0, 1) := by decide +kernel
theorem dX7_groundOf_1 : decode cX7_groundOf 1 = .ok (.ifCond .ne 7, 3) := by decide +kernel
theorem dX7_groundOf_4 : decode cX7_groundOf 4 = .ok (.iconst (-1), 1) := by decide +kernel
theorem dX7_groundOf_5 : decode cX7_groundOf 5 = .ok (.goto 19, 3) := by decide +kernel
theorem dX7_groundOf_8 : decode cX7_groundOf 8 = .ok (.iload_n 0, 1) := by decide +kernel
theorem dX7_groundOf_9 : decode cX7_groundOf 9 = .ok (.iconst 5, 1) := by decide +kernel
theorem dX7_groundOf_10 : decode cX7_groundOf 10 = .ok (.if_icmp .ge 9, 3) := by decide +kernel
theorem dX7_groundOf_13 : decode cX7_groundOf 13 = .ok (.iload_n 0, 1) := by decide +kernel
theorem dX7_groundOf_14 : decode cX7_groundOf 14 = .ok (.iconst 1, 1) := by decide +kernel
theorem dX7_groundOf_15 : decode cX7_groundOf 15 = .ok (.isub, 1) := by decide +kernel
theorem dX7_groundOf_16 : decode cX7_groundOf 16 = .ok (.goto 8, 3) := by decide +kernel
theorem dX7_groundOf_19 : decode cX7_groundOf 19 = .ok (.iload_n 0, 1) := by decide +kernel
theorem dX7_groundOf_20 : decode cX7_groundOf 20 = .ok (.iconst 5, 1) := by decide +kernel
theorem dX7_groundOf_21 : decode cX7_groundOf 21 = .ok (.isub, 1) := by decide +kernel
theorem dX7_groundOf_22 : decode cX7_groundOf 22 = .ok (.iconst 4, 1) := by decide +kernel
theorem dX7_groundOf_23 : decode cX7_groundOf 23 = .ok (.idiv, 1) := by decide +kernel
theorem dX7_groundOf_24 : decode cX7_groundOf 24 = .ok (.ireturn, 1) := by decide +kernel
theorem dX7_overOf_0 : decode cX7_overOf 0 = .ok (.iload_n 0, 1) := by decide +kernel
theorem dX7_overOf_1 : decode cX7_overOf 1 = .ok (.iconst 5, 1) := by decide +kernel
theorem dX7_overOf_2 : decode cX7_overOf 2 = .ok (.if_icmp .ge 7, 3) := by decide +kernel
theorem dX7_overOf_5 : decode cX7_overOf 5 = .ok (.iconst (-1), 1) := by decide +kernel
theorem dX7_overOf_6 : decode cX7_overOf 6 = .ok (.goto 8, 3) := by decide +kernel
theorem dX7_overOf_9 : decode cX7_overOf 9 = .ok (.iload_n 0, 1) := by decide +kernel
theorem dX7_overOf_10 : decode cX7_overOf 10 = .ok (.iconst 5, 1) := by decide +kernel
theorem dX7_overOf_11 : decode cX7_overOf 11 = .ok (.isub, 1) := by decide +kernel
theorem dX7_overOf_12 : decode cX7_overOf 12 = .ok (.iconst 4, 1) := by decide +kernel
theorem dX7_overOf_13 : decode cX7_overOf 13 = .ok (.irem, 1) := by decide +kernel
theorem dX7_overOf_14 : decode cX7_overOf 14 = .ok (.ireturn, 1) := by decide +kernel
theorem dX7_isStack_0 : decode cX7_isStack 0 = .ok (.iload_n 1, 1) := by decide +kernel
theorem dX7_isStack_1 : decode cX7_isStack 1 = .ok (.i2l, 1) := by decide +kernel
theorem dX7_isStack_2 : decode cX7_isStack 2 = .ok (.lconst 0, 1) := by decide +kernel
theorem dX7_isStack_3 : decode cX7_isStack 3 = .ok (.ldc2_w 124, 3) := by decide +kernel
theorem dX7_isStack_6 : decode cX7_isStack 6 = .ok (.invokestatic 102, 3) := by decide +kernel
theorem dX7_isStack_9 : decode cX7_isStack 9 = .ok (.ifCond .eq 33, 3) := by decide +kernel
theorem dX7_isStack_12 : decode cX7_isStack 12 = .ok (.iload_n 1, 1) := by decide +kernel
theorem dX7_isStack_13 : decode cX7_isStack 13 = .ok (.invokestatic 238, 3) := by decide +kernel
theorem dX7_isStack_16 : decode cX7_isStack 16 = .ok (.aload_n 0, 1) := by decide +kernel
theorem dX7_isStack_17 : decode cX7_isStack 17 = .ok (.getfield 7, 3) := by decide +kernel
theorem dX7_isStack_20 : decode cX7_isStack 20 = .ok (.iconst 0, 1) := by decide +kernel
theorem dX7_isStack_21 : decode cX7_isStack 21 = .ok (.iaload, 1) := by decide +kernel
theorem dX7_isStack_22 : decode cX7_isStack 22 = .ok (.if_icmp .ge 20, 3) := by decide +kernel
theorem dX7_isStack_25 : decode cX7_isStack 25 = .ok (.iload_n 1, 1) := by decide +kernel
theorem dX7_isStack_26 : decode cX7_isStack 26 = .ok (.invokestatic 241, 3) := by decide +kernel
theorem dX7_isStack_29 : decode cX7_isStack 29 = .ok (.aload_n 0, 1) := by decide +kernel
theorem dX7_isStack_30 : decode cX7_isStack 30 = .ok (.getfield 7, 3) := by decide +kernel
theorem dX7_isStack_33 : decode cX7_isStack 33 = .ok (.iconst 0, 1) := by decide +kernel
theorem dX7_isStack_34 : decode cX7_isStack 34 = .ok (.iaload, 1) := by decide +kernel
theorem dX7_isStack_35 : decode cX7_isStack 35 = .ok (.if_icmp .ge 7, 3) := by decide +kernel
theorem dX7_isStack_38 : decode cX7_isStack 38 = .ok (.iconst 1, 1) := by decide +kernel
theorem dX7_isStack_39 : decode cX7_isStack 39 = .ok (.goto 4, 3) := by decide +kernel
theorem dX7_isStack_42 : decode cX7_isStack 42 = .ok (.iconst 0, 1) := by decide +kernel
theorem dX7_isStack_43 : decode cX7_isStack 43 = .ok (.ireturn, 1) := by decide +kernel
theorem dX7_wearOf_0 : decode cX7_wearOf 0 = .ok (.aload_n 0, 1) := by decide +kernel
theorem dX7_wearOf_1 : decode cX7_wearOf 1 = .ok (.getfield 7, 3) := by decide +kernel
theorem dX7_wearOf_4 : decode cX7_wearOf 4 = .ok (.bipush 6, 2) := by decide +kernel
theorem dX7_wearOf_6 : decode cX7_wearOf 6 = .ok (.iaload, 1) := by decide +kernel
theorem dX7_wearOf_7 : decode cX7_wearOf 7 = .ok (.aload_n 0, 1) := by decide +kernel
theorem dX7_wearOf_8 : decode cX7_wearOf 8 = .ok (.getfield 7, 3) := by decide +kernel
theorem dX7_wearOf_11 : decode cX7_wearOf 11 = .ok (.iconst 2, 1) := by decide +kernel
theorem dX7_wearOf_12 : decode cX7_wearOf 12 = .ok (.iload_n 1, 1) := by decide +kernel
theorem dX7_wearOf_13 : decode cX7_wearOf 13 = .ok (.bipush 8, 2) := by decide +kernel
theorem dX7_wearOf_15 : decode cX7_wearOf 15 = .ok (.irem, 1) := by decide +kernel
theorem dX7_wearOf_16 : decode cX7_wearOf 16 = .ok (.iconst 2, 1) := by decide +kernel
theorem dX7_wearOf_17 : decode cX7_wearOf 17 = .ok (.idiv, 1) := by decide +kernel
theorem dX7_wearOf_18 : decode cX7_wearOf 18 = .ok (.aload_n 0, 1) := by decide +kernel
theorem dX7_wearOf_19 : decode cX7_wearOf 19 = .ok (.getfield 7, 3) := by decide +kernel
theorem dX7_wearOf_22 : decode cX7_wearOf 22 = .ok (.bipush 7, 2) := by decide +kernel
theorem dX7_wearOf_24 : decode cX7_wearOf 24 = .ok (.iaload, 1) := by decide +kernel
theorem dX7_wearOf_25 : decode cX7_wearOf 25 = .ok (.iadd, 1) := by decide +kernel
theorem dX7_wearOf_26 : decode cX7_wearOf 26 = .ok (.iconst 4, 1) := by decide +kernel
theorem dX7_wearOf_27 : decode cX7_wearOf 27 = .ok (.irem, 1) := by decide +kernel
theorem dX7_wearOf_28 : decode cX7_wearOf 28 = .ok (.iadd, 1) := by decide +kernel
theorem dX7_wearOf_29 : decode cX7_wearOf 29 = .ok (.iaload, 1) := by decide +kernel
theorem dX7_wearOf_30 : decode cX7_wearOf 30 = .ok (.imul, 1) := by decide +kernel
theorem dX7_wearOf_31 : decode cX7_wearOf 31 = .ok (.ireturn, 1) := by decide +kernel
theorem dX7_thick_0 : decode cX7_thick 0 = .ok (.iload_n 1, 1) := by decide +kernel
theorem dX7_thick_1 : decode cX7_thick 1 = .ok (.iconst (-1), 1) := by decide +kernel
theorem dX7_thick_2 : decode cX7_thick 2 = .ok (.if_icmp .ne 7, 3) := by decide +kernel
theorem dX7_thick_5 : decode cX7_thick 5 = .ok (.iconst 0, 1) := by decide +kernel
theorem dX7_thick_6 : decode cX7_thick 6 = .ok (.goto 9, 3) := by decide +kernel
theorem dX7_thick_9 : decode cX7_thick 9 = .ok (.aload_n 0, 1) := by decide +kernel
theorem dX7_thick_10 : decode cX7_thick 10 = .ok (.iload_n 1, 1) := by decide +kernel
theorem dX7_thick_11 : decode cX7_thick 11 = .ok (.iconst 0, 1) := by decide +kernel
theorem dX7_thick_12 : decode cX7_thick 12 = .ok (.invokevirtual 244, 3) := by decide +kernel
theorem dX7_thick_15 : decode cX7_thick 15 = .ok (.ireturn, 1) := by decide +kernel
theorem dX7_leftOf_0 : decode cX7_leftOf 0 = .ok (.aload_n 0, 1) := by decide +kernel
theorem dX7_leftOf_1 : decode cX7_leftOf 1 = .ok (.iload_n 2, 1) := by decide +kernel
theorem dX7_leftOf_2 : decode cX7_leftOf 2 = .ok (.invokestatic 241, 3) := by decide +kernel
theorem dX7_leftOf_5 : decode cX7_leftOf 5 = .ok (.invokevirtual 247, 3) := by decide +kernel
theorem dX7_leftOf_8 : decode cX7_leftOf 8 = .ok (.istore 4, 2) := by decide +kernel
theorem dX7_leftOf_10 : decode cX7_leftOf 10 = .ok (.aload_n 0, 1) := by decide +kernel
theorem dX7_leftOf_11 : decode cX7_leftOf 11 = .ok (.iload_n 2, 1) := by decide +kernel
theorem dX7_leftOf_12 : decode cX7_leftOf 12 = .ok (.invokestatic 238, 3) := by decide +kernel
theorem dX7_leftOf_15 : decode cX7_leftOf 15 = .ok (.invokevirtual 247, 3) := by decide +kernel
theorem dX7_leftOf_18 : decode cX7_leftOf 18 = .ok (.istore 5, 2) := by decide +kernel
theorem dX7_leftOf_20 : decode cX7_leftOf 20 = .ok (.aload_n 0, 1) := by decide +kernel
theorem dX7_leftOf_21 : decode cX7_leftOf 21 = .ok (.iload_n 1, 1) := by decide +kernel
theorem dX7_leftOf_22 : decode cX7_leftOf 22 = .ok (.invokevirtual 250, 3) := by decide +kernel
theorem dX7_leftOf_25 : decode cX7_leftOf 25 = .ok (.istore 6, 2) := by decide +kernel
theorem dX7_leftOf_27 : decode cX7_leftOf 27 = .ok (.iload_n 3, 1) := by decide +kernel
theorem dX7_leftOf_28 : decode cX7_leftOf 28 = .ok (.iconst 1, 1) := by decide +kernel
theorem dX7_leftOf_29 : decode cX7_leftOf 29 = .ok (.if_icmp .ne 11, 3) := by decide +kernel
theorem dX7_leftOf_32 : decode cX7_leftOf 32 = .ok (.iload 4, 2) := by decide +kernel
theorem dX7_leftOf_34 : decode cX7_leftOf 34 = .ok (.iload 6, 2) := by decide +kernel
theorem dX7_leftOf_36 : decode cX7_leftOf 36 = .ok (.isub, 1) := by decide +kernel
theorem dX7_leftOf_37 : decode cX7_leftOf 37 = .ok (.goto 39, 3) := by decide +kernel
theorem dX7_leftOf_40 : decode cX7_leftOf 40 = .ok (.iload_n 3, 1) := by decide +kernel
theorem dX7_leftOf_41 : decode cX7_leftOf 41 = .ok (.iconst 2, 1) := by decide +kernel
theorem dX7_leftOf_42 : decode cX7_leftOf 42 = .ok (.if_icmp .ne 14, 3) := by decide +kernel
theorem dX7_leftOf_45 : decode cX7_leftOf 45 = .ok (.iload 6, 2) := by decide +kernel
theorem dX7_leftOf_47 : decode cX7_leftOf 47 = .ok (.iload 4, 2) := by decide +kernel
theorem dX7_leftOf_49 : decode cX7_leftOf 49 = .ok (.isub, 1) := by decide +kernel
theorem dX7_leftOf_50 : decode cX7_leftOf 50 = .ok (.iload 5, 2) := by decide +kernel
theorem dX7_leftOf_52 : decode cX7_leftOf 52 = .ok (.isub, 1) := by decide +kernel
theorem dX7_leftOf_53 : decode cX7_leftOf 53 = .ok (.goto 23, 3) := by decide +kernel
theorem dX7_leftOf_56 : decode cX7_leftOf 56 = .ok (.iload 6, 2) := by decide +kernel
theorem dX7_leftOf_58 : decode cX7_leftOf 58 = .ok (.iload 4, 2) := by decide +kernel
theorem dX7_leftOf_60 : decode cX7_leftOf 60 = .ok (.if_icmp .ge 8, 3) := by decide +kernel
theorem dX7_leftOf_63 : decode cX7_leftOf 63 = .ok (.iload 5, 2) := by decide +kernel
theorem dX7_leftOf_65 : decode cX7_leftOf 65 = .ok (.goto 11, 3) := by decide +kernel
theorem dX7_leftOf_68 : decode cX7_leftOf 68 = .ok (.iload 5, 2) := by decide +kernel
theorem dX7_leftOf_70 : decode cX7_leftOf 70 = .ok (.iload 4, 2) := by decide +kernel
theorem dX7_leftOf_72 : decode cX7_leftOf 72 = .ok (.iadd, 1) := by decide +kernel
theorem dX7_leftOf_73 : decode cX7_leftOf 73 = .ok (.iload 6, 2) := by decide +kernel
theorem dX7_leftOf_75 : decode cX7_leftOf 75 = .ok (.isub, 1) := by decide +kernel
theorem dX7_leftOf_76 : decode cX7_leftOf 76 = .ok (.istore 7, 2) := by decide +kernel
theorem dX7_leftOf_78 : decode cX7_leftOf 78 = .ok (.iload 7, 2) := by decide +kernel
theorem dX7_leftOf_80 : decode cX7_leftOf 80 = .ok (.ifCond .le 8, 3) := by decide +kernel
theorem dX7_leftOf_83 : decode cX7_leftOf 83 = .ok (.iload 7, 2) := by decide +kernel
theorem dX7_leftOf_85 : decode cX7_leftOf 85 = .ok (.goto 4, 3) := by decide +kernel
theorem dX7_leftOf_88 : decode cX7_leftOf 88 = .ok (.iconst 0, 1) := by decide +kernel
theorem dX7_leftOf_89 : decode cX7_leftOf 89 = .ok (.ireturn, 1) := by decide +kernel
theorem dX7_isBright_0 : decode cX7_isBright 0 = .ok (.iload_n 2, 1) := by decide +kernel
theorem dX7_isBright_1 : decode cX7_isBright 1 = .ok (.invokestatic 238, 3) := by decide +kernel
theorem dX7_isBright_4 : decode cX7_isBright 4 = .ok (.istore 4, 2) := by decide +kernel
theorem dX7_isBright_6 : decode cX7_isBright 6 = .ok (.iload_n 2, 1) := by decide +kernel
theorem dX7_isBright_7 : decode cX7_isBright 7 = .ok (.invokestatic 241, 3) := by decide +kernel
theorem dX7_isBright_10 : decode cX7_isBright 10 = .ok (.istore 5, 2) := by decide +kernel
theorem dX7_isBright_12 : decode cX7_isBright 12 = .ok (.iload 4, 2) := by decide +kernel
theorem dX7_isBright_14 : decode cX7_isBright 14 = .ok (.iconst (-1), 1) := by decide +kernel
theorem dX7_isBright_15 : decode cX7_isBright 15 = .ok (.if_icmp .eq 39, 3) := by decide +kernel
theorem dX7_isBright_18 : decode cX7_isBright 18 = .ok (.aload_n 0, 1) := by decide +kernel
theorem dX7_isBright_19 : decode cX7_isBright 19 = .ok (.iload_n 1, 1) := by decide +kernel
theorem dX7_isBright_20 : decode cX7_isBright 20 = .ok (.iload_n 2, 1) := by decide +kernel
theorem dX7_isBright_21 : decode cX7_isBright 21 = .ok (.iconst 0, 1) := by decide +kernel
theorem dX7_isBright_22 : decode cX7_isBright 22 = .ok (.invokevirtual 253, 3) := by decide +kernel
theorem dX7_isBright_25 : decode cX7_isBright 25 = .ok (.aload_n 0, 1) := by decide +kernel
theorem dX7_isBright_26 : decode cX7_isBright 26 = .ok (.iload 4, 2) := by decide +kernel
theorem dX7_isBright_28 : decode cX7_isBright 28 = .ok (.iconst 3, 1) := by decide +kernel
theorem dX7_isBright_29 : decode cX7_isBright 29 = .ok (.invokevirtual 244, 3) := by decide +kernel
theorem dX7_isBright_32 : decode cX7_isBright 32 = .ok (.if_icmp .lt 22, 3) := by decide +kernel
theorem dX7_isBright_35 : decode cX7_isBright 35 = .ok (.aload_n 0, 1) := by decide +kernel
theorem dX7_isBright_36 : decode cX7_isBright 36 = .ok (.iload 4, 2) := by decide +kernel
theorem dX7_isBright_38 : decode cX7_isBright 38 = .ok (.iconst 2, 1) := by decide +kernel
theorem dX7_isBright_39 : decode cX7_isBright 39 = .ok (.invokevirtual 244, 3) := by decide +kernel
theorem dX7_isBright_42 : decode cX7_isBright 42 = .ok (.iload_n 3, 1) := by decide +kernel
theorem dX7_isBright_43 : decode cX7_isBright 43 = .ok (.ishr, 1) := by decide +kernel
theorem dX7_isBright_44 : decode cX7_isBright 44 = .ok (.iconst 1, 1) := by decide +kernel
theorem dX7_isBright_45 : decode cX7_isBright 45 = .ok (.iand, 1) := by decide +kernel
theorem dX7_isBright_46 : decode cX7_isBright 46 = .ok (.iconst 1, 1) := by decide +kernel
theorem dX7_isBright_47 : decode cX7_isBright 47 = .ok (.if_icmp .ne 7, 3) := by decide +kernel
theorem dX7_isBright_50 : decode cX7_isBright 50 = .ok (.iconst 1, 1) := by decide +kernel
theorem dX7_isBright_51 : decode cX7_isBright 51 = .ok (.goto 4, 3) := by decide +kernel
theorem dX7_isBright_54 : decode cX7_isBright 54 = .ok (.iconst 0, 1) := by decide +kernel
theorem dX7_isBright_55 : decode cX7_isBright 55 = .ok (.istore 6, 2) := by decide +kernel
theorem dX7_isBright_57 : decode cX7_isBright 57 = .ok (.iload 6, 2) := by decide +kernel
theorem dX7_isBright_59 : decode cX7_isBright 59 = .ok (.ifCond .ne 41, 3) := by decide +kernel
theorem dX7_isBright_62 : decode cX7_isBright 62 = .ok (.iload 5, 2) := by decide +kernel
theorem dX7_isBright_64 : decode cX7_isBright 64 = .ok (.iconst (-1), 1) := by decide +kernel
theorem dX7_isBright_65 : decode cX7_isBright 65 = .ok (.if_icmp .eq 39, 3) := by decide +kernel
theorem dX7_isBright_68 : decode cX7_isBright 68 = .ok (.aload_n 0, 1) := by decide +kernel
theorem dX7_isBright_69 : decode cX7_isBright 69 = .ok (.iload_n 1, 1) := by decide +kernel
theorem dX7_isBright_70 : decode cX7_isBright 70 = .ok (.iload_n 2, 1) := by decide +kernel
theorem dX7_isBright_71 : decode cX7_isBright 71 = .ok (.iconst 1, 1) := by decide +kernel
theorem dX7_isBright_72 : decode cX7_isBright 72 = .ok (.invokevirtual 253, 3) := by decide +kernel
theorem dX7_isBright_75 : decode cX7_isBright 75 = .ok (.aload_n 0, 1) := by decide +kernel
theorem dX7_isBright_76 : decode cX7_isBright 76 = .ok (.iload 5, 2) := by decide +kernel
theorem dX7_isBright_78 : decode cX7_isBright 78 = .ok (.iconst 3, 1) := by decide +kernel
theorem dX7_isBright_79 : decode cX7_isBright 79 = .ok (.invokevirtual 244, 3) := by decide +kernel
theorem dX7_isBright_82 : decode cX7_isBright 82 = .ok (.if_icmp .lt 22, 3) := by decide +kernel
theorem dX7_isBright_85 : decode cX7_isBright 85 = .ok (.aload_n 0, 1) := by decide +kernel
theorem dX7_isBright_86 : decode cX7_isBright 86 = .ok (.iload 5, 2) := by decide +kernel
theorem dX7_isBright_88 : decode cX7_isBright 88 = .ok (.iconst 2, 1) := by decide +kernel
theorem dX7_isBright_89 : decode cX7_isBright 89 = .ok (.invokevirtual 244, 3) := by decide +kernel
theorem dX7_isBright_92 : decode cX7_isBright 92 = .ok (.iload_n 3, 1) := by decide +kernel
theorem dX7_isBright_93 : decode cX7_isBright 93 = .ok (.ishr, 1) := by decide +kernel
theorem dX7_isBright_94 : decode cX7_isBright 94 = .ok (.iconst 1, 1) := by decide +kernel
theorem dX7_isBright_95 : decode cX7_isBright 95 = .ok (.iand, 1) := by decide +kernel
theorem dX7_isBright_96 : decode cX7_isBright 96 = .ok (.iconst 1, 1) := by decide +kernel
theorem dX7_isBright_97 : decode cX7_isBright 97 = .ok (.if_icmp .ne 7, 3) := by decide +kernel
theorem dX7_isBright_100 : decode cX7_isBright 100 = .ok (.iconst 1, 1) := by decide +kernel
theorem dX7_isBright_101 : decode cX7_isBright 101 = .ok (.goto 4, 3) := by decide +kernel
theorem dX7_isBright_104 : decode cX7_isBright 104 = .ok (.iconst 0, 1) := by decide +kernel
theorem dX7_isBright_105 : decode cX7_isBright 105 = .ok (.ireturn, 1) := by decide +kernel
theorem dX7_isSo_0 : decode cX7_isSo 0 = .ok (.aload_n 0, 1) := by decide +kernel
theorem dX7_isSo_1 : decode cX7_isSo 1 = .ok (.iload_n 1, 1) := by decide +kernel
theorem dX7_isSo_2 : decode cX7_isSo 2 = .ok (.iconst 2, 1) := by decide +kernel
theorem dX7_isSo_3 : decode cX7_isSo 3 = .ok (.invokevirtual 138, 3) := by decide +kernel
theorem dX7_isSo_6 : decode cX7_isSo 6 = .ok (.istore 4, 2) := by decide +kernel
theorem dX7_isSo_8 : decode cX7_isSo 8 = .ok (.aload_n 0, 1) := by decide +kernel
theorem dX7_isSo_9 : decode cX7_isSo 9 = .ok (.iload_n 1, 1) := by decide +kernel
theorem dX7_isSo_10 : decode cX7_isSo 10 = .ok (.iconst 1, 1) := by decide +kernel
theorem dX7_isSo_11 : decode cX7_isSo 11 = .ok (.invokevirtual 138, 3) := by decide +kernel
theorem dX7_isSo_14 : decode cX7_isSo 14 = .ok (.tableswitch 158 0 6 #[42, 86, 95, 112, 130, 158, 148], 42) := by decide +kernel
theorem dX7_isSo_56 : decode cX7_isSo 56 = .ok (.iload_n 3, 1) := by decide +kernel
theorem dX7_isSo_57 : decode cX7_isSo 57 = .ok (.invokestatic 238, 3) := by decide +kernel
theorem dX7_isSo_60 : decode cX7_isSo 60 = .ok (.iload 4, 2) := by decide +kernel
theorem dX7_isSo_62 : decode cX7_isSo 62 = .ok (.if_icmp .ne 13, 3) := by decide +kernel
theorem dX7_isSo_65 : decode cX7_isSo 65 = .ok (.aload_n 0, 1) := by decide +kernel
theorem dX7_isSo_66 : decode cX7_isSo 66 = .ok (.iload_n 2, 1) := by decide +kernel
theorem dX7_isSo_67 : decode cX7_isSo 67 = .ok (.iload_n 3, 1) := by decide +kernel
theorem dX7_isSo_68 : decode cX7_isSo 68 = .ok (.iconst 0, 1) := by decide +kernel
theorem dX7_isSo_69 : decode cX7_isSo 69 = .ok (.invokevirtual 253, 3) := by decide +kernel
theorem dX7_isSo_72 : decode cX7_isSo 72 = .ok (.ifCond .gt 22, 3) := by decide +kernel
theorem dX7_isSo_75 : decode cX7_isSo 75 = .ok (.iload_n 3, 1) := by decide +kernel
theorem dX7_isSo_76 : decode cX7_isSo 76 = .ok (.invokestatic 241, 3) := by decide +kernel
theorem dX7_isSo_79 : decode cX7_isSo 79 = .ok (.iload 4, 2) := by decide +kernel
theorem dX7_isSo_81 : decode cX7_isSo 81 = .ok (.if_icmp .ne 17, 3) := by decide +kernel
theorem dX7_isSo_84 : decode cX7_isSo 84 = .ok (.aload_n 0, 1) := by decide +kernel
theorem dX7_isSo_85 : decode cX7_isSo 85 = .ok (.iload_n 2, 1) := by decide +kernel
theorem dX7_isSo_86 : decode cX7_isSo 86 = .ok (.iload_n 3, 1) := by decide +kernel
theorem dX7_isSo_87 : decode cX7_isSo 87 = .ok (.iconst 1, 1) := by decide +kernel
theorem dX7_isSo_88 : decode cX7_isSo 88 = .ok (.invokevirtual 253, 3) := by decide +kernel
theorem dX7_isSo_91 : decode cX7_isSo 91 = .ok (.ifCond .le 7, 3) := by decide +kernel
theorem dX7_isSo_94 : decode cX7_isSo 94 = .ok (.iconst 1, 1) := by decide +kernel
theorem dX7_isSo_95 : decode cX7_isSo 95 = .ok (.goto 4, 3) := by decide +kernel
theorem dX7_isSo_98 : decode cX7_isSo 98 = .ok (.iconst 0, 1) := by decide +kernel
theorem dX7_isSo_99 : decode cX7_isSo 99 = .ok (.ireturn, 1) := by decide +kernel
theorem dX7_isSo_100 : decode cX7_isSo 100 = .ok (.aload_n 0, 1) := by decide +kernel
theorem dX7_isSo_101 : decode cX7_isSo 101 = .ok (.iload_n 2, 1) := by decide +kernel
theorem dX7_isSo_102 : decode cX7_isSo 102 = .ok (.iload_n 3, 1) := by decide +kernel
theorem dX7_isSo_103 : decode cX7_isSo 103 = .ok (.iload 4, 2) := by decide +kernel
theorem dX7_isSo_105 : decode cX7_isSo 105 = .ok (.invokevirtual 256, 3) := by decide +kernel
theorem dX7_isSo_108 : decode cX7_isSo 108 = .ok (.ireturn, 1) := by decide +kernel
theorem dX7_isSo_109 : decode cX7_isSo 109 = .ok (.aload_n 0, 1) := by decide +kernel
theorem dX7_isSo_110 : decode cX7_isSo 110 = .ok (.iload_n 2, 1) := by decide +kernel
theorem dX7_isSo_111 : decode cX7_isSo 111 = .ok (.iload_n 3, 1) := by decide +kernel
theorem dX7_isSo_112 : decode cX7_isSo 112 = .ok (.iload 4, 2) := by decide +kernel
theorem dX7_isSo_114 : decode cX7_isSo 114 = .ok (.invokevirtual 256, 3) := by decide +kernel
theorem dX7_isSo_117 : decode cX7_isSo 117 = .ok (.ifCond .ne 7, 3) := by decide +kernel
theorem dX7_isSo_120 : decode cX7_isSo 120 = .ok (.iconst 1, 1) := by decide +kernel
theorem dX7_isSo_121 : decode cX7_isSo 121 = .ok (.goto 4, 3) := by decide +kernel
theorem dX7_isSo_124 : decode cX7_isSo 124 = .ok (.iconst 0, 1) := by decide +kernel
theorem dX7_isSo_125 : decode cX7_isSo 125 = .ok (.ireturn, 1) := by decide +kernel
theorem dX7_isSo_126 : decode cX7_isSo 126 = .ok (.aload_n 0, 1) := by decide +kernel
theorem dX7_isSo_127 : decode cX7_isSo 127 = .ok (.iload_n 2, 1) := by decide +kernel
theorem dX7_isSo_128 : decode cX7_isSo 128 = .ok (.iload_n 3, 1) := by decide +kernel
theorem dX7_isSo_129 : decode cX7_isSo 129 = .ok (.iconst 2, 1) := by decide +kernel
theorem dX7_isSo_130 : decode cX7_isSo 130 = .ok (.invokevirtual 253, 3) := by decide +kernel
theorem dX7_isSo_133 : decode cX7_isSo 133 = .ok (.iload 4, 2) := by decide +kernel
theorem dX7_isSo_135 : decode cX7_isSo 135 = .ok (.if_icmp .gt 7, 3) := by decide +kernel
theorem dX7_isSo_138 : decode cX7_isSo 138 = .ok (.iconst 1, 1) := by decide +kernel
theorem dX7_isSo_139 : decode cX7_isSo 139 = .ok (.goto 4, 3) := by decide +kernel
theorem dX7_isSo_142 : decode cX7_isSo 142 = .ok (.iconst 0, 1) := by decide +kernel
theorem dX7_isSo_143 : decode cX7_isSo 143 = .ok (.ireturn, 1) := by decide +kernel
theorem dX7_isSo_144 : decode cX7_isSo 144 = .ok (.aload_n 0, 1) := by decide +kernel
theorem dX7_isSo_145 : decode cX7_isSo 145 = .ok (.iload_n 2, 1) := by decide +kernel
theorem dX7_isSo_146 : decode cX7_isSo 146 = .ok (.iload_n 3, 1) := by decide +kernel
theorem dX7_isSo_147 : decode cX7_isSo 147 = .ok (.iconst 2, 1) := by decide +kernel
theorem dX7_isSo_148 : decode cX7_isSo 148 = .ok (.invokevirtual 253, 3) := by decide +kernel
theorem dX7_isSo_151 : decode cX7_isSo 151 = .ok (.iload 4, 2) := by decide +kernel
theorem dX7_isSo_153 : decode cX7_isSo 153 = .ok (.if_icmp .lt 7, 3) := by decide +kernel
theorem dX7_isSo_156 : decode cX7_isSo 156 = .ok (.iconst 1, 1) := by decide +kernel
theorem dX7_isSo_157 : decode cX7_isSo 157 = .ok (.goto 4, 3) := by decide +kernel
theorem dX7_isSo_160 : decode cX7_isSo 160 = .ok (.iconst 0, 1) := by decide +kernel
theorem dX7_isSo_161 : decode cX7_isSo 161 = .ok (.ireturn, 1) := by decide +kernel
theorem dX7_isSo_162 : decode cX7_isSo 162 = .ok (.iload_n 3, 1) := by decide +kernel
theorem dX7_isSo_163 : decode cX7_isSo 163 = .ok (.ifCond .eq 7, 3) := by decide +kernel
theorem dX7_isSo_166 : decode cX7_isSo 166 = .ok (.iconst 1, 1) := by decide +kernel
theorem dX7_isSo_167 : decode cX7_isSo 167 = .ok (.goto 4, 3) := by decide +kernel
theorem dX7_isSo_170 : decode cX7_isSo 170 = .ok (.iconst 0, 1) := by decide +kernel
theorem dX7_isSo_171 : decode cX7_isSo 171 = .ok (.ireturn, 1) := by decide +kernel
theorem dX7_isSo_172 : decode cX7_isSo 172 = .ok (.iconst 1, 1) := by decide +kernel
theorem dX7_isSo_173 : decode cX7_isSo 173 = .ok (.ireturn, 1) := by decide +kernel
theorem dX7_isLooked_0 : decode cX7_isLooked 0 = .ok (.aload_n 0, 1) := by decide +kernel
theorem dX7_isLooked_1 : decode cX7_isLooked 1 = .ok (.iload_n 1, 1) := by decide +kernel
theorem dX7_isLooked_2 : decode cX7_isLooked 2 = .ok (.iconst 3, 1) := by decide +kernel
theorem dX7_isLooked_3 : decode cX7_isLooked 3 = .ok (.invokevirtual 138, 3) := by decide +kernel
theorem dX7_isLooked_6 : decode cX7_isLooked 6 = .ok (.ifCond .ne 15, 3) := by decide +kernel
theorem dX7_isLooked_9 : decode cX7_isLooked 9 = .ok (.iload_n 2, 1) := by decide +kernel
theorem dX7_isLooked_10 : decode cX7_isLooked 10 = .ok (.iload_n 1, 1) := by decide +kernel
theorem dX7_isLooked_11 : decode cX7_isLooked 11 = .ok (.ishr, 1) := by decide +kernel
theorem dX7_isLooked_12 : decode cX7_isLooked 12 = .ok (.iconst 1, 1) := by decide +kernel
theorem dX7_isLooked_13 : decode cX7_isLooked 13 = .ok (.iand, 1) := by decide +kernel
theorem dX7_isLooked_14 : decode cX7_isLooked 14 = .ok (.ifCond .ne 7, 3) := by decide +kernel
theorem dX7_isLooked_17 : decode cX7_isLooked 17 = .ok (.iconst 1, 1) := by decide +kernel
theorem dX7_isLooked_18 : decode cX7_isLooked 18 = .ok (.goto 4, 3) := by decide +kernel
theorem dX7_isLooked_21 : decode cX7_isLooked 21 = .ok (.iconst 0, 1) := by decide +kernel
theorem dX7_isLooked_22 : decode cX7_isLooked 22 = .ok (.ireturn, 1) := by decide +kernel
theorem dX7_isFit_0 : decode cX7_isFit 0 = .ok (.aload_n 0, 1) := by decide +kernel
theorem dX7_isFit_1 : decode cX7_isFit 1 = .ok (.iload_n 2, 1) := by decide +kernel
theorem dX7_isFit_2 : decode cX7_isFit 2 = .ok (.invokevirtual 259, 3) := by decide +kernel
theorem dX7_isFit_5 : decode cX7_isFit 5 = .ok (.istore 4, 2) := by decide +kernel
theorem dX7_isFit_7 : decode cX7_isFit 7 = .ok (.iconst 0, 1) := by decide +kernel
theorem dX7_isFit_8 : decode cX7_isFit 8 = .ok (.istore 5, 2) := by decide +kernel
theorem dX7_isFit_10 : decode cX7_isFit 10 = .ok (.iload 5, 2) := by decide +kernel
theorem dX7_isFit_12 : decode cX7_isFit 12 = .ok (.aload_n 0, 1) := by decide +kernel
theorem dX7_isFit_13 : decode cX7_isFit 13 = .ok (.getfield 7, 3) := by decide +kernel
theorem dX7_isFit_16 : decode cX7_isFit 16 = .ok (.iconst 1, 1) := by decide +kernel
theorem dX7_isFit_17 : decode cX7_isFit 17 = .ok (.iaload, 1) := by decide +kernel
theorem dX7_isFit_18 : decode cX7_isFit 18 = .ok (.if_icmp .ge 53, 3) := by decide +kernel
theorem dX7_isFit_21 : decode cX7_isFit 21 = .ok (.iload 4, 2) := by decide +kernel
theorem dX7_isFit_23 : decode cX7_isFit 23 = .ok (.ifCond .eq 48, 3) := by decide +kernel
theorem dX7_isFit_26 : decode cX7_isFit 26 = .ok (.aload_n 0, 1) := by decide +kernel
theorem dX7_isFit_27 : decode cX7_isFit 27 = .ok (.iload 5, 2) := by decide +kernel
theorem dX7_isFit_29 : decode cX7_isFit 29 = .ok (.iconst 0, 1) := by decide +kernel
theorem dX7_isFit_30 : decode cX7_isFit 30 = .ok (.invokevirtual 138, 3) := by decide +kernel
theorem dX7_isFit_33 : decode cX7_isFit 33 = .ok (.iload_n 1, 1) := by decide +kernel
theorem dX7_isFit_34 : decode cX7_isFit 34 = .ok (.if_icmp .ne 24, 3) := by decide +kernel
theorem dX7_isFit_37 : decode cX7_isFit 37 = .ok (.aload_n 0, 1) := by decide +kernel
theorem dX7_isFit_38 : decode cX7_isFit 38 = .ok (.iload 5, 2) := by decide +kernel
theorem dX7_isFit_40 : decode cX7_isFit 40 = .ok (.iload_n 3, 1) := by decide +kernel
theorem dX7_isFit_41 : decode cX7_isFit 41 = .ok (.invokevirtual 262, 3) := by decide +kernel
theorem dX7_isFit_44 : decode cX7_isFit 44 = .ok (.ifCond .eq 14, 3) := by decide +kernel
theorem dX7_isFit_47 : decode cX7_isFit 47 = .ok (.aload_n 0, 1) := by decide +kernel
theorem dX7_isFit_48 : decode cX7_isFit 48 = .ok (.iload 5, 2) := by decide +kernel
theorem dX7_isFit_50 : decode cX7_isFit 50 = .ok (.iload_n 1, 1) := by decide +kernel
theorem dX7_isFit_51 : decode cX7_isFit 51 = .ok (.iload_n 2, 1) := by decide +kernel
theorem dX7_isFit_52 : decode cX7_isFit 52 = .ok (.invokevirtual 265, 3) := by decide +kernel
theorem dX7_isFit_55 : decode cX7_isFit 55 = .ok (.ifCond .eq 7, 3) := by decide +kernel
theorem dX7_isFit_58 : decode cX7_isFit 58 = .ok (.iconst 1, 1) := by decide +kernel
theorem dX7_isFit_59 : decode cX7_isFit 59 = .ok (.goto 4, 3) := by decide +kernel
theorem dX7_isFit_62 : decode cX7_isFit 62 = .ok (.iconst 0, 1) := by decide +kernel
theorem dX7_isFit_63 : decode cX7_isFit 63 = .ok (.istore 4, 2) := by decide +kernel
theorem dX7_isFit_65 : decode cX7_isFit 65 = .ok (.iinc 5 1, 3) := by decide +kernel
theorem dX7_isFit_68 : decode cX7_isFit 68 = .ok (.goto (-58), 3) := by decide +kernel
theorem dX7_isFit_71 : decode cX7_isFit 71 = .ok (.iload 4, 2) := by decide +kernel
theorem dX7_isFit_73 : decode cX7_isFit 73 = .ok (.ireturn, 1) := by decide +kernel
theorem dX7_left_0 : decode cX7_left 0 = .ok (.iload_n 1, 1) := by decide +kernel
theorem dX7_left_1 : decode cX7_left 1 = .ok (.invokestatic 131, 3) := by decide +kernel
theorem dX7_left_4 : decode cX7_left 4 = .ok (.ifCond .eq 33, 3) := by decide +kernel
theorem dX7_left_7 : decode cX7_left 7 = .ok (.aload_n 0, 1) := by decide +kernel
theorem dX7_left_8 : decode cX7_left 8 = .ok (.iload_n 2, 1) := by decide +kernel
theorem dX7_left_9 : decode cX7_left 9 = .ok (.invokevirtual 259, 3) := by decide +kernel
theorem dX7_left_12 : decode cX7_left 12 = .ok (.ifCond .eq 25, 3) := by decide +kernel
theorem dX7_left_15 : decode cX7_left 15 = .ok (.iload_n 3, 1) := by decide +kernel
theorem dX7_left_16 : decode cX7_left 16 = .ok (.i2l, 1) := by decide +kernel
theorem dX7_left_17 : decode cX7_left 17 = .ok (.lconst 0, 1) := by decide +kernel
theorem dX7_left_18 : decode cX7_left 18 = .ok (.ldc2_w 268, 3) := by decide +kernel
theorem dX7_left_21 : decode cX7_left 21 = .ok (.invokestatic 102, 3) := by decide +kernel
theorem dX7_left_24 : decode cX7_left 24 = .ok (.ifCond .eq 13, 3) := by decide +kernel
theorem dX7_left_27 : decode cX7_left 27 = .ok (.aload_n 0, 1) := by decide +kernel
theorem dX7_left_28 : decode cX7_left 28 = .ok (.iload_n 1, 1) := by decide +kernel
theorem dX7_left_29 : decode cX7_left 29 = .ok (.iload_n 2, 1) := by decide +kernel
theorem dX7_left_30 : decode cX7_left 30 = .ok (.iload_n 3, 1) := by decide +kernel
theorem dX7_left_31 : decode cX7_left 31 = .ok (.invokevirtual 253, 3) := by decide +kernel
theorem dX7_left_34 : decode cX7_left 34 = .ok (.goto 7, 3) := by decide +kernel
theorem dX7_left_37 : decode cX7_left 37 = .ok (.aload_n 0, 1) := by decide +kernel
theorem dX7_left_38 : decode cX7_left 38 = .ok (.invokevirtual 98, 3) := by decide +kernel
theorem dX7_left_41 : decode cX7_left 41 = .ok (.ireturn, 1) := by decide +kernel
theorem dX7_shines_0 : decode cX7_shines 0 = .ok (.iload_n 1, 1) := by decide +kernel
theorem dX7_shines_1 : decode cX7_shines 1 = .ok (.invokestatic 131, 3) := by decide +kernel
theorem dX7_shines_4 : decode cX7_shines 4 = .ok (.ifCond .eq 23, 3) := by decide +kernel
theorem dX7_shines_7 : decode cX7_shines 7 = .ok (.aload_n 0, 1) := by decide +kernel
theorem dX7_shines_8 : decode cX7_shines 8 = .ok (.iload_n 2, 1) := by decide +kernel
theorem dX7_shines_9 : decode cX7_shines 9 = .ok (.invokevirtual 259, 3) := by decide +kernel
theorem dX7_shines_12 : decode cX7_shines 12 = .ok (.ifCond .eq 15, 3) := by decide +kernel
theorem dX7_shines_15 : decode cX7_shines 15 = .ok (.iload_n 3, 1) := by decide +kernel
theorem dX7_shines_16 : decode cX7_shines 16 = .ok (.i2l, 1) := by decide +kernel
theorem dX7_shines_17 : decode cX7_shines 17 = .ok (.lconst 0, 1) := by decide +kernel
theorem dX7_shines_18 : decode cX7_shines 18 = .ok (.ldc2_w 117, 3) := by decide +kernel
theorem dX7_shines_21 : decode cX7_shines 21 = .ok (.invokestatic 102, 3) := by decide +kernel
theorem dX7_shines_24 : decode cX7_shines 24 = .ok (.ifCond .ne 8, 3) := by decide +kernel
theorem dX7_shines_27 : decode cX7_shines 27 = .ok (.aload_n 0, 1) := by decide +kernel
theorem dX7_shines_28 : decode cX7_shines 28 = .ok (.invokevirtual 98, 3) := by decide +kernel
theorem dX7_shines_31 : decode cX7_shines 31 = .ok (.ireturn, 1) := by decide +kernel
theorem dX7_shines_32 : decode cX7_shines 32 = .ok (.aload_n 0, 1) := by decide +kernel
theorem dX7_shines_33 : decode cX7_shines 33 = .ok (.iload_n 1, 1) := by decide +kernel
theorem dX7_shines_34 : decode cX7_shines 34 = .ok (.iload_n 2, 1) := by decide +kernel
theorem dX7_shines_35 : decode cX7_shines 35 = .ok (.iload_n 3, 1) := by decide +kernel
theorem dX7_shines_36 : decode cX7_shines 36 = .ok (.invokevirtual 256, 3) := by decide +kernel
theorem dX7_shines_39 : decode cX7_shines 39 = .ok (.ifCond .eq 7, 3) := by decide +kernel
theorem dX7_shines_42 : decode cX7_shines 42 = .ok (.iconst 1, 1) := by decide +kernel
theorem dX7_shines_43 : decode cX7_shines 43 = .ok (.goto 4, 3) := by decide +kernel
theorem dX7_shines_46 : decode cX7_shines 46 = .ok (.iconst 0, 1) := by decide +kernel
theorem dX7_shines_47 : decode cX7_shines 47 = .ok (.ireturn, 1) := by decide +kernel
theorem dX7_fits_0 : decode cX7_fits 0 = .ok (.iload_n 1, 1) := by decide +kernel
theorem dX7_fits_1 : decode cX7_fits 1 = .ok (.invokestatic 131, 3) := by decide +kernel
theorem dX7_fits_4 : decode cX7_fits 4 = .ok (.ifCond .eq 11, 3) := by decide +kernel
theorem dX7_fits_7 : decode cX7_fits 7 = .ok (.aload_n 0, 1) := by decide +kernel
theorem dX7_fits_8 : decode cX7_fits 8 = .ok (.iload_n 2, 1) := by decide +kernel
theorem dX7_fits_9 : decode cX7_fits 9 = .ok (.invokevirtual 259, 3) := by decide +kernel
theorem dX7_fits_12 : decode cX7_fits 12 = .ok (.ifCond .ne 8, 3) := by decide +kernel
theorem dX7_fits_15 : decode cX7_fits 15 = .ok (.aload_n 0, 1) := by decide +kernel
theorem dX7_fits_16 : decode cX7_fits 16 = .ok (.invokevirtual 98, 3) := by decide +kernel
theorem dX7_fits_19 : decode cX7_fits 19 = .ok (.ireturn, 1) := by decide +kernel
theorem dX7_fits_20 : decode cX7_fits 20 = .ok (.aload_n 0, 1) := by decide +kernel
theorem dX7_fits_21 : decode cX7_fits 21 = .ok (.iload_n 1, 1) := by decide +kernel
theorem dX7_fits_22 : decode cX7_fits 22 = .ok (.iload_n 2, 1) := by decide +kernel
theorem dX7_fits_23 : decode cX7_fits 23 = .ok (.iconst 0, 1) := by decide +kernel
theorem dX7_fits_24 : decode cX7_fits 24 = .ok (.invokevirtual 270, 3) := by decide +kernel
theorem dX7_fits_27 : decode cX7_fits 27 = .ok (.ifCond .eq 7, 3) := by decide +kernel
theorem dX7_fits_30 : decode cX7_fits 30 = .ok (.iconst 1, 1) := by decide +kernel
theorem dX7_fits_31 : decode cX7_fits 31 = .ok (.goto 4, 3) := by decide +kernel
theorem dX7_fits_34 : decode cX7_fits 34 = .ok (.iconst 0, 1) := by decide +kernel
theorem dX7_fits_35 : decode cX7_fits 35 = .ok (.ireturn, 1) := by decide +kernel
theorem dX7_looks_0 : decode cX7_looks 0 = .ok (.iconst 0, 1) := by decide +kernel
theorem dX7_looks_1 : decode cX7_looks 1 = .ok (.istore_n 3, 1) := by decide +kernel
theorem dX7_looks_2 : decode cX7_looks 2 = .ok (.iload_n 3, 1) := by decide +kernel
theorem dX7_looks_3 : decode cX7_looks 3 = .ok (.bipush 8, 2) := by decide +kernel
theorem dX7_looks_5 : decode cX7_looks 5 = .ok (.if_icmp .ge 203, 3) := by decide +kernel
theorem dX7_looks_8 : decode cX7_looks 8 = .ok (.bipush 8, 2) := by decide +kernel
theorem dX7_looks_10 : decode cX7_looks 10 = .ok (.iload_n 1, 1) := by decide +kernel
theorem dX7_looks_11 : decode cX7_looks 11 = .ok (.imul, 1) := by decide +kernel
theorem dX7_looks_12 : decode cX7_looks 12 = .ok (.iload_n 3, 1) := by decide +kernel
theorem dX7_looks_13 : decode cX7_looks 13 = .ok (.iadd, 1) := by decide +kernel
theorem dX7_looks_14 : decode cX7_looks 14 = .ok (.istore 4, 2) := by decide +kernel
theorem dX7_looks_16 : decode cX7_looks 16 = .ok (.aload_n 0, 1) := by decide +kernel
theorem dX7_looks_17 : decode cX7_looks 17 = .ok (.getfield 47, 3) := by decide +kernel
theorem dX7_looks_20 : decode cX7_looks 20 = .ok (.iload_n 3, 1) := by decide +kernel
theorem dX7_looks_21 : decode cX7_looks 21 = .ok (.iconst (-1), 1) := by decide +kernel
theorem dX7_looks_22 : decode cX7_looks 22 = .ok (.iastore, 1) := by decide +kernel
theorem dX7_looks_23 : decode cX7_looks 23 = .ok (.iconst 0, 1) := by decide +kernel
theorem dX7_looks_24 : decode cX7_looks 24 = .ok (.istore 5, 2) := by decide +kernel
theorem dX7_looks_26 : decode cX7_looks 26 = .ok (.iload 5, 2) := by decide +kernel
theorem dX7_looks_28 : decode cX7_looks 28 = .ok (.aload_n 0, 1) := by decide +kernel
theorem dX7_looks_29 : decode cX7_looks 29 = .ok (.getfield 7, 3) := by decide +kernel
theorem dX7_looks_32 : decode cX7_looks 32 = .ok (.iconst 1, 1) := by decide +kernel
theorem dX7_looks_33 : decode cX7_looks 33 = .ok (.iaload, 1) := by decide +kernel
theorem dX7_looks_34 : decode cX7_looks 34 = .ok (.if_icmp .ge 80, 3) := by decide +kernel
theorem dX7_looks_37 : decode cX7_looks 37 = .ok (.aload_n 0, 1) := by decide +kernel
theorem dX7_looks_38 : decode cX7_looks 38 = .ok (.iload 5, 2) := by decide +kernel
theorem dX7_looks_40 : decode cX7_looks 40 = .ok (.iconst 0, 1) := by decide +kernel
theorem dX7_looks_41 : decode cX7_looks 41 = .ok (.invokevirtual 138, 3) := by decide +kernel
theorem dX7_looks_44 : decode cX7_looks 44 = .ok (.iload 4, 2) := by decide +kernel
theorem dX7_looks_46 : decode cX7_looks 46 = .ok (.if_icmp .ne 62, 3) := by decide +kernel
theorem dX7_looks_49 : decode cX7_looks 49 = .ok (.aload_n 0, 1) := by decide +kernel
theorem dX7_looks_50 : decode cX7_looks 50 = .ok (.iload 5, 2) := by decide +kernel
theorem dX7_looks_52 : decode cX7_looks 52 = .ok (.iconst 1, 1) := by decide +kernel
theorem dX7_looks_53 : decode cX7_looks 53 = .ok (.invokevirtual 138, 3) := by decide +kernel
theorem dX7_looks_56 : decode cX7_looks 56 = .ok (.iconst 5, 1) := by decide +kernel
theorem dX7_looks_57 : decode cX7_looks 57 = .ok (.if_icmp .ne 51, 3) := by decide +kernel
theorem dX7_looks_60 : decode cX7_looks 60 = .ok (.aload_n 0, 1) := by decide +kernel
theorem dX7_looks_61 : decode cX7_looks 61 = .ok (.iload 5, 2) := by decide +kernel
theorem dX7_looks_63 : decode cX7_looks 63 = .ok (.iload_n 2, 1) := by decide +kernel
theorem dX7_looks_64 : decode cX7_looks 64 = .ok (.invokevirtual 262, 3) := by decide +kernel
theorem dX7_looks_67 : decode cX7_looks 67 = .ok (.ifCond .eq 41, 3) := by decide +kernel
theorem dX7_looks_70 : decode cX7_looks 70 = .ok (.aload_n 0, 1) := by decide +kernel
theorem dX7_looks_71 : decode cX7_looks 71 = .ok (.getfield 47, 3) := by decide +kernel
theorem dX7_looks_74 : decode cX7_looks 74 = .ok (.iload_n 3, 1) := by decide +kernel
theorem dX7_looks_75 : decode cX7_looks 75 = .ok (.aload_n 0, 1) := by decide +kernel
theorem dX7_looks_76 : decode cX7_looks 76 = .ok (.iload 5, 2) := by decide +kernel
theorem dX7_looks_78 : decode cX7_looks 78 = .ok (.iconst 2, 1) := by decide +kernel
theorem dX7_looks_79 : decode cX7_looks 79 = .ok (.invokevirtual 138, 3) := by decide +kernel
theorem dX7_looks_82 : decode cX7_looks 82 = .ok (.aload_n 0, 1) := by decide +kernel
theorem dX7_looks_83 : decode cX7_looks 83 = .ok (.getfield 47, 3) := by decide +kernel
theorem dX7_looks_86 : decode cX7_looks 86 = .ok (.iload_n 3, 1) := by decide +kernel
theorem dX7_looks_87 : decode cX7_looks 87 = .ok (.iaload, 1) := by decide +kernel
theorem dX7_looks_88 : decode cX7_looks 88 = .ok (.if_icmp .le 13, 3) := by decide +kernel
theorem dX7_looks_91 : decode cX7_looks 91 = .ok (.aload_n 0, 1) := by decide +kernel
theorem dX7_looks_92 : decode cX7_looks 92 = .ok (.iload 5, 2) := by decide +kernel
theorem dX7_looks_94 : decode cX7_looks 94 = .ok (.iconst 2, 1) := by decide +kernel
theorem dX7_looks_95 : decode cX7_looks 95 = .ok (.invokevirtual 138, 3) := by decide +kernel
theorem dX7_looks_98 : decode cX7_looks 98 = .ok (.goto 9, 3) := by decide +kernel
theorem dX7_looks_101 : decode cX7_looks 101 = .ok (.aload_n 0, 1) := by decide +kernel
theorem dX7_looks_102 : decode cX7_looks 102 = .ok (.getfield 47, 3) := by decide +kernel
theorem dX7_looks_105 : decode cX7_looks 105 = .ok (.iload_n 3, 1) := by decide +kernel
theorem dX7_looks_106 : decode cX7_looks 106 = .ok (.iaload, 1) := by decide +kernel
theorem dX7_looks_107 : decode cX7_looks 107 = .ok (.iastore, 1) := by decide +kernel
theorem dX7_looks_108 : decode cX7_looks 108 = .ok (.iinc 5 1, 3) := by decide +kernel
theorem dX7_looks_111 : decode cX7_looks 111 = .ok (.goto (-85), 3) := by decide +kernel
theorem dX7_looks_114 : decode cX7_looks 114 = .ok (.iconst 0, 1) := by decide +kernel
theorem dX7_looks_115 : decode cX7_looks 115 = .ok (.istore 5, 2) := by decide +kernel
theorem dX7_looks_117 : decode cX7_looks 117 = .ok (.iload 5, 2) := by decide +kernel
theorem dX7_looks_119 : decode cX7_looks 119 = .ok (.bipush 21, 2) := by decide +kernel
theorem dX7_looks_121 : decode cX7_looks 121 = .ok (.if_icmp .ge 81, 3) := by decide +kernel
theorem dX7_looks_124 : decode cX7_looks 124 = .ok (.aload_n 0, 1) := by decide +kernel
theorem dX7_looks_125 : decode cX7_looks 125 = .ok (.getfield 41, 3) := by decide +kernel
theorem dX7_looks_128 : decode cX7_looks 128 = .ok (.bipush 21, 2) := by decide +kernel
theorem dX7_looks_130 : decode cX7_looks 130 = .ok (.iload_n 3, 1) := by decide +kernel
theorem dX7_looks_131 : decode cX7_looks 131 = .ok (.imul, 1) := by decide +kernel
theorem dX7_looks_132 : decode cX7_looks 132 = .ok (.iload 5, 2) := by decide +kernel
theorem dX7_looks_134 : decode cX7_looks 134 = .ok (.iadd, 1) := by decide +kernel
theorem dX7_looks_135 : decode cX7_looks 135 = .ok (.aload_n 0, 1) := by decide +kernel
theorem dX7_looks_136 : decode cX7_looks 136 = .ok (.iload 4, 2) := by decide +kernel
theorem dX7_looks_138 : decode cX7_looks 138 = .ok (.iload 5, 2) := by decide +kernel
theorem dX7_looks_140 : decode cX7_looks 140 = .ok (.iload_n 2, 1) := by decide +kernel
theorem dX7_looks_141 : decode cX7_looks 141 = .ok (.invokevirtual 270, 3) := by decide +kernel
theorem dX7_looks_144 : decode cX7_looks 144 = .ok (.ifCond .eq 16, 3) := by decide +kernel
theorem dX7_looks_147 : decode cX7_looks 147 = .ok (.aload_n 0, 1) := by decide +kernel
theorem dX7_looks_148 : decode cX7_looks 148 = .ok (.getfield 7, 3) := by decide +kernel
theorem dX7_looks_151 : decode cX7_looks 151 = .ok (.bipush 10, 2) := by decide +kernel
theorem dX7_looks_153 : decode cX7_looks 153 = .ok (.iload 5, 2) := by decide +kernel
theorem dX7_looks_155 : decode cX7_looks 155 = .ok (.iadd, 1) := by decide +kernel
theorem dX7_looks_156 : decode cX7_looks 156 = .ok (.iaload, 1) := by decide +kernel
theorem dX7_looks_157 : decode cX7_looks 157 = .ok (.goto 4, 3) := by decide +kernel
theorem dX7_looks_160 : decode cX7_looks 160 = .ok (.iconst 0, 1) := by decide +kernel
theorem dX7_looks_161 : decode cX7_looks 161 = .ok (.iastore, 1) := by decide +kernel
theorem dX7_looks_162 : decode cX7_looks 162 = .ok (.aload_n 0, 1) := by decide +kernel
theorem dX7_looks_163 : decode cX7_looks 163 = .ok (.getfield 44, 3) := by decide +kernel
theorem dX7_looks_166 : decode cX7_looks 166 = .ok (.bipush 21, 2) := by decide +kernel
theorem dX7_looks_168 : decode cX7_looks 168 = .ok (.iload_n 3, 1) := by decide +kernel
theorem dX7_looks_169 : decode cX7_looks 169 = .ok (.imul, 1) := by decide +kernel
theorem dX7_looks_170 : decode cX7_looks 170 = .ok (.iload 5, 2) := by decide +kernel
theorem dX7_looks_172 : decode cX7_looks 172 = .ok (.iadd, 1) := by decide +kernel
theorem dX7_looks_173 : decode cX7_looks 173 = .ok (.aload_n 0, 1) := by decide +kernel
theorem dX7_looks_174 : decode cX7_looks 174 = .ok (.iload 5, 2) := by decide +kernel
theorem dX7_looks_176 : decode cX7_looks 176 = .ok (.invokevirtual 259, 3) := by decide +kernel
theorem dX7_looks_179 : decode cX7_looks 179 = .ok (.ifCond .eq 15, 3) := by decide +kernel
theorem dX7_looks_182 : decode cX7_looks 182 = .ok (.aload_n 0, 1) := by decide +kernel
theorem dX7_looks_183 : decode cX7_looks 183 = .ok (.iload 4, 2) := by decide +kernel
theorem dX7_looks_185 : decode cX7_looks 185 = .ok (.iload 5, 2) := by decide +kernel
theorem dX7_looks_187 : decode cX7_looks 187 = .ok (.iconst 2, 1) := by decide +kernel
theorem dX7_looks_188 : decode cX7_looks 188 = .ok (.invokevirtual 253, 3) := by decide +kernel
theorem dX7_looks_191 : decode cX7_looks 191 = .ok (.goto 4, 3) := by decide +kernel
theorem dX7_looks_194 : decode cX7_looks 194 = .ok (.iconst 0, 1) := by decide +kernel
theorem dX7_looks_195 : decode cX7_looks 195 = .ok (.iastore, 1) := by decide +kernel
theorem dX7_looks_196 : decode cX7_looks 196 = .ok (.iinc 5 1, 3) := by decide +kernel
theorem dX7_looks_199 : decode cX7_looks 199 = .ok (.goto (-82), 3) := by decide +kernel
theorem dX7_looks_202 : decode cX7_looks 202 = .ok (.iinc 3 1, 3) := by decide +kernel
theorem dX7_looks_205 : decode cX7_looks 205 = .ok (.goto (-203), 3) := by decide +kernel
theorem dX7_looks_208 : decode cX7_looks 208 = .ok (.return_, 1) := by decide +kernel
theorem dX7_goes_0 : decode cX7_goes 0 = .ok (.aload_n 0, 1) := by decide +kernel
theorem dX7_goes_1 : decode cX7_goes 1 = .ok (.getfield 47, 3) := by decide +kernel
theorem dX7_goes_4 : decode cX7_goes 4 = .ok (.iload_n 1, 1) := by decide +kernel
theorem dX7_goes_5 : decode cX7_goes 5 = .ok (.iaload, 1) := by decide +kernel
theorem dX7_goes_6 : decode cX7_goes 6 = .ok (.iconst (-1), 1) := by decide +kernel
theorem dX7_goes_7 : decode cX7_goes 7 = .ok (.if_icmp .eq 37, 3) := by decide +kernel
theorem dX7_goes_10 : decode cX7_goes 10 = .ok (.aload_n 0, 1) := by decide +kernel
theorem dX7_goes_11 : decode cX7_goes 11 = .ok (.getfield 44, 3) := by decide +kernel
theorem dX7_goes_14 : decode cX7_goes 14 = .ok (.bipush 21, 2) := by decide +kernel
theorem dX7_goes_16 : decode cX7_goes 16 = .ok (.iload_n 1, 1) := by decide +kernel
theorem dX7_goes_17 : decode cX7_goes 17 = .ok (.iconst 1, 1) := by decide +kernel
theorem dX7_goes_18 : decode cX7_goes 18 = .ok (.iadd, 1) := by decide +kernel
theorem dX7_goes_19 : decode cX7_goes 19 = .ok (.imul, 1) := by decide +kernel
theorem dX7_goes_20 : decode cX7_goes 20 = .ok (.iload_n 3, 1) := by decide +kernel
theorem dX7_goes_21 : decode cX7_goes 21 = .ok (.iadd, 1) := by decide +kernel
theorem dX7_goes_22 : decode cX7_goes 22 = .ok (.iaload, 1) := by decide +kernel
theorem dX7_goes_23 : decode cX7_goes 23 = .ok (.aload_n 0, 1) := by decide +kernel
theorem dX7_goes_24 : decode cX7_goes 24 = .ok (.getfield 44, 3) := by decide +kernel
theorem dX7_goes_27 : decode cX7_goes 27 = .ok (.bipush 21, 2) := by decide +kernel
theorem dX7_goes_29 : decode cX7_goes 29 = .ok (.iload_n 1, 1) := by decide +kernel
theorem dX7_goes_30 : decode cX7_goes 30 = .ok (.imul, 1) := by decide +kernel
theorem dX7_goes_31 : decode cX7_goes 31 = .ok (.iload_n 2, 1) := by decide +kernel
theorem dX7_goes_32 : decode cX7_goes 32 = .ok (.iadd, 1) := by decide +kernel
theorem dX7_goes_33 : decode cX7_goes 33 = .ok (.iaload, 1) := by decide +kernel
theorem dX7_goes_34 : decode cX7_goes 34 = .ok (.isub, 1) := by decide +kernel
theorem dX7_goes_35 : decode cX7_goes 35 = .ok (.aload_n 0, 1) := by decide +kernel
theorem dX7_goes_36 : decode cX7_goes 36 = .ok (.getfield 47, 3) := by decide +kernel
theorem dX7_goes_39 : decode cX7_goes 39 = .ok (.iload_n 1, 1) := by decide +kernel
theorem dX7_goes_40 : decode cX7_goes 40 = .ok (.iaload, 1) := by decide +kernel
theorem dX7_goes_41 : decode cX7_goes 41 = .ok (.if_icmp .lt 7, 3) := by decide +kernel
theorem dX7_goes_44 : decode cX7_goes 44 = .ok (.iconst 1, 1) := by decide +kernel
theorem dX7_goes_45 : decode cX7_goes 45 = .ok (.goto 4, 3) := by decide +kernel
theorem dX7_goes_48 : decode cX7_goes 48 = .ok (.iconst 0, 1) := by decide +kernel
theorem dX7_goes_49 : decode cX7_goes 49 = .ok (.istore 4, 2) := by decide +kernel
theorem dX7_goes_51 : decode cX7_goes 51 = .ok (.iload 4, 2) := by decide +kernel
theorem dX7_goes_53 : decode cX7_goes 53 = .ok (.ifCond .ne 7, 3) := by decide +kernel
theorem dX7_goes_56 : decode cX7_goes 56 = .ok (.iconst 0, 1) := by decide +kernel
theorem dX7_goes_57 : decode cX7_goes 57 = .ok (.goto 19, 3) := by decide +kernel
theorem dX7_goes_60 : decode cX7_goes 60 = .ok (.iload_n 2, 1) := by decide +kernel
theorem dX7_goes_61 : decode cX7_goes 61 = .ok (.iload_n 3, 1) := by decide +kernel
theorem dX7_goes_62 : decode cX7_goes 62 = .ok (.if_icmp .ne 13, 3) := by decide +kernel
theorem dX7_goes_65 : decode cX7_goes 65 = .ok (.aload_n 0, 1) := by decide +kernel
theorem dX7_goes_66 : decode cX7_goes 66 = .ok (.getfield 7, 3) := by decide +kernel
theorem dX7_goes_69 : decode cX7_goes 69 = .ok (.bipush 8, 2) := by decide +kernel
theorem dX7_goes_71 : decode cX7_goes 71 = .ok (.iaload, 1) := by decide +kernel
theorem dX7_goes_72 : decode cX7_goes 72 = .ok (.goto 4, 3) := by decide +kernel
theorem dX7_goes_75 : decode cX7_goes 75 = .ok (.iconst 1, 1) := by decide +kernel
theorem dX7_goes_76 : decode cX7_goes 76 = .ok (.ireturn, 1) := by decide +kernel
theorem dX7_can_0 : decode cX7_can 0 = .ok (.aload_n 0, 1) := by decide +kernel
theorem dX7_can_1 : decode cX7_can 1 = .ok (.iload_n 1, 1) := by decide +kernel
theorem dX7_can_2 : decode cX7_can 2 = .ok (.iload_n 2, 1) := by decide +kernel
theorem dX7_can_3 : decode cX7_can 3 = .ok (.invokevirtual 273, 3) := by decide +kernel
theorem dX7_can_6 : decode cX7_can 6 = .ok (.iconst 0, 1) := by decide +kernel
theorem dX7_can_7 : decode cX7_can 7 = .ok (.istore_n 3, 1) := by decide +kernel
theorem dX7_can_8 : decode cX7_can 8 = .ok (.iload_n 3, 1) := by decide +kernel
theorem dX7_can_9 : decode cX7_can 9 = .ok (.sipush 168, 3) := by decide +kernel
theorem dX7_can_12 : decode cX7_can 12 = .ok (.if_icmp .ge 123, 3) := by decide +kernel
theorem dX7_can_15 : decode cX7_can 15 = .ok (.iload_n 3, 1) := by decide +kernel
theorem dX7_can_16 : decode cX7_can 16 = .ok (.bipush 21, 2) := by decide +kernel
theorem dX7_can_18 : decode cX7_can 18 = .ok (.if_icmp .ge 16, 3) := by decide +kernel
theorem dX7_can_21 : decode cX7_can 21 = .ok (.aload_n 0, 1) := by decide +kernel
theorem dX7_can_22 : decode cX7_can 22 = .ok (.getfield 41, 3) := by decide +kernel
theorem dX7_can_25 : decode cX7_can 25 = .ok (.iload_n 3, 1) := by decide +kernel
theorem dX7_can_26 : decode cX7_can 26 = .ok (.iaload, 1) := by decide +kernel
theorem dX7_can_27 : decode cX7_can 27 = .ok (.ifCond .le 7, 3) := by decide +kernel
theorem dX7_can_30 : decode cX7_can 30 = .ok (.iconst 1, 1) := by decide +kernel
theorem dX7_can_31 : decode cX7_can 31 = .ok (.goto 4, 3) := by decide +kernel
theorem dX7_can_34 : decode cX7_can 34 = .ok (.iconst 0, 1) := by decide +kernel
theorem dX7_can_35 : decode cX7_can 35 = .ok (.istore 4, 2) := by decide +kernel
theorem dX7_can_37 : decode cX7_can 37 = .ok (.iload_n 3, 1) := by decide +kernel
theorem dX7_can_38 : decode cX7_can 38 = .ok (.bipush 21, 2) := by decide +kernel
theorem dX7_can_40 : decode cX7_can 40 = .ok (.idiv, 1) := by decide +kernel
theorem dX7_can_41 : decode cX7_can 41 = .ok (.istore 5, 2) := by decide +kernel
theorem dX7_can_43 : decode cX7_can 43 = .ok (.iconst 0, 1) := by decide +kernel
theorem dX7_can_44 : decode cX7_can 44 = .ok (.istore 6, 2) := by decide +kernel
theorem dX7_can_46 : decode cX7_can 46 = .ok (.iload 6, 2) := by decide +kernel
theorem dX7_can_48 : decode cX7_can 48 = .ok (.bipush 21, 2) := by decide +kernel
theorem dX7_can_50 : decode cX7_can 50 = .ok (.if_icmp .ge 71, 3) := by decide +kernel
theorem dX7_can_53 : decode cX7_can 53 = .ok (.iload_n 3, 1) := by decide +kernel
theorem dX7_can_54 : decode cX7_can 54 = .ok (.bipush 21, 2) := by decide +kernel
theorem dX7_can_56 : decode cX7_can 56 = .ok (.if_icmp .lt 65, 3) := by decide +kernel
theorem dX7_can_59 : decode cX7_can 59 = .ok (.aload_n 0, 1) := by decide +kernel
theorem dX7_can_60 : decode cX7_can 60 = .ok (.getfield 41, 3) := by decide +kernel
theorem dX7_can_63 : decode cX7_can 63 = .ok (.iload_n 3, 1) := by decide +kernel
theorem dX7_can_64 : decode cX7_can 64 = .ok (.iaload, 1) := by decide +kernel
theorem dX7_can_65 : decode cX7_can 65 = .ok (.ifCond .le 56, 3) := by decide +kernel
theorem dX7_can_68 : decode cX7_can 68 = .ok (.iload 4, 2) := by decide +kernel
theorem dX7_can_70 : decode cX7_can 70 = .ok (.ifCond .ne 51, 3) := by decide +kernel
theorem dX7_can_73 : decode cX7_can 73 = .ok (.aload_n 0, 1) := by decide +kernel
theorem dX7_can_74 : decode cX7_can 74 = .ok (.getfield 50, 3) := by decide +kernel
theorem dX7_can_77 : decode cX7_can 77 = .ok (.bipush 21, 2) := by decide +kernel
theorem dX7_can_79 : decode cX7_can 79 = .ok (.iload 5, 2) := by decide +kernel
theorem dX7_can_81 : decode cX7_can 81 = .ok (.iconst 1, 1) := by decide +kernel
theorem dX7_can_82 : decode cX7_can 82 = .ok (.isub, 1) := by decide +kernel
theorem dX7_can_83 : decode cX7_can 83 = .ok (.imul, 1) := by decide +kernel
theorem dX7_can_84 : decode cX7_can 84 = .ok (.iload 6, 2) := by decide +kernel
theorem dX7_can_86 : decode cX7_can 86 = .ok (.iadd, 1) := by decide +kernel
theorem dX7_can_87 : decode cX7_can 87 = .ok (.baload, 1) := by decide +kernel
theorem dX7_can_88 : decode cX7_can 88 = .ok (.ifCond .eq 24, 3) := by decide +kernel
theorem dX7_can_91 : decode cX7_can 91 = .ok (.aload_n 0, 1) := by decide +kernel
theorem dX7_can_92 : decode cX7_can 92 = .ok (.iload 5, 2) := by decide +kernel
theorem dX7_can_94 : decode cX7_can 94 = .ok (.iconst 1, 1) := by decide +kernel
theorem dX7_can_95 : decode cX7_can 95 = .ok (.isub, 1) := by decide +kernel
theorem dX7_can_96 : decode cX7_can 96 = .ok (.iload 6, 2) := by decide +kernel
theorem dX7_can_98 : decode cX7_can 98 = .ok (.iload_n 3, 1) := by decide +kernel
theorem dX7_can_99 : decode cX7_can 99 = .ok (.bipush 21, 2) := by decide +kernel
theorem dX7_can_101 : decode cX7_can 101 = .ok (.irem, 1) := by decide +kernel
theorem dX7_can_102 : decode cX7_can 102 = .ok (.invokevirtual 276, 3) := by decide +kernel
theorem dX7_can_105 : decode cX7_can 105 = .ok (.ifCond .le 7, 3) := by decide +kernel
theorem dX7_can_108 : decode cX7_can 108 = .ok (.iconst 1, 1) := by decide +kernel
theorem dX7_can_109 : decode cX7_can 109 = .ok (.goto 4, 3) := by decide +kernel
theorem dX7_can_112 : decode cX7_can 112 = .ok (.iconst 0, 1) := by decide +kernel
theorem dX7_can_113 : decode cX7_can 113 = .ok (.istore 4, 2) := by decide +kernel
theorem dX7_can_115 : decode cX7_can 115 = .ok (.iinc 6 1, 3) := by decide +kernel
theorem dX7_can_118 : decode cX7_can 118 = .ok (.goto (-72), 3) := by decide +kernel
theorem dX7_can_121 : decode cX7_can 121 = .ok (.aload_n 0, 1) := by decide +kernel
theorem dX7_can_122 : decode cX7_can 122 = .ok (.getfield 50, 3) := by decide +kernel
theorem dX7_can_125 : decode cX7_can 125 = .ok (.iload_n 3, 1) := by decide +kernel
theorem dX7_can_126 : decode cX7_can 126 = .ok (.iload 4, 2) := by decide +kernel
theorem dX7_can_128 : decode cX7_can 128 = .ok (.bastore, 1) := by decide +kernel
theorem dX7_can_129 : decode cX7_can 129 = .ok (.iinc 3 1, 3) := by decide +kernel
theorem dX7_can_132 : decode cX7_can 132 = .ok (.goto (-124), 3) := by decide +kernel
theorem dX7_can_135 : decode cX7_can 135 = .ok (.iconst 0, 1) := by decide +kernel
theorem dX7_can_136 : decode cX7_can 136 = .ok (.istore_n 3, 1) := by decide +kernel
theorem dX7_can_137 : decode cX7_can 137 = .ok (.sipush 147, 3) := by decide +kernel
theorem dX7_can_140 : decode cX7_can 140 = .ok (.istore 4, 2) := by decide +kernel
theorem dX7_can_142 : decode cX7_can 142 = .ok (.iload 4, 2) := by decide +kernel
theorem dX7_can_144 : decode cX7_can 144 = .ok (.sipush 168, 3) := by decide +kernel
theorem dX7_can_147 : decode cX7_can 147 = .ok (.if_icmp .ge 29, 3) := by decide +kernel
theorem dX7_can_150 : decode cX7_can 150 = .ok (.iload_n 3, 1) := by decide +kernel
theorem dX7_can_151 : decode cX7_can 151 = .ok (.ifCond .ne 13, 3) := by decide +kernel
theorem dX7_can_154 : decode cX7_can 154 = .ok (.aload_n 0, 1) := by decide +kernel
theorem dX7_can_155 : decode cX7_can 155 = .ok (.getfield 50, 3) := by decide +kernel
theorem dX7_can_158 : decode cX7_can 158 = .ok (.iload 4, 2) := by decide +kernel
theorem dX7_can_160 : decode cX7_can 160 = .ok (.baload, 1) := by decide +kernel
theorem dX7_can_161 : decode cX7_can 161 = .ok (.ifCond .eq 7, 3) := by decide +kernel
theorem dX7_can_164 : decode cX7_can 164 = .ok (.iconst 1, 1) := by decide +kernel
theorem dX7_can_165 : decode cX7_can 165 = .ok (.goto 4, 3) := by decide +kernel
theorem dX7_can_168 : decode cX7_can 168 = .ok (.iconst 0, 1) := by decide +kernel
theorem dX7_can_169 : decode cX7_can 169 = .ok (.istore_n 3, 1) := by decide +kernel
theorem dX7_can_170 : decode cX7_can 170 = .ok (.iinc 4 1, 3) := by decide +kernel
theorem dX7_can_173 : decode cX7_can 173 = .ok (.goto (-31), 3) := by decide +kernel
theorem dX7_can_176 : decode cX7_can 176 = .ok (.iload_n 3, 1) := by decide +kernel
theorem dX7_can_177 : decode cX7_can 177 = .ok (.ireturn, 1) := by decide +kernel
theorem dX7_forth_0 : decode cX7_forth 0 = .ok (.aload_n 0, 1) := by decide +kernel
theorem dX7_forth_1 : decode cX7_forth 1 = .ok (.iload_n 1, 1) := by decide +kernel
theorem dX7_forth_2 : decode cX7_forth 2 = .ok (.iconst 0, 1) := by decide +kernel
theorem dX7_forth_3 : decode cX7_forth 3 = .ok (.invokevirtual 273, 3) := by decide +kernel
theorem dX7_forth_6 : decode cX7_forth 6 = .ok (.iconst 0, 1) := by decide +kernel
theorem dX7_forth_7 : decode cX7_forth 7 = .ok (.istore_n 2, 1) := by decide +kernel
theorem dX7_forth_8 : decode cX7_forth 8 = .ok (.iload_n 2, 1) := by decide +kernel
theorem dX7_forth_9 : decode cX7_forth 9 = .ok (.sipush 168, 3) := by decide +kernel
theorem dX7_forth_12 : decode cX7_forth 12 = .ok (.if_icmp .ge 149, 3) := by decide +kernel
theorem dX7_forth_15 : decode cX7_forth 15 = .ok (.iload_n 2, 1) := by decide +kernel
theorem dX7_forth_16 : decode cX7_forth 16 = .ok (.bipush 21, 2) := by decide +kernel
theorem dX7_forth_18 : decode cX7_forth 18 = .ok (.idiv, 1) := by decide +kernel
theorem dX7_forth_19 : decode cX7_forth 19 = .ok (.istore_n 3, 1) := by decide +kernel
theorem dX7_forth_20 : decode cX7_forth 20 = .ok (.aload_n 0, 1) := by decide +kernel
theorem dX7_forth_21 : decode cX7_forth 21 = .ok (.bipush 20, 2) := by decide +kernel
theorem dX7_forth_23 : decode cX7_forth 23 = .ok (.iload_n 2, 1) := by decide +kernel
theorem dX7_forth_24 : decode cX7_forth 24 = .ok (.iadd, 1) := by decide +kernel
theorem dX7_forth_25 : decode cX7_forth 25 = .ok (.iload_n 3, 1) := by decide +kernel
theorem dX7_forth_26 : decode cX7_forth 26 = .ok (.ifCond .ne 13, 3) := by decide +kernel
theorem dX7_forth_29 : decode cX7_forth 29 = .ok (.aload_n 0, 1) := by decide +kernel
theorem dX7_forth_30 : decode cX7_forth 30 = .ok (.getfield 41, 3) := by decide +kernel
theorem dX7_forth_33 : decode cX7_forth 33 = .ok (.iload_n 2, 1) := by decide +kernel
theorem dX7_forth_34 : decode cX7_forth 34 = .ok (.iaload, 1) := by decide +kernel
theorem dX7_forth_35 : decode cX7_forth 35 = .ok (.i2l, 1) := by decide +kernel
theorem dX7_forth_36 : decode cX7_forth 36 = .ok (.goto 4, 3) := by decide +kernel
theorem dX7_forth_39 : decode cX7_forth 39 = .ok (.lconst 0, 1) := by decide +kernel
theorem dX7_forth_40 : decode cX7_forth 40 = .ok (.invokevirtual 56, 3) := by decide +kernel
theorem dX7_forth_43 : decode cX7_forth 43 = .ok (.iconst 0, 1) := by decide +kernel
theorem dX7_forth_44 : decode cX7_forth 44 = .ok (.istore 4, 2) := by decide +kernel
theorem dX7_forth_46 : decode cX7_forth 46 = .ok (.iload 4, 2) := by decide +kernel
theorem dX7_forth_48 : decode cX7_forth 48 = .ok (.bipush 21, 2) := by decide +kernel
theorem dX7_forth_50 : decode cX7_forth 50 = .ok (.if_icmp .ge 105, 3) := by decide +kernel
theorem dX7_forth_53 : decode cX7_forth 53 = .ok (.iload_n 3, 1) := by decide +kernel
theorem dX7_forth_54 : decode cX7_forth 54 = .ok (.ifCond .le 101, 3) := by decide +kernel
theorem dX7_forth_57 : decode cX7_forth 57 = .ok (.aload_n 0, 1) := by decide +kernel
theorem dX7_forth_58 : decode cX7_forth 58 = .ok (.getfield 41, 3) := by decide +kernel
theorem dX7_forth_61 : decode cX7_forth 61 = .ok (.iload_n 2, 1) := by decide +kernel
theorem dX7_forth_62 : decode cX7_forth 62 = .ok (.iaload, 1) := by decide +kernel
theorem dX7_forth_63 : decode cX7_forth 63 = .ok (.ifCond .le 92, 3) := by decide +kernel
theorem dX7_forth_66 : decode cX7_forth 66 = .ok (.aload_n 0, 1) := by decide +kernel
theorem dX7_forth_67 : decode cX7_forth 67 = .ok (.iload_n 3, 1) := by decide +kernel
theorem dX7_forth_68 : decode cX7_forth 68 = .ok (.iconst 1, 1) := by decide +kernel
theorem dX7_forth_69 : decode cX7_forth 69 = .ok (.isub, 1) := by decide +kernel
theorem dX7_forth_70 : decode cX7_forth 70 = .ok (.iload 4, 2) := by decide +kernel
theorem dX7_forth_72 : decode cX7_forth 72 = .ok (.iload_n 2, 1) := by decide +kernel
theorem dX7_forth_73 : decode cX7_forth 73 = .ok (.bipush 21, 2) := by decide +kernel
theorem dX7_forth_75 : decode cX7_forth 75 = .ok (.irem, 1) := by decide +kernel
theorem dX7_forth_76 : decode cX7_forth 76 = .ok (.invokevirtual 276, 3) := by decide +kernel
theorem dX7_forth_79 : decode cX7_forth 79 = .ok (.aload_n 0, 1) := by decide +kernel
theorem dX7_forth_80 : decode cX7_forth 80 = .ok (.getfield 41, 3) := by decide +kernel
theorem dX7_forth_83 : decode cX7_forth 83 = .ok (.iload_n 2, 1) := by decide +kernel
theorem dX7_forth_84 : decode cX7_forth 84 = .ok (.iaload, 1) := by decide +kernel
theorem dX7_forth_85 : decode cX7_forth 85 = .ok (.imul, 1) := by decide +kernel
theorem dX7_forth_86 : decode cX7_forth 86 = .ok (.istore 5, 2) := by decide +kernel
theorem dX7_forth_88 : decode cX7_forth 88 = .ok (.iload 5, 2) := by decide +kernel
theorem dX7_forth_90 : decode cX7_forth 90 = .ok (.ifCond .le 59, 3) := by decide +kernel
theorem dX7_forth_93 : decode cX7_forth 93 = .ok (.aload_n 0, 1) := by decide +kernel
theorem dX7_forth_94 : decode cX7_forth 94 = .ok (.getfield 29, 3) := by decide +kernel
theorem dX7_forth_97 : decode cX7_forth 97 = .ok (.bipush 20, 2) := by decide +kernel
theorem dX7_forth_99 : decode cX7_forth 99 = .ok (.bipush 21, 2) := by decide +kernel
theorem dX7_forth_101 : decode cX7_forth 101 = .ok (.iload_n 3, 1) := by decide +kernel
theorem dX7_forth_102 : decode cX7_forth 102 = .ok (.iconst 1, 1) := by decide +kernel
theorem dX7_forth_103 : decode cX7_forth 103 = .ok (.isub, 1) := by decide +kernel
theorem dX7_forth_104 : decode cX7_forth 104 = .ok (.imul, 1) := by decide +kernel
theorem dX7_forth_105 : decode cX7_forth 105 = .ok (.iadd, 1) := by decide +kernel
theorem dX7_forth_106 : decode cX7_forth 106 = .ok (.iload 4, 2) := by decide +kernel
theorem dX7_forth_108 : decode cX7_forth 108 = .ok (.iadd, 1) := by decide +kernel
theorem dX7_forth_109 : decode cX7_forth 109 = .ok (.iaload, 1) := by decide +kernel
theorem dX7_forth_110 : decode cX7_forth 110 = .ok (.ifCond .le 39, 3) := by decide +kernel
theorem dX7_forth_113 : decode cX7_forth 113 = .ok (.aload_n 0, 1) := by decide +kernel
theorem dX7_forth_114 : decode cX7_forth 114 = .ok (.bipush 6, 2) := by decide +kernel
theorem dX7_forth_116 : decode cX7_forth 116 = .ok (.bipush 20, 2) := by decide +kernel
theorem dX7_forth_118 : decode cX7_forth 118 = .ok (.bipush 21, 2) := by decide +kernel
theorem dX7_forth_120 : decode cX7_forth 120 = .ok (.iload_n 3, 1) := by decide +kernel
theorem dX7_forth_121 : decode cX7_forth 121 = .ok (.iconst 1, 1) := by decide +kernel
theorem dX7_forth_122 : decode cX7_forth 122 = .ok (.isub, 1) := by decide +kernel
theorem dX7_forth_123 : decode cX7_forth 123 = .ok (.imul, 1) := by decide +kernel
theorem dX7_forth_124 : decode cX7_forth 124 = .ok (.iadd, 1) := by decide +kernel
theorem dX7_forth_125 : decode cX7_forth 125 = .ok (.iload 4, 2) := by decide +kernel
theorem dX7_forth_127 : decode cX7_forth 127 = .ok (.iadd, 1) := by decide +kernel
theorem dX7_forth_128 : decode cX7_forth 128 = .ok (.invokevirtual 74, 3) := by decide +kernel
theorem dX7_forth_131 : decode cX7_forth 131 = .ok (.aload_n 0, 1) := by decide +kernel
theorem dX7_forth_132 : decode cX7_forth 132 = .ok (.bipush 6, 2) := by decide +kernel
theorem dX7_forth_134 : decode cX7_forth 134 = .ok (.iload 5, 2) := by decide +kernel
theorem dX7_forth_136 : decode cX7_forth 136 = .ok (.invokevirtual 279, 3) := by decide +kernel
theorem dX7_forth_139 : decode cX7_forth 139 = .ok (.aload_n 0, 1) := by decide +kernel
theorem dX7_forth_140 : decode cX7_forth 140 = .ok (.bipush 20, 2) := by decide +kernel
theorem dX7_forth_142 : decode cX7_forth 142 = .ok (.iload_n 2, 1) := by decide +kernel
theorem dX7_forth_143 : decode cX7_forth 143 = .ok (.iadd, 1) := by decide +kernel
theorem dX7_forth_144 : decode cX7_forth 144 = .ok (.bipush 6, 2) := by decide +kernel
theorem dX7_forth_146 : decode cX7_forth 146 = .ok (.invokevirtual 282, 3) := by decide +kernel
theorem dX7_forth_149 : decode cX7_forth 149 = .ok (.iinc 4 1, 3) := by decide +kernel
theorem dX7_forth_152 : decode cX7_forth 152 = .ok (.goto (-106), 3) := by decide +kernel
theorem dX7_forth_155 : decode cX7_forth 155 = .ok (.iinc 2 1, 3) := by decide +kernel
theorem dX7_forth_158 : decode cX7_forth 158 = .ok (.goto (-150), 3) := by decide +kernel
theorem dX7_forth_161 : decode cX7_forth 161 = .ok (.aload_n 0, 1) := by decide +kernel
theorem dX7_forth_162 : decode cX7_forth 162 = .ok (.iconst 5, 1) := by decide +kernel
theorem dX7_forth_163 : decode cX7_forth 163 = .ok (.lconst 0, 1) := by decide +kernel
theorem dX7_forth_164 : decode cX7_forth 164 = .ok (.invokevirtual 56, 3) := by decide +kernel
theorem dX7_forth_167 : decode cX7_forth 167 = .ok (.sipush 147, 3) := by decide +kernel
theorem dX7_forth_170 : decode cX7_forth 170 = .ok (.istore_n 2, 1) := by decide +kernel
theorem dX7_forth_171 : decode cX7_forth 171 = .ok (.iload_n 2, 1) := by decide +kernel
theorem dX7_forth_172 : decode cX7_forth 172 = .ok (.sipush 168, 3) := by decide +kernel
theorem dX7_forth_175 : decode cX7_forth 175 = .ok (.if_icmp .ge 18, 3) := by decide +kernel
theorem dX7_forth_178 : decode cX7_forth 178 = .ok (.aload_n 0, 1) := by decide +kernel
theorem dX7_forth_179 : decode cX7_forth 179 = .ok (.iconst 5, 1) := by decide +kernel
theorem dX7_forth_180 : decode cX7_forth 180 = .ok (.bipush 20, 2) := by decide +kernel
theorem dX7_forth_182 : decode cX7_forth 182 = .ok (.iload_n 2, 1) := by decide +kernel
theorem dX7_forth_183 : decode cX7_forth 183 = .ok (.iadd, 1) := by decide +kernel
theorem dX7_forth_184 : decode cX7_forth 184 = .ok (.invokevirtual 282, 3) := by decide +kernel
theorem dX7_forth_187 : decode cX7_forth 187 = .ok (.iinc 2 1, 3) := by decide +kernel
theorem dX7_forth_190 : decode cX7_forth 190 = .ok (.goto (-19), 3) := by decide +kernel
theorem dX7_forth_193 : decode cX7_forth 193 = .ok (.aload_n 0, 1) := by decide +kernel
theorem dX7_forth_194 : decode cX7_forth 194 = .ok (.getfield 29, 3) := by decide +kernel
theorem dX7_forth_197 : decode cX7_forth 197 = .ok (.iconst 5, 1) := by decide +kernel
theorem dX7_forth_198 : decode cX7_forth 198 = .ok (.iaload, 1) := by decide +kernel
theorem dX7_forth_199 : decode cX7_forth 199 = .ok (.ifCond .le 7, 3) := by decide +kernel
theorem dX7_forth_202 : decode cX7_forth 202 = .ok (.iconst 1, 1) := by decide +kernel
theorem dX7_forth_203 : decode cX7_forth 203 = .ok (.goto 4, 3) := by decide +kernel
theorem dX7_forth_206 : decode cX7_forth 206 = .ok (.iconst 0, 1) := by decide +kernel
theorem dX7_forth_207 : decode cX7_forth 207 = .ok (.ireturn, 1) := by decide +kernel
theorem dX7_back_0 : decode cX7_back 0 = .ok (.sipush 167, 3) := by decide +kernel
theorem dX7_back_3 : decode cX7_back 3 = .ok (.istore_n 2, 1) := by decide +kernel
theorem dX7_back_4 : decode cX7_back 4 = .ok (.iload_n 2, 1) := by decide +kernel
theorem dX7_back_5 : decode cX7_back 5 = .ok (.ifCond .lt 207, 3) := by decide +kernel
theorem dX7_back_8 : decode cX7_back 8 = .ok (.iload_n 2, 1) := by decide +kernel
theorem dX7_back_9 : decode cX7_back 9 = .ok (.bipush 21, 2) := by decide +kernel
theorem dX7_back_11 : decode cX7_back 11 = .ok (.idiv, 1) := by decide +kernel
theorem dX7_back_12 : decode cX7_back 12 = .ok (.istore_n 3, 1) := by decide +kernel
theorem dX7_back_13 : decode cX7_back 13 = .ok (.aload_n 0, 1) := by decide +kernel
theorem dX7_back_14 : decode cX7_back 14 = .ok (.sipush 188, 3) := by decide +kernel
theorem dX7_back_17 : decode cX7_back 17 = .ok (.iload_n 2, 1) := by decide +kernel
theorem dX7_back_18 : decode cX7_back 18 = .ok (.iadd, 1) := by decide +kernel
theorem dX7_back_19 : decode cX7_back 19 = .ok (.iload_n 3, 1) := by decide +kernel
theorem dX7_back_20 : decode cX7_back 20 = .ok (.bipush 7, 2) := by decide +kernel
theorem dX7_back_22 : decode cX7_back 22 = .ok (.if_icmp .ne 7, 3) := by decide +kernel
theorem dX7_back_25 : decode cX7_back 25 = .ok (.lconst 1, 1) := by decide +kernel
theorem dX7_back_26 : decode cX7_back 26 = .ok (.goto 4, 3) := by decide +kernel
theorem dX7_back_29 : decode cX7_back 29 = .ok (.lconst 0, 1) := by decide +kernel
theorem dX7_back_30 : decode cX7_back 30 = .ok (.invokevirtual 56, 3) := by decide +kernel
theorem dX7_back_33 : decode cX7_back 33 = .ok (.iconst 0, 1) := by decide +kernel
theorem dX7_back_34 : decode cX7_back 34 = .ok (.istore 4, 2) := by decide +kernel
theorem dX7_back_36 : decode cX7_back 36 = .ok (.iload 4, 2) := by decide +kernel
theorem dX7_back_38 : decode cX7_back 38 = .ok (.bipush 21, 2) := by decide +kernel
theorem dX7_back_40 : decode cX7_back 40 = .ok (.if_icmp .ge 147, 3) := by decide +kernel
theorem dX7_back_43 : decode cX7_back 43 = .ok (.iload_n 3, 1) := by decide +kernel
theorem dX7_back_44 : decode cX7_back 44 = .ok (.bipush 7, 2) := by decide +kernel
theorem dX7_back_46 : decode cX7_back 46 = .ok (.if_icmp .ge 141, 3) := by decide +kernel
theorem dX7_back_49 : decode cX7_back 49 = .ok (.aload_n 0, 1) := by decide +kernel
theorem dX7_back_50 : decode cX7_back 50 = .ok (.iload_n 3, 1) := by decide +kernel
theorem dX7_back_51 : decode cX7_back 51 = .ok (.iload_n 2, 1) := by decide +kernel
theorem dX7_back_52 : decode cX7_back 52 = .ok (.bipush 21, 2) := by decide +kernel
theorem dX7_back_54 : decode cX7_back 54 = .ok (.irem, 1) := by decide +kernel
theorem dX7_back_55 : decode cX7_back 55 = .ok (.iload 4, 2) := by decide +kernel
theorem dX7_back_57 : decode cX7_back 57 = .ok (.invokevirtual 276, 3) := by decide +kernel
theorem dX7_back_60 : decode cX7_back 60 = .ok (.iload_n 1, 1) := by decide +kernel
theorem dX7_back_61 : decode cX7_back 61 = .ok (.ifCond .eq 7, 3) := by decide +kernel
theorem dX7_back_64 : decode cX7_back 64 = .ok (.iconst 1, 1) := by decide +kernel
theorem dX7_back_65 : decode cX7_back 65 = .ok (.goto 17, 3) := by decide +kernel
theorem dX7_back_68 : decode cX7_back 68 = .ok (.aload_n 0, 1) := by decide +kernel
theorem dX7_back_69 : decode cX7_back 69 = .ok (.getfield 41, 3) := by decide +kernel
theorem dX7_back_72 : decode cX7_back 72 = .ok (.bipush 21, 2) := by decide +kernel
theorem dX7_back_74 : decode cX7_back 74 = .ok (.iload_n 3, 1) := by decide +kernel
theorem dX7_back_75 : decode cX7_back 75 = .ok (.iconst 1, 1) := by decide +kernel
theorem dX7_back_76 : decode cX7_back 76 = .ok (.iadd, 1) := by decide +kernel
theorem dX7_back_77 : decode cX7_back 77 = .ok (.imul, 1) := by decide +kernel
theorem dX7_back_78 : decode cX7_back 78 = .ok (.iload 4, 2) := by decide +kernel
theorem dX7_back_80 : decode cX7_back 80 = .ok (.iadd, 1) := by decide +kernel
theorem dX7_back_81 : decode cX7_back 81 = .ok (.iaload, 1) := by decide +kernel
theorem dX7_back_82 : decode cX7_back 82 = .ok (.imul, 1) := by decide +kernel
theorem dX7_back_83 : decode cX7_back 83 = .ok (.istore 5, 2) := by decide +kernel
theorem dX7_back_85 : decode cX7_back 85 = .ok (.iload 5, 2) := by decide +kernel
theorem dX7_back_87 : decode cX7_back 87 = .ok (.ifCond .le 94, 3) := by decide +kernel
theorem dX7_back_90 : decode cX7_back 90 = .ok (.aload_n 0, 1) := by decide +kernel
theorem dX7_back_91 : decode cX7_back 91 = .ok (.getfield 29, 3) := by decide +kernel
theorem dX7_back_94 : decode cX7_back 94 = .ok (.sipush 188, 3) := by decide +kernel
theorem dX7_back_97 : decode cX7_back 97 = .ok (.bipush 21, 2) := by decide +kernel
theorem dX7_back_99 : decode cX7_back 99 = .ok (.iload_n 3, 1) := by decide +kernel
theorem dX7_back_100 : decode cX7_back 100 = .ok (.iconst 1, 1) := by decide +kernel
theorem dX7_back_101 : decode cX7_back 101 = .ok (.iadd, 1) := by decide +kernel
theorem dX7_back_102 : decode cX7_back 102 = .ok (.imul, 1) := by decide +kernel
theorem dX7_back_103 : decode cX7_back 103 = .ok (.iadd, 1) := by decide +kernel
theorem dX7_back_104 : decode cX7_back 104 = .ok (.iload 4, 2) := by decide +kernel
theorem dX7_back_106 : decode cX7_back 106 = .ok (.iadd, 1) := by decide +kernel
theorem dX7_back_107 : decode cX7_back 107 = .ok (.iaload, 1) := by decide +kernel
theorem dX7_back_108 : decode cX7_back 108 = .ok (.ifCond .le 73, 3) := by decide +kernel
theorem dX7_back_111 : decode cX7_back 111 = .ok (.aload_n 0, 1) := by decide +kernel
theorem dX7_back_112 : decode cX7_back 112 = .ok (.bipush 6, 2) := by decide +kernel
theorem dX7_back_114 : decode cX7_back 114 = .ok (.sipush 188, 3) := by decide +kernel
theorem dX7_back_117 : decode cX7_back 117 = .ok (.bipush 21, 2) := by decide +kernel
theorem dX7_back_119 : decode cX7_back 119 = .ok (.iload_n 3, 1) := by decide +kernel
theorem dX7_back_120 : decode cX7_back 120 = .ok (.iconst 1, 1) := by decide +kernel
theorem dX7_back_121 : decode cX7_back 121 = .ok (.iadd, 1) := by decide +kernel
theorem dX7_back_122 : decode cX7_back 122 = .ok (.imul, 1) := by decide +kernel
theorem dX7_back_123 : decode cX7_back 123 = .ok (.iadd, 1) := by decide +kernel
theorem dX7_back_124 : decode cX7_back 124 = .ok (.iload 4, 2) := by decide +kernel
theorem dX7_back_126 : decode cX7_back 126 = .ok (.iadd, 1) := by decide +kernel
theorem dX7_back_127 : decode cX7_back 127 = .ok (.invokevirtual 74, 3) := by decide +kernel
theorem dX7_back_130 : decode cX7_back 130 = .ok (.aload_n 0, 1) := by decide +kernel
theorem dX7_back_131 : decode cX7_back 131 = .ok (.bipush 6, 2) := by decide +kernel
theorem dX7_back_133 : decode cX7_back 133 = .ok (.iload 5, 2) := by decide +kernel
theorem dX7_back_135 : decode cX7_back 135 = .ok (.invokevirtual 279, 3) := by decide +kernel
theorem dX7_back_138 : decode cX7_back 138 = .ok (.iload_n 1, 1) := by decide +kernel
theorem dX7_back_139 : decode cX7_back 139 = .ok (.ifCond .ne 17, 3) := by decide +kernel
theorem dX7_back_142 : decode cX7_back 142 = .ok (.aload_n 0, 1) := by decide +kernel
theorem dX7_back_143 : decode cX7_back 143 = .ok (.sipush 188, 3) := by decide +kernel
theorem dX7_back_146 : decode cX7_back 146 = .ok (.iload_n 2, 1) := by decide +kernel
theorem dX7_back_147 : decode cX7_back 147 = .ok (.iadd, 1) := by decide +kernel
theorem dX7_back_148 : decode cX7_back 148 = .ok (.bipush 6, 2) := by decide +kernel
theorem dX7_back_150 : decode cX7_back 150 = .ok (.invokevirtual 282, 3) := by decide +kernel
theorem dX7_back_153 : decode cX7_back 153 = .ok (.goto 28, 3) := by decide +kernel
theorem dX7_back_156 : decode cX7_back 156 = .ok (.aload_n 0, 1) := by decide +kernel
theorem dX7_back_157 : decode cX7_back 157 = .ok (.bipush 6, 2) := by decide +kernel
theorem dX7_back_159 : decode cX7_back 159 = .ok (.sipush 188, 3) := by decide +kernel
theorem dX7_back_162 : decode cX7_back 162 = .ok (.iload_n 2, 1) := by decide +kernel
theorem dX7_back_163 : decode cX7_back 163 = .ok (.iadd, 1) := by decide +kernel
theorem dX7_back_164 : decode cX7_back 164 = .ok (.invokevirtual 86, 3) := by decide +kernel
theorem dX7_back_167 : decode cX7_back 167 = .ok (.ifCond .le 14, 3) := by decide +kernel
theorem dX7_back_170 : decode cX7_back 170 = .ok (.aload_n 0, 1) := by decide +kernel
theorem dX7_back_171 : decode cX7_back 171 = .ok (.sipush 188, 3) := by decide +kernel
theorem dX7_back_174 : decode cX7_back 174 = .ok (.iload_n 2, 1) := by decide +kernel
theorem dX7_back_175 : decode cX7_back 175 = .ok (.iadd, 1) := by decide +kernel
theorem dX7_back_176 : decode cX7_back 176 = .ok (.bipush 6, 2) := by decide +kernel
theorem dX7_back_178 : decode cX7_back 178 = .ok (.invokevirtual 74, 3) := by decide +kernel
theorem dX7_back_181 : decode cX7_back 181 = .ok (.iinc 4 1, 3) := by decide +kernel
theorem dX7_back_184 : decode cX7_back 184 = .ok (.goto (-148), 3) := by decide +kernel
theorem dX7_back_187 : decode cX7_back 187 = .ok (.iload_n 1, 1) := by decide +kernel
theorem dX7_back_188 : decode cX7_back 188 = .ok (.ifCond .eq 18, 3) := by decide +kernel
theorem dX7_back_191 : decode cX7_back 191 = .ok (.aload_n 0, 1) := by decide +kernel
theorem dX7_back_192 : decode cX7_back 192 = .ok (.sipush 188, 3) := by decide +kernel
theorem dX7_back_195 : decode cX7_back 195 = .ok (.iload_n 2, 1) := by decide +kernel
theorem dX7_back_196 : decode cX7_back 196 = .ok (.iadd, 1) := by decide +kernel
theorem dX7_back_197 : decode cX7_back 197 = .ok (.aload_n 0, 1) := by decide +kernel
theorem dX7_back_198 : decode cX7_back 198 = .ok (.getfield 41, 3) := by decide +kernel
theorem dX7_back_201 : decode cX7_back 201 = .ok (.iload_n 2, 1) := by decide +kernel
theorem dX7_back_202 : decode cX7_back 202 = .ok (.iaload, 1) := by decide +kernel
theorem dX7_back_203 : decode cX7_back 203 = .ok (.invokevirtual 279, 3) := by decide +kernel
theorem dX7_back_206 : decode cX7_back 206 = .ok (.iinc 2 (-1), 3) := by decide +kernel
theorem dX7_back_209 : decode cX7_back 209 = .ok (.goto (-205), 3) := by decide +kernel
theorem dX7_back_212 : decode cX7_back 212 = .ok (.return_, 1) := by decide +kernel
theorem dX7_rows_0 : decode cX7_rows 0 = .ok (.aload_n 0, 1) := by decide +kernel
theorem dX7_rows_1 : decode cX7_rows 1 = .ok (.iload_n 1, 1) := by decide +kernel
theorem dX7_rows_2 : decode cX7_rows 2 = .ok (.invokevirtual 285, 3) := by decide +kernel
theorem dX7_rows_5 : decode cX7_rows 5 = .ok (.istore_n 2, 1) := by decide +kernel
theorem dX7_rows_6 : decode cX7_rows 6 = .ok (.iload_n 2, 1) := by decide +kernel
theorem dX7_rows_7 : decode cX7_rows 7 = .ok (.ifCond .eq 8, 3) := by decide +kernel
theorem dX7_rows_10 : decode cX7_rows 10 = .ok (.aload_n 0, 1) := by decide +kernel
theorem dX7_rows_11 : decode cX7_rows 11 = .ok (.iconst 0, 1) := by decide +kernel
theorem dX7_rows_12 : decode cX7_rows 12 = .ok (.invokevirtual 288, 3) := by decide +kernel
theorem dX7_rows_15 : decode cX7_rows 15 = .ok (.iload_n 2, 1) := by decide +kernel
theorem dX7_rows_16 : decode cX7_rows 16 = .ok (.ireturn, 1) := by decide +kernel
theorem dX7_addsRows_0 : decode cX7_addsRows 0 = .ok (.aload_n 0, 1) := by decide +kernel
theorem dX7_addsRows_1 : decode cX7_addsRows 1 = .ok (.bipush 6, 2) := by decide +kernel
theorem dX7_addsRows_3 : decode cX7_addsRows 3 = .ok (.bipush 20, 2) := by decide +kernel
theorem dX7_addsRows_5 : decode cX7_addsRows 5 = .ok (.bipush 21, 2) := by decide +kernel
theorem dX7_addsRows_7 : decode cX7_addsRows 7 = .ok (.iload_n 1, 1) := by decide +kernel
theorem dX7_addsRows_8 : decode cX7_addsRows 8 = .ok (.imul, 1) := by decide +kernel
theorem dX7_addsRows_9 : decode cX7_addsRows 9 = .ok (.iadd, 1) := by decide +kernel
theorem dX7_addsRows_10 : decode cX7_addsRows 10 = .ok (.iload_n 2, 1) := by decide +kernel
theorem dX7_addsRows_11 : decode cX7_addsRows 11 = .ok (.iadd, 1) := by decide +kernel
theorem dX7_addsRows_12 : decode cX7_addsRows 12 = .ok (.invokevirtual 74, 3) := by decide +kernel
theorem dX7_addsRows_15 : decode cX7_addsRows 15 = .ok (.aload_n 0, 1) := by decide +kernel
theorem dX7_addsRows_16 : decode cX7_addsRows 16 = .ok (.getfield 29, 3) := by decide +kernel
theorem dX7_addsRows_19 : decode cX7_addsRows 19 = .ok (.bipush 6, 2) := by decide +kernel
theorem dX7_addsRows_21 : decode cX7_addsRows 21 = .ok (.iaload, 1) := by decide +kernel
theorem dX7_addsRows_22 : decode cX7_addsRows 22 = .ok (.ifCond .le 45, 3) := by decide +kernel
theorem dX7_addsRows_25 : decode cX7_addsRows 25 = .ok (.aload_n 0, 1) := by decide +kernel
theorem dX7_addsRows_26 : decode cX7_addsRows 26 = .ok (.getfield 29, 3) := by decide +kernel
theorem dX7_addsRows_29 : decode cX7_addsRows 29 = .ok (.sipush 188, 3) := by decide +kernel
theorem dX7_addsRows_32 : decode cX7_addsRows 32 = .ok (.bipush 21, 2) := by decide +kernel
theorem dX7_addsRows_34 : decode cX7_addsRows 34 = .ok (.iload_n 1, 1) := by decide +kernel
theorem dX7_addsRows_35 : decode cX7_addsRows 35 = .ok (.imul, 1) := by decide +kernel
theorem dX7_addsRows_36 : decode cX7_addsRows 36 = .ok (.iadd, 1) := by decide +kernel
theorem dX7_addsRows_37 : decode cX7_addsRows 37 = .ok (.iload_n 2, 1) := by decide +kernel
theorem dX7_addsRows_38 : decode cX7_addsRows 38 = .ok (.iadd, 1) := by decide +kernel
theorem dX7_addsRows_39 : decode cX7_addsRows 39 = .ok (.iaload, 1) := by decide +kernel
theorem dX7_addsRows_40 : decode cX7_addsRows 40 = .ok (.ifCond .le 27, 3) := by decide +kernel
theorem dX7_addsRows_43 : decode cX7_addsRows 43 = .ok (.aload_n 0, 1) := by decide +kernel
theorem dX7_addsRows_44 : decode cX7_addsRows 44 = .ok (.bipush 6, 2) := by decide +kernel
theorem dX7_addsRows_46 : decode cX7_addsRows 46 = .ok (.sipush 188, 3) := by decide +kernel
theorem dX7_addsRows_49 : decode cX7_addsRows 49 = .ok (.bipush 21, 2) := by decide +kernel
theorem dX7_addsRows_51 : decode cX7_addsRows 51 = .ok (.iload_n 1, 1) := by decide +kernel
theorem dX7_addsRows_52 : decode cX7_addsRows 52 = .ok (.imul, 1) := by decide +kernel
theorem dX7_addsRows_53 : decode cX7_addsRows 53 = .ok (.iadd, 1) := by decide +kernel
theorem dX7_addsRows_54 : decode cX7_addsRows 54 = .ok (.iload_n 2, 1) := by decide +kernel
theorem dX7_addsRows_55 : decode cX7_addsRows 55 = .ok (.iadd, 1) := by decide +kernel
theorem dX7_addsRows_56 : decode cX7_addsRows 56 = .ok (.invokevirtual 292, 3) := by decide +kernel
theorem dX7_addsRows_59 : decode cX7_addsRows 59 = .ok (.aload_n 0, 1) := by decide +kernel
theorem dX7_addsRows_60 : decode cX7_addsRows 60 = .ok (.bipush 7, 2) := by decide +kernel
theorem dX7_addsRows_62 : decode cX7_addsRows 62 = .ok (.bipush 6, 2) := by decide +kernel
theorem dX7_addsRows_64 : decode cX7_addsRows 64 = .ok (.invokevirtual 282, 3) := by decide +kernel
theorem dX7_addsRows_67 : decode cX7_addsRows 67 = .ok (.return_, 1) := by decide +kernel
theorem dX7_tellsSum_0 : decode cX7_tellsSum 0 = .ok (.aload_n 0, 1) := by decide +kernel
theorem dX7_tellsSum_1 : decode cX7_tellsSum 1 = .ok (.iconst 0, 1) := by decide +kernel
theorem dX7_tellsSum_2 : decode cX7_tellsSum 2 = .ok (.bipush 7, 2) := by decide +kernel
theorem dX7_tellsSum_4 : decode cX7_tellsSum 4 = .ok (.invokevirtual 74, 3) := by decide +kernel
theorem dX7_tellsSum_7 : decode cX7_tellsSum 7 = .ok (.aload_n 0, 1) := by decide +kernel
theorem dX7_tellsSum_8 : decode cX7_tellsSum 8 = .ok (.iconst 1, 1) := by decide +kernel
theorem dX7_tellsSum_9 : decode cX7_tellsSum 9 = .ok (.iconst 5, 1) := by decide +kernel
theorem dX7_tellsSum_10 : decode cX7_tellsSum 10 = .ok (.invokevirtual 74, 3) := by decide +kernel
theorem dX7_tellsSum_13 : decode cX7_tellsSum 13 = .ok (.aload_n 0, 1) := by decide +kernel
theorem dX7_tellsSum_14 : decode cX7_tellsSum 14 = .ok (.invokevirtual 95, 3) := by decide +kernel
theorem dX7_tellsSum_17 : decode cX7_tellsSum 17 = .ok (.iconst 1, 1) := by decide +kernel
theorem dX7_tellsSum_18 : decode cX7_tellsSum 18 = .ok (.ireturn, 1) := by decide +kernel
theorem dX7_odds_0 : decode cX7_odds 0 = .ok (.iload_n 1, 1) := by decide +kernel
theorem dX7_odds_1 : decode cX7_odds 1 = .ok (.invokestatic 131, 3) := by decide +kernel
theorem dX7_odds_4 : decode cX7_odds 4 = .ok (.ifCond .eq 11, 3) := by decide +kernel
theorem dX7_odds_7 : decode cX7_odds 7 = .ok (.aload_n 0, 1) := by decide +kernel
theorem dX7_odds_8 : decode cX7_odds 8 = .ok (.iload_n 2, 1) := by decide +kernel
theorem dX7_odds_9 : decode cX7_odds 9 = .ok (.invokevirtual 259, 3) := by decide +kernel
theorem dX7_odds_12 : decode cX7_odds 12 = .ok (.ifCond .ne 8, 3) := by decide +kernel
theorem dX7_odds_15 : decode cX7_odds 15 = .ok (.aload_n 0, 1) := by decide +kernel
theorem dX7_odds_16 : decode cX7_odds 16 = .ok (.invokevirtual 98, 3) := by decide +kernel
theorem dX7_odds_19 : decode cX7_odds 19 = .ok (.ireturn, 1) := by decide +kernel
theorem dX7_odds_20 : decode cX7_odds 20 = .ok (.aload_n 0, 1) := by decide +kernel
theorem dX7_odds_21 : decode cX7_odds 21 = .ok (.iload_n 1, 1) := by decide +kernel
theorem dX7_odds_22 : decode cX7_odds 22 = .ok (.bipush 8, 2) := by decide +kernel
theorem dX7_odds_24 : decode cX7_odds 24 = .ok (.idiv, 1) := by decide +kernel
theorem dX7_odds_25 : decode cX7_odds 25 = .ok (.invokevirtual 295, 3) := by decide +kernel
theorem dX7_odds_28 : decode cX7_odds 28 = .ok (.ifCond .ne 8, 3) := by decide +kernel
theorem dX7_odds_31 : decode cX7_odds 31 = .ok (.aload_n 0, 1) := by decide +kernel
theorem dX7_odds_32 : decode cX7_odds 32 = .ok (.invokevirtual 141, 3) := by decide +kernel
theorem dX7_odds_35 : decode cX7_odds 35 = .ok (.ireturn, 1) := by decide +kernel
theorem dX7_odds_36 : decode cX7_odds 36 = .ok (.aload_n 0, 1) := by decide +kernel
theorem dX7_odds_37 : decode cX7_odds 37 = .ok (.bipush 7, 2) := by decide +kernel
theorem dX7_odds_39 : decode cX7_odds 39 = .ok (.lconst 0, 1) := by decide +kernel
theorem dX7_odds_40 : decode cX7_odds 40 = .ok (.invokevirtual 56, 3) := by decide +kernel
theorem dX7_odds_43 : decode cX7_odds 43 = .ok (.aload_n 0, 1) := by decide +kernel
theorem dX7_odds_44 : decode cX7_odds 44 = .ok (.iload_n 1, 1) := by decide +kernel
theorem dX7_odds_45 : decode cX7_odds 45 = .ok (.bipush 8, 2) := by decide +kernel
theorem dX7_odds_47 : decode cX7_odds 47 = .ok (.irem, 1) := by decide +kernel
theorem dX7_odds_48 : decode cX7_odds 48 = .ok (.iload_n 2, 1) := by decide +kernel
theorem dX7_odds_49 : decode cX7_odds 49 = .ok (.invokevirtual 298, 3) := by decide +kernel
theorem dX7_odds_52 : decode cX7_odds 52 = .ok (.aload_n 0, 1) := by decide +kernel
theorem dX7_odds_53 : decode cX7_odds 53 = .ok (.invokevirtual 301, 3) := by decide +kernel
theorem dX7_odds_56 : decode cX7_odds 56 = .ok (.ireturn, 1) := by decide +kernel
theorem dX7_above_0 : decode cX7_above 0 = .ok (.iload_n 1, 1) := by decide +kernel
theorem dX7_above_1 : decode cX7_above 1 = .ok (.invokestatic 131, 3) := by decide +kernel
theorem dX7_above_4 : decode cX7_above 4 = .ok (.ifCond .ne 8, 3) := by decide +kernel
theorem dX7_above_7 : decode cX7_above 7 = .ok (.aload_n 0, 1) := by decide +kernel
theorem dX7_above_8 : decode cX7_above 8 = .ok (.invokevirtual 98, 3) := by decide +kernel
theorem dX7_above_11 : decode cX7_above 11 = .ok (.ireturn, 1) := by decide +kernel
theorem dX7_above_12 : decode cX7_above 12 = .ok (.aload_n 0, 1) := by decide +kernel
theorem dX7_above_13 : decode cX7_above 13 = .ok (.iload_n 1, 1) := by decide +kernel
theorem dX7_above_14 : decode cX7_above 14 = .ok (.bipush 8, 2) := by decide +kernel
theorem dX7_above_16 : decode cX7_above 16 = .ok (.idiv, 1) := by decide +kernel
theorem dX7_above_17 : decode cX7_above 17 = .ok (.invokevirtual 295, 3) := by decide +kernel
theorem dX7_above_20 : decode cX7_above 20 = .ok (.ifCond .ne 8, 3) := by decide +kernel
theorem dX7_above_23 : decode cX7_above 23 = .ok (.aload_n 0, 1) := by decide +kernel
theorem dX7_above_24 : decode cX7_above 24 = .ok (.invokevirtual 141, 3) := by decide +kernel
theorem dX7_above_27 : decode cX7_above 27 = .ok (.ireturn, 1) := by decide +kernel
theorem dX7_above_28 : decode cX7_above 28 = .ok (.aload_n 0, 1) := by decide +kernel
theorem dX7_above_29 : decode cX7_above 29 = .ok (.bipush 7, 2) := by decide +kernel
theorem dX7_above_31 : decode cX7_above 31 = .ok (.lconst 0, 1) := by decide +kernel
theorem dX7_above_32 : decode cX7_above 32 = .ok (.invokevirtual 56, 3) := by decide +kernel
theorem dX7_above_35 : decode cX7_above 35 = .ok (.iconst 5, 1) := by decide +kernel
theorem dX7_above_36 : decode cX7_above 36 = .ok (.istore_n 2, 1) := by decide +kernel
theorem dX7_above_37 : decode cX7_above 37 = .ok (.iload_n 2, 1) := by decide +kernel
theorem dX7_above_38 : decode cX7_above 38 = .ok (.bipush 21, 2) := by decide +kernel
theorem dX7_above_40 : decode cX7_above 40 = .ok (.if_icmp .ge 18, 3) := by decide +kernel
theorem dX7_above_43 : decode cX7_above 43 = .ok (.aload_n 0, 1) := by decide +kernel
theorem dX7_above_44 : decode cX7_above 44 = .ok (.iload_n 1, 1) := by decide +kernel
theorem dX7_above_45 : decode cX7_above 45 = .ok (.bipush 8, 2) := by decide +kernel
theorem dX7_above_47 : decode cX7_above 47 = .ok (.irem, 1) := by decide +kernel
theorem dX7_above_48 : decode cX7_above 48 = .ok (.iload_n 2, 1) := by decide +kernel
theorem dX7_above_49 : decode cX7_above 49 = .ok (.invokevirtual 298, 3) := by decide +kernel
theorem dX7_above_52 : decode cX7_above 52 = .ok (.iinc 2 1, 3) := by decide +kernel
theorem dX7_above_55 : decode cX7_above 55 = .ok (.goto (-18), 3) := by decide +kernel
theorem dX7_above_58 : decode cX7_above 58 = .ok (.aload_n 0, 1) := by decide +kernel
theorem dX7_above_59 : decode cX7_above 59 = .ok (.invokevirtual 301, 3) := by decide +kernel
theorem dX7_above_62 : decode cX7_above 62 = .ok (.ireturn, 1) := by decide +kernel
theorem dX7_likeliest_0 : decode cX7_likeliest 0 = .ok (.iload_n 1, 1) := by decide +kernel
theorem dX7_likeliest_1 : decode cX7_likeliest 1 = .ok (.i2l, 1) := by decide +kernel
theorem dX7_likeliest_2 : decode cX7_likeliest 2 = .ok (.lconst 0, 1) := by decide +kernel
theorem dX7_likeliest_3 : decode cX7_likeliest 3 = .ok (.ldc2_w 119, 3) := by decide +kernel
theorem dX7_likeliest_6 : decode cX7_likeliest 6 = .ok (.invokestatic 102, 3) := by decide +kernel
theorem dX7_likeliest_9 : decode cX7_likeliest 9 = .ok (.ifCond .eq 15, 3) := by decide +kernel
theorem dX7_likeliest_12 : decode cX7_likeliest 12 = .ok (.iload_n 2, 1) := by decide +kernel
theorem dX7_likeliest_13 : decode cX7_likeliest 13 = .ok (.i2l, 1) := by decide +kernel
theorem dX7_likeliest_14 : decode cX7_likeliest 14 = .ok (.lconst 0, 1) := by decide +kernel
theorem dX7_likeliest_15 : decode cX7_likeliest 15 = .ok (.ldc2_w 304, 3) := by decide +kernel
theorem dX7_likeliest_18 : decode cX7_likeliest 18 = .ok (.invokestatic 102, 3) := by decide +kernel
theorem dX7_likeliest_21 : decode cX7_likeliest 21 = .ok (.ifCond .ne 8, 3) := by decide +kernel
theorem dX7_likeliest_24 : decode cX7_likeliest 24 = .ok (.aload_n 0, 1) := by decide +kernel
theorem dX7_likeliest_25 : decode cX7_likeliest 25 = .ok (.invokevirtual 98, 3) := by decide +kernel
theorem dX7_likeliest_28 : decode cX7_likeliest 28 = .ok (.ireturn, 1) := by decide +kernel
theorem dX7_likeliest_29 : decode cX7_likeliest 29 = .ok (.aload_n 0, 1) := by decide +kernel
theorem dX7_likeliest_30 : decode cX7_likeliest 30 = .ok (.iload_n 1, 1) := by decide +kernel
theorem dX7_likeliest_31 : decode cX7_likeliest 31 = .ok (.invokevirtual 285, 3) := by decide +kernel
theorem dX7_likeliest_34 : decode cX7_likeliest 34 = .ok (.ifCond .ne 8, 3) := by decide +kernel
theorem dX7_likeliest_37 : decode cX7_likeliest 37 = .ok (.aload_n 0, 1) := by decide +kernel
theorem dX7_likeliest_38 : decode cX7_likeliest 38 = .ok (.invokevirtual 141, 3) := by decide +kernel
theorem dX7_likeliest_41 : decode cX7_likeliest 41 = .ok (.ireturn, 1) := by decide +kernel
theorem dX7_likeliest_42 : decode cX7_likeliest 42 = .ok (.aload_n 0, 1) := by decide +kernel
theorem dX7_likeliest_43 : decode cX7_likeliest 43 = .ok (.iconst 1, 1) := by decide +kernel
theorem dX7_likeliest_44 : decode cX7_likeliest 44 = .ok (.invokevirtual 288, 3) := by decide +kernel
theorem dX7_likeliest_47 : decode cX7_likeliest 47 = .ok (.iconst (-1), 1) := by decide +kernel
theorem dX7_likeliest_48 : decode cX7_likeliest 48 = .ok (.istore_n 3, 1) := by decide +kernel
theorem dX7_likeliest_49 : decode cX7_likeliest 49 = .ok (.iconst 0, 1) := by decide +kernel
theorem dX7_likeliest_50 : decode cX7_likeliest 50 = .ok (.istore 4, 2) := by decide +kernel
theorem dX7_likeliest_52 : decode cX7_likeliest 52 = .ok (.iload 4, 2) := by decide +kernel
theorem dX7_likeliest_54 : decode cX7_likeliest 54 = .ok (.iload_n 2, 1) := by decide +kernel
theorem dX7_likeliest_55 : decode cX7_likeliest 55 = .ok (.if_icmp .gt 118, 3) := by decide +kernel
theorem dX7_likeliest_58 : decode cX7_likeliest 58 = .ok (.iconst (-1), 1) := by decide +kernel
theorem dX7_likeliest_59 : decode cX7_likeliest 59 = .ok (.istore 5, 2) := by decide +kernel
theorem dX7_likeliest_61 : decode cX7_likeliest 61 = .ok (.iconst 0, 1) := by decide +kernel
theorem dX7_likeliest_62 : decode cX7_likeliest 62 = .ok (.istore 6, 2) := by decide +kernel
theorem dX7_likeliest_64 : decode cX7_likeliest 64 = .ok (.iload 6, 2) := by decide +kernel
theorem dX7_likeliest_66 : decode cX7_likeliest 66 = .ok (.bipush 21, 2) := by decide +kernel
theorem dX7_likeliest_68 : decode cX7_likeliest 68 = .ok (.if_icmp .ge 96, 3) := by decide +kernel
theorem dX7_likeliest_71 : decode cX7_likeliest 71 = .ok (.iload 4, 2) := by decide +kernel
theorem dX7_likeliest_73 : decode cX7_likeliest 73 = .ok (.ifCond .ne 7, 3) := by decide +kernel
theorem dX7_likeliest_76 : decode cX7_likeliest 76 = .ok (.iconst 1, 1) := by decide +kernel
theorem dX7_likeliest_77 : decode cX7_likeliest 77 = .ok (.goto 14, 3) := by decide +kernel
theorem dX7_likeliest_80 : decode cX7_likeliest 80 = .ok (.aload_n 0, 1) := by decide +kernel
theorem dX7_likeliest_81 : decode cX7_likeliest 81 = .ok (.iload 4, 2) := by decide +kernel
theorem dX7_likeliest_83 : decode cX7_likeliest 83 = .ok (.iconst 1, 1) := by decide +kernel
theorem dX7_likeliest_84 : decode cX7_likeliest 84 = .ok (.isub, 1) := by decide +kernel
theorem dX7_likeliest_85 : decode cX7_likeliest 85 = .ok (.iload_n 3, 1) := by decide +kernel
theorem dX7_likeliest_86 : decode cX7_likeliest 86 = .ok (.iload 6, 2) := by decide +kernel
theorem dX7_likeliest_88 : decode cX7_likeliest 88 = .ok (.invokevirtual 276, 3) := by decide +kernel
theorem dX7_likeliest_91 : decode cX7_likeliest 91 = .ok (.istore 7, 2) := by decide +kernel
theorem dX7_likeliest_93 : decode cX7_likeliest 93 = .ok (.aload_n 0, 1) := by decide +kernel
theorem dX7_likeliest_94 : decode cX7_likeliest 94 = .ok (.bipush 6, 2) := by decide +kernel
theorem dX7_likeliest_96 : decode cX7_likeliest 96 = .ok (.sipush 188, 3) := by decide +kernel
theorem dX7_likeliest_99 : decode cX7_likeliest 99 = .ok (.bipush 21, 2) := by decide +kernel
theorem dX7_likeliest_101 : decode cX7_likeliest 101 = .ok (.iload 4, 2) := by decide +kernel
theorem dX7_likeliest_103 : decode cX7_likeliest 103 = .ok (.imul, 1) := by decide +kernel
theorem dX7_likeliest_104 : decode cX7_likeliest 104 = .ok (.iadd, 1) := by decide +kernel
theorem dX7_likeliest_105 : decode cX7_likeliest 105 = .ok (.iload 6, 2) := by decide +kernel
theorem dX7_likeliest_107 : decode cX7_likeliest 107 = .ok (.iadd, 1) := by decide +kernel
theorem dX7_likeliest_108 : decode cX7_likeliest 108 = .ok (.invokevirtual 74, 3) := by decide +kernel
theorem dX7_likeliest_111 : decode cX7_likeliest 111 = .ok (.aload_n 0, 1) := by decide +kernel
theorem dX7_likeliest_112 : decode cX7_likeliest 112 = .ok (.bipush 6, 2) := by decide +kernel
theorem dX7_likeliest_114 : decode cX7_likeliest 114 = .ok (.iload 7, 2) := by decide +kernel
theorem dX7_likeliest_116 : decode cX7_likeliest 116 = .ok (.invokevirtual 279, 3) := by decide +kernel
theorem dX7_likeliest_119 : decode cX7_likeliest 119 = .ok (.aload_n 0, 1) := by decide +kernel
theorem dX7_likeliest_120 : decode cX7_likeliest 120 = .ok (.getfield 29, 3) := by decide +kernel
theorem dX7_likeliest_123 : decode cX7_likeliest 123 = .ok (.bipush 6, 2) := by decide +kernel
theorem dX7_likeliest_125 : decode cX7_likeliest 125 = .ok (.iaload, 1) := by decide +kernel
theorem dX7_likeliest_126 : decode cX7_likeliest 126 = .ok (.ifCond .le 32, 3) := by decide +kernel
theorem dX7_likeliest_129 : decode cX7_likeliest 129 = .ok (.iload 5, 2) := by decide +kernel
theorem dX7_likeliest_131 : decode cX7_likeliest 131 = .ok (.iconst (-1), 1) := by decide +kernel
theorem dX7_likeliest_132 : decode cX7_likeliest 132 = .ok (.if_icmp .eq 14, 3) := by decide +kernel
theorem dX7_likeliest_135 : decode cX7_likeliest 135 = .ok (.aload_n 0, 1) := by decide +kernel
theorem dX7_likeliest_136 : decode cX7_likeliest 136 = .ok (.bipush 6, 2) := by decide +kernel
theorem dX7_likeliest_138 : decode cX7_likeliest 138 = .ok (.bipush 7, 2) := by decide +kernel
theorem dX7_likeliest_140 : decode cX7_likeliest 140 = .ok (.invokevirtual 86, 3) := by decide +kernel
theorem dX7_likeliest_143 : decode cX7_likeliest 143 = .ok (.ifCond .le 15, 3) := by decide +kernel
theorem dX7_likeliest_146 : decode cX7_likeliest 146 = .ok (.iload 6, 2) := by decide +kernel
theorem dX7_likeliest_148 : decode cX7_likeliest 148 = .ok (.istore 5, 2) := by decide +kernel
theorem dX7_likeliest_150 : decode cX7_likeliest 150 = .ok (.aload_n 0, 1) := by decide +kernel
theorem dX7_likeliest_151 : decode cX7_likeliest 151 = .ok (.bipush 7, 2) := by decide +kernel
theorem dX7_likeliest_153 : decode cX7_likeliest 153 = .ok (.bipush 6, 2) := by decide +kernel
theorem dX7_likeliest_155 : decode cX7_likeliest 155 = .ok (.invokevirtual 74, 3) := by decide +kernel
theorem dX7_likeliest_158 : decode cX7_likeliest 158 = .ok (.iinc 6 1, 3) := by decide +kernel
theorem dX7_likeliest_161 : decode cX7_likeliest 161 = .ok (.goto (-97), 3) := by decide +kernel
theorem dX7_likeliest_164 : decode cX7_likeliest 164 = .ok (.iload 5, 2) := by decide +kernel
theorem dX7_likeliest_166 : decode cX7_likeliest 166 = .ok (.istore_n 3, 1) := by decide +kernel
theorem dX7_likeliest_167 : decode cX7_likeliest 167 = .ok (.iinc 4 1, 3) := by decide +kernel
theorem dX7_likeliest_170 : decode cX7_likeliest 170 = .ok (.goto (-118), 3) := by decide +kernel
theorem dX7_likeliest_173 : decode cX7_likeliest 173 = .ok (.iload_n 3, 1) := by decide +kernel
theorem dX7_likeliest_174 : decode cX7_likeliest 174 = .ok (.ireturn, 1) := by decide +kernel
theorem dX7_stood_0 : decode cX7_stood 0 = .ok (.iload_n 1, 1) := by decide +kernel
theorem dX7_stood_1 : decode cX7_stood 1 = .ok (.i2l, 1) := by decide +kernel
theorem dX7_stood_2 : decode cX7_stood 2 = .ok (.lconst 0, 1) := by decide +kernel
theorem dX7_stood_3 : decode cX7_stood 3 = .ok (.ldc2_w 117, 3) := by decide +kernel
theorem dX7_stood_6 : decode cX7_stood 6 = .ok (.invokestatic 102, 3) := by decide +kernel
theorem dX7_stood_9 : decode cX7_stood 9 = .ok (.ifCond .ne 8, 3) := by decide +kernel
theorem dX7_stood_12 : decode cX7_stood 12 = .ok (.aload_n 0, 1) := by decide +kernel
theorem dX7_stood_13 : decode cX7_stood 13 = .ok (.invokevirtual 98, 3) := by decide +kernel
theorem dX7_stood_16 : decode cX7_stood 16 = .ok (.ireturn, 1) := by decide +kernel
theorem dX7_stood_17 : decode cX7_stood 17 = .ok (.aload_n 0, 1) := by decide +kernel
theorem dX7_stood_18 : decode cX7_stood 18 = .ok (.getfield 7, 3) := by decide +kernel
theorem dX7_stood_21 : decode cX7_stood 21 = .ok (.bipush 7, 2) := by decide +kernel
theorem dX7_stood_23 : decode cX7_stood 23 = .ok (.iaload, 1) := by decide +kernel
theorem dX7_stood_24 : decode cX7_stood 24 = .ok (.istore_n 2, 1) := by decide +kernel
theorem dX7_stood_25 : decode cX7_stood 25 = .ok (.iconst 0, 1) := by decide +kernel
theorem dX7_stood_26 : decode cX7_stood 26 = .ok (.istore_n 3, 1) := by decide +kernel
theorem dX7_stood_27 : decode cX7_stood 27 = .ok (.iload_n 3, 1) := by decide +kernel
theorem dX7_stood_28 : decode cX7_stood 28 = .ok (.iconst 4, 1) := by decide +kernel
theorem dX7_stood_29 : decode cX7_stood 29 = .ok (.if_icmp .ge 70, 3) := by decide +kernel
theorem dX7_stood_32 : decode cX7_stood 32 = .ok (.aload_n 0, 1) := by decide +kernel
theorem dX7_stood_33 : decode cX7_stood 33 = .ok (.getfield 7, 3) := by decide +kernel
theorem dX7_stood_36 : decode cX7_stood 36 = .ok (.bipush 7, 2) := by decide +kernel
theorem dX7_stood_38 : decode cX7_stood 38 = .ok (.iload_n 3, 1) := by decide +kernel
theorem dX7_stood_39 : decode cX7_stood 39 = .ok (.iastore, 1) := by decide +kernel
theorem dX7_stood_40 : decode cX7_stood 40 = .ok (.aload_n 0, 1) := by decide +kernel
theorem dX7_stood_41 : decode cX7_stood 41 = .ok (.bipush 8, 2) := by decide +kernel
theorem dX7_stood_43 : decode cX7_stood 43 = .ok (.iload_n 3, 1) := by decide +kernel
theorem dX7_stood_44 : decode cX7_stood 44 = .ok (.iadd, 1) := by decide +kernel
theorem dX7_stood_45 : decode cX7_stood 45 = .ok (.lconst 1, 1) := by decide +kernel
theorem dX7_stood_46 : decode cX7_stood 46 = .ok (.invokevirtual 56, 3) := by decide +kernel
theorem dX7_stood_49 : decode cX7_stood 49 = .ok (.iconst 0, 1) := by decide +kernel
theorem dX7_stood_50 : decode cX7_stood 50 = .ok (.istore 4, 2) := by decide +kernel
theorem dX7_stood_52 : decode cX7_stood 52 = .ok (.iload 4, 2) := by decide +kernel
theorem dX7_stood_54 : decode cX7_stood 54 = .ok (.bipush 6, 2) := by decide +kernel
theorem dX7_stood_56 : decode cX7_stood 56 = .ok (.if_icmp .ge 37, 3) := by decide +kernel
theorem dX7_stood_59 : decode cX7_stood 59 = .ok (.aload_n 0, 1) := by decide +kernel
theorem dX7_stood_60 : decode cX7_stood 60 = .ok (.getfield 29, 3) := by decide +kernel
theorem dX7_stood_63 : decode cX7_stood 63 = .ok (.bipush 8, 2) := by decide +kernel
theorem dX7_stood_65 : decode cX7_stood 65 = .ok (.iload_n 3, 1) := by decide +kernel
theorem dX7_stood_66 : decode cX7_stood 66 = .ok (.iadd, 1) := by decide +kernel
theorem dX7_stood_67 : decode cX7_stood 67 = .ok (.iaload, 1) := by decide +kernel
theorem dX7_stood_68 : decode cX7_stood 68 = .ok (.ifCond .le 25, 3) := by decide +kernel
theorem dX7_stood_71 : decode cX7_stood 71 = .ok (.aload_n 0, 1) := by decide +kernel
theorem dX7_stood_72 : decode cX7_stood 72 = .ok (.iload 4, 2) := by decide +kernel
theorem dX7_stood_74 : decode cX7_stood 74 = .ok (.invokevirtual 285, 3) := by decide +kernel
theorem dX7_stood_77 : decode cX7_stood 77 = .ok (.pop, 1) := by decide +kernel
theorem dX7_stood_78 : decode cX7_stood 78 = .ok (.aload_n 0, 1) := by decide +kernel
theorem dX7_stood_79 : decode cX7_stood 79 = .ok (.bipush 8, 2) := by decide +kernel
theorem dX7_stood_81 : decode cX7_stood 81 = .ok (.iload_n 3, 1) := by decide +kernel
theorem dX7_stood_82 : decode cX7_stood 82 = .ok (.iadd, 1) := by decide +kernel
theorem dX7_stood_83 : decode cX7_stood 83 = .ok (.iconst 5, 1) := by decide +kernel
theorem dX7_stood_84 : decode cX7_stood 84 = .ok (.invokevirtual 292, 3) := by decide +kernel
theorem dX7_stood_87 : decode cX7_stood 87 = .ok (.iinc 4 1, 3) := by decide +kernel
theorem dX7_stood_90 : decode cX7_stood 90 = .ok (.goto (-38), 3) := by decide +kernel
theorem dX7_stood_93 : decode cX7_stood 93 = .ok (.iinc 3 1, 3) := by decide +kernel
theorem dX7_stood_96 : decode cX7_stood 96 = .ok (.goto (-69), 3) := by decide +kernel
theorem dX7_stood_99 : decode cX7_stood 99 = .ok (.aload_n 0, 1) := by decide +kernel
theorem dX7_stood_100 : decode cX7_stood 100 = .ok (.getfield 7, 3) := by decide +kernel
theorem dX7_stood_103 : decode cX7_stood 103 = .ok (.bipush 7, 2) := by decide +kernel
theorem dX7_stood_105 : decode cX7_stood 105 = .ok (.iload_n 2, 1) := by decide +kernel
theorem dX7_stood_106 : decode cX7_stood 106 = .ok (.iastore, 1) := by decide +kernel
theorem dX7_stood_107 : decode cX7_stood 107 = .ok (.aload_n 0, 1) := by decide +kernel
theorem dX7_stood_108 : decode cX7_stood 108 = .ok (.iconst 5, 1) := by decide +kernel
theorem dX7_stood_109 : decode cX7_stood 109 = .ok (.lconst 0, 1) := by decide +kernel
theorem dX7_stood_110 : decode cX7_stood 110 = .ok (.invokevirtual 56, 3) := by decide +kernel
theorem dX7_stood_113 : decode cX7_stood 113 = .ok (.iconst 0, 1) := by decide +kernel
theorem dX7_stood_114 : decode cX7_stood 114 = .ok (.istore_n 3, 1) := by decide +kernel
theorem dX7_stood_115 : decode cX7_stood 115 = .ok (.iload_n 3, 1) := by decide +kernel
theorem dX7_stood_116 : decode cX7_stood 116 = .ok (.iconst 4, 1) := by decide +kernel
theorem dX7_stood_117 : decode cX7_stood 117 = .ok (.if_icmp .ge 18, 3) := by decide +kernel
theorem dX7_stood_120 : decode cX7_stood 120 = .ok (.aload_n 0, 1) := by decide +kernel
theorem dX7_stood_121 : decode cX7_stood 121 = .ok (.iconst 5, 1) := by decide +kernel
theorem dX7_stood_122 : decode cX7_stood 122 = .ok (.bipush 8, 2) := by decide +kernel
theorem dX7_stood_124 : decode cX7_stood 124 = .ok (.iload_n 3, 1) := by decide +kernel
theorem dX7_stood_125 : decode cX7_stood 125 = .ok (.iadd, 1) := by decide +kernel
theorem dX7_stood_126 : decode cX7_stood 126 = .ok (.invokevirtual 282, 3) := by decide +kernel
theorem dX7_stood_129 : decode cX7_stood 129 = .ok (.iinc 3 1, 3) := by decide +kernel
theorem dX7_stood_132 : decode cX7_stood 132 = .ok (.goto (-17), 3) := by decide +kernel
theorem dX7_stood_135 : decode cX7_stood 135 = .ok (.aload_n 0, 1) := by decide +kernel
theorem dX7_stood_136 : decode cX7_stood 136 = .ok (.getfield 29, 3) := by decide +kernel
theorem dX7_stood_139 : decode cX7_stood 139 = .ok (.iconst 5, 1) := by decide +kernel
theorem dX7_stood_140 : decode cX7_stood 140 = .ok (.iaload, 1) := by decide +kernel
theorem dX7_stood_141 : decode cX7_stood 141 = .ok (.ifCond .ne 8, 3) := by decide +kernel
theorem dX7_stood_144 : decode cX7_stood 144 = .ok (.aload_n 0, 1) := by decide +kernel
theorem dX7_stood_145 : decode cX7_stood 145 = .ok (.invokevirtual 141, 3) := by decide +kernel
theorem dX7_stood_148 : decode cX7_stood 148 = .ok (.ireturn, 1) := by decide +kernel
theorem dX7_stood_149 : decode cX7_stood 149 = .ok (.aload_n 0, 1) := by decide +kernel
theorem dX7_stood_150 : decode cX7_stood 150 = .ok (.bipush 7, 2) := by decide +kernel
theorem dX7_stood_152 : decode cX7_stood 152 = .ok (.bipush 8, 2) := by decide +kernel
theorem dX7_stood_154 : decode cX7_stood 154 = .ok (.iload_n 1, 1) := by decide +kernel
theorem dX7_stood_155 : decode cX7_stood 155 = .ok (.iadd, 1) := by decide +kernel
theorem dX7_stood_156 : decode cX7_stood 156 = .ok (.invokevirtual 74, 3) := by decide +kernel
theorem dX7_stood_159 : decode cX7_stood 159 = .ok (.aload_n 0, 1) := by decide +kernel
theorem dX7_stood_160 : decode cX7_stood 160 = .ok (.invokevirtual 301, 3) := by decide +kernel
theorem dX7_stood_163 : decode cX7_stood 163 = .ok (.ireturn, 1) := by decide +kernel
theorem dX7_span_0 : decode cX7_span 0 = .ok (.aload_n 0, 1) := by decide +kernel
theorem dX7_span_1 : decode cX7_span 1 = .ok (.iload_n 1, 1) := by decide +kernel
theorem dX7_span_2 : decode cX7_span 2 = .ok (.invokevirtual 126, 3) := by decide +kernel
theorem dX7_span_5 : decode cX7_span 5 = .ok (.ifCond .eq 13, 3) := by decide +kernel
theorem dX7_span_8 : decode cX7_span 8 = .ok (.iload_n 2, 1) := by decide +kernel
theorem dX7_span_9 : decode cX7_span 9 = .ok (.i2l, 1) := by decide +kernel
theorem dX7_span_10 : decode cX7_span 10 = .ok (.lconst 0, 1) := by decide +kernel
theorem dX7_span_11 : decode cX7_span 11 = .ok (.lconst 1, 1) := by decide +kernel
theorem dX7_span_12 : decode cX7_span 12 = .ok (.invokestatic 102, 3) := by decide +kernel
theorem dX7_span_15 : decode cX7_span 15 = .ok (.ifCond .ne 8, 3) := by decide +kernel
theorem dX7_span_18 : decode cX7_span 18 = .ok (.aload_n 0, 1) := by decide +kernel
theorem dX7_span_19 : decode cX7_span 19 = .ok (.invokevirtual 98, 3) := by decide +kernel
theorem dX7_span_22 : decode cX7_span 22 = .ok (.ireturn, 1) := by decide +kernel
theorem dX7_span_23 : decode cX7_span 23 = .ok (.aload_n 0, 1) := by decide +kernel
theorem dX7_span_24 : decode cX7_span 24 = .ok (.iload_n 1, 1) := by decide +kernel
theorem dX7_span_25 : decode cX7_span 25 = .ok (.iconst 0, 1) := by decide +kernel
theorem dX7_span_26 : decode cX7_span 26 = .ok (.invokevirtual 244, 3) := by decide +kernel
theorem dX7_span_29 : decode cX7_span 29 = .ok (.istore_n 3, 1) := by decide +kernel
theorem dX7_span_30 : decode cX7_span 30 = .ok (.iconst (-1), 1) := by decide +kernel
theorem dX7_span_31 : decode cX7_span 31 = .ok (.istore 4, 2) := by decide +kernel
theorem dX7_span_33 : decode cX7_span 33 = .ok (.iconst 1, 1) := by decide +kernel
theorem dX7_span_34 : decode cX7_span 34 = .ok (.istore 5, 2) := by decide +kernel
theorem dX7_span_36 : decode cX7_span 36 = .ok (.iload 5, 2) := by decide +kernel
theorem dX7_span_38 : decode cX7_span 38 = .ok (.bipush 61, 2) := by decide +kernel
theorem dX7_span_40 : decode cX7_span 40 = .ok (.if_icmp .ge 80, 3) := by decide +kernel
theorem dX7_span_43 : decode cX7_span 43 = .ok (.aload_n 0, 1) := by decide +kernel
theorem dX7_span_44 : decode cX7_span 44 = .ok (.getfield 7, 3) := by decide +kernel
theorem dX7_span_47 : decode cX7_span 47 = .ok (.bipush 40, 2) := by decide +kernel
theorem dX7_span_49 : decode cX7_span 49 = .ok (.iconst 4, 1) := by decide +kernel
theorem dX7_span_50 : decode cX7_span 50 = .ok (.iload_n 1, 1) := by decide +kernel
theorem dX7_span_51 : decode cX7_span 51 = .ok (.imul, 1) := by decide +kernel
theorem dX7_span_52 : decode cX7_span 52 = .ok (.iadd, 1) := by decide +kernel
theorem dX7_span_53 : decode cX7_span 53 = .ok (.iload 5, 2) := by decide +kernel
theorem dX7_span_55 : decode cX7_span 55 = .ok (.iastore, 1) := by decide +kernel
theorem dX7_span_56 : decode cX7_span 56 = .ok (.iconst 1, 1) := by decide +kernel
theorem dX7_span_57 : decode cX7_span 57 = .ok (.istore 6, 2) := by decide +kernel
theorem dX7_span_59 : decode cX7_span 59 = .ok (.iconst 0, 1) := by decide +kernel
theorem dX7_span_60 : decode cX7_span 60 = .ok (.istore 7, 2) := by decide +kernel
theorem dX7_span_62 : decode cX7_span 62 = .ok (.iload 7, 2) := by decide +kernel
theorem dX7_span_64 : decode cX7_span 64 = .ok (.bipush 6, 2) := by decide +kernel
theorem dX7_span_66 : decode cX7_span 66 = .ok (.if_icmp .ge 23, 3) := by decide +kernel
theorem dX7_span_69 : decode cX7_span 69 = .ok (.iload 6, 2) := by decide +kernel
theorem dX7_span_71 : decode cX7_span 71 = .ok (.ifCond .eq 18, 3) := by decide +kernel
theorem dX7_span_74 : decode cX7_span 74 = .ok (.aload_n 0, 1) := by decide +kernel
theorem dX7_span_75 : decode cX7_span 75 = .ok (.iload 7, 2) := by decide +kernel
theorem dX7_span_77 : decode cX7_span 77 = .ok (.iconst 0, 1) := by decide +kernel
theorem dX7_span_78 : decode cX7_span 78 = .ok (.invokevirtual 306, 3) := by decide +kernel
theorem dX7_span_81 : decode cX7_span 81 = .ok (.istore 6, 2) := by decide +kernel
theorem dX7_span_83 : decode cX7_span 83 = .ok (.iinc 7 1, 3) := by decide +kernel
theorem dX7_span_86 : decode cX7_span 86 = .ok (.goto (-24), 3) := by decide +kernel
theorem dX7_span_89 : decode cX7_span 89 = .ok (.iload 6, 2) := by decide +kernel
theorem dX7_span_91 : decode cX7_span 91 = .ok (.ifCond .eq 19, 3) := by decide +kernel
theorem dX7_span_94 : decode cX7_span 94 = .ok (.iload_n 2, 1) := by decide +kernel
theorem dX7_span_95 : decode cX7_span 95 = .ok (.iconst 1, 1) := by decide +kernel
theorem dX7_span_96 : decode cX7_span 96 = .ok (.if_icmp .eq 9, 3) := by decide +kernel
theorem dX7_span_99 : decode cX7_span 99 = .ok (.iload 4, 2) := by decide +kernel
theorem dX7_span_101 : decode cX7_span 101 = .ok (.iconst (-1), 1) := by decide +kernel
theorem dX7_span_102 : decode cX7_span 102 = .ok (.if_icmp .ne 8, 3) := by decide +kernel
theorem dX7_span_105 : decode cX7_span 105 = .ok (.iload 5, 2) := by decide +kernel
theorem dX7_span_107 : decode cX7_span 107 = .ok (.goto 5, 3) := by decide +kernel
theorem dX7_span_110 : decode cX7_span 110 = .ok (.iload 4, 2) := by decide +kernel
theorem dX7_span_112 : decode cX7_span 112 = .ok (.istore 4, 2) := by decide +kernel
theorem dX7_span_114 : decode cX7_span 114 = .ok (.iinc 5 1, 3) := by decide +kernel
theorem dX7_span_117 : decode cX7_span 117 = .ok (.goto (-81), 3) := by decide +kernel
theorem dX7_span_120 : decode cX7_span 120 = .ok (.aload_n 0, 1) := by decide +kernel
theorem dX7_span_121 : decode cX7_span 121 = .ok (.getfield 7, 3) := by decide +kernel
theorem dX7_span_124 : decode cX7_span 124 = .ok (.bipush 40, 2) := by decide +kernel
theorem dX7_span_126 : decode cX7_span 126 = .ok (.iconst 4, 1) := by decide +kernel
theorem dX7_span_127 : decode cX7_span 127 = .ok (.iload_n 1, 1) := by decide +kernel
theorem dX7_span_128 : decode cX7_span 128 = .ok (.imul, 1) := by decide +kernel
theorem dX7_span_129 : decode cX7_span 129 = .ok (.iadd, 1) := by decide +kernel
theorem dX7_span_130 : decode cX7_span 130 = .ok (.iload_n 3, 1) := by decide +kernel
theorem dX7_span_131 : decode cX7_span 131 = .ok (.iastore, 1) := by decide +kernel
theorem dX7_span_132 : decode cX7_span 132 = .ok (.iload 4, 2) := by decide +kernel
theorem dX7_span_134 : decode cX7_span 134 = .ok (.ireturn, 1) := by decide +kernel
theorem dX7_sizeOf_0 : decode cX7_sizeOf 0 = .ok (.iconst 0, 1) := by decide +kernel
theorem dX7_sizeOf_1 : decode cX7_sizeOf 1 = .ok (.istore_n 1, 1) := by decide +kernel
theorem dX7_sizeOf_2 : decode cX7_sizeOf 2 = .ok (.iload_n 0, 1) := by decide +kernel
theorem dX7_sizeOf_3 : decode cX7_sizeOf 3 = .ok (.istore_n 2, 1) := by decide +kernel
theorem dX7_sizeOf_4 : decode cX7_sizeOf 4 = .ok (.iload_n 2, 1) := by decide +kernel
theorem dX7_sizeOf_5 : decode cX7_sizeOf 5 = .ok (.ifCond .le 16, 3) := by decide +kernel
theorem dX7_sizeOf_8 : decode cX7_sizeOf 8 = .ok (.iload_n 1, 1) := by decide +kernel
theorem dX7_sizeOf_9 : decode cX7_sizeOf 9 = .ok (.iload_n 2, 1) := by decide +kernel
theorem dX7_sizeOf_10 : decode cX7_sizeOf 10 = .ok (.iconst 1, 1) := by decide +kernel
theorem dX7_sizeOf_11 : decode cX7_sizeOf 11 = .ok (.iand, 1) := by decide +kernel
theorem dX7_sizeOf_12 : decode cX7_sizeOf 12 = .ok (.iadd, 1) := by decide +kernel
theorem dX7_sizeOf_13 : decode cX7_sizeOf 13 = .ok (.istore_n 1, 1) := by decide +kernel
theorem dX7_sizeOf_14 : decode cX7_sizeOf 14 = .ok (.iload_n 2, 1) := by decide +kernel
theorem dX7_sizeOf_15 : decode cX7_sizeOf 15 = .ok (.iconst 1, 1) := by decide +kernel
theorem dX7_sizeOf_16 : decode cX7_sizeOf 16 = .ok (.ishr, 1) := by decide +kernel
theorem dX7_sizeOf_17 : decode cX7_sizeOf 17 = .ok (.istore_n 2, 1) := by decide +kernel
theorem dX7_sizeOf_18 : decode cX7_sizeOf 18 = .ok (.goto (-14), 3) := by decide +kernel
theorem dX7_sizeOf_21 : decode cX7_sizeOf 21 = .ok (.iload_n 1, 1) := by decide +kernel
theorem dX7_sizeOf_22 : decode cX7_sizeOf 22 = .ok (.ireturn, 1) := by decide +kernel
theorem dX7_tracesOf_0 : decode cX7_tracesOf 0 = .ok (.iconst 0, 1) := by decide +kernel
theorem dX7_tracesOf_1 : decode cX7_tracesOf 1 = .ok (.istore_n 2, 1) := by decide +kernel
theorem dX7_tracesOf_2 : decode cX7_tracesOf 2 = .ok (.iconst 0, 1) := by decide +kernel
theorem dX7_tracesOf_3 : decode cX7_tracesOf 3 = .ok (.istore_n 3, 1) := by decide +kernel
theorem dX7_tracesOf_4 : decode cX7_tracesOf 4 = .ok (.iload_n 3, 1) := by decide +kernel
theorem dX7_tracesOf_5 : decode cX7_tracesOf 5 = .ok (.aload_n 0, 1) := by decide +kernel
theorem dX7_tracesOf_6 : decode cX7_tracesOf 6 = .ok (.getfield 7, 3) := by decide +kernel
theorem dX7_tracesOf_9 : decode cX7_tracesOf 9 = .ok (.iconst 1, 1) := by decide +kernel
theorem dX7_tracesOf_10 : decode cX7_tracesOf 10 = .ok (.iaload, 1) := by decide +kernel
theorem dX7_tracesOf_11 : decode cX7_tracesOf 11 = .ok (.if_icmp .ge 41, 3) := by decide +kernel
theorem dX7_tracesOf_14 : decode cX7_tracesOf 14 = .ok (.iload_n 2, 1) := by decide +kernel
theorem dX7_tracesOf_15 : decode cX7_tracesOf 15 = .ok (.aload_n 0, 1) := by decide +kernel
theorem dX7_tracesOf_16 : decode cX7_tracesOf 16 = .ok (.iload_n 3, 1) := by decide +kernel
theorem dX7_tracesOf_17 : decode cX7_tracesOf 17 = .ok (.iconst 0, 1) := by decide +kernel
theorem dX7_tracesOf_18 : decode cX7_tracesOf 18 = .ok (.invokevirtual 138, 3) := by decide +kernel
theorem dX7_tracesOf_21 : decode cX7_tracesOf 21 = .ok (.bipush 8, 2) := by decide +kernel
theorem dX7_tracesOf_23 : decode cX7_tracesOf 23 = .ok (.idiv, 1) := by decide +kernel
theorem dX7_tracesOf_24 : decode cX7_tracesOf 24 = .ok (.iload_n 1, 1) := by decide +kernel
theorem dX7_tracesOf_25 : decode cX7_tracesOf 25 = .ok (.if_icmp .ne 18, 3) := by decide +kernel
theorem dX7_tracesOf_28 : decode cX7_tracesOf 28 = .ok (.aload_n 0, 1) := by decide +kernel
theorem dX7_tracesOf_29 : decode cX7_tracesOf 29 = .ok (.iload_n 3, 1) := by decide +kernel
theorem dX7_tracesOf_30 : decode cX7_tracesOf 30 = .ok (.iconst 3, 1) := by decide +kernel
theorem dX7_tracesOf_31 : decode cX7_tracesOf 31 = .ok (.invokevirtual 138, 3) := by decide +kernel
theorem dX7_tracesOf_34 : decode cX7_tracesOf 34 = .ok (.ifCond .ne 9, 3) := by decide +kernel
theorem dX7_tracesOf_37 : decode cX7_tracesOf 37 = .ok (.iconst 1, 1) := by decide +kernel
theorem dX7_tracesOf_38 : decode cX7_tracesOf 38 = .ok (.iload_n 3, 1) := by decide +kernel
theorem dX7_tracesOf_39 : decode cX7_tracesOf 39 = .ok (.ishl, 1) := by decide +kernel
theorem dX7_tracesOf_40 : decode cX7_tracesOf 40 = .ok (.goto 4, 3) := by decide +kernel
theorem dX7_tracesOf_43 : decode cX7_tracesOf 43 = .ok (.iconst 0, 1) := by decide +kernel
theorem dX7_tracesOf_44 : decode cX7_tracesOf 44 = .ok (.ior, 1) := by decide +kernel
theorem dX7_tracesOf_45 : decode cX7_tracesOf 45 = .ok (.istore_n 2, 1) := by decide +kernel
theorem dX7_tracesOf_46 : decode cX7_tracesOf 46 = .ok (.iinc 3 1, 3) := by decide +kernel
theorem dX7_tracesOf_49 : decode cX7_tracesOf 49 = .ok (.goto (-45), 3) := by decide +kernel
theorem dX7_tracesOf_52 : decode cX7_tracesOf 52 = .ok (.iload_n 2, 1) := by decide +kernel
theorem dX7_tracesOf_53 : decode cX7_tracesOf 53 = .ok (.ireturn, 1) := by decide +kernel
theorem dX7_later_0 : decode cX7_later 0 = .ok (.iload_n 1, 1) := by decide +kernel
theorem dX7_later_1 : decode cX7_later 1 = .ok (.i2l, 1) := by decide +kernel
theorem dX7_later_2 : decode cX7_later 2 = .ok (.lconst 0, 1) := by decide +kernel
theorem dX7_later_3 : decode cX7_later 3 = .ok (.ldc2_w 119, 3) := by decide +kernel
theorem dX7_later_6 : decode cX7_later 6 = .ok (.invokestatic 102, 3) := by decide +kernel
theorem dX7_later_9 : decode cX7_later 9 = .ok (.ifCond .ne 8, 3) := by decide +kernel
theorem dX7_later_12 : decode cX7_later 12 = .ok (.aload_n 0, 1) := by decide +kernel
theorem dX7_later_13 : decode cX7_later 13 = .ok (.invokevirtual 98, 3) := by decide +kernel
theorem dX7_later_16 : decode cX7_later 16 = .ok (.ireturn, 1) := by decide +kernel
theorem dX7_later_17 : decode cX7_later 17 = .ok (.aload_n 0, 1) := by decide +kernel
theorem dX7_later_18 : decode cX7_later 18 = .ok (.iload_n 1, 1) := by decide +kernel
theorem dX7_later_19 : decode cX7_later 19 = .ok (.iconst 0, 1) := by decide +kernel
theorem dX7_later_20 : decode cX7_later 20 = .ok (.invokevirtual 306, 3) := by decide +kernel
theorem dX7_later_23 : decode cX7_later 23 = .ok (.ifCond .eq 5, 3) := by decide +kernel
theorem dX7_later_26 : decode cX7_later 26 = .ok (.iconst 0, 1) := by decide +kernel
theorem dX7_later_27 : decode cX7_later 27 = .ok (.ireturn, 1) := by decide +kernel
theorem dX7_later_28 : decode cX7_later 28 = .ok (.aload_n 0, 1) := by decide +kernel
theorem dX7_later_29 : decode cX7_later 29 = .ok (.iload_n 1, 1) := by decide +kernel
theorem dX7_later_30 : decode cX7_later 30 = .ok (.invokevirtual 309, 3) := by decide +kernel
theorem dX7_later_33 : decode cX7_later 33 = .ok (.istore_n 2, 1) := by decide +kernel
theorem dX7_later_34 : decode cX7_later 34 = .ok (.iconst 1, 1) := by decide +kernel
theorem dX7_later_35 : decode cX7_later 35 = .ok (.istore_n 3, 1) := by decide +kernel
theorem dX7_later_36 : decode cX7_later 36 = .ok (.iload_n 3, 1) := by decide +kernel
theorem dX7_later_37 : decode cX7_later 37 = .ok (.iconst 4, 1) := by decide +kernel
theorem dX7_later_38 : decode cX7_later 38 = .ok (.if_icmp .ge 152, 3) := by decide +kernel
theorem dX7_later_41 : decode cX7_later 41 = .ok (.ldc_w 312, 3) := by decide +kernel
theorem dX7_later_44 : decode cX7_later 44 = .ok (.istore 4, 2) := by decide +kernel
theorem dX7_later_46 : decode cX7_later 46 = .ok (.iconst 0, 1) := by decide +kernel
theorem dX7_later_47 : decode cX7_later 47 = .ok (.istore 5, 2) := by decide +kernel
theorem dX7_later_49 : decode cX7_later 49 = .ok (.iconst 0, 1) := by decide +kernel
theorem dX7_later_50 : decode cX7_later 50 = .ok (.istore 6, 2) := by decide +kernel
theorem dX7_later_52 : decode cX7_later 52 = .ok (.iload 6, 2) := by decide +kernel
theorem dX7_later_54 : decode cX7_later 54 = .ok (.aload_n 0, 1) := by decide +kernel
theorem dX7_later_55 : decode cX7_later 55 = .ok (.getfield 7, 3) := by decide +kernel
theorem dX7_later_58 : decode cX7_later 58 = .ok (.iconst 1, 1) := by decide +kernel
theorem dX7_later_59 : decode cX7_later 59 = .ok (.iaload, 1) := by decide +kernel
theorem dX7_later_60 : decode cX7_later 60 = .ok (.if_icmp .ge 116, 3) := by decide +kernel
theorem dX7_later_63 : decode cX7_later 63 = .ok (.iconst 0, 1) := by decide +kernel
theorem dX7_later_64 : decode cX7_later 64 = .ok (.istore 7, 2) := by decide +kernel
theorem dX7_later_66 : decode cX7_later 66 = .ok (.iload 7, 2) := by decide +kernel
theorem dX7_later_68 : decode cX7_later 68 = .ok (.iload 6, 2) := by decide +kernel
theorem dX7_later_70 : decode cX7_later 70 = .ok (.if_icmp .gt 100, 3) := by decide +kernel
theorem dX7_later_73 : decode cX7_later 73 = .ok (.iconst 0, 1) := by decide +kernel
theorem dX7_later_74 : decode cX7_later 74 = .ok (.istore 8, 2) := by decide +kernel
theorem dX7_later_76 : decode cX7_later 76 = .ok (.iload 8, 2) := by decide +kernel
theorem dX7_later_78 : decode cX7_later 78 = .ok (.iload 7, 2) := by decide +kernel
theorem dX7_later_80 : decode cX7_later 80 = .ok (.if_icmp .gt 84, 3) := by decide +kernel
theorem dX7_later_83 : decode cX7_later 83 = .ok (.iconst 1, 1) := by decide +kernel
theorem dX7_later_84 : decode cX7_later 84 = .ok (.iload 6, 2) := by decide +kernel
theorem dX7_later_86 : decode cX7_later 86 = .ok (.ishl, 1) := by decide +kernel
theorem dX7_later_87 : decode cX7_later 87 = .ok (.iconst 1, 1) := by decide +kernel
theorem dX7_later_88 : decode cX7_later 88 = .ok (.iload 7, 2) := by decide +kernel
theorem dX7_later_90 : decode cX7_later 90 = .ok (.ishl, 1) := by decide +kernel
theorem dX7_later_91 : decode cX7_later 91 = .ok (.ior, 1) := by decide +kernel
theorem dX7_later_92 : decode cX7_later 92 = .ok (.iconst 1, 1) := by decide +kernel
theorem dX7_later_93 : decode cX7_later 93 = .ok (.iload 8, 2) := by decide +kernel
theorem dX7_later_95 : decode cX7_later 95 = .ok (.ishl, 1) := by decide +kernel
theorem dX7_later_96 : decode cX7_later 96 = .ok (.ior, 1) := by decide +kernel
theorem dX7_later_97 : decode cX7_later 97 = .ok (.istore 9, 2) := by decide +kernel
theorem dX7_later_99 : decode cX7_later 99 = .ok (.iload 9, 2) := by decide +kernel
theorem dX7_later_101 : decode cX7_later 101 = .ok (.invokestatic 313, 3) := by decide +kernel
theorem dX7_later_104 : decode cX7_later 104 = .ok (.iload_n 3, 1) := by decide +kernel
theorem dX7_later_105 : decode cX7_later 105 = .ok (.if_icmp .ne 28, 3) := by decide +kernel
theorem dX7_later_108 : decode cX7_later 108 = .ok (.iload 9, 2) := by decide +kernel
theorem dX7_later_110 : decode cX7_later 110 = .ok (.iload_n 2, 1) := by decide +kernel
theorem dX7_later_111 : decode cX7_later 111 = .ok (.iconst (-1), 1) := by decide +kernel
theorem dX7_later_112 : decode cX7_later 112 = .ok (.ixor, 1) := by decide +kernel
theorem dX7_later_113 : decode cX7_later 113 = .ok (.iand, 1) := by decide +kernel
theorem dX7_later_114 : decode cX7_later 114 = .ok (.ifCond .ne 19, 3) := by decide +kernel
theorem dX7_later_117 : decode cX7_later 117 = .ok (.iload 5, 2) := by decide +kernel
theorem dX7_later_119 : decode cX7_later 119 = .ok (.ifCond .eq 10, 3) := by decide +kernel
theorem dX7_later_122 : decode cX7_later 122 = .ok (.iload 9, 2) := by decide +kernel
theorem dX7_later_124 : decode cX7_later 124 = .ok (.iload 4, 2) := by decide +kernel
theorem dX7_later_126 : decode cX7_later 126 = .ok (.if_icmp .ge 7, 3) := by decide +kernel
theorem dX7_later_129 : decode cX7_later 129 = .ok (.iconst 1, 1) := by decide +kernel
theorem dX7_later_130 : decode cX7_later 130 = .ok (.goto 4, 3) := by decide +kernel
theorem dX7_later_133 : decode cX7_later 133 = .ok (.iconst 0, 1) := by decide +kernel
theorem dX7_later_134 : decode cX7_later 134 = .ok (.istore 10, 2) := by decide +kernel
theorem dX7_later_136 : decode cX7_later 136 = .ok (.iload 10, 2) := by decide +kernel
theorem dX7_later_138 : decode cX7_later 138 = .ok (.ifCond .eq 20, 3) := by decide +kernel
theorem dX7_later_141 : decode cX7_later 141 = .ok (.aload_n 0, 1) := by decide +kernel
theorem dX7_later_142 : decode cX7_later 142 = .ok (.iload_n 1, 1) := by decide +kernel
theorem dX7_later_143 : decode cX7_later 143 = .ok (.iload 9, 2) := by decide +kernel
theorem dX7_later_145 : decode cX7_later 145 = .ok (.invokevirtual 306, 3) := by decide +kernel
theorem dX7_later_148 : decode cX7_later 148 = .ok (.ifCond .eq 10, 3) := by decide +kernel
theorem dX7_later_151 : decode cX7_later 151 = .ok (.iload 9, 2) := by decide +kernel
theorem dX7_later_153 : decode cX7_later 153 = .ok (.istore 4, 2) := by decide +kernel
theorem dX7_later_155 : decode cX7_later 155 = .ok (.iconst 1, 1) := by decide +kernel
theorem dX7_later_156 : decode cX7_later 156 = .ok (.istore 5, 2) := by decide +kernel
theorem dX7_later_158 : decode cX7_later 158 = .ok (.iinc 8 1, 3) := by decide +kernel
theorem dX7_later_161 : decode cX7_later 161 = .ok (.goto (-85), 3) := by decide +kernel
theorem dX7_later_164 : decode cX7_later 164 = .ok (.iinc 7 1, 3) := by decide +kernel
theorem dX7_later_167 : decode cX7_later 167 = .ok (.goto (-101), 3) := by decide +kernel
theorem dX7_later_170 : decode cX7_later 170 = .ok (.iinc 6 1, 3) := by decide +kernel
theorem dX7_later_173 : decode cX7_later 173 = .ok (.goto (-121), 3) := by decide +kernel
theorem dX7_later_176 : decode cX7_later 176 = .ok (.iload 5, 2) := by decide +kernel
theorem dX7_later_178 : decode cX7_later 178 = .ok (.ifCond .eq 6, 3) := by decide +kernel
theorem dX7_later_181 : decode cX7_later 181 = .ok (.iload 4, 2) := by decide +kernel
theorem dX7_later_183 : decode cX7_later 183 = .ok (.ireturn, 1) := by decide +kernel
theorem dX7_later_184 : decode cX7_later 184 = .ok (.iinc 3 1, 3) := by decide +kernel
theorem dX7_later_187 : decode cX7_later 187 = .ok (.goto (-151), 3) := by decide +kernel
theorem dX7_later_190 : decode cX7_later 190 = .ok (.bipush (-5), 2) := by decide +kernel
theorem dX7_later_192 : decode cX7_later 192 = .ok (.ireturn, 1) := by decide +kernel
theorem dX7_next_0 : decode cX7_next 0 = .ok (.iconst (-1), 1) := by decide +kernel
theorem dX7_next_1 : decode cX7_next 1 = .ok (.istore_n 1, 1) := by decide +kernel
theorem dX7_next_2 : decode cX7_next 2 = .ok (.iconst 0, 1) := by decide +kernel
theorem dX7_next_3 : decode cX7_next 3 = .ok (.istore_n 2, 1) := by decide +kernel
theorem dX7_next_4 : decode cX7_next 4 = .ok (.iload_n 2, 1) := by decide +kernel
theorem dX7_next_5 : decode cX7_next 5 = .ok (.bipush 6, 2) := by decide +kernel
theorem dX7_next_7 : decode cX7_next 7 = .ok (.if_icmp .ge 237, 3) := by decide +kernel
theorem dX7_next_10 : decode cX7_next 10 = .ok (.aload_n 0, 1) := by decide +kernel
theorem dX7_next_11 : decode cX7_next 11 = .ok (.iload_n 2, 1) := by decide +kernel
theorem dX7_next_12 : decode cX7_next 12 = .ok (.invokevirtual 295, 3) := by decide +kernel
theorem dX7_next_15 : decode cX7_next 15 = .ok (.ifCond .eq 223, 3) := by decide +kernel
theorem dX7_next_18 : decode cX7_next 18 = .ok (.iconst 0, 1) := by decide +kernel
theorem dX7_next_19 : decode cX7_next 19 = .ok (.istore_n 3, 1) := by decide +kernel
theorem dX7_next_20 : decode cX7_next 20 = .ok (.iload_n 3, 1) := by decide +kernel
theorem dX7_next_21 : decode cX7_next 21 = .ok (.bipush 32, 2) := by decide +kernel
theorem dX7_next_23 : decode cX7_next 23 = .ok (.if_icmp .ge 215, 3) := by decide +kernel
theorem dX7_next_26 : decode cX7_next 26 = .ok (.bipush 8, 2) := by decide +kernel
theorem dX7_next_28 : decode cX7_next 28 = .ok (.iload_n 2, 1) := by decide +kernel
theorem dX7_next_29 : decode cX7_next 29 = .ok (.imul, 1) := by decide +kernel
theorem dX7_next_30 : decode cX7_next 30 = .ok (.iload_n 3, 1) := by decide +kernel
theorem dX7_next_31 : decode cX7_next 31 = .ok (.iconst 4, 1) := by decide +kernel
theorem dX7_next_32 : decode cX7_next 32 = .ok (.idiv, 1) := by decide +kernel
theorem dX7_next_33 : decode cX7_next 33 = .ok (.iadd, 1) := by decide +kernel
theorem dX7_next_34 : decode cX7_next 34 = .ok (.istore 4, 2) := by decide +kernel
theorem dX7_next_36 : decode cX7_next 36 = .ok (.aload_n 0, 1) := by decide +kernel
theorem dX7_next_37 : decode cX7_next 37 = .ok (.bipush 7, 2) := by decide +kernel
theorem dX7_next_39 : decode cX7_next 39 = .ok (.lconst 0, 1) := by decide +kernel
theorem dX7_next_40 : decode cX7_next 40 = .ok (.invokevirtual 56, 3) := by decide +kernel
theorem dX7_next_43 : decode cX7_next 43 = .ok (.iconst 0, 1) := by decide +kernel
theorem dX7_next_44 : decode cX7_next 44 = .ok (.istore 5, 2) := by decide +kernel
theorem dX7_next_46 : decode cX7_next 46 = .ok (.iload 5, 2) := by decide +kernel
theorem dX7_next_48 : decode cX7_next 48 = .ok (.bipush 21, 2) := by decide +kernel
theorem dX7_next_50 : decode cX7_next 50 = .ok (.if_icmp .ge 41, 3) := by decide +kernel
theorem dX7_next_53 : decode cX7_next 53 = .ok (.aload_n 0, 1) := by decide +kernel
theorem dX7_next_54 : decode cX7_next 54 = .ok (.iload 5, 2) := by decide +kernel
theorem dX7_next_56 : decode cX7_next 56 = .ok (.invokevirtual 259, 3) := by decide +kernel
theorem dX7_next_59 : decode cX7_next 59 = .ok (.ifCond .eq 26, 3) := by decide +kernel
theorem dX7_next_62 : decode cX7_next 62 = .ok (.aload_n 0, 1) := by decide +kernel
theorem dX7_next_63 : decode cX7_next 63 = .ok (.iload 4, 2) := by decide +kernel
theorem dX7_next_65 : decode cX7_next 65 = .ok (.iload 5, 2) := by decide +kernel
theorem dX7_next_67 : decode cX7_next 67 = .ok (.iload_n 3, 1) := by decide +kernel
theorem dX7_next_68 : decode cX7_next 68 = .ok (.iconst 4, 1) := by decide +kernel
theorem dX7_next_69 : decode cX7_next 69 = .ok (.irem, 1) := by decide +kernel
theorem dX7_next_70 : decode cX7_next 70 = .ok (.invokevirtual 256, 3) := by decide +kernel
theorem dX7_next_73 : decode cX7_next 73 = .ok (.ifCond .eq 12, 3) := by decide +kernel
theorem dX7_next_76 : decode cX7_next 76 = .ok (.aload_n 0, 1) := by decide +kernel
theorem dX7_next_77 : decode cX7_next 77 = .ok (.iload_n 3, 1) := by decide +kernel
theorem dX7_next_78 : decode cX7_next 78 = .ok (.iconst 4, 1) := by decide +kernel
theorem dX7_next_79 : decode cX7_next 79 = .ok (.idiv, 1) := by decide +kernel
theorem dX7_next_80 : decode cX7_next 80 = .ok (.iload 5, 2) := by decide +kernel
theorem dX7_next_82 : decode cX7_next 82 = .ok (.invokevirtual 298, 3) := by decide +kernel
theorem dX7_next_85 : decode cX7_next 85 = .ok (.iinc 5 1, 3) := by decide +kernel
theorem dX7_next_88 : decode cX7_next 88 = .ok (.goto (-42), 3) := by decide +kernel
theorem dX7_next_91 : decode cX7_next 91 = .ok (.aload_n 0, 1) := by decide +kernel
theorem dX7_next_92 : decode cX7_next 92 = .ok (.bipush 7, 2) := by decide +kernel
theorem dX7_next_94 : decode cX7_next 94 = .ok (.iconst 2, 1) := by decide +kernel
theorem dX7_next_95 : decode cX7_next 95 = .ok (.invokevirtual 279, 3) := by decide +kernel
theorem dX7_next_98 : decode cX7_next 98 = .ok (.aload_n 0, 1) := by decide +kernel
theorem dX7_next_99 : decode cX7_next 99 = .ok (.bipush 14, 2) := by decide +kernel
theorem dX7_next_101 : decode cX7_next 101 = .ok (.aload_n 0, 1) := by decide +kernel
theorem dX7_next_102 : decode cX7_next 102 = .ok (.bipush 7, 2) := by decide +kernel
theorem dX7_next_104 : decode cX7_next 104 = .ok (.iconst 5, 1) := by decide +kernel
theorem dX7_next_105 : decode cX7_next 105 = .ok (.invokevirtual 86, 3) := by decide +kernel
theorem dX7_next_108 : decode cX7_next 108 = .ok (.ifCond .ge 7, 3) := by decide +kernel
theorem dX7_next_111 : decode cX7_next 111 = .ok (.iconst 5, 1) := by decide +kernel
theorem dX7_next_112 : decode cX7_next 112 = .ok (.goto 5, 3) := by decide +kernel
theorem dX7_next_115 : decode cX7_next 115 = .ok (.bipush 7, 2) := by decide +kernel
theorem dX7_next_117 : decode cX7_next 117 = .ok (.invokevirtual 74, 3) := by decide +kernel
theorem dX7_next_120 : decode cX7_next 120 = .ok (.aload_n 0, 1) := by decide +kernel
theorem dX7_next_121 : decode cX7_next 121 = .ok (.bipush 14, 2) := by decide +kernel
theorem dX7_next_123 : decode cX7_next 123 = .ok (.aload_n 0, 1) := by decide +kernel
theorem dX7_next_124 : decode cX7_next 124 = .ok (.bipush 7, 2) := by decide +kernel
theorem dX7_next_126 : decode cX7_next 126 = .ok (.iconst 5, 1) := by decide +kernel
theorem dX7_next_127 : decode cX7_next 127 = .ok (.invokevirtual 86, 3) := by decide +kernel
theorem dX7_next_130 : decode cX7_next 130 = .ok (.ifCond .ge 8, 3) := by decide +kernel
theorem dX7_next_133 : decode cX7_next 133 = .ok (.bipush 7, 2) := by decide +kernel
theorem dX7_next_135 : decode cX7_next 135 = .ok (.goto 4, 3) := by decide +kernel
theorem dX7_next_138 : decode cX7_next 138 = .ok (.iconst 5, 1) := by decide +kernel
theorem dX7_next_139 : decode cX7_next 139 = .ok (.invokevirtual 89, 3) := by decide +kernel
theorem dX7_next_142 : decode cX7_next 142 = .ok (.iload_n 1, 1) := by decide +kernel
theorem dX7_next_143 : decode cX7_next 143 = .ok (.iconst (-1), 1) := by decide +kernel
theorem dX7_next_144 : decode cX7_next 144 = .ok (.if_icmp .ne 7, 3) := by decide +kernel
theorem dX7_next_147 : decode cX7_next 147 = .ok (.iconst 1, 1) := by decide +kernel
theorem dX7_next_148 : decode cX7_next 148 = .ok (.goto 4, 3) := by decide +kernel
theorem dX7_next_151 : decode cX7_next 151 = .ok (.iconst 0, 1) := by decide +kernel
theorem dX7_next_152 : decode cX7_next 152 = .ok (.istore 5, 2) := by decide +kernel
theorem dX7_next_154 : decode cX7_next 154 = .ok (.iload 5, 2) := by decide +kernel
theorem dX7_next_156 : decode cX7_next 156 = .ok (.ifCond .ne 46, 3) := by decide +kernel
theorem dX7_next_159 : decode cX7_next 159 = .ok (.aload_n 0, 1) := by decide +kernel
theorem dX7_next_160 : decode cX7_next 160 = .ok (.iconst 2, 1) := by decide +kernel
theorem dX7_next_161 : decode cX7_next 161 = .ok (.bipush 14, 2) := by decide +kernel
theorem dX7_next_163 : decode cX7_next 163 = .ok (.invokevirtual 74, 3) := by decide +kernel
theorem dX7_next_166 : decode cX7_next 166 = .ok (.aload_n 0, 1) := by decide +kernel
theorem dX7_next_167 : decode cX7_next 167 = .ok (.iconst 2, 1) := by decide +kernel
theorem dX7_next_168 : decode cX7_next 168 = .ok (.bipush 13, 2) := by decide +kernel
theorem dX7_next_170 : decode cX7_next 170 = .ok (.invokevirtual 292, 3) := by decide +kernel
theorem dX7_next_173 : decode cX7_next 173 = .ok (.aload_n 0, 1) := by decide +kernel
theorem dX7_next_174 : decode cX7_next 174 = .ok (.iconst 3, 1) := by decide +kernel
theorem dX7_next_175 : decode cX7_next 175 = .ok (.bipush 12, 2) := by decide +kernel
theorem dX7_next_177 : decode cX7_next 177 = .ok (.invokevirtual 74, 3) := by decide +kernel
theorem dX7_next_180 : decode cX7_next 180 = .ok (.aload_n 0, 1) := by decide +kernel
theorem dX7_next_181 : decode cX7_next 181 = .ok (.iconst 3, 1) := by decide +kernel
theorem dX7_next_182 : decode cX7_next 182 = .ok (.iconst 5, 1) := by decide +kernel
theorem dX7_next_183 : decode cX7_next 183 = .ok (.invokevirtual 292, 3) := by decide +kernel
theorem dX7_next_186 : decode cX7_next 186 = .ok (.aload_n 0, 1) := by decide +kernel
theorem dX7_next_187 : decode cX7_next 187 = .ok (.iconst 2, 1) := by decide +kernel
theorem dX7_next_188 : decode cX7_next 188 = .ok (.iconst 3, 1) := by decide +kernel
theorem dX7_next_189 : decode cX7_next 189 = .ok (.invokevirtual 86, 3) := by decide +kernel
theorem dX7_next_192 : decode cX7_next 192 = .ok (.ifCond .ge 7, 3) := by decide +kernel
theorem dX7_next_195 : decode cX7_next 195 = .ok (.iconst 1, 1) := by decide +kernel
theorem dX7_next_196 : decode cX7_next 196 = .ok (.goto 4, 3) := by decide +kernel
theorem dX7_next_199 : decode cX7_next 199 = .ok (.iconst 0, 1) := by decide +kernel
theorem dX7_next_200 : decode cX7_next 200 = .ok (.istore 5, 2) := by decide +kernel
theorem dX7_next_202 : decode cX7_next 202 = .ok (.iload 5, 2) := by decide +kernel
theorem dX7_next_204 : decode cX7_next 204 = .ok (.ifCond .eq 28, 3) := by decide +kernel
theorem dX7_next_207 : decode cX7_next 207 = .ok (.bipush 10, 2) := by decide +kernel
theorem dX7_next_209 : decode cX7_next 209 = .ok (.iload 4, 2) := by decide +kernel
theorem dX7_next_211 : decode cX7_next 211 = .ok (.imul, 1) := by decide +kernel
theorem dX7_next_212 : decode cX7_next 212 = .ok (.iload_n 3, 1) := by decide +kernel
theorem dX7_next_213 : decode cX7_next 213 = .ok (.iconst 4, 1) := by decide +kernel
theorem dX7_next_214 : decode cX7_next 214 = .ok (.irem, 1) := by decide +kernel
theorem dX7_next_215 : decode cX7_next 215 = .ok (.iadd, 1) := by decide +kernel
theorem dX7_next_216 : decode cX7_next 216 = .ok (.istore_n 1, 1) := by decide +kernel
theorem dX7_next_217 : decode cX7_next 217 = .ok (.aload_n 0, 1) := by decide +kernel
theorem dX7_next_218 : decode cX7_next 218 = .ok (.bipush 12, 2) := by decide +kernel
theorem dX7_next_220 : decode cX7_next 220 = .ok (.bipush 14, 2) := by decide +kernel
theorem dX7_next_222 : decode cX7_next 222 = .ok (.invokevirtual 74, 3) := by decide +kernel
theorem dX7_next_225 : decode cX7_next 225 = .ok (.aload_n 0, 1) := by decide +kernel
theorem dX7_next_226 : decode cX7_next 226 = .ok (.bipush 13, 2) := by decide +kernel
theorem dX7_next_228 : decode cX7_next 228 = .ok (.iconst 5, 1) := by decide +kernel
theorem dX7_next_229 : decode cX7_next 229 = .ok (.invokevirtual 74, 3) := by decide +kernel
theorem dX7_next_232 : decode cX7_next 232 = .ok (.iinc 3 1, 3) := by decide +kernel
theorem dX7_next_235 : decode cX7_next 235 = .ok (.goto (-215), 3) := by decide +kernel
theorem dX7_next_238 : decode cX7_next 238 = .ok (.iinc 2 1, 3) := by decide +kernel
theorem dX7_next_241 : decode cX7_next 241 = .ok (.goto (-237), 3) := by decide +kernel
theorem dX7_next_244 : decode cX7_next 244 = .ok (.iload_n 1, 1) := by decide +kernel
theorem dX7_next_245 : decode cX7_next 245 = .ok (.iconst (-1), 1) := by decide +kernel
theorem dX7_next_246 : decode cX7_next 246 = .ok (.if_icmp .ne 10, 3) := by decide +kernel
theorem dX7_next_249 : decode cX7_next 249 = .ok (.aload_n 0, 1) := by decide +kernel
theorem dX7_next_250 : decode cX7_next 250 = .ok (.invokevirtual 141, 3) := by decide +kernel
theorem dX7_next_253 : decode cX7_next 253 = .ok (.goto 4, 3) := by decide +kernel
theorem dX7_next_256 : decode cX7_next 256 = .ok (.iload_n 1, 1) := by decide +kernel
theorem dX7_next_257 : decode cX7_next 257 = .ok (.ireturn, 1) := by decide +kernel
theorem dX7_topOf_0 : decode cX7_topOf 0 = .ok (.iload_n 0, 1) := by decide +kernel
theorem dX7_topOf_1 : decode cX7_topOf 1 = .ok (.iconst 5, 1) := by decide +kernel
theorem dX7_topOf_2 : decode cX7_topOf 2 = .ok (.if_icmp .ge 10, 3) := by decide +kernel
theorem dX7_topOf_5 : decode cX7_topOf 5 = .ok (.iload_n 0, 1) := by decide +kernel
theorem dX7_topOf_6 : decode cX7_topOf 6 = .ok (.invokestatic 238, 3) := by decide +kernel
theorem dX7_topOf_9 : decode cX7_topOf 9 = .ok (.goto 7, 3) := by decide +kernel
theorem dX7_topOf_12 : decode cX7_topOf 12 = .ok (.iload_n 0, 1) := by decide +kernel
theorem dX7_topOf_13 : decode cX7_topOf 13 = .ok (.invokestatic 241, 3) := by decide +kernel
theorem dX7_topOf_16 : decode cX7_topOf 16 = .ok (.ireturn, 1) := by decide +kernel
theorem dX7_restsAt_0 : decode cX7_restsAt 0 = .ok (.aload_n 0, 1) := by decide +kernel
theorem dX7_restsAt_1 : decode cX7_restsAt 1 = .ok (.bipush 7, 2) := by decide +kernel
theorem dX7_restsAt_3 : decode cX7_restsAt 3 = .ok (.lconst 0, 1) := by decide +kernel
theorem dX7_restsAt_4 : decode cX7_restsAt 4 = .ok (.invokevirtual 56, 3) := by decide +kernel
theorem dX7_restsAt_7 : decode cX7_restsAt 7 = .ok (.iconst 0, 1) := by decide +kernel
theorem dX7_restsAt_8 : decode cX7_restsAt 8 = .ok (.istore_n 2, 1) := by decide +kernel
theorem dX7_restsAt_9 : decode cX7_restsAt 9 = .ok (.iload_n 2, 1) := by decide +kernel
theorem dX7_restsAt_10 : decode cX7_restsAt 10 = .ok (.bipush 21, 2) := by decide +kernel
theorem dX7_restsAt_12 : decode cX7_restsAt 12 = .ok (.if_icmp .ge 43, 3) := by decide +kernel
theorem dX7_restsAt_15 : decode cX7_restsAt 15 = .ok (.aload_n 0, 1) := by decide +kernel
theorem dX7_restsAt_16 : decode cX7_restsAt 16 = .ok (.iload_n 2, 1) := by decide +kernel
theorem dX7_restsAt_17 : decode cX7_restsAt 17 = .ok (.invokevirtual 259, 3) := by decide +kernel
theorem dX7_restsAt_20 : decode cX7_restsAt 20 = .ok (.ifCond .eq 29, 3) := by decide +kernel
theorem dX7_restsAt_23 : decode cX7_restsAt 23 = .ok (.iload_n 2, 1) := by decide +kernel
theorem dX7_restsAt_24 : decode cX7_restsAt 24 = .ok (.invokestatic 316, 3) := by decide +kernel
theorem dX7_restsAt_27 : decode cX7_restsAt 27 = .ok (.aload_n 0, 1) := by decide +kernel
theorem dX7_restsAt_28 : decode cX7_restsAt 28 = .ok (.getfield 7, 3) := by decide +kernel
theorem dX7_restsAt_31 : decode cX7_restsAt 31 = .ok (.sipush 150, 3) := by decide +kernel
theorem dX7_restsAt_34 : decode cX7_restsAt 34 = .ok (.iload_n 1, 1) := by decide +kernel
theorem dX7_restsAt_35 : decode cX7_restsAt 35 = .ok (.iadd, 1) := by decide +kernel
theorem dX7_restsAt_36 : decode cX7_restsAt 36 = .ok (.iaload, 1) := by decide +kernel
theorem dX7_restsAt_37 : decode cX7_restsAt 37 = .ok (.if_icmp .ne 12, 3) := by decide +kernel
theorem dX7_restsAt_40 : decode cX7_restsAt 40 = .ok (.aload_n 0, 1) := by decide +kernel
theorem dX7_restsAt_41 : decode cX7_restsAt 41 = .ok (.iload_n 1, 1) := by decide +kernel
theorem dX7_restsAt_42 : decode cX7_restsAt 42 = .ok (.bipush 8, 2) := by decide +kernel
theorem dX7_restsAt_44 : decode cX7_restsAt 44 = .ok (.irem, 1) := by decide +kernel
theorem dX7_restsAt_45 : decode cX7_restsAt 45 = .ok (.iload_n 2, 1) := by decide +kernel
theorem dX7_restsAt_46 : decode cX7_restsAt 46 = .ok (.invokevirtual 298, 3) := by decide +kernel
theorem dX7_restsAt_49 : decode cX7_restsAt 49 = .ok (.iinc 2 1, 3) := by decide +kernel
theorem dX7_restsAt_52 : decode cX7_restsAt 52 = .ok (.goto (-43), 3) := by decide +kernel
theorem dX7_restsAt_55 : decode cX7_restsAt 55 = .ok (.aload_n 0, 1) := by decide +kernel
theorem dX7_restsAt_56 : decode cX7_restsAt 56 = .ok (.bipush 7, 2) := by decide +kernel
theorem dX7_restsAt_58 : decode cX7_restsAt 58 = .ok (.iconst 5, 1) := by decide +kernel
theorem dX7_restsAt_59 : decode cX7_restsAt 59 = .ok (.invokevirtual 86, 3) := by decide +kernel
theorem dX7_restsAt_62 : decode cX7_restsAt 62 = .ok (.ifCond .ne 5, 3) := by decide +kernel
theorem dX7_restsAt_65 : decode cX7_restsAt 65 = .ok (.iconst 0, 1) := by decide +kernel
theorem dX7_restsAt_66 : decode cX7_restsAt 66 = .ok (.ireturn, 1) := by decide +kernel
theorem dX7_restsAt_67 : decode cX7_restsAt 67 = .ok (.aload_n 0, 1) := by decide +kernel
theorem dX7_restsAt_68 : decode cX7_restsAt 68 = .ok (.getfield 29, 3) := by decide +kernel
theorem dX7_restsAt_71 : decode cX7_restsAt 71 = .ok (.bipush 7, 2) := by decide +kernel
theorem dX7_restsAt_73 : decode cX7_restsAt 73 = .ok (.iaload, 1) := by decide +kernel
theorem dX7_restsAt_74 : decode cX7_restsAt 74 = .ok (.ifCond .ne 5, 3) := by decide +kernel
theorem dX7_restsAt_77 : decode cX7_restsAt 77 = .ok (.iconst 3, 1) := by decide +kernel
theorem dX7_restsAt_78 : decode cX7_restsAt 78 = .ok (.ireturn, 1) := by decide +kernel
theorem dX7_restsAt_79 : decode cX7_restsAt 79 = .ok (.aload_n 0, 1) := by decide +kernel
theorem dX7_restsAt_80 : decode cX7_restsAt 80 = .ok (.bipush 7, 2) := by decide +kernel
theorem dX7_restsAt_82 : decode cX7_restsAt 82 = .ok (.iconst 2, 1) := by decide +kernel
theorem dX7_restsAt_83 : decode cX7_restsAt 83 = .ok (.invokevirtual 279, 3) := by decide +kernel
theorem dX7_restsAt_86 : decode cX7_restsAt 86 = .ok (.aload_n 0, 1) := by decide +kernel
theorem dX7_restsAt_87 : decode cX7_restsAt 87 = .ok (.bipush 7, 2) := by decide +kernel
theorem dX7_restsAt_89 : decode cX7_restsAt 89 = .ok (.iconst 5, 1) := by decide +kernel
theorem dX7_restsAt_90 : decode cX7_restsAt 90 = .ok (.invokevirtual 86, 3) := by decide +kernel
theorem dX7_restsAt_93 : decode cX7_restsAt 93 = .ok (.ifCond .le 7, 3) := by decide +kernel
theorem dX7_restsAt_96 : decode cX7_restsAt 96 = .ok (.iconst 1, 1) := by decide +kernel
theorem dX7_restsAt_97 : decode cX7_restsAt 97 = .ok (.goto 4, 3) := by decide +kernel
theorem dX7_restsAt_100 : decode cX7_restsAt 100 = .ok (.iconst 2, 1) := by decide +kernel
theorem dX7_restsAt_101 : decode cX7_restsAt 101 = .ok (.ireturn, 1) := by decide +kernel
theorem dX7_rests_0 : decode cX7_rests 0 = .ok (.iload_n 1, 1) := by decide +kernel
theorem dX7_rests_1 : decode cX7_rests 1 = .ok (.invokestatic 131, 3) := by decide +kernel
theorem dX7_rests_4 : decode cX7_rests 4 = .ok (.ifCond .ne 8, 3) := by decide +kernel
theorem dX7_rests_7 : decode cX7_rests 7 = .ok (.aload_n 0, 1) := by decide +kernel
theorem dX7_rests_8 : decode cX7_rests 8 = .ok (.invokevirtual 98, 3) := by decide +kernel
theorem dX7_rests_11 : decode cX7_rests 11 = .ok (.ireturn, 1) := by decide +kernel
theorem dX7_rests_12 : decode cX7_rests 12 = .ok (.aload_n 0, 1) := by decide +kernel
theorem dX7_rests_13 : decode cX7_rests 13 = .ok (.iload_n 1, 1) := by decide +kernel
theorem dX7_rests_14 : decode cX7_rests 14 = .ok (.bipush 8, 2) := by decide +kernel
theorem dX7_rests_16 : decode cX7_rests 16 = .ok (.idiv, 1) := by decide +kernel
theorem dX7_rests_17 : decode cX7_rests 17 = .ok (.invokevirtual 295, 3) := by decide +kernel
theorem dX7_rests_20 : decode cX7_rests 20 = .ok (.ifCond .eq 11, 3) := by decide +kernel
theorem dX7_rests_23 : decode cX7_rests 23 = .ok (.aload_n 0, 1) := by decide +kernel
theorem dX7_rests_24 : decode cX7_rests 24 = .ok (.iload_n 1, 1) := by decide +kernel
theorem dX7_rests_25 : decode cX7_rests 25 = .ok (.invokevirtual 319, 3) := by decide +kernel
theorem dX7_rests_28 : decode cX7_rests 28 = .ok (.goto 7, 3) := by decide +kernel
theorem dX7_rests_31 : decode cX7_rests 31 = .ok (.aload_n 0, 1) := by decide +kernel
theorem dX7_rests_32 : decode cX7_rests 32 = .ok (.invokevirtual 141, 3) := by decide +kernel
theorem dX7_rests_35 : decode cX7_rests 35 = .ok (.ireturn, 1) := by decide +kernel
theorem dX7_resting_0 : decode cX7_resting 0 = .ok (.iload_n 1, 1) := by decide +kernel
theorem dX7_resting_1 : decode cX7_resting 1 = .ok (.i2l, 1) := by decide +kernel
theorem dX7_resting_2 : decode cX7_resting 2 = .ok (.lconst 0, 1) := by decide +kernel
theorem dX7_resting_3 : decode cX7_resting 3 = .ok (.ldc2_w 119, 3) := by decide +kernel
theorem dX7_resting_6 : decode cX7_resting 6 = .ok (.invokestatic 102, 3) := by decide +kernel
theorem dX7_resting_9 : decode cX7_resting 9 = .ok (.ifCond .eq 15, 3) := by decide +kernel
theorem dX7_resting_12 : decode cX7_resting 12 = .ok (.iload_n 2, 1) := by decide +kernel
theorem dX7_resting_13 : decode cX7_resting 13 = .ok (.i2l, 1) := by decide +kernel
theorem dX7_resting_14 : decode cX7_resting 14 = .ok (.lconst 0, 1) := by decide +kernel
theorem dX7_resting_15 : decode cX7_resting 15 = .ok (.ldc2_w 117, 3) := by decide +kernel
theorem dX7_resting_18 : decode cX7_resting 18 = .ok (.invokestatic 102, 3) := by decide +kernel
theorem dX7_resting_21 : decode cX7_resting 21 = .ok (.ifCond .ne 8, 3) := by decide +kernel
theorem dX7_resting_24 : decode cX7_resting 24 = .ok (.aload_n 0, 1) := by decide +kernel
theorem dX7_resting_25 : decode cX7_resting 25 = .ok (.invokevirtual 98, 3) := by decide +kernel
theorem dX7_resting_28 : decode cX7_resting 28 = .ok (.ireturn, 1) := by decide +kernel
theorem dX7_resting_29 : decode cX7_resting 29 = .ok (.aload_n 0, 1) := by decide +kernel
theorem dX7_resting_30 : decode cX7_resting 30 = .ok (.iload_n 1, 1) := by decide +kernel
theorem dX7_resting_31 : decode cX7_resting 31 = .ok (.invokevirtual 295, 3) := by decide +kernel
theorem dX7_resting_34 : decode cX7_resting 34 = .ok (.ifCond .ne 8, 3) := by decide +kernel
theorem dX7_resting_37 : decode cX7_resting 37 = .ok (.aload_n 0, 1) := by decide +kernel
theorem dX7_resting_38 : decode cX7_resting 38 = .ok (.invokevirtual 141, 3) := by decide +kernel
theorem dX7_resting_41 : decode cX7_resting 41 = .ok (.ireturn, 1) := by decide +kernel
theorem dX7_resting_42 : decode cX7_resting 42 = .ok (.iconst 0, 1) := by decide +kernel
theorem dX7_resting_43 : decode cX7_resting 43 = .ok (.istore_n 3, 1) := by decide +kernel
theorem dX7_resting_44 : decode cX7_resting 44 = .ok (.iconst 0, 1) := by decide +kernel
theorem dX7_resting_45 : decode cX7_resting 45 = .ok (.istore 4, 2) := by decide +kernel
theorem dX7_resting_47 : decode cX7_resting 47 = .ok (.iload 4, 2) := by decide +kernel
theorem dX7_resting_49 : decode cX7_resting 49 = .ok (.bipush 8, 2) := by decide +kernel
theorem dX7_resting_51 : decode cX7_resting 51 = .ok (.if_icmp .ge 32, 3) := by decide +kernel
theorem dX7_resting_54 : decode cX7_resting 54 = .ok (.iload_n 3, 1) := by decide +kernel
theorem dX7_resting_55 : decode cX7_resting 55 = .ok (.aload_n 0, 1) := by decide +kernel
theorem dX7_resting_56 : decode cX7_resting 56 = .ok (.bipush 8, 2) := by decide +kernel
theorem dX7_resting_58 : decode cX7_resting 58 = .ok (.iload_n 1, 1) := by decide +kernel
theorem dX7_resting_59 : decode cX7_resting 59 = .ok (.imul, 1) := by decide +kernel
theorem dX7_resting_60 : decode cX7_resting 60 = .ok (.iload 4, 2) := by decide +kernel
theorem dX7_resting_62 : decode cX7_resting 62 = .ok (.iadd, 1) := by decide +kernel
theorem dX7_resting_63 : decode cX7_resting 63 = .ok (.invokevirtual 319, 3) := by decide +kernel
theorem dX7_resting_66 : decode cX7_resting 66 = .ok (.iload_n 2, 1) := by decide +kernel
theorem dX7_resting_67 : decode cX7_resting 67 = .ok (.if_icmp .ne 7, 3) := by decide +kernel
theorem dX7_resting_70 : decode cX7_resting 70 = .ok (.iconst 1, 1) := by decide +kernel
theorem dX7_resting_71 : decode cX7_resting 71 = .ok (.goto 4, 3) := by decide +kernel
theorem dX7_resting_74 : decode cX7_resting 74 = .ok (.iconst 0, 1) := by decide +kernel
theorem dX7_resting_75 : decode cX7_resting 75 = .ok (.iadd, 1) := by decide +kernel
theorem dX7_resting_76 : decode cX7_resting 76 = .ok (.istore_n 3, 1) := by decide +kernel
theorem dX7_resting_77 : decode cX7_resting 77 = .ok (.iinc 4 1, 3) := by decide +kernel
theorem dX7_resting_80 : decode cX7_resting 80 = .ok (.goto (-33), 3) := by decide +kernel
theorem dX7_resting_83 : decode cX7_resting 83 = .ok (.iload_n 3, 1) := by decide +kernel
theorem dX7_resting_84 : decode cX7_resting 84 = .ok (.ireturn, 1) := by decide +kernel
theorem dX7_bright_0 : decode cX7_bright 0 = .ok (.iload_n 1, 1) := by decide +kernel
theorem dX7_bright_1 : decode cX7_bright 1 = .ok (.invokestatic 131, 3) := by decide +kernel
theorem dX7_bright_4 : decode cX7_bright 4 = .ok (.ifCond .eq 15, 3) := by decide +kernel
theorem dX7_bright_7 : decode cX7_bright 7 = .ok (.iload_n 2, 1) := by decide +kernel
theorem dX7_bright_8 : decode cX7_bright 8 = .ok (.i2l, 1) := by decide +kernel
theorem dX7_bright_9 : decode cX7_bright 9 = .ok (.lconst 0, 1) := by decide +kernel
theorem dX7_bright_10 : decode cX7_bright 10 = .ok (.ldc2_w 268, 3) := by decide +kernel
theorem dX7_bright_13 : decode cX7_bright 13 = .ok (.invokestatic 102, 3) := by decide +kernel
theorem dX7_bright_16 : decode cX7_bright 16 = .ok (.ifCond .ne 8, 3) := by decide +kernel
theorem dX7_bright_19 : decode cX7_bright 19 = .ok (.aload_n 0, 1) := by decide +kernel
theorem dX7_bright_20 : decode cX7_bright 20 = .ok (.invokevirtual 98, 3) := by decide +kernel
theorem dX7_bright_23 : decode cX7_bright 23 = .ok (.ireturn, 1) := by decide +kernel
theorem dX7_bright_24 : decode cX7_bright 24 = .ok (.aload_n 0, 1) := by decide +kernel
theorem dX7_bright_25 : decode cX7_bright 25 = .ok (.iload_n 1, 1) := by decide +kernel
theorem dX7_bright_26 : decode cX7_bright 26 = .ok (.bipush 8, 2) := by decide +kernel
theorem dX7_bright_28 : decode cX7_bright 28 = .ok (.idiv, 1) := by decide +kernel
theorem dX7_bright_29 : decode cX7_bright 29 = .ok (.invokevirtual 295, 3) := by decide +kernel
theorem dX7_bright_32 : decode cX7_bright 32 = .ok (.ifCond .ne 8, 3) := by decide +kernel
theorem dX7_bright_35 : decode cX7_bright 35 = .ok (.aload_n 0, 1) := by decide +kernel
theorem dX7_bright_36 : decode cX7_bright 36 = .ok (.invokevirtual 141, 3) := by decide +kernel
theorem dX7_bright_39 : decode cX7_bright 39 = .ok (.ireturn, 1) := by decide +kernel
theorem dX7_bright_40 : decode cX7_bright 40 = .ok (.ldc_w 312, 3) := by decide +kernel
theorem dX7_bright_43 : decode cX7_bright 43 = .ok (.istore_n 3, 1) := by decide +kernel
theorem dX7_bright_44 : decode cX7_bright 44 = .ok (.iconst (-1), 1) := by decide +kernel
theorem dX7_bright_45 : decode cX7_bright 45 = .ok (.istore 4, 2) := by decide +kernel
theorem dX7_bright_47 : decode cX7_bright 47 = .ok (.aload_n 0, 1) := by decide +kernel
theorem dX7_bright_48 : decode cX7_bright 48 = .ok (.bipush 14, 2) := by decide +kernel
theorem dX7_bright_50 : decode cX7_bright 50 = .ok (.lconst 0, 1) := by decide +kernel
theorem dX7_bright_51 : decode cX7_bright 51 = .ok (.invokevirtual 56, 3) := by decide +kernel
theorem dX7_bright_54 : decode cX7_bright 54 = .ok (.iconst 0, 1) := by decide +kernel
theorem dX7_bright_55 : decode cX7_bright 55 = .ok (.istore 5, 2) := by decide +kernel
theorem dX7_bright_57 : decode cX7_bright 57 = .ok (.iload 5, 2) := by decide +kernel
theorem dX7_bright_59 : decode cX7_bright 59 = .ok (.bipush 21, 2) := by decide +kernel
theorem dX7_bright_61 : decode cX7_bright 61 = .ok (.if_icmp .ge 103, 3) := by decide +kernel
theorem dX7_bright_64 : decode cX7_bright 64 = .ok (.aload_n 0, 1) := by decide +kernel
theorem dX7_bright_65 : decode cX7_bright 65 = .ok (.bipush 7, 2) := by decide +kernel
theorem dX7_bright_67 : decode cX7_bright 67 = .ok (.lconst 0, 1) := by decide +kernel
theorem dX7_bright_68 : decode cX7_bright 68 = .ok (.invokevirtual 56, 3) := by decide +kernel
theorem dX7_bright_71 : decode cX7_bright 71 = .ok (.aload_n 0, 1) := by decide +kernel
theorem dX7_bright_72 : decode cX7_bright 72 = .ok (.iload_n 1, 1) := by decide +kernel
theorem dX7_bright_73 : decode cX7_bright 73 = .ok (.bipush 8, 2) := by decide +kernel
theorem dX7_bright_75 : decode cX7_bright 75 = .ok (.irem, 1) := by decide +kernel
theorem dX7_bright_76 : decode cX7_bright 76 = .ok (.iload 5, 2) := by decide +kernel
theorem dX7_bright_78 : decode cX7_bright 78 = .ok (.invokevirtual 298, 3) := by decide +kernel
theorem dX7_bright_81 : decode cX7_bright 81 = .ok (.aload_n 0, 1) := by decide +kernel
theorem dX7_bright_82 : decode cX7_bright 82 = .ok (.getfield 29, 3) := by decide +kernel
theorem dX7_bright_85 : decode cX7_bright 85 = .ok (.bipush 7, 2) := by decide +kernel
theorem dX7_bright_87 : decode cX7_bright 87 = .ok (.iaload, 1) := by decide +kernel
theorem dX7_bright_88 : decode cX7_bright 88 = .ok (.ifCond .le 70, 3) := by decide +kernel
theorem dX7_bright_91 : decode cX7_bright 91 = .ok (.iload 5, 2) := by decide +kernel
theorem dX7_bright_93 : decode cX7_bright 93 = .ok (.ifCond .ne 8, 3) := by decide +kernel
theorem dX7_bright_96 : decode cX7_bright 96 = .ok (.bipush 9, 2) := by decide +kernel
theorem dX7_bright_98 : decode cX7_bright 98 = .ok (.goto 13, 3) := by decide +kernel
theorem dX7_bright_101 : decode cX7_bright 101 = .ok (.aload_n 0, 1) := by decide +kernel
theorem dX7_bright_102 : decode cX7_bright 102 = .ok (.iload 5, 2) := by decide +kernel
theorem dX7_bright_104 : decode cX7_bright 104 = .ok (.invokestatic 316, 3) := by decide +kernel
theorem dX7_bright_107 : decode cX7_bright 107 = .ok (.iconst 1, 1) := by decide +kernel
theorem dX7_bright_108 : decode cX7_bright 108 = .ok (.invokevirtual 244, 3) := by decide +kernel
theorem dX7_bright_111 : decode cX7_bright 111 = .ok (.istore 6, 2) := by decide +kernel
theorem dX7_bright_113 : decode cX7_bright 113 = .ok (.iload 6, 2) := by decide +kernel
theorem dX7_bright_115 : decode cX7_bright 115 = .ok (.iload_n 3, 1) := by decide +kernel
theorem dX7_bright_116 : decode cX7_bright 116 = .ok (.if_icmp .ge 8, 3) := by decide +kernel
theorem dX7_bright_119 : decode cX7_bright 119 = .ok (.iload 6, 2) := by decide +kernel
theorem dX7_bright_121 : decode cX7_bright 121 = .ok (.goto 4, 3) := by decide +kernel
theorem dX7_bright_124 : decode cX7_bright 124 = .ok (.iload_n 3, 1) := by decide +kernel
theorem dX7_bright_125 : decode cX7_bright 125 = .ok (.istore_n 3, 1) := by decide +kernel
theorem dX7_bright_126 : decode cX7_bright 126 = .ok (.iload 6, 2) := by decide +kernel
theorem dX7_bright_128 : decode cX7_bright 128 = .ok (.iload 4, 2) := by decide +kernel
theorem dX7_bright_130 : decode cX7_bright 130 = .ok (.if_icmp .le 8, 3) := by decide +kernel
theorem dX7_bright_133 : decode cX7_bright 133 = .ok (.iload 6, 2) := by decide +kernel
theorem dX7_bright_135 : decode cX7_bright 135 = .ok (.goto 5, 3) := by decide +kernel
theorem dX7_bright_138 : decode cX7_bright 138 = .ok (.iload 4, 2) := by decide +kernel
theorem dX7_bright_140 : decode cX7_bright 140 = .ok (.istore 4, 2) := by decide +kernel
theorem dX7_bright_142 : decode cX7_bright 142 = .ok (.aload_n 0, 1) := by decide +kernel
theorem dX7_bright_143 : decode cX7_bright 143 = .ok (.bipush 7, 2) := by decide +kernel
theorem dX7_bright_145 : decode cX7_bright 145 = .ok (.iload 6, 2) := by decide +kernel
theorem dX7_bright_147 : decode cX7_bright 147 = .ok (.invokevirtual 279, 3) := by decide +kernel
theorem dX7_bright_150 : decode cX7_bright 150 = .ok (.aload_n 0, 1) := by decide +kernel
theorem dX7_bright_151 : decode cX7_bright 151 = .ok (.bipush 14, 2) := by decide +kernel
theorem dX7_bright_153 : decode cX7_bright 153 = .ok (.bipush 7, 2) := by decide +kernel
theorem dX7_bright_155 : decode cX7_bright 155 = .ok (.invokevirtual 282, 3) := by decide +kernel
theorem dX7_bright_158 : decode cX7_bright 158 = .ok (.iinc 5 1, 3) := by decide +kernel
theorem dX7_bright_161 : decode cX7_bright 161 = .ok (.goto (-104), 3) := by decide +kernel
theorem dX7_bright_164 : decode cX7_bright 164 = .ok (.aload_n 0, 1) := by decide +kernel
theorem dX7_bright_165 : decode cX7_bright 165 = .ok (.bipush 7, 2) := by decide +kernel
theorem dX7_bright_167 : decode cX7_bright 167 = .ok (.bipush 14, 2) := by decide +kernel
theorem dX7_bright_169 : decode cX7_bright 169 = .ok (.invokevirtual 74, 3) := by decide +kernel
theorem dX7_bright_172 : decode cX7_bright 172 = .ok (.iload_n 2, 1) := by decide +kernel
theorem dX7_bright_173 : decode cX7_bright 173 = .ok (.ifCond .ne 7, 3) := by decide +kernel
theorem dX7_bright_176 : decode cX7_bright 176 = .ok (.iload_n 3, 1) := by decide +kernel
theorem dX7_bright_177 : decode cX7_bright 177 = .ok (.goto 17, 3) := by decide +kernel
theorem dX7_bright_180 : decode cX7_bright 180 = .ok (.iload_n 2, 1) := by decide +kernel
theorem dX7_bright_181 : decode cX7_bright 181 = .ok (.iconst 1, 1) := by decide +kernel
theorem dX7_bright_182 : decode cX7_bright 182 = .ok (.if_icmp .ne 8, 3) := by decide +kernel
theorem dX7_bright_185 : decode cX7_bright 185 = .ok (.iload 4, 2) := by decide +kernel
theorem dX7_bright_187 : decode cX7_bright 187 = .ok (.goto 7, 3) := by decide +kernel
theorem dX7_bright_190 : decode cX7_bright 190 = .ok (.aload_n 0, 1) := by decide +kernel
theorem dX7_bright_191 : decode cX7_bright 191 = .ok (.invokevirtual 301, 3) := by decide +kernel
theorem dX7_bright_194 : decode cX7_bright 194 = .ok (.ireturn, 1) := by decide +kernel
theorem dX7_image_0 : decode cX7_image 0 = .ok (.iload_n 1, 1) := by decide +kernel
theorem dX7_image_1 : decode cX7_image 1 = .ok (.i2l, 1) := by decide +kernel
theorem dX7_image_2 : decode cX7_image 2 = .ok (.lconst 0, 1) := by decide +kernel
theorem dX7_image_3 : decode cX7_image 3 = .ok (.lconst 1, 1) := by decide +kernel
theorem dX7_image_4 : decode cX7_image 4 = .ok (.invokestatic 102, 3) := by decide +kernel
theorem dX7_image_7 : decode cX7_image 7 = .ok (.ifCond .ne 8, 3) := by decide +kernel
theorem dX7_image_10 : decode cX7_image 10 = .ok (.aload_n 0, 1) := by decide +kernel
theorem dX7_image_11 : decode cX7_image 11 = .ok (.invokevirtual 98, 3) := by decide +kernel
theorem dX7_image_14 : decode cX7_image 14 = .ok (.ireturn, 1) := by decide +kernel
theorem dX7_image_15 : decode cX7_image 15 = .ok (.iconst 0, 1) := by decide +kernel
theorem dX7_image_16 : decode cX7_image 16 = .ok (.istore_n 2, 1) := by decide +kernel
theorem dX7_image_17 : decode cX7_image 17 = .ok (.iload_n 2, 1) := by decide +kernel
theorem dX7_image_18 : decode cX7_image 18 = .ok (.sipush 210, 3) := by decide +kernel
theorem dX7_image_21 : decode cX7_image 21 = .ok (.if_icmp .ge 27, 3) := by decide +kernel
theorem dX7_image_24 : decode cX7_image 24 = .ok (.aload_n 0, 1) := by decide +kernel
theorem dX7_image_25 : decode cX7_image 25 = .ok (.getfield 13, 3) := by decide +kernel
theorem dX7_image_28 : decode cX7_image 28 = .ok (.sipush 210, 3) := by decide +kernel
theorem dX7_image_31 : decode cX7_image 31 = .ok (.iload_n 1, 1) := by decide +kernel
theorem dX7_image_32 : decode cX7_image 32 = .ok (.imul, 1) := by decide +kernel
theorem dX7_image_33 : decode cX7_image 33 = .ok (.iload_n 2, 1) := by decide +kernel
theorem dX7_image_34 : decode cX7_image 34 = .ok (.iadd, 1) := by decide +kernel
theorem dX7_image_35 : decode cX7_image 35 = .ok (.aload_n 0, 1) := by decide +kernel
theorem dX7_image_36 : decode cX7_image 36 = .ok (.getfield 7, 3) := by decide +kernel
theorem dX7_image_39 : decode cX7_image 39 = .ok (.iload_n 2, 1) := by decide +kernel
theorem dX7_image_40 : decode cX7_image 40 = .ok (.iaload, 1) := by decide +kernel
theorem dX7_image_41 : decode cX7_image 41 = .ok (.iastore, 1) := by decide +kernel
theorem dX7_image_42 : decode cX7_image 42 = .ok (.iinc 2 1, 3) := by decide +kernel
theorem dX7_image_45 : decode cX7_image 45 = .ok (.goto (-28), 3) := by decide +kernel
theorem dX7_image_48 : decode cX7_image 48 = .ok (.aload_n 0, 1) := by decide +kernel
theorem dX7_image_49 : decode cX7_image 49 = .ok (.getfield 16, 3) := by decide +kernel
theorem dX7_image_52 : decode cX7_image 52 = .ok (.iload_n 1, 1) := by decide +kernel
theorem dX7_image_53 : decode cX7_image 53 = .ok (.iconst 1, 1) := by decide +kernel
theorem dX7_image_54 : decode cX7_image 54 = .ok (.bastore, 1) := by decide +kernel
theorem dX7_image_55 : decode cX7_image 55 = .ok (.iconst 1, 1) := by decide +kernel
theorem dX7_image_56 : decode cX7_image 56 = .ok (.ireturn, 1) := by decide +kernel
theorem dX7_from_0 : decode cX7_from 0 = .ok (.iload_n 1, 1) := by decide +kernel
theorem dX7_from_1 : decode cX7_from 1 = .ok (.i2l, 1) := by decide +kernel
theorem dX7_from_2 : decode cX7_from 2 = .ok (.lconst 0, 1) := by decide +kernel
theorem dX7_from_3 : decode cX7_from 3 = .ok (.lconst 1, 1) := by decide +kernel
theorem dX7_from_4 : decode cX7_from 4 = .ok (.invokestatic 102, 3) := by decide +kernel
theorem dX7_from_7 : decode cX7_from 7 = .ok (.ifCond .ne 8, 3) := by decide +kernel
theorem dX7_from_10 : decode cX7_from 10 = .ok (.aload_n 0, 1) := by decide +kernel
theorem dX7_from_11 : decode cX7_from 11 = .ok (.invokevirtual 98, 3) := by decide +kernel
theorem dX7_from_14 : decode cX7_from 14 = .ok (.ireturn, 1) := by decide +kernel
theorem dX7_from_15 : decode cX7_from 15 = .ok (.aload_n 0, 1) := by decide +kernel
theorem dX7_from_16 : decode cX7_from 16 = .ok (.getfield 16, 3) := by decide +kernel
theorem dX7_from_19 : decode cX7_from 19 = .ok (.iload_n 1, 1) := by decide +kernel
theorem dX7_from_20 : decode cX7_from 20 = .ok (.baload, 1) := by decide +kernel
theorem dX7_from_21 : decode cX7_from 21 = .ok (.ifCond .ne 8, 3) := by decide +kernel
theorem dX7_from_24 : decode cX7_from 24 = .ok (.aload_n 0, 1) := by decide +kernel
theorem dX7_from_25 : decode cX7_from 25 = .ok (.invokevirtual 141, 3) := by decide +kernel
theorem dX7_from_28 : decode cX7_from 28 = .ok (.ireturn, 1) := by decide +kernel
theorem dX7_from_29 : decode cX7_from 29 = .ok (.iconst 0, 1) := by decide +kernel
theorem dX7_from_30 : decode cX7_from 30 = .ok (.istore_n 2, 1) := by decide +kernel
theorem dX7_from_31 : decode cX7_from 31 = .ok (.iload_n 2, 1) := by decide +kernel
theorem dX7_from_32 : decode cX7_from 32 = .ok (.sipush 210, 3) := by decide +kernel
theorem dX7_from_35 : decode cX7_from 35 = .ok (.if_icmp .ge 27, 3) := by decide +kernel
theorem dX7_from_38 : decode cX7_from 38 = .ok (.aload_n 0, 1) := by decide +kernel
theorem dX7_from_39 : decode cX7_from 39 = .ok (.getfield 7, 3) := by decide +kernel
theorem dX7_from_42 : decode cX7_from 42 = .ok (.iload_n 2, 1) := by decide +kernel
theorem dX7_from_43 : decode cX7_from 43 = .ok (.aload_n 0, 1) := by decide +kernel
theorem dX7_from_44 : decode cX7_from 44 = .ok (.getfield 13, 3) := by decide +kernel
theorem dX7_from_47 : decode cX7_from 47 = .ok (.sipush 210, 3) := by decide +kernel
theorem dX7_from_50 : decode cX7_from 50 = .ok (.iload_n 1, 1) := by decide +kernel
theorem dX7_from_51 : decode cX7_from 51 = .ok (.imul, 1) := by decide +kernel
theorem dX7_from_52 : decode cX7_from 52 = .ok (.iload_n 2, 1) := by decide +kernel
theorem dX7_from_53 : decode cX7_from 53 = .ok (.iadd, 1) := by decide +kernel
theorem dX7_from_54 : decode cX7_from 54 = .ok (.iaload, 1) := by decide +kernel
theorem dX7_from_55 : decode cX7_from 55 = .ok (.iastore, 1) := by decide +kernel
theorem dX7_from_56 : decode cX7_from 56 = .ok (.iinc 2 1, 3) := by decide +kernel
theorem dX7_from_59 : decode cX7_from 59 = .ok (.goto (-28), 3) := by decide +kernel
theorem dX7_from_62 : decode cX7_from 62 = .ok (.iconst 1, 1) := by decide +kernel
theorem dX7_from_63 : decode cX7_from 63 = .ok (.ireturn, 1) := by decide +kernel
theorem dX7_status_0 : decode cX7_status 0 = .ok (.iload_n 1, 1) := by decide +kernel
theorem dX7_status_1 : decode cX7_status 1 = .ok (.i2l, 1) := by decide +kernel
theorem dX7_status_2 : decode cX7_status 2 = .ok (.lconst 0, 1) := by decide +kernel
theorem dX7_status_3 : decode cX7_status 3 = .ok (.ldc2_w 268, 3) := by decide +kernel
theorem dX7_status_6 : decode cX7_status 6 = .ok (.invokestatic 102, 3) := by decide +kernel
theorem dX7_status_9 : decode cX7_status 9 = .ok (.ifCond .eq 12, 3) := by decide +kernel
theorem dX7_status_12 : decode cX7_status 12 = .ok (.aload_n 0, 1) := by decide +kernel
theorem dX7_status_13 : decode cX7_status 13 = .ok (.getfield 23, 3) := by decide +kernel
theorem dX7_status_16 : decode cX7_status 16 = .ok (.iload_n 1, 1) := by decide +kernel
theorem dX7_status_17 : decode cX7_status 17 = .ok (.iaload, 1) := by decide +kernel
theorem dX7_status_18 : decode cX7_status 18 = .ok (.goto 9, 3) := by decide +kernel
theorem dX7_status_21 : decode cX7_status 21 = .ok (.aload_n 0, 1) := by decide +kernel
theorem dX7_status_22 : decode cX7_status 22 = .ok (.iconst 0, 1) := by decide +kernel
theorem dX7_status_23 : decode cX7_status 23 = .ok (.iconst (-1), 1) := by decide +kernel
theorem dX7_status_24 : decode cX7_status 24 = .ok (.invokevirtual 64, 3) := by decide +kernel
theorem dX7_status_27 : decode cX7_status 27 = .ok (.ireturn, 1) := by decide +kernel
theorem dX7_countOf_0 : decode cX7_countOf 0 = .ok (.iconst 0, 1) := by decide +kernel
theorem dX7_countOf_1 : decode cX7_countOf 1 = .ok (.istore_n 2, 1) := by decide +kernel
theorem dX7_countOf_2 : decode cX7_countOf 2 = .ok (.iconst 0, 1) := by decide +kernel
theorem dX7_countOf_3 : decode cX7_countOf 3 = .ok (.istore_n 3, 1) := by decide +kernel
theorem dX7_countOf_4 : decode cX7_countOf 4 = .ok (.iload_n 3, 1) := by decide +kernel
theorem dX7_countOf_5 : decode cX7_countOf 5 = .ok (.aload_n 0, 1) := by decide +kernel
theorem dX7_countOf_6 : decode cX7_countOf 6 = .ok (.getfield 7, 3) := by decide +kernel
theorem dX7_countOf_9 : decode cX7_countOf 9 = .ok (.iconst 1, 1) := by decide +kernel
theorem dX7_countOf_10 : decode cX7_countOf 10 = .ok (.iaload, 1) := by decide +kernel
theorem dX7_countOf_11 : decode cX7_countOf 11 = .ok (.if_icmp .ge 18, 3) := by decide +kernel
theorem dX7_countOf_14 : decode cX7_countOf 14 = .ok (.iload_n 2, 1) := by decide +kernel
theorem dX7_countOf_15 : decode cX7_countOf 15 = .ok (.aload_n 0, 1) := by decide +kernel
theorem dX7_countOf_16 : decode cX7_countOf 16 = .ok (.iload_n 3, 1) := by decide +kernel
theorem dX7_countOf_17 : decode cX7_countOf 17 = .ok (.iconst 3, 1) := by decide +kernel
theorem dX7_countOf_18 : decode cX7_countOf 18 = .ok (.invokevirtual 138, 3) := by decide +kernel
theorem dX7_countOf_21 : decode cX7_countOf 21 = .ok (.iadd, 1) := by decide +kernel
theorem dX7_countOf_22 : decode cX7_countOf 22 = .ok (.istore_n 2, 1) := by decide +kernel
theorem dX7_countOf_23 : decode cX7_countOf 23 = .ok (.iinc 3 1, 3) := by decide +kernel
theorem dX7_countOf_26 : decode cX7_countOf 26 = .ok (.goto (-22), 3) := by decide +kernel
theorem dX7_countOf_29 : decode cX7_countOf 29 = .ok (.iload_n 1, 1) := by decide +kernel
theorem dX7_countOf_30 : decode cX7_countOf 30 = .ok (.iconst 2, 1) := by decide +kernel
theorem dX7_countOf_31 : decode cX7_countOf 31 = .ok (.if_icmp .ge 12, 3) := by decide +kernel
theorem dX7_countOf_34 : decode cX7_countOf 34 = .ok (.aload_n 0, 1) := by decide +kernel
theorem dX7_countOf_35 : decode cX7_countOf 35 = .ok (.getfield 7, 3) := by decide +kernel
theorem dX7_countOf_38 : decode cX7_countOf 38 = .ok (.iload_n 1, 1) := by decide +kernel
theorem dX7_countOf_39 : decode cX7_countOf 39 = .ok (.iaload, 1) := by decide +kernel
theorem dX7_countOf_40 : decode cX7_countOf 40 = .ok (.goto 16, 3) := by decide +kernel
theorem dX7_countOf_43 : decode cX7_countOf 43 = .ok (.iload_n 1, 1) := by decide +kernel
theorem dX7_countOf_44 : decode cX7_countOf 44 = .ok (.iconst 2, 1) := by decide +kernel
theorem dX7_countOf_45 : decode cX7_countOf 45 = .ok (.if_icmp .ne 7, 3) := by decide +kernel
theorem dX7_countOf_48 : decode cX7_countOf 48 = .ok (.iload_n 2, 1) := by decide +kernel
theorem dX7_countOf_49 : decode cX7_countOf 49 = .ok (.goto 7, 3) := by decide +kernel
theorem dX7_countOf_52 : decode cX7_countOf 52 = .ok (.aload_n 0, 1) := by decide +kernel
theorem dX7_countOf_53 : decode cX7_countOf 53 = .ok (.getfield 146, 3) := by decide +kernel
theorem dX7_countOf_56 : decode cX7_countOf 56 = .ok (.ireturn, 1) := by decide +kernel
theorem dX7_count_0 : decode cX7_count 0 = .ok (.iload_n 1, 1) := by decide +kernel
theorem dX7_count_1 : decode cX7_count 1 = .ok (.i2l, 1) := by decide +kernel
theorem dX7_count_2 : decode cX7_count 2 = .ok (.lconst 0, 1) := by decide +kernel
theorem dX7_count_3 : decode cX7_count 3 = .ok (.ldc2_w 117, 3) := by decide +kernel
theorem dX7_count_6 : decode cX7_count 6 = .ok (.invokestatic 102, 3) := by decide +kernel
theorem dX7_count_9 : decode cX7_count 9 = .ok (.ifCond .eq 11, 3) := by decide +kernel
theorem dX7_count_12 : decode cX7_count 12 = .ok (.aload_n 0, 1) := by decide +kernel
theorem dX7_count_13 : decode cX7_count 13 = .ok (.iload_n 1, 1) := by decide +kernel
theorem dX7_count_14 : decode cX7_count 14 = .ok (.invokevirtual 322, 3) := by decide +kernel
theorem dX7_count_17 : decode cX7_count 17 = .ok (.goto 7, 3) := by decide +kernel
theorem dX7_count_20 : decode cX7_count 20 = .ok (.aload_n 0, 1) := by decide +kernel
theorem dX7_count_21 : decode cX7_count 21 = .ok (.invokevirtual 98, 3) := by decide +kernel
theorem dX7_count_24 : decode cX7_count 24 = .ok (.ireturn, 1) := by decide +kernel
theorem dX7_mixed_0 : decode cX7_mixed 0 = .ok (.lload_n 0, 1) := by decide +kernel
theorem dX7_mixed_1 : decode cX7_mixed 1 = .ok (.lstore 5, 2) := by decide +kernel
theorem dX7_mixed_3 : decode cX7_mixed 3 = .ok (.iconst 0, 1) := by decide +kernel
theorem dX7_mixed_4 : decode cX7_mixed 4 = .ok (.istore 7, 2) := by decide +kernel
theorem dX7_mixed_6 : decode cX7_mixed 6 = .ok (.iload 7, 2) := by decide +kernel
theorem dX7_mixed_8 : decode cX7_mixed 8 = .ok (.iload 4, 2) := by decide +kernel
theorem dX7_mixed_10 : decode cX7_mixed 10 = .ok (.if_icmp .ge 25, 3) := by decide +kernel
theorem dX7_mixed_13 : decode cX7_mixed 13 = .ok (.ldc2_w 325, 3) := by decide +kernel
theorem dX7_mixed_16 : decode cX7_mixed 16 = .ok (.lload 5, 2) := by decide +kernel
theorem dX7_mixed_18 : decode cX7_mixed 18 = .ok (.lmul, 1) := by decide +kernel
theorem dX7_mixed_19 : decode cX7_mixed 19 = .ok (.aload_n 2, 1) := by decide +kernel
theorem dX7_mixed_20 : decode cX7_mixed 20 = .ok (.iload_n 3, 1) := by decide +kernel
theorem dX7_mixed_21 : decode cX7_mixed 21 = .ok (.iload 7, 2) := by decide +kernel
theorem dX7_mixed_23 : decode cX7_mixed 23 = .ok (.iadd, 1) := by decide +kernel
theorem dX7_mixed_24 : decode cX7_mixed 24 = .ok (.iaload, 1) := by decide +kernel
theorem dX7_mixed_25 : decode cX7_mixed 25 = .ok (.i2l, 1) := by decide +kernel
theorem dX7_mixed_26 : decode cX7_mixed 26 = .ok (.ladd, 1) := by decide +kernel
theorem dX7_mixed_27 : decode cX7_mixed 27 = .ok (.lstore 5, 2) := by decide +kernel
theorem dX7_mixed_29 : decode cX7_mixed 29 = .ok (.iinc 7 1, 3) := by decide +kernel
theorem dX7_mixed_32 : decode cX7_mixed 32 = .ok (.goto (-26), 3) := by decide +kernel
theorem dX7_mixed_35 : decode cX7_mixed 35 = .ok (.lload 5, 2) := by decide +kernel
theorem dX7_mixed_37 : decode cX7_mixed 37 = .ok (.lreturn, 1) := by decide +kernel
theorem dX7_digest_0 : decode cX7_digest 0 = .ok (.ldc2_w 327, 3) := by decide +kernel
theorem dX7_digest_3 : decode cX7_digest 3 = .ok (.lstore_n 1, 1) := by decide +kernel
theorem dX7_digest_4 : decode cX7_digest 4 = .ok (.iconst 0, 1) := by decide +kernel
theorem dX7_digest_5 : decode cX7_digest 5 = .ok (.istore_n 3, 1) := by decide +kernel
theorem dX7_digest_6 : decode cX7_digest 6 = .ok (.iload_n 3, 1) := by decide +kernel
theorem dX7_digest_7 : decode cX7_digest 7 = .ok (.iconst 4, 1) := by decide +kernel
theorem dX7_digest_8 : decode cX7_digest 8 = .ok (.if_icmp .ge 22, 3) := by decide +kernel
theorem dX7_digest_11 : decode cX7_digest 11 = .ok (.ldc2_w 325, 3) := by decide +kernel
theorem dX7_digest_14 : decode cX7_digest 14 = .ok (.lload_n 1, 1) := by decide +kernel
theorem dX7_digest_15 : decode cX7_digest 15 = .ok (.lmul, 1) := by decide +kernel
theorem dX7_digest_16 : decode cX7_digest 16 = .ok (.aload_n 0, 1) := by decide +kernel
theorem dX7_digest_17 : decode cX7_digest 17 = .ok (.iload_n 3, 1) := by decide +kernel
theorem dX7_digest_18 : decode cX7_digest 18 = .ok (.invokevirtual 322, 3) := by decide +kernel
theorem dX7_digest_21 : decode cX7_digest 21 = .ok (.i2l, 1) := by decide +kernel
theorem dX7_digest_22 : decode cX7_digest 22 = .ok (.ladd, 1) := by decide +kernel
theorem dX7_digest_23 : decode cX7_digest 23 = .ok (.lstore_n 1, 1) := by decide +kernel
theorem dX7_digest_24 : decode cX7_digest 24 = .ok (.iinc 3 1, 3) := by decide +kernel
theorem dX7_digest_27 : decode cX7_digest 27 = .ok (.goto (-21), 3) := by decide +kernel
theorem dX7_digest_30 : decode cX7_digest 30 = .ok (.lload_n 1, 1) := by decide +kernel
theorem dX7_digest_31 : decode cX7_digest 31 = .ok (.aload_n 0, 1) := by decide +kernel
theorem dX7_digest_32 : decode cX7_digest 32 = .ok (.getfield 7, 3) := by decide +kernel
theorem dX7_digest_35 : decode cX7_digest 35 = .ok (.bipush 40, 2) := by decide +kernel
theorem dX7_digest_37 : decode cX7_digest 37 = .ok (.iconst 4, 1) := by decide +kernel
theorem dX7_digest_38 : decode cX7_digest 38 = .ok (.aload_n 0, 1) := by decide +kernel
theorem dX7_digest_39 : decode cX7_digest 39 = .ok (.getfield 7, 3) := by decide +kernel
theorem dX7_digest_42 : decode cX7_digest 42 = .ok (.iconst 0, 1) := by decide +kernel
theorem dX7_digest_43 : decode cX7_digest 43 = .ok (.iaload, 1) := by decide +kernel
theorem dX7_digest_44 : decode cX7_digest 44 = .ok (.imul, 1) := by decide +kernel
theorem dX7_digest_45 : decode cX7_digest 45 = .ok (.invokestatic 329, 3) := by decide +kernel
theorem dX7_digest_48 : decode cX7_digest 48 = .ok (.lstore_n 1, 1) := by decide +kernel
theorem dX7_digest_49 : decode cX7_digest 49 = .ok (.lload_n 1, 1) := by decide +kernel
theorem dX7_digest_50 : decode cX7_digest 50 = .ok (.aload_n 0, 1) := by decide +kernel
theorem dX7_digest_51 : decode cX7_digest 51 = .ok (.getfield 7, 3) := by decide +kernel
theorem dX7_digest_54 : decode cX7_digest 54 = .ok (.iconst 2, 1) := by decide +kernel
theorem dX7_digest_55 : decode cX7_digest 55 = .ok (.bipush 7, 2) := by decide +kernel
theorem dX7_digest_57 : decode cX7_digest 57 = .ok (.invokestatic 329, 3) := by decide +kernel
theorem dX7_digest_60 : decode cX7_digest 60 = .ok (.lstore_n 1, 1) := by decide +kernel
theorem dX7_digest_61 : decode cX7_digest 61 = .ok (.lload_n 1, 1) := by decide +kernel
theorem dX7_digest_62 : decode cX7_digest 62 = .ok (.aload_n 0, 1) := by decide +kernel
theorem dX7_digest_63 : decode cX7_digest 63 = .ok (.getfield 7, 3) := by decide +kernel
theorem dX7_digest_66 : decode cX7_digest 66 = .ok (.bipush 10, 2) := by decide +kernel
theorem dX7_digest_68 : decode cX7_digest 68 = .ok (.bipush 21, 2) := by decide +kernel
theorem dX7_digest_70 : decode cX7_digest 70 = .ok (.invokestatic 329, 3) := by decide +kernel
theorem dX7_digest_73 : decode cX7_digest 73 = .ok (.lstore_n 1, 1) := by decide +kernel
theorem dX7_digest_74 : decode cX7_digest 74 = .ok (.lload_n 1, 1) := by decide +kernel
theorem dX7_digest_75 : decode cX7_digest 75 = .ok (.aload_n 0, 1) := by decide +kernel
theorem dX7_digest_76 : decode cX7_digest 76 = .ok (.getfield 7, 3) := by decide +kernel
theorem dX7_digest_79 : decode cX7_digest 79 = .ok (.bipush 60, 2) := by decide +kernel
theorem dX7_digest_81 : decode cX7_digest 81 = .ok (.iconst 4, 1) := by decide +kernel
theorem dX7_digest_82 : decode cX7_digest 82 = .ok (.aload_n 0, 1) := by decide +kernel
theorem dX7_digest_83 : decode cX7_digest 83 = .ok (.getfield 7, 3) := by decide +kernel
theorem dX7_digest_86 : decode cX7_digest 86 = .ok (.iconst 1, 1) := by decide +kernel
theorem dX7_digest_87 : decode cX7_digest 87 = .ok (.iaload, 1) := by decide +kernel
theorem dX7_digest_88 : decode cX7_digest 88 = .ok (.imul, 1) := by decide +kernel
theorem dX7_digest_89 : decode cX7_digest 89 = .ok (.invokestatic 329, 3) := by decide +kernel
theorem dX7_digest_92 : decode cX7_digest 92 = .ok (.lstore_n 1, 1) := by decide +kernel
theorem dX7_digest_93 : decode cX7_digest 93 = .ok (.lload_n 1, 1) := by decide +kernel
theorem dX7_digest_94 : decode cX7_digest 94 = .ok (.aload_n 0, 1) := by decide +kernel
theorem dX7_digest_95 : decode cX7_digest 95 = .ok (.getfield 7, 3) := by decide +kernel
theorem dX7_digest_98 : decode cX7_digest 98 = .ok (.sipush 150, 3) := by decide +kernel
theorem dX7_digest_101 : decode cX7_digest 101 = .ok (.bipush 48, 2) := by decide +kernel
theorem dX7_digest_103 : decode cX7_digest 103 = .ok (.invokestatic 329, 3) := by decide +kernel
theorem dX7_digest_106 : decode cX7_digest 106 = .ok (.lstore_n 1, 1) := by decide +kernel
theorem dX7_digest_107 : decode cX7_digest 107 = .ok (.ldc2_w 325, 3) := by decide +kernel
theorem dX7_digest_110 : decode cX7_digest 110 = .ok (.lload_n 1, 1) := by decide +kernel
theorem dX7_digest_111 : decode cX7_digest 111 = .ok (.lmul, 1) := by decide +kernel
theorem dX7_digest_112 : decode cX7_digest 112 = .ok (.aload_n 0, 1) := by decide +kernel
theorem dX7_digest_113 : decode cX7_digest 113 = .ok (.getfield 29, 3) := by decide +kernel
theorem dX7_digest_116 : decode cX7_digest 116 = .ok (.iconst 0, 1) := by decide +kernel
theorem dX7_digest_117 : decode cX7_digest 117 = .ok (.iaload, 1) := by decide +kernel
theorem dX7_digest_118 : decode cX7_digest 118 = .ok (.ifCond .le 7, 3) := by decide +kernel
theorem dX7_digest_121 : decode cX7_digest 121 = .ok (.iconst 1, 1) := by decide +kernel
theorem dX7_digest_122 : decode cX7_digest 122 = .ok (.goto 4, 3) := by decide +kernel
theorem dX7_digest_125 : decode cX7_digest 125 = .ok (.iconst 0, 1) := by decide +kernel
theorem dX7_digest_126 : decode cX7_digest 126 = .ok (.i2l, 1) := by decide +kernel
theorem dX7_digest_127 : decode cX7_digest 127 = .ok (.ladd, 1) := by decide +kernel
theorem dX7_digest_128 : decode cX7_digest 128 = .ok (.lstore_n 1, 1) := by decide +kernel
theorem dX7_digest_129 : decode cX7_digest 129 = .ok (.ldc2_w 325, 3) := by decide +kernel
theorem dX7_digest_132 : decode cX7_digest 132 = .ok (.ldc2_w 325, 3) := by decide +kernel
theorem dX7_digest_135 : decode cX7_digest 135 = .ok (.lload_n 1, 1) := by decide +kernel
theorem dX7_digest_136 : decode cX7_digest 136 = .ok (.lmul, 1) := by decide +kernel
theorem dX7_digest_137 : decode cX7_digest 137 = .ok (.aload_n 0, 1) := by decide +kernel
theorem dX7_digest_138 : decode cX7_digest 138 = .ok (.getfield 29, 3) := by decide +kernel
theorem dX7_digest_141 : decode cX7_digest 141 = .ok (.iconst 0, 1) := by decide +kernel
theorem dX7_digest_142 : decode cX7_digest 142 = .ok (.iaload, 1) := by decide +kernel
theorem dX7_digest_143 : decode cX7_digest 143 = .ok (.i2l, 1) := by decide +kernel
theorem dX7_digest_144 : decode cX7_digest 144 = .ok (.ladd, 1) := by decide +kernel
theorem dX7_digest_145 : decode cX7_digest 145 = .ok (.lmul, 1) := by decide +kernel
theorem dX7_digest_146 : decode cX7_digest 146 = .ok (.aload_n 0, 1) := by decide +kernel
theorem dX7_digest_147 : decode cX7_digest 147 = .ok (.getfield 29, 3) := by decide +kernel
theorem dX7_digest_150 : decode cX7_digest 150 = .ok (.iconst 1, 1) := by decide +kernel
theorem dX7_digest_151 : decode cX7_digest 151 = .ok (.iaload, 1) := by decide +kernel
theorem dX7_digest_152 : decode cX7_digest 152 = .ok (.i2l, 1) := by decide +kernel
theorem dX7_digest_153 : decode cX7_digest 153 = .ok (.ladd, 1) := by decide +kernel
theorem dX7_digest_154 : decode cX7_digest 154 = .ok (.lstore_n 1, 1) := by decide +kernel
theorem dX7_digest_155 : decode cX7_digest 155 = .ok (.lload_n 1, 1) := by decide +kernel
theorem dX7_digest_156 : decode cX7_digest 156 = .ok (.aload_n 0, 1) := by decide +kernel
theorem dX7_digest_157 : decode cX7_digest 157 = .ok (.getfield 26, 3) := by decide +kernel
theorem dX7_digest_160 : decode cX7_digest 160 = .ok (.iconst 0, 1) := by decide +kernel
theorem dX7_digest_161 : decode cX7_digest 161 = .ok (.aload_n 0, 1) := by decide +kernel
theorem dX7_digest_162 : decode cX7_digest 162 = .ok (.getfield 29, 3) := by decide +kernel
theorem dX7_digest_165 : decode cX7_digest 165 = .ok (.iconst 0, 1) := by decide +kernel
theorem dX7_digest_166 : decode cX7_digest 166 = .ok (.iaload, 1) := by decide +kernel
theorem dX7_digest_167 : decode cX7_digest 167 = .ok (.invokestatic 329, 3) := by decide +kernel
theorem dX7_digest_170 : decode cX7_digest 170 = .ok (.lstore_n 1, 1) := by decide +kernel
theorem dX7_digest_171 : decode cX7_digest 171 = .ok (.lload_n 1, 1) := by decide +kernel
theorem dX7_digest_172 : decode cX7_digest 172 = .ok (.aload_n 0, 1) := by decide +kernel
theorem dX7_digest_173 : decode cX7_digest 173 = .ok (.getfield 26, 3) := by decide +kernel
theorem dX7_digest_176 : decode cX7_digest 176 = .ok (.bipush 40, 2) := by decide +kernel
theorem dX7_digest_178 : decode cX7_digest 178 = .ok (.aload_n 0, 1) := by decide +kernel
theorem dX7_digest_179 : decode cX7_digest 179 = .ok (.getfield 29, 3) := by decide +kernel
theorem dX7_digest_182 : decode cX7_digest 182 = .ok (.iconst 1, 1) := by decide +kernel
theorem dX7_digest_183 : decode cX7_digest 183 = .ok (.iaload, 1) := by decide +kernel
theorem dX7_digest_184 : decode cX7_digest 184 = .ok (.invokestatic 329, 3) := by decide +kernel
theorem dX7_digest_187 : decode cX7_digest 187 = .ok (.lreturn, 1) := by decide +kernel
theorem dJ6_bitCount_0f7a4_0 : decode cJ6_bitCount_0f7a4 0 = .ok (.iload_n 0, 1) := by decide +kernel
theorem dJ6_bitCount_0f7a4_1 : decode cJ6_bitCount_0f7a4 1 = .ok (.iload_n 0, 1) := by decide +kernel
theorem dJ6_bitCount_0f7a4_2 : decode cJ6_bitCount_0f7a4 2 = .ok (.iconst 1, 1) := by decide +kernel
theorem dJ6_bitCount_0f7a4_3 : decode cJ6_bitCount_0f7a4 3 = .ok (.iushr, 1) := by decide +kernel
theorem dJ6_bitCount_0f7a4_4 : decode cJ6_bitCount_0f7a4 4 = .ok (.ldc_w 265, 3) := by decide +kernel
theorem dJ6_bitCount_0f7a4_7 : decode cJ6_bitCount_0f7a4 7 = .ok (.iand, 1) := by decide +kernel
theorem dJ6_bitCount_0f7a4_8 : decode cJ6_bitCount_0f7a4 8 = .ok (.isub, 1) := by decide +kernel
theorem dJ6_bitCount_0f7a4_9 : decode cJ6_bitCount_0f7a4 9 = .ok (.istore_n 0, 1) := by decide +kernel
theorem dJ6_bitCount_0f7a4_10 : decode cJ6_bitCount_0f7a4 10 = .ok (.iload_n 0, 1) := by decide +kernel
theorem dJ6_bitCount_0f7a4_11 : decode cJ6_bitCount_0f7a4 11 = .ok (.ldc_w 266, 3) := by decide +kernel
theorem dJ6_bitCount_0f7a4_14 : decode cJ6_bitCount_0f7a4 14 = .ok (.iand, 1) := by decide +kernel
theorem dJ6_bitCount_0f7a4_15 : decode cJ6_bitCount_0f7a4 15 = .ok (.iload_n 0, 1) := by decide +kernel
theorem dJ6_bitCount_0f7a4_16 : decode cJ6_bitCount_0f7a4 16 = .ok (.iconst 2, 1) := by decide +kernel
theorem dJ6_bitCount_0f7a4_17 : decode cJ6_bitCount_0f7a4 17 = .ok (.iushr, 1) := by decide +kernel
theorem dJ6_bitCount_0f7a4_18 : decode cJ6_bitCount_0f7a4 18 = .ok (.ldc_w 266, 3) := by decide +kernel
theorem dJ6_bitCount_0f7a4_21 : decode cJ6_bitCount_0f7a4 21 = .ok (.iand, 1) := by decide +kernel
theorem dJ6_bitCount_0f7a4_22 : decode cJ6_bitCount_0f7a4 22 = .ok (.iadd, 1) := by decide +kernel
theorem dJ6_bitCount_0f7a4_23 : decode cJ6_bitCount_0f7a4 23 = .ok (.istore_n 0, 1) := by decide +kernel
theorem dJ6_bitCount_0f7a4_24 : decode cJ6_bitCount_0f7a4 24 = .ok (.iload_n 0, 1) := by decide +kernel
theorem dJ6_bitCount_0f7a4_25 : decode cJ6_bitCount_0f7a4 25 = .ok (.iload_n 0, 1) := by decide +kernel
theorem dJ6_bitCount_0f7a4_26 : decode cJ6_bitCount_0f7a4 26 = .ok (.iconst 4, 1) := by decide +kernel
theorem dJ6_bitCount_0f7a4_27 : decode cJ6_bitCount_0f7a4 27 = .ok (.iushr, 1) := by decide +kernel
theorem dJ6_bitCount_0f7a4_28 : decode cJ6_bitCount_0f7a4 28 = .ok (.iadd, 1) := by decide +kernel
theorem dJ6_bitCount_0f7a4_29 : decode cJ6_bitCount_0f7a4 29 = .ok (.ldc_w 267, 3) := by decide +kernel
theorem dJ6_bitCount_0f7a4_32 : decode cJ6_bitCount_0f7a4 32 = .ok (.iand, 1) := by decide +kernel
theorem dJ6_bitCount_0f7a4_33 : decode cJ6_bitCount_0f7a4 33 = .ok (.istore_n 0, 1) := by decide +kernel
theorem dJ6_bitCount_0f7a4_34 : decode cJ6_bitCount_0f7a4 34 = .ok (.iload_n 0, 1) := by decide +kernel
theorem dJ6_bitCount_0f7a4_35 : decode cJ6_bitCount_0f7a4 35 = .ok (.iload_n 0, 1) := by decide +kernel
theorem dJ6_bitCount_0f7a4_36 : decode cJ6_bitCount_0f7a4 36 = .ok (.bipush 8, 2) := by decide +kernel
theorem dJ6_bitCount_0f7a4_38 : decode cJ6_bitCount_0f7a4 38 = .ok (.iushr, 1) := by decide +kernel
theorem dJ6_bitCount_0f7a4_39 : decode cJ6_bitCount_0f7a4 39 = .ok (.iadd, 1) := by decide +kernel
theorem dJ6_bitCount_0f7a4_40 : decode cJ6_bitCount_0f7a4 40 = .ok (.istore_n 0, 1) := by decide +kernel
theorem dJ6_bitCount_0f7a4_41 : decode cJ6_bitCount_0f7a4 41 = .ok (.iload_n 0, 1) := by decide +kernel
theorem dJ6_bitCount_0f7a4_42 : decode cJ6_bitCount_0f7a4 42 = .ok (.iload_n 0, 1) := by decide +kernel
theorem dJ6_bitCount_0f7a4_43 : decode cJ6_bitCount_0f7a4 43 = .ok (.bipush 16, 2) := by decide +kernel
theorem dJ6_bitCount_0f7a4_45 : decode cJ6_bitCount_0f7a4 45 = .ok (.iushr, 1) := by decide +kernel
theorem dJ6_bitCount_0f7a4_46 : decode cJ6_bitCount_0f7a4 46 = .ok (.iadd, 1) := by decide +kernel
theorem dJ6_bitCount_0f7a4_47 : decode cJ6_bitCount_0f7a4 47 = .ok (.istore_n 0, 1) := by decide +kernel
theorem dJ6_bitCount_0f7a4_48 : decode cJ6_bitCount_0f7a4 48 = .ok (.iload_n 0, 1) := by decide +kernel
theorem dJ6_bitCount_0f7a4_49 : decode cJ6_bitCount_0f7a4 49 = .ok (.bipush 63, 2) := by decide +kernel
theorem dJ6_bitCount_0f7a4_51 : decode cJ6_bitCount_0f7a4 51 = .ok (.iand, 1) := by decide +kernel
theorem dJ6_bitCount_0f7a4_52 : decode cJ6_bitCount_0f7a4 52 = .ok (.ireturn, 1) := by decide +kernel
theorem dL_law_0 : decode cL_law 0 = .ok (.new 7, 3) := by decide +kernel
theorem dL_law_3 : decode cL_law 3 = .ok (.dup, 1) := by decide +kernel
theorem dL_law_4 : decode cL_law 4 = .ok (.invokespecial 9, 3) := by decide +kernel
theorem dL_law_7 : decode cL_law 7 = .ok (.astore_n 1, 1) := by decide +kernel
theorem dL_law_8 : decode cL_law 8 = .ok (.new 10, 3) := by decide +kernel
theorem dL_law_11 : decode cL_law 11 = .ok (.dup, 1) := by decide +kernel
theorem dL_law_12 : decode cL_law 12 = .ok (.invokespecial 12, 3) := by decide +kernel
theorem dL_law_15 : decode cL_law 15 = .ok (.astore_n 2, 1) := by decide +kernel
theorem dL_law_16 : decode cL_law 16 = .ok (.iconst 0, 1) := by decide +kernel
theorem dL_law_17 : decode cL_law 17 = .ok (.istore_n 3, 1) := by decide +kernel
theorem dL_law_18 : decode cL_law 18 = .ok (.iload_n 3, 1) := by decide +kernel
theorem dL_law_19 : decode cL_law 19 = .ok (.aload_n 0, 1) := by decide +kernel
theorem dL_law_20 : decode cL_law 20 = .ok (.arraylength, 1) := by decide +kernel
theorem dL_law_21 : decode cL_law 21 = .ok (.iconst 5, 1) := by decide +kernel
theorem dL_law_22 : decode cL_law 22 = .ok (.isub, 1) := by decide +kernel
theorem dL_law_23 : decode cL_law 23 = .ok (.if_icmp .gt 1031, 3) := by decide +kernel
theorem dL_law_26 : decode cL_law 26 = .ok (.aload_n 0, 1) := by decide +kernel
theorem dL_law_27 : decode cL_law 27 = .ok (.iload_n 3, 1) := by decide +kernel
theorem dL_law_28 : decode cL_law 28 = .ok (.iaload, 1) := by decide +kernel
theorem dL_law_29 : decode cL_law 29 = .ok (.bipush 31, 2) := by decide +kernel
theorem dL_law_31 : decode cL_law 31 = .ok (.iand, 1) := by decide +kernel
theorem dL_law_32 : decode cL_law 32 = .ok (.tableswitch 1016 0 28 #[132, 185, 218, 251, 294, 343, 376, 439, 452, 465, 508, 551, 584, 617, 640, 673, 696, 729, 752, 765, 788, 821, 854, 877, 910, 933, 956, 979, 1002], 132) := by decide +kernel
theorem dL_law_164 : decode cL_law 164 = .ok (.aload_n 1, 1) := by decide +kernel
theorem dL_law_165 : decode cL_law 165 = .ok (.aload_n 0, 1) := by decide +kernel
theorem dL_law_166 : decode cL_law 166 = .ok (.iload_n 3, 1) := by decide +kernel
theorem dL_law_167 : decode cL_law 167 = .ok (.iconst 1, 1) := by decide +kernel
theorem dL_law_168 : decode cL_law 168 = .ok (.iadd, 1) := by decide +kernel
theorem dL_law_169 : decode cL_law 169 = .ok (.iaload, 1) := by decide +kernel
theorem dL_law_170 : decode cL_law 170 = .ok (.aload_n 0, 1) := by decide +kernel
theorem dL_law_171 : decode cL_law 171 = .ok (.iload_n 3, 1) := by decide +kernel
theorem dL_law_172 : decode cL_law 172 = .ok (.iconst 2, 1) := by decide +kernel
theorem dL_law_173 : decode cL_law 173 = .ok (.iadd, 1) := by decide +kernel
theorem dL_law_174 : decode cL_law 174 = .ok (.iaload, 1) := by decide +kernel
theorem dL_law_175 : decode cL_law 175 = .ok (.aload_n 0, 1) := by decide +kernel
theorem dL_law_176 : decode cL_law 176 = .ok (.iload_n 3, 1) := by decide +kernel
theorem dL_law_177 : decode cL_law 177 = .ok (.iconst 3, 1) := by decide +kernel
theorem dL_law_178 : decode cL_law 178 = .ok (.iadd, 1) := by decide +kernel
theorem dL_law_179 : decode cL_law 179 = .ok (.iaload, 1) := by decide +kernel
theorem dL_law_180 : decode cL_law 180 = .ok (.aload_n 0, 1) := by decide +kernel
theorem dL_law_181 : decode cL_law 181 = .ok (.iload_n 3, 1) := by decide +kernel
theorem dL_law_182 : decode cL_law 182 = .ok (.iconst 4, 1) := by decide +kernel
theorem dL_law_183 : decode cL_law 183 = .ok (.iadd, 1) := by decide +kernel
theorem dL_law_184 : decode cL_law 184 = .ok (.iaload, 1) := by decide +kernel
theorem dL_law_185 : decode cL_law 185 = .ok (.invokevirtual 13, 3) := by decide +kernel
theorem dL_law_188 : decode cL_law 188 = .ok (.aload_n 2, 1) := by decide +kernel
theorem dL_law_189 : decode cL_law 189 = .ok (.aload_n 0, 1) := by decide +kernel
theorem dL_law_190 : decode cL_law 190 = .ok (.iload_n 3, 1) := by decide +kernel
theorem dL_law_191 : decode cL_law 191 = .ok (.iconst 1, 1) := by decide +kernel
theorem dL_law_192 : decode cL_law 192 = .ok (.iadd, 1) := by decide +kernel
theorem dL_law_193 : decode cL_law 193 = .ok (.iaload, 1) := by decide +kernel
theorem dL_law_194 : decode cL_law 194 = .ok (.aload_n 0, 1) := by decide +kernel
theorem dL_law_195 : decode cL_law 195 = .ok (.iload_n 3, 1) := by decide +kernel
theorem dL_law_196 : decode cL_law 196 = .ok (.iconst 2, 1) := by decide +kernel
theorem dL_law_197 : decode cL_law 197 = .ok (.iadd, 1) := by decide +kernel
theorem dL_law_198 : decode cL_law 198 = .ok (.iaload, 1) := by decide +kernel
theorem dL_law_199 : decode cL_law 199 = .ok (.aload_n 0, 1) := by decide +kernel
theorem dL_law_200 : decode cL_law 200 = .ok (.iload_n 3, 1) := by decide +kernel
theorem dL_law_201 : decode cL_law 201 = .ok (.iconst 3, 1) := by decide +kernel
theorem dL_law_202 : decode cL_law 202 = .ok (.iadd, 1) := by decide +kernel
theorem dL_law_203 : decode cL_law 203 = .ok (.iaload, 1) := by decide +kernel
theorem dL_law_204 : decode cL_law 204 = .ok (.aload_n 0, 1) := by decide +kernel
theorem dL_law_205 : decode cL_law 205 = .ok (.iload_n 3, 1) := by decide +kernel
theorem dL_law_206 : decode cL_law 206 = .ok (.iconst 4, 1) := by decide +kernel
theorem dL_law_207 : decode cL_law 207 = .ok (.iadd, 1) := by decide +kernel
theorem dL_law_208 : decode cL_law 208 = .ok (.iaload, 1) := by decide +kernel
theorem dL_law_209 : decode cL_law 209 = .ok (.invokevirtual 17, 3) := by decide +kernel
theorem dL_law_212 : decode cL_law 212 = .ok (.if_icmp .eq 836, 3) := by decide +kernel
theorem dL_law_215 : decode cL_law 215 = .ok (.iconst 0, 1) := by decide +kernel
theorem dL_law_216 : decode cL_law 216 = .ok (.ireturn, 1) := by decide +kernel
theorem dL_law_217 : decode cL_law 217 = .ok (.aload_n 1, 1) := by decide +kernel
theorem dL_law_218 : decode cL_law 218 = .ok (.aload_n 0, 1) := by decide +kernel
theorem dL_law_219 : decode cL_law 219 = .ok (.iload_n 3, 1) := by decide +kernel
theorem dL_law_220 : decode cL_law 220 = .ok (.iconst 1, 1) := by decide +kernel
theorem dL_law_221 : decode cL_law 221 = .ok (.iadd, 1) := by decide +kernel
theorem dL_law_222 : decode cL_law 222 = .ok (.iaload, 1) := by decide +kernel
theorem dL_law_223 : decode cL_law 223 = .ok (.aload_n 0, 1) := by decide +kernel
theorem dL_law_224 : decode cL_law 224 = .ok (.iload_n 3, 1) := by decide +kernel
theorem dL_law_225 : decode cL_law 225 = .ok (.iconst 2, 1) := by decide +kernel
theorem dL_law_226 : decode cL_law 226 = .ok (.iadd, 1) := by decide +kernel
theorem dL_law_227 : decode cL_law 227 = .ok (.iaload, 1) := by decide +kernel
theorem dL_law_228 : decode cL_law 228 = .ok (.invokevirtual 18, 3) := by decide +kernel
theorem dL_law_231 : decode cL_law 231 = .ok (.aload_n 2, 1) := by decide +kernel
theorem dL_law_232 : decode cL_law 232 = .ok (.aload_n 0, 1) := by decide +kernel
theorem dL_law_233 : decode cL_law 233 = .ok (.iload_n 3, 1) := by decide +kernel
theorem dL_law_234 : decode cL_law 234 = .ok (.iconst 1, 1) := by decide +kernel
theorem dL_law_235 : decode cL_law 235 = .ok (.iadd, 1) := by decide +kernel
theorem dL_law_236 : decode cL_law 236 = .ok (.iaload, 1) := by decide +kernel
theorem dL_law_237 : decode cL_law 237 = .ok (.aload_n 0, 1) := by decide +kernel
theorem dL_law_238 : decode cL_law 238 = .ok (.iload_n 3, 1) := by decide +kernel
theorem dL_law_239 : decode cL_law 239 = .ok (.iconst 2, 1) := by decide +kernel
theorem dL_law_240 : decode cL_law 240 = .ok (.iadd, 1) := by decide +kernel
theorem dL_law_241 : decode cL_law 241 = .ok (.iaload, 1) := by decide +kernel
theorem dL_law_242 : decode cL_law 242 = .ok (.invokevirtual 22, 3) := by decide +kernel
theorem dL_law_245 : decode cL_law 245 = .ok (.if_icmp .eq 803, 3) := by decide +kernel
theorem dL_law_248 : decode cL_law 248 = .ok (.iconst 0, 1) := by decide +kernel
theorem dL_law_249 : decode cL_law 249 = .ok (.ireturn, 1) := by decide +kernel
theorem dL_law_250 : decode cL_law 250 = .ok (.aload_n 1, 1) := by decide +kernel
theorem dL_law_251 : decode cL_law 251 = .ok (.aload_n 0, 1) := by decide +kernel
theorem dL_law_252 : decode cL_law 252 = .ok (.iload_n 3, 1) := by decide +kernel
theorem dL_law_253 : decode cL_law 253 = .ok (.iconst 1, 1) := by decide +kernel
theorem dL_law_254 : decode cL_law 254 = .ok (.iadd, 1) := by decide +kernel
theorem dL_law_255 : decode cL_law 255 = .ok (.iaload, 1) := by decide +kernel
theorem dL_law_256 : decode cL_law 256 = .ok (.aload_n 0, 1) := by decide +kernel
theorem dL_law_257 : decode cL_law 257 = .ok (.iload_n 3, 1) := by decide +kernel
theorem dL_law_258 : decode cL_law 258 = .ok (.iconst 2, 1) := by decide +kernel
theorem dL_law_259 : decode cL_law 259 = .ok (.iadd, 1) := by decide +kernel
theorem dL_law_260 : decode cL_law 260 = .ok (.iaload, 1) := by decide +kernel
theorem dL_law_261 : decode cL_law 261 = .ok (.invokevirtual 23, 3) := by decide +kernel
theorem dL_law_264 : decode cL_law 264 = .ok (.aload_n 2, 1) := by decide +kernel
theorem dL_law_265 : decode cL_law 265 = .ok (.aload_n 0, 1) := by decide +kernel
theorem dL_law_266 : decode cL_law 266 = .ok (.iload_n 3, 1) := by decide +kernel
theorem dL_law_267 : decode cL_law 267 = .ok (.iconst 1, 1) := by decide +kernel
theorem dL_law_268 : decode cL_law 268 = .ok (.iadd, 1) := by decide +kernel
theorem dL_law_269 : decode cL_law 269 = .ok (.iaload, 1) := by decide +kernel
theorem dL_law_270 : decode cL_law 270 = .ok (.aload_n 0, 1) := by decide +kernel
theorem dL_law_271 : decode cL_law 271 = .ok (.iload_n 3, 1) := by decide +kernel
theorem dL_law_272 : decode cL_law 272 = .ok (.iconst 2, 1) := by decide +kernel
theorem dL_law_273 : decode cL_law 273 = .ok (.iadd, 1) := by decide +kernel
theorem dL_law_274 : decode cL_law 274 = .ok (.iaload, 1) := by decide +kernel
theorem dL_law_275 : decode cL_law 275 = .ok (.invokevirtual 26, 3) := by decide +kernel
theorem dL_law_278 : decode cL_law 278 = .ok (.if_icmp .eq 770, 3) := by decide +kernel
theorem dL_law_281 : decode cL_law 281 = .ok (.iconst 0, 1) := by decide +kernel
theorem dL_law_282 : decode cL_law 282 = .ok (.ireturn, 1) := by decide +kernel
theorem dL_law_283 : decode cL_law 283 = .ok (.aload_n 1, 1) := by decide +kernel
theorem dL_law_284 : decode cL_law 284 = .ok (.aload_n 0, 1) := by decide +kernel
theorem dL_law_285 : decode cL_law 285 = .ok (.iload_n 3, 1) := by decide +kernel
theorem dL_law_286 : decode cL_law 286 = .ok (.iconst 1, 1) := by decide +kernel
theorem dL_law_287 : decode cL_law 287 = .ok (.iadd, 1) := by decide +kernel
theorem dL_law_288 : decode cL_law 288 = .ok (.iaload, 1) := by decide +kernel
theorem dL_law_289 : decode cL_law 289 = .ok (.aload_n 0, 1) := by decide +kernel
theorem dL_law_290 : decode cL_law 290 = .ok (.iload_n 3, 1) := by decide +kernel
theorem dL_law_291 : decode cL_law 291 = .ok (.iconst 2, 1) := by decide +kernel
theorem dL_law_292 : decode cL_law 292 = .ok (.iadd, 1) := by decide +kernel
theorem dL_law_293 : decode cL_law 293 = .ok (.iaload, 1) := by decide +kernel
theorem dL_law_294 : decode cL_law 294 = .ok (.aload_n 0, 1) := by decide +kernel
theorem dL_law_295 : decode cL_law 295 = .ok (.iload_n 3, 1) := by decide +kernel
theorem dL_law_296 : decode cL_law 296 = .ok (.iconst 3, 1) := by decide +kernel
theorem dL_law_297 : decode cL_law 297 = .ok (.iadd, 1) := by decide +kernel
theorem dL_law_298 : decode cL_law 298 = .ok (.iaload, 1) := by decide +kernel
theorem dL_law_299 : decode cL_law 299 = .ok (.invokevirtual 27, 3) := by decide +kernel
theorem dL_law_302 : decode cL_law 302 = .ok (.aload_n 2, 1) := by decide +kernel
theorem dL_law_303 : decode cL_law 303 = .ok (.aload_n 0, 1) := by decide +kernel
theorem dL_law_304 : decode cL_law 304 = .ok (.iload_n 3, 1) := by decide +kernel
theorem dL_law_305 : decode cL_law 305 = .ok (.iconst 1, 1) := by decide +kernel
theorem dL_law_306 : decode cL_law 306 = .ok (.iadd, 1) := by decide +kernel
theorem dL_law_307 : decode cL_law 307 = .ok (.iaload, 1) := by decide +kernel
theorem dL_law_308 : decode cL_law 308 = .ok (.aload_n 0, 1) := by decide +kernel
theorem dL_law_309 : decode cL_law 309 = .ok (.iload_n 3, 1) := by decide +kernel
theorem dL_law_310 : decode cL_law 310 = .ok (.iconst 2, 1) := by decide +kernel
theorem dL_law_311 : decode cL_law 311 = .ok (.iadd, 1) := by decide +kernel
theorem dL_law_312 : decode cL_law 312 = .ok (.iaload, 1) := by decide +kernel
theorem dL_law_313 : decode cL_law 313 = .ok (.aload_n 0, 1) := by decide +kernel
theorem dL_law_314 : decode cL_law 314 = .ok (.iload_n 3, 1) := by decide +kernel
theorem dL_law_315 : decode cL_law 315 = .ok (.iconst 3, 1) := by decide +kernel
theorem dL_law_316 : decode cL_law 316 = .ok (.iadd, 1) := by decide +kernel
theorem dL_law_317 : decode cL_law 317 = .ok (.iaload, 1) := by decide +kernel
theorem dL_law_318 : decode cL_law 318 = .ok (.invokevirtual 31, 3) := by decide +kernel
theorem dL_law_321 : decode cL_law 321 = .ok (.if_icmp .eq 727, 3) := by decide +kernel
theorem dL_law_324 : decode cL_law 324 = .ok (.iconst 0, 1) := by decide +kernel
theorem dL_law_325 : decode cL_law 325 = .ok (.ireturn, 1) := by decide +kernel
theorem dL_law_326 : decode cL_law 326 = .ok (.aload_n 1, 1) := by decide +kernel
theorem dL_law_327 : decode cL_law 327 = .ok (.aload_n 0, 1) := by decide +kernel
theorem dL_law_328 : decode cL_law 328 = .ok (.iload_n 3, 1) := by decide +kernel
theorem dL_law_329 : decode cL_law 329 = .ok (.iconst 1, 1) := by decide +kernel
theorem dL_law_330 : decode cL_law 330 = .ok (.iadd, 1) := by decide +kernel
theorem dL_law_331 : decode cL_law 331 = .ok (.iaload, 1) := by decide +kernel
theorem dL_law_332 : decode cL_law 332 = .ok (.aload_n 0, 1) := by decide +kernel
theorem dL_law_333 : decode cL_law 333 = .ok (.iload_n 3, 1) := by decide +kernel
theorem dL_law_334 : decode cL_law 334 = .ok (.iconst 2, 1) := by decide +kernel
theorem dL_law_335 : decode cL_law 335 = .ok (.iadd, 1) := by decide +kernel
theorem dL_law_336 : decode cL_law 336 = .ok (.iaload, 1) := by decide +kernel
theorem dL_law_337 : decode cL_law 337 = .ok (.ifCond .eq 7, 3) := by decide +kernel
theorem dL_law_340 : decode cL_law 340 = .ok (.iconst 1, 1) := by decide +kernel
theorem dL_law_341 : decode cL_law 341 = .ok (.goto 4, 3) := by decide +kernel
theorem dL_law_344 : decode cL_law 344 = .ok (.iconst 0, 1) := by decide +kernel
theorem dL_law_345 : decode cL_law 345 = .ok (.invokevirtual 32, 3) := by decide +kernel
theorem dL_law_348 : decode cL_law 348 = .ok (.aload_n 2, 1) := by decide +kernel
theorem dL_law_349 : decode cL_law 349 = .ok (.aload_n 0, 1) := by decide +kernel
theorem dL_law_350 : decode cL_law 350 = .ok (.iload_n 3, 1) := by decide +kernel
theorem dL_law_351 : decode cL_law 351 = .ok (.iconst 1, 1) := by decide +kernel
theorem dL_law_352 : decode cL_law 352 = .ok (.iadd, 1) := by decide +kernel
theorem dL_law_353 : decode cL_law 353 = .ok (.iaload, 1) := by decide +kernel
theorem dL_law_354 : decode cL_law 354 = .ok (.aload_n 0, 1) := by decide +kernel
theorem dL_law_355 : decode cL_law 355 = .ok (.iload_n 3, 1) := by decide +kernel
theorem dL_law_356 : decode cL_law 356 = .ok (.iconst 2, 1) := by decide +kernel
theorem dL_law_357 : decode cL_law 357 = .ok (.iadd, 1) := by decide +kernel
theorem dL_law_358 : decode cL_law 358 = .ok (.iaload, 1) := by decide +kernel
theorem dL_law_359 : decode cL_law 359 = .ok (.ifCond .eq 7, 3) := by decide +kernel
theorem dL_law_362 : decode cL_law 362 = .ok (.iconst 1, 1) := by decide +kernel
theorem dL_law_363 : decode cL_law 363 = .ok (.goto 4, 3) := by decide +kernel
theorem dL_law_366 : decode cL_law 366 = .ok (.iconst 0, 1) := by decide +kernel
theorem dL_law_367 : decode cL_law 367 = .ok (.invokevirtual 36, 3) := by decide +kernel
theorem dL_law_370 : decode cL_law 370 = .ok (.if_icmp .eq 678, 3) := by decide +kernel
theorem dL_law_373 : decode cL_law 373 = .ok (.iconst 0, 1) := by decide +kernel
theorem dL_law_374 : decode cL_law 374 = .ok (.ireturn, 1) := by decide +kernel
theorem dL_law_375 : decode cL_law 375 = .ok (.aload_n 1, 1) := by decide +kernel
theorem dL_law_376 : decode cL_law 376 = .ok (.aload_n 0, 1) := by decide +kernel
theorem dL_law_377 : decode cL_law 377 = .ok (.iload_n 3, 1) := by decide +kernel
theorem dL_law_378 : decode cL_law 378 = .ok (.iconst 1, 1) := by decide +kernel
theorem dL_law_379 : decode cL_law 379 = .ok (.iadd, 1) := by decide +kernel
theorem dL_law_380 : decode cL_law 380 = .ok (.iaload, 1) := by decide +kernel
theorem dL_law_381 : decode cL_law 381 = .ok (.aload_n 0, 1) := by decide +kernel
theorem dL_law_382 : decode cL_law 382 = .ok (.iload_n 3, 1) := by decide +kernel
theorem dL_law_383 : decode cL_law 383 = .ok (.iconst 2, 1) := by decide +kernel
theorem dL_law_384 : decode cL_law 384 = .ok (.iadd, 1) := by decide +kernel
theorem dL_law_385 : decode cL_law 385 = .ok (.iaload, 1) := by decide +kernel
theorem dL_law_386 : decode cL_law 386 = .ok (.invokevirtual 37, 3) := by decide +kernel
theorem dL_law_389 : decode cL_law 389 = .ok (.aload_n 2, 1) := by decide +kernel
theorem dL_law_390 : decode cL_law 390 = .ok (.aload_n 0, 1) := by decide +kernel
theorem dL_law_391 : decode cL_law 391 = .ok (.iload_n 3, 1) := by decide +kernel
theorem dL_law_392 : decode cL_law 392 = .ok (.iconst 1, 1) := by decide +kernel
theorem dL_law_393 : decode cL_law 393 = .ok (.iadd, 1) := by decide +kernel
theorem dL_law_394 : decode cL_law 394 = .ok (.iaload, 1) := by decide +kernel
theorem dL_law_395 : decode cL_law 395 = .ok (.aload_n 0, 1) := by decide +kernel
theorem dL_law_396 : decode cL_law 396 = .ok (.iload_n 3, 1) := by decide +kernel
theorem dL_law_397 : decode cL_law 397 = .ok (.iconst 2, 1) := by decide +kernel
theorem dL_law_398 : decode cL_law 398 = .ok (.iadd, 1) := by decide +kernel
theorem dL_law_399 : decode cL_law 399 = .ok (.iaload, 1) := by decide +kernel
theorem dL_law_400 : decode cL_law 400 = .ok (.invokevirtual 40, 3) := by decide +kernel
theorem dL_law_403 : decode cL_law 403 = .ok (.if_icmp .eq 645, 3) := by decide +kernel
theorem dL_law_406 : decode cL_law 406 = .ok (.iconst 0, 1) := by decide +kernel
theorem dL_law_407 : decode cL_law 407 = .ok (.ireturn, 1) := by decide +kernel
theorem dL_law_408 : decode cL_law 408 = .ok (.aload_n 1, 1) := by decide +kernel
theorem dL_law_409 : decode cL_law 409 = .ok (.aload_n 0, 1) := by decide +kernel
theorem dL_law_410 : decode cL_law 410 = .ok (.iload_n 3, 1) := by decide +kernel
theorem dL_law_411 : decode cL_law 411 = .ok (.iconst 1, 1) := by decide +kernel
theorem dL_law_412 : decode cL_law 412 = .ok (.iadd, 1) := by decide +kernel
theorem dL_law_413 : decode cL_law 413 = .ok (.iaload, 1) := by decide +kernel
theorem dL_law_414 : decode cL_law 414 = .ok (.i2l, 1) := by decide +kernel
theorem dL_law_415 : decode cL_law 415 = .ok (.bipush 32, 2) := by decide +kernel
theorem dL_law_417 : decode cL_law 417 = .ok (.lshl, 1) := by decide +kernel
theorem dL_law_418 : decode cL_law 418 = .ok (.aload_n 0, 1) := by decide +kernel
theorem dL_law_419 : decode cL_law 419 = .ok (.iload_n 3, 1) := by decide +kernel
theorem dL_law_420 : decode cL_law 420 = .ok (.iconst 2, 1) := by decide +kernel
theorem dL_law_421 : decode cL_law 421 = .ok (.iadd, 1) := by decide +kernel
theorem dL_law_422 : decode cL_law 422 = .ok (.iaload, 1) := by decide +kernel
theorem dL_law_423 : decode cL_law 423 = .ok (.i2l, 1) := by decide +kernel
theorem dL_law_424 : decode cL_law 424 = .ok (.ldc2_w 41, 3) := by decide +kernel
theorem dL_law_427 : decode cL_law 427 = .ok (.land, 1) := by decide +kernel
theorem dL_law_428 : decode cL_law 428 = .ok (.lor, 1) := by decide +kernel
theorem dL_law_429 : decode cL_law 429 = .ok (.aload_n 0, 1) := by decide +kernel
theorem dL_law_430 : decode cL_law 430 = .ok (.iload_n 3, 1) := by decide +kernel
theorem dL_law_431 : decode cL_law 431 = .ok (.iconst 3, 1) := by decide +kernel
theorem dL_law_432 : decode cL_law 432 = .ok (.iadd, 1) := by decide +kernel
theorem dL_law_433 : decode cL_law 433 = .ok (.iaload, 1) := by decide +kernel
theorem dL_law_434 : decode cL_law 434 = .ok (.invokevirtual 43, 3) := by decide +kernel
theorem dL_law_437 : decode cL_law 437 = .ok (.aload_n 2, 1) := by decide +kernel
theorem dL_law_438 : decode cL_law 438 = .ok (.aload_n 0, 1) := by decide +kernel
theorem dL_law_439 : decode cL_law 439 = .ok (.iload_n 3, 1) := by decide +kernel
theorem dL_law_440 : decode cL_law 440 = .ok (.iconst 1, 1) := by decide +kernel
theorem dL_law_441 : decode cL_law 441 = .ok (.iadd, 1) := by decide +kernel
theorem dL_law_442 : decode cL_law 442 = .ok (.iaload, 1) := by decide +kernel
theorem dL_law_443 : decode cL_law 443 = .ok (.i2l, 1) := by decide +kernel
theorem dL_law_444 : decode cL_law 444 = .ok (.bipush 32, 2) := by decide +kernel
theorem dL_law_446 : decode cL_law 446 = .ok (.lshl, 1) := by decide +kernel
theorem dL_law_447 : decode cL_law 447 = .ok (.aload_n 0, 1) := by decide +kernel
theorem dL_law_448 : decode cL_law 448 = .ok (.iload_n 3, 1) := by decide +kernel
theorem dL_law_449 : decode cL_law 449 = .ok (.iconst 2, 1) := by decide +kernel
theorem dL_law_450 : decode cL_law 450 = .ok (.iadd, 1) := by decide +kernel
theorem dL_law_451 : decode cL_law 451 = .ok (.iaload, 1) := by decide +kernel
theorem dL_law_452 : decode cL_law 452 = .ok (.i2l, 1) := by decide +kernel
theorem dL_law_453 : decode cL_law 453 = .ok (.ldc2_w 41, 3) := by decide +kernel
theorem dL_law_456 : decode cL_law 456 = .ok (.land, 1) := by decide +kernel
theorem dL_law_457 : decode cL_law 457 = .ok (.lor, 1) := by decide +kernel
theorem dL_law_458 : decode cL_law 458 = .ok (.aload_n 0, 1) := by decide +kernel
theorem dL_law_459 : decode cL_law 459 = .ok (.iload_n 3, 1) := by decide +kernel
theorem dL_law_460 : decode cL_law 460 = .ok (.iconst 3, 1) := by decide +kernel
theorem dL_law_461 : decode cL_law 461 = .ok (.iadd, 1) := by decide +kernel
theorem dL_law_462 : decode cL_law 462 = .ok (.iaload, 1) := by decide +kernel
theorem dL_law_463 : decode cL_law 463 = .ok (.invokevirtual 47, 3) := by decide +kernel
theorem dL_law_466 : decode cL_law 466 = .ok (.if_icmp .eq 582, 3) := by decide +kernel
theorem dL_law_469 : decode cL_law 469 = .ok (.iconst 0, 1) := by decide +kernel
theorem dL_law_470 : decode cL_law 470 = .ok (.ireturn, 1) := by decide +kernel
theorem dL_law_471 : decode cL_law 471 = .ok (.aload_n 1, 1) := by decide +kernel
theorem dL_law_472 : decode cL_law 472 = .ok (.invokevirtual 48, 3) := by decide +kernel
theorem dL_law_475 : decode cL_law 475 = .ok (.aload_n 2, 1) := by decide +kernel
theorem dL_law_476 : decode cL_law 476 = .ok (.invokevirtual 52, 3) := by decide +kernel
theorem dL_law_479 : decode cL_law 479 = .ok (.if_icmp .eq 569, 3) := by decide +kernel
theorem dL_law_482 : decode cL_law 482 = .ok (.iconst 0, 1) := by decide +kernel
theorem dL_law_483 : decode cL_law 483 = .ok (.ireturn, 1) := by decide +kernel
theorem dL_law_484 : decode cL_law 484 = .ok (.aload_n 1, 1) := by decide +kernel
theorem dL_law_485 : decode cL_law 485 = .ok (.invokevirtual 53, 3) := by decide +kernel
theorem dL_law_488 : decode cL_law 488 = .ok (.aload_n 2, 1) := by decide +kernel
theorem dL_law_489 : decode cL_law 489 = .ok (.invokevirtual 56, 3) := by decide +kernel
theorem dL_law_492 : decode cL_law 492 = .ok (.if_icmp .eq 556, 3) := by decide +kernel
theorem dL_law_495 : decode cL_law 495 = .ok (.iconst 0, 1) := by decide +kernel
theorem dL_law_496 : decode cL_law 496 = .ok (.ireturn, 1) := by decide +kernel
theorem dL_law_497 : decode cL_law 497 = .ok (.aload_n 1, 1) := by decide +kernel
theorem dL_law_498 : decode cL_law 498 = .ok (.aload_n 0, 1) := by decide +kernel
theorem dL_law_499 : decode cL_law 499 = .ok (.iload_n 3, 1) := by decide +kernel
theorem dL_law_500 : decode cL_law 500 = .ok (.iconst 1, 1) := by decide +kernel
theorem dL_law_501 : decode cL_law 501 = .ok (.iadd, 1) := by decide +kernel
theorem dL_law_502 : decode cL_law 502 = .ok (.iaload, 1) := by decide +kernel
theorem dL_law_503 : decode cL_law 503 = .ok (.aload_n 0, 1) := by decide +kernel
theorem dL_law_504 : decode cL_law 504 = .ok (.iload_n 3, 1) := by decide +kernel
theorem dL_law_505 : decode cL_law 505 = .ok (.iconst 2, 1) := by decide +kernel
theorem dL_law_506 : decode cL_law 506 = .ok (.iadd, 1) := by decide +kernel
theorem dL_law_507 : decode cL_law 507 = .ok (.iaload, 1) := by decide +kernel
theorem dL_law_508 : decode cL_law 508 = .ok (.aload_n 0, 1) := by decide +kernel
theorem dL_law_509 : decode cL_law 509 = .ok (.iload_n 3, 1) := by decide +kernel
theorem dL_law_510 : decode cL_law 510 = .ok (.iconst 3, 1) := by decide +kernel
theorem dL_law_511 : decode cL_law 511 = .ok (.iadd, 1) := by decide +kernel
theorem dL_law_512 : decode cL_law 512 = .ok (.iaload, 1) := by decide +kernel
theorem dL_law_513 : decode cL_law 513 = .ok (.invokevirtual 57, 3) := by decide +kernel
theorem dL_law_516 : decode cL_law 516 = .ok (.aload_n 2, 1) := by decide +kernel
theorem dL_law_517 : decode cL_law 517 = .ok (.aload_n 0, 1) := by decide +kernel
theorem dL_law_518 : decode cL_law 518 = .ok (.iload_n 3, 1) := by decide +kernel
theorem dL_law_519 : decode cL_law 519 = .ok (.iconst 1, 1) := by decide +kernel
theorem dL_law_520 : decode cL_law 520 = .ok (.iadd, 1) := by decide +kernel
theorem dL_law_521 : decode cL_law 521 = .ok (.iaload, 1) := by decide +kernel
theorem dL_law_522 : decode cL_law 522 = .ok (.aload_n 0, 1) := by decide +kernel
theorem dL_law_523 : decode cL_law 523 = .ok (.iload_n 3, 1) := by decide +kernel
theorem dL_law_524 : decode cL_law 524 = .ok (.iconst 2, 1) := by decide +kernel
theorem dL_law_525 : decode cL_law 525 = .ok (.iadd, 1) := by decide +kernel
theorem dL_law_526 : decode cL_law 526 = .ok (.iaload, 1) := by decide +kernel
theorem dL_law_527 : decode cL_law 527 = .ok (.aload_n 0, 1) := by decide +kernel
theorem dL_law_528 : decode cL_law 528 = .ok (.iload_n 3, 1) := by decide +kernel
theorem dL_law_529 : decode cL_law 529 = .ok (.iconst 3, 1) := by decide +kernel
theorem dL_law_530 : decode cL_law 530 = .ok (.iadd, 1) := by decide +kernel
theorem dL_law_531 : decode cL_law 531 = .ok (.iaload, 1) := by decide +kernel
theorem dL_law_532 : decode cL_law 532 = .ok (.invokevirtual 60, 3) := by decide +kernel
theorem dL_law_535 : decode cL_law 535 = .ok (.if_icmp .eq 513, 3) := by decide +kernel
theorem dL_law_538 : decode cL_law 538 = .ok (.iconst 0, 1) := by decide +kernel
theorem dL_law_539 : decode cL_law 539 = .ok (.ireturn, 1) := by decide +kernel
theorem dL_law_540 : decode cL_law 540 = .ok (.aload_n 1, 1) := by decide +kernel
theorem dL_law_541 : decode cL_law 541 = .ok (.aload_n 0, 1) := by decide +kernel
theorem dL_law_542 : decode cL_law 542 = .ok (.iload_n 3, 1) := by decide +kernel
theorem dL_law_543 : decode cL_law 543 = .ok (.iconst 1, 1) := by decide +kernel
theorem dL_law_544 : decode cL_law 544 = .ok (.iadd, 1) := by decide +kernel
theorem dL_law_545 : decode cL_law 545 = .ok (.iaload, 1) := by decide +kernel
theorem dL_law_546 : decode cL_law 546 = .ok (.aload_n 0, 1) := by decide +kernel
theorem dL_law_547 : decode cL_law 547 = .ok (.iload_n 3, 1) := by decide +kernel
theorem dL_law_548 : decode cL_law 548 = .ok (.iconst 2, 1) := by decide +kernel
theorem dL_law_549 : decode cL_law 549 = .ok (.iadd, 1) := by decide +kernel
theorem dL_law_550 : decode cL_law 550 = .ok (.iaload, 1) := by decide +kernel
theorem dL_law_551 : decode cL_law 551 = .ok (.aload_n 0, 1) := by decide +kernel
theorem dL_law_552 : decode cL_law 552 = .ok (.iload_n 3, 1) := by decide +kernel
theorem dL_law_553 : decode cL_law 553 = .ok (.iconst 3, 1) := by decide +kernel
theorem dL_law_554 : decode cL_law 554 = .ok (.iadd, 1) := by decide +kernel
theorem dL_law_555 : decode cL_law 555 = .ok (.iaload, 1) := by decide +kernel
theorem dL_law_556 : decode cL_law 556 = .ok (.invokevirtual 61, 3) := by decide +kernel
theorem dL_law_559 : decode cL_law 559 = .ok (.aload_n 2, 1) := by decide +kernel
theorem dL_law_560 : decode cL_law 560 = .ok (.aload_n 0, 1) := by decide +kernel
theorem dL_law_561 : decode cL_law 561 = .ok (.iload_n 3, 1) := by decide +kernel
theorem dL_law_562 : decode cL_law 562 = .ok (.iconst 1, 1) := by decide +kernel
theorem dL_law_563 : decode cL_law 563 = .ok (.iadd, 1) := by decide +kernel
theorem dL_law_564 : decode cL_law 564 = .ok (.iaload, 1) := by decide +kernel
theorem dL_law_565 : decode cL_law 565 = .ok (.aload_n 0, 1) := by decide +kernel
theorem dL_law_566 : decode cL_law 566 = .ok (.iload_n 3, 1) := by decide +kernel
theorem dL_law_567 : decode cL_law 567 = .ok (.iconst 2, 1) := by decide +kernel
theorem dL_law_568 : decode cL_law 568 = .ok (.iadd, 1) := by decide +kernel
theorem dL_law_569 : decode cL_law 569 = .ok (.iaload, 1) := by decide +kernel
theorem dL_law_570 : decode cL_law 570 = .ok (.aload_n 0, 1) := by decide +kernel
theorem dL_law_571 : decode cL_law 571 = .ok (.iload_n 3, 1) := by decide +kernel
theorem dL_law_572 : decode cL_law 572 = .ok (.iconst 3, 1) := by decide +kernel
theorem dL_law_573 : decode cL_law 573 = .ok (.iadd, 1) := by decide +kernel
theorem dL_law_574 : decode cL_law 574 = .ok (.iaload, 1) := by decide +kernel
theorem dL_law_575 : decode cL_law 575 = .ok (.invokevirtual 64, 3) := by decide +kernel
theorem dL_law_578 : decode cL_law 578 = .ok (.if_icmp .eq 470, 3) := by decide +kernel
theorem dL_law_581 : decode cL_law 581 = .ok (.iconst 0, 1) := by decide +kernel
theorem dL_law_582 : decode cL_law 582 = .ok (.ireturn, 1) := by decide +kernel
theorem dL_law_583 : decode cL_law 583 = .ok (.aload_n 1, 1) := by decide +kernel
theorem dL_law_584 : decode cL_law 584 = .ok (.aload_n 0, 1) := by decide +kernel
theorem dL_law_585 : decode cL_law 585 = .ok (.iload_n 3, 1) := by decide +kernel
theorem dL_law_586 : decode cL_law 586 = .ok (.iconst 1, 1) := by decide +kernel
theorem dL_law_587 : decode cL_law 587 = .ok (.iadd, 1) := by decide +kernel
theorem dL_law_588 : decode cL_law 588 = .ok (.iaload, 1) := by decide +kernel
theorem dL_law_589 : decode cL_law 589 = .ok (.aload_n 0, 1) := by decide +kernel
theorem dL_law_590 : decode cL_law 590 = .ok (.iload_n 3, 1) := by decide +kernel
theorem dL_law_591 : decode cL_law 591 = .ok (.iconst 2, 1) := by decide +kernel
theorem dL_law_592 : decode cL_law 592 = .ok (.iadd, 1) := by decide +kernel
theorem dL_law_593 : decode cL_law 593 = .ok (.iaload, 1) := by decide +kernel
theorem dL_law_594 : decode cL_law 594 = .ok (.invokevirtual 65, 3) := by decide +kernel
theorem dL_law_597 : decode cL_law 597 = .ok (.aload_n 2, 1) := by decide +kernel
theorem dL_law_598 : decode cL_law 598 = .ok (.aload_n 0, 1) := by decide +kernel
theorem dL_law_599 : decode cL_law 599 = .ok (.iload_n 3, 1) := by decide +kernel
theorem dL_law_600 : decode cL_law 600 = .ok (.iconst 1, 1) := by decide +kernel
theorem dL_law_601 : decode cL_law 601 = .ok (.iadd, 1) := by decide +kernel
theorem dL_law_602 : decode cL_law 602 = .ok (.iaload, 1) := by decide +kernel
theorem dL_law_603 : decode cL_law 603 = .ok (.aload_n 0, 1) := by decide +kernel
theorem dL_law_604 : decode cL_law 604 = .ok (.iload_n 3, 1) := by decide +kernel
theorem dL_law_605 : decode cL_law 605 = .ok (.iconst 2, 1) := by decide +kernel
theorem dL_law_606 : decode cL_law 606 = .ok (.iadd, 1) := by decide +kernel
theorem dL_law_607 : decode cL_law 607 = .ok (.iaload, 1) := by decide +kernel
theorem dL_law_608 : decode cL_law 608 = .ok (.invokevirtual 68, 3) := by decide +kernel
theorem dL_law_611 : decode cL_law 611 = .ok (.if_icmp .eq 437, 3) := by decide +kernel
theorem dL_law_614 : decode cL_law 614 = .ok (.iconst 0, 1) := by decide +kernel
theorem dL_law_615 : decode cL_law 615 = .ok (.ireturn, 1) := by decide +kernel
theorem dL_law_616 : decode cL_law 616 = .ok (.aload_n 1, 1) := by decide +kernel
theorem dL_law_617 : decode cL_law 617 = .ok (.aload_n 0, 1) := by decide +kernel
theorem dL_law_618 : decode cL_law 618 = .ok (.iload_n 3, 1) := by decide +kernel
theorem dL_law_619 : decode cL_law 619 = .ok (.iconst 1, 1) := by decide +kernel
theorem dL_law_620 : decode cL_law 620 = .ok (.iadd, 1) := by decide +kernel
theorem dL_law_621 : decode cL_law 621 = .ok (.iaload, 1) := by decide +kernel
theorem dL_law_622 : decode cL_law 622 = .ok (.aload_n 0, 1) := by decide +kernel
theorem dL_law_623 : decode cL_law 623 = .ok (.iload_n 3, 1) := by decide +kernel
theorem dL_law_624 : decode cL_law 624 = .ok (.iconst 2, 1) := by decide +kernel
theorem dL_law_625 : decode cL_law 625 = .ok (.iadd, 1) := by decide +kernel
theorem dL_law_626 : decode cL_law 626 = .ok (.iaload, 1) := by decide +kernel
theorem dL_law_627 : decode cL_law 627 = .ok (.invokevirtual 69, 3) := by decide +kernel
theorem dL_law_630 : decode cL_law 630 = .ok (.aload_n 2, 1) := by decide +kernel
theorem dL_law_631 : decode cL_law 631 = .ok (.aload_n 0, 1) := by decide +kernel
theorem dL_law_632 : decode cL_law 632 = .ok (.iload_n 3, 1) := by decide +kernel
theorem dL_law_633 : decode cL_law 633 = .ok (.iconst 1, 1) := by decide +kernel
theorem dL_law_634 : decode cL_law 634 = .ok (.iadd, 1) := by decide +kernel
theorem dL_law_635 : decode cL_law 635 = .ok (.iaload, 1) := by decide +kernel
theorem dL_law_636 : decode cL_law 636 = .ok (.aload_n 0, 1) := by decide +kernel
theorem dL_law_637 : decode cL_law 637 = .ok (.iload_n 3, 1) := by decide +kernel
theorem dL_law_638 : decode cL_law 638 = .ok (.iconst 2, 1) := by decide +kernel
theorem dL_law_639 : decode cL_law 639 = .ok (.iadd, 1) := by decide +kernel
theorem dL_law_640 : decode cL_law 640 = .ok (.iaload, 1) := by decide +kernel
theorem dL_law_641 : decode cL_law 641 = .ok (.invokevirtual 72, 3) := by decide +kernel
theorem dL_law_644 : decode cL_law 644 = .ok (.if_icmp .eq 404, 3) := by decide +kernel
theorem dL_law_647 : decode cL_law 647 = .ok (.iconst 0, 1) := by decide +kernel
theorem dL_law_648 : decode cL_law 648 = .ok (.ireturn, 1) := by decide +kernel
theorem dL_law_649 : decode cL_law 649 = .ok (.aload_n 1, 1) := by decide +kernel
theorem dL_law_650 : decode cL_law 650 = .ok (.aload_n 0, 1) := by decide +kernel
theorem dL_law_651 : decode cL_law 651 = .ok (.iload_n 3, 1) := by decide +kernel
theorem dL_law_652 : decode cL_law 652 = .ok (.iconst 1, 1) := by decide +kernel
theorem dL_law_653 : decode cL_law 653 = .ok (.iadd, 1) := by decide +kernel
theorem dL_law_654 : decode cL_law 654 = .ok (.iaload, 1) := by decide +kernel
theorem dL_law_655 : decode cL_law 655 = .ok (.invokevirtual 73, 3) := by decide +kernel
theorem dL_law_658 : decode cL_law 658 = .ok (.aload_n 2, 1) := by decide +kernel
theorem dL_law_659 : decode cL_law 659 = .ok (.aload_n 0, 1) := by decide +kernel
theorem dL_law_660 : decode cL_law 660 = .ok (.iload_n 3, 1) := by decide +kernel
theorem dL_law_661 : decode cL_law 661 = .ok (.iconst 1, 1) := by decide +kernel
theorem dL_law_662 : decode cL_law 662 = .ok (.iadd, 1) := by decide +kernel
theorem dL_law_663 : decode cL_law 663 = .ok (.iaload, 1) := by decide +kernel
theorem dL_law_664 : decode cL_law 664 = .ok (.invokevirtual 77, 3) := by decide +kernel
theorem dL_law_667 : decode cL_law 667 = .ok (.if_icmp .eq 381, 3) := by decide +kernel
theorem dL_law_670 : decode cL_law 670 = .ok (.iconst 0, 1) := by decide +kernel
theorem dL_law_671 : decode cL_law 671 = .ok (.ireturn, 1) := by decide +kernel
theorem dL_law_672 : decode cL_law 672 = .ok (.aload_n 1, 1) := by decide +kernel
theorem dL_law_673 : decode cL_law 673 = .ok (.aload_n 0, 1) := by decide +kernel
theorem dL_law_674 : decode cL_law 674 = .ok (.iload_n 3, 1) := by decide +kernel
theorem dL_law_675 : decode cL_law 675 = .ok (.iconst 1, 1) := by decide +kernel
theorem dL_law_676 : decode cL_law 676 = .ok (.iadd, 1) := by decide +kernel
theorem dL_law_677 : decode cL_law 677 = .ok (.iaload, 1) := by decide +kernel
theorem dL_law_678 : decode cL_law 678 = .ok (.aload_n 0, 1) := by decide +kernel
theorem dL_law_679 : decode cL_law 679 = .ok (.iload_n 3, 1) := by decide +kernel
theorem dL_law_680 : decode cL_law 680 = .ok (.iconst 2, 1) := by decide +kernel
theorem dL_law_681 : decode cL_law 681 = .ok (.iadd, 1) := by decide +kernel
theorem dL_law_682 : decode cL_law 682 = .ok (.iaload, 1) := by decide +kernel
theorem dL_law_683 : decode cL_law 683 = .ok (.invokevirtual 78, 3) := by decide +kernel
theorem dL_law_686 : decode cL_law 686 = .ok (.aload_n 2, 1) := by decide +kernel
theorem dL_law_687 : decode cL_law 687 = .ok (.aload_n 0, 1) := by decide +kernel
theorem dL_law_688 : decode cL_law 688 = .ok (.iload_n 3, 1) := by decide +kernel
theorem dL_law_689 : decode cL_law 689 = .ok (.iconst 1, 1) := by decide +kernel
theorem dL_law_690 : decode cL_law 690 = .ok (.iadd, 1) := by decide +kernel
theorem dL_law_691 : decode cL_law 691 = .ok (.iaload, 1) := by decide +kernel
theorem dL_law_692 : decode cL_law 692 = .ok (.aload_n 0, 1) := by decide +kernel
theorem dL_law_693 : decode cL_law 693 = .ok (.iload_n 3, 1) := by decide +kernel
theorem dL_law_694 : decode cL_law 694 = .ok (.iconst 2, 1) := by decide +kernel
theorem dL_law_695 : decode cL_law 695 = .ok (.iadd, 1) := by decide +kernel
theorem dL_law_696 : decode cL_law 696 = .ok (.iaload, 1) := by decide +kernel
theorem dL_law_697 : decode cL_law 697 = .ok (.invokevirtual 81, 3) := by decide +kernel
theorem dL_law_700 : decode cL_law 700 = .ok (.if_icmp .eq 348, 3) := by decide +kernel
theorem dL_law_703 : decode cL_law 703 = .ok (.iconst 0, 1) := by decide +kernel
theorem dL_law_704 : decode cL_law 704 = .ok (.ireturn, 1) := by decide +kernel
theorem dL_law_705 : decode cL_law 705 = .ok (.aload_n 1, 1) := by decide +kernel
theorem dL_law_706 : decode cL_law 706 = .ok (.aload_n 0, 1) := by decide +kernel
theorem dL_law_707 : decode cL_law 707 = .ok (.iload_n 3, 1) := by decide +kernel
theorem dL_law_708 : decode cL_law 708 = .ok (.iconst 1, 1) := by decide +kernel
theorem dL_law_709 : decode cL_law 709 = .ok (.iadd, 1) := by decide +kernel
theorem dL_law_710 : decode cL_law 710 = .ok (.iaload, 1) := by decide +kernel
theorem dL_law_711 : decode cL_law 711 = .ok (.invokevirtual 82, 3) := by decide +kernel
theorem dL_law_714 : decode cL_law 714 = .ok (.aload_n 2, 1) := by decide +kernel
theorem dL_law_715 : decode cL_law 715 = .ok (.aload_n 0, 1) := by decide +kernel
theorem dL_law_716 : decode cL_law 716 = .ok (.iload_n 3, 1) := by decide +kernel
theorem dL_law_717 : decode cL_law 717 = .ok (.iconst 1, 1) := by decide +kernel
theorem dL_law_718 : decode cL_law 718 = .ok (.iadd, 1) := by decide +kernel
theorem dL_law_719 : decode cL_law 719 = .ok (.iaload, 1) := by decide +kernel
theorem dL_law_720 : decode cL_law 720 = .ok (.invokevirtual 85, 3) := by decide +kernel
theorem dL_law_723 : decode cL_law 723 = .ok (.if_icmp .eq 325, 3) := by decide +kernel
theorem dL_law_726 : decode cL_law 726 = .ok (.iconst 0, 1) := by decide +kernel
theorem dL_law_727 : decode cL_law 727 = .ok (.ireturn, 1) := by decide +kernel
theorem dL_law_728 : decode cL_law 728 = .ok (.aload_n 1, 1) := by decide +kernel
theorem dL_law_729 : decode cL_law 729 = .ok (.aload_n 0, 1) := by decide +kernel
theorem dL_law_730 : decode cL_law 730 = .ok (.iload_n 3, 1) := by decide +kernel
theorem dL_law_731 : decode cL_law 731 = .ok (.iconst 1, 1) := by decide +kernel
theorem dL_law_732 : decode cL_law 732 = .ok (.iadd, 1) := by decide +kernel
theorem dL_law_733 : decode cL_law 733 = .ok (.iaload, 1) := by decide +kernel
theorem dL_law_734 : decode cL_law 734 = .ok (.aload_n 0, 1) := by decide +kernel
theorem dL_law_735 : decode cL_law 735 = .ok (.iload_n 3, 1) := by decide +kernel
theorem dL_law_736 : decode cL_law 736 = .ok (.iconst 2, 1) := by decide +kernel
theorem dL_law_737 : decode cL_law 737 = .ok (.iadd, 1) := by decide +kernel
theorem dL_law_738 : decode cL_law 738 = .ok (.iaload, 1) := by decide +kernel
theorem dL_law_739 : decode cL_law 739 = .ok (.invokevirtual 86, 3) := by decide +kernel
theorem dL_law_742 : decode cL_law 742 = .ok (.aload_n 2, 1) := by decide +kernel
theorem dL_law_743 : decode cL_law 743 = .ok (.aload_n 0, 1) := by decide +kernel
theorem dL_law_744 : decode cL_law 744 = .ok (.iload_n 3, 1) := by decide +kernel
theorem dL_law_745 : decode cL_law 745 = .ok (.iconst 1, 1) := by decide +kernel
theorem dL_law_746 : decode cL_law 746 = .ok (.iadd, 1) := by decide +kernel
theorem dL_law_747 : decode cL_law 747 = .ok (.iaload, 1) := by decide +kernel
theorem dL_law_748 : decode cL_law 748 = .ok (.aload_n 0, 1) := by decide +kernel
theorem dL_law_749 : decode cL_law 749 = .ok (.iload_n 3, 1) := by decide +kernel
theorem dL_law_750 : decode cL_law 750 = .ok (.iconst 2, 1) := by decide +kernel
theorem dL_law_751 : decode cL_law 751 = .ok (.iadd, 1) := by decide +kernel
theorem dL_law_752 : decode cL_law 752 = .ok (.iaload, 1) := by decide +kernel
theorem dL_law_753 : decode cL_law 753 = .ok (.invokevirtual 89, 3) := by decide +kernel
theorem dL_law_756 : decode cL_law 756 = .ok (.if_icmp .eq 292, 3) := by decide +kernel
theorem dL_law_759 : decode cL_law 759 = .ok (.iconst 0, 1) := by decide +kernel
theorem dL_law_760 : decode cL_law 760 = .ok (.ireturn, 1) := by decide +kernel
theorem dL_law_761 : decode cL_law 761 = .ok (.aload_n 1, 1) := by decide +kernel
theorem dL_law_762 : decode cL_law 762 = .ok (.aload_n 0, 1) := by decide +kernel
theorem dL_law_763 : decode cL_law 763 = .ok (.iload_n 3, 1) := by decide +kernel
theorem dL_law_764 : decode cL_law 764 = .ok (.iconst 1, 1) := by decide +kernel
theorem dL_law_765 : decode cL_law 765 = .ok (.iadd, 1) := by decide +kernel
theorem dL_law_766 : decode cL_law 766 = .ok (.iaload, 1) := by decide +kernel
theorem dL_law_767 : decode cL_law 767 = .ok (.invokevirtual 90, 3) := by decide +kernel
theorem dL_law_770 : decode cL_law 770 = .ok (.aload_n 2, 1) := by decide +kernel
theorem dL_law_771 : decode cL_law 771 = .ok (.aload_n 0, 1) := by decide +kernel
theorem dL_law_772 : decode cL_law 772 = .ok (.iload_n 3, 1) := by decide +kernel
theorem dL_law_773 : decode cL_law 773 = .ok (.iconst 1, 1) := by decide +kernel
theorem dL_law_774 : decode cL_law 774 = .ok (.iadd, 1) := by decide +kernel
theorem dL_law_775 : decode cL_law 775 = .ok (.iaload, 1) := by decide +kernel
theorem dL_law_776 : decode cL_law 776 = .ok (.invokevirtual 93, 3) := by decide +kernel
theorem dL_law_779 : decode cL_law 779 = .ok (.if_icmp .eq 269, 3) := by decide +kernel
theorem dL_law_782 : decode cL_law 782 = .ok (.iconst 0, 1) := by decide +kernel
theorem dL_law_783 : decode cL_law 783 = .ok (.ireturn, 1) := by decide +kernel
theorem dL_law_784 : decode cL_law 784 = .ok (.aload_n 1, 1) := by decide +kernel
theorem dL_law_785 : decode cL_law 785 = .ok (.invokevirtual 94, 3) := by decide +kernel
theorem dL_law_788 : decode cL_law 788 = .ok (.aload_n 2, 1) := by decide +kernel
theorem dL_law_789 : decode cL_law 789 = .ok (.invokevirtual 97, 3) := by decide +kernel
theorem dL_law_792 : decode cL_law 792 = .ok (.if_icmp .eq 256, 3) := by decide +kernel
theorem dL_law_795 : decode cL_law 795 = .ok (.iconst 0, 1) := by decide +kernel
theorem dL_law_796 : decode cL_law 796 = .ok (.ireturn, 1) := by decide +kernel
theorem dL_law_797 : decode cL_law 797 = .ok (.aload_n 1, 1) := by decide +kernel
theorem dL_law_798 : decode cL_law 798 = .ok (.aload_n 0, 1) := by decide +kernel
theorem dL_law_799 : decode cL_law 799 = .ok (.iload_n 3, 1) := by decide +kernel
theorem dL_law_800 : decode cL_law 800 = .ok (.iconst 1, 1) := by decide +kernel
theorem dL_law_801 : decode cL_law 801 = .ok (.iadd, 1) := by decide +kernel
theorem dL_law_802 : decode cL_law 802 = .ok (.iaload, 1) := by decide +kernel
theorem dL_law_803 : decode cL_law 803 = .ok (.invokevirtual 98, 3) := by decide +kernel
theorem dL_law_806 : decode cL_law 806 = .ok (.aload_n 2, 1) := by decide +kernel
theorem dL_law_807 : decode cL_law 807 = .ok (.aload_n 0, 1) := by decide +kernel
theorem dL_law_808 : decode cL_law 808 = .ok (.iload_n 3, 1) := by decide +kernel
theorem dL_law_809 : decode cL_law 809 = .ok (.iconst 1, 1) := by decide +kernel
theorem dL_law_810 : decode cL_law 810 = .ok (.iadd, 1) := by decide +kernel
theorem dL_law_811 : decode cL_law 811 = .ok (.iaload, 1) := by decide +kernel
theorem dL_law_812 : decode cL_law 812 = .ok (.invokevirtual 101, 3) := by decide +kernel
theorem dL_law_815 : decode cL_law 815 = .ok (.if_icmp .eq 233, 3) := by decide +kernel
theorem dL_law_818 : decode cL_law 818 = .ok (.iconst 0, 1) := by decide +kernel
theorem dL_law_819 : decode cL_law 819 = .ok (.ireturn, 1) := by decide +kernel
theorem dL_law_820 : decode cL_law 820 = .ok (.aload_n 1, 1) := by decide +kernel
theorem dL_law_821 : decode cL_law 821 = .ok (.aload_n 0, 1) := by decide +kernel
theorem dL_law_822 : decode cL_law 822 = .ok (.iload_n 3, 1) := by decide +kernel
theorem dL_law_823 : decode cL_law 823 = .ok (.iconst 1, 1) := by decide +kernel
theorem dL_law_824 : decode cL_law 824 = .ok (.iadd, 1) := by decide +kernel
theorem dL_law_825 : decode cL_law 825 = .ok (.iaload, 1) := by decide +kernel
theorem dL_law_826 : decode cL_law 826 = .ok (.aload_n 0, 1) := by decide +kernel
theorem dL_law_827 : decode cL_law 827 = .ok (.iload_n 3, 1) := by decide +kernel
theorem dL_law_828 : decode cL_law 828 = .ok (.iconst 2, 1) := by decide +kernel
theorem dL_law_829 : decode cL_law 829 = .ok (.iadd, 1) := by decide +kernel
theorem dL_law_830 : decode cL_law 830 = .ok (.iaload, 1) := by decide +kernel
theorem dL_law_831 : decode cL_law 831 = .ok (.invokevirtual 102, 3) := by decide +kernel
theorem dL_law_834 : decode cL_law 834 = .ok (.aload_n 2, 1) := by decide +kernel
theorem dL_law_835 : decode cL_law 835 = .ok (.aload_n 0, 1) := by decide +kernel
theorem dL_law_836 : decode cL_law 836 = .ok (.iload_n 3, 1) := by decide +kernel
theorem dL_law_837 : decode cL_law 837 = .ok (.iconst 1, 1) := by decide +kernel
theorem dL_law_838 : decode cL_law 838 = .ok (.iadd, 1) := by decide +kernel
theorem dL_law_839 : decode cL_law 839 = .ok (.iaload, 1) := by decide +kernel
theorem dL_law_840 : decode cL_law 840 = .ok (.aload_n 0, 1) := by decide +kernel
theorem dL_law_841 : decode cL_law 841 = .ok (.iload_n 3, 1) := by decide +kernel
theorem dL_law_842 : decode cL_law 842 = .ok (.iconst 2, 1) := by decide +kernel
theorem dL_law_843 : decode cL_law 843 = .ok (.iadd, 1) := by decide +kernel
theorem dL_law_844 : decode cL_law 844 = .ok (.iaload, 1) := by decide +kernel
theorem dL_law_845 : decode cL_law 845 = .ok (.invokevirtual 105, 3) := by decide +kernel
theorem dL_law_848 : decode cL_law 848 = .ok (.if_icmp .eq 200, 3) := by decide +kernel
theorem dL_law_851 : decode cL_law 851 = .ok (.iconst 0, 1) := by decide +kernel
theorem dL_law_852 : decode cL_law 852 = .ok (.ireturn, 1) := by decide +kernel
theorem dL_law_853 : decode cL_law 853 = .ok (.aload_n 1, 1) := by decide +kernel
theorem dL_law_854 : decode cL_law 854 = .ok (.aload_n 0, 1) := by decide +kernel
theorem dL_law_855 : decode cL_law 855 = .ok (.iload_n 3, 1) := by decide +kernel
theorem dL_law_856 : decode cL_law 856 = .ok (.iconst 1, 1) := by decide +kernel
theorem dL_law_857 : decode cL_law 857 = .ok (.iadd, 1) := by decide +kernel
theorem dL_law_858 : decode cL_law 858 = .ok (.iaload, 1) := by decide +kernel
theorem dL_law_859 : decode cL_law 859 = .ok (.aload_n 0, 1) := by decide +kernel
theorem dL_law_860 : decode cL_law 860 = .ok (.iload_n 3, 1) := by decide +kernel
theorem dL_law_861 : decode cL_law 861 = .ok (.iconst 2, 1) := by decide +kernel
theorem dL_law_862 : decode cL_law 862 = .ok (.iadd, 1) := by decide +kernel
theorem dL_law_863 : decode cL_law 863 = .ok (.iaload, 1) := by decide +kernel
theorem dL_law_864 : decode cL_law 864 = .ok (.invokevirtual 106, 3) := by decide +kernel
theorem dL_law_867 : decode cL_law 867 = .ok (.aload_n 2, 1) := by decide +kernel
theorem dL_law_868 : decode cL_law 868 = .ok (.aload_n 0, 1) := by decide +kernel
theorem dL_law_869 : decode cL_law 869 = .ok (.iload_n 3, 1) := by decide +kernel
theorem dL_law_870 : decode cL_law 870 = .ok (.iconst 1, 1) := by decide +kernel
theorem dL_law_871 : decode cL_law 871 = .ok (.iadd, 1) := by decide +kernel
theorem dL_law_872 : decode cL_law 872 = .ok (.iaload, 1) := by decide +kernel
theorem dL_law_873 : decode cL_law 873 = .ok (.aload_n 0, 1) := by decide +kernel
theorem dL_law_874 : decode cL_law 874 = .ok (.iload_n 3, 1) := by decide +kernel
theorem dL_law_875 : decode cL_law 875 = .ok (.iconst 2, 1) := by decide +kernel
theorem dL_law_876 : decode cL_law 876 = .ok (.iadd, 1) := by decide +kernel
theorem dL_law_877 : decode cL_law 877 = .ok (.iaload, 1) := by decide +kernel
theorem dL_law_878 : decode cL_law 878 = .ok (.invokevirtual 109, 3) := by decide +kernel
theorem dL_law_881 : decode cL_law 881 = .ok (.if_icmp .eq 167, 3) := by decide +kernel
theorem dL_law_884 : decode cL_law 884 = .ok (.iconst 0, 1) := by decide +kernel
theorem dL_law_885 : decode cL_law 885 = .ok (.ireturn, 1) := by decide +kernel
theorem dL_law_886 : decode cL_law 886 = .ok (.aload_n 1, 1) := by decide +kernel
theorem dL_law_887 : decode cL_law 887 = .ok (.aload_n 0, 1) := by decide +kernel
theorem dL_law_888 : decode cL_law 888 = .ok (.iload_n 3, 1) := by decide +kernel
theorem dL_law_889 : decode cL_law 889 = .ok (.iconst 1, 1) := by decide +kernel
theorem dL_law_890 : decode cL_law 890 = .ok (.iadd, 1) := by decide +kernel
theorem dL_law_891 : decode cL_law 891 = .ok (.iaload, 1) := by decide +kernel
theorem dL_law_892 : decode cL_law 892 = .ok (.invokevirtual 110, 3) := by decide +kernel
theorem dL_law_895 : decode cL_law 895 = .ok (.aload_n 2, 1) := by decide +kernel
theorem dL_law_896 : decode cL_law 896 = .ok (.aload_n 0, 1) := by decide +kernel
theorem dL_law_897 : decode cL_law 897 = .ok (.iload_n 3, 1) := by decide +kernel
theorem dL_law_898 : decode cL_law 898 = .ok (.iconst 1, 1) := by decide +kernel
theorem dL_law_899 : decode cL_law 899 = .ok (.iadd, 1) := by decide +kernel
theorem dL_law_900 : decode cL_law 900 = .ok (.iaload, 1) := by decide +kernel
theorem dL_law_901 : decode cL_law 901 = .ok (.invokevirtual 113, 3) := by decide +kernel
theorem dL_law_904 : decode cL_law 904 = .ok (.if_icmp .eq 144, 3) := by decide +kernel
theorem dL_law_907 : decode cL_law 907 = .ok (.iconst 0, 1) := by decide +kernel
theorem dL_law_908 : decode cL_law 908 = .ok (.ireturn, 1) := by decide +kernel
theorem dL_law_909 : decode cL_law 909 = .ok (.aload_n 1, 1) := by decide +kernel
theorem dL_law_910 : decode cL_law 910 = .ok (.aload_n 0, 1) := by decide +kernel
theorem dL_law_911 : decode cL_law 911 = .ok (.iload_n 3, 1) := by decide +kernel
theorem dL_law_912 : decode cL_law 912 = .ok (.iconst 1, 1) := by decide +kernel
theorem dL_law_913 : decode cL_law 913 = .ok (.iadd, 1) := by decide +kernel
theorem dL_law_914 : decode cL_law 914 = .ok (.iaload, 1) := by decide +kernel
theorem dL_law_915 : decode cL_law 915 = .ok (.aload_n 0, 1) := by decide +kernel
theorem dL_law_916 : decode cL_law 916 = .ok (.iload_n 3, 1) := by decide +kernel
theorem dL_law_917 : decode cL_law 917 = .ok (.iconst 2, 1) := by decide +kernel
theorem dL_law_918 : decode cL_law 918 = .ok (.iadd, 1) := by decide +kernel
theorem dL_law_919 : decode cL_law 919 = .ok (.iaload, 1) := by decide +kernel
theorem dL_law_920 : decode cL_law 920 = .ok (.invokevirtual 114, 3) := by decide +kernel
theorem dL_law_923 : decode cL_law 923 = .ok (.aload_n 2, 1) := by decide +kernel
theorem dL_law_924 : decode cL_law 924 = .ok (.aload_n 0, 1) := by decide +kernel
theorem dL_law_925 : decode cL_law 925 = .ok (.iload_n 3, 1) := by decide +kernel
theorem dL_law_926 : decode cL_law 926 = .ok (.iconst 1, 1) := by decide +kernel
theorem dL_law_927 : decode cL_law 927 = .ok (.iadd, 1) := by decide +kernel
theorem dL_law_928 : decode cL_law 928 = .ok (.iaload, 1) := by decide +kernel
theorem dL_law_929 : decode cL_law 929 = .ok (.aload_n 0, 1) := by decide +kernel
theorem dL_law_930 : decode cL_law 930 = .ok (.iload_n 3, 1) := by decide +kernel
theorem dL_law_931 : decode cL_law 931 = .ok (.iconst 2, 1) := by decide +kernel
theorem dL_law_932 : decode cL_law 932 = .ok (.iadd, 1) := by decide +kernel
theorem dL_law_933 : decode cL_law 933 = .ok (.iaload, 1) := by decide +kernel
theorem dL_law_934 : decode cL_law 934 = .ok (.invokevirtual 117, 3) := by decide +kernel
theorem dL_law_937 : decode cL_law 937 = .ok (.if_icmp .eq 111, 3) := by decide +kernel
theorem dL_law_940 : decode cL_law 940 = .ok (.iconst 0, 1) := by decide +kernel
theorem dL_law_941 : decode cL_law 941 = .ok (.ireturn, 1) := by decide +kernel
theorem dL_law_942 : decode cL_law 942 = .ok (.aload_n 1, 1) := by decide +kernel
theorem dL_law_943 : decode cL_law 943 = .ok (.aload_n 0, 1) := by decide +kernel
theorem dL_law_944 : decode cL_law 944 = .ok (.iload_n 3, 1) := by decide +kernel
theorem dL_law_945 : decode cL_law 945 = .ok (.iconst 1, 1) := by decide +kernel
theorem dL_law_946 : decode cL_law 946 = .ok (.iadd, 1) := by decide +kernel
theorem dL_law_947 : decode cL_law 947 = .ok (.iaload, 1) := by decide +kernel
theorem dL_law_948 : decode cL_law 948 = .ok (.invokevirtual 118, 3) := by decide +kernel
theorem dL_law_951 : decode cL_law 951 = .ok (.aload_n 2, 1) := by decide +kernel
theorem dL_law_952 : decode cL_law 952 = .ok (.aload_n 0, 1) := by decide +kernel
theorem dL_law_953 : decode cL_law 953 = .ok (.iload_n 3, 1) := by decide +kernel
theorem dL_law_954 : decode cL_law 954 = .ok (.iconst 1, 1) := by decide +kernel
theorem dL_law_955 : decode cL_law 955 = .ok (.iadd, 1) := by decide +kernel
theorem dL_law_956 : decode cL_law 956 = .ok (.iaload, 1) := by decide +kernel
theorem dL_law_957 : decode cL_law 957 = .ok (.invokevirtual 121, 3) := by decide +kernel
theorem dL_law_960 : decode cL_law 960 = .ok (.if_icmp .eq 88, 3) := by decide +kernel
theorem dL_law_963 : decode cL_law 963 = .ok (.iconst 0, 1) := by decide +kernel
theorem dL_law_964 : decode cL_law 964 = .ok (.ireturn, 1) := by decide +kernel
theorem dL_law_965 : decode cL_law 965 = .ok (.aload_n 1, 1) := by decide +kernel
theorem dL_law_966 : decode cL_law 966 = .ok (.aload_n 0, 1) := by decide +kernel
theorem dL_law_967 : decode cL_law 967 = .ok (.iload_n 3, 1) := by decide +kernel
theorem dL_law_968 : decode cL_law 968 = .ok (.iconst 1, 1) := by decide +kernel
theorem dL_law_969 : decode cL_law 969 = .ok (.iadd, 1) := by decide +kernel
theorem dL_law_970 : decode cL_law 970 = .ok (.iaload, 1) := by decide +kernel
theorem dL_law_971 : decode cL_law 971 = .ok (.invokevirtual 122, 3) := by decide +kernel
theorem dL_law_974 : decode cL_law 974 = .ok (.aload_n 2, 1) := by decide +kernel
theorem dL_law_975 : decode cL_law 975 = .ok (.aload_n 0, 1) := by decide +kernel
theorem dL_law_976 : decode cL_law 976 = .ok (.iload_n 3, 1) := by decide +kernel
theorem dL_law_977 : decode cL_law 977 = .ok (.iconst 1, 1) := by decide +kernel
theorem dL_law_978 : decode cL_law 978 = .ok (.iadd, 1) := by decide +kernel
theorem dL_law_979 : decode cL_law 979 = .ok (.iaload, 1) := by decide +kernel
theorem dL_law_980 : decode cL_law 980 = .ok (.invokevirtual 125, 3) := by decide +kernel
theorem dL_law_983 : decode cL_law 983 = .ok (.if_icmp .eq 65, 3) := by decide +kernel
theorem dL_law_986 : decode cL_law 986 = .ok (.iconst 0, 1) := by decide +kernel
theorem dL_law_987 : decode cL_law 987 = .ok (.ireturn, 1) := by decide +kernel
theorem dL_law_988 : decode cL_law 988 = .ok (.aload_n 1, 1) := by decide +kernel
theorem dL_law_989 : decode cL_law 989 = .ok (.aload_n 0, 1) := by decide +kernel
theorem dL_law_990 : decode cL_law 990 = .ok (.iload_n 3, 1) := by decide +kernel
theorem dL_law_991 : decode cL_law 991 = .ok (.iconst 1, 1) := by decide +kernel
theorem dL_law_992 : decode cL_law 992 = .ok (.iadd, 1) := by decide +kernel
theorem dL_law_993 : decode cL_law 993 = .ok (.iaload, 1) := by decide +kernel
theorem dL_law_994 : decode cL_law 994 = .ok (.invokevirtual 126, 3) := by decide +kernel
theorem dL_law_997 : decode cL_law 997 = .ok (.aload_n 2, 1) := by decide +kernel
theorem dL_law_998 : decode cL_law 998 = .ok (.aload_n 0, 1) := by decide +kernel
theorem dL_law_999 : decode cL_law 999 = .ok (.iload_n 3, 1) := by decide +kernel
theorem dL_law_1000 : decode cL_law 1000 = .ok (.iconst 1, 1) := by decide +kernel
theorem dL_law_1001 : decode cL_law 1001 = .ok (.iadd, 1) := by decide +kernel
theorem dL_law_1002 : decode cL_law 1002 = .ok (.iaload, 1) := by decide +kernel
theorem dL_law_1003 : decode cL_law 1003 = .ok (.invokevirtual 129, 3) := by decide +kernel
theorem dL_law_1006 : decode cL_law 1006 = .ok (.if_icmp .eq 42, 3) := by decide +kernel
theorem dL_law_1009 : decode cL_law 1009 = .ok (.iconst 0, 1) := by decide +kernel
theorem dL_law_1010 : decode cL_law 1010 = .ok (.ireturn, 1) := by decide +kernel
theorem dL_law_1011 : decode cL_law 1011 = .ok (.aload_n 1, 1) := by decide +kernel
theorem dL_law_1012 : decode cL_law 1012 = .ok (.aload_n 0, 1) := by decide +kernel
theorem dL_law_1013 : decode cL_law 1013 = .ok (.iload_n 3, 1) := by decide +kernel
theorem dL_law_1014 : decode cL_law 1014 = .ok (.iconst 1, 1) := by decide +kernel
theorem dL_law_1015 : decode cL_law 1015 = .ok (.iadd, 1) := by decide +kernel
theorem dL_law_1016 : decode cL_law 1016 = .ok (.iaload, 1) := by decide +kernel
theorem dL_law_1017 : decode cL_law 1017 = .ok (.invokevirtual 130, 3) := by decide +kernel
theorem dL_law_1020 : decode cL_law 1020 = .ok (.aload_n 2, 1) := by decide +kernel
theorem dL_law_1021 : decode cL_law 1021 = .ok (.aload_n 0, 1) := by decide +kernel
theorem dL_law_1022 : decode cL_law 1022 = .ok (.iload_n 3, 1) := by decide +kernel
theorem dL_law_1023 : decode cL_law 1023 = .ok (.iconst 1, 1) := by decide +kernel
theorem dL_law_1024 : decode cL_law 1024 = .ok (.iadd, 1) := by decide +kernel
theorem dL_law_1025 : decode cL_law 1025 = .ok (.iaload, 1) := by decide +kernel
theorem dL_law_1026 : decode cL_law 1026 = .ok (.invokevirtual 133, 3) := by decide +kernel
theorem dL_law_1029 : decode cL_law 1029 = .ok (.if_icmp .eq 19, 3) := by decide +kernel
theorem dL_law_1032 : decode cL_law 1032 = .ok (.iconst 0, 1) := by decide +kernel
theorem dL_law_1033 : decode cL_law 1033 = .ok (.ireturn, 1) := by decide +kernel
theorem dL_law_1034 : decode cL_law 1034 = .ok (.aload_n 1, 1) := by decide +kernel
theorem dL_law_1035 : decode cL_law 1035 = .ok (.invokevirtual 134, 3) := by decide +kernel
theorem dL_law_1038 : decode cL_law 1038 = .ok (.aload_n 2, 1) := by decide +kernel
theorem dL_law_1039 : decode cL_law 1039 = .ok (.invokevirtual 138, 3) := by decide +kernel
theorem dL_law_1042 : decode cL_law 1042 = .ok (.lcmp, 1) := by decide +kernel
theorem dL_law_1043 : decode cL_law 1043 = .ok (.ifCond .eq 5, 3) := by decide +kernel
theorem dL_law_1046 : decode cL_law 1046 = .ok (.iconst 0, 1) := by decide +kernel
theorem dL_law_1047 : decode cL_law 1047 = .ok (.ireturn, 1) := by decide +kernel
theorem dL_law_1048 : decode cL_law 1048 = .ok (.iinc 3 5, 3) := by decide +kernel
theorem dL_law_1051 : decode cL_law 1051 = .ok (.goto (-1033), 3) := by decide +kernel
theorem dL_law_1054 : decode cL_law 1054 = .ok (.iconst 1, 1) := by decide +kernel
theorem dL_law_1055 : decode cL_law 1055 = .ok (.ireturn, 1) := by decide +kernel
end
section
theorem zz_last : True := trivial
end
