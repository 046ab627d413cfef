-- ===== PART A: goes FIRST, ahead of the names: the tables' words, and 'selects' of the private methods out of them =====
/-- a private method of a class that the tables say can be made, by its rows of tables_1 -/
def lw_okq (q : MethodName × Nat) : Prop := (q.1.cls ≠ "java/lang/invoke/MethodHandle" ∧ q.1.cls ≠ "java/lang/invoke/VarHandle") ∧ Cond.instantiable q.1.cls q.2 ∈ tables_1 ∧ Cond.privateMethod q.1 ∈ tables_1 ∧ Cond.instanceMethod q.1 ∈ tables_1
theorem lw_p0 : lw_okq (⟨"StickerPress", "feedBytes", "(I)V"⟩, 7) := ⟨⟨by decide +kernel, by decide +kernel⟩, List.mem_of_getElem? (i := 14) (by decide +kernel), List.mem_of_getElem? (i := 243) (by decide +kernel), List.mem_of_getElem? (i := 244) (by decide +kernel)⟩
theorem lw_p1 : lw_okq (⟨"StickerPress$Names", "bestSet", "(LStickerPress$Row;I)I"⟩, 7) := ⟨⟨by decide +kernel, by decide +kernel⟩, List.mem_of_getElem? (i := 39) (by decide +kernel), List.mem_of_getElem? (i := 300) (by decide +kernel), List.mem_of_getElem? (i := 301) (by decide +kernel)⟩
theorem lw_p2 : lw_okq (⟨"StickerPress$Names", "applySet", "(LStickerPress$Row;I)Z"⟩, 7) := ⟨⟨by decide +kernel, by decide +kernel⟩, List.mem_of_getElem? (i := 39) (by decide +kernel), List.mem_of_getElem? (i := 310) (by decide +kernel), List.mem_of_getElem? (i := 311) (by decide +kernel)⟩
theorem lw_p3 : lw_okq (⟨"StickerPress$Names", "applyOne", "(LStickerPress$Row;LStickerPress$Row;)Z"⟩, 7) := ⟨⟨by decide +kernel, by decide +kernel⟩, List.mem_of_getElem? (i := 39) (by decide +kernel), List.mem_of_getElem? (i := 320) (by decide +kernel), List.mem_of_getElem? (i := 321) (by decide +kernel)⟩
theorem lw_p4 : lw_okq (⟨"StickerPress$Names", "textWidth", "()I"⟩, 7) := ⟨⟨by decide +kernel, by decide +kernel⟩, List.mem_of_getElem? (i := 39) (by decide +kernel), List.mem_of_getElem? (i := 330) (by decide +kernel), List.mem_of_getElem? (i := 331) (by decide +kernel)⟩
theorem lw_p5 : lw_okq (⟨"StickerPress$Stripes", "takeDigits", "(LStickerPress$Row;)V"⟩, 8) := ⟨⟨by decide +kernel, by decide +kernel⟩, List.mem_of_getElem? (i := 70) (by decide +kernel), List.mem_of_getElem? (i := 365) (by decide +kernel), List.mem_of_getElem? (i := 366) (by decide +kernel)⟩
theorem lw_p6 : lw_okq (⟨"StickerPress$Stripes", "drawPair", "(IILStickerPress$Row;)V"⟩, 8) := ⟨⟨by decide +kernel, by decide +kernel⟩, List.mem_of_getElem? (i := 70) (by decide +kernel), List.mem_of_getElem? (i := 380) (by decide +kernel), List.mem_of_getElem? (i := 381) (by decide +kernel)⟩
theorem lw_p7 : lw_okq (⟨"StickerPress$Stripes", "keepFault", "(II)V"⟩, 8) := ⟨⟨by decide +kernel, by decide +kernel⟩, List.mem_of_getElem? (i := 70) (by decide +kernel), List.mem_of_getElem? (i := 395) (by decide +kernel), List.mem_of_getElem? (i := 396) (by decide +kernel)⟩
theorem lw_p8 : lw_okq (⟨"StickerPress$Stripes", "findWides", "(LStickerPress$Row;)V"⟩, 8) := ⟨⟨by decide +kernel, by decide +kernel⟩, List.mem_of_getElem? (i := 70) (by decide +kernel), List.mem_of_getElem? (i := 399) (by decide +kernel), List.mem_of_getElem? (i := 400) (by decide +kernel)⟩
theorem lw_p9 : lw_okq (⟨"StickerPress$Reading", "endsStand", "(LStickerPress$Row;)Z"⟩, 4) := ⟨⟨by decide +kernel, by decide +kernel⟩, List.mem_of_getElem? (i := 78) (by decide +kernel), List.mem_of_getElem? (i := 412) (by decide +kernel), List.mem_of_getElem? (i := 413) (by decide +kernel)⟩
theorem lw_p10 : lw_okq (⟨"StickerPress$Reading", "stripe", "(LStickerPress$Row;I)I"⟩, 4) := ⟨⟨by decide +kernel, by decide +kernel⟩, List.mem_of_getElem? (i := 78) (by decide +kernel), List.mem_of_getElem? (i := 416) (by decide +kernel), List.mem_of_getElem? (i := 417) (by decide +kernel)⟩
theorem lw_p11 : lw_okq (⟨"StickerPress$Reading", "refuse", "(II)Z"⟩, 4) := ⟨⟨by decide +kernel, by decide +kernel⟩, List.mem_of_getElem? (i := 78) (by decide +kernel), List.mem_of_getElem? (i := 422) (by decide +kernel), List.mem_of_getElem? (i := 423) (by decide +kernel)⟩
theorem lw_p12 : lw_okq (⟨"StickerPress$Reading", "addDigit", "(LStickerPress$Row;I)Z"⟩, 4) := ⟨⟨by decide +kernel, by decide +kernel⟩, List.mem_of_getElem? (i := 78) (by decide +kernel), List.mem_of_getElem? (i := 426) (by decide +kernel), List.mem_of_getElem? (i := 427) (by decide +kernel)⟩
theorem lw_p13 : lw_okq (⟨"StickerPress$Stripes", "keepDigits", "(LStickerPress$Reading;ZLStickerPress$Row;)I"⟩, 8) := ⟨⟨by decide +kernel, by decide +kernel⟩, List.mem_of_getElem? (i := 70) (by decide +kernel), List.mem_of_getElem? (i := 433) (by decide +kernel), List.mem_of_getElem? (i := 434) (by decide +kernel)⟩
theorem lw_p14 : lw_okq (⟨"StickerPress$Labels", "changeWaiting", "(II)V"⟩, 5) := ⟨⟨by decide +kernel, by decide +kernel⟩, List.mem_of_getElem? (i := 127) (by decide +kernel), List.mem_of_getElem? (i := 480) (by decide +kernel), List.mem_of_getElem? (i := 481) (by decide +kernel)⟩
theorem lw_p15 : lw_okq (⟨"StickerPress$Best", "countAll", "(LStickerPress$Labels;LStickerPress$Sheets;)V"⟩, 10) := ⟨⟨by decide +kernel, by decide +kernel⟩, List.mem_of_getElem? (i := 167) (by decide +kernel), List.mem_of_getElem? (i := 514) (by decide +kernel), List.mem_of_getElem? (i := 515) (by decide +kernel)⟩
def lw_privs_1 : List (MethodName × Nat) := [(⟨"StickerPress", "feedBytes", "(I)V"⟩, 7), (⟨"StickerPress$Names", "bestSet", "(LStickerPress$Row;I)I"⟩, 7), (⟨"StickerPress$Names", "applySet", "(LStickerPress$Row;I)Z"⟩, 7), (⟨"StickerPress$Names", "applyOne", "(LStickerPress$Row;LStickerPress$Row;)Z"⟩, 7), (⟨"StickerPress$Names", "textWidth", "()I"⟩, 7), (⟨"StickerPress$Stripes", "takeDigits", "(LStickerPress$Row;)V"⟩, 8), (⟨"StickerPress$Stripes", "drawPair", "(IILStickerPress$Row;)V"⟩, 8), (⟨"StickerPress$Stripes", "keepFault", "(II)V"⟩, 8), (⟨"StickerPress$Stripes", "findWides", "(LStickerPress$Row;)V"⟩, 8), (⟨"StickerPress$Reading", "endsStand", "(LStickerPress$Row;)Z"⟩, 4), (⟨"StickerPress$Reading", "stripe", "(LStickerPress$Row;I)I"⟩, 4), (⟨"StickerPress$Reading", "refuse", "(II)Z"⟩, 4), (⟨"StickerPress$Reading", "addDigit", "(LStickerPress$Row;I)Z"⟩, 4), (⟨"StickerPress$Stripes", "keepDigits", "(LStickerPress$Reading;ZLStickerPress$Row;)I"⟩, 8), (⟨"StickerPress$Labels", "changeWaiting", "(II)V"⟩, 5), (⟨"StickerPress$Best", "countAll", "(LStickerPress$Labels;LStickerPress$Sheets;)V"⟩, 10)]
theorem lw_r1 : ∀ q ∈ lw_privs_1, lw_okq q := List.forall_mem_cons.mpr ⟨lw_p0, List.forall_mem_cons.mpr ⟨lw_p1, List.forall_mem_cons.mpr ⟨lw_p2, List.forall_mem_cons.mpr ⟨lw_p3, List.forall_mem_cons.mpr ⟨lw_p4, List.forall_mem_cons.mpr ⟨lw_p5, List.forall_mem_cons.mpr ⟨lw_p6, List.forall_mem_cons.mpr ⟨lw_p7, List.forall_mem_cons.mpr ⟨lw_p8, List.forall_mem_cons.mpr ⟨lw_p9, List.forall_mem_cons.mpr ⟨lw_p10, List.forall_mem_cons.mpr ⟨lw_p11, List.forall_mem_cons.mpr ⟨lw_p12, List.forall_mem_cons.mpr ⟨lw_p13, List.forall_mem_cons.mpr ⟨lw_p14, List.forall_mem_cons.mpr ⟨lw_p15, fun _ h => absurd h List.not_mem_nil⟩⟩⟩⟩⟩⟩⟩⟩⟩⟩⟩⟩⟩⟩⟩⟩
theorem lw_p16 : lw_okq (⟨"StickerPress$Best", "seek", "()V"⟩, 10) := ⟨⟨by decide +kernel, by decide +kernel⟩, List.mem_of_getElem? (i := 167) (by decide +kernel), List.mem_of_getElem? (i := 521) (by decide +kernel), List.mem_of_getElem? (i := 522) (by decide +kernel)⟩
theorem lw_p17 : lw_okq (⟨"StickerPress$Best", "trySheets", "(I)V"⟩, 10) := ⟨⟨by decide +kernel, by decide +kernel⟩, List.mem_of_getElem? (i := 167) (by decide +kernel), List.mem_of_getElem? (i := 525) (by decide +kernel), List.mem_of_getElem? (i := 526) (by decide +kernel)⟩
theorem lw_p18 : lw_okq (⟨"StickerPress$Best", "makeRoom", "(I)Z"⟩, 10) := ⟨⟨by decide +kernel, by decide +kernel⟩, List.mem_of_getElem? (i := 167) (by decide +kernel), List.mem_of_getElem? (i := 536) (by decide +kernel), List.mem_of_getElem? (i := 537) (by decide +kernel)⟩
theorem lw_p19 : lw_okq (⟨"StickerPress$Best", "layAll", "(LStickerPress$Labels;LStickerPress$Sheets;)V"⟩, 10) := ⟨⟨by decide +kernel, by decide +kernel⟩, List.mem_of_getElem? (i := 167) (by decide +kernel), List.mem_of_getElem? (i := 547) (by decide +kernel), List.mem_of_getElem? (i := 548) (by decide +kernel)⟩
theorem lw_p20 : lw_okq (⟨"StickerPress$Best", "layGroup", "(ILStickerPress$Labels;LStickerPress$Sheets;)V"⟩, 10) := ⟨⟨by decide +kernel, by decide +kernel⟩, List.mem_of_getElem? (i := 167) (by decide +kernel), List.mem_of_getElem? (i := 555) (by decide +kernel), List.mem_of_getElem? (i := 556) (by decide +kernel)⟩
theorem lw_p21 : lw_okq (⟨"StickerPress$Labels", "isLabel", "(I)Z"⟩, 5) := ⟨⟨by decide +kernel, by decide +kernel⟩, List.mem_of_getElem? (i := 127) (by decide +kernel), List.mem_of_getElem? (i := 567) (by decide +kernel), List.mem_of_getElem? (i := 568) (by decide +kernel)⟩
theorem lw_p22 : lw_okq (⟨"StickerPress$Best", "layLabel", "(IILStickerPress$Sheets;)V"⟩, 10) := ⟨⟨by decide +kernel, by decide +kernel⟩, List.mem_of_getElem? (i := 167) (by decide +kernel), List.mem_of_getElem? (i := 571) (by decide +kernel), List.mem_of_getElem? (i := 572) (by decide +kernel)⟩
theorem lw_p23 : lw_okq (⟨"StickerPress", "printCell", "(I)Z"⟩, 7) := ⟨⟨by decide +kernel, by decide +kernel⟩, List.mem_of_getElem? (i := 14) (by decide +kernel), List.mem_of_getElem? (i := 622) (by decide +kernel), List.mem_of_getElem? (i := 623) (by decide +kernel)⟩
theorem lw_p24 : lw_okq (⟨"StickerPressModel", "areSigns", "(I)Z"⟩, 46) := ⟨⟨by decide +kernel, by decide +kernel⟩, List.mem_of_getElem? (i := 668) (by decide +kernel), List.mem_of_getElem? (i := 835) (by decide +kernel), List.mem_of_getElem? (i := 836) (by decide +kernel)⟩
theorem lw_p25 : lw_okq (⟨"StickerPressModel", "becomes", "(II)Z"⟩, 46) := ⟨⟨by decide +kernel, by decide +kernel⟩, List.mem_of_getElem? (i := 668) (by decide +kernel), List.mem_of_getElem? (i := 843) (by decide +kernel), List.mem_of_getElem? (i := 844) (by decide +kernel)⟩
theorem lw_p26 : lw_okq (⟨"StickerPressModel", "goes", "(I)Z"⟩, 46) := ⟨⟨by decide +kernel, by decide +kernel⟩, List.mem_of_getElem? (i := 668) (by decide +kernel), List.mem_of_getElem? (i := 847) (by decide +kernel), List.mem_of_getElem? (i := 848) (by decide +kernel)⟩
theorem lw_p27 : lw_okq (⟨"StickerPressModel", "stands", "(II)Z"⟩, 46) := ⟨⟨by decide +kernel, by decide +kernel⟩, List.mem_of_getElem? (i := 668) (by decide +kernel), List.mem_of_getElem? (i := 851) (by decide +kernel), List.mem_of_getElem? (i := 852) (by decide +kernel)⟩
theorem lw_p28 : lw_okq (⟨"StickerPressModel", "puts", "(I)Z"⟩, 46) := ⟨⟨by decide +kernel, by decide +kernel⟩, List.mem_of_getElem? (i := 668) (by decide +kernel), List.mem_of_getElem? (i := 855) (by decide +kernel), List.mem_of_getElem? (i := 856) (by decide +kernel)⟩
theorem lw_p29 : lw_okq (⟨"StickerPressModel", "wideOf", "()I"⟩, 46) := ⟨⟨by decide +kernel, by decide +kernel⟩, List.mem_of_getElem? (i := 668) (by decide +kernel), List.mem_of_getElem? (i := 859) (by decide +kernel), List.mem_of_getElem? (i := 860) (by decide +kernel)⟩
theorem lw_p30 : lw_okq (⟨"StickerPressModel", "check", "(I)I"⟩, 46) := ⟨⟨by decide +kernel, by decide +kernel⟩, List.mem_of_getElem? (i := 668) (by decide +kernel), List.mem_of_getElem? (i := 886) (by decide +kernel), List.mem_of_getElem? (i := 887) (by decide +kernel)⟩
theorem lw_p31 : lw_okq (⟨"StickerPressModel", "draws", "(Z)V"⟩, 46) := ⟨⟨by decide +kernel, by decide +kernel⟩, List.mem_of_getElem? (i := 668) (by decide +kernel), List.mem_of_getElem? (i := 890) (by decide +kernel), List.mem_of_getElem? (i := 891) (by decide +kernel)⟩
def lw_privs_2 : List (MethodName × Nat) := [(⟨"StickerPress$Best", "seek", "()V"⟩, 10), (⟨"StickerPress$Best", "trySheets", "(I)V"⟩, 10), (⟨"StickerPress$Best", "makeRoom", "(I)Z"⟩, 10), (⟨"StickerPress$Best", "layAll", "(LStickerPress$Labels;LStickerPress$Sheets;)V"⟩, 10), (⟨"StickerPress$Best", "layGroup", "(ILStickerPress$Labels;LStickerPress$Sheets;)V"⟩, 10), (⟨"StickerPress$Labels", "isLabel", "(I)Z"⟩, 5), (⟨"StickerPress$Best", "layLabel", "(IILStickerPress$Sheets;)V"⟩, 10), (⟨"StickerPress", "printCell", "(I)Z"⟩, 7), (⟨"StickerPressModel", "areSigns", "(I)Z"⟩, 46), (⟨"StickerPressModel", "becomes", "(II)Z"⟩, 46), (⟨"StickerPressModel", "goes", "(I)Z"⟩, 46), (⟨"StickerPressModel", "stands", "(II)Z"⟩, 46), (⟨"StickerPressModel", "puts", "(I)Z"⟩, 46), (⟨"StickerPressModel", "wideOf", "()I"⟩, 46), (⟨"StickerPressModel", "check", "(I)I"⟩, 46), (⟨"StickerPressModel", "draws", "(Z)V"⟩, 46)]
theorem lw_r2 : ∀ q ∈ lw_privs_2, lw_okq q := List.forall_mem_cons.mpr ⟨lw_p16, List.forall_mem_cons.mpr ⟨lw_p17, List.forall_mem_cons.mpr ⟨lw_p18, List.forall_mem_cons.mpr ⟨lw_p19, List.forall_mem_cons.mpr ⟨lw_p20, List.forall_mem_cons.mpr ⟨lw_p21, List.forall_mem_cons.mpr ⟨lw_p22, List.forall_mem_cons.mpr ⟨lw_p23, List.forall_mem_cons.mpr ⟨lw_p24, List.forall_mem_cons.mpr ⟨lw_p25, List.forall_mem_cons.mpr ⟨lw_p26, List.forall_mem_cons.mpr ⟨lw_p27, List.forall_mem_cons.mpr ⟨lw_p28, List.forall_mem_cons.mpr ⟨lw_p29, List.forall_mem_cons.mpr ⟨lw_p30, List.forall_mem_cons.mpr ⟨lw_p31, fun _ h => absurd h List.not_mem_nil⟩⟩⟩⟩⟩⟩⟩⟩⟩⟩⟩⟩⟩⟩⟩⟩
theorem lw_p32 : lw_okq (⟨"StickerPressModel", "reads", "(Z)Z"⟩, 46) := ⟨⟨by decide +kernel, by decide +kernel⟩, List.mem_of_getElem? (i := 668) (by decide +kernel), List.mem_of_getElem? (i := 901) (by decide +kernel), List.mem_of_getElem? (i := 902) (by decide +kernel)⟩
theorem lw_p33 : lw_okq (⟨"StickerPressModel", "isWide", "(IZI)Z"⟩, 46) := ⟨⟨by decide +kernel, by decide +kernel⟩, List.mem_of_getElem? (i := 668) (by decide +kernel), List.mem_of_getElem? (i := 905) (by decide +kernel), List.mem_of_getElem? (i := 906) (by decide +kernel)⟩
theorem lw_p34 : lw_okq (⟨"StickerPressModel", "bad", "(II)Z"⟩, 46) := ⟨⟨by decide +kernel, by decide +kernel⟩, List.mem_of_getElem? (i := 668) (by decide +kernel), List.mem_of_getElem? (i := 909) (by decide +kernel), List.mem_of_getElem? (i := 910) (by decide +kernel)⟩
theorem lw_p35 : lw_okq (⟨"StickerPressModel", "waiting", "(I)I"⟩, 46) := ⟨⟨by decide +kernel, by decide +kernel⟩, List.mem_of_getElem? (i := 668) (by decide +kernel), List.mem_of_getElem? (i := 928) (by decide +kernel), List.mem_of_getElem? (i := 929) (by decide +kernel)⟩
theorem lw_p36 : lw_okq (⟨"StickerPressModel", "freeOn", "(I)I"⟩, 46) := ⟨⟨by decide +kernel, by decide +kernel⟩, List.mem_of_getElem? (i := 668) (by decide +kernel), List.mem_of_getElem? (i := 936) (by decide +kernel), List.mem_of_getElem? (i := 937) (by decide +kernel)⟩
theorem lw_p37 : lw_okq (⟨"StickerPressModel", "lays", "()Z"⟩, 46) := ⟨⟨by decide +kernel, by decide +kernel⟩, List.mem_of_getElem? (i := 668) (by decide +kernel), List.mem_of_getElem? (i := 940) (by decide +kernel), List.mem_of_getElem? (i := 941) (by decide +kernel)⟩
theorem lw_p38 : lw_okq (⟨"StickerPressModel", "groups", "(I)Z"⟩, 46) := ⟨⟨by decide +kernel, by decide +kernel⟩, List.mem_of_getElem? (i := 668) (by decide +kernel), List.mem_of_getElem? (i := 944) (by decide +kernel), List.mem_of_getElem? (i := 945) (by decide +kernel)⟩
theorem lw_p39 : lw_okq (⟨"StickerPressModel", "sheets", "(I)Z"⟩, 46) := ⟨⟨by decide +kernel, by decide +kernel⟩, List.mem_of_getElem? (i := 668) (by decide +kernel), List.mem_of_getElem? (i := 948) (by decide +kernel), List.mem_of_getElem? (i := 949) (by decide +kernel)⟩
theorem lw_p40 : lw_okq (⟨"StickerPressModel", "heaps", "()I"⟩, 46) := ⟨⟨by decide +kernel, by decide +kernel⟩, List.mem_of_getElem? (i := 668) (by decide +kernel), List.mem_of_getElem? (i := 952) (by decide +kernel), List.mem_of_getElem? (i := 953) (by decide +kernel)⟩
theorem lw_p41 : lw_okq (⟨"StickerPressModel", "plans", "()V"⟩, 46) := ⟨⟨by decide +kernel, by decide +kernel⟩, List.mem_of_getElem? (i := 668) (by decide +kernel), List.mem_of_getElem? (i := 967) (by decide +kernel), List.mem_of_getElem? (i := 968) (by decide +kernel)⟩
def lw_privs_3 : List (MethodName × Nat) := [(⟨"StickerPressModel", "reads", "(Z)Z"⟩, 46), (⟨"StickerPressModel", "isWide", "(IZI)Z"⟩, 46), (⟨"StickerPressModel", "bad", "(II)Z"⟩, 46), (⟨"StickerPressModel", "waiting", "(I)I"⟩, 46), (⟨"StickerPressModel", "freeOn", "(I)I"⟩, 46), (⟨"StickerPressModel", "lays", "()Z"⟩, 46), (⟨"StickerPressModel", "groups", "(I)Z"⟩, 46), (⟨"StickerPressModel", "sheets", "(I)Z"⟩, 46), (⟨"StickerPressModel", "heaps", "()I"⟩, 46), (⟨"StickerPressModel", "plans", "()V"⟩, 46)]
theorem lw_r3 : ∀ q ∈ lw_privs_3, lw_okq q := List.forall_mem_cons.mpr ⟨lw_p32, List.forall_mem_cons.mpr ⟨lw_p33, List.forall_mem_cons.mpr ⟨lw_p34, List.forall_mem_cons.mpr ⟨lw_p35, List.forall_mem_cons.mpr ⟨lw_p36, List.forall_mem_cons.mpr ⟨lw_p37, List.forall_mem_cons.mpr ⟨lw_p38, List.forall_mem_cons.mpr ⟨lw_p39, List.forall_mem_cons.mpr ⟨lw_p40, List.forall_mem_cons.mpr ⟨lw_p41, fun _ h => absurd h List.not_mem_nil⟩⟩⟩⟩⟩⟩⟩⟩⟩⟩
def lw_privs : List (MethodName × Nat) := lw_privs_1 ++ (lw_privs_2 ++ (lw_privs_3))
def lw_tbl : List Cond := k2_sels lw_privs ++ tables_1
theorem lw_privs_ok : ∀ q ∈ lw_privs, lw_okq q := by
  show ∀ q ∈ lw_privs_1 ++ (lw_privs_2 ++ (lw_privs_3)), lw_okq q
  exact List.forall_mem_append.mpr ⟨lw_r1, List.forall_mem_append.mpr ⟨lw_r2, lw_r3⟩⟩
-- ===== names of the classes, fields and methods =====
def RX0 : String := "StickerPress$Best"
def TX0 : u_T := fun k => match k with
  | 0 => ("StickerPress$Best", "counts", "[I", true)
  | 1 => ("StickerPress$Best", "cells", "[I", true)
  | 2 => ("StickerPress$Best", "room", "[I", true)
  | 3 => ("StickerPress$Best", "starts", "[I", true)
  | 4 => ("StickerPress$Best", "planned", "[I", true)
  | 5 => ("StickerPress$Best", "waiting", "I", false)
  | 6 => ("StickerPress$Best", "fresh", "Z", false)
  | 7 => ("StickerPress$Best", "rank", "I", false)
  | 8 => ("StickerPress$Best", "groupCode", "I", false)
  | _ => ("StickerPress$Best", "sheetCode", "I", false)
def tyX0 : Nat → FieldType := fun k => match k with
  | 0 => .array .int
  | 1 => .array .int
  | 2 => .array .int
  | 3 => .array .int
  | 4 => .array .int
  | 5 => .int
  | 6 => .boolean
  | 7 => .int
  | 8 => .int
  | _ => .int
abbrev wsX00 : List Cond := u_ws RX0 TX0 10
theorem nmX0 : ∀ a, a < 10 → ∀ b, b < 10 → a ≠ b → (TX0 a).2.1 ≠ (TX0 b).2.1 := by decide +kernel
theorem tyX0_ok : ∀ k, k < 10 → parseFieldDescriptor (TX0 k).2.2.1 = some (tyX0 k) := by decide +kernel
abbrev cX0_init : ByteArray := prog_2_method_1_code
def yX0_init : MethodName := ⟨RX0, "<init>", "()V"⟩
abbrev cX0_forget : ByteArray := prog_2_method_2_code
def yX0_forget : MethodName := ⟨RX0, "forget", "()V"⟩
abbrev cX0_refresh : ByteArray := prog_2_method_3_code
def yX0_refresh : MethodName := ⟨RX0, "refresh", "(LStickerPress$Labels;LStickerPress$Sheets;)V"⟩
abbrev cX0_exists : ByteArray := prog_2_method_4_code
def yX0_exists : MethodName := ⟨RX0, "exists", "()Z"⟩
abbrev cX0_pieces : ByteArray := prog_2_method_5_code
def yX0_pieces : MethodName := ⟨RX0, "pieces", "()I"⟩
abbrev cX0_sheetsInHeaps : ByteArray := prog_2_method_6_code
def yX0_sheetsInHeaps : MethodName := ⟨RX0, "sheetsInHeaps", "()I"⟩
abbrev cX0_heapOfGroup : ByteArray := prog_2_method_7_code
def yX0_heapOfGroup : MethodName := ⟨RX0, "heapOfGroup", "(I)I"⟩
abbrev cX0_heapOfSheet : ByteArray := prog_2_method_8_code
def yX0_heapOfSheet : MethodName := ⟨RX0, "heapOfSheet", "(I)I"⟩
abbrev cX0_labelFor : ByteArray := prog_2_method_9_code
def yX0_labelFor : MethodName := ⟨RX0, "labelFor", "(I)I"⟩
abbrev cX0_countAll : ByteArray := prog_2_method_10_code
def yX0_countAll : MethodName := ⟨RX0, "countAll", "(LStickerPress$Labels;LStickerPress$Sheets;)V"⟩
abbrev cX0_seek : ByteArray := prog_2_method_11_code
def yX0_seek : MethodName := ⟨RX0, "seek", "()V"⟩
abbrev cX0_trySheets : ByteArray := prog_2_method_12_code
def yX0_trySheets : MethodName := ⟨RX0, "trySheets", "(I)V"⟩
abbrev cX0_makeRoom : ByteArray := prog_2_method_13_code
def yX0_makeRoom : MethodName := ⟨RX0, "makeRoom", "(I)Z"⟩
abbrev cX0_layAll : ByteArray := prog_2_method_14_code
def yX0_layAll : MethodName := ⟨RX0, "layAll", "(LStickerPress$Labels;LStickerPress$Sheets;)V"⟩
abbrev cX0_layGroup : ByteArray := prog_2_method_15_code
def yX0_layGroup : MethodName := ⟨RX0, "layGroup", "(ILStickerPress$Labels;LStickerPress$Sheets;)V"⟩
abbrev cX0_layLabel : ByteArray := prog_2_method_16_code
def yX0_layLabel : MethodName := ⟨RX0, "layLabel", "(IILStickerPress$Sheets;)V"⟩
abbrev cX0_rankOf : ByteArray := prog_2_method_17_code
def yX0_rankOf : MethodName := ⟨RX0, "rankOf", "(I)I"⟩
abbrev cX0_leastHeaps : ByteArray := prog_2_method_18_code
def yX0_leastHeaps : MethodName := ⟨RX0, "leastHeaps", "([I[III)I"⟩
abbrev cX0_groupHeap : ByteArray := prog_2_method_19_code
def yX0_groupHeap : MethodName := ⟨RX0, "groupHeap", "(II)I"⟩
abbrev cX0_groupShift : ByteArray := prog_2_method_20_code
def yX0_groupShift : MethodName := ⟨RX0, "groupShift", "(I)I"⟩
abbrev cX0_sheetHeap : ByteArray := prog_2_method_21_code
def yX0_sheetHeap : MethodName := ⟨RX0, "sheetHeap", "(II)I"⟩
def RX1 : String := "StickerPress$Labels"
def TX1 : u_T := fun k => match k with
  | 0 => ("StickerPress$Labels", "groups", "[I", true)
  | 1 => ("StickerPress$Labels", "times", "[I", true)
  | 2 => ("StickerPress$Labels", "waits", "[Z", true)
  | 3 => ("StickerPress$Labels", "waiting", "[I", true)
  | _ => ("StickerPress$Labels", "count", "I", false)
def tyX1 : Nat → FieldType := fun k => match k with
  | 0 => .array .int
  | 1 => .array .int
  | 2 => .array .boolean
  | 3 => .array .int
  | _ => .int
abbrev wsX10 : List Cond := u_ws RX1 TX1 5
theorem nmX1 : ∀ a, a < 5 → ∀ b, b < 5 → a ≠ b → (TX1 a).2.1 ≠ (TX1 b).2.1 := by decide +kernel
theorem tyX1_ok : ∀ k, k < 5 → parseFieldDescriptor (TX1 k).2.2.1 = some (tyX1 k) := by decide +kernel
abbrev cX1_init : ByteArray := prog_3_method_1_code
def yX1_init : MethodName := ⟨RX1, "<init>", "()V"⟩
abbrev cX1_count : ByteArray := prog_3_method_2_code
def yX1_count : MethodName := ⟨RX1, "count", "()I"⟩
abbrev cX1_waitingIn : ByteArray := prog_3_method_3_code
def yX1_waitingIn : MethodName := ⟨RX1, "waitingIn", "(I)I"⟩
abbrev cX1_allWaiting : ByteArray := prog_3_method_4_code
def yX1_allWaiting : MethodName := ⟨RX1, "allWaiting", "()I"⟩
abbrev cX1_addLabels : ByteArray := prog_3_method_5_code
def yX1_addLabels : MethodName := ⟨RX1, "addLabels", "(II)I"⟩
abbrev cX1_waitsIn : ByteArray := prog_3_method_6_code
def yX1_waitsIn : MethodName := ⟨RX1, "waitsIn", "(II)Z"⟩
abbrev cX1_markPrinted : ByteArray := prog_3_method_7_code
def yX1_markPrinted : MethodName := ⟨RX1, "markPrinted", "(I)V"⟩
abbrev cX1_waitAnew : ByteArray := prog_3_method_8_code
def yX1_waitAnew : MethodName := ⟨RX1, "waitAnew", "(I)Z"⟩
abbrev cX1_tell : ByteArray := prog_3_method_9_code
def yX1_tell : MethodName := ⟨RX1, "tell", "(II)I"⟩
abbrev cX1_isLabel : ByteArray := prog_3_method_10_code
def yX1_isLabel : MethodName := ⟨RX1, "isLabel", "(I)Z"⟩
abbrev cX1_changeWaiting : ByteArray := prog_3_method_11_code
def yX1_changeWaiting : MethodName := ⟨RX1, "changeWaiting", "(II)V"⟩
def RX2 : String := "StickerPress$Names"
def TX2 : u_T := fun k => match k with
  | 0 => ("StickerPress$Names", "widths", "[I", true)
  | 1 => ("StickerPress$Names", "from", "[LStickerPress$Row;", true)
  | 2 => ("StickerPress$Names", "to", "[LStickerPress$Row;", true)
  | 3 => ("StickerPress$Names", "text", "LStickerPress$Row;", true)
  | 4 => ("StickerPress$Names", "next", "LStickerPress$Row;", true)
  | 5 => ("StickerPress$Names", "told", "I", false)
  | _ => ("StickerPress$Names", "latest", "I", false)
def tyX2 : Nat → FieldType := fun k => match k with
  | 0 => .array .int
  | 1 => .array (.object "StickerPress$Row")
  | 2 => .array (.object "StickerPress$Row")
  | 3 => .object "StickerPress$Row"
  | 4 => .object "StickerPress$Row"
  | 5 => .int
  | _ => .int
abbrev wsX20 : List Cond := u_ws RX2 TX2 7
theorem nmX2 : ∀ a, a < 7 → ∀ b, b < 7 → a ≠ b → (TX2 a).2.1 ≠ (TX2 b).2.1 := by decide +kernel
theorem tyX2_ok : ∀ k, k < 7 → parseFieldDescriptor (TX2 k).2.2.1 = some (tyX2 k) := by decide +kernel
abbrev cX2_init : ByteArray := prog_4_method_1_code
def yX2_init : MethodName := ⟨RX2, "<init>", "()V"⟩
abbrev cX2_setWidth : ByteArray := prog_4_method_2_code
def yX2_setWidth : MethodName := ⟨RX2, "setWidth", "(II)Z"⟩
abbrev cX2_setShortening : ByteArray := prog_4_method_3_code
def yX2_setShortening : MethodName := ⟨RX2, "setShortening", "(ILStickerPress$Row;I)Z"⟩
abbrev cX2_latestSet : ByteArray := prog_4_method_4_code
def yX2_latestSet : MethodName := ⟨RX2, "latestSet", "()I"⟩
abbrev cX2_fitText : ByteArray := prog_4_method_5_code
def yX2_fitText : MethodName := ⟨RX2, "fitText", "(LStickerPress$Row;ILStickerPress$Row;)I"⟩
abbrev cX2_bestSet : ByteArray := prog_4_method_6_code
def yX2_bestSet : MethodName := ⟨RX2, "bestSet", "(LStickerPress$Row;I)I"⟩
abbrev cX2_applySet : ByteArray := prog_4_method_7_code
def yX2_applySet : MethodName := ⟨RX2, "applySet", "(LStickerPress$Row;I)Z"⟩
abbrev cX2_applyOne : ByteArray := prog_4_method_8_code
def yX2_applyOne : MethodName := ⟨RX2, "applyOne", "(LStickerPress$Row;LStickerPress$Row;)Z"⟩
abbrev cX2_textWidth : ByteArray := prog_4_method_9_code
def yX2_textWidth : MethodName := ⟨RX2, "textWidth", "()I"⟩
abbrev cX2_areShortening : ByteArray := prog_4_method_10_code
def yX2_areShortening : MethodName := ⟨RX2, "areShortening", "(LStickerPress$Row;I)Z"⟩
abbrev cX2_areSigns : ByteArray := prog_4_method_11_code
def yX2_areSigns : MethodName := ⟨RX2, "areSigns", "(LStickerPress$Row;)Z"⟩
def RX3 : String := "StickerPress$Reading"
def TX3 : u_T := fun k => match k with
  | 0 => ("StickerPress$Reading", "backward", "Z", true)
  | 1 => ("StickerPress$Reading", "digits", "LStickerPress$Row;", true)
  | 2 => ("StickerPress$Reading", "fault", "I", false)
  | _ => ("StickerPress$Reading", "place", "I", false)
def tyX3 : Nat → FieldType := fun k => match k with
  | 0 => .boolean
  | 1 => .object "StickerPress$Row"
  | 2 => .int
  | _ => .int
abbrev wsX30 : List Cond := u_ws RX3 TX3 4
theorem nmX3 : ∀ a, a < 4 → ∀ b, b < 4 → a ≠ b → (TX3 a).2.1 ≠ (TX3 b).2.1 := by decide +kernel
theorem tyX3_ok : ∀ k, k < 4 → parseFieldDescriptor (TX3 k).2.2.1 = some (tyX3 k) := by decide +kernel
abbrev cX3_init : ByteArray := prog_5_method_1_code
def yX3_init : MethodName := ⟨RX3, "<init>", "(Z)V"⟩
abbrev cX3_decode : ByteArray := prog_5_method_2_code
def yX3_decode : MethodName := ⟨RX3, "decode", "(LStickerPress$Row;)Z"⟩
abbrev cX3_refuse : ByteArray := prog_5_method_3_code
def yX3_refuse : MethodName := ⟨RX3, "refuse", "(II)Z"⟩
abbrev cX3_stripe : ByteArray := prog_5_method_4_code
def yX3_stripe : MethodName := ⟨RX3, "stripe", "(LStickerPress$Row;I)I"⟩
abbrev cX3_endsStand : ByteArray := prog_5_method_5_code
def yX3_endsStand : MethodName := ⟨RX3, "endsStand", "(LStickerPress$Row;)Z"⟩
abbrev cX3_addDigit : ByteArray := prog_5_method_6_code
def yX3_addDigit : MethodName := ⟨RX3, "addDigit", "(LStickerPress$Row;I)Z"⟩
def RX4 : String := "StickerPress$Row"
def TX4 : u_T := fun k => match k with
  | 0 => ("StickerPress$Row", "items", "[I", true)
  | _ => ("StickerPress$Row", "size", "I", false)
def tyX4 : Nat → FieldType := fun k => match k with
  | 0 => .array .int
  | _ => .int
abbrev wsX40 : List Cond := u_ws RX4 TX4 2
theorem nmX4 : ∀ a, a < 2 → ∀ b, b < 2 → a ≠ b → (TX4 a).2.1 ≠ (TX4 b).2.1 := by decide +kernel
theorem tyX4_ok : ∀ k, k < 2 → parseFieldDescriptor (TX4 k).2.2.1 = some (tyX4 k) := by decide +kernel
abbrev cX4_init : ByteArray := prog_6_method_1_code
def yX4_init : MethodName := ⟨RX4, "<init>", "(I)V"⟩
abbrev cX4_size : ByteArray := prog_6_method_2_code
def yX4_size : MethodName := ⟨RX4, "size", "()I"⟩
abbrev cX4_at : ByteArray := prog_6_method_3_code
def yX4_at : MethodName := ⟨RX4, "at", "(I)I"⟩
abbrev cX4_clear : ByteArray := prog_6_method_4_code
def yX4_clear : MethodName := ⟨RX4, "clear", "()V"⟩
abbrev cX4_add : ByteArray := prog_6_method_5_code
def yX4_add : MethodName := ⟨RX4, "add", "(I)Z"⟩
abbrev cX4_addPart : ByteArray := prog_6_method_6_code
def yX4_addPart : MethodName := ⟨RX4, "addPart", "(LStickerPress$Row;II)Z"⟩
abbrev cX4_copyFrom : ByteArray := prog_6_method_7_code
def yX4_copyFrom : MethodName := ⟨RX4, "copyFrom", "(LStickerPress$Row;)V"⟩
abbrev cX4_cut : ByteArray := prog_6_method_8_code
def yX4_cut : MethodName := ⟨RX4, "cut", "(I)Z"⟩
abbrev cX4_standsAt : ByteArray := prog_6_method_9_code
def yX4_standsAt : MethodName := ⟨RX4, "standsAt", "(ILStickerPress$Row;)Z"⟩
abbrev cX4_allWithin : ByteArray := prog_6_method_10_code
def yX4_allWithin : MethodName := ⟨RX4, "allWithin", "(II)Z"⟩
def RX5 : String := "StickerPress$Sheets"
def TX5 : u_T := fun k => match k with
  | 0 => ("StickerPress$Sheets", "free", "[J", true)
  | 1 => ("StickerPress$Sheets", "numbers", "[I", true)
  | _ => ("StickerPress$Sheets", "spoiled", "[Z", true)
def tyX5 : Nat → FieldType := fun k => match k with
  | 0 => .array .long
  | 1 => .array .int
  | _ => .array .boolean
abbrev wsX50 : List Cond := u_ws RX5 TX5 3
theorem nmX5 : ∀ a, a < 3 → ∀ b, b < 3 → a ≠ b → (TX5 a).2.1 ≠ (TX5 b).2.1 := by decide +kernel
theorem tyX5_ok : ∀ k, k < 3 → parseFieldDescriptor (TX5 k).2.2.1 = some (tyX5 k) := by decide +kernel
abbrev cX5_init : ByteArray := prog_7_method_1_code
def yX5_init : MethodName := ⟨RX5, "<init>", "()V"⟩
abbrev cX5_replace : ByteArray := prog_7_method_2_code
def yX5_replace : MethodName := ⟨RX5, "replace", "(IJ)Z"⟩
abbrev cX5_freeIn : ByteArray := prog_7_method_3_code
def yX5_freeIn : MethodName := ⟨RX5, "freeIn", "(I)I"⟩
abbrev cX5_allFree : ByteArray := prog_7_method_4_code
def yX5_allFree : MethodName := ⟨RX5, "allFree", "()I"⟩
abbrev cX5_isFree : ByteArray := prog_7_method_5_code
def yX5_isFree : MethodName := ⟨RX5, "isFree", "(I)Z"⟩
abbrev cX5_put : ByteArray := prog_7_method_6_code
def yX5_put : MethodName := ⟨RX5, "put", "(II)V"⟩
abbrev cX5_labelIn : ByteArray := prog_7_method_7_code
def yX5_labelIn : MethodName := ⟨RX5, "labelIn", "(I)I"⟩
abbrev cX5_isGood : ByteArray := prog_7_method_8_code
def yX5_isGood : MethodName := ⟨RX5, "isGood", "(I)Z"⟩
abbrev cX5_markSpoiled : ByteArray := prog_7_method_9_code
def yX5_markSpoiled : MethodName := ⟨RX5, "markSpoiled", "(I)V"⟩
def RX6 : String := "StickerPress$Stripes"
def TX6 : u_T := fun k => match k with
  | 0 => ("StickerPress$Stripes", "digits", "LStickerPress$Row;", true)
  | 1 => ("StickerPress$Stripes", "wides", "LStickerPress$Row;", true)
  | 2 => ("StickerPress$Stripes", "ahead", "LStickerPress$Reading;", true)
  | 3 => ("StickerPress$Stripes", "behind", "LStickerPress$Reading;", true)
  | 4 => ("StickerPress$Stripes", "wideStripe", "I", false)
  | 5 => ("StickerPress$Stripes", "fault", "I", false)
  | 6 => ("StickerPress$Stripes", "place", "I", false)
  | _ => ("StickerPress$Stripes", "fromBehind", "Z", false)
def tyX6 : Nat → FieldType := fun k => match k with
  | 0 => .object "StickerPress$Row"
  | 1 => .object "StickerPress$Row"
  | 2 => .object "StickerPress$Reading"
  | 3 => .object "StickerPress$Reading"
  | 4 => .int
  | 5 => .int
  | 6 => .int
  | _ => .boolean
abbrev wsX60 : List Cond := u_ws RX6 TX6 8
theorem nmX6 : ∀ a, a < 8 → ∀ b, b < 8 → a ≠ b → (TX6 a).2.1 ≠ (TX6 b).2.1 := by decide +kernel
theorem tyX6_ok : ∀ k, k < 8 → parseFieldDescriptor (TX6 k).2.2.1 = some (tyX6 k) := by decide +kernel
abbrev cX6_init : ByteArray := prog_8_method_1_code
def yX6_init : MethodName := ⟨RX6, "<init>", "()V"⟩
abbrev cX6_setRatio : ByteArray := prog_8_method_2_code
def yX6_setRatio : MethodName := ⟨RX6, "setRatio", "(I)Z"⟩
abbrev cX6_drawBars : ByteArray := prog_8_method_3_code
def yX6_drawBars : MethodName := ⟨RX6, "drawBars", "(LStickerPress$Row;LStickerPress$Row;)I"⟩
abbrev cX6_readBars : ByteArray := prog_8_method_4_code
def yX6_readBars : MethodName := ⟨RX6, "readBars", "(LStickerPress$Row;LStickerPress$Row;)I"⟩
abbrev cX6_latestFault : ByteArray := prog_8_method_5_code
def yX6_latestFault : MethodName := ⟨RX6, "latestFault", "(I)I"⟩
abbrev cX6_takeDigits : ByteArray := prog_8_method_6_code
def yX6_takeDigits : MethodName := ⟨RX6, "takeDigits", "(LStickerPress$Row;)V"⟩
abbrev cX6_drawPair : ByteArray := prog_8_method_7_code
def yX6_drawPair : MethodName := ⟨RX6, "drawPair", "(IILStickerPress$Row;)V"⟩
abbrev cX6_findWides : ByteArray := prog_8_method_8_code
def yX6_findWides : MethodName := ⟨RX6, "findWides", "(LStickerPress$Row;)V"⟩
abbrev cX6_keepDigits : ByteArray := prog_8_method_9_code
def yX6_keepDigits : MethodName := ⟨RX6, "keepDigits", "(LStickerPress$Reading;ZLStickerPress$Row;)I"⟩
abbrev cX6_keepFault : ByteArray := prog_8_method_10_code
def yX6_keepFault : MethodName := ⟨RX6, "keepFault", "(II)V"⟩
abbrev cX6_canBeBars : ByteArray := prog_8_method_11_code
def yX6_canBeBars : MethodName := ⟨RX6, "canBeBars", "(LStickerPress$Row;)Z"⟩
abbrev cX6_codeOf : ByteArray := prog_8_method_12_code
def yX6_codeOf : MethodName := ⟨RX6, "codeOf", "(I)I"⟩
abbrev cX6_checkOf : ByteArray := prog_8_method_13_code
def yX6_checkOf : MethodName := ⟨RX6, "checkOf", "(LStickerPress$Row;I)I"⟩
def RX7 : String := "StickerPress"
def TX7 : u_T := fun k => match k with
  | 0 => ("StickerPress", "tape", "LStickerPress$Row;", true)
  | 1 => ("StickerPress", "shown", "LStickerPress$Row;", true)
  | 2 => ("StickerPress", "names", "LStickerPress$Names;", true)
  | 3 => ("StickerPress", "stripes", "LStickerPress$Stripes;", true)
  | 4 => ("StickerPress", "labels", "LStickerPress$Labels;", true)
  | 5 => ("StickerPress", "sheets", "LStickerPress$Sheets;", true)
  | _ => ("StickerPress", "best", "LStickerPress$Best;", true)
def tyX7 : Nat → FieldType := fun k => match k with
  | 0 => .object "StickerPress$Row"
  | 1 => .object "StickerPress$Row"
  | 2 => .object "StickerPress$Names"
  | 3 => .object "StickerPress$Stripes"
  | 4 => .object "StickerPress$Labels"
  | 5 => .object "StickerPress$Sheets"
  | _ => .object "StickerPress$Best"
abbrev wsX70 : List Cond := u_ws RX7 TX7 7
theorem nmX7 : ∀ a, a < 7 → ∀ b, b < 7 → a ≠ b → (TX7 a).2.1 ≠ (TX7 b).2.1 := by decide +kernel
theorem tyX7_ok : ∀ k, k < 7 → parseFieldDescriptor (TX7 k).2.2.1 = some (tyX7 k) := by decide +kernel
abbrev cX7_init : ByteArray := prog_1_method_1_code
def yX7_init : MethodName := ⟨RX7, "<init>", "()V"⟩
abbrev cX7_wide : ByteArray := prog_1_method_2_code
def yX7_wide : MethodName := ⟨RX7, "wide", "(II)Z"⟩
abbrev cX7_feed : ByteArray := prog_1_method_3_code
def yX7_feed : MethodName := ⟨RX7, "feed", "(IIIII)I"⟩
abbrev cX7_end : ByteArray := prog_1_method_4_code
def yX7_end : MethodName := ⟨RX7, "end", "(I)Z"⟩
abbrev cX7_shorten : ByteArray := prog_1_method_5_code
def yX7_shorten : MethodName := ⟨RX7, "shorten", "(II)Z"⟩
abbrev cX7_fit : ByteArray := prog_1_method_6_code
def yX7_fit : MethodName := ⟨RX7, "fit", "(I)I"⟩
abbrev cX7_used : ByteArray := prog_1_method_7_code
def yX7_used : MethodName := ⟨RX7, "used", "()I"⟩
abbrev cX7_out : ByteArray := prog_1_method_8_code
def yX7_out : MethodName := ⟨RX7, "out", "(I)I"⟩
abbrev cX7_ratio : ByteArray := prog_1_method_9_code
def yX7_ratio : MethodName := ⟨RX7, "ratio", "(I)Z"⟩
abbrev cX7_bars : ByteArray := prog_1_method_10_code
def yX7_bars : MethodName := ⟨RX7, "bars", "()I"⟩
abbrev cX7_read : ByteArray := prog_1_method_11_code
def yX7_read : MethodName := ⟨RX7, "read", "()I"⟩
abbrev cX7_fault : ByteArray := prog_1_method_12_code
def yX7_fault : MethodName := ⟨RX7, "fault", "(I)I"⟩
abbrev cX7_take : ByteArray := prog_1_method_13_code
def yX7_take : MethodName := ⟨RX7, "take", "()I"⟩
abbrev cX7_sheet : ByteArray := prog_1_method_14_code
def yX7_sheet : MethodName := ⟨RX7, "sheet", "(IJ)Z"⟩
abbrev cX7_come : ByteArray := prog_1_method_15_code
def yX7_come : MethodName := ⟨RX7, "come", "(II)I"⟩
abbrev cX7_look : ByteArray := prog_1_method_16_code
def yX7_look : MethodName := ⟨RX7, "look", "(I)I"⟩
abbrev cX7_heap : ByteArray := prog_1_method_17_code
def yX7_heap : MethodName := ⟨RX7, "heap", "(II)I"⟩
abbrev cX7_plan : ByteArray := prog_1_method_18_code
def yX7_plan : MethodName := ⟨RX7, "plan", "(II)I"⟩
abbrev cX7_print : ByteArray := prog_1_method_19_code
def yX7_print : MethodName := ⟨RX7, "print", "(I)I"⟩
abbrev cX7_printed : ByteArray := prog_1_method_20_code
def yX7_printed : MethodName := ⟨RX7, "printed", "(II)I"⟩
abbrev cX7_spoil : ByteArray := prog_1_method_21_code
def yX7_spoil : MethodName := ⟨RX7, "spoil", "(II)I"⟩
abbrev cX7_label : ByteArray := prog_1_method_22_code
def yX7_label : MethodName := ⟨RX7, "label", "(II)I"⟩
abbrev cX7_feedBytes : ByteArray := prog_1_method_23_code
def yX7_feedBytes : MethodName := ⟨RX7, "feedBytes", "(I)V"⟩
abbrev cX7_printCell : ByteArray := prog_1_method_24_code
def yX7_printCell : MethodName := ⟨RX7, "printCell", "(I)Z"⟩
abbrev cX7_isSheet : ByteArray := prog_1_method_25_code
def yX7_isSheet : MethodName := ⟨RX7, "isSheet", "(I)Z"⟩
abbrev cX7_isGroup : ByteArray := prog_1_method_26_code
def yX7_isGroup : MethodName := ⟨RX7, "isGroup", "(I)Z"⟩
abbrev cX7_isPlace : ByteArray := prog_1_method_27_code
def yX7_isPlace : MethodName := ⟨RX7, "isPlace", "(I)Z"⟩
abbrev cX7_placeOf : ByteArray := prog_1_method_28_code
def yX7_placeOf : MethodName := ⟨RX7, "placeOf", "(II)I"⟩
def RX8 : String := "StickerPressModel"
def TX8 : u_T := fun k => match k with
  | 0 => ("StickerPressModel", "width", "[I", true)
  | 1 => ("StickerPressModel", "tape", "[I", true)
  | 2 => ("StickerPressModel", "out", "[I", true)
  | 3 => ("StickerPressModel", "taped", "I", false)
  | 4 => ("StickerPressModel", "outs", "I", false)
  | 5 => ("StickerPressModel", "fromLong", "[I", true)
  | 6 => ("StickerPressModel", "toLong", "[I", true)
  | 7 => ("StickerPressModel", "from", "[I", true)
  | 8 => ("StickerPressModel", "to", "[I", true)
  | 9 => ("StickerPressModel", "text", "[I", true)
  | 10 => ("StickerPressModel", "made", "[I", true)
  | 11 => ("StickerPressModel", "best", "[I", true)
  | 12 => ("StickerPressModel", "textLong", "I", false)
  | 13 => ("StickerPressModel", "madeLong", "I", false)
  | 14 => ("StickerPressModel", "bestLong", "I", false)
  | 15 => ("StickerPressModel", "bestSet", "I", false)
  | 16 => ("StickerPressModel", "bestWide", "I", false)
  | 17 => ("StickerPressModel", "used", "I", false)
  | 18 => ("StickerPressModel", "ratio", "I", false)
  | 19 => ("StickerPressModel", "digit", "[I", true)
  | 20 => ("StickerPressModel", "stripe", "[I", true)
  | 21 => ("StickerPressModel", "digits", "I", false)
  | 22 => ("StickerPressModel", "stripes", "I", false)
  | 23 => ("StickerPressModel", "faultKind", "I", false)
  | 24 => ("StickerPressModel", "behind", "I", false)
  | 25 => ("StickerPressModel", "faultPlace", "I", false)
  | 26 => ("StickerPressModel", "wrong", "I", false)
  | 27 => ("StickerPressModel", "wrongAt", "I", false)
  | 28 => ("StickerPressModel", "free", "[J", true)
  | 29 => ("StickerPressModel", "cell", "[I", true)
  | 30 => ("StickerPressModel", "spoiled", "[Z", true)
  | 31 => ("StickerPressModel", "labels", "I", false)
  | 32 => ("StickerPressModel", "groupOf", "[I", true)
  | 33 => ("StickerPressModel", "printedOften", "[I", true)
  | 34 => ("StickerPressModel", "waits", "[Z", true)
  | 35 => ("StickerPressModel", "heapOf", "[I", true)
  | 36 => ("StickerPressModel", "sheetHeap", "[I", true)
  | 37 => ("StickerPressModel", "bestHeap", "[I", true)
  | 38 => ("StickerPressModel", "bestSheet", "[I", true)
  | 39 => ("StickerPressModel", "many", "[I", true)
  | 40 => ("StickerPressModel", "room", "[I", true)
  | 41 => ("StickerPressModel", "bestPieces", "I", false)
  | 42 => ("StickerPressModel", "bestSheets", "I", false)
  | 43 => ("StickerPressModel", "need", "[I", true)
  | 44 => ("StickerPressModel", "has", "[I", true)
  | _ => ("StickerPressModel", "spot", "[I", true)
def tyX8 : Nat → FieldType := fun k => match k with
  | 0 => .array .int
  | 1 => .array .int
  | 2 => .array .int
  | 3 => .int
  | 4 => .int
  | 5 => .array .int
  | 6 => .array .int
  | 7 => .array .int
  | 8 => .array .int
  | 9 => .array .int
  | 10 => .array .int
  | 11 => .array .int
  | 12 => .int
  | 13 => .int
  | 14 => .int
  | 15 => .int
  | 16 => .int
  | 17 => .int
  | 18 => .int
  | 19 => .array .int
  | 20 => .array .int
  | 21 => .int
  | 22 => .int
  | 23 => .int
  | 24 => .int
  | 25 => .int
  | 26 => .int
  | 27 => .int
  | 28 => .array .long
  | 29 => .array .int
  | 30 => .array .boolean
  | 31 => .int
  | 32 => .array .int
  | 33 => .array .int
  | 34 => .array .boolean
  | 35 => .array .int
  | 36 => .array .int
  | 37 => .array .int
  | 38 => .array .int
  | 39 => .array .int
  | 40 => .array .int
  | 41 => .int
  | 42 => .int
  | 43 => .array .int
  | 44 => .array .int
  | _ => .array .int
abbrev wsX80 : List Cond := u_ws RX8 TX8 46
theorem nmX8 : ∀ a, a < 46 → ∀ b, b < 46 → a ≠ b → (TX8 a).2.1 ≠ (TX8 b).2.1 := by decide +kernel
theorem tyX8_ok : ∀ k, k < 46 → parseFieldDescriptor (TX8 k).2.2.1 = some (tyX8 k) := by decide +kernel
abbrev cX8_init : ByteArray := prog_10_method_1_code
def yX8_init : MethodName := ⟨RX8, "<init>", "()V"⟩
abbrev cX8_isIn : ByteArray := prog_10_method_2_code
def yX8_isIn : MethodName := ⟨RX8, "isIn", "(III)Z"⟩
abbrev cX8_isSign : ByteArray := prog_10_method_3_code
def yX8_isSign : MethodName := ⟨RX8, "isSign", "(I)Z"⟩
abbrev cX8_wide : ByteArray := prog_10_method_4_code
def yX8_wide : MethodName := ⟨RX8, "wide", "(II)Z"⟩
abbrev cX8_feed : ByteArray := prog_10_method_5_code
def yX8_feed : MethodName := ⟨RX8, "feed", "(IIIII)I"⟩
abbrev cX8_end : ByteArray := prog_10_method_6_code
def yX8_end : MethodName := ⟨RX8, "end", "(I)Z"⟩
abbrev cX8_areSigns : ByteArray := prog_10_method_7_code
def yX8_areSigns : MethodName := ⟨RX8, "areSigns", "(I)Z"⟩
abbrev cX8_shorten : ByteArray := prog_10_method_8_code
def yX8_shorten : MethodName := ⟨RX8, "shorten", "(II)Z"⟩
abbrev cX8_puts : ByteArray := prog_10_method_9_code
def yX8_puts : MethodName := ⟨RX8, "puts", "(I)Z"⟩
abbrev cX8_stands : ByteArray := prog_10_method_10_code
def yX8_stands : MethodName := ⟨RX8, "stands", "(II)Z"⟩
abbrev cX8_goes : ByteArray := prog_10_method_11_code
def yX8_goes : MethodName := ⟨RX8, "goes", "(I)Z"⟩
abbrev cX8_bits : ByteArray := prog_10_method_12_code
def yX8_bits : MethodName := ⟨RX8, "bits", "(I)I"⟩
abbrev cX8_becomes : ByteArray := prog_10_method_13_code
def yX8_becomes : MethodName := ⟨RX8, "becomes", "(II)Z"⟩
abbrev cX8_wideOf : ByteArray := prog_10_method_14_code
def yX8_wideOf : MethodName := ⟨RX8, "wideOf", "()I"⟩
abbrev cX8_fit : ByteArray := prog_10_method_15_code
def yX8_fit : MethodName := ⟨RX8, "fit", "(I)I"⟩
abbrev cX8_used : ByteArray := prog_10_method_16_code
def yX8_used : MethodName := ⟨RX8, "used", "()I"⟩
abbrev cX8_out : ByteArray := prog_10_method_17_code
def yX8_out : MethodName := ⟨RX8, "out", "(I)I"⟩
abbrev cX8_take : ByteArray := prog_10_method_18_code
def yX8_take : MethodName := ⟨RX8, "take", "()I"⟩
abbrev cX8_ratio : ByteArray := prog_10_method_19_code
def yX8_ratio : MethodName := ⟨RX8, "ratio", "(I)Z"⟩
abbrev cX8_five : ByteArray := prog_10_method_20_code
def yX8_five : MethodName := ⟨RX8, "five", "(I)I"⟩
abbrev cX8_check : ByteArray := prog_10_method_21_code
def yX8_check : MethodName := ⟨RX8, "check", "(I)I"⟩
abbrev cX8_draws : ByteArray := prog_10_method_22_code
def yX8_draws : MethodName := ⟨RX8, "draws", "(Z)V"⟩
abbrev cX8_bars : ByteArray := prog_10_method_23_code
def yX8_bars : MethodName := ⟨RX8, "bars", "()I"⟩
abbrev cX8_isWide : ByteArray := prog_10_method_24_code
def yX8_isWide : MethodName := ⟨RX8, "isWide", "(IZI)Z"⟩
abbrev cX8_bad : ByteArray := prog_10_method_25_code
def yX8_bad : MethodName := ⟨RX8, "bad", "(II)Z"⟩
abbrev cX8_reads : ByteArray := prog_10_method_26_code
def yX8_reads : MethodName := ⟨RX8, "reads", "(Z)Z"⟩
abbrev cX8_read : ByteArray := prog_10_method_27_code
def yX8_read : MethodName := ⟨RX8, "read", "()I"⟩
abbrev cX8_fault : ByteArray := prog_10_method_28_code
def yX8_fault : MethodName := ⟨RX8, "fault", "(I)I"⟩
abbrev cX8_isSheet : ByteArray := prog_10_method_29_code
def yX8_isSheet : MethodName := ⟨RX8, "isSheet", "(I)Z"⟩
abbrev cX8_sheet : ByteArray := prog_10_method_30_code
def yX8_sheet : MethodName := ⟨RX8, "sheet", "(IJ)Z"⟩
abbrev cX8_waiting : ByteArray := prog_10_method_31_code
def yX8_waiting : MethodName := ⟨RX8, "waiting", "(I)I"⟩
abbrev cX8_come : ByteArray := prog_10_method_32_code
def yX8_come : MethodName := ⟨RX8, "come", "(II)I"⟩
abbrev cX8_freeOn : ByteArray := prog_10_method_33_code
def yX8_freeOn : MethodName := ⟨RX8, "freeOn", "(I)I"⟩
abbrev cX8_groups : ByteArray := prog_10_method_34_code
def yX8_groups : MethodName := ⟨RX8, "groups", "(I)Z"⟩
abbrev cX8_sheets : ByteArray := prog_10_method_35_code
def yX8_sheets : MethodName := ⟨RX8, "sheets", "(I)Z"⟩
abbrev cX8_heaps : ByteArray := prog_10_method_36_code
def yX8_heaps : MethodName := ⟨RX8, "heaps", "()I"⟩
abbrev cX8_lays : ByteArray := prog_10_method_37_code
def yX8_lays : MethodName := ⟨RX8, "lays", "()Z"⟩
abbrev cX8_look : ByteArray := prog_10_method_38_code
def yX8_look : MethodName := ⟨RX8, "look", "(I)I"⟩
abbrev cX8_heap : ByteArray := prog_10_method_39_code
def yX8_heap : MethodName := ⟨RX8, "heap", "(II)I"⟩
abbrev cX8_plans : ByteArray := prog_10_method_40_code
def yX8_plans : MethodName := ⟨RX8, "plans", "()V"⟩
abbrev cX8_isCell : ByteArray := prog_10_method_41_code
def yX8_isCell : MethodName := ⟨RX8, "isCell", "(I)Z"⟩
abbrev cX8_plan : ByteArray := prog_10_method_42_code
def yX8_plan : MethodName := ⟨RX8, "plan", "(II)I"⟩
abbrev cX8_print : ByteArray := prog_10_method_43_code
def yX8_print : MethodName := ⟨RX8, "print", "(I)I"⟩
abbrev cX8_printed : ByteArray := prog_10_method_44_code
def yX8_printed : MethodName := ⟨RX8, "printed", "(II)I"⟩
abbrev cX8_spoil : ByteArray := prog_10_method_45_code
def yX8_spoil : MethodName := ⟨RX8, "spoil", "(II)I"⟩
abbrev cX8_label : ByteArray := prog_10_method_46_code
def yX8_label : MethodName := ⟨RX8, "label", "(II)I"⟩
def RJ6 : String := "java/lang/Integer"
def TJ6 : u_T := fun k => match k with
  | _ => ("", "", "", false)
def tyJ6 : Nat → FieldType := fun k => match k with
  | _ => .int
abbrev wsJ60 : List Cond := u_ws RJ6 TJ6 0
theorem nmJ6 : ∀ a, a < 0 → ∀ b, b < 0 → a ≠ b → (TJ6 a).2.1 ≠ (TJ6 b).2.1 := by decide +kernel
theorem tyJ6_ok : ∀ k, k < 0 → parseFieldDescriptor (TJ6 k).2.2.1 = some (tyJ6 k) := by decide +kernel
abbrev cJ6_bitCount_0f7a4 : ByteArray := prog_11_method_49_code
def yJ6_bitCount_0f7a4 : MethodName := ⟨RJ6, "bitCount", "(I)I"⟩
def RJ13 : String := "java/lang/Long"
def TJ13 : u_T := fun k => match k with
  | _ => ("", "", "", false)
def tyJ13 : Nat → FieldType := fun k => match k with
  | _ => .int
abbrev wsJ130 : List Cond := u_ws RJ13 TJ13 0
theorem nmJ13 : ∀ a, a < 0 → ∀ b, b < 0 → a ≠ b → (TJ13 a).2.1 ≠ (TJ13 b).2.1 := by decide +kernel
theorem tyJ13_ok : ∀ k, k < 0 → parseFieldDescriptor (TJ13 k).2.2.1 = some (tyJ13 k) := by decide +kernel
abbrev cJ13_bitCount_95d88 : ByteArray := prog_12_method_50_code
def yJ13_bitCount_95d88 : MethodName := ⟨RJ13, "bitCount", "(J)I"⟩
def RJ9 : String := "java/lang/Math"
def TJ9 : u_T := fun k => match k with
  | _ => ("", "", "", false)
def tyJ9 : Nat → FieldType := fun k => match k with
  | _ => .int
abbrev wsJ90 : List Cond := u_ws RJ9 TJ9 0
theorem nmJ9 : ∀ a, a < 0 → ∀ b, b < 0 → a ≠ b → (TJ9 a).2.1 ≠ (TJ9 b).2.1 := by decide +kernel
theorem tyJ9_ok : ∀ k, k < 0 → parseFieldDescriptor (TJ9 k).2.2.1 = some (tyJ9 k) := by decide +kernel
abbrev cJ9_max_7cf53 : ByteArray := prog_13_method_65_code
def yJ9_max_7cf53 : MethodName := ⟨RJ9, "max", "(II)I"⟩
abbrev cJ9_min_7cf53 : ByteArray := prog_13_method_69_code
def yJ9_min_7cf53 : MethodName := ⟨RJ9, "min", "(II)I"⟩
def RL : String := "StickerPressLaw"
abbrev cL_law : ByteArray := code
def gtbl : List Cond := lw_tbl.filter goodWord
theorem gm {w : Cond} (i : Nat) (h : lw_tbl[i]? = some w) (hg : goodWord w = true) : w ∈ gtbl := List.mem_filter.mpr ⟨List.mem_of_getElem? h, hg⟩
theorem gtbl_in : ∀ w ∈ gtbl, w ∈ lw_tbl := fun _ h => (List.mem_filter.mp h).1
theorem gtbl_good : ∀ w ∈ gtbl, goodWord w = true := fun _ h => (List.mem_filter.mp h).2
abbrev vwCl : List vw_C := [(RX0, TX0, 10), (RX1, TX1, 5), (RX2, TX2, 7), (RX3, TX3, 4), (RX4, TX4, 2), (RX5, TX5, 3), (RX6, TX6, 8), (RX7, TX7, 7), (RX8, TX8, 46)]
theorem in0 : ∀ w ∈ wsX00, w ∈ gtbl := by decide +kernel
theorem in1 : ∀ w ∈ wsX10, w ∈ gtbl := by decide +kernel
theorem in2 : ∀ w ∈ wsX20, w ∈ gtbl := by decide +kernel
theorem in3 : ∀ w ∈ wsX30, w ∈ gtbl := by decide +kernel
theorem in4 : ∀ w ∈ wsX40, w ∈ gtbl := by decide +kernel
theorem in5 : ∀ w ∈ wsX50, w ∈ gtbl := by decide +kernel
theorem in6 : ∀ w ∈ wsX60, w ∈ gtbl := by decide +kernel
theorem in7 : ∀ w ∈ wsX70, w ∈ gtbl := by decide +kernel
theorem in8 : ∀ w ∈ wsX80, w ∈ gtbl := by decide +kernel
theorem w0 : Cond.selects RX7 yX7_feedBytes yX7_feedBytes ∈ gtbl := gm 0 (by decide +kernel) (by decide +kernel)
theorem w1 : Cond.selects RX2 yX2_bestSet yX2_bestSet ∈ gtbl := gm 1 (by decide +kernel) (by decide +kernel)
theorem w2 : Cond.selects RX2 yX2_applySet yX2_applySet ∈ gtbl := gm 2 (by decide +kernel) (by decide +kernel)
theorem w3 : Cond.selects RX2 yX2_applyOne yX2_applyOne ∈ gtbl := gm 3 (by decide +kernel) (by decide +kernel)
theorem w4 : Cond.selects RX2 yX2_textWidth yX2_textWidth ∈ gtbl := gm 4 (by decide +kernel) (by decide +kernel)
theorem w5 : Cond.selects RX6 yX6_takeDigits yX6_takeDigits ∈ gtbl := gm 5 (by decide +kernel) (by decide +kernel)
theorem w6 : Cond.selects RX6 yX6_drawPair yX6_drawPair ∈ gtbl := gm 6 (by decide +kernel) (by decide +kernel)
theorem w7 : Cond.selects RX6 yX6_keepFault yX6_keepFault ∈ gtbl := gm 7 (by decide +kernel) (by decide +kernel)
theorem w8 : Cond.selects RX6 yX6_findWides yX6_findWides ∈ gtbl := gm 8 (by decide +kernel) (by decide +kernel)
theorem w9 : Cond.selects RX3 yX3_endsStand yX3_endsStand ∈ gtbl := gm 9 (by decide +kernel) (by decide +kernel)
theorem w10 : Cond.selects RX3 yX3_stripe yX3_stripe ∈ gtbl := gm 10 (by decide +kernel) (by decide +kernel)
theorem w11 : Cond.selects RX3 yX3_refuse yX3_refuse ∈ gtbl := gm 11 (by decide +kernel) (by decide +kernel)
theorem w12 : Cond.selects RX3 yX3_addDigit yX3_addDigit ∈ gtbl := gm 12 (by decide +kernel) (by decide +kernel)
theorem w13 : Cond.selects RX6 yX6_keepDigits yX6_keepDigits ∈ gtbl := gm 13 (by decide +kernel) (by decide +kernel)
theorem w14 : Cond.selects RX1 yX1_changeWaiting yX1_changeWaiting ∈ gtbl := gm 14 (by decide +kernel) (by decide +kernel)
theorem w15 : Cond.selects RX0 yX0_countAll yX0_countAll ∈ gtbl := gm 15 (by decide +kernel) (by decide +kernel)
theorem w16 : Cond.selects RX0 yX0_seek yX0_seek ∈ gtbl := gm 16 (by decide +kernel) (by decide +kernel)
theorem w17 : Cond.selects RX0 yX0_trySheets yX0_trySheets ∈ gtbl := gm 17 (by decide +kernel) (by decide +kernel)
theorem w18 : Cond.selects RX0 yX0_makeRoom yX0_makeRoom ∈ gtbl := gm 18 (by decide +kernel) (by decide +kernel)
theorem w19 : Cond.selects RX0 yX0_layAll yX0_layAll ∈ gtbl := gm 19 (by decide +kernel) (by decide +kernel)
theorem w20 : Cond.selects RX0 yX0_layGroup yX0_layGroup ∈ gtbl := gm 20 (by decide +kernel) (by decide +kernel)
theorem w21 : Cond.selects RX1 yX1_isLabel yX1_isLabel ∈ gtbl := gm 21 (by decide +kernel) (by decide +kernel)
theorem w22 : Cond.selects RX0 yX0_layLabel yX0_layLabel ∈ gtbl := gm 22 (by decide +kernel) (by decide +kernel)
theorem w23 : Cond.selects RX7 yX7_printCell yX7_printCell ∈ gtbl := gm 23 (by decide +kernel) (by decide +kernel)
theorem w24 : Cond.selects RX8 yX8_areSigns yX8_areSigns ∈ gtbl := gm 24 (by decide +kernel) (by decide +kernel)
theorem w25 : Cond.selects RX8 yX8_becomes yX8_becomes ∈ gtbl := gm 25 (by decide +kernel) (by decide +kernel)
theorem w26 : Cond.selects RX8 yX8_goes yX8_goes ∈ gtbl := gm 26 (by decide +kernel) (by decide +kernel)
theorem w27 : Cond.selects RX8 yX8_stands yX8_stands ∈ gtbl := gm 27 (by decide +kernel) (by decide +kernel)
theorem w28 : Cond.selects RX8 yX8_puts yX8_puts ∈ gtbl := gm 28 (by decide +kernel) (by decide +kernel)
theorem w29 : Cond.selects RX8 yX8_wideOf yX8_wideOf ∈ gtbl := gm 29 (by decide +kernel) (by decide +kernel)
theorem w30 : Cond.selects RX8 yX8_check yX8_check ∈ gtbl := gm 30 (by decide +kernel) (by decide +kernel)
theorem w31 : Cond.selects RX8 yX8_draws yX8_draws ∈ gtbl := gm 31 (by decide +kernel) (by decide +kernel)
theorem w32 : Cond.selects RX8 yX8_reads yX8_reads ∈ gtbl := gm 32 (by decide +kernel) (by decide +kernel)
theorem w33 : Cond.selects RX8 yX8_isWide yX8_isWide ∈ gtbl := gm 33 (by decide +kernel) (by decide +kernel)
theorem w34 : Cond.selects RX8 yX8_bad yX8_bad ∈ gtbl := gm 34 (by decide +kernel) (by decide +kernel)
theorem w35 : Cond.selects RX8 yX8_waiting yX8_waiting ∈ gtbl := gm 35 (by decide +kernel) (by decide +kernel)
theorem w36 : Cond.selects RX8 yX8_freeOn yX8_freeOn ∈ gtbl := gm 36 (by decide +kernel) (by decide +kernel)
theorem w37 : Cond.selects RX8 yX8_lays yX8_lays ∈ gtbl := gm 37 (by decide +kernel) (by decide +kernel)
theorem w38 : Cond.selects RX8 yX8_groups yX8_groups ∈ gtbl := gm 38 (by decide +kernel) (by decide +kernel)
theorem w39 : Cond.selects RX8 yX8_sheets yX8_sheets ∈ gtbl := gm 39 (by decide +kernel) (by decide +kernel)
theorem w40 : Cond.selects RX8 yX8_heaps yX8_heaps ∈ gtbl := gm 40 (by decide +kernel) (by decide +kernel)
theorem w41 : Cond.selects RX8 yX8_plans yX8_plans ∈ gtbl := gm 41 (by decide +kernel) (by decide +kernel)
theorem w42 : Cond.initialized RL ∈ gtbl := gm 42 (by decide +kernel) (by decide +kernel)
theorem w43 : Cond.initialized RX7 ∈ gtbl := gm 43 (by decide +kernel) (by decide +kernel)
theorem w44 : Cond.initialized RX4 ∈ gtbl := gm 44 (by decide +kernel) (by decide +kernel)
theorem w45 : Cond.initialized RJ9 ∈ gtbl := gm 45 (by decide +kernel) (by decide +kernel)
theorem w46 : Cond.initialized RX2 ∈ gtbl := gm 46 (by decide +kernel) (by decide +kernel)
theorem w47 : Cond.initialized RX6 ∈ gtbl := gm 47 (by decide +kernel) (by decide +kernel)
theorem w48 : Cond.initialized RX3 ∈ gtbl := gm 48 (by decide +kernel) (by decide +kernel)
theorem w49 : Cond.initialized RX1 ∈ gtbl := gm 49 (by decide +kernel) (by decide +kernel)
theorem w50 : Cond.initialized RX5 ∈ gtbl := gm 50 (by decide +kernel) (by decide +kernel)
theorem w51 : Cond.initialized RX0 ∈ gtbl := gm 51 (by decide +kernel) (by decide +kernel)
theorem w52 : Cond.initialized RX8 ∈ gtbl := gm 52 (by decide +kernel) (by decide +kernel)
theorem w53 : Cond.initialized RJ6 ∈ gtbl := gm 53 (by decide +kernel) (by decide +kernel)
theorem w54 : Cond.initialized RJ13 ∈ gtbl := gm 54 (by decide +kernel) (by decide +kernel)
theorem w55 : Cond.classLink RL 7 RX7 ∈ gtbl := gm 55 (by decide +kernel) (by decide +kernel)
theorem w56 : Cond.instantiable RX7 7 ∈ gtbl := gm 56 (by decide +kernel) (by decide +kernel)
theorem w57 : Cond.methodLink RL 9 yX7_init ∈ gtbl := gm 57 (by decide +kernel) (by decide +kernel)
theorem w58 : Cond.instanceMethod yX7_init ∈ gtbl := gm 58 (by decide +kernel) (by decide +kernel)
set_option maxRecDepth 20000 in
theorem w59 : Cond.code yX7_init cX7_init 1 none ∈ gtbl := gm 59 (by rfl) (by decide +kernel)
theorem w60 : Cond.methodLink RX7 3 (⟨"java/lang/Object", "<init>", "()V"⟩ : MethodName) ∈ gtbl := gm 60 (by decide +kernel) (by decide +kernel)
theorem w61 : Cond.instanceMethod (⟨"java/lang/Object", "<init>", "()V"⟩ : MethodName) ∈ gtbl := gm 61 (by decide +kernel) (by decide +kernel)
set_option maxRecDepth 20000 in
theorem w62 : Cond.code (⟨"java/lang/Object", "<init>", "()V"⟩ : MethodName) object_method_1_code 1 none ∈ gtbl := gm 62 (by rfl) (by decide +kernel)
theorem w63 : Cond.classLink RX7 9 RX4 ∈ gtbl := gm 63 (by decide +kernel) (by decide +kernel)
theorem w64 : Cond.instantiable RX4 2 ∈ gtbl := gm 64 (by decide +kernel) (by decide +kernel)
theorem w65 : Cond.methodLink RX7 11 yX4_init ∈ gtbl := gm 65 (by decide +kernel) (by decide +kernel)
theorem w66 : Cond.instanceMethod yX4_init ∈ gtbl := gm 66 (by decide +kernel) (by decide +kernel)
set_option maxRecDepth 20000 in
theorem w67 : Cond.code yX4_init cX4_init 2 none ∈ gtbl := gm 67 (by rfl) (by decide +kernel)
theorem w68 : Cond.methodLink RX4 3 (⟨"java/lang/Object", "<init>", "()V"⟩ : MethodName) ∈ gtbl := gm 68 (by decide +kernel) (by decide +kernel)
theorem w69 : Cond.methodLink RX4 9 yJ9_max_7cf53 ∈ gtbl := gm 69 (by decide +kernel) (by decide +kernel)
theorem w70 : Cond.static yJ9_max_7cf53 ∈ gtbl := gm 70 (by decide +kernel) (by decide +kernel)
set_option maxRecDepth 20000 in
theorem w71 : Cond.code yJ9_max_7cf53 cJ9_max_7cf53 2 (some .int) ∈ gtbl := gm 71 (by rfl) (by decide +kernel)
theorem w72 : Cond.fieldLink RX4 15 "StickerPress$Row" "items" "[I" ∈ gtbl := gm 72 (by decide +kernel) (by decide +kernel)
theorem w73 : Cond.fieldLink RX4 21 "StickerPress$Row" "size" "I" ∈ gtbl := gm 73 (by decide +kernel) (by decide +kernel)
theorem w79 : Cond.arrayClass FieldType.int ∈ gtbl := gm 79 (by decide +kernel) (by decide +kernel)
theorem w80 : Cond.classLink RX7 21 RX2 ∈ gtbl := gm 80 (by decide +kernel) (by decide +kernel)
theorem w81 : Cond.instantiable RX2 7 ∈ gtbl := gm 81 (by decide +kernel) (by decide +kernel)
theorem w82 : Cond.methodLink RX7 23 yX2_init ∈ gtbl := gm 82 (by decide +kernel) (by decide +kernel)
theorem w83 : Cond.instanceMethod yX2_init ∈ gtbl := gm 83 (by decide +kernel) (by decide +kernel)
set_option maxRecDepth 20000 in
theorem w84 : Cond.code yX2_init cX2_init 2 none ∈ gtbl := gm 84 (by rfl) (by decide +kernel)
theorem w85 : Cond.methodLink RX2 3 (⟨"java/lang/Object", "<init>", "()V"⟩ : MethodName) ∈ gtbl := gm 85 (by decide +kernel) (by decide +kernel)
theorem w86 : Cond.classLink RX2 15 RX4 ∈ gtbl := gm 86 (by decide +kernel) (by decide +kernel)
theorem w88 : Cond.methodLink RX2 24 yX4_init ∈ gtbl := gm 88 (by decide +kernel) (by decide +kernel)
theorem w89 : Cond.fieldLink RX2 9 "StickerPress$Names" "widths" "[I" ∈ gtbl := gm 89 (by decide +kernel) (by decide +kernel)
theorem w90 : Cond.fieldLink RX2 17 "StickerPress$Names" "from" "[LStickerPress$Row;" ∈ gtbl := gm 90 (by decide +kernel) (by decide +kernel)
theorem w91 : Cond.fieldLink RX2 21 "StickerPress$Names" "to" "[LStickerPress$Row;" ∈ gtbl := gm 91 (by decide +kernel) (by decide +kernel)
theorem w92 : Cond.fieldLink RX2 27 "StickerPress$Names" "text" "LStickerPress$Row;" ∈ gtbl := gm 92 (by decide +kernel) (by decide +kernel)
theorem w93 : Cond.fieldLink RX2 31 "StickerPress$Names" "next" "LStickerPress$Row;" ∈ gtbl := gm 93 (by decide +kernel) (by decide +kernel)
theorem w94 : Cond.fieldLink RX2 34 "StickerPress$Names" "told" "I" ∈ gtbl := gm 94 (by decide +kernel) (by decide +kernel)
theorem w95 : Cond.fieldLink RX2 38 "StickerPress$Names" "latest" "I" ∈ gtbl := gm 95 (by decide +kernel) (by decide +kernel)
theorem w111 : Cond.classLink RX7 28 RX6 ∈ gtbl := gm 111 (by decide +kernel) (by decide +kernel)
theorem w112 : Cond.instantiable RX6 8 ∈ gtbl := gm 112 (by decide +kernel) (by decide +kernel)
theorem w113 : Cond.methodLink RX7 30 yX6_init ∈ gtbl := gm 113 (by decide +kernel) (by decide +kernel)
theorem w114 : Cond.instanceMethod yX6_init ∈ gtbl := gm 114 (by decide +kernel) (by decide +kernel)
set_option maxRecDepth 20000 in
theorem w115 : Cond.code yX6_init cX6_init 1 none ∈ gtbl := gm 115 (by rfl) (by decide +kernel)
theorem w116 : Cond.methodLink RX6 3 (⟨"java/lang/Object", "<init>", "()V"⟩ : MethodName) ∈ gtbl := gm 116 (by decide +kernel) (by decide +kernel)
theorem w117 : Cond.classLink RX6 9 RX4 ∈ gtbl := gm 117 (by decide +kernel) (by decide +kernel)
theorem w118 : Cond.methodLink RX6 11 yX4_init ∈ gtbl := gm 118 (by decide +kernel) (by decide +kernel)
theorem w119 : Cond.classLink RX6 23 RX3 ∈ gtbl := gm 119 (by decide +kernel) (by decide +kernel)
theorem w120 : Cond.instantiable RX3 4 ∈ gtbl := gm 120 (by decide +kernel) (by decide +kernel)
theorem w121 : Cond.methodLink RX6 25 yX3_init ∈ gtbl := gm 121 (by decide +kernel) (by decide +kernel)
theorem w122 : Cond.instanceMethod yX3_init ∈ gtbl := gm 122 (by decide +kernel) (by decide +kernel)
set_option maxRecDepth 20000 in
theorem w123 : Cond.code yX3_init cX3_init 2 none ∈ gtbl := gm 123 (by rfl) (by decide +kernel)
theorem w124 : Cond.methodLink RX3 3 (⟨"java/lang/Object", "<init>", "()V"⟩ : MethodName) ∈ gtbl := gm 124 (by decide +kernel) (by decide +kernel)
theorem w125 : Cond.classLink RX3 15 RX4 ∈ gtbl := gm 125 (by decide +kernel) (by decide +kernel)
theorem w126 : Cond.methodLink RX3 17 yX4_init ∈ gtbl := gm 126 (by decide +kernel) (by decide +kernel)
theorem w127 : Cond.fieldLink RX3 9 "StickerPress$Reading" "backward" "Z" ∈ gtbl := gm 127 (by decide +kernel) (by decide +kernel)
theorem w128 : Cond.fieldLink RX3 20 "StickerPress$Reading" "digits" "LStickerPress$Row;" ∈ gtbl := gm 128 (by decide +kernel) (by decide +kernel)
theorem w130 : Cond.fieldLink RX3 24 "StickerPress$Reading" "fault" "I" ∈ gtbl := gm 130 (by decide +kernel) (by decide +kernel)
theorem w132 : Cond.fieldLink RX3 28 "StickerPress$Reading" "place" "I" ∈ gtbl := gm 132 (by decide +kernel) (by decide +kernel)
theorem w143 : Cond.fieldLink RX6 14 "StickerPress$Stripes" "digits" "LStickerPress$Row;" ∈ gtbl := gm 143 (by decide +kernel) (by decide +kernel)
theorem w144 : Cond.fieldLink RX6 20 "StickerPress$Stripes" "wides" "LStickerPress$Row;" ∈ gtbl := gm 144 (by decide +kernel) (by decide +kernel)
theorem w145 : Cond.fieldLink RX6 28 "StickerPress$Stripes" "ahead" "LStickerPress$Reading;" ∈ gtbl := gm 145 (by decide +kernel) (by decide +kernel)
theorem w146 : Cond.fieldLink RX6 32 "StickerPress$Stripes" "behind" "LStickerPress$Reading;" ∈ gtbl := gm 146 (by decide +kernel) (by decide +kernel)
theorem w147 : Cond.fieldLink RX6 35 "StickerPress$Stripes" "wideStripe" "I" ∈ gtbl := gm 147 (by decide +kernel) (by decide +kernel)
theorem w148 : Cond.fieldLink RX6 39 "StickerPress$Stripes" "fault" "I" ∈ gtbl := gm 148 (by decide +kernel) (by decide +kernel)
theorem w149 : Cond.fieldLink RX6 42 "StickerPress$Stripes" "place" "I" ∈ gtbl := gm 149 (by decide +kernel) (by decide +kernel)
theorem w150 : Cond.fieldLink RX6 45 "StickerPress$Stripes" "fromBehind" "Z" ∈ gtbl := gm 150 (by decide +kernel) (by decide +kernel)
theorem w168 : Cond.classLink RX7 35 RX1 ∈ gtbl := gm 168 (by decide +kernel) (by decide +kernel)
theorem w169 : Cond.instantiable RX1 5 ∈ gtbl := gm 169 (by decide +kernel) (by decide +kernel)
theorem w170 : Cond.methodLink RX7 37 yX1_init ∈ gtbl := gm 170 (by decide +kernel) (by decide +kernel)
theorem w171 : Cond.instanceMethod yX1_init ∈ gtbl := gm 171 (by decide +kernel) (by decide +kernel)
set_option maxRecDepth 20000 in
theorem w172 : Cond.code yX1_init cX1_init 1 none ∈ gtbl := gm 172 (by rfl) (by decide +kernel)
theorem w173 : Cond.methodLink RX1 3 (⟨"java/lang/Object", "<init>", "()V"⟩ : MethodName) ∈ gtbl := gm 173 (by decide +kernel) (by decide +kernel)
theorem w174 : Cond.fieldLink RX1 9 "StickerPress$Labels" "groups" "[I" ∈ gtbl := gm 174 (by decide +kernel) (by decide +kernel)
theorem w175 : Cond.fieldLink RX1 15 "StickerPress$Labels" "times" "[I" ∈ gtbl := gm 175 (by decide +kernel) (by decide +kernel)
theorem w176 : Cond.fieldLink RX1 18 "StickerPress$Labels" "waits" "[Z" ∈ gtbl := gm 176 (by decide +kernel) (by decide +kernel)
theorem w177 : Cond.fieldLink RX1 22 "StickerPress$Labels" "waiting" "[I" ∈ gtbl := gm 177 (by decide +kernel) (by decide +kernel)
theorem w178 : Cond.fieldLink RX1 25 "StickerPress$Labels" "count" "I" ∈ gtbl := gm 178 (by decide +kernel) (by decide +kernel)
theorem w190 : Cond.arrayClass FieldType.boolean ∈ gtbl := gm 190 (by decide +kernel) (by decide +kernel)
theorem w191 : Cond.classLink RX7 42 RX5 ∈ gtbl := gm 191 (by decide +kernel) (by decide +kernel)
theorem w192 : Cond.instantiable RX5 3 ∈ gtbl := gm 192 (by decide +kernel) (by decide +kernel)
theorem w193 : Cond.methodLink RX7 44 yX5_init ∈ gtbl := gm 193 (by decide +kernel) (by decide +kernel)
theorem w194 : Cond.instanceMethod yX5_init ∈ gtbl := gm 194 (by decide +kernel) (by decide +kernel)
set_option maxRecDepth 20000 in
theorem w195 : Cond.code yX5_init cX5_init 2 none ∈ gtbl := gm 195 (by rfl) (by decide +kernel)
theorem w196 : Cond.methodLink RX5 3 (⟨"java/lang/Object", "<init>", "()V"⟩ : MethodName) ∈ gtbl := gm 196 (by decide +kernel) (by decide +kernel)
theorem w197 : Cond.fieldLink RX5 9 "StickerPress$Sheets" "free" "[J" ∈ gtbl := gm 197 (by decide +kernel) (by decide +kernel)
theorem w198 : Cond.fieldLink RX5 15 "StickerPress$Sheets" "numbers" "[I" ∈ gtbl := gm 198 (by decide +kernel) (by decide +kernel)
theorem w199 : Cond.fieldLink RX5 19 "StickerPress$Sheets" "spoiled" "[Z" ∈ gtbl := gm 199 (by decide +kernel) (by decide +kernel)
theorem w207 : Cond.arrayClass FieldType.long ∈ gtbl := gm 207 (by decide +kernel) (by decide +kernel)
theorem w208 : Cond.classLink RX7 49 RX0 ∈ gtbl := gm 208 (by decide +kernel) (by decide +kernel)
theorem w209 : Cond.instantiable RX0 10 ∈ gtbl := gm 209 (by decide +kernel) (by decide +kernel)
theorem w210 : Cond.methodLink RX7 51 yX0_init ∈ gtbl := gm 210 (by decide +kernel) (by decide +kernel)
theorem w211 : Cond.instanceMethod yX0_init ∈ gtbl := gm 211 (by decide +kernel) (by decide +kernel)
set_option maxRecDepth 20000 in
theorem w212 : Cond.code yX0_init cX0_init 1 none ∈ gtbl := gm 212 (by rfl) (by decide +kernel)
theorem w213 : Cond.methodLink RX0 3 (⟨"java/lang/Object", "<init>", "()V"⟩ : MethodName) ∈ gtbl := gm 213 (by decide +kernel) (by decide +kernel)
theorem w214 : Cond.constant RX0 35 (1048576 : Int32) ∈ gtbl := gm 214 (by decide +kernel) (by decide +kernel)
theorem w215 : Cond.fieldLink RX0 9 "StickerPress$Best" "counts" "[I" ∈ gtbl := gm 215 (by decide +kernel) (by decide +kernel)
theorem w216 : Cond.fieldLink RX0 15 "StickerPress$Best" "cells" "[I" ∈ gtbl := gm 216 (by decide +kernel) (by decide +kernel)
theorem w217 : Cond.fieldLink RX0 18 "StickerPress$Best" "room" "[I" ∈ gtbl := gm 217 (by decide +kernel) (by decide +kernel)
theorem w218 : Cond.fieldLink RX0 21 "StickerPress$Best" "starts" "[I" ∈ gtbl := gm 218 (by decide +kernel) (by decide +kernel)
theorem w219 : Cond.fieldLink RX0 24 "StickerPress$Best" "planned" "[I" ∈ gtbl := gm 219 (by decide +kernel) (by decide +kernel)
theorem w220 : Cond.fieldLink RX0 27 "StickerPress$Best" "waiting" "I" ∈ gtbl := gm 220 (by decide +kernel) (by decide +kernel)
theorem w221 : Cond.fieldLink RX0 31 "StickerPress$Best" "fresh" "Z" ∈ gtbl := gm 221 (by decide +kernel) (by decide +kernel)
theorem w222 : Cond.fieldLink RX0 36 "StickerPress$Best" "rank" "I" ∈ gtbl := gm 222 (by decide +kernel) (by decide +kernel)
theorem w223 : Cond.fieldLink RX0 39 "StickerPress$Best" "groupCode" "I" ∈ gtbl := gm 223 (by decide +kernel) (by decide +kernel)
theorem w224 : Cond.fieldLink RX0 42 "StickerPress$Best" "sheetCode" "I" ∈ gtbl := gm 224 (by decide +kernel) (by decide +kernel)
theorem w246 : Cond.fieldLink RX7 14 "StickerPress" "tape" "LStickerPress$Row;" ∈ gtbl := gm 246 (by decide +kernel) (by decide +kernel)
theorem w247 : Cond.fieldLink RX7 18 "StickerPress" "shown" "LStickerPress$Row;" ∈ gtbl := gm 247 (by decide +kernel) (by decide +kernel)
theorem w248 : Cond.fieldLink RX7 24 "StickerPress" "names" "LStickerPress$Names;" ∈ gtbl := gm 248 (by decide +kernel) (by decide +kernel)
theorem w249 : Cond.fieldLink RX7 31 "StickerPress" "stripes" "LStickerPress$Stripes;" ∈ gtbl := gm 249 (by decide +kernel) (by decide +kernel)
theorem w250 : Cond.fieldLink RX7 38 "StickerPress" "labels" "LStickerPress$Labels;" ∈ gtbl := gm 250 (by decide +kernel) (by decide +kernel)
theorem w251 : Cond.fieldLink RX7 45 "StickerPress" "sheets" "LStickerPress$Sheets;" ∈ gtbl := gm 251 (by decide +kernel) (by decide +kernel)
theorem w252 : Cond.fieldLink RX7 52 "StickerPress" "best" "LStickerPress$Best;" ∈ gtbl := gm 252 (by decide +kernel) (by decide +kernel)
theorem w268 : Cond.methodLink RL 13 yX7_wide ∈ gtbl := gm 268 (by decide +kernel) (by decide +kernel)
theorem w269 : Cond.instanceMethod yX7_wide ∈ gtbl := gm 269 (by decide +kernel) (by decide +kernel)
theorem w270 : Cond.selects RX7 yX7_wide yX7_wide ∈ gtbl := gm 270 (by decide +kernel) (by decide +kernel)
set_option maxRecDepth 20000 in
theorem w271 : Cond.code yX7_wide cX7_wide 3 (some .boolean) ∈ gtbl := gm 271 (by rfl) (by decide +kernel)
theorem w272 : Cond.methodLink RX7 56 yX2_setWidth ∈ gtbl := gm 272 (by decide +kernel) (by decide +kernel)
theorem w273 : Cond.instanceMethod yX2_setWidth ∈ gtbl := gm 273 (by decide +kernel) (by decide +kernel)
theorem w274 : Cond.selects RX2 yX2_setWidth yX2_setWidth ∈ gtbl := gm 274 (by decide +kernel) (by decide +kernel)
set_option maxRecDepth 20000 in
theorem w275 : Cond.code yX2_setWidth cX2_setWidth 3 (some .boolean) ∈ gtbl := gm 275 (by rfl) (by decide +kernel)
theorem w276 : Cond.methodLink RL 18 yX7_feed ∈ gtbl := gm 276 (by decide +kernel) (by decide +kernel)
theorem w277 : Cond.instanceMethod yX7_feed ∈ gtbl := gm 277 (by decide +kernel) (by decide +kernel)
theorem w278 : Cond.selects RX7 yX7_feed yX7_feed ∈ gtbl := gm 278 (by decide +kernel) (by decide +kernel)
set_option maxRecDepth 20000 in
theorem w279 : Cond.code yX7_feed cX7_feed 6 (some .int) ∈ gtbl := gm 279 (by rfl) (by decide +kernel)
theorem w280 : Cond.methodLink RX7 60 yX4_size ∈ gtbl := gm 280 (by decide +kernel) (by decide +kernel)
theorem w281 : Cond.instanceMethod yX4_size ∈ gtbl := gm 281 (by decide +kernel) (by decide +kernel)
theorem w282 : Cond.selects RX4 yX4_size yX4_size ∈ gtbl := gm 282 (by decide +kernel) (by decide +kernel)
set_option maxRecDepth 20000 in
theorem w283 : Cond.code yX4_size cX4_size 1 (some .int) ∈ gtbl := gm 283 (by rfl) (by decide +kernel)
theorem w284 : Cond.methodLink RX7 64 yX7_feedBytes ∈ gtbl := gm 284 (by decide +kernel) (by decide +kernel)
theorem w286 : Cond.instanceMethod yX7_feedBytes ∈ gtbl := gm 286 (by decide +kernel) (by decide +kernel)
set_option maxRecDepth 20000 in
theorem w287 : Cond.code yX7_feedBytes cX7_feedBytes 3 none ∈ gtbl := gm 287 (by rfl) (by decide +kernel)
theorem w288 : Cond.methodLink RX7 173 yX4_add ∈ gtbl := gm 288 (by decide +kernel) (by decide +kernel)
theorem w289 : Cond.instanceMethod yX4_add ∈ gtbl := gm 289 (by decide +kernel) (by decide +kernel)
theorem w290 : Cond.selects RX4 yX4_add yX4_add ∈ gtbl := gm 290 (by decide +kernel) (by decide +kernel)
set_option maxRecDepth 20000 in
theorem w291 : Cond.code yX4_add cX4_add 2 (some .boolean) ∈ gtbl := gm 291 (by rfl) (by decide +kernel)
theorem w292 : Cond.methodLink RL 23 yX7_end ∈ gtbl := gm 292 (by decide +kernel) (by decide +kernel)
theorem w293 : Cond.instanceMethod yX7_end ∈ gtbl := gm 293 (by decide +kernel) (by decide +kernel)
theorem w294 : Cond.selects RX7 yX7_end yX7_end ∈ gtbl := gm 294 (by decide +kernel) (by decide +kernel)
set_option maxRecDepth 20000 in
theorem w295 : Cond.code yX7_end cX7_end 2 (some .boolean) ∈ gtbl := gm 295 (by rfl) (by decide +kernel)
theorem w296 : Cond.methodLink RX7 67 yX4_cut ∈ gtbl := gm 296 (by decide +kernel) (by decide +kernel)
theorem w297 : Cond.instanceMethod yX4_cut ∈ gtbl := gm 297 (by decide +kernel) (by decide +kernel)
theorem w298 : Cond.selects RX4 yX4_cut yX4_cut ∈ gtbl := gm 298 (by decide +kernel) (by decide +kernel)
set_option maxRecDepth 20000 in
theorem w299 : Cond.code yX4_cut cX4_cut 2 (some .boolean) ∈ gtbl := gm 299 (by rfl) (by decide +kernel)
theorem w300 : Cond.methodLink RL 28 yX7_shorten ∈ gtbl := gm 300 (by decide +kernel) (by decide +kernel)
theorem w301 : Cond.instanceMethod yX7_shorten ∈ gtbl := gm 301 (by decide +kernel) (by decide +kernel)
theorem w302 : Cond.selects RX7 yX7_shorten yX7_shorten ∈ gtbl := gm 302 (by decide +kernel) (by decide +kernel)
set_option maxRecDepth 20000 in
theorem w303 : Cond.code yX7_shorten cX7_shorten 4 (some .boolean) ∈ gtbl := gm 303 (by rfl) (by decide +kernel)
theorem w304 : Cond.methodLink RX7 71 yX2_setShortening ∈ gtbl := gm 304 (by decide +kernel) (by decide +kernel)
theorem w305 : Cond.instanceMethod yX2_setShortening ∈ gtbl := gm 305 (by decide +kernel) (by decide +kernel)
theorem w306 : Cond.selects RX2 yX2_setShortening yX2_setShortening ∈ gtbl := gm 306 (by decide +kernel) (by decide +kernel)
set_option maxRecDepth 20000 in
theorem w307 : Cond.code yX2_setShortening cX2_setShortening 4 (some .boolean) ∈ gtbl := gm 307 (by rfl) (by decide +kernel)
theorem w308 : Cond.methodLink RX2 41 yX4_size ∈ gtbl := gm 308 (by decide +kernel) (by decide +kernel)
theorem w309 : Cond.methodLink RX2 45 yX2_areShortening ∈ gtbl := gm 309 (by decide +kernel) (by decide +kernel)
theorem w310 : Cond.static yX2_areShortening ∈ gtbl := gm 310 (by decide +kernel) (by decide +kernel)
set_option maxRecDepth 20000 in
theorem w311 : Cond.code yX2_areShortening cX2_areShortening 2 (some .boolean) ∈ gtbl := gm 311 (by rfl) (by decide +kernel)
theorem w312 : Cond.methodLink RX2 56 yX2_areSigns ∈ gtbl := gm 312 (by decide +kernel) (by decide +kernel)
theorem w313 : Cond.static yX2_areSigns ∈ gtbl := gm 313 (by decide +kernel) (by decide +kernel)
set_option maxRecDepth 20000 in
theorem w314 : Cond.code yX2_areSigns cX2_areSigns 1 (some .boolean) ∈ gtbl := gm 314 (by rfl) (by decide +kernel)
theorem w315 : Cond.methodLink RX2 95 yX4_allWithin ∈ gtbl := gm 315 (by decide +kernel) (by decide +kernel)
theorem w316 : Cond.instanceMethod yX4_allWithin ∈ gtbl := gm 316 (by decide +kernel) (by decide +kernel)
theorem w317 : Cond.selects RX4 yX4_allWithin yX4_allWithin ∈ gtbl := gm 317 (by decide +kernel) (by decide +kernel)
set_option maxRecDepth 20000 in
theorem w318 : Cond.code yX4_allWithin cX4_allWithin 4 (some .boolean) ∈ gtbl := gm 318 (by rfl) (by decide +kernel)
theorem w319 : Cond.methodLink RX4 25 yX4_at ∈ gtbl := gm 319 (by decide +kernel) (by decide +kernel)
theorem w320 : Cond.instanceMethod yX4_at ∈ gtbl := gm 320 (by decide +kernel) (by decide +kernel)
theorem w321 : Cond.selects RX4 yX4_at yX4_at ∈ gtbl := gm 321 (by decide +kernel) (by decide +kernel)
set_option maxRecDepth 20000 in
theorem w322 : Cond.code yX4_at cX4_at 2 (some .int) ∈ gtbl := gm 322 (by rfl) (by decide +kernel)
theorem w323 : Cond.methodLink RX2 49 yX4_clear ∈ gtbl := gm 323 (by decide +kernel) (by decide +kernel)
theorem w324 : Cond.instanceMethod yX4_clear ∈ gtbl := gm 324 (by decide +kernel) (by decide +kernel)
theorem w325 : Cond.selects RX4 yX4_clear yX4_clear ∈ gtbl := gm 325 (by decide +kernel) (by decide +kernel)
set_option maxRecDepth 20000 in
theorem w326 : Cond.code yX4_clear cX4_clear 1 none ∈ gtbl := gm 326 (by rfl) (by decide +kernel)
theorem w327 : Cond.methodLink RX2 52 yX4_addPart ∈ gtbl := gm 327 (by decide +kernel) (by decide +kernel)
theorem w328 : Cond.instanceMethod yX4_addPart ∈ gtbl := gm 328 (by decide +kernel) (by decide +kernel)
theorem w329 : Cond.selects RX4 yX4_addPart yX4_addPart ∈ gtbl := gm 329 (by decide +kernel) (by decide +kernel)
set_option maxRecDepth 20000 in
theorem w330 : Cond.code yX4_addPart cX4_addPart 5 (some .boolean) ∈ gtbl := gm 330 (by rfl) (by decide +kernel)
theorem w331 : Cond.methodLink RX4 29 yX4_add ∈ gtbl := gm 331 (by decide +kernel) (by decide +kernel)
theorem w332 : Cond.methodLink RX7 75 yX4_clear ∈ gtbl := gm 332 (by decide +kernel) (by decide +kernel)
theorem w333 : Cond.methodLink RL 32 yX7_fit ∈ gtbl := gm 333 (by decide +kernel) (by decide +kernel)
theorem w334 : Cond.instanceMethod yX7_fit ∈ gtbl := gm 334 (by decide +kernel) (by decide +kernel)
theorem w335 : Cond.selects RX7 yX7_fit yX7_fit ∈ gtbl := gm 335 (by decide +kernel) (by decide +kernel)
set_option maxRecDepth 20000 in
theorem w336 : Cond.code yX7_fit cX7_fit 3 (some .int) ∈ gtbl := gm 336 (by rfl) (by decide +kernel)
theorem w337 : Cond.methodLink RX7 78 yX2_fitText ∈ gtbl := gm 337 (by decide +kernel) (by decide +kernel)
theorem w338 : Cond.instanceMethod yX2_fitText ∈ gtbl := gm 338 (by decide +kernel) (by decide +kernel)
theorem w339 : Cond.selects RX2 yX2_fitText yX2_fitText ∈ gtbl := gm 339 (by decide +kernel) (by decide +kernel)
set_option maxRecDepth 20000 in
theorem w340 : Cond.code yX2_fitText cX2_fitText 5 (some .int) ∈ gtbl := gm 340 (by rfl) (by decide +kernel)
theorem w341 : Cond.methodLink RX2 60 yX2_bestSet ∈ gtbl := gm 341 (by decide +kernel) (by decide +kernel)
theorem w343 : Cond.instanceMethod yX2_bestSet ∈ gtbl := gm 343 (by decide +kernel) (by decide +kernel)
set_option maxRecDepth 20000 in
theorem w344 : Cond.code yX2_bestSet cX2_bestSet 9 (some .int) ∈ gtbl := gm 344 (by rfl) (by decide +kernel)
theorem w345 : Cond.methodLink RX2 74 yJ6_bitCount_0f7a4 ∈ gtbl := gm 345 (by decide +kernel) (by decide +kernel)
theorem w346 : Cond.static yJ6_bitCount_0f7a4 ∈ gtbl := gm 346 (by decide +kernel) (by decide +kernel)
set_option maxRecDepth 20000 in
theorem w347 : Cond.code yJ6_bitCount_0f7a4 cJ6_bitCount_0f7a4 1 (some .int) ∈ gtbl := gm 347 (by rfl) (by decide +kernel)
theorem w348 : Cond.constant RJ6 265 (1431655765 : Int32) ∈ gtbl := gm 348 (by decide +kernel) (by decide +kernel)
theorem w349 : Cond.constant RJ6 266 (858993459 : Int32) ∈ gtbl := gm 349 (by decide +kernel) (by decide +kernel)
theorem w350 : Cond.constant RJ6 267 (252645135 : Int32) ∈ gtbl := gm 350 (by decide +kernel) (by decide +kernel)
theorem w351 : Cond.methodLink RX2 64 yX2_applySet ∈ gtbl := gm 351 (by decide +kernel) (by decide +kernel)
theorem w353 : Cond.instanceMethod yX2_applySet ∈ gtbl := gm 353 (by decide +kernel) (by decide +kernel)
set_option maxRecDepth 20000 in
theorem w354 : Cond.code yX2_applySet cX2_applySet 4 (some .boolean) ∈ gtbl := gm 354 (by rfl) (by decide +kernel)
theorem w355 : Cond.methodLink RX2 67 yX4_copyFrom ∈ gtbl := gm 355 (by decide +kernel) (by decide +kernel)
theorem w356 : Cond.instanceMethod yX4_copyFrom ∈ gtbl := gm 356 (by decide +kernel) (by decide +kernel)
theorem w357 : Cond.selects RX4 yX4_copyFrom yX4_copyFrom ∈ gtbl := gm 357 (by decide +kernel) (by decide +kernel)
set_option maxRecDepth 20000 in
theorem w358 : Cond.code yX4_copyFrom cX4_copyFrom 2 none ∈ gtbl := gm 358 (by rfl) (by decide +kernel)
theorem w359 : Cond.methodLink RX4 33 yX4_clear ∈ gtbl := gm 359 (by decide +kernel) (by decide +kernel)
theorem w360 : Cond.methodLink RX4 36 yX4_addPart ∈ gtbl := gm 360 (by decide +kernel) (by decide +kernel)
theorem w361 : Cond.methodLink RX2 80 yX2_applyOne ∈ gtbl := gm 361 (by decide +kernel) (by decide +kernel)
theorem w363 : Cond.instanceMethod yX2_applyOne ∈ gtbl := gm 363 (by decide +kernel) (by decide +kernel)
set_option maxRecDepth 20000 in
theorem w364 : Cond.code yX2_applyOne cX2_applyOne 6 (some .boolean) ∈ gtbl := gm 364 (by rfl) (by decide +kernel)
theorem w365 : Cond.methodLink RX2 84 yX4_standsAt ∈ gtbl := gm 365 (by decide +kernel) (by decide +kernel)
theorem w366 : Cond.instanceMethod yX4_standsAt ∈ gtbl := gm 366 (by decide +kernel) (by decide +kernel)
theorem w367 : Cond.selects RX4 yX4_standsAt yX4_standsAt ∈ gtbl := gm 367 (by decide +kernel) (by decide +kernel)
set_option maxRecDepth 20000 in
theorem w368 : Cond.code yX4_standsAt cX4_standsAt 4 (some .boolean) ∈ gtbl := gm 368 (by rfl) (by decide +kernel)
theorem w369 : Cond.methodLink RX2 88 yX4_at ∈ gtbl := gm 369 (by decide +kernel) (by decide +kernel)
theorem w370 : Cond.methodLink RX2 91 yX4_add ∈ gtbl := gm 370 (by decide +kernel) (by decide +kernel)
theorem w371 : Cond.methodLink RX2 71 yX2_textWidth ∈ gtbl := gm 371 (by decide +kernel) (by decide +kernel)
theorem w373 : Cond.instanceMethod yX2_textWidth ∈ gtbl := gm 373 (by decide +kernel) (by decide +kernel)
set_option maxRecDepth 20000 in
theorem w374 : Cond.code yX2_textWidth cX2_textWidth 4 (some .int) ∈ gtbl := gm 374 (by rfl) (by decide +kernel)
theorem w375 : Cond.methodLink RL 37 yX7_used ∈ gtbl := gm 375 (by decide +kernel) (by decide +kernel)
theorem w376 : Cond.instanceMethod yX7_used ∈ gtbl := gm 376 (by decide +kernel) (by decide +kernel)
theorem w377 : Cond.selects RX7 yX7_used yX7_used ∈ gtbl := gm 377 (by decide +kernel) (by decide +kernel)
set_option maxRecDepth 20000 in
theorem w378 : Cond.code yX7_used cX7_used 1 (some .int) ∈ gtbl := gm 378 (by rfl) (by decide +kernel)
theorem w379 : Cond.methodLink RX7 82 yX2_latestSet ∈ gtbl := gm 379 (by decide +kernel) (by decide +kernel)
theorem w380 : Cond.instanceMethod yX2_latestSet ∈ gtbl := gm 380 (by decide +kernel) (by decide +kernel)
theorem w381 : Cond.selects RX2 yX2_latestSet yX2_latestSet ∈ gtbl := gm 381 (by decide +kernel) (by decide +kernel)
set_option maxRecDepth 20000 in
theorem w382 : Cond.code yX2_latestSet cX2_latestSet 1 (some .int) ∈ gtbl := gm 382 (by rfl) (by decide +kernel)
theorem w383 : Cond.methodLink RL 42 yX7_out ∈ gtbl := gm 383 (by decide +kernel) (by decide +kernel)
theorem w384 : Cond.instanceMethod yX7_out ∈ gtbl := gm 384 (by decide +kernel) (by decide +kernel)
theorem w385 : Cond.selects RX7 yX7_out yX7_out ∈ gtbl := gm 385 (by decide +kernel) (by decide +kernel)
set_option maxRecDepth 20000 in
theorem w386 : Cond.code yX7_out cX7_out 2 (some .int) ∈ gtbl := gm 386 (by rfl) (by decide +kernel)
theorem w387 : Cond.methodLink RX7 85 yX4_at ∈ gtbl := gm 387 (by decide +kernel) (by decide +kernel)
theorem w388 : Cond.methodLink RL 46 yX7_ratio ∈ gtbl := gm 388 (by decide +kernel) (by decide +kernel)
theorem w389 : Cond.instanceMethod yX7_ratio ∈ gtbl := gm 389 (by decide +kernel) (by decide +kernel)
theorem w390 : Cond.selects RX7 yX7_ratio yX7_ratio ∈ gtbl := gm 390 (by decide +kernel) (by decide +kernel)
set_option maxRecDepth 20000 in
theorem w391 : Cond.code yX7_ratio cX7_ratio 2 (some .boolean) ∈ gtbl := gm 391 (by rfl) (by decide +kernel)
theorem w392 : Cond.methodLink RX7 89 yX6_setRatio ∈ gtbl := gm 392 (by decide +kernel) (by decide +kernel)
theorem w393 : Cond.instanceMethod yX6_setRatio ∈ gtbl := gm 393 (by decide +kernel) (by decide +kernel)
theorem w394 : Cond.selects RX6 yX6_setRatio yX6_setRatio ∈ gtbl := gm 394 (by decide +kernel) (by decide +kernel)
set_option maxRecDepth 20000 in
theorem w395 : Cond.code yX6_setRatio cX6_setRatio 2 (some .boolean) ∈ gtbl := gm 395 (by rfl) (by decide +kernel)
theorem w396 : Cond.methodLink RL 50 yX7_bars ∈ gtbl := gm 396 (by decide +kernel) (by decide +kernel)
theorem w397 : Cond.instanceMethod yX7_bars ∈ gtbl := gm 397 (by decide +kernel) (by decide +kernel)
theorem w398 : Cond.selects RX7 yX7_bars yX7_bars ∈ gtbl := gm 398 (by decide +kernel) (by decide +kernel)
set_option maxRecDepth 20000 in
theorem w399 : Cond.code yX7_bars cX7_bars 2 (some .int) ∈ gtbl := gm 399 (by rfl) (by decide +kernel)
theorem w400 : Cond.methodLink RX7 92 yX6_drawBars ∈ gtbl := gm 400 (by decide +kernel) (by decide +kernel)
theorem w401 : Cond.instanceMethod yX6_drawBars ∈ gtbl := gm 401 (by decide +kernel) (by decide +kernel)
theorem w402 : Cond.selects RX6 yX6_drawBars yX6_drawBars ∈ gtbl := gm 402 (by decide +kernel) (by decide +kernel)
set_option maxRecDepth 20000 in
theorem w403 : Cond.code yX6_drawBars cX6_drawBars 4 (some .int) ∈ gtbl := gm 403 (by rfl) (by decide +kernel)
theorem w404 : Cond.methodLink RX6 49 yX4_size ∈ gtbl := gm 404 (by decide +kernel) (by decide +kernel)
theorem w405 : Cond.methodLink RX6 53 yX4_allWithin ∈ gtbl := gm 405 (by decide +kernel) (by decide +kernel)
theorem w406 : Cond.methodLink RX6 57 yX6_takeDigits ∈ gtbl := gm 406 (by decide +kernel) (by decide +kernel)
theorem w408 : Cond.instanceMethod yX6_takeDigits ∈ gtbl := gm 408 (by decide +kernel) (by decide +kernel)
set_option maxRecDepth 20000 in
theorem w409 : Cond.code yX6_takeDigits cX6_takeDigits 3 none ∈ gtbl := gm 409 (by rfl) (by decide +kernel)
theorem w410 : Cond.methodLink RX6 61 yX4_clear ∈ gtbl := gm 410 (by decide +kernel) (by decide +kernel)
theorem w411 : Cond.methodLink RX6 64 yX4_add ∈ gtbl := gm 411 (by decide +kernel) (by decide +kernel)
theorem w412 : Cond.methodLink RX6 68 yX4_at ∈ gtbl := gm 412 (by decide +kernel) (by decide +kernel)
theorem w413 : Cond.methodLink RX6 99 yX6_checkOf ∈ gtbl := gm 413 (by decide +kernel) (by decide +kernel)
theorem w414 : Cond.static yX6_checkOf ∈ gtbl := gm 414 (by decide +kernel) (by decide +kernel)
set_option maxRecDepth 20000 in
theorem w415 : Cond.code yX6_checkOf cX6_checkOf 5 (some .int) ∈ gtbl := gm 415 (by rfl) (by decide +kernel)
theorem w416 : Cond.methodLink RX6 72 yX6_codeOf ∈ gtbl := gm 416 (by decide +kernel) (by decide +kernel)
theorem w417 : Cond.static yX6_codeOf ∈ gtbl := gm 417 (by decide +kernel) (by decide +kernel)
set_option maxRecDepth 20000 in
theorem w418 : Cond.code yX6_codeOf cX6_codeOf 1 (some .int) ∈ gtbl := gm 418 (by rfl) (by decide +kernel)
theorem w421 : Cond.methodLink RX6 75 yX6_drawPair ∈ gtbl := gm 421 (by decide +kernel) (by decide +kernel)
theorem w423 : Cond.instanceMethod yX6_drawPair ∈ gtbl := gm 423 (by decide +kernel) (by decide +kernel)
set_option maxRecDepth 20000 in
theorem w424 : Cond.code yX6_drawPair cX6_drawPair 5 none ∈ gtbl := gm 424 (by rfl) (by decide +kernel)
theorem w425 : Cond.methodLink RL 54 yX7_read ∈ gtbl := gm 425 (by decide +kernel) (by decide +kernel)
theorem w426 : Cond.instanceMethod yX7_read ∈ gtbl := gm 426 (by decide +kernel) (by decide +kernel)
theorem w427 : Cond.selects RX7 yX7_read yX7_read ∈ gtbl := gm 427 (by decide +kernel) (by decide +kernel)
set_option maxRecDepth 20000 in
theorem w428 : Cond.code yX7_read cX7_read 2 (some .int) ∈ gtbl := gm 428 (by rfl) (by decide +kernel)
theorem w429 : Cond.methodLink RX7 96 yX6_readBars ∈ gtbl := gm 429 (by decide +kernel) (by decide +kernel)
theorem w430 : Cond.instanceMethod yX6_readBars ∈ gtbl := gm 430 (by decide +kernel) (by decide +kernel)
theorem w431 : Cond.selects RX6 yX6_readBars yX6_readBars ∈ gtbl := gm 431 (by decide +kernel) (by decide +kernel)
set_option maxRecDepth 20000 in
theorem w432 : Cond.code yX6_readBars cX6_readBars 3 (some .int) ∈ gtbl := gm 432 (by rfl) (by decide +kernel)
theorem w433 : Cond.methodLink RX6 79 yX6_canBeBars ∈ gtbl := gm 433 (by decide +kernel) (by decide +kernel)
theorem w434 : Cond.static yX6_canBeBars ∈ gtbl := gm 434 (by decide +kernel) (by decide +kernel)
set_option maxRecDepth 20000 in
theorem w435 : Cond.code yX6_canBeBars cX6_canBeBars 2 (some .boolean) ∈ gtbl := gm 435 (by rfl) (by decide +kernel)
theorem w436 : Cond.methodLink RX6 83 yX6_keepFault ∈ gtbl := gm 436 (by decide +kernel) (by decide +kernel)
theorem w438 : Cond.instanceMethod yX6_keepFault ∈ gtbl := gm 438 (by decide +kernel) (by decide +kernel)
set_option maxRecDepth 20000 in
theorem w439 : Cond.code yX6_keepFault cX6_keepFault 3 none ∈ gtbl := gm 439 (by rfl) (by decide +kernel)
theorem w440 : Cond.methodLink RX6 87 yX6_findWides ∈ gtbl := gm 440 (by decide +kernel) (by decide +kernel)
theorem w442 : Cond.instanceMethod yX6_findWides ∈ gtbl := gm 442 (by decide +kernel) (by decide +kernel)
set_option maxRecDepth 20000 in
theorem w443 : Cond.code yX6_findWides cX6_findWides 5 none ∈ gtbl := gm 443 (by rfl) (by decide +kernel)
theorem w444 : Cond.methodLink RX6 103 yJ9_min_7cf53 ∈ gtbl := gm 444 (by decide +kernel) (by decide +kernel)
theorem w445 : Cond.static yJ9_min_7cf53 ∈ gtbl := gm 445 (by decide +kernel) (by decide +kernel)
set_option maxRecDepth 20000 in
theorem w446 : Cond.code yJ9_min_7cf53 cJ9_min_7cf53 2 (some .int) ∈ gtbl := gm 446 (by rfl) (by decide +kernel)
theorem w447 : Cond.methodLink RX6 109 yJ9_max_7cf53 ∈ gtbl := gm 447 (by decide +kernel) (by decide +kernel)
theorem w448 : Cond.methodLink RX6 90 yX3_decode ∈ gtbl := gm 448 (by decide +kernel) (by decide +kernel)
theorem w449 : Cond.instanceMethod yX3_decode ∈ gtbl := gm 449 (by decide +kernel) (by decide +kernel)
theorem w450 : Cond.selects RX3 yX3_decode yX3_decode ∈ gtbl := gm 450 (by decide +kernel) (by decide +kernel)
set_option maxRecDepth 20000 in
theorem w451 : Cond.code yX3_decode cX3_decode 5 (some .boolean) ∈ gtbl := gm 451 (by rfl) (by decide +kernel)
theorem w452 : Cond.methodLink RX3 31 yX4_clear ∈ gtbl := gm 452 (by decide +kernel) (by decide +kernel)
theorem w453 : Cond.methodLink RX3 34 yX3_endsStand ∈ gtbl := gm 453 (by decide +kernel) (by decide +kernel)
theorem w455 : Cond.instanceMethod yX3_endsStand ∈ gtbl := gm 455 (by decide +kernel) (by decide +kernel)
set_option maxRecDepth 20000 in
theorem w456 : Cond.code yX3_endsStand cX3_endsStand 3 (some .boolean) ∈ gtbl := gm 456 (by rfl) (by decide +kernel)
theorem w457 : Cond.methodLink RX3 60 yX3_stripe ∈ gtbl := gm 457 (by decide +kernel) (by decide +kernel)
theorem w459 : Cond.instanceMethod yX3_stripe ∈ gtbl := gm 459 (by decide +kernel) (by decide +kernel)
set_option maxRecDepth 20000 in
theorem w460 : Cond.code yX3_stripe cX3_stripe 3 (some .int) ∈ gtbl := gm 460 (by rfl) (by decide +kernel)
theorem w461 : Cond.methodLink RX3 42 yX4_size ∈ gtbl := gm 461 (by decide +kernel) (by decide +kernel)
theorem w462 : Cond.methodLink RX3 50 yX4_at ∈ gtbl := gm 462 (by decide +kernel) (by decide +kernel)
theorem w463 : Cond.methodLink RX3 38 yX3_refuse ∈ gtbl := gm 463 (by decide +kernel) (by decide +kernel)
theorem w465 : Cond.instanceMethod yX3_refuse ∈ gtbl := gm 465 (by decide +kernel) (by decide +kernel)
set_option maxRecDepth 20000 in
theorem w466 : Cond.code yX3_refuse cX3_refuse 3 (some .boolean) ∈ gtbl := gm 466 (by rfl) (by decide +kernel)
theorem w467 : Cond.methodLink RX3 46 yX3_addDigit ∈ gtbl := gm 467 (by decide +kernel) (by decide +kernel)
theorem w469 : Cond.instanceMethod yX3_addDigit ∈ gtbl := gm 469 (by decide +kernel) (by decide +kernel)
set_option maxRecDepth 20000 in
theorem w470 : Cond.code yX3_addDigit cX3_addDigit 5 (some .boolean) ∈ gtbl := gm 470 (by rfl) (by decide +kernel)
theorem w472 : Cond.methodLink RX3 67 yX4_add ∈ gtbl := gm 472 (by decide +kernel) (by decide +kernel)
theorem w474 : Cond.methodLink RX6 93 yX6_keepDigits ∈ gtbl := gm 474 (by decide +kernel) (by decide +kernel)
theorem w476 : Cond.instanceMethod yX6_keepDigits ∈ gtbl := gm 476 (by decide +kernel) (by decide +kernel)
set_option maxRecDepth 20000 in
theorem w477 : Cond.code yX6_keepDigits cX6_keepDigits 5 (some .int) ∈ gtbl := gm 477 (by rfl) (by decide +kernel)
theorem w478 : Cond.methodLink RL 58 yX7_fault ∈ gtbl := gm 478 (by decide +kernel) (by decide +kernel)
theorem w479 : Cond.instanceMethod yX7_fault ∈ gtbl := gm 479 (by decide +kernel) (by decide +kernel)
theorem w480 : Cond.selects RX7 yX7_fault yX7_fault ∈ gtbl := gm 480 (by decide +kernel) (by decide +kernel)
set_option maxRecDepth 20000 in
theorem w481 : Cond.code yX7_fault cX7_fault 2 (some .int) ∈ gtbl := gm 481 (by rfl) (by decide +kernel)
theorem w482 : Cond.methodLink RX7 99 yX6_latestFault ∈ gtbl := gm 482 (by decide +kernel) (by decide +kernel)
theorem w483 : Cond.instanceMethod yX6_latestFault ∈ gtbl := gm 483 (by decide +kernel) (by decide +kernel)
theorem w484 : Cond.selects RX6 yX6_latestFault yX6_latestFault ∈ gtbl := gm 484 (by decide +kernel) (by decide +kernel)
set_option maxRecDepth 20000 in
theorem w485 : Cond.code yX6_latestFault cX6_latestFault 2 (some .int) ∈ gtbl := gm 485 (by rfl) (by decide +kernel)
theorem w486 : Cond.methodLink RL 62 yX7_take ∈ gtbl := gm 486 (by decide +kernel) (by decide +kernel)
theorem w487 : Cond.instanceMethod yX7_take ∈ gtbl := gm 487 (by decide +kernel) (by decide +kernel)
theorem w488 : Cond.selects RX7 yX7_take yX7_take ∈ gtbl := gm 488 (by decide +kernel) (by decide +kernel)
set_option maxRecDepth 20000 in
theorem w489 : Cond.code yX7_take cX7_take 1 (some .int) ∈ gtbl := gm 489 (by rfl) (by decide +kernel)
theorem w490 : Cond.methodLink RX7 102 yX4_copyFrom ∈ gtbl := gm 490 (by decide +kernel) (by decide +kernel)
theorem w491 : Cond.methodLink RL 68 yX7_sheet ∈ gtbl := gm 491 (by decide +kernel) (by decide +kernel)
theorem w492 : Cond.instanceMethod yX7_sheet ∈ gtbl := gm 492 (by decide +kernel) (by decide +kernel)
theorem w493 : Cond.selects RX7 yX7_sheet yX7_sheet ∈ gtbl := gm 493 (by decide +kernel) (by decide +kernel)
set_option maxRecDepth 20000 in
theorem w494 : Cond.code yX7_sheet cX7_sheet 4 (some .boolean) ∈ gtbl := gm 494 (by rfl) (by decide +kernel)
theorem w495 : Cond.methodLink RX7 106 yX5_replace ∈ gtbl := gm 495 (by decide +kernel) (by decide +kernel)
theorem w496 : Cond.instanceMethod yX5_replace ∈ gtbl := gm 496 (by decide +kernel) (by decide +kernel)
theorem w497 : Cond.selects RX5 yX5_replace yX5_replace ∈ gtbl := gm 497 (by decide +kernel) (by decide +kernel)
set_option maxRecDepth 20000 in
theorem w498 : Cond.code yX5_replace cX5_replace 5 (some .boolean) ∈ gtbl := gm 498 (by rfl) (by decide +kernel)
theorem w500 : Cond.static yX7_isSheet ∈ gtbl := gm 500 (by decide +kernel) (by decide +kernel)
set_option maxRecDepth 20000 in
theorem w501 : Cond.code yX7_isSheet cX7_isSheet 1 (some .boolean) ∈ gtbl := gm 501 (by rfl) (by decide +kernel)
theorem w502 : Cond.methodLink RX7 110 yX0_forget ∈ gtbl := gm 502 (by decide +kernel) (by decide +kernel)
theorem w503 : Cond.instanceMethod yX0_forget ∈ gtbl := gm 503 (by decide +kernel) (by decide +kernel)
theorem w504 : Cond.selects RX0 yX0_forget yX0_forget ∈ gtbl := gm 504 (by decide +kernel) (by decide +kernel)
set_option maxRecDepth 20000 in
theorem w505 : Cond.code yX0_forget cX0_forget 1 none ∈ gtbl := gm 505 (by rfl) (by decide +kernel)
theorem w506 : Cond.methodLink RL 73 yX7_come ∈ gtbl := gm 506 (by decide +kernel) (by decide +kernel)
theorem w507 : Cond.instanceMethod yX7_come ∈ gtbl := gm 507 (by decide +kernel) (by decide +kernel)
theorem w508 : Cond.selects RX7 yX7_come yX7_come ∈ gtbl := gm 508 (by decide +kernel) (by decide +kernel)
set_option maxRecDepth 20000 in
theorem w509 : Cond.code yX7_come cX7_come 4 (some .int) ∈ gtbl := gm 509 (by rfl) (by decide +kernel)
theorem w510 : Cond.methodLink RX7 113 yX1_addLabels ∈ gtbl := gm 510 (by decide +kernel) (by decide +kernel)
theorem w511 : Cond.instanceMethod yX1_addLabels ∈ gtbl := gm 511 (by decide +kernel) (by decide +kernel)
theorem w512 : Cond.selects RX1 yX1_addLabels yX1_addLabels ∈ gtbl := gm 512 (by decide +kernel) (by decide +kernel)
set_option maxRecDepth 20000 in
theorem w513 : Cond.code yX1_addLabels cX1_addLabels 5 (some .int) ∈ gtbl := gm 513 (by rfl) (by decide +kernel)
theorem w515 : Cond.static yX7_isGroup ∈ gtbl := gm 515 (by decide +kernel) (by decide +kernel)
set_option maxRecDepth 20000 in
theorem w516 : Cond.code yX7_isGroup cX7_isGroup 1 (some .boolean) ∈ gtbl := gm 516 (by rfl) (by decide +kernel)
theorem w517 : Cond.methodLink RX1 33 yX1_waitingIn ∈ gtbl := gm 517 (by decide +kernel) (by decide +kernel)
theorem w518 : Cond.instanceMethod yX1_waitingIn ∈ gtbl := gm 518 (by decide +kernel) (by decide +kernel)
theorem w519 : Cond.selects RX1 yX1_waitingIn yX1_waitingIn ∈ gtbl := gm 519 (by decide +kernel) (by decide +kernel)
set_option maxRecDepth 20000 in
theorem w520 : Cond.code yX1_waitingIn cX1_waitingIn 2 (some .int) ∈ gtbl := gm 520 (by rfl) (by decide +kernel)
theorem w521 : Cond.methodLink RX1 37 yX1_changeWaiting ∈ gtbl := gm 521 (by decide +kernel) (by decide +kernel)
theorem w523 : Cond.instanceMethod yX1_changeWaiting ∈ gtbl := gm 523 (by decide +kernel) (by decide +kernel)
set_option maxRecDepth 20000 in
theorem w524 : Cond.code yX1_changeWaiting cX1_changeWaiting 3 none ∈ gtbl := gm 524 (by rfl) (by decide +kernel)
theorem w525 : Cond.methodLink RL 78 yX7_look ∈ gtbl := gm 525 (by decide +kernel) (by decide +kernel)
theorem w526 : Cond.instanceMethod yX7_look ∈ gtbl := gm 526 (by decide +kernel) (by decide +kernel)
theorem w527 : Cond.selects RX7 yX7_look yX7_look ∈ gtbl := gm 527 (by decide +kernel) (by decide +kernel)
set_option maxRecDepth 20000 in
theorem w528 : Cond.code yX7_look cX7_look 2 (some .int) ∈ gtbl := gm 528 (by rfl) (by decide +kernel)
theorem w529 : Cond.methodLink RX7 117 yX1_count ∈ gtbl := gm 529 (by decide +kernel) (by decide +kernel)
theorem w530 : Cond.instanceMethod yX1_count ∈ gtbl := gm 530 (by decide +kernel) (by decide +kernel)
theorem w531 : Cond.selects RX1 yX1_count yX1_count ∈ gtbl := gm 531 (by decide +kernel) (by decide +kernel)
set_option maxRecDepth 20000 in
theorem w532 : Cond.code yX1_count cX1_count 1 (some .int) ∈ gtbl := gm 532 (by rfl) (by decide +kernel)
theorem w533 : Cond.methodLink RX7 120 yX1_allWaiting ∈ gtbl := gm 533 (by decide +kernel) (by decide +kernel)
theorem w534 : Cond.instanceMethod yX1_allWaiting ∈ gtbl := gm 534 (by decide +kernel) (by decide +kernel)
theorem w535 : Cond.selects RX1 yX1_allWaiting yX1_allWaiting ∈ gtbl := gm 535 (by decide +kernel) (by decide +kernel)
set_option maxRecDepth 20000 in
theorem w536 : Cond.code yX1_allWaiting cX1_allWaiting 3 (some .int) ∈ gtbl := gm 536 (by rfl) (by decide +kernel)
theorem w537 : Cond.methodLink RX7 123 yX5_allFree ∈ gtbl := gm 537 (by decide +kernel) (by decide +kernel)
theorem w538 : Cond.instanceMethod yX5_allFree ∈ gtbl := gm 538 (by decide +kernel) (by decide +kernel)
theorem w539 : Cond.selects RX5 yX5_allFree yX5_allFree ∈ gtbl := gm 539 (by decide +kernel) (by decide +kernel)
set_option maxRecDepth 20000 in
theorem w540 : Cond.code yX5_allFree cX5_allFree 3 (some .int) ∈ gtbl := gm 540 (by rfl) (by decide +kernel)
theorem w541 : Cond.methodLink RX5 33 yX5_freeIn ∈ gtbl := gm 541 (by decide +kernel) (by decide +kernel)
theorem w542 : Cond.instanceMethod yX5_freeIn ∈ gtbl := gm 542 (by decide +kernel) (by decide +kernel)
theorem w543 : Cond.selects RX5 yX5_freeIn yX5_freeIn ∈ gtbl := gm 543 (by decide +kernel) (by decide +kernel)
set_option maxRecDepth 20000 in
theorem w544 : Cond.code yX5_freeIn cX5_freeIn 2 (some .int) ∈ gtbl := gm 544 (by rfl) (by decide +kernel)
theorem w545 : Cond.methodLink RX5 27 yJ13_bitCount_95d88 ∈ gtbl := gm 545 (by decide +kernel) (by decide +kernel)
theorem w546 : Cond.static yJ13_bitCount_95d88 ∈ gtbl := gm 546 (by decide +kernel) (by decide +kernel)
set_option maxRecDepth 20000 in
theorem w547 : Cond.code yJ13_bitCount_95d88 cJ13_bitCount_95d88 2 (some .int) ∈ gtbl := gm 547 (by rfl) (by decide +kernel)
theorem w548 : Cond.constantLong RJ13 314 (6148914691236517205 : Int64) ∈ gtbl := gm 548 (by decide +kernel) (by decide +kernel)
theorem w549 : Cond.constantLong RJ13 316 (3689348814741910323 : Int64) ∈ gtbl := gm 549 (by decide +kernel) (by decide +kernel)
theorem w550 : Cond.constantLong RJ13 318 (1085102592571150095 : Int64) ∈ gtbl := gm 550 (by decide +kernel) (by decide +kernel)
theorem w551 : Cond.methodLink RX7 126 yX0_refresh ∈ gtbl := gm 551 (by decide +kernel) (by decide +kernel)
theorem w552 : Cond.instanceMethod yX0_refresh ∈ gtbl := gm 552 (by decide +kernel) (by decide +kernel)
theorem w553 : Cond.selects RX0 yX0_refresh yX0_refresh ∈ gtbl := gm 553 (by decide +kernel) (by decide +kernel)
set_option maxRecDepth 20000 in
theorem w554 : Cond.code yX0_refresh cX0_refresh 3 none ∈ gtbl := gm 554 (by rfl) (by decide +kernel)
theorem w555 : Cond.methodLink RX0 45 yX0_countAll ∈ gtbl := gm 555 (by decide +kernel) (by decide +kernel)
theorem w557 : Cond.instanceMethod yX0_countAll ∈ gtbl := gm 557 (by decide +kernel) (by decide +kernel)
set_option maxRecDepth 20000 in
theorem w558 : Cond.code yX0_countAll cX0_countAll 4 none ∈ gtbl := gm 558 (by rfl) (by decide +kernel)
theorem w559 : Cond.methodLink RX0 76 yX1_waitingIn ∈ gtbl := gm 559 (by decide +kernel) (by decide +kernel)
theorem w560 : Cond.methodLink RX0 82 yX5_freeIn ∈ gtbl := gm 560 (by decide +kernel) (by decide +kernel)
theorem w561 : Cond.methodLink RX0 87 yX1_allWaiting ∈ gtbl := gm 561 (by decide +kernel) (by decide +kernel)
theorem w562 : Cond.methodLink RX0 49 yX0_seek ∈ gtbl := gm 562 (by decide +kernel) (by decide +kernel)
theorem w564 : Cond.instanceMethod yX0_seek ∈ gtbl := gm 564 (by decide +kernel) (by decide +kernel)
set_option maxRecDepth 20000 in
theorem w565 : Cond.code yX0_seek cX0_seek 2 none ∈ gtbl := gm 565 (by rfl) (by decide +kernel)
theorem w566 : Cond.methodLink RX0 91 yX0_trySheets ∈ gtbl := gm 566 (by decide +kernel) (by decide +kernel)
theorem w568 : Cond.instanceMethod yX0_trySheets ∈ gtbl := gm 568 (by decide +kernel) (by decide +kernel)
set_option maxRecDepth 20000 in
theorem w569 : Cond.code yX0_trySheets cX0_trySheets 4 none ∈ gtbl := gm 569 (by rfl) (by decide +kernel)
theorem w570 : Cond.methodLink RX0 95 yX0_rankOf ∈ gtbl := gm 570 (by decide +kernel) (by decide +kernel)
theorem w571 : Cond.static yX0_rankOf ∈ gtbl := gm 571 (by decide +kernel) (by decide +kernel)
set_option maxRecDepth 20000 in
theorem w572 : Cond.code yX0_rankOf cX0_rankOf 5 (some .int) ∈ gtbl := gm 572 (by rfl) (by decide +kernel)
theorem w573 : Cond.methodLink RX0 70 yX0_sheetHeap ∈ gtbl := gm 573 (by decide +kernel) (by decide +kernel)
theorem w574 : Cond.static yX0_sheetHeap ∈ gtbl := gm 574 (by decide +kernel) (by decide +kernel)
set_option maxRecDepth 20000 in
theorem w575 : Cond.code yX0_sheetHeap cX0_sheetHeap 2 (some .int) ∈ gtbl := gm 575 (by rfl) (by decide +kernel)
theorem w576 : Cond.methodLink RX0 123 yJ6_bitCount_0f7a4 ∈ gtbl := gm 576 (by decide +kernel) (by decide +kernel)
theorem w577 : Cond.methodLink RX0 98 yX0_makeRoom ∈ gtbl := gm 577 (by decide +kernel) (by decide +kernel)
theorem w579 : Cond.instanceMethod yX0_makeRoom ∈ gtbl := gm 579 (by decide +kernel) (by decide +kernel)
set_option maxRecDepth 20000 in
theorem w580 : Cond.code yX0_makeRoom cX0_makeRoom 5 (some .boolean) ∈ gtbl := gm 580 (by rfl) (by decide +kernel)
theorem w581 : Cond.methodLink RX0 101 yX0_leastHeaps ∈ gtbl := gm 581 (by decide +kernel) (by decide +kernel)
theorem w582 : Cond.static yX0_leastHeaps ∈ gtbl := gm 582 (by decide +kernel) (by decide +kernel)
set_option maxRecDepth 20000 in
theorem w583 : Cond.code yX0_leastHeaps cX0_leastHeaps 6 (some .int) ∈ gtbl := gm 583 (by rfl) (by decide +kernel)
theorem w584 : Cond.methodLink RX0 128 yJ9_max_7cf53 ∈ gtbl := gm 584 (by decide +kernel) (by decide +kernel)
theorem w585 : Cond.methodLink RX0 133 yX0_groupShift ∈ gtbl := gm 585 (by decide +kernel) (by decide +kernel)
theorem w586 : Cond.static yX0_groupShift ∈ gtbl := gm 586 (by decide +kernel) (by decide +kernel)
set_option maxRecDepth 20000 in
theorem w587 : Cond.code yX0_groupShift cX0_groupShift 1 (some .int) ∈ gtbl := gm 587 (by rfl) (by decide +kernel)
theorem w588 : Cond.methodLink RX0 52 yX0_layAll ∈ gtbl := gm 588 (by decide +kernel) (by decide +kernel)
theorem w590 : Cond.instanceMethod yX0_layAll ∈ gtbl := gm 590 (by decide +kernel) (by decide +kernel)
set_option maxRecDepth 20000 in
theorem w591 : Cond.code yX0_layAll cX0_layAll 4 none ∈ gtbl := gm 591 (by rfl) (by decide +kernel)
theorem w592 : Cond.methodLink RX0 55 yX0_exists ∈ gtbl := gm 592 (by decide +kernel) (by decide +kernel)
theorem w593 : Cond.instanceMethod yX0_exists ∈ gtbl := gm 593 (by decide +kernel) (by decide +kernel)
theorem w594 : Cond.selects RX0 yX0_exists yX0_exists ∈ gtbl := gm 594 (by decide +kernel) (by decide +kernel)
set_option maxRecDepth 20000 in
theorem w595 : Cond.code yX0_exists cX0_exists 1 (some .boolean) ∈ gtbl := gm 595 (by rfl) (by decide +kernel)
theorem w596 : Cond.methodLink RX0 105 yX0_layGroup ∈ gtbl := gm 596 (by decide +kernel) (by decide +kernel)
theorem w598 : Cond.instanceMethod yX0_layGroup ∈ gtbl := gm 598 (by decide +kernel) (by decide +kernel)
set_option maxRecDepth 20000 in
theorem w599 : Cond.code yX0_layGroup cX0_layGroup 6 none ∈ gtbl := gm 599 (by rfl) (by decide +kernel)
theorem w600 : Cond.methodLink RX0 63 yX0_groupHeap ∈ gtbl := gm 600 (by decide +kernel) (by decide +kernel)
theorem w601 : Cond.static yX0_groupHeap ∈ gtbl := gm 601 (by decide +kernel) (by decide +kernel)
set_option maxRecDepth 20000 in
theorem w602 : Cond.code yX0_groupHeap cX0_groupHeap 2 (some .int) ∈ gtbl := gm 602 (by rfl) (by decide +kernel)
theorem w603 : Cond.methodLink RX0 109 yX1_count ∈ gtbl := gm 603 (by decide +kernel) (by decide +kernel)
theorem w604 : Cond.methodLink RX0 112 yX1_waitsIn ∈ gtbl := gm 604 (by decide +kernel) (by decide +kernel)
theorem w605 : Cond.instanceMethod yX1_waitsIn ∈ gtbl := gm 605 (by decide +kernel) (by decide +kernel)
theorem w606 : Cond.selects RX1 yX1_waitsIn yX1_waitsIn ∈ gtbl := gm 606 (by decide +kernel) (by decide +kernel)
set_option maxRecDepth 20000 in
theorem w607 : Cond.code yX1_waitsIn cX1_waitsIn 3 (some .boolean) ∈ gtbl := gm 607 (by rfl) (by decide +kernel)
theorem w608 : Cond.methodLink RX1 41 yX1_isLabel ∈ gtbl := gm 608 (by decide +kernel) (by decide +kernel)
theorem w610 : Cond.instanceMethod yX1_isLabel ∈ gtbl := gm 610 (by decide +kernel) (by decide +kernel)
set_option maxRecDepth 20000 in
theorem w611 : Cond.code yX1_isLabel cX1_isLabel 2 (some .boolean) ∈ gtbl := gm 611 (by rfl) (by decide +kernel)
theorem w612 : Cond.methodLink RX0 116 yX0_layLabel ∈ gtbl := gm 612 (by decide +kernel) (by decide +kernel)
theorem w614 : Cond.instanceMethod yX0_layLabel ∈ gtbl := gm 614 (by decide +kernel) (by decide +kernel)
set_option maxRecDepth 20000 in
theorem w615 : Cond.code yX0_layLabel cX0_layLabel 5 none ∈ gtbl := gm 615 (by rfl) (by decide +kernel)
theorem w616 : Cond.methodLink RX0 120 yX5_isFree ∈ gtbl := gm 616 (by decide +kernel) (by decide +kernel)
theorem w617 : Cond.instanceMethod yX5_isFree ∈ gtbl := gm 617 (by decide +kernel) (by decide +kernel)
theorem w618 : Cond.selects RX5 yX5_isFree yX5_isFree ∈ gtbl := gm 618 (by decide +kernel) (by decide +kernel)
set_option maxRecDepth 20000 in
theorem w619 : Cond.code yX5_isFree cX5_isFree 2 (some .boolean) ∈ gtbl := gm 619 (by rfl) (by decide +kernel)
theorem w621 : Cond.static yX7_isPlace ∈ gtbl := gm 621 (by decide +kernel) (by decide +kernel)
set_option maxRecDepth 20000 in
theorem w622 : Cond.code yX7_isPlace cX7_isPlace 1 (some .boolean) ∈ gtbl := gm 622 (by rfl) (by decide +kernel)
theorem w623 : Cond.methodLink RX7 130 yX0_pieces ∈ gtbl := gm 623 (by decide +kernel) (by decide +kernel)
theorem w624 : Cond.instanceMethod yX0_pieces ∈ gtbl := gm 624 (by decide +kernel) (by decide +kernel)
theorem w625 : Cond.selects RX0 yX0_pieces yX0_pieces ∈ gtbl := gm 625 (by decide +kernel) (by decide +kernel)
set_option maxRecDepth 20000 in
theorem w626 : Cond.code yX0_pieces cX0_pieces 3 (some .int) ∈ gtbl := gm 626 (by rfl) (by decide +kernel)
theorem w627 : Cond.methodLink RX7 133 yX0_sheetsInHeaps ∈ gtbl := gm 627 (by decide +kernel) (by decide +kernel)
theorem w628 : Cond.instanceMethod yX0_sheetsInHeaps ∈ gtbl := gm 628 (by decide +kernel) (by decide +kernel)
theorem w629 : Cond.selects RX0 yX0_sheetsInHeaps yX0_sheetsInHeaps ∈ gtbl := gm 629 (by decide +kernel) (by decide +kernel)
set_option maxRecDepth 20000 in
theorem w630 : Cond.code yX0_sheetsInHeaps cX0_sheetsInHeaps 1 (some .int) ∈ gtbl := gm 630 (by rfl) (by decide +kernel)
theorem w631 : Cond.methodLink RL 82 yX7_heap ∈ gtbl := gm 631 (by decide +kernel) (by decide +kernel)
theorem w632 : Cond.instanceMethod yX7_heap ∈ gtbl := gm 632 (by decide +kernel) (by decide +kernel)
theorem w633 : Cond.selects RX7 yX7_heap yX7_heap ∈ gtbl := gm 633 (by decide +kernel) (by decide +kernel)
set_option maxRecDepth 20000 in
theorem w634 : Cond.code yX7_heap cX7_heap 3 (some .int) ∈ gtbl := gm 634 (by rfl) (by decide +kernel)
theorem w635 : Cond.methodLink RX7 136 yX0_heapOfGroup ∈ gtbl := gm 635 (by decide +kernel) (by decide +kernel)
theorem w636 : Cond.instanceMethod yX0_heapOfGroup ∈ gtbl := gm 636 (by decide +kernel) (by decide +kernel)
theorem w637 : Cond.selects RX0 yX0_heapOfGroup yX0_heapOfGroup ∈ gtbl := gm 637 (by decide +kernel) (by decide +kernel)
set_option maxRecDepth 20000 in
theorem w638 : Cond.code yX0_heapOfGroup cX0_heapOfGroup 2 (some .int) ∈ gtbl := gm 638 (by rfl) (by decide +kernel)
theorem w640 : Cond.methodLink RX7 139 yX0_heapOfSheet ∈ gtbl := gm 640 (by decide +kernel) (by decide +kernel)
theorem w641 : Cond.instanceMethod yX0_heapOfSheet ∈ gtbl := gm 641 (by decide +kernel) (by decide +kernel)
theorem w642 : Cond.selects RX0 yX0_heapOfSheet yX0_heapOfSheet ∈ gtbl := gm 642 (by decide +kernel) (by decide +kernel)
set_option maxRecDepth 20000 in
theorem w643 : Cond.code yX0_heapOfSheet cX0_heapOfSheet 3 (some .int) ∈ gtbl := gm 643 (by rfl) (by decide +kernel)
theorem w645 : Cond.methodLink RL 86 yX7_plan ∈ gtbl := gm 645 (by decide +kernel) (by decide +kernel)
theorem w646 : Cond.instanceMethod yX7_plan ∈ gtbl := gm 646 (by decide +kernel) (by decide +kernel)
theorem w647 : Cond.selects RX7 yX7_plan yX7_plan ∈ gtbl := gm 647 (by decide +kernel) (by decide +kernel)
set_option maxRecDepth 20000 in
theorem w648 : Cond.code yX7_plan cX7_plan 3 (some .int) ∈ gtbl := gm 648 (by rfl) (by decide +kernel)
theorem w649 : Cond.methodLink RX7 142 yX7_placeOf ∈ gtbl := gm 649 (by decide +kernel) (by decide +kernel)
theorem w650 : Cond.static yX7_placeOf ∈ gtbl := gm 650 (by decide +kernel) (by decide +kernel)
set_option maxRecDepth 20000 in
theorem w651 : Cond.code yX7_placeOf cX7_placeOf 2 (some .int) ∈ gtbl := gm 651 (by rfl) (by decide +kernel)
theorem w652 : Cond.methodLink RX7 148 yX7_isSheet ∈ gtbl := gm 652 (by decide +kernel) (by decide +kernel)
theorem w653 : Cond.methodLink RX7 145 yX0_labelFor ∈ gtbl := gm 653 (by decide +kernel) (by decide +kernel)
theorem w654 : Cond.instanceMethod yX0_labelFor ∈ gtbl := gm 654 (by decide +kernel) (by decide +kernel)
theorem w655 : Cond.selects RX0 yX0_labelFor yX0_labelFor ∈ gtbl := gm 655 (by decide +kernel) (by decide +kernel)
set_option maxRecDepth 20000 in
theorem w656 : Cond.code yX0_labelFor cX0_labelFor 2 (some .int) ∈ gtbl := gm 656 (by rfl) (by decide +kernel)
theorem w658 : Cond.methodLink RL 90 yX7_print ∈ gtbl := gm 658 (by decide +kernel) (by decide +kernel)
theorem w659 : Cond.instanceMethod yX7_print ∈ gtbl := gm 659 (by decide +kernel) (by decide +kernel)
theorem w660 : Cond.selects RX7 yX7_print yX7_print ∈ gtbl := gm 660 (by decide +kernel) (by decide +kernel)
set_option maxRecDepth 20000 in
theorem w661 : Cond.code yX7_print cX7_print 4 (some .int) ∈ gtbl := gm 661 (by rfl) (by decide +kernel)
theorem w662 : Cond.methodLink RX7 151 yX0_exists ∈ gtbl := gm 662 (by decide +kernel) (by decide +kernel)
theorem w663 : Cond.methodLink RX7 155 yX7_printCell ∈ gtbl := gm 663 (by decide +kernel) (by decide +kernel)
theorem w665 : Cond.instanceMethod yX7_printCell ∈ gtbl := gm 665 (by decide +kernel) (by decide +kernel)
set_option maxRecDepth 20000 in
theorem w666 : Cond.code yX7_printCell cX7_printCell 3 (some .boolean) ∈ gtbl := gm 666 (by rfl) (by decide +kernel)
theorem w667 : Cond.methodLink RX7 176 yX5_put ∈ gtbl := gm 667 (by decide +kernel) (by decide +kernel)
theorem w668 : Cond.instanceMethod yX5_put ∈ gtbl := gm 668 (by decide +kernel) (by decide +kernel)
theorem w669 : Cond.selects RX5 yX5_put yX5_put ∈ gtbl := gm 669 (by decide +kernel) (by decide +kernel)
set_option maxRecDepth 20000 in
theorem w670 : Cond.code yX5_put cX5_put 3 none ∈ gtbl := gm 670 (by rfl) (by decide +kernel)
theorem w671 : Cond.constantLong RX5 40 (-1 : Int64) ∈ gtbl := gm 671 (by decide +kernel) (by decide +kernel)
theorem w672 : Cond.methodLink RX7 180 yX1_markPrinted ∈ gtbl := gm 672 (by decide +kernel) (by decide +kernel)
theorem w673 : Cond.instanceMethod yX1_markPrinted ∈ gtbl := gm 673 (by decide +kernel) (by decide +kernel)
theorem w674 : Cond.selects RX1 yX1_markPrinted yX1_markPrinted ∈ gtbl := gm 674 (by decide +kernel) (by decide +kernel)
set_option maxRecDepth 20000 in
theorem w675 : Cond.code yX1_markPrinted cX1_markPrinted 2 none ∈ gtbl := gm 675 (by rfl) (by decide +kernel)
theorem w676 : Cond.methodLink RL 94 yX7_printed ∈ gtbl := gm 676 (by decide +kernel) (by decide +kernel)
theorem w677 : Cond.instanceMethod yX7_printed ∈ gtbl := gm 677 (by decide +kernel) (by decide +kernel)
theorem w678 : Cond.selects RX7 yX7_printed yX7_printed ∈ gtbl := gm 678 (by decide +kernel) (by decide +kernel)
set_option maxRecDepth 20000 in
theorem w679 : Cond.code yX7_printed cX7_printed 3 (some .int) ∈ gtbl := gm 679 (by rfl) (by decide +kernel)
theorem w680 : Cond.methodLink RX7 158 yX5_labelIn ∈ gtbl := gm 680 (by decide +kernel) (by decide +kernel)
theorem w681 : Cond.instanceMethod yX5_labelIn ∈ gtbl := gm 681 (by decide +kernel) (by decide +kernel)
theorem w682 : Cond.selects RX5 yX5_labelIn yX5_labelIn ∈ gtbl := gm 682 (by decide +kernel) (by decide +kernel)
set_option maxRecDepth 20000 in
theorem w683 : Cond.code yX5_labelIn cX5_labelIn 2 (some .int) ∈ gtbl := gm 683 (by rfl) (by decide +kernel)
theorem w684 : Cond.methodLink RL 98 yX7_spoil ∈ gtbl := gm 684 (by decide +kernel) (by decide +kernel)
theorem w685 : Cond.instanceMethod yX7_spoil ∈ gtbl := gm 685 (by decide +kernel) (by decide +kernel)
theorem w686 : Cond.selects RX7 yX7_spoil yX7_spoil ∈ gtbl := gm 686 (by decide +kernel) (by decide +kernel)
set_option maxRecDepth 20000 in
theorem w687 : Cond.code yX7_spoil cX7_spoil 5 (some .int) ∈ gtbl := gm 687 (by rfl) (by decide +kernel)
theorem w688 : Cond.methodLink RX7 161 yX5_isGood ∈ gtbl := gm 688 (by decide +kernel) (by decide +kernel)
theorem w689 : Cond.instanceMethod yX5_isGood ∈ gtbl := gm 689 (by decide +kernel) (by decide +kernel)
theorem w690 : Cond.selects RX5 yX5_isGood yX5_isGood ∈ gtbl := gm 690 (by decide +kernel) (by decide +kernel)
set_option maxRecDepth 20000 in
theorem w691 : Cond.code yX5_isGood cX5_isGood 2 (some .boolean) ∈ gtbl := gm 691 (by rfl) (by decide +kernel)
theorem w692 : Cond.methodLink RX5 42 yX5_labelIn ∈ gtbl := gm 692 (by decide +kernel) (by decide +kernel)
theorem w693 : Cond.methodLink RX7 164 yX1_waitAnew ∈ gtbl := gm 693 (by decide +kernel) (by decide +kernel)
theorem w694 : Cond.instanceMethod yX1_waitAnew ∈ gtbl := gm 694 (by decide +kernel) (by decide +kernel)
theorem w695 : Cond.selects RX1 yX1_waitAnew yX1_waitAnew ∈ gtbl := gm 695 (by decide +kernel) (by decide +kernel)
set_option maxRecDepth 20000 in
theorem w696 : Cond.code yX1_waitAnew cX1_waitAnew 2 (some .boolean) ∈ gtbl := gm 696 (by rfl) (by decide +kernel)
theorem w697 : Cond.methodLink RX7 167 yX5_markSpoiled ∈ gtbl := gm 697 (by decide +kernel) (by decide +kernel)
theorem w698 : Cond.instanceMethod yX5_markSpoiled ∈ gtbl := gm 698 (by decide +kernel) (by decide +kernel)
theorem w699 : Cond.selects RX5 yX5_markSpoiled yX5_markSpoiled ∈ gtbl := gm 699 (by decide +kernel) (by decide +kernel)
set_option maxRecDepth 20000 in
theorem w700 : Cond.code yX5_markSpoiled cX5_markSpoiled 2 none ∈ gtbl := gm 700 (by rfl) (by decide +kernel)
theorem w701 : Cond.methodLink RL 102 yX7_label ∈ gtbl := gm 701 (by decide +kernel) (by decide +kernel)
theorem w702 : Cond.instanceMethod yX7_label ∈ gtbl := gm 702 (by decide +kernel) (by decide +kernel)
theorem w703 : Cond.selects RX7 yX7_label yX7_label ∈ gtbl := gm 703 (by decide +kernel) (by decide +kernel)
set_option maxRecDepth 20000 in
theorem w704 : Cond.code yX7_label cX7_label 3 (some .int) ∈ gtbl := gm 704 (by rfl) (by decide +kernel)
theorem w705 : Cond.methodLink RX7 170 yX1_tell ∈ gtbl := gm 705 (by decide +kernel) (by decide +kernel)
theorem w706 : Cond.instanceMethod yX1_tell ∈ gtbl := gm 706 (by decide +kernel) (by decide +kernel)
theorem w707 : Cond.selects RX1 yX1_tell yX1_tell ∈ gtbl := gm 707 (by decide +kernel) (by decide +kernel)
set_option maxRecDepth 20000 in
theorem w708 : Cond.code yX1_tell cX1_tell 3 (some .int) ∈ gtbl := gm 708 (by rfl) (by decide +kernel)
theorem w709 : Cond.classLink RL 10 RX8 ∈ gtbl := gm 709 (by decide +kernel) (by decide +kernel)
theorem w710 : Cond.instantiable RX8 46 ∈ gtbl := gm 710 (by decide +kernel) (by decide +kernel)
theorem w711 : Cond.methodLink RL 12 yX8_init ∈ gtbl := gm 711 (by decide +kernel) (by decide +kernel)
theorem w712 : Cond.instanceMethod yX8_init ∈ gtbl := gm 712 (by decide +kernel) (by decide +kernel)
set_option maxRecDepth 20000 in
theorem w713 : Cond.code yX8_init cX8_init 2 none ∈ gtbl := gm 713 (by rfl) (by decide +kernel)
theorem w714 : Cond.methodLink RX8 1 (⟨"java/lang/Object", "<init>", "()V"⟩ : MethodName) ∈ gtbl := gm 714 (by decide +kernel) (by decide +kernel)
theorem w715 : Cond.fieldLink RX8 7 "StickerPressModel" "width" "[I" ∈ gtbl := gm 715 (by decide +kernel) (by decide +kernel)
theorem w716 : Cond.fieldLink RX8 13 "StickerPressModel" "tape" "[I" ∈ gtbl := gm 716 (by decide +kernel) (by decide +kernel)
theorem w717 : Cond.fieldLink RX8 16 "StickerPressModel" "out" "[I" ∈ gtbl := gm 717 (by decide +kernel) (by decide +kernel)
theorem w718 : Cond.fieldLink RX8 111 "StickerPressModel" "taped" "I" ∈ gtbl := gm 718 (by decide +kernel) (by decide +kernel)
theorem w719 : Cond.fieldLink RX8 153 "StickerPressModel" "outs" "I" ∈ gtbl := gm 719 (by decide +kernel) (by decide +kernel)
theorem w720 : Cond.fieldLink RX8 19 "StickerPressModel" "fromLong" "[I" ∈ gtbl := gm 720 (by decide +kernel) (by decide +kernel)
theorem w721 : Cond.fieldLink RX8 22 "StickerPressModel" "toLong" "[I" ∈ gtbl := gm 721 (by decide +kernel) (by decide +kernel)
theorem w722 : Cond.fieldLink RX8 25 "StickerPressModel" "from" "[I" ∈ gtbl := gm 722 (by decide +kernel) (by decide +kernel)
theorem w723 : Cond.fieldLink RX8 28 "StickerPressModel" "to" "[I" ∈ gtbl := gm 723 (by decide +kernel) (by decide +kernel)
theorem w724 : Cond.fieldLink RX8 31 "StickerPressModel" "text" "[I" ∈ gtbl := gm 724 (by decide +kernel) (by decide +kernel)
theorem w725 : Cond.fieldLink RX8 34 "StickerPressModel" "made" "[I" ∈ gtbl := gm 725 (by decide +kernel) (by decide +kernel)
theorem w726 : Cond.fieldLink RX8 37 "StickerPressModel" "best" "[I" ∈ gtbl := gm 726 (by decide +kernel) (by decide +kernel)
theorem w727 : Cond.fieldLink RX8 120 "StickerPressModel" "textLong" "I" ∈ gtbl := gm 727 (by decide +kernel) (by decide +kernel)
theorem w728 : Cond.fieldLink RX8 117 "StickerPressModel" "madeLong" "I" ∈ gtbl := gm 728 (by decide +kernel) (by decide +kernel)
theorem w729 : Cond.fieldLink RX8 150 "StickerPressModel" "bestLong" "I" ∈ gtbl := gm 729 (by decide +kernel) (by decide +kernel)
theorem w730 : Cond.fieldLink RX8 133 "StickerPressModel" "bestSet" "I" ∈ gtbl := gm 730 (by decide +kernel) (by decide +kernel)
theorem w731 : Cond.fieldLink RX8 147 "StickerPressModel" "bestWide" "I" ∈ gtbl := gm 731 (by decide +kernel) (by decide +kernel)
theorem w732 : Cond.fieldLink RX8 40 "StickerPressModel" "used" "I" ∈ gtbl := gm 732 (by decide +kernel) (by decide +kernel)
theorem w733 : Cond.fieldLink RX8 44 "StickerPressModel" "ratio" "I" ∈ gtbl := gm 733 (by decide +kernel) (by decide +kernel)
theorem w734 : Cond.fieldLink RX8 47 "StickerPressModel" "digit" "[I" ∈ gtbl := gm 734 (by decide +kernel) (by decide +kernel)
theorem w735 : Cond.fieldLink RX8 50 "StickerPressModel" "stripe" "[I" ∈ gtbl := gm 735 (by decide +kernel) (by decide +kernel)
theorem w736 : Cond.fieldLink RX8 159 "StickerPressModel" "digits" "I" ∈ gtbl := gm 736 (by decide +kernel) (by decide +kernel)
theorem w737 : Cond.fieldLink RX8 169 "StickerPressModel" "stripes" "I" ∈ gtbl := gm 737 (by decide +kernel) (by decide +kernel)
theorem w738 : Cond.fieldLink RX8 185 "StickerPressModel" "faultKind" "I" ∈ gtbl := gm 738 (by decide +kernel) (by decide +kernel)
theorem w739 : Cond.fieldLink RX8 188 "StickerPressModel" "behind" "I" ∈ gtbl := gm 739 (by decide +kernel) (by decide +kernel)
theorem w740 : Cond.fieldLink RX8 53 "StickerPressModel" "faultPlace" "I" ∈ gtbl := gm 740 (by decide +kernel) (by decide +kernel)
theorem w741 : Cond.fieldLink RX8 172 "StickerPressModel" "wrong" "I" ∈ gtbl := gm 741 (by decide +kernel) (by decide +kernel)
theorem w742 : Cond.fieldLink RX8 175 "StickerPressModel" "wrongAt" "I" ∈ gtbl := gm 742 (by decide +kernel) (by decide +kernel)
theorem w743 : Cond.fieldLink RX8 56 "StickerPressModel" "free" "[J" ∈ gtbl := gm 743 (by decide +kernel) (by decide +kernel)
theorem w744 : Cond.fieldLink RX8 60 "StickerPressModel" "cell" "[I" ∈ gtbl := gm 744 (by decide +kernel) (by decide +kernel)
theorem w745 : Cond.fieldLink RX8 63 "StickerPressModel" "spoiled" "[Z" ∈ gtbl := gm 745 (by decide +kernel) (by decide +kernel)
theorem w746 : Cond.fieldLink RX8 198 "StickerPressModel" "labels" "I" ∈ gtbl := gm 746 (by decide +kernel) (by decide +kernel)
theorem w747 : Cond.fieldLink RX8 67 "StickerPressModel" "groupOf" "[I" ∈ gtbl := gm 747 (by decide +kernel) (by decide +kernel)
theorem w748 : Cond.fieldLink RX8 70 "StickerPressModel" "printedOften" "[I" ∈ gtbl := gm 748 (by decide +kernel) (by decide +kernel)
theorem w749 : Cond.fieldLink RX8 73 "StickerPressModel" "waits" "[Z" ∈ gtbl := gm 749 (by decide +kernel) (by decide +kernel)
theorem w750 : Cond.fieldLink RX8 76 "StickerPressModel" "heapOf" "[I" ∈ gtbl := gm 750 (by decide +kernel) (by decide +kernel)
theorem w751 : Cond.fieldLink RX8 79 "StickerPressModel" "sheetHeap" "[I" ∈ gtbl := gm 751 (by decide +kernel) (by decide +kernel)
theorem w752 : Cond.fieldLink RX8 82 "StickerPressModel" "bestHeap" "[I" ∈ gtbl := gm 752 (by decide +kernel) (by decide +kernel)
theorem w753 : Cond.fieldLink RX8 85 "StickerPressModel" "bestSheet" "[I" ∈ gtbl := gm 753 (by decide +kernel) (by decide +kernel)
theorem w754 : Cond.fieldLink RX8 88 "StickerPressModel" "many" "[I" ∈ gtbl := gm 754 (by decide +kernel) (by decide +kernel)
theorem w755 : Cond.fieldLink RX8 91 "StickerPressModel" "room" "[I" ∈ gtbl := gm 755 (by decide +kernel) (by decide +kernel)
theorem w756 : Cond.fieldLink RX8 207 "StickerPressModel" "bestPieces" "I" ∈ gtbl := gm 756 (by decide +kernel) (by decide +kernel)
theorem w757 : Cond.fieldLink RX8 219 "StickerPressModel" "bestSheets" "I" ∈ gtbl := gm 757 (by decide +kernel) (by decide +kernel)
theorem w758 : Cond.fieldLink RX8 94 "StickerPressModel" "need" "[I" ∈ gtbl := gm 758 (by decide +kernel) (by decide +kernel)
theorem w759 : Cond.fieldLink RX8 97 "StickerPressModel" "has" "[I" ∈ gtbl := gm 759 (by decide +kernel) (by decide +kernel)
theorem w760 : Cond.fieldLink RX8 100 "StickerPressModel" "spot" "[I" ∈ gtbl := gm 760 (by decide +kernel) (by decide +kernel)
theorem w854 : Cond.methodLink RL 17 yX8_wide ∈ gtbl := gm 854 (by decide +kernel) (by decide +kernel)
theorem w855 : Cond.instanceMethod yX8_wide ∈ gtbl := gm 855 (by decide +kernel) (by decide +kernel)
theorem w856 : Cond.selects RX8 yX8_wide yX8_wide ∈ gtbl := gm 856 (by decide +kernel) (by decide +kernel)
set_option maxRecDepth 20000 in
theorem w857 : Cond.code yX8_wide cX8_wide 3 (some .boolean) ∈ gtbl := gm 857 (by rfl) (by decide +kernel)
theorem w858 : Cond.methodLink RX8 107 yX8_isSign ∈ gtbl := gm 858 (by decide +kernel) (by decide +kernel)
theorem w859 : Cond.static yX8_isSign ∈ gtbl := gm 859 (by decide +kernel) (by decide +kernel)
set_option maxRecDepth 20000 in
theorem w860 : Cond.code yX8_isSign cX8_isSign 1 (some .boolean) ∈ gtbl := gm 860 (by rfl) (by decide +kernel)
theorem w861 : Cond.methodLink RX8 103 yX8_isIn ∈ gtbl := gm 861 (by decide +kernel) (by decide +kernel)
theorem w862 : Cond.static yX8_isIn ∈ gtbl := gm 862 (by decide +kernel) (by decide +kernel)
set_option maxRecDepth 20000 in
theorem w863 : Cond.code yX8_isIn cX8_isIn 3 (some .boolean) ∈ gtbl := gm 863 (by rfl) (by decide +kernel)
theorem w864 : Cond.methodLink RL 22 yX8_feed ∈ gtbl := gm 864 (by decide +kernel) (by decide +kernel)
theorem w865 : Cond.instanceMethod yX8_feed ∈ gtbl := gm 865 (by decide +kernel) (by decide +kernel)
theorem w866 : Cond.selects RX8 yX8_feed yX8_feed ∈ gtbl := gm 866 (by decide +kernel) (by decide +kernel)
set_option maxRecDepth 20000 in
theorem w867 : Cond.code yX8_feed cX8_feed 8 (some .int) ∈ gtbl := gm 867 (by rfl) (by decide +kernel)
theorem w868 : Cond.methodLink RL 27 yX8_end ∈ gtbl := gm 868 (by decide +kernel) (by decide +kernel)
theorem w869 : Cond.instanceMethod yX8_end ∈ gtbl := gm 869 (by decide +kernel) (by decide +kernel)
theorem w870 : Cond.selects RX8 yX8_end yX8_end ∈ gtbl := gm 870 (by decide +kernel) (by decide +kernel)
set_option maxRecDepth 20000 in
theorem w871 : Cond.code yX8_end cX8_end 2 (some .boolean) ∈ gtbl := gm 871 (by rfl) (by decide +kernel)
theorem w872 : Cond.methodLink RL 31 yX8_shorten ∈ gtbl := gm 872 (by decide +kernel) (by decide +kernel)
theorem w873 : Cond.instanceMethod yX8_shorten ∈ gtbl := gm 873 (by decide +kernel) (by decide +kernel)
theorem w874 : Cond.selects RX8 yX8_shorten yX8_shorten ∈ gtbl := gm 874 (by decide +kernel) (by decide +kernel)
set_option maxRecDepth 20000 in
theorem w875 : Cond.code yX8_shorten cX8_shorten 5 (some .boolean) ∈ gtbl := gm 875 (by rfl) (by decide +kernel)
theorem w876 : Cond.methodLink RX8 114 yX8_areSigns ∈ gtbl := gm 876 (by decide +kernel) (by decide +kernel)
theorem w878 : Cond.instanceMethod yX8_areSigns ∈ gtbl := gm 878 (by decide +kernel) (by decide +kernel)
set_option maxRecDepth 20000 in
theorem w879 : Cond.code yX8_areSigns cX8_areSigns 4 (some .boolean) ∈ gtbl := gm 879 (by rfl) (by decide +kernel)
theorem w880 : Cond.methodLink RL 36 yX8_fit ∈ gtbl := gm 880 (by decide +kernel) (by decide +kernel)
theorem w881 : Cond.instanceMethod yX8_fit ∈ gtbl := gm 881 (by decide +kernel) (by decide +kernel)
theorem w882 : Cond.selects RX8 yX8_fit yX8_fit ∈ gtbl := gm 882 (by decide +kernel) (by decide +kernel)
set_option maxRecDepth 20000 in
theorem w883 : Cond.code yX8_fit cX8_fit 6 (some .int) ∈ gtbl := gm 883 (by rfl) (by decide +kernel)
theorem w884 : Cond.methodLink RX8 136 yX8_becomes ∈ gtbl := gm 884 (by decide +kernel) (by decide +kernel)
theorem w886 : Cond.instanceMethod yX8_becomes ∈ gtbl := gm 886 (by decide +kernel) (by decide +kernel)
set_option maxRecDepth 20000 in
theorem w887 : Cond.code yX8_becomes cX8_becomes 4 (some .boolean) ∈ gtbl := gm 887 (by rfl) (by decide +kernel)
theorem w888 : Cond.methodLink RX8 130 yX8_goes ∈ gtbl := gm 888 (by decide +kernel) (by decide +kernel)
theorem w890 : Cond.instanceMethod yX8_goes ∈ gtbl := gm 890 (by decide +kernel) (by decide +kernel)
set_option maxRecDepth 20000 in
theorem w891 : Cond.code yX8_goes cX8_goes 4 (some .boolean) ∈ gtbl := gm 891 (by rfl) (by decide +kernel)
theorem w892 : Cond.methodLink RX8 123 yX8_stands ∈ gtbl := gm 892 (by decide +kernel) (by decide +kernel)
theorem w894 : Cond.instanceMethod yX8_stands ∈ gtbl := gm 894 (by decide +kernel) (by decide +kernel)
set_option maxRecDepth 20000 in
theorem w895 : Cond.code yX8_stands cX8_stands 5 (some .boolean) ∈ gtbl := gm 895 (by rfl) (by decide +kernel)
theorem w896 : Cond.methodLink RX8 127 yX8_puts ∈ gtbl := gm 896 (by decide +kernel) (by decide +kernel)
theorem w898 : Cond.instanceMethod yX8_puts ∈ gtbl := gm 898 (by decide +kernel) (by decide +kernel)
set_option maxRecDepth 20000 in
theorem w899 : Cond.code yX8_puts cX8_puts 2 (some .boolean) ∈ gtbl := gm 899 (by rfl) (by decide +kernel)
theorem w900 : Cond.methodLink RX8 139 yX8_wideOf ∈ gtbl := gm 900 (by decide +kernel) (by decide +kernel)
theorem w902 : Cond.instanceMethod yX8_wideOf ∈ gtbl := gm 902 (by decide +kernel) (by decide +kernel)
set_option maxRecDepth 20000 in
theorem w903 : Cond.code yX8_wideOf cX8_wideOf 3 (some .int) ∈ gtbl := gm 903 (by rfl) (by decide +kernel)
theorem w904 : Cond.methodLink RX8 143 yX8_bits ∈ gtbl := gm 904 (by decide +kernel) (by decide +kernel)
theorem w905 : Cond.static yX8_bits ∈ gtbl := gm 905 (by decide +kernel) (by decide +kernel)
set_option maxRecDepth 20000 in
theorem w906 : Cond.code yX8_bits cX8_bits 3 (some .int) ∈ gtbl := gm 906 (by rfl) (by decide +kernel)
theorem w907 : Cond.methodLink RL 41 yX8_used ∈ gtbl := gm 907 (by decide +kernel) (by decide +kernel)
theorem w908 : Cond.instanceMethod yX8_used ∈ gtbl := gm 908 (by decide +kernel) (by decide +kernel)
theorem w909 : Cond.selects RX8 yX8_used yX8_used ∈ gtbl := gm 909 (by decide +kernel) (by decide +kernel)
set_option maxRecDepth 20000 in
theorem w910 : Cond.code yX8_used cX8_used 1 (some .int) ∈ gtbl := gm 910 (by rfl) (by decide +kernel)
theorem w911 : Cond.methodLink RL 45 yX8_out ∈ gtbl := gm 911 (by decide +kernel) (by decide +kernel)
theorem w912 : Cond.instanceMethod yX8_out ∈ gtbl := gm 912 (by decide +kernel) (by decide +kernel)
theorem w913 : Cond.selects RX8 yX8_out yX8_out ∈ gtbl := gm 913 (by decide +kernel) (by decide +kernel)
set_option maxRecDepth 20000 in
theorem w914 : Cond.code yX8_out cX8_out 2 (some .int) ∈ gtbl := gm 914 (by rfl) (by decide +kernel)
theorem w915 : Cond.methodLink RL 65 yX8_take ∈ gtbl := gm 915 (by decide +kernel) (by decide +kernel)
theorem w916 : Cond.instanceMethod yX8_take ∈ gtbl := gm 916 (by decide +kernel) (by decide +kernel)
theorem w917 : Cond.selects RX8 yX8_take yX8_take ∈ gtbl := gm 917 (by decide +kernel) (by decide +kernel)
set_option maxRecDepth 20000 in
theorem w918 : Cond.code yX8_take cX8_take 2 (some .int) ∈ gtbl := gm 918 (by rfl) (by decide +kernel)
theorem w919 : Cond.methodLink RL 49 yX8_ratio ∈ gtbl := gm 919 (by decide +kernel) (by decide +kernel)
theorem w920 : Cond.instanceMethod yX8_ratio ∈ gtbl := gm 920 (by decide +kernel) (by decide +kernel)
theorem w921 : Cond.selects RX8 yX8_ratio yX8_ratio ∈ gtbl := gm 921 (by decide +kernel) (by decide +kernel)
set_option maxRecDepth 20000 in
theorem w922 : Cond.code yX8_ratio cX8_ratio 2 (some .boolean) ∈ gtbl := gm 922 (by rfl) (by decide +kernel)
theorem w923 : Cond.methodLink RL 53 yX8_bars ∈ gtbl := gm 923 (by decide +kernel) (by decide +kernel)
theorem w924 : Cond.instanceMethod yX8_bars ∈ gtbl := gm 924 (by decide +kernel) (by decide +kernel)
theorem w925 : Cond.selects RX8 yX8_bars yX8_bars ∈ gtbl := gm 925 (by decide +kernel) (by decide +kernel)
set_option maxRecDepth 20000 in
theorem w926 : Cond.code yX8_bars cX8_bars 5 (some .int) ∈ gtbl := gm 926 (by rfl) (by decide +kernel)
theorem w927 : Cond.methodLink RX8 156 yX8_check ∈ gtbl := gm 927 (by decide +kernel) (by decide +kernel)
theorem w929 : Cond.instanceMethod yX8_check ∈ gtbl := gm 929 (by decide +kernel) (by decide +kernel)
set_option maxRecDepth 20000 in
theorem w930 : Cond.code yX8_check cX8_check 4 (some .int) ∈ gtbl := gm 930 (by rfl) (by decide +kernel)
theorem w931 : Cond.methodLink RX8 162 yX8_draws ∈ gtbl := gm 931 (by decide +kernel) (by decide +kernel)
theorem w933 : Cond.instanceMethod yX8_draws ∈ gtbl := gm 933 (by decide +kernel) (by decide +kernel)
set_option maxRecDepth 20000 in
theorem w934 : Cond.code yX8_draws cX8_draws 2 none ∈ gtbl := gm 934 (by rfl) (by decide +kernel)
theorem w935 : Cond.methodLink RX8 166 yX8_five ∈ gtbl := gm 935 (by decide +kernel) (by decide +kernel)
theorem w936 : Cond.static yX8_five ∈ gtbl := gm 936 (by decide +kernel) (by decide +kernel)
set_option maxRecDepth 20000 in
theorem w937 : Cond.code yX8_five cX8_five 1 (some .int) ∈ gtbl := gm 937 (by rfl) (by decide +kernel)
theorem w938 : Cond.methodLink RL 57 yX8_read ∈ gtbl := gm 938 (by decide +kernel) (by decide +kernel)
theorem w939 : Cond.instanceMethod yX8_read ∈ gtbl := gm 939 (by decide +kernel) (by decide +kernel)
theorem w940 : Cond.selects RX8 yX8_read yX8_read ∈ gtbl := gm 940 (by decide +kernel) (by decide +kernel)
set_option maxRecDepth 20000 in
theorem w941 : Cond.code yX8_read cX8_read 4 (some .int) ∈ gtbl := gm 941 (by rfl) (by decide +kernel)
theorem w942 : Cond.methodLink RX8 191 yX8_reads ∈ gtbl := gm 942 (by decide +kernel) (by decide +kernel)
theorem w944 : Cond.instanceMethod yX8_reads ∈ gtbl := gm 944 (by decide +kernel) (by decide +kernel)
set_option maxRecDepth 20000 in
theorem w945 : Cond.code yX8_reads cX8_reads 11 (some .boolean) ∈ gtbl := gm 945 (by rfl) (by decide +kernel)
theorem w946 : Cond.methodLink RX8 178 yX8_isWide ∈ gtbl := gm 946 (by decide +kernel) (by decide +kernel)
theorem w948 : Cond.instanceMethod yX8_isWide ∈ gtbl := gm 948 (by decide +kernel) (by decide +kernel)
set_option maxRecDepth 20000 in
theorem w949 : Cond.code yX8_isWide cX8_isWide 4 (some .boolean) ∈ gtbl := gm 949 (by rfl) (by decide +kernel)
theorem w950 : Cond.methodLink RX8 182 yX8_bad ∈ gtbl := gm 950 (by decide +kernel) (by decide +kernel)
theorem w952 : Cond.instanceMethod yX8_bad ∈ gtbl := gm 952 (by decide +kernel) (by decide +kernel)
set_option maxRecDepth 20000 in
theorem w953 : Cond.code yX8_bad cX8_bad 3 (some .boolean) ∈ gtbl := gm 953 (by rfl) (by decide +kernel)
theorem w954 : Cond.methodLink RL 61 yX8_fault ∈ gtbl := gm 954 (by decide +kernel) (by decide +kernel)
theorem w955 : Cond.instanceMethod yX8_fault ∈ gtbl := gm 955 (by decide +kernel) (by decide +kernel)
theorem w956 : Cond.selects RX8 yX8_fault yX8_fault ∈ gtbl := gm 956 (by decide +kernel) (by decide +kernel)
set_option maxRecDepth 20000 in
theorem w957 : Cond.code yX8_fault cX8_fault 2 (some .int) ∈ gtbl := gm 957 (by rfl) (by decide +kernel)
theorem w958 : Cond.methodLink RL 72 yX8_sheet ∈ gtbl := gm 958 (by decide +kernel) (by decide +kernel)
theorem w959 : Cond.instanceMethod yX8_sheet ∈ gtbl := gm 959 (by decide +kernel) (by decide +kernel)
theorem w960 : Cond.selects RX8 yX8_sheet yX8_sheet ∈ gtbl := gm 960 (by decide +kernel) (by decide +kernel)
set_option maxRecDepth 20000 in
theorem w961 : Cond.code yX8_sheet cX8_sheet 5 (some .boolean) ∈ gtbl := gm 961 (by rfl) (by decide +kernel)
theorem w962 : Cond.methodLink RX8 195 yX8_isSheet ∈ gtbl := gm 962 (by decide +kernel) (by decide +kernel)
theorem w963 : Cond.static yX8_isSheet ∈ gtbl := gm 963 (by decide +kernel) (by decide +kernel)
set_option maxRecDepth 20000 in
theorem w964 : Cond.code yX8_isSheet cX8_isSheet 1 (some .boolean) ∈ gtbl := gm 964 (by rfl) (by decide +kernel)
theorem w965 : Cond.methodLink RL 77 yX8_come ∈ gtbl := gm 965 (by decide +kernel) (by decide +kernel)
theorem w966 : Cond.instanceMethod yX8_come ∈ gtbl := gm 966 (by decide +kernel) (by decide +kernel)
theorem w967 : Cond.selects RX8 yX8_come yX8_come ∈ gtbl := gm 967 (by decide +kernel) (by decide +kernel)
set_option maxRecDepth 20000 in
theorem w968 : Cond.code yX8_come cX8_come 5 (some .int) ∈ gtbl := gm 968 (by rfl) (by decide +kernel)
theorem w969 : Cond.methodLink RX8 201 yX8_waiting ∈ gtbl := gm 969 (by decide +kernel) (by decide +kernel)
theorem w971 : Cond.instanceMethod yX8_waiting ∈ gtbl := gm 971 (by decide +kernel) (by decide +kernel)
set_option maxRecDepth 20000 in
theorem w972 : Cond.code yX8_waiting cX8_waiting 4 (some .int) ∈ gtbl := gm 972 (by rfl) (by decide +kernel)
theorem w973 : Cond.methodLink RL 81 yX8_look ∈ gtbl := gm 973 (by decide +kernel) (by decide +kernel)
theorem w974 : Cond.instanceMethod yX8_look ∈ gtbl := gm 974 (by decide +kernel) (by decide +kernel)
theorem w975 : Cond.selects RX8 yX8_look yX8_look ∈ gtbl := gm 975 (by decide +kernel) (by decide +kernel)
set_option maxRecDepth 20000 in
theorem w976 : Cond.code yX8_look cX8_look 4 (some .int) ∈ gtbl := gm 976 (by rfl) (by decide +kernel)
theorem w977 : Cond.methodLink RX8 204 yX8_freeOn ∈ gtbl := gm 977 (by decide +kernel) (by decide +kernel)
theorem w979 : Cond.instanceMethod yX8_freeOn ∈ gtbl := gm 979 (by decide +kernel) (by decide +kernel)
set_option maxRecDepth 20000 in
theorem w980 : Cond.code yX8_freeOn cX8_freeOn 4 (some .int) ∈ gtbl := gm 980 (by rfl) (by decide +kernel)
theorem w981 : Cond.methodLink RX8 222 yX8_lays ∈ gtbl := gm 981 (by decide +kernel) (by decide +kernel)
theorem w983 : Cond.instanceMethod yX8_lays ∈ gtbl := gm 983 (by decide +kernel) (by decide +kernel)
set_option maxRecDepth 20000 in
theorem w984 : Cond.code yX8_lays cX8_lays 7 (some .boolean) ∈ gtbl := gm 984 (by rfl) (by decide +kernel)
theorem w985 : Cond.methodLink RX8 210 yX8_groups ∈ gtbl := gm 985 (by decide +kernel) (by decide +kernel)
theorem w987 : Cond.instanceMethod yX8_groups ∈ gtbl := gm 987 (by decide +kernel) (by decide +kernel)
set_option maxRecDepth 20000 in
theorem w988 : Cond.code yX8_groups cX8_groups 4 (some .boolean) ∈ gtbl := gm 988 (by rfl) (by decide +kernel)
theorem w989 : Cond.methodLink RX8 213 yX8_sheets ∈ gtbl := gm 989 (by decide +kernel) (by decide +kernel)
theorem w991 : Cond.instanceMethod yX8_sheets ∈ gtbl := gm 991 (by decide +kernel) (by decide +kernel)
set_option maxRecDepth 20000 in
theorem w992 : Cond.code yX8_sheets cX8_sheets 4 (some .boolean) ∈ gtbl := gm 992 (by rfl) (by decide +kernel)
theorem w993 : Cond.methodLink RX8 216 yX8_heaps ∈ gtbl := gm 993 (by decide +kernel) (by decide +kernel)
theorem w995 : Cond.instanceMethod yX8_heaps ∈ gtbl := gm 995 (by decide +kernel) (by decide +kernel)
set_option maxRecDepth 20000 in
theorem w996 : Cond.code yX8_heaps cX8_heaps 3 (some .int) ∈ gtbl := gm 996 (by rfl) (by decide +kernel)
theorem w997 : Cond.methodLink RL 85 yX8_heap ∈ gtbl := gm 997 (by decide +kernel) (by decide +kernel)
theorem w998 : Cond.instanceMethod yX8_heap ∈ gtbl := gm 998 (by decide +kernel) (by decide +kernel)
theorem w999 : Cond.selects RX8 yX8_heap yX8_heap ∈ gtbl := gm 999 (by decide +kernel) (by decide +kernel)
set_option maxRecDepth 20000 in
theorem w1000 : Cond.code yX8_heap cX8_heap 3 (some .int) ∈ gtbl := gm 1000 (by rfl) (by decide +kernel)
theorem w1001 : Cond.methodLink RL 89 yX8_plan ∈ gtbl := gm 1001 (by decide +kernel) (by decide +kernel)
theorem w1002 : Cond.instanceMethod yX8_plan ∈ gtbl := gm 1002 (by decide +kernel) (by decide +kernel)
theorem w1003 : Cond.selects RX8 yX8_plan yX8_plan ∈ gtbl := gm 1003 (by decide +kernel) (by decide +kernel)
set_option maxRecDepth 20000 in
theorem w1004 : Cond.code yX8_plan cX8_plan 3 (some .int) ∈ gtbl := gm 1004 (by rfl) (by decide +kernel)
theorem w1005 : Cond.methodLink RX8 226 yX8_isCell ∈ gtbl := gm 1005 (by decide +kernel) (by decide +kernel)
theorem w1006 : Cond.static yX8_isCell ∈ gtbl := gm 1006 (by decide +kernel) (by decide +kernel)
set_option maxRecDepth 20000 in
theorem w1007 : Cond.code yX8_isCell cX8_isCell 1 (some .boolean) ∈ gtbl := gm 1007 (by rfl) (by decide +kernel)
theorem w1008 : Cond.methodLink RX8 229 yX8_plans ∈ gtbl := gm 1008 (by decide +kernel) (by decide +kernel)
theorem w1010 : Cond.instanceMethod yX8_plans ∈ gtbl := gm 1010 (by decide +kernel) (by decide +kernel)
set_option maxRecDepth 20000 in
theorem w1011 : Cond.code yX8_plans cX8_plans 5 none ∈ gtbl := gm 1011 (by rfl) (by decide +kernel)
theorem w1012 : Cond.methodLink RL 93 yX8_print ∈ gtbl := gm 1012 (by decide +kernel) (by decide +kernel)
theorem w1013 : Cond.instanceMethod yX8_print ∈ gtbl := gm 1013 (by decide +kernel) (by decide +kernel)
theorem w1014 : Cond.selects RX8 yX8_print yX8_print ∈ gtbl := gm 1014 (by decide +kernel) (by decide +kernel)
set_option maxRecDepth 20000 in
theorem w1015 : Cond.code yX8_print cX8_print 5 (some .int) ∈ gtbl := gm 1015 (by rfl) (by decide +kernel)
theorem w1016 : Cond.constantLong RX8 232 (-1 : Int64) ∈ gtbl := gm 1016 (by decide +kernel) (by decide +kernel)
theorem w1017 : Cond.methodLink RL 97 yX8_printed ∈ gtbl := gm 1017 (by decide +kernel) (by decide +kernel)
theorem w1018 : Cond.instanceMethod yX8_printed ∈ gtbl := gm 1018 (by decide +kernel) (by decide +kernel)
theorem w1019 : Cond.selects RX8 yX8_printed yX8_printed ∈ gtbl := gm 1019 (by decide +kernel) (by decide +kernel)
set_option maxRecDepth 20000 in
theorem w1020 : Cond.code yX8_printed cX8_printed 3 (some .int) ∈ gtbl := gm 1020 (by rfl) (by decide +kernel)
theorem w1021 : Cond.methodLink RL 101 yX8_spoil ∈ gtbl := gm 1021 (by decide +kernel) (by decide +kernel)
theorem w1022 : Cond.instanceMethod yX8_spoil ∈ gtbl := gm 1022 (by decide +kernel) (by decide +kernel)
theorem w1023 : Cond.selects RX8 yX8_spoil yX8_spoil ∈ gtbl := gm 1023 (by decide +kernel) (by decide +kernel)
set_option maxRecDepth 20000 in
theorem w1024 : Cond.code yX8_spoil cX8_spoil 4 (some .int) ∈ gtbl := gm 1024 (by rfl) (by decide +kernel)
theorem w1025 : Cond.methodLink RX8 234 yX8_printed ∈ gtbl := gm 1025 (by decide +kernel) (by decide +kernel)
theorem w1026 : Cond.methodLink RL 105 yX8_label ∈ gtbl := gm 1026 (by decide +kernel) (by decide +kernel)
theorem w1027 : Cond.instanceMethod yX8_label ∈ gtbl := gm 1027 (by decide +kernel) (by decide +kernel)
theorem w1028 : Cond.selects RX8 yX8_label yX8_label ∈ gtbl := gm 1028 (by decide +kernel) (by decide +kernel)
set_option maxRecDepth 20000 in
theorem w1029 : Cond.code yX8_label cX8_label 3 (some .int) ∈ gtbl := gm 1029 (by rfl) (by decide +kernel)
theorem w1030 : Cond.constantLong RL 66 (4294967295 : Int64) ∈ gtbl := gm 1030 (by decide +kernel) (by decide +kernel)
theorem wMath : Cond.initialized RJ9 ∈ gtbl := w45
theorem wMaxS : Cond.static yJ9_max_7cf53 ∈ gtbl := w70
theorem wMaxC : Cond.code yJ9_max_7cf53 cJ9_max_7cf53 2 (some .int) ∈ gtbl := w71
theorem wMinS : Cond.static yJ9_min_7cf53 ∈ gtbl := w445
theorem wMinC : Cond.code yJ9_min_7cf53 cJ9_min_7cf53 2 (some .int) ∈ gtbl := w446
theorem wObjI : Cond.instanceMethod (⟨"java/lang/Object", "<init>", "()V"⟩ : MethodName) ∈ gtbl := w61
theorem wObjC : Cond.code (⟨"java/lang/Object", "<init>", "()V"⟩ : MethodName) object_method_1_code 1 none ∈ gtbl := w62
theorem wArrI : Cond.arrayClass FieldType.int ∈ gtbl := w79
theorem wArrZ : Cond.arrayClass FieldType.boolean ∈ gtbl := w190
theorem wArrJ : Cond.arrayClass FieldType.long ∈ gtbl := w207
