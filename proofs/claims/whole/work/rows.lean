section
-- ===== PART A: goes FIRST, ahead of the names: the tables' words, and 'selects' of the private methods out of them =====
/-- a private method of a class that the tables say can be made, by its rows of tables_1 -/
def lw_okq (q : MethodName × Nat) : Prop := (q.1.cls ≠ "java/lang/invoke/MethodHandle" ∧ q.1.cls ≠ "java/lang/invoke/VarHandle") ∧ Cond.instantiable q.1.cls q.2 ∈ tables_1 ∧ Cond.privateMethod q.1 ∈ tables_1 ∧ Cond.instanceMethod q.1 ∈ tables_1
theorem lw_p0 : lw_okq (⟨"StickerPress", "feedBytes", "(I)V"⟩, 7) := ⟨⟨by decide +kernel, by decide +kernel⟩, List.mem_of_getElem? (i := 14) (by decide +kernel), List.mem_of_getElem? (i := 246) (by decide +kernel), List.mem_of_getElem? (i := 247) (by decide +kernel)⟩
theorem lw_p1 : lw_okq (⟨"StickerPress$Names", "bestSet", "(LStickerPress$Row;I)I"⟩, 7) := ⟨⟨by decide +kernel, by decide +kernel⟩, List.mem_of_getElem? (i := 39) (by decide +kernel), List.mem_of_getElem? (i := 303) (by decide +kernel), List.mem_of_getElem? (i := 304) (by decide +kernel)⟩
theorem lw_p2 : lw_okq (⟨"StickerPress$Names", "applySet", "(LStickerPress$Row;I)Z"⟩, 7) := ⟨⟨by decide +kernel, by decide +kernel⟩, List.mem_of_getElem? (i := 39) (by decide +kernel), List.mem_of_getElem? (i := 313) (by decide +kernel), List.mem_of_getElem? (i := 314) (by decide +kernel)⟩
theorem lw_p3 : lw_okq (⟨"StickerPress$Names", "applyOne", "(LStickerPress$Row;LStickerPress$Row;)Z"⟩, 7) := ⟨⟨by decide +kernel, by decide +kernel⟩, List.mem_of_getElem? (i := 39) (by decide +kernel), List.mem_of_getElem? (i := 323) (by decide +kernel), List.mem_of_getElem? (i := 324) (by decide +kernel)⟩
theorem lw_p4 : lw_okq (⟨"StickerPress$Names", "textWidth", "()I"⟩, 7) := ⟨⟨by decide +kernel, by decide +kernel⟩, List.mem_of_getElem? (i := 39) (by decide +kernel), List.mem_of_getElem? (i := 333) (by decide +kernel), List.mem_of_getElem? (i := 334) (by decide +kernel)⟩
theorem lw_p5 : lw_okq (⟨"StickerPress$Stripes", "takeDigits", "(LStickerPress$Row;)V"⟩, 8) := ⟨⟨by decide +kernel, by decide +kernel⟩, List.mem_of_getElem? (i := 70) (by decide +kernel), List.mem_of_getElem? (i := 368) (by decide +kernel), List.mem_of_getElem? (i := 369) (by decide +kernel)⟩
theorem lw_p6 : lw_okq (⟨"StickerPress$Stripes", "drawPair", "(IILStickerPress$Row;)V"⟩, 8) := ⟨⟨by decide +kernel, by decide +kernel⟩, List.mem_of_getElem? (i := 70) (by decide +kernel), List.mem_of_getElem? (i := 383) (by decide +kernel), List.mem_of_getElem? (i := 384) (by decide +kernel)⟩
theorem lw_p7 : lw_okq (⟨"StickerPress$Stripes", "keepFault", "(II)V"⟩, 8) := ⟨⟨by decide +kernel, by decide +kernel⟩, List.mem_of_getElem? (i := 70) (by decide +kernel), List.mem_of_getElem? (i := 398) (by decide +kernel), List.mem_of_getElem? (i := 399) (by decide +kernel)⟩
theorem lw_p8 : lw_okq (⟨"StickerPress$Stripes", "findWides", "(LStickerPress$Row;)V"⟩, 8) := ⟨⟨by decide +kernel, by decide +kernel⟩, List.mem_of_getElem? (i := 70) (by decide +kernel), List.mem_of_getElem? (i := 402) (by decide +kernel), List.mem_of_getElem? (i := 403) (by decide +kernel)⟩
theorem lw_p9 : lw_okq (⟨"StickerPress$Reading", "endsStand", "()Z"⟩, 5) := ⟨⟨by decide +kernel, by decide +kernel⟩, List.mem_of_getElem? (i := 78) (by decide +kernel), List.mem_of_getElem? (i := 415) (by decide +kernel), List.mem_of_getElem? (i := 416) (by decide +kernel)⟩
theorem lw_p10 : lw_okq (⟨"StickerPress$Reading", "stripe", "(I)I"⟩, 5) := ⟨⟨by decide +kernel, by decide +kernel⟩, List.mem_of_getElem? (i := 78) (by decide +kernel), List.mem_of_getElem? (i := 419) (by decide +kernel), List.mem_of_getElem? (i := 420) (by decide +kernel)⟩
theorem lw_p11 : lw_okq (⟨"StickerPress$Reading", "refuse", "(II)Z"⟩, 5) := ⟨⟨by decide +kernel, by decide +kernel⟩, List.mem_of_getElem? (i := 78) (by decide +kernel), List.mem_of_getElem? (i := 425) (by decide +kernel), List.mem_of_getElem? (i := 426) (by decide +kernel)⟩
theorem lw_p12 : lw_okq (⟨"StickerPress$Reading", "addDigit", "(I)Z"⟩, 5) := ⟨⟨by decide +kernel, by decide +kernel⟩, List.mem_of_getElem? (i := 78) (by decide +kernel), List.mem_of_getElem? (i := 429) (by decide +kernel), List.mem_of_getElem? (i := 430) (by decide +kernel)⟩
theorem lw_p13 : lw_okq (⟨"StickerPress$Stripes", "keepDigits", "(LStickerPress$Reading;ZLStickerPress$Row;)I"⟩, 8) := ⟨⟨by decide +kernel, by decide +kernel⟩, List.mem_of_getElem? (i := 70) (by decide +kernel), List.mem_of_getElem? (i := 436) (by decide +kernel), List.mem_of_getElem? (i := 437) (by decide +kernel)⟩
theorem lw_p14 : lw_okq (⟨"StickerPress$Best", "seek", "()V"⟩, 10) := ⟨⟨by decide +kernel, by decide +kernel⟩, List.mem_of_getElem? (i := 170) (by decide +kernel), List.mem_of_getElem? (i := 509) (by decide +kernel), List.mem_of_getElem? (i := 510) (by decide +kernel)⟩
theorem lw_p15 : lw_okq (⟨"StickerPress$Best", "trySheets", "(I)V"⟩, 10) := ⟨⟨by decide +kernel, by decide +kernel⟩, List.mem_of_getElem? (i := 170) (by decide +kernel), List.mem_of_getElem? (i := 517) (by decide +kernel), List.mem_of_getElem? (i := 518) (by decide +kernel)⟩
def lw_privs_1 : List (MethodName × Nat) := [(⟨"StickerPress", "feedBytes", "(I)V"⟩, 7), (⟨"StickerPress$Names", "bestSet", "(LStickerPress$Row;I)I"⟩, 7), (⟨"StickerPress$Names", "applySet", "(LStickerPress$Row;I)Z"⟩, 7), (⟨"StickerPress$Names", "applyOne", "(LStickerPress$Row;LStickerPress$Row;)Z"⟩, 7), (⟨"StickerPress$Names", "textWidth", "()I"⟩, 7), (⟨"StickerPress$Stripes", "takeDigits", "(LStickerPress$Row;)V"⟩, 8), (⟨"StickerPress$Stripes", "drawPair", "(IILStickerPress$Row;)V"⟩, 8), (⟨"StickerPress$Stripes", "keepFault", "(II)V"⟩, 8), (⟨"StickerPress$Stripes", "findWides", "(LStickerPress$Row;)V"⟩, 8), (⟨"StickerPress$Reading", "endsStand", "()Z"⟩, 5), (⟨"StickerPress$Reading", "stripe", "(I)I"⟩, 5), (⟨"StickerPress$Reading", "refuse", "(II)Z"⟩, 5), (⟨"StickerPress$Reading", "addDigit", "(I)Z"⟩, 5), (⟨"StickerPress$Stripes", "keepDigits", "(LStickerPress$Reading;ZLStickerPress$Row;)I"⟩, 8), (⟨"StickerPress$Best", "seek", "()V"⟩, 10), (⟨"StickerPress$Best", "trySheets", "(I)V"⟩, 10)]
theorem lw_r1 : ∀ q ∈ lw_privs_1, lw_okq q := List.forall_mem_cons.mpr ⟨lw_p0, List.forall_mem_cons.mpr ⟨lw_p1, List.forall_mem_cons.mpr ⟨lw_p2, List.forall_mem_cons.mpr ⟨lw_p3, List.forall_mem_cons.mpr ⟨lw_p4, List.forall_mem_cons.mpr ⟨lw_p5, List.forall_mem_cons.mpr ⟨lw_p6, List.forall_mem_cons.mpr ⟨lw_p7, List.forall_mem_cons.mpr ⟨lw_p8, List.forall_mem_cons.mpr ⟨lw_p9, List.forall_mem_cons.mpr ⟨lw_p10, List.forall_mem_cons.mpr ⟨lw_p11, List.forall_mem_cons.mpr ⟨lw_p12, List.forall_mem_cons.mpr ⟨lw_p13, List.forall_mem_cons.mpr ⟨lw_p14, List.forall_mem_cons.mpr ⟨lw_p15, fun _ h => absurd h List.not_mem_nil⟩⟩⟩⟩⟩⟩⟩⟩⟩⟩⟩⟩⟩⟩⟩⟩
theorem lw_p16 : lw_okq (⟨"StickerPress$Best", "makeRoom", "(I)Z"⟩, 10) := ⟨⟨by decide +kernel, by decide +kernel⟩, List.mem_of_getElem? (i := 170) (by decide +kernel), List.mem_of_getElem? (i := 528) (by decide +kernel), List.mem_of_getElem? (i := 529) (by decide +kernel)⟩
theorem lw_p17 : lw_okq (⟨"StickerPress$Best", "layAll", "()V"⟩, 10) := ⟨⟨by decide +kernel, by decide +kernel⟩, List.mem_of_getElem? (i := 170) (by decide +kernel), List.mem_of_getElem? (i := 541) (by decide +kernel), List.mem_of_getElem? (i := 542) (by decide +kernel)⟩
theorem lw_p18 : lw_okq (⟨"StickerPress$Best", "layGroup", "(I)V"⟩, 10) := ⟨⟨by decide +kernel, by decide +kernel⟩, List.mem_of_getElem? (i := 170) (by decide +kernel), List.mem_of_getElem? (i := 549) (by decide +kernel), List.mem_of_getElem? (i := 550) (by decide +kernel)⟩
theorem lw_p19 : lw_okq (⟨"StickerPress$Labels", "isLabel", "(I)Z"⟩, 5) := ⟨⟨by decide +kernel, by decide +kernel⟩, List.mem_of_getElem? (i := 130) (by decide +kernel), List.mem_of_getElem? (i := 561) (by decide +kernel), List.mem_of_getElem? (i := 562) (by decide +kernel)⟩
theorem lw_p20 : lw_okq (⟨"StickerPress$Best", "layLabel", "(II)V"⟩, 10) := ⟨⟨by decide +kernel, by decide +kernel⟩, List.mem_of_getElem? (i := 170) (by decide +kernel), List.mem_of_getElem? (i := 565) (by decide +kernel), List.mem_of_getElem? (i := 566) (by decide +kernel)⟩
theorem lw_p21 : lw_okq (⟨"StickerPress", "printCell", "(I)Z"⟩, 7) := ⟨⟨by decide +kernel, by decide +kernel⟩, List.mem_of_getElem? (i := 14) (by decide +kernel), List.mem_of_getElem? (i := 616) (by decide +kernel), List.mem_of_getElem? (i := 617) (by decide +kernel)⟩
theorem lw_p22 : lw_okq (⟨"StickerPressModel", "areSigns", "(I)Z"⟩, 46) := ⟨⟨by decide +kernel, by decide +kernel⟩, List.mem_of_getElem? (i := 662) (by decide +kernel), List.mem_of_getElem? (i := 829) (by decide +kernel), List.mem_of_getElem? (i := 830) (by decide +kernel)⟩
theorem lw_p23 : lw_okq (⟨"StickerPressModel", "becomes", "(II)Z"⟩, 46) := ⟨⟨by decide +kernel, by decide +kernel⟩, List.mem_of_getElem? (i := 662) (by decide +kernel), List.mem_of_getElem? (i := 837) (by decide +kernel), List.mem_of_getElem? (i := 838) (by decide +kernel)⟩
theorem lw_p24 : lw_okq (⟨"StickerPressModel", "goes", "(I)Z"⟩, 46) := ⟨⟨by decide +kernel, by decide +kernel⟩, List.mem_of_getElem? (i := 662) (by decide +kernel), List.mem_of_getElem? (i := 841) (by decide +kernel), List.mem_of_getElem? (i := 842) (by decide +kernel)⟩
theorem lw_p25 : lw_okq (⟨"StickerPressModel", "stands", "(II)Z"⟩, 46) := ⟨⟨by decide +kernel, by decide +kernel⟩, List.mem_of_getElem? (i := 662) (by decide +kernel), List.mem_of_getElem? (i := 845) (by decide +kernel), List.mem_of_getElem? (i := 846) (by decide +kernel)⟩
theorem lw_p26 : lw_okq (⟨"StickerPressModel", "puts", "(I)Z"⟩, 46) := ⟨⟨by decide +kernel, by decide +kernel⟩, List.mem_of_getElem? (i := 662) (by decide +kernel), List.mem_of_getElem? (i := 849) (by decide +kernel), List.mem_of_getElem? (i := 850) (by decide +kernel)⟩
theorem lw_p27 : lw_okq (⟨"StickerPressModel", "wideOf", "()I"⟩, 46) := ⟨⟨by decide +kernel, by decide +kernel⟩, List.mem_of_getElem? (i := 662) (by decide +kernel), List.mem_of_getElem? (i := 853) (by decide +kernel), List.mem_of_getElem? (i := 854) (by decide +kernel)⟩
theorem lw_p28 : lw_okq (⟨"StickerPressModel", "check", "(I)I"⟩, 46) := ⟨⟨by decide +kernel, by decide +kernel⟩, List.mem_of_getElem? (i := 662) (by decide +kernel), List.mem_of_getElem? (i := 880) (by decide +kernel), List.mem_of_getElem? (i := 881) (by decide +kernel)⟩
theorem lw_p29 : lw_okq (⟨"StickerPressModel", "draws", "(Z)V"⟩, 46) := ⟨⟨by decide +kernel, by decide +kernel⟩, List.mem_of_getElem? (i := 662) (by decide +kernel), List.mem_of_getElem? (i := 884) (by decide +kernel), List.mem_of_getElem? (i := 885) (by decide +kernel)⟩
theorem lw_p30 : lw_okq (⟨"StickerPressModel", "reads", "(Z)Z"⟩, 46) := ⟨⟨by decide +kernel, by decide +kernel⟩, List.mem_of_getElem? (i := 662) (by decide +kernel), List.mem_of_getElem? (i := 895) (by decide +kernel), List.mem_of_getElem? (i := 896) (by decide +kernel)⟩
theorem lw_p31 : lw_okq (⟨"StickerPressModel", "isWide", "(IZI)Z"⟩, 46) := ⟨⟨by decide +kernel, by decide +kernel⟩, List.mem_of_getElem? (i := 662) (by decide +kernel), List.mem_of_getElem? (i := 899) (by decide +kernel), List.mem_of_getElem? (i := 900) (by decide +kernel)⟩
def lw_privs_2 : List (MethodName × Nat) := [(⟨"StickerPress$Best", "makeRoom", "(I)Z"⟩, 10), (⟨"StickerPress$Best", "layAll", "()V"⟩, 10), (⟨"StickerPress$Best", "layGroup", "(I)V"⟩, 10), (⟨"StickerPress$Labels", "isLabel", "(I)Z"⟩, 5), (⟨"StickerPress$Best", "layLabel", "(II)V"⟩, 10), (⟨"StickerPress", "printCell", "(I)Z"⟩, 7), (⟨"StickerPressModel", "areSigns", "(I)Z"⟩, 46), (⟨"StickerPressModel", "becomes", "(II)Z"⟩, 46), (⟨"StickerPressModel", "goes", "(I)Z"⟩, 46), (⟨"StickerPressModel", "stands", "(II)Z"⟩, 46), (⟨"StickerPressModel", "puts", "(I)Z"⟩, 46), (⟨"StickerPressModel", "wideOf", "()I"⟩, 46), (⟨"StickerPressModel", "check", "(I)I"⟩, 46), (⟨"StickerPressModel", "draws", "(Z)V"⟩, 46), (⟨"StickerPressModel", "reads", "(Z)Z"⟩, 46), (⟨"StickerPressModel", "isWide", "(IZI)Z"⟩, 46)]
theorem lw_r2 : ∀ q ∈ lw_privs_2, lw_okq q := List.forall_mem_cons.mpr ⟨lw_p16, List.forall_mem_cons.mpr ⟨lw_p17, List.forall_mem_cons.mpr ⟨lw_p18, List.forall_mem_cons.mpr ⟨lw_p19, List.forall_mem_cons.mpr ⟨lw_p20, List.forall_mem_cons.mpr ⟨lw_p21, List.forall_mem_cons.mpr ⟨lw_p22, List.forall_mem_cons.mpr ⟨lw_p23, List.forall_mem_cons.mpr ⟨lw_p24, List.forall_mem_cons.mpr ⟨lw_p25, List.forall_mem_cons.mpr ⟨lw_p26, List.forall_mem_cons.mpr ⟨lw_p27, List.forall_mem_cons.mpr ⟨lw_p28, List.forall_mem_cons.mpr ⟨lw_p29, List.forall_mem_cons.mpr ⟨lw_p30, List.forall_mem_cons.mpr ⟨lw_p31, fun _ h => absurd h List.not_mem_nil⟩⟩⟩⟩⟩⟩⟩⟩⟩⟩⟩⟩⟩⟩⟩⟩
theorem lw_p32 : lw_okq (⟨"StickerPressModel", "bad", "(II)Z"⟩, 46) := ⟨⟨by decide +kernel, by decide +kernel⟩, List.mem_of_getElem? (i := 662) (by decide +kernel), List.mem_of_getElem? (i := 903) (by decide +kernel), List.mem_of_getElem? (i := 904) (by decide +kernel)⟩
theorem lw_p33 : lw_okq (⟨"StickerPressModel", "waiting", "(I)I"⟩, 46) := ⟨⟨by decide +kernel, by decide +kernel⟩, List.mem_of_getElem? (i := 662) (by decide +kernel), List.mem_of_getElem? (i := 922) (by decide +kernel), List.mem_of_getElem? (i := 923) (by decide +kernel)⟩
theorem lw_p34 : lw_okq (⟨"StickerPressModel", "freeOn", "(I)I"⟩, 46) := ⟨⟨by decide +kernel, by decide +kernel⟩, List.mem_of_getElem? (i := 662) (by decide +kernel), List.mem_of_getElem? (i := 930) (by decide +kernel), List.mem_of_getElem? (i := 931) (by decide +kernel)⟩
theorem lw_p35 : lw_okq (⟨"StickerPressModel", "lays", "()Z"⟩, 46) := ⟨⟨by decide +kernel, by decide +kernel⟩, List.mem_of_getElem? (i := 662) (by decide +kernel), List.mem_of_getElem? (i := 934) (by decide +kernel), List.mem_of_getElem? (i := 935) (by decide +kernel)⟩
theorem lw_p36 : lw_okq (⟨"StickerPressModel", "groups", "(I)Z"⟩, 46) := ⟨⟨by decide +kernel, by decide +kernel⟩, List.mem_of_getElem? (i := 662) (by decide +kernel), List.mem_of_getElem? (i := 938) (by decide +kernel), List.mem_of_getElem? (i := 939) (by decide +kernel)⟩
theorem lw_p37 : lw_okq (⟨"StickerPressModel", "sheets", "(I)Z"⟩, 46) := ⟨⟨by decide +kernel, by decide +kernel⟩, List.mem_of_getElem? (i := 662) (by decide +kernel), List.mem_of_getElem? (i := 942) (by decide +kernel), List.mem_of_getElem? (i := 943) (by decide +kernel)⟩
theorem lw_p38 : lw_okq (⟨"StickerPressModel", "heaps", "()I"⟩, 46) := ⟨⟨by decide +kernel, by decide +kernel⟩, List.mem_of_getElem? (i := 662) (by decide +kernel), List.mem_of_getElem? (i := 946) (by decide +kernel), List.mem_of_getElem? (i := 947) (by decide +kernel)⟩
theorem lw_p39 : lw_okq (⟨"StickerPressModel", "plans", "()V"⟩, 46) := ⟨⟨by decide +kernel, by decide +kernel⟩, List.mem_of_getElem? (i := 662) (by decide +kernel), List.mem_of_getElem? (i := 961) (by decide +kernel), List.mem_of_getElem? (i := 962) (by decide +kernel)⟩
def lw_privs_3 : List (MethodName × Nat) := [(⟨"StickerPressModel", "bad", "(II)Z"⟩, 46), (⟨"StickerPressModel", "waiting", "(I)I"⟩, 46), (⟨"StickerPressModel", "freeOn", "(I)I"⟩, 46), (⟨"StickerPressModel", "lays", "()Z"⟩, 46), (⟨"StickerPressModel", "groups", "(I)Z"⟩, 46), (⟨"StickerPressModel", "sheets", "(I)Z"⟩, 46), (⟨"StickerPressModel", "heaps", "()I"⟩, 46), (⟨"StickerPressModel", "plans", "()V"⟩, 46)]
theorem lw_r3 : ∀ q ∈ lw_privs_3, lw_okq q := List.forall_mem_cons.mpr ⟨lw_p32, List.forall_mem_cons.mpr ⟨lw_p33, List.forall_mem_cons.mpr ⟨lw_p34, List.forall_mem_cons.mpr ⟨lw_p35, List.forall_mem_cons.mpr ⟨lw_p36, List.forall_mem_cons.mpr ⟨lw_p37, List.forall_mem_cons.mpr ⟨lw_p38, List.forall_mem_cons.mpr ⟨lw_p39, fun _ h => absurd h List.not_mem_nil⟩⟩⟩⟩⟩⟩⟩⟩
def lw_privs : List (MethodName × Nat) := lw_privs_1 ++ (lw_privs_2 ++ (lw_privs_3))
def lw_tbl : List Cond := k2_sels lw_privs ++ tables_1
theorem lw_privs_ok : ∀ q ∈ lw_privs, lw_okq q := by
  show ∀ q ∈ lw_privs_1 ++ (lw_privs_2 ++ (lw_privs_3)), lw_okq q
  exact List.forall_mem_append.mpr ⟨lw_r1, List.forall_mem_append.mpr ⟨lw_r2, lw_r3⟩⟩
-- ===== names of the classes, fields and methods =====
def RX0 : String := "StickerPress$Best"
def TX0 : u_T := fun k => match k with
  | 0 => ("StickerPress$Best", "labels", "LStickerPress$Labels;", true)
  | 1 => ("StickerPress$Best", "sheets", "LStickerPress$Sheets;", true)
  | 2 => ("StickerPress$Best", "counts", "[I", true)
  | 3 => ("StickerPress$Best", "room", "[I", true)
  | 4 => ("StickerPress$Best", "starts", "[I", true)
  | 5 => ("StickerPress$Best", "planned", "[I", true)
  | 6 => ("StickerPress$Best", "fresh", "Z", false)
  | 7 => ("StickerPress$Best", "rank", "I", false)
  | 8 => ("StickerPress$Best", "groupCode", "I", false)
  | _ => ("StickerPress$Best", "sheetCode", "I", false)
def tyX0 : Nat → FieldType := fun k => match k with
  | 0 => .object "StickerPress$Labels"
  | 1 => .object "StickerPress$Sheets"
  | 2 => .array .int
  | 3 => .array .int
  | 4 => .array .int
  | 5 => .array .int
  | 6 => .boolean
  | 7 => .int
  | 8 => .int
  | _ => .int
abbrev wsX00 : List Cond := u_ws RX0 TX0 10
theorem nmX0 : ∀ a, a < 10 → ∀ b, b < 10 → a ≠ b → (TX0 a).2.1 ≠ (TX0 b).2.1 := by decide +kernel
theorem tyX0_ok : ∀ k, k < 10 → parseFieldDescriptor (TX0 k).2.2.1 = some (tyX0 k) := by decide +kernel
abbrev cX0_init : ByteArray := prog_2_method_1_code
def yX0_init : MethodName := ⟨RX0, "<init>", "(LStickerPress$Labels;LStickerPress$Sheets;)V"⟩
abbrev cX0_forget : ByteArray := prog_2_method_2_code
def yX0_forget : MethodName := ⟨RX0, "forget", "()V"⟩
abbrev cX0_refresh : ByteArray := prog_2_method_3_code
def yX0_refresh : MethodName := ⟨RX0, "refresh", "()V"⟩
abbrev cX0_exists : ByteArray := prog_2_method_4_code
def yX0_exists : MethodName := ⟨RX0, "exists", "()Z"⟩
abbrev cX0_pieces : ByteArray := prog_2_method_5_code
def yX0_pieces : MethodName := ⟨RX0, "pieces", "()I"⟩
abbrev cX0_sheetsInHeaps : ByteArray := prog_2_method_6_code
def yX0_sheetsInHeaps : MethodName := ⟨RX0, "sheetsInHeaps", "()I"⟩
abbrev cX0_heapOfGroup : ByteArray := prog_2_method_7_code
def yX0_heapOfGroup : MethodName := ⟨RX0, "heapOfGroup", "(I)I"⟩
abbrev cX0_heapOfSheet : ByteArray := prog_2_method_8_code
def yX0_heapOfSheet : MethodName := ⟨RX0, "heapOfSheet", "(I)I"⟩
abbrev cX0_labelFor : ByteArray := prog_2_method_9_code
def yX0_labelFor : MethodName := ⟨RX0, "labelFor", "(I)I"⟩
abbrev cX0_seek : ByteArray := prog_2_method_10_code
def yX0_seek : MethodName := ⟨RX0, "seek", "()V"⟩
abbrev cX0_trySheets : ByteArray := prog_2_method_11_code
def yX0_trySheets : MethodName := ⟨RX0, "trySheets", "(I)V"⟩
abbrev cX0_makeRoom : ByteArray := prog_2_method_12_code
def yX0_makeRoom : MethodName := ⟨RX0, "makeRoom", "(I)Z"⟩
abbrev cX0_layAll : ByteArray := prog_2_method_13_code
def yX0_layAll : MethodName := ⟨RX0, "layAll", "()V"⟩
abbrev cX0_layGroup : ByteArray := prog_2_method_14_code
def yX0_layGroup : MethodName := ⟨RX0, "layGroup", "(I)V"⟩
abbrev cX0_layLabel : ByteArray := prog_2_method_15_code
def yX0_layLabel : MethodName := ⟨RX0, "layLabel", "(II)V"⟩
abbrev cX0_rankOf : ByteArray := prog_2_method_16_code
def yX0_rankOf : MethodName := ⟨RX0, "rankOf", "(I)I"⟩
abbrev cX0_leastHeaps : ByteArray := prog_2_method_17_code
def yX0_leastHeaps : MethodName := ⟨RX0, "leastHeaps", "([I[III)I"⟩
abbrev cX0_groupHeap : ByteArray := prog_2_method_18_code
def yX0_groupHeap : MethodName := ⟨RX0, "groupHeap", "(II)I"⟩
abbrev cX0_groupShift : ByteArray := prog_2_method_19_code
def yX0_groupShift : MethodName := ⟨RX0, "groupShift", "(I)I"⟩
abbrev cX0_sheetHeap : ByteArray := prog_2_method_20_code
def yX0_sheetHeap : MethodName := ⟨RX0, "sheetHeap", "(II)I"⟩
def RX1 : String := "StickerPress$Labels"
def TX1 : u_T := fun k => match k with
  | 0 => ("StickerPress$Labels", "groups", "[I", true)
  | 1 => ("StickerPress$Labels", "times", "[I", true)
  | 2 => ("StickerPress$Labels", "waits", "[Z", true)
  | 3 => ("StickerPress$Labels", "waiting", "[I", true)
  | _ => ("StickerPress$Labels", "count", "I", false)
def tyX1 : Nat → FieldType := fun k => match k with
  | 0 => .array .int
  | 1 => .array .int
  | 2 => .array .boolean
  | 3 => .array .int
  | _ => .int
abbrev wsX10 : List Cond := u_ws RX1 TX1 5
theorem nmX1 : ∀ a, a < 5 → ∀ b, b < 5 → a ≠ b → (TX1 a).2.1 ≠ (TX1 b).2.1 := by decide +kernel
theorem tyX1_ok : ∀ k, k < 5 → parseFieldDescriptor (TX1 k).2.2.1 = some (tyX1 k) := by decide +kernel
abbrev cX1_init : ByteArray := prog_3_method_1_code
def yX1_init : MethodName := ⟨RX1, "<init>", "()V"⟩
abbrev cX1_count : ByteArray := prog_3_method_2_code
def yX1_count : MethodName := ⟨RX1, "count", "()I"⟩
abbrev cX1_waitingIn : ByteArray := prog_3_method_3_code
def yX1_waitingIn : MethodName := ⟨RX1, "waitingIn", "(I)I"⟩
abbrev cX1_allWaiting : ByteArray := prog_3_method_4_code
def yX1_allWaiting : MethodName := ⟨RX1, "allWaiting", "()I"⟩
abbrev cX1_addLabels : ByteArray := prog_3_method_5_code
def yX1_addLabels : MethodName := ⟨RX1, "addLabels", "(II)I"⟩
abbrev cX1_waitsIn : ByteArray := prog_3_method_6_code
def yX1_waitsIn : MethodName := ⟨RX1, "waitsIn", "(II)Z"⟩
abbrev cX1_markPrinted : ByteArray := prog_3_method_7_code
def yX1_markPrinted : MethodName := ⟨RX1, "markPrinted", "(I)V"⟩
abbrev cX1_waitAnew : ByteArray := prog_3_method_8_code
def yX1_waitAnew : MethodName := ⟨RX1, "waitAnew", "(I)Z"⟩
abbrev cX1_tell : ByteArray := prog_3_method_9_code
def yX1_tell : MethodName := ⟨RX1, "tell", "(II)I"⟩
abbrev cX1_isLabel : ByteArray := prog_3_method_10_code
def yX1_isLabel : MethodName := ⟨RX1, "isLabel", "(I)Z"⟩
def RX2 : String := "StickerPress$Names"
def TX2 : u_T := fun k => match k with
  | 0 => ("StickerPress$Names", "widths", "[I", true)
  | 1 => ("StickerPress$Names", "from", "[LStickerPress$Row;", true)
  | 2 => ("StickerPress$Names", "to", "[LStickerPress$Row;", true)
  | 3 => ("StickerPress$Names", "text", "LStickerPress$Row;", true)
  | 4 => ("StickerPress$Names", "next", "LStickerPress$Row;", true)
  | 5 => ("StickerPress$Names", "told", "I", false)
  | _ => ("StickerPress$Names", "latest", "I", false)
def tyX2 : Nat → FieldType := fun k => match k with
  | 0 => .array .int
  | 1 => .array (.object "StickerPress$Row")
  | 2 => .array (.object "StickerPress$Row")
  | 3 => .object "StickerPress$Row"
  | 4 => .object "StickerPress$Row"
  | 5 => .int
  | _ => .int
abbrev wsX20 : List Cond := u_ws RX2 TX2 7
theorem nmX2 : ∀ a, a < 7 → ∀ b, b < 7 → a ≠ b → (TX2 a).2.1 ≠ (TX2 b).2.1 := by decide +kernel
theorem tyX2_ok : ∀ k, k < 7 → parseFieldDescriptor (TX2 k).2.2.1 = some (tyX2 k) := by decide +kernel
abbrev cX2_init : ByteArray := prog_4_method_1_code
def yX2_init : MethodName := ⟨RX2, "<init>", "()V"⟩
abbrev cX2_setWidth : ByteArray := prog_4_method_2_code
def yX2_setWidth : MethodName := ⟨RX2, "setWidth", "(II)Z"⟩
abbrev cX2_setShortening : ByteArray := prog_4_method_3_code
def yX2_setShortening : MethodName := ⟨RX2, "setShortening", "(ILStickerPress$Row;I)Z"⟩
abbrev cX2_latestSet : ByteArray := prog_4_method_4_code
def yX2_latestSet : MethodName := ⟨RX2, "latestSet", "()I"⟩
abbrev cX2_fitText : ByteArray := prog_4_method_5_code
def yX2_fitText : MethodName := ⟨RX2, "fitText", "(LStickerPress$Row;ILStickerPress$Row;)I"⟩
abbrev cX2_bestSet : ByteArray := prog_4_method_6_code
def yX2_bestSet : MethodName := ⟨RX2, "bestSet", "(LStickerPress$Row;I)I"⟩
abbrev cX2_applySet : ByteArray := prog_4_method_7_code
def yX2_applySet : MethodName := ⟨RX2, "applySet", "(LStickerPress$Row;I)Z"⟩
abbrev cX2_applyOne : ByteArray := prog_4_method_8_code
def yX2_applyOne : MethodName := ⟨RX2, "applyOne", "(LStickerPress$Row;LStickerPress$Row;)Z"⟩
abbrev cX2_textWidth : ByteArray := prog_4_method_9_code
def yX2_textWidth : MethodName := ⟨RX2, "textWidth", "()I"⟩
abbrev cX2_areShortening : ByteArray := prog_4_method_10_code
def yX2_areShortening : MethodName := ⟨RX2, "areShortening", "(LStickerPress$Row;I)Z"⟩
abbrev cX2_areSigns : ByteArray := prog_4_method_11_code
def yX2_areSigns : MethodName := ⟨RX2, "areSigns", "(LStickerPress$Row;)Z"⟩
def RX3 : String := "StickerPress$Reading"
def TX3 : u_T := fun k => match k with
  | 0 => ("StickerPress$Reading", "wides", "LStickerPress$Row;", true)
  | 1 => ("StickerPress$Reading", "backward", "Z", true)
  | 2 => ("StickerPress$Reading", "digits", "LStickerPress$Row;", true)
  | 3 => ("StickerPress$Reading", "fault", "I", false)
  | _ => ("StickerPress$Reading", "place", "I", false)
def tyX3 : Nat → FieldType := fun k => match k with
  | 0 => .object "StickerPress$Row"
  | 1 => .boolean
  | 2 => .object "StickerPress$Row"
  | 3 => .int
  | _ => .int
abbrev wsX30 : List Cond := u_ws RX3 TX3 5
theorem nmX3 : ∀ a, a < 5 → ∀ b, b < 5 → a ≠ b → (TX3 a).2.1 ≠ (TX3 b).2.1 := by decide +kernel
theorem tyX3_ok : ∀ k, k < 5 → parseFieldDescriptor (TX3 k).2.2.1 = some (tyX3 k) := by decide +kernel
abbrev cX3_init : ByteArray := prog_5_method_1_code
def yX3_init : MethodName := ⟨RX3, "<init>", "(LStickerPress$Row;Z)V"⟩
abbrev cX3_decode : ByteArray := prog_5_method_2_code
def yX3_decode : MethodName := ⟨RX3, "decode", "()Z"⟩
abbrev cX3_refuse : ByteArray := prog_5_method_3_code
def yX3_refuse : MethodName := ⟨RX3, "refuse", "(II)Z"⟩
abbrev cX3_stripe : ByteArray := prog_5_method_4_code
def yX3_stripe : MethodName := ⟨RX3, "stripe", "(I)I"⟩
abbrev cX3_endsStand : ByteArray := prog_5_method_5_code
def yX3_endsStand : MethodName := ⟨RX3, "endsStand", "()Z"⟩
abbrev cX3_addDigit : ByteArray := prog_5_method_6_code
def yX3_addDigit : MethodName := ⟨RX3, "addDigit", "(I)Z"⟩
def RX4 : String := "StickerPress$Row"
def TX4 : u_T := fun k => match k with
  | 0 => ("StickerPress$Row", "items", "[I", true)
  | _ => ("StickerPress$Row", "size", "I", false)
def tyX4 : Nat → FieldType := fun k => match k with
  | 0 => .array .int
  | _ => .int
abbrev wsX40 : List Cond := u_ws RX4 TX4 2
theorem nmX4 : ∀ a, a < 2 → ∀ b, b < 2 → a ≠ b → (TX4 a).2.1 ≠ (TX4 b).2.1 := by decide +kernel
theorem tyX4_ok : ∀ k, k < 2 → parseFieldDescriptor (TX4 k).2.2.1 = some (tyX4 k) := by decide +kernel
abbrev cX4_init : ByteArray := prog_6_method_1_code
def yX4_init : MethodName := ⟨RX4, "<init>", "(I)V"⟩
abbrev cX4_size : ByteArray := prog_6_method_2_code
def yX4_size : MethodName := ⟨RX4, "size", "()I"⟩
abbrev cX4_at : ByteArray := prog_6_method_3_code
def yX4_at : MethodName := ⟨RX4, "at", "(I)I"⟩
abbrev cX4_clear : ByteArray := prog_6_method_4_code
def yX4_clear : MethodName := ⟨RX4, "clear", "()V"⟩
abbrev cX4_add : ByteArray := prog_6_method_5_code
def yX4_add : MethodName := ⟨RX4, "add", "(I)Z"⟩
abbrev cX4_addPart : ByteArray := prog_6_method_6_code
def yX4_addPart : MethodName := ⟨RX4, "addPart", "(LStickerPress$Row;II)Z"⟩
abbrev cX4_copyFrom : ByteArray := prog_6_method_7_code
def yX4_copyFrom : MethodName := ⟨RX4, "copyFrom", "(LStickerPress$Row;)V"⟩
abbrev cX4_cut : ByteArray := prog_6_method_8_code
def yX4_cut : MethodName := ⟨RX4, "cut", "(I)Z"⟩
abbrev cX4_standsAt : ByteArray := prog_6_method_9_code
def yX4_standsAt : MethodName := ⟨RX4, "standsAt", "(ILStickerPress$Row;)Z"⟩
abbrev cX4_allWithin : ByteArray := prog_6_method_10_code
def yX4_allWithin : MethodName := ⟨RX4, "allWithin", "(II)Z"⟩
def RX5 : String := "StickerPress$Sheets"
def TX5 : u_T := fun k => match k with
  | 0 => ("StickerPress$Sheets", "free", "[J", true)
  | 1 => ("StickerPress$Sheets", "numbers", "[I", true)
  | _ => ("StickerPress$Sheets", "spoiled", "[Z", true)
def tyX5 : Nat → FieldType := fun k => match k with
  | 0 => .array .long
  | 1 => .array .int
  | _ => .array .boolean
abbrev wsX50 : List Cond := u_ws RX5 TX5 3
theorem nmX5 : ∀ a, a < 3 → ∀ b, b < 3 → a ≠ b → (TX5 a).2.1 ≠ (TX5 b).2.1 := by decide +kernel
theorem tyX5_ok : ∀ k, k < 3 → parseFieldDescriptor (TX5 k).2.2.1 = some (tyX5 k) := by decide +kernel
abbrev cX5_init : ByteArray := prog_7_method_1_code
def yX5_init : MethodName := ⟨RX5, "<init>", "()V"⟩
abbrev cX5_replace : ByteArray := prog_7_method_2_code
def yX5_replace : MethodName := ⟨RX5, "replace", "(IJ)Z"⟩
abbrev cX5_freeIn : ByteArray := prog_7_method_3_code
def yX5_freeIn : MethodName := ⟨RX5, "freeIn", "(I)I"⟩
abbrev cX5_allFree : ByteArray := prog_7_method_4_code
def yX5_allFree : MethodName := ⟨RX5, "allFree", "()I"⟩
abbrev cX5_isFree : ByteArray := prog_7_method_5_code
def yX5_isFree : MethodName := ⟨RX5, "isFree", "(I)Z"⟩
abbrev cX5_put : ByteArray := prog_7_method_6_code
def yX5_put : MethodName := ⟨RX5, "put", "(II)V"⟩
abbrev cX5_labelIn : ByteArray := prog_7_method_7_code
def yX5_labelIn : MethodName := ⟨RX5, "labelIn", "(I)I"⟩
abbrev cX5_isGood : ByteArray := prog_7_method_8_code
def yX5_isGood : MethodName := ⟨RX5, "isGood", "(I)Z"⟩
abbrev cX5_markSpoiled : ByteArray := prog_7_method_9_code
def yX5_markSpoiled : MethodName := ⟨RX5, "markSpoiled", "(I)V"⟩
def RX6 : String := "StickerPress$Stripes"
def TX6 : u_T := fun k => match k with
  | 0 => ("StickerPress$Stripes", "digits", "LStickerPress$Row;", true)
  | 1 => ("StickerPress$Stripes", "wides", "LStickerPress$Row;", true)
  | 2 => ("StickerPress$Stripes", "ahead", "LStickerPress$Reading;", true)
  | 3 => ("StickerPress$Stripes", "behind", "LStickerPress$Reading;", true)
  | 4 => ("StickerPress$Stripes", "wideStripe", "I", false)
  | 5 => ("StickerPress$Stripes", "fault", "I", false)
  | 6 => ("StickerPress$Stripes", "place", "I", false)
  | _ => ("StickerPress$Stripes", "fromBehind", "Z", false)
def tyX6 : Nat → FieldType := fun k => match k with
  | 0 => .object "StickerPress$Row"
  | 1 => .object "StickerPress$Row"
  | 2 => .object "StickerPress$Reading"
  | 3 => .object "StickerPress$Reading"
  | 4 => .int
  | 5 => .int
  | 6 => .int
  | _ => .boolean
abbrev wsX60 : List Cond := u_ws RX6 TX6 8
theorem nmX6 : ∀ a, a < 8 → ∀ b, b < 8 → a ≠ b → (TX6 a).2.1 ≠ (TX6 b).2.1 := by decide +kernel
theorem tyX6_ok : ∀ k, k < 8 → parseFieldDescriptor (TX6 k).2.2.1 = some (tyX6 k) := by decide +kernel
abbrev cX6_init : ByteArray := prog_8_method_1_code
def yX6_init : MethodName := ⟨RX6, "<init>", "()V"⟩
abbrev cX6_setRatio : ByteArray := prog_8_method_2_code
def yX6_setRatio : MethodName := ⟨RX6, "setRatio", "(I)Z"⟩
abbrev cX6_drawBars : ByteArray := prog_8_method_3_code
def yX6_drawBars : MethodName := ⟨RX6, "drawBars", "(LStickerPress$Row;LStickerPress$Row;)I"⟩
abbrev cX6_readBars : ByteArray := prog_8_method_4_code
def yX6_readBars : MethodName := ⟨RX6, "readBars", "(LStickerPress$Row;LStickerPress$Row;)I"⟩
abbrev cX6_latestFault : ByteArray := prog_8_method_5_code
def yX6_latestFault : MethodName := ⟨RX6, "latestFault", "(I)I"⟩
abbrev cX6_takeDigits : ByteArray := prog_8_method_6_code
def yX6_takeDigits : MethodName := ⟨RX6, "takeDigits", "(LStickerPress$Row;)V"⟩
abbrev cX6_drawPair : ByteArray := prog_8_method_7_code
def yX6_drawPair : MethodName := ⟨RX6, "drawPair", "(IILStickerPress$Row;)V"⟩
abbrev cX6_findWides : ByteArray := prog_8_method_8_code
def yX6_findWides : MethodName := ⟨RX6, "findWides", "(LStickerPress$Row;)V"⟩
abbrev cX6_keepDigits : ByteArray := prog_8_method_9_code
def yX6_keepDigits : MethodName := ⟨RX6, "keepDigits", "(LStickerPress$Reading;ZLStickerPress$Row;)I"⟩
abbrev cX6_keepFault : ByteArray := prog_8_method_10_code
def yX6_keepFault : MethodName := ⟨RX6, "keepFault", "(II)V"⟩
abbrev cX6_canBeBars : ByteArray := prog_8_method_11_code
def yX6_canBeBars : MethodName := ⟨RX6, "canBeBars", "(LStickerPress$Row;)Z"⟩
abbrev cX6_codeOf : ByteArray := prog_8_method_12_code
def yX6_codeOf : MethodName := ⟨RX6, "codeOf", "(I)I"⟩
abbrev cX6_checkOf : ByteArray := prog_8_method_13_code
def yX6_checkOf : MethodName := ⟨RX6, "checkOf", "(LStickerPress$Row;I)I"⟩
def RX7 : String := "StickerPress"
def TX7 : u_T := fun k => match k with
  | 0 => ("StickerPress", "tape", "LStickerPress$Row;", true)
  | 1 => ("StickerPress", "shown", "LStickerPress$Row;", true)
  | 2 => ("StickerPress", "names", "LStickerPress$Names;", true)
  | 3 => ("StickerPress", "stripes", "LStickerPress$Stripes;", true)
  | 4 => ("StickerPress", "labels", "LStickerPress$Labels;", true)
  | 5 => ("StickerPress", "sheets", "LStickerPress$Sheets;", true)
  | _ => ("StickerPress", "best", "LStickerPress$Best;", true)
def tyX7 : Nat → FieldType := fun k => match k with
  | 0 => .object "StickerPress$Row"
  | 1 => .object "StickerPress$Row"
  | 2 => .object "StickerPress$Names"
  | 3 => .object "StickerPress$Stripes"
  | 4 => .object "StickerPress$Labels"
  | 5 => .object "StickerPress$Sheets"
  | _ => .object "StickerPress$Best"
abbrev wsX70 : List Cond := u_ws RX7 TX7 7
theorem nmX7 : ∀ a, a < 7 → ∀ b, b < 7 → a ≠ b → (TX7 a).2.1 ≠ (TX7 b).2.1 := by decide +kernel
theorem tyX7_ok : ∀ k, k < 7 → parseFieldDescriptor (TX7 k).2.2.1 = some (tyX7 k) := by decide +kernel
abbrev cX7_init : ByteArray := prog_1_method_1_code
def yX7_init : MethodName := ⟨RX7, "<init>", "()V"⟩
abbrev cX7_wide : ByteArray := prog_1_method_2_code
def yX7_wide : MethodName := ⟨RX7, "wide", "(II)Z"⟩
abbrev cX7_feed : ByteArray := prog_1_method_3_code
def yX7_feed : MethodName := ⟨RX7, "feed", "(IIIII)I"⟩
abbrev cX7_end : ByteArray := prog_1_method_4_code
def yX7_end : MethodName := ⟨RX7, "end", "(I)Z"⟩
abbrev cX7_shorten : ByteArray := prog_1_method_5_code
def yX7_shorten : MethodName := ⟨RX7, "shorten", "(II)Z"⟩
abbrev cX7_fit : ByteArray := prog_1_method_6_code
def yX7_fit : MethodName := ⟨RX7, "fit", "(I)I"⟩
abbrev cX7_used : ByteArray := prog_1_method_7_code
def yX7_used : MethodName := ⟨RX7, "used", "()I"⟩
abbrev cX7_out : ByteArray := prog_1_method_8_code
def yX7_out : MethodName := ⟨RX7, "out", "(I)I"⟩
abbrev cX7_ratio : ByteArray := prog_1_method_9_code
def yX7_ratio : MethodName := ⟨RX7, "ratio", "(I)Z"⟩
abbrev cX7_bars : ByteArray := prog_1_method_10_code
def yX7_bars : MethodName := ⟨RX7, "bars", "()I"⟩
abbrev cX7_read : ByteArray := prog_1_method_11_code
def yX7_read : MethodName := ⟨RX7, "read", "()I"⟩
abbrev cX7_fault : ByteArray := prog_1_method_12_code
def yX7_fault : MethodName := ⟨RX7, "fault", "(I)I"⟩
abbrev cX7_take : ByteArray := prog_1_method_13_code
def yX7_take : MethodName := ⟨RX7, "take", "()I"⟩
abbrev cX7_sheet : ByteArray := prog_1_method_14_code
def yX7_sheet : MethodName := ⟨RX7, "sheet", "(IJ)Z"⟩
abbrev cX7_come : ByteArray := prog_1_method_15_code
def yX7_come : MethodName := ⟨RX7, "come", "(II)I"⟩
abbrev cX7_look : ByteArray := prog_1_method_16_code
def yX7_look : MethodName := ⟨RX7, "look", "(I)I"⟩
abbrev cX7_heap : ByteArray := prog_1_method_17_code
def yX7_heap : MethodName := ⟨RX7, "heap", "(II)I"⟩
abbrev cX7_plan : ByteArray := prog_1_method_18_code
def yX7_plan : MethodName := ⟨RX7, "plan", "(II)I"⟩
abbrev cX7_print : ByteArray := prog_1_method_19_code
def yX7_print : MethodName := ⟨RX7, "print", "(I)I"⟩
abbrev cX7_printed : ByteArray := prog_1_method_20_code
def yX7_printed : MethodName := ⟨RX7, "printed", "(II)I"⟩
abbrev cX7_spoil : ByteArray := prog_1_method_21_code
def yX7_spoil : MethodName := ⟨RX7, "spoil", "(II)I"⟩
abbrev cX7_label : ByteArray := prog_1_method_22_code
def yX7_label : MethodName := ⟨RX7, "label", "(II)I"⟩
abbrev cX7_feedBytes : ByteArray := prog_1_method_23_code
def yX7_feedBytes : MethodName := ⟨RX7, "feedBytes", "(I)V"⟩
abbrev cX7_printCell : ByteArray := prog_1_method_24_code
def yX7_printCell : MethodName := ⟨RX7, "printCell", "(I)Z"⟩
abbrev cX7_isSheet : ByteArray := prog_1_method_25_code
def yX7_isSheet : MethodName := ⟨RX7, "isSheet", "(I)Z"⟩
abbrev cX7_isGroup : ByteArray := prog_1_method_26_code
def yX7_isGroup : MethodName := ⟨RX7, "isGroup", "(I)Z"⟩
abbrev cX7_isPlace : ByteArray := prog_1_method_27_code
def yX7_isPlace : MethodName := ⟨RX7, "isPlace", "(I)Z"⟩
abbrev cX7_placeOf : ByteArray := prog_1_method_28_code
def yX7_placeOf : MethodName := ⟨RX7, "placeOf", "(II)I"⟩
def RX8 : String := "StickerPressModel"
def TX8 : u_T := fun k => match k with
  | 0 => ("StickerPressModel", "width", "[I", true)
  | 1 => ("StickerPressModel", "tape", "[I", true)
  | 2 => ("StickerPressModel", "out", "[I", true)
  | 3 => ("StickerPressModel", "taped", "I", false)
  | 4 => ("StickerPressModel", "outs", "I", false)
  | 5 => ("StickerPressModel", "fromLong", "[I", true)
  | 6 => ("StickerPressModel", "toLong", "[I", true)
  | 7 => ("StickerPressModel", "from", "[I", true)
  | 8 => ("StickerPressModel", "to", "[I", true)
  | 9 => ("StickerPressModel", "text", "[I", true)
  | 10 => ("StickerPressModel", "made", "[I", true)
  | 11 => ("StickerPressModel", "best", "[I", true)
  | 12 => ("StickerPressModel", "textLong", "I", false)
  | 13 => ("StickerPressModel", "madeLong", "I", false)
  | 14 => ("StickerPressModel", "bestLong", "I", false)
  | 15 => ("StickerPressModel", "bestSet", "I", false)
  | 16 => ("StickerPressModel", "bestWide", "I", false)
  | 17 => ("StickerPressModel", "used", "I", false)
  | 18 => ("StickerPressModel", "ratio", "I", false)
  | 19 => ("StickerPressModel", "digit", "[I", true)
  | 20 => ("StickerPressModel", "stripe", "[I", true)
  | 21 => ("StickerPressModel", "digits", "I", false)
  | 22 => ("StickerPressModel", "stripes", "I", false)
  | 23 => ("StickerPressModel", "faultKind", "I", false)
  | 24 => ("StickerPressModel", "behind", "I", false)
  | 25 => ("StickerPressModel", "faultPlace", "I", false)
  | 26 => ("StickerPressModel", "wrong", "I", false)
  | 27 => ("StickerPressModel", "wrongAt", "I", false)
  | 28 => ("StickerPressModel", "free", "[J", true)
  | 29 => ("StickerPressModel", "cell", "[I", true)
  | 30 => ("StickerPressModel", "spoiled", "[Z", true)
  | 31 => ("StickerPressModel", "labels", "I", false)
  | 32 => ("StickerPressModel", "groupOf", "[I", true)
  | 33 => ("StickerPressModel", "printedOften", "[I", true)
  | 34 => ("StickerPressModel", "waits", "[Z", true)
  | 35 => ("StickerPressModel", "heapOf", "[I", true)
  | 36 => ("StickerPressModel", "sheetHeap", "[I", true)
  | 37 => ("StickerPressModel", "bestHeap", "[I", true)
  | 38 => ("StickerPressModel", "bestSheet", "[I", true)
  | 39 => ("StickerPressModel", "many", "[I", true)
  | 40 => ("StickerPressModel", "room", "[I", true)
  | 41 => ("StickerPressModel", "bestPieces", "I", false)
  | 42 => ("StickerPressModel", "bestSheets", "I", false)
  | 43 => ("StickerPressModel", "need", "[I", true)
  | 44 => ("StickerPressModel", "has", "[I", true)
  | _ => ("StickerPressModel", "spot", "[I", true)
def tyX8 : Nat → FieldType := fun k => match k with
  | 0 => .array .int
  | 1 => .array .int
  | 2 => .array .int
  | 3 => .int
  | 4 => .int
  | 5 => .array .int
  | 6 => .array .int
  | 7 => .array .int
  | 8 => .array .int
  | 9 => .array .int
  | 10 => .array .int
  | 11 => .array .int
  | 12 => .int
  | 13 => .int
  | 14 => .int
  | 15 => .int
  | 16 => .int
  | 17 => .int
  | 18 => .int
  | 19 => .array .int
  | 20 => .array .int
  | 21 => .int
  | 22 => .int
  | 23 => .int
  | 24 => .int
  | 25 => .int
  | 26 => .int
  | 27 => .int
  | 28 => .array .long
  | 29 => .array .int
  | 30 => .array .boolean
  | 31 => .int
  | 32 => .array .int
  | 33 => .array .int
  | 34 => .array .boolean
  | 35 => .array .int
  | 36 => .array .int
  | 37 => .array .int
  | 38 => .array .int
  | 39 => .array .int
  | 40 => .array .int
  | 41 => .int
  | 42 => .int
  | 43 => .array .int
  | 44 => .array .int
  | _ => .array .int
abbrev wsX80 : List Cond := u_ws RX8 TX8 46
theorem nmX8 : ∀ a, a < 46 → ∀ b, b < 46 → a ≠ b → (TX8 a).2.1 ≠ (TX8 b).2.1 := by decide +kernel
theorem tyX8_ok : ∀ k, k < 46 → parseFieldDescriptor (TX8 k).2.2.1 = some (tyX8 k) := by decide +kernel
abbrev cX8_init : ByteArray := prog_10_method_1_code
def yX8_init : MethodName := ⟨RX8, "<init>", "()V"⟩
abbrev cX8_isIn : ByteArray := prog_10_method_2_code
def yX8_isIn : MethodName := ⟨RX8, "isIn", "(III)Z"⟩
abbrev cX8_isSign : ByteArray := prog_10_method_3_code
def yX8_isSign : MethodName := ⟨RX8, "isSign", "(I)Z"⟩
abbrev cX8_wide : ByteArray := prog_10_method_4_code
def yX8_wide : MethodName := ⟨RX8, "wide", "(II)Z"⟩
abbrev cX8_feed : ByteArray := prog_10_method_5_code
def yX8_feed : MethodName := ⟨RX8, "feed", "(IIIII)I"⟩
abbrev cX8_end : ByteArray := prog_10_method_6_code
def yX8_end : MethodName := ⟨RX8, "end", "(I)Z"⟩
abbrev cX8_areSigns : ByteArray := prog_10_method_7_code
def yX8_areSigns : MethodName := ⟨RX8, "areSigns", "(I)Z"⟩
abbrev cX8_shorten : ByteArray := prog_10_method_8_code
def yX8_shorten : MethodName := ⟨RX8, "shorten", "(II)Z"⟩
abbrev cX8_puts : ByteArray := prog_10_method_9_code
def yX8_puts : MethodName := ⟨RX8, "puts", "(I)Z"⟩
abbrev cX8_stands : ByteArray := prog_10_method_10_code
def yX8_stands : MethodName := ⟨RX8, "stands", "(II)Z"⟩
abbrev cX8_goes : ByteArray := prog_10_method_11_code
def yX8_goes : MethodName := ⟨RX8, "goes", "(I)Z"⟩
abbrev cX8_bits : ByteArray := prog_10_method_12_code
def yX8_bits : MethodName := ⟨RX8, "bits", "(I)I"⟩
abbrev cX8_becomes : ByteArray := prog_10_method_13_code
def yX8_becomes : MethodName := ⟨RX8, "becomes", "(II)Z"⟩
abbrev cX8_wideOf : ByteArray := prog_10_method_14_code
def yX8_wideOf : MethodName := ⟨RX8, "wideOf", "()I"⟩
abbrev cX8_fit : ByteArray := prog_10_method_15_code
def yX8_fit : MethodName := ⟨RX8, "fit", "(I)I"⟩
abbrev cX8_used : ByteArray := prog_10_method_16_code
def yX8_used : MethodName := ⟨RX8, "used", "()I"⟩
abbrev cX8_out : ByteArray := prog_10_method_17_code
def yX8_out : MethodName := ⟨RX8, "out", "(I)I"⟩
abbrev cX8_take : ByteArray := prog_10_method_18_code
def yX8_take : MethodName := ⟨RX8, "take", "()I"⟩
abbrev cX8_ratio : ByteArray := prog_10_method_19_code
def yX8_ratio : MethodName := ⟨RX8, "ratio", "(I)Z"⟩
abbrev cX8_five : ByteArray := prog_10_method_20_code
def yX8_five : MethodName := ⟨RX8, "five", "(I)I"⟩
abbrev cX8_check : ByteArray := prog_10_method_21_code
def yX8_check : MethodName := ⟨RX8, "check", "(I)I"⟩
abbrev cX8_draws : ByteArray := prog_10_method_22_code
def yX8_draws : MethodName := ⟨RX8, "draws", "(Z)V"⟩
abbrev cX8_bars : ByteArray := prog_10_method_23_code
def yX8_bars : MethodName := ⟨RX8, "bars", "()I"⟩
abbrev cX8_isWide : ByteArray := prog_10_method_24_code
def yX8_isWide : MethodName := ⟨RX8, "isWide", "(IZI)Z"⟩
abbrev cX8_bad : ByteArray := prog_10_method_25_code
def yX8_bad : MethodName := ⟨RX8, "bad", "(II)Z"⟩
abbrev cX8_reads : ByteArray := prog_10_method_26_code
def yX8_reads : MethodName := ⟨RX8, "reads", "(Z)Z"⟩
abbrev cX8_read : ByteArray := prog_10_method_27_code
def yX8_read : MethodName := ⟨RX8, "read", "()I"⟩
abbrev cX8_fault : ByteArray := prog_10_method_28_code
def yX8_fault : MethodName := ⟨RX8, "fault", "(I)I"⟩
abbrev cX8_isSheet : ByteArray := prog_10_method_29_code
def yX8_isSheet : MethodName := ⟨RX8, "isSheet", "(I)Z"⟩
abbrev cX8_sheet : ByteArray := prog_10_method_30_code
def yX8_sheet : MethodName := ⟨RX8, "sheet", "(IJ)Z"⟩
abbrev cX8_waiting : ByteArray := prog_10_method_31_code
def yX8_waiting : MethodName := ⟨RX8, "waiting", "(I)I"⟩
abbrev cX8_come : ByteArray := prog_10_method_32_code
def yX8_come : MethodName := ⟨RX8, "come", "(II)I"⟩
abbrev cX8_freeOn : ByteArray := prog_10_method_33_code
def yX8_freeOn : MethodName := ⟨RX8, "freeOn", "(I)I"⟩
abbrev cX8_groups : ByteArray := prog_10_method_34_code
def yX8_groups : MethodName := ⟨RX8, "groups", "(I)Z"⟩
abbrev cX8_sheets : ByteArray := prog_10_method_35_code
def yX8_sheets : MethodName := ⟨RX8, "sheets", "(I)Z"⟩
abbrev cX8_heaps : ByteArray := prog_10_method_36_code
def yX8_heaps : MethodName := ⟨RX8, "heaps", "()I"⟩
abbrev cX8_lays : ByteArray := prog_10_method_37_code
def yX8_lays : MethodName := ⟨RX8, "lays", "()Z"⟩
abbrev cX8_look : ByteArray := prog_10_method_38_code
def yX8_look : MethodName := ⟨RX8, "look", "(I)I"⟩
abbrev cX8_heap : ByteArray := prog_10_method_39_code
def yX8_heap : MethodName := ⟨RX8, "heap", "(II)I"⟩
abbrev cX8_plans : ByteArray := prog_10_method_40_code
def yX8_plans : MethodName := ⟨RX8, "plans", "()V"⟩
abbrev cX8_isCell : ByteArray := prog_10_method_41_code
def yX8_isCell : MethodName := ⟨RX8, "isCell", "(I)Z"⟩
abbrev cX8_plan : ByteArray := prog_10_method_42_code
def yX8_plan : MethodName := ⟨RX8, "plan", "(II)I"⟩
abbrev cX8_print : ByteArray := prog_10_method_43_code
def yX8_print : MethodName := ⟨RX8, "print", "(I)I"⟩
abbrev cX8_printed : ByteArray := prog_10_method_44_code
def yX8_printed : MethodName := ⟨RX8, "printed", "(II)I"⟩
abbrev cX8_spoil : ByteArray := prog_10_method_45_code
def yX8_spoil : MethodName := ⟨RX8, "spoil", "(II)I"⟩
abbrev cX8_label : ByteArray := prog_10_method_46_code
def yX8_label : MethodName := ⟨RX8, "label", "(II)I"⟩
def RJ6 : String := "java/lang/Integer"
def TJ6 : u_T := fun k => match k with
  | _ => ("", "", "", false)
def tyJ6 : Nat → FieldType := fun k => match k with
  | _ => .int
abbrev wsJ60 : List Cond := u_ws RJ6 TJ6 0
theorem nmJ6 : ∀ a, a < 0 → ∀ b, b < 0 → a ≠ b → (TJ6 a).2.1 ≠ (TJ6 b).2.1 := by decide +kernel
theorem tyJ6_ok : ∀ k, k < 0 → parseFieldDescriptor (TJ6 k).2.2.1 = some (tyJ6 k) := by decide +kernel
abbrev cJ6_bitCount_0f7a4 : ByteArray := prog_11_method_49_code
def yJ6_bitCount_0f7a4 : MethodName := ⟨RJ6, "bitCount", "(I)I"⟩
def RJ13 : String := "java/lang/Long"
def TJ13 : u_T := fun k => match k with
  | _ => ("", "", "", false)
def tyJ13 : Nat → FieldType := fun k => match k with
  | _ => .int
abbrev wsJ130 : List Cond := u_ws RJ13 TJ13 0
theorem nmJ13 : ∀ a, a < 0 → ∀ b, b < 0 → a ≠ b → (TJ13 a).2.1 ≠ (TJ13 b).2.1 := by decide +kernel
theorem tyJ13_ok : ∀ k, k < 0 → parseFieldDescriptor (TJ13 k).2.2.1 = some (tyJ13 k) := by decide +kernel
abbrev cJ13_bitCount_95d88 : ByteArray := prog_12_method_50_code
def yJ13_bitCount_95d88 : MethodName := ⟨RJ13, "bitCount", "(J)I"⟩
def RJ9 : String := "java/lang/Math"
def TJ9 : u_T := fun k => match k with
  | _ => ("", "", "", false)
def tyJ9 : Nat → FieldType := fun k => match k with
  | _ => .int
abbrev wsJ90 : List Cond := u_ws RJ9 TJ9 0
theorem nmJ9 : ∀ a, a < 0 → ∀ b, b < 0 → a ≠ b → (TJ9 a).2.1 ≠ (TJ9 b).2.1 := by decide +kernel
theorem tyJ9_ok : ∀ k, k < 0 → parseFieldDescriptor (TJ9 k).2.2.1 = some (tyJ9 k) := by decide +kernel
abbrev cJ9_max_7cf53 : ByteArray := prog_13_method_65_code
def yJ9_max_7cf53 : MethodName := ⟨RJ9, "max", "(II)I"⟩
abbrev cJ9_min_7cf53 : ByteArray := prog_13_method_69_code
def yJ9_min_7cf53 : MethodName := ⟨RJ9, "min", "(II)I"⟩
def RL : String := "StickerPressLaw"
abbrev cL_law : ByteArray := code
def gtbl : List Cond := lw_tbl.filter goodWord
theorem gm {w : Cond} (i : Nat) (h : lw_tbl[i]? = some w) (hg : goodWord w = true) : w ∈ gtbl := List.mem_filter.mpr ⟨List.mem_of_getElem? h, hg⟩
theorem gtbl_in : ∀ w ∈ gtbl, w ∈ lw_tbl := fun _ h => (List.mem_filter.mp h).1
theorem gtbl_good : ∀ w ∈ gtbl, goodWord w = true := fun _ h => (List.mem_filter.mp h).2
abbrev vwCl : List vw_C := [(RX0, TX0, 10), (RX1, TX1, 5), (RX2, TX2, 7), (RX3, TX3, 5), (RX4, TX4, 2), (RX5, TX5, 3), (RX6, TX6, 8), (RX7, TX7, 7), (RX8, TX8, 46)]
theorem in0 : ∀ w ∈ wsX00, w ∈ gtbl := by decide +kernel
theorem in1 : ∀ w ∈ wsX10, w ∈ gtbl := by decide +kernel
theorem in2 : ∀ w ∈ wsX20, w ∈ gtbl := by decide +kernel
theorem in3 : ∀ w ∈ wsX30, w ∈ gtbl := by decide +kernel
theorem in4 : ∀ w ∈ wsX40, w ∈ gtbl := by decide +kernel
theorem in5 : ∀ w ∈ wsX50, w ∈ gtbl := by decide +kernel
theorem in6 : ∀ w ∈ wsX60, w ∈ gtbl := by decide +kernel
theorem in7 : ∀ w ∈ wsX70, w ∈ gtbl := by decide +kernel
theorem in8 : ∀ w ∈ wsX80, w ∈ gtbl := by decide +kernel
theorem w0 : Cond.selects RX7 yX7_feedBytes yX7_feedBytes ∈ gtbl := gm 0 (by decide +kernel) (by decide +kernel)
theorem w1 : Cond.selects RX2 yX2_bestSet yX2_bestSet ∈ gtbl := gm 1 (by decide +kernel) (by decide +kernel)
theorem w2 : Cond.selects RX2 yX2_applySet yX2_applySet ∈ gtbl := gm 2 (by decide +kernel) (by decide +kernel)
theorem w3 : Cond.selects RX2 yX2_applyOne yX2_applyOne ∈ gtbl := gm 3 (by decide +kernel) (by decide +kernel)
theorem w4 : Cond.selects RX2 yX2_textWidth yX2_textWidth ∈ gtbl := gm 4 (by decide +kernel) (by decide +kernel)
theorem w5 : Cond.selects RX6 yX6_takeDigits yX6_takeDigits ∈ gtbl := gm 5 (by decide +kernel) (by decide +kernel)
theorem w6 : Cond.selects RX6 yX6_drawPair yX6_drawPair ∈ gtbl := gm 6 (by decide +kernel) (by decide +kernel)
theorem w7 : Cond.selects RX6 yX6_keepFault yX6_keepFault ∈ gtbl := gm 7 (by decide +kernel) (by decide +kernel)
theorem w8 : Cond.selects RX6 yX6_findWides yX6_findWides ∈ gtbl := gm 8 (by decide +kernel) (by decide +kernel)
theorem w9 : Cond.selects RX3 yX3_endsStand yX3_endsStand ∈ gtbl := gm 9 (by decide +kernel) (by decide +kernel)
theorem w10 : Cond.selects RX3 yX3_stripe yX3_stripe ∈ gtbl := gm 10 (by decide +kernel) (by decide +kernel)
theorem w11 : Cond.selects RX3 yX3_refuse yX3_refuse ∈ gtbl := gm 11 (by decide +kernel) (by decide +kernel)
theorem w12 : Cond.selects RX3 yX3_addDigit yX3_addDigit ∈ gtbl := gm 12 (by decide +kernel) (by decide +kernel)
theorem w13 : Cond.selects RX6 yX6_keepDigits yX6_keepDigits ∈ gtbl := gm 13 (by decide +kernel) (by decide +kernel)
theorem w14 : Cond.selects RX0 yX0_seek yX0_seek ∈ gtbl := gm 14 (by decide +kernel) (by decide +kernel)
theorem w15 : Cond.selects RX0 yX0_trySheets yX0_trySheets ∈ gtbl := gm 15 (by decide +kernel) (by decide +kernel)
theorem w16 : Cond.selects RX0 yX0_makeRoom yX0_makeRoom ∈ gtbl := gm 16 (by decide +kernel) (by decide +kernel)
theorem w17 : Cond.selects RX0 yX0_layAll yX0_layAll ∈ gtbl := gm 17 (by decide +kernel) (by decide +kernel)
theorem w18 : Cond.selects RX0 yX0_layGroup yX0_layGroup ∈ gtbl := gm 18 (by decide +kernel) (by decide +kernel)
theorem w19 : Cond.selects RX1 yX1_isLabel yX1_isLabel ∈ gtbl := gm 19 (by decide +kernel) (by decide +kernel)
theorem w20 : Cond.selects RX0 yX0_layLabel yX0_layLabel ∈ gtbl := gm 20 (by decide +kernel) (by decide +kernel)
theorem w21 : Cond.selects RX7 yX7_printCell yX7_printCell ∈ gtbl := gm 21 (by decide +kernel) (by decide +kernel)
theorem w22 : Cond.selects RX8 yX8_areSigns yX8_areSigns ∈ gtbl := gm 22 (by decide +kernel) (by decide +kernel)
theorem w23 : Cond.selects RX8 yX8_becomes yX8_becomes ∈ gtbl := gm 23 (by decide +kernel) (by decide +kernel)
theorem w24 : Cond.selects RX8 yX8_goes yX8_goes ∈ gtbl := gm 24 (by decide +kernel) (by decide +kernel)
theorem w25 : Cond.selects RX8 yX8_stands yX8_stands ∈ gtbl := gm 25 (by decide +kernel) (by decide +kernel)
theorem w26 : Cond.selects RX8 yX8_puts yX8_puts ∈ gtbl := gm 26 (by decide +kernel) (by decide +kernel)
theorem w27 : Cond.selects RX8 yX8_wideOf yX8_wideOf ∈ gtbl := gm 27 (by decide +kernel) (by decide +kernel)
theorem w28 : Cond.selects RX8 yX8_check yX8_check ∈ gtbl := gm 28 (by decide +kernel) (by decide +kernel)
theorem w29 : Cond.selects RX8 yX8_draws yX8_draws ∈ gtbl := gm 29 (by decide +kernel) (by decide +kernel)
theorem w30 : Cond.selects RX8 yX8_reads yX8_reads ∈ gtbl := gm 30 (by decide +kernel) (by decide +kernel)
theorem w31 : Cond.selects RX8 yX8_isWide yX8_isWide ∈ gtbl := gm 31 (by decide +kernel) (by decide +kernel)
theorem w32 : Cond.selects RX8 yX8_bad yX8_bad ∈ gtbl := gm 32 (by decide +kernel) (by decide +kernel)
theorem w33 : Cond.selects RX8 yX8_waiting yX8_waiting ∈ gtbl := gm 33 (by decide +kernel) (by decide +kernel)
theorem w34 : Cond.selects RX8 yX8_freeOn yX8_freeOn ∈ gtbl := gm 34 (by decide +kernel) (by decide +kernel)
theorem w35 : Cond.selects RX8 yX8_lays yX8_lays ∈ gtbl := gm 35 (by decide +kernel) (by decide +kernel)
theorem w36 : Cond.selects RX8 yX8_groups yX8_groups ∈ gtbl := gm 36 (by decide +kernel) (by decide +kernel)
theorem w37 : Cond.selects RX8 yX8_sheets yX8_sheets ∈ gtbl := gm 37 (by decide +kernel) (by decide +kernel)
theorem w38 : Cond.selects RX8 yX8_heaps yX8_heaps ∈ gtbl := gm 38 (by decide +kernel) (by decide +kernel)
theorem w39 : Cond.selects RX8 yX8_plans yX8_plans ∈ gtbl := gm 39 (by decide +kernel) (by decide +kernel)
theorem w40 : Cond.initialized RL ∈ gtbl := gm 40 (by decide +kernel) (by decide +kernel)
theorem w41 : Cond.initialized RX7 ∈ gtbl := gm 41 (by decide +kernel) (by decide +kernel)
theorem w42 : Cond.initialized RX4 ∈ gtbl := gm 42 (by decide +kernel) (by decide +kernel)
theorem w43 : Cond.initialized RJ9 ∈ gtbl := gm 43 (by decide +kernel) (by decide +kernel)
theorem w44 : Cond.initialized RX2 ∈ gtbl := gm 44 (by decide +kernel) (by decide +kernel)
theorem w45 : Cond.initialized RX6 ∈ gtbl := gm 45 (by decide +kernel) (by decide +kernel)
theorem w46 : Cond.initialized RX3 ∈ gtbl := gm 46 (by decide +kernel) (by decide +kernel)
theorem w47 : Cond.initialized RX1 ∈ gtbl := gm 47 (by decide +kernel) (by decide +kernel)
theorem w48 : Cond.initialized RX5 ∈ gtbl := gm 48 (by decide +kernel) (by decide +kernel)
theorem w49 : Cond.initialized RX0 ∈ gtbl := gm 49 (by decide +kernel) (by decide +kernel)
theorem w50 : Cond.initialized RX8 ∈ gtbl := gm 50 (by decide +kernel) (by decide +kernel)
theorem w51 : Cond.initialized RJ6 ∈ gtbl := gm 51 (by decide +kernel) (by decide +kernel)
theorem w52 : Cond.initialized RJ13 ∈ gtbl := gm 52 (by decide +kernel) (by decide +kernel)
theorem w53 : Cond.classLink RL 7 RX7 ∈ gtbl := gm 53 (by decide +kernel) (by decide +kernel)
theorem w54 : Cond.instantiable RX7 7 ∈ gtbl := gm 54 (by decide +kernel) (by decide +kernel)
theorem w55 : Cond.methodLink RL 9 yX7_init ∈ gtbl := gm 55 (by decide +kernel) (by decide +kernel)
theorem w56 : Cond.instanceMethod yX7_init ∈ gtbl := gm 56 (by decide +kernel) (by decide +kernel)
set_option maxRecDepth 20000 in
theorem w57 : Cond.code yX7_init cX7_init 1 none ∈ gtbl := gm 57 (by rfl) (by decide +kernel)
theorem w58 : Cond.methodLink RX7 3 (⟨"java/lang/Object", "<init>", "()V"⟩ : MethodName) ∈ gtbl := gm 58 (by decide +kernel) (by decide +kernel)
theorem w59 : Cond.instanceMethod (⟨"java/lang/Object", "<init>", "()V"⟩ : MethodName) ∈ gtbl := gm 59 (by decide +kernel) (by decide +kernel)
set_option maxRecDepth 20000 in
theorem w60 : Cond.code (⟨"java/lang/Object", "<init>", "()V"⟩ : MethodName) object_method_1_code 1 none ∈ gtbl := gm 60 (by rfl) (by decide +kernel)
theorem w61 : Cond.classLink RX7 9 RX4 ∈ gtbl := gm 61 (by decide +kernel) (by decide +kernel)
theorem w62 : Cond.instantiable RX4 2 ∈ gtbl := gm 62 (by decide +kernel) (by decide +kernel)
theorem w63 : Cond.methodLink RX7 11 yX4_init ∈ gtbl := gm 63 (by decide +kernel) (by decide +kernel)
theorem w64 : Cond.instanceMethod yX4_init ∈ gtbl := gm 64 (by decide +kernel) (by decide +kernel)
set_option maxRecDepth 20000 in
theorem w65 : Cond.code yX4_init cX4_init 2 none ∈ gtbl := gm 65 (by rfl) (by decide +kernel)
theorem w66 : Cond.methodLink RX4 3 (⟨"java/lang/Object", "<init>", "()V"⟩ : MethodName) ∈ gtbl := gm 66 (by decide +kernel) (by decide +kernel)
theorem w67 : Cond.methodLink RX4 9 yJ9_max_7cf53 ∈ gtbl := gm 67 (by decide +kernel) (by decide +kernel)
theorem w68 : Cond.static yJ9_max_7cf53 ∈ gtbl := gm 68 (by decide +kernel) (by decide +kernel)
set_option maxRecDepth 20000 in
theorem w69 : Cond.code yJ9_max_7cf53 cJ9_max_7cf53 2 (some .int) ∈ gtbl := gm 69 (by rfl) (by decide +kernel)
theorem w70 : Cond.fieldLink RX4 15 "StickerPress$Row" "items" "[I" ∈ gtbl := gm 70 (by decide +kernel) (by decide +kernel)
theorem w71 : Cond.fieldLink RX4 21 "StickerPress$Row" "size" "I" ∈ gtbl := gm 71 (by decide +kernel) (by decide +kernel)
theorem w77 : Cond.arrayClass FieldType.int ∈ gtbl := gm 77 (by decide +kernel) (by decide +kernel)
theorem w78 : Cond.classLink RX7 21 RX2 ∈ gtbl := gm 78 (by decide +kernel) (by decide +kernel)
theorem w79 : Cond.instantiable RX2 7 ∈ gtbl := gm 79 (by decide +kernel) (by decide +kernel)
theorem w80 : Cond.methodLink RX7 23 yX2_init ∈ gtbl := gm 80 (by decide +kernel) (by decide +kernel)
theorem w81 : Cond.instanceMethod yX2_init ∈ gtbl := gm 81 (by decide +kernel) (by decide +kernel)
set_option maxRecDepth 20000 in
theorem w82 : Cond.code yX2_init cX2_init 2 none ∈ gtbl := gm 82 (by rfl) (by decide +kernel)
theorem w83 : Cond.methodLink RX2 3 (⟨"java/lang/Object", "<init>", "()V"⟩ : MethodName) ∈ gtbl := gm 83 (by decide +kernel) (by decide +kernel)
theorem w84 : Cond.classLink RX2 15 RX4 ∈ gtbl := gm 84 (by decide +kernel) (by decide +kernel)
theorem w86 : Cond.methodLink RX2 24 yX4_init ∈ gtbl := gm 86 (by decide +kernel) (by decide +kernel)
theorem w87 : Cond.fieldLink RX2 9 "StickerPress$Names" "widths" "[I" ∈ gtbl := gm 87 (by decide +kernel) (by decide +kernel)
theorem w88 : Cond.fieldLink RX2 17 "StickerPress$Names" "from" "[LStickerPress$Row;" ∈ gtbl := gm 88 (by decide +kernel) (by decide +kernel)
theorem w89 : Cond.fieldLink RX2 21 "StickerPress$Names" "to" "[LStickerPress$Row;" ∈ gtbl := gm 89 (by decide +kernel) (by decide +kernel)
theorem w90 : Cond.fieldLink RX2 27 "StickerPress$Names" "text" "LStickerPress$Row;" ∈ gtbl := gm 90 (by decide +kernel) (by decide +kernel)
theorem w91 : Cond.fieldLink RX2 31 "StickerPress$Names" "next" "LStickerPress$Row;" ∈ gtbl := gm 91 (by decide +kernel) (by decide +kernel)
theorem w92 : Cond.fieldLink RX2 34 "StickerPress$Names" "told" "I" ∈ gtbl := gm 92 (by decide +kernel) (by decide +kernel)
theorem w93 : Cond.fieldLink RX2 38 "StickerPress$Names" "latest" "I" ∈ gtbl := gm 93 (by decide +kernel) (by decide +kernel)
theorem w109 : Cond.classLink RX7 28 RX6 ∈ gtbl := gm 109 (by decide +kernel) (by decide +kernel)
theorem w110 : Cond.instantiable RX6 8 ∈ gtbl := gm 110 (by decide +kernel) (by decide +kernel)
theorem w111 : Cond.methodLink RX7 30 yX6_init ∈ gtbl := gm 111 (by decide +kernel) (by decide +kernel)
theorem w112 : Cond.instanceMethod yX6_init ∈ gtbl := gm 112 (by decide +kernel) (by decide +kernel)
set_option maxRecDepth 20000 in
theorem w113 : Cond.code yX6_init cX6_init 1 none ∈ gtbl := gm 113 (by rfl) (by decide +kernel)
theorem w114 : Cond.methodLink RX6 3 (⟨"java/lang/Object", "<init>", "()V"⟩ : MethodName) ∈ gtbl := gm 114 (by decide +kernel) (by decide +kernel)
theorem w115 : Cond.classLink RX6 9 RX4 ∈ gtbl := gm 115 (by decide +kernel) (by decide +kernel)
theorem w116 : Cond.methodLink RX6 11 yX4_init ∈ gtbl := gm 116 (by decide +kernel) (by decide +kernel)
theorem w117 : Cond.classLink RX6 23 RX3 ∈ gtbl := gm 117 (by decide +kernel) (by decide +kernel)
theorem w118 : Cond.instantiable RX3 5 ∈ gtbl := gm 118 (by decide +kernel) (by decide +kernel)
theorem w119 : Cond.methodLink RX6 25 yX3_init ∈ gtbl := gm 119 (by decide +kernel) (by decide +kernel)
theorem w120 : Cond.instanceMethod yX3_init ∈ gtbl := gm 120 (by decide +kernel) (by decide +kernel)
set_option maxRecDepth 20000 in
theorem w121 : Cond.code yX3_init cX3_init 3 none ∈ gtbl := gm 121 (by rfl) (by decide +kernel)
theorem w122 : Cond.methodLink RX3 3 (⟨"java/lang/Object", "<init>", "()V"⟩ : MethodName) ∈ gtbl := gm 122 (by decide +kernel) (by decide +kernel)
theorem w123 : Cond.classLink RX3 19 RX4 ∈ gtbl := gm 123 (by decide +kernel) (by decide +kernel)
theorem w124 : Cond.methodLink RX3 21 yX4_init ∈ gtbl := gm 124 (by decide +kernel) (by decide +kernel)
theorem w125 : Cond.fieldLink RX3 9 "StickerPress$Reading" "wides" "LStickerPress$Row;" ∈ gtbl := gm 125 (by decide +kernel) (by decide +kernel)
theorem w126 : Cond.fieldLink RX3 15 "StickerPress$Reading" "backward" "Z" ∈ gtbl := gm 126 (by decide +kernel) (by decide +kernel)
theorem w127 : Cond.fieldLink RX3 24 "StickerPress$Reading" "digits" "LStickerPress$Row;" ∈ gtbl := gm 127 (by decide +kernel) (by decide +kernel)
theorem w129 : Cond.fieldLink RX3 27 "StickerPress$Reading" "fault" "I" ∈ gtbl := gm 129 (by decide +kernel) (by decide +kernel)
theorem w131 : Cond.fieldLink RX3 31 "StickerPress$Reading" "place" "I" ∈ gtbl := gm 131 (by decide +kernel) (by decide +kernel)
theorem w144 : Cond.fieldLink RX6 14 "StickerPress$Stripes" "digits" "LStickerPress$Row;" ∈ gtbl := gm 144 (by decide +kernel) (by decide +kernel)
theorem w145 : Cond.fieldLink RX6 20 "StickerPress$Stripes" "wides" "LStickerPress$Row;" ∈ gtbl := gm 145 (by decide +kernel) (by decide +kernel)
theorem w146 : Cond.fieldLink RX6 28 "StickerPress$Stripes" "ahead" "LStickerPress$Reading;" ∈ gtbl := gm 146 (by decide +kernel) (by decide +kernel)
theorem w147 : Cond.fieldLink RX6 32 "StickerPress$Stripes" "behind" "LStickerPress$Reading;" ∈ gtbl := gm 147 (by decide +kernel) (by decide +kernel)
theorem w148 : Cond.fieldLink RX6 35 "StickerPress$Stripes" "wideStripe" "I" ∈ gtbl := gm 148 (by decide +kernel) (by decide +kernel)
theorem w149 : Cond.fieldLink RX6 39 "StickerPress$Stripes" "fault" "I" ∈ gtbl := gm 149 (by decide +kernel) (by decide +kernel)
theorem w150 : Cond.fieldLink RX6 42 "StickerPress$Stripes" "place" "I" ∈ gtbl := gm 150 (by decide +kernel) (by decide +kernel)
theorem w151 : Cond.fieldLink RX6 45 "StickerPress$Stripes" "fromBehind" "Z" ∈ gtbl := gm 151 (by decide +kernel) (by decide +kernel)
theorem w169 : Cond.classLink RX7 35 RX1 ∈ gtbl := gm 169 (by decide +kernel) (by decide +kernel)
theorem w170 : Cond.instantiable RX1 5 ∈ gtbl := gm 170 (by decide +kernel) (by decide +kernel)
theorem w171 : Cond.methodLink RX7 37 yX1_init ∈ gtbl := gm 171 (by decide +kernel) (by decide +kernel)
theorem w172 : Cond.instanceMethod yX1_init ∈ gtbl := gm 172 (by decide +kernel) (by decide +kernel)
set_option maxRecDepth 20000 in
theorem w173 : Cond.code yX1_init cX1_init 1 none ∈ gtbl := gm 173 (by rfl) (by decide +kernel)
theorem w174 : Cond.methodLink RX1 3 (⟨"java/lang/Object", "<init>", "()V"⟩ : MethodName) ∈ gtbl := gm 174 (by decide +kernel) (by decide +kernel)
theorem w175 : Cond.fieldLink RX1 9 "StickerPress$Labels" "groups" "[I" ∈ gtbl := gm 175 (by decide +kernel) (by decide +kernel)
theorem w176 : Cond.fieldLink RX1 15 "StickerPress$Labels" "times" "[I" ∈ gtbl := gm 176 (by decide +kernel) (by decide +kernel)
theorem w177 : Cond.fieldLink RX1 18 "StickerPress$Labels" "waits" "[Z" ∈ gtbl := gm 177 (by decide +kernel) (by decide +kernel)
theorem w178 : Cond.fieldLink RX1 22 "StickerPress$Labels" "waiting" "[I" ∈ gtbl := gm 178 (by decide +kernel) (by decide +kernel)
theorem w179 : Cond.fieldLink RX1 25 "StickerPress$Labels" "count" "I" ∈ gtbl := gm 179 (by decide +kernel) (by decide +kernel)
theorem w191 : Cond.arrayClass FieldType.boolean ∈ gtbl := gm 191 (by decide +kernel) (by decide +kernel)
theorem w192 : Cond.classLink RX7 42 RX5 ∈ gtbl := gm 192 (by decide +kernel) (by decide +kernel)
theorem w193 : Cond.instantiable RX5 3 ∈ gtbl := gm 193 (by decide +kernel) (by decide +kernel)
theorem w194 : Cond.methodLink RX7 44 yX5_init ∈ gtbl := gm 194 (by decide +kernel) (by decide +kernel)
theorem w195 : Cond.instanceMethod yX5_init ∈ gtbl := gm 195 (by decide +kernel) (by decide +kernel)
set_option maxRecDepth 20000 in
theorem w196 : Cond.code yX5_init cX5_init 2 none ∈ gtbl := gm 196 (by rfl) (by decide +kernel)
theorem w197 : Cond.methodLink RX5 3 (⟨"java/lang/Object", "<init>", "()V"⟩ : MethodName) ∈ gtbl := gm 197 (by decide +kernel) (by decide +kernel)
theorem w198 : Cond.fieldLink RX5 9 "StickerPress$Sheets" "free" "[J" ∈ gtbl := gm 198 (by decide +kernel) (by decide +kernel)
theorem w199 : Cond.fieldLink RX5 15 "StickerPress$Sheets" "numbers" "[I" ∈ gtbl := gm 199 (by decide +kernel) (by decide +kernel)
theorem w200 : Cond.fieldLink RX5 19 "StickerPress$Sheets" "spoiled" "[Z" ∈ gtbl := gm 200 (by decide +kernel) (by decide +kernel)
theorem w208 : Cond.arrayClass FieldType.long ∈ gtbl := gm 208 (by decide +kernel) (by decide +kernel)
theorem w209 : Cond.classLink RX7 49 RX0 ∈ gtbl := gm 209 (by decide +kernel) (by decide +kernel)
theorem w210 : Cond.instantiable RX0 10 ∈ gtbl := gm 210 (by decide +kernel) (by decide +kernel)
theorem w211 : Cond.methodLink RX7 51 yX0_init ∈ gtbl := gm 211 (by decide +kernel) (by decide +kernel)
theorem w212 : Cond.instanceMethod yX0_init ∈ gtbl := gm 212 (by decide +kernel) (by decide +kernel)
set_option maxRecDepth 20000 in
theorem w213 : Cond.code yX0_init cX0_init 3 none ∈ gtbl := gm 213 (by rfl) (by decide +kernel)
theorem w214 : Cond.methodLink RX0 3 (⟨"java/lang/Object", "<init>", "()V"⟩ : MethodName) ∈ gtbl := gm 214 (by decide +kernel) (by decide +kernel)
theorem w215 : Cond.constant RX0 36 (1048576 : Int32) ∈ gtbl := gm 215 (by decide +kernel) (by decide +kernel)
theorem w216 : Cond.fieldLink RX0 9 "StickerPress$Best" "labels" "LStickerPress$Labels;" ∈ gtbl := gm 216 (by decide +kernel) (by decide +kernel)
theorem w217 : Cond.fieldLink RX0 15 "StickerPress$Best" "sheets" "LStickerPress$Sheets;" ∈ gtbl := gm 217 (by decide +kernel) (by decide +kernel)
theorem w218 : Cond.fieldLink RX0 19 "StickerPress$Best" "counts" "[I" ∈ gtbl := gm 218 (by decide +kernel) (by decide +kernel)
theorem w219 : Cond.fieldLink RX0 23 "StickerPress$Best" "room" "[I" ∈ gtbl := gm 219 (by decide +kernel) (by decide +kernel)
theorem w220 : Cond.fieldLink RX0 26 "StickerPress$Best" "starts" "[I" ∈ gtbl := gm 220 (by decide +kernel) (by decide +kernel)
theorem w221 : Cond.fieldLink RX0 29 "StickerPress$Best" "planned" "[I" ∈ gtbl := gm 221 (by decide +kernel) (by decide +kernel)
theorem w222 : Cond.fieldLink RX0 32 "StickerPress$Best" "fresh" "Z" ∈ gtbl := gm 222 (by decide +kernel) (by decide +kernel)
theorem w223 : Cond.fieldLink RX0 37 "StickerPress$Best" "rank" "I" ∈ gtbl := gm 223 (by decide +kernel) (by decide +kernel)
theorem w224 : Cond.fieldLink RX0 41 "StickerPress$Best" "groupCode" "I" ∈ gtbl := gm 224 (by decide +kernel) (by decide +kernel)
theorem w225 : Cond.fieldLink RX0 44 "StickerPress$Best" "sheetCode" "I" ∈ gtbl := gm 225 (by decide +kernel) (by decide +kernel)
theorem w247 : Cond.fieldLink RX7 14 "StickerPress" "tape" "LStickerPress$Row;" ∈ gtbl := gm 247 (by decide +kernel) (by decide +kernel)
theorem w248 : Cond.fieldLink RX7 18 "StickerPress" "shown" "LStickerPress$Row;" ∈ gtbl := gm 248 (by decide +kernel) (by decide +kernel)
theorem w249 : Cond.fieldLink RX7 24 "StickerPress" "names" "LStickerPress$Names;" ∈ gtbl := gm 249 (by decide +kernel) (by decide +kernel)
theorem w250 : Cond.fieldLink RX7 31 "StickerPress" "stripes" "LStickerPress$Stripes;" ∈ gtbl := gm 250 (by decide +kernel) (by decide +kernel)
theorem w251 : Cond.fieldLink RX7 38 "StickerPress" "labels" "LStickerPress$Labels;" ∈ gtbl := gm 251 (by decide +kernel) (by decide +kernel)
theorem w252 : Cond.fieldLink RX7 45 "StickerPress" "sheets" "LStickerPress$Sheets;" ∈ gtbl := gm 252 (by decide +kernel) (by decide +kernel)
theorem w253 : Cond.fieldLink RX7 54 "StickerPress" "best" "LStickerPress$Best;" ∈ gtbl := gm 253 (by decide +kernel) (by decide +kernel)
theorem w269 : Cond.methodLink RL 13 yX7_wide ∈ gtbl := gm 269 (by decide +kernel) (by decide +kernel)
theorem w270 : Cond.instanceMethod yX7_wide ∈ gtbl := gm 270 (by decide +kernel) (by decide +kernel)
theorem w271 : Cond.selects RX7 yX7_wide yX7_wide ∈ gtbl := gm 271 (by decide +kernel) (by decide +kernel)
set_option maxRecDepth 20000 in
theorem w272 : Cond.code yX7_wide cX7_wide 3 (some .boolean) ∈ gtbl := gm 272 (by rfl) (by decide +kernel)
theorem w273 : Cond.methodLink RX7 58 yX2_setWidth ∈ gtbl := gm 273 (by decide +kernel) (by decide +kernel)
theorem w274 : Cond.instanceMethod yX2_setWidth ∈ gtbl := gm 274 (by decide +kernel) (by decide +kernel)
theorem w275 : Cond.selects RX2 yX2_setWidth yX2_setWidth ∈ gtbl := gm 275 (by decide +kernel) (by decide +kernel)
set_option maxRecDepth 20000 in
theorem w276 : Cond.code yX2_setWidth cX2_setWidth 3 (some .boolean) ∈ gtbl := gm 276 (by rfl) (by decide +kernel)
theorem w277 : Cond.methodLink RL 18 yX7_feed ∈ gtbl := gm 277 (by decide +kernel) (by decide +kernel)
theorem w278 : Cond.instanceMethod yX7_feed ∈ gtbl := gm 278 (by decide +kernel) (by decide +kernel)
theorem w279 : Cond.selects RX7 yX7_feed yX7_feed ∈ gtbl := gm 279 (by decide +kernel) (by decide +kernel)
set_option maxRecDepth 20000 in
theorem w280 : Cond.code yX7_feed cX7_feed 6 (some .int) ∈ gtbl := gm 280 (by rfl) (by decide +kernel)
theorem w281 : Cond.methodLink RX7 62 yX4_size ∈ gtbl := gm 281 (by decide +kernel) (by decide +kernel)
theorem w282 : Cond.instanceMethod yX4_size ∈ gtbl := gm 282 (by decide +kernel) (by decide +kernel)
theorem w283 : Cond.selects RX4 yX4_size yX4_size ∈ gtbl := gm 283 (by decide +kernel) (by decide +kernel)
set_option maxRecDepth 20000 in
theorem w284 : Cond.code yX4_size cX4_size 1 (some .int) ∈ gtbl := gm 284 (by rfl) (by decide +kernel)
theorem w285 : Cond.methodLink RX7 66 yX7_feedBytes ∈ gtbl := gm 285 (by decide +kernel) (by decide +kernel)
theorem w287 : Cond.instanceMethod yX7_feedBytes ∈ gtbl := gm 287 (by decide +kernel) (by decide +kernel)
set_option maxRecDepth 20000 in
theorem w288 : Cond.code yX7_feedBytes cX7_feedBytes 3 none ∈ gtbl := gm 288 (by rfl) (by decide +kernel)
theorem w289 : Cond.methodLink RX7 174 yX4_add ∈ gtbl := gm 289 (by decide +kernel) (by decide +kernel)
theorem w290 : Cond.instanceMethod yX4_add ∈ gtbl := gm 290 (by decide +kernel) (by decide +kernel)
theorem w291 : Cond.selects RX4 yX4_add yX4_add ∈ gtbl := gm 291 (by decide +kernel) (by decide +kernel)
set_option maxRecDepth 20000 in
theorem w292 : Cond.code yX4_add cX4_add 2 (some .boolean) ∈ gtbl := gm 292 (by rfl) (by decide +kernel)
theorem w293 : Cond.methodLink RL 23 yX7_end ∈ gtbl := gm 293 (by decide +kernel) (by decide +kernel)
theorem w294 : Cond.instanceMethod yX7_end ∈ gtbl := gm 294 (by decide +kernel) (by decide +kernel)
theorem w295 : Cond.selects RX7 yX7_end yX7_end ∈ gtbl := gm 295 (by decide +kernel) (by decide +kernel)
set_option maxRecDepth 20000 in
theorem w296 : Cond.code yX7_end cX7_end 2 (some .boolean) ∈ gtbl := gm 296 (by rfl) (by decide +kernel)
theorem w297 : Cond.methodLink RX7 69 yX4_cut ∈ gtbl := gm 297 (by decide +kernel) (by decide +kernel)
theorem w298 : Cond.instanceMethod yX4_cut ∈ gtbl := gm 298 (by decide +kernel) (by decide +kernel)
theorem w299 : Cond.selects RX4 yX4_cut yX4_cut ∈ gtbl := gm 299 (by decide +kernel) (by decide +kernel)
set_option maxRecDepth 20000 in
theorem w300 : Cond.code yX4_cut cX4_cut 2 (some .boolean) ∈ gtbl := gm 300 (by rfl) (by decide +kernel)
theorem w301 : Cond.methodLink RL 28 yX7_shorten ∈ gtbl := gm 301 (by decide +kernel) (by decide +kernel)
theorem w302 : Cond.instanceMethod yX7_shorten ∈ gtbl := gm 302 (by decide +kernel) (by decide +kernel)
theorem w303 : Cond.selects RX7 yX7_shorten yX7_shorten ∈ gtbl := gm 303 (by decide +kernel) (by decide +kernel)
set_option maxRecDepth 20000 in
theorem w304 : Cond.code yX7_shorten cX7_shorten 4 (some .boolean) ∈ gtbl := gm 304 (by rfl) (by decide +kernel)
theorem w305 : Cond.methodLink RX7 73 yX2_setShortening ∈ gtbl := gm 305 (by decide +kernel) (by decide +kernel)
theorem w306 : Cond.instanceMethod yX2_setShortening ∈ gtbl := gm 306 (by decide +kernel) (by decide +kernel)
theorem w307 : Cond.selects RX2 yX2_setShortening yX2_setShortening ∈ gtbl := gm 307 (by decide +kernel) (by decide +kernel)
set_option maxRecDepth 20000 in
theorem w308 : Cond.code yX2_setShortening cX2_setShortening 4 (some .boolean) ∈ gtbl := gm 308 (by rfl) (by decide +kernel)
theorem w309 : Cond.methodLink RX2 41 yX4_size ∈ gtbl := gm 309 (by decide +kernel) (by decide +kernel)
theorem w310 : Cond.methodLink RX2 45 yX2_areShortening ∈ gtbl := gm 310 (by decide +kernel) (by decide +kernel)
theorem w311 : Cond.static yX2_areShortening ∈ gtbl := gm 311 (by decide +kernel) (by decide +kernel)
set_option maxRecDepth 20000 in
theorem w312 : Cond.code yX2_areShortening cX2_areShortening 2 (some .boolean) ∈ gtbl := gm 312 (by rfl) (by decide +kernel)
theorem w313 : Cond.methodLink RX2 56 yX2_areSigns ∈ gtbl := gm 313 (by decide +kernel) (by decide +kernel)
theorem w314 : Cond.static yX2_areSigns ∈ gtbl := gm 314 (by decide +kernel) (by decide +kernel)
set_option maxRecDepth 20000 in
theorem w315 : Cond.code yX2_areSigns cX2_areSigns 1 (some .boolean) ∈ gtbl := gm 315 (by rfl) (by decide +kernel)
theorem w316 : Cond.methodLink RX2 95 yX4_allWithin ∈ gtbl := gm 316 (by decide +kernel) (by decide +kernel)
theorem w317 : Cond.instanceMethod yX4_allWithin ∈ gtbl := gm 317 (by decide +kernel) (by decide +kernel)
theorem w318 : Cond.selects RX4 yX4_allWithin yX4_allWithin ∈ gtbl := gm 318 (by decide +kernel) (by decide +kernel)
set_option maxRecDepth 20000 in
theorem w319 : Cond.code yX4_allWithin cX4_allWithin 4 (some .boolean) ∈ gtbl := gm 319 (by rfl) (by decide +kernel)
theorem w320 : Cond.methodLink RX4 25 yX4_at ∈ gtbl := gm 320 (by decide +kernel) (by decide +kernel)
theorem w321 : Cond.instanceMethod yX4_at ∈ gtbl := gm 321 (by decide +kernel) (by decide +kernel)
theorem w322 : Cond.selects RX4 yX4_at yX4_at ∈ gtbl := gm 322 (by decide +kernel) (by decide +kernel)
set_option maxRecDepth 20000 in
theorem w323 : Cond.code yX4_at cX4_at 2 (some .int) ∈ gtbl := gm 323 (by rfl) (by decide +kernel)
theorem w324 : Cond.methodLink RX2 49 yX4_clear ∈ gtbl := gm 324 (by decide +kernel) (by decide +kernel)
theorem w325 : Cond.instanceMethod yX4_clear ∈ gtbl := gm 325 (by decide +kernel) (by decide +kernel)
theorem w326 : Cond.selects RX4 yX4_clear yX4_clear ∈ gtbl := gm 326 (by decide +kernel) (by decide +kernel)
set_option maxRecDepth 20000 in
theorem w327 : Cond.code yX4_clear cX4_clear 1 none ∈ gtbl := gm 327 (by rfl) (by decide +kernel)
theorem w328 : Cond.methodLink RX2 52 yX4_addPart ∈ gtbl := gm 328 (by decide +kernel) (by decide +kernel)
theorem w329 : Cond.instanceMethod yX4_addPart ∈ gtbl := gm 329 (by decide +kernel) (by decide +kernel)
theorem w330 : Cond.selects RX4 yX4_addPart yX4_addPart ∈ gtbl := gm 330 (by decide +kernel) (by decide +kernel)
set_option maxRecDepth 20000 in
theorem w331 : Cond.code yX4_addPart cX4_addPart 5 (some .boolean) ∈ gtbl := gm 331 (by rfl) (by decide +kernel)
theorem w332 : Cond.methodLink RX4 29 yX4_add ∈ gtbl := gm 332 (by decide +kernel) (by decide +kernel)
theorem w333 : Cond.methodLink RX7 77 yX4_clear ∈ gtbl := gm 333 (by decide +kernel) (by decide +kernel)
theorem w334 : Cond.methodLink RL 32 yX7_fit ∈ gtbl := gm 334 (by decide +kernel) (by decide +kernel)
theorem w335 : Cond.instanceMethod yX7_fit ∈ gtbl := gm 335 (by decide +kernel) (by decide +kernel)
theorem w336 : Cond.selects RX7 yX7_fit yX7_fit ∈ gtbl := gm 336 (by decide +kernel) (by decide +kernel)
set_option maxRecDepth 20000 in
theorem w337 : Cond.code yX7_fit cX7_fit 3 (some .int) ∈ gtbl := gm 337 (by rfl) (by decide +kernel)
theorem w338 : Cond.methodLink RX7 80 yX2_fitText ∈ gtbl := gm 338 (by decide +kernel) (by decide +kernel)
theorem w339 : Cond.instanceMethod yX2_fitText ∈ gtbl := gm 339 (by decide +kernel) (by decide +kernel)
theorem w340 : Cond.selects RX2 yX2_fitText yX2_fitText ∈ gtbl := gm 340 (by decide +kernel) (by decide +kernel)
set_option maxRecDepth 20000 in
theorem w341 : Cond.code yX2_fitText cX2_fitText 5 (some .int) ∈ gtbl := gm 341 (by rfl) (by decide +kernel)
theorem w342 : Cond.methodLink RX2 60 yX2_bestSet ∈ gtbl := gm 342 (by decide +kernel) (by decide +kernel)
theorem w344 : Cond.instanceMethod yX2_bestSet ∈ gtbl := gm 344 (by decide +kernel) (by decide +kernel)
set_option maxRecDepth 20000 in
theorem w345 : Cond.code yX2_bestSet cX2_bestSet 9 (some .int) ∈ gtbl := gm 345 (by rfl) (by decide +kernel)
theorem w346 : Cond.methodLink RX2 74 yJ6_bitCount_0f7a4 ∈ gtbl := gm 346 (by decide +kernel) (by decide +kernel)
theorem w347 : Cond.static yJ6_bitCount_0f7a4 ∈ gtbl := gm 347 (by decide +kernel) (by decide +kernel)
set_option maxRecDepth 20000 in
theorem w348 : Cond.code yJ6_bitCount_0f7a4 cJ6_bitCount_0f7a4 1 (some .int) ∈ gtbl := gm 348 (by rfl) (by decide +kernel)
theorem w349 : Cond.constant RJ6 265 (1431655765 : Int32) ∈ gtbl := gm 349 (by decide +kernel) (by decide +kernel)
theorem w350 : Cond.constant RJ6 266 (858993459 : Int32) ∈ gtbl := gm 350 (by decide +kernel) (by decide +kernel)
theorem w351 : Cond.constant RJ6 267 (252645135 : Int32) ∈ gtbl := gm 351 (by decide +kernel) (by decide +kernel)
theorem w352 : Cond.methodLink RX2 64 yX2_applySet ∈ gtbl := gm 352 (by decide +kernel) (by decide +kernel)
theorem w354 : Cond.instanceMethod yX2_applySet ∈ gtbl := gm 354 (by decide +kernel) (by decide +kernel)
set_option maxRecDepth 20000 in
theorem w355 : Cond.code yX2_applySet cX2_applySet 4 (some .boolean) ∈ gtbl := gm 355 (by rfl) (by decide +kernel)
theorem w356 : Cond.methodLink RX2 67 yX4_copyFrom ∈ gtbl := gm 356 (by decide +kernel) (by decide +kernel)
theorem w357 : Cond.instanceMethod yX4_copyFrom ∈ gtbl := gm 357 (by decide +kernel) (by decide +kernel)
theorem w358 : Cond.selects RX4 yX4_copyFrom yX4_copyFrom ∈ gtbl := gm 358 (by decide +kernel) (by decide +kernel)
set_option maxRecDepth 20000 in
theorem w359 : Cond.code yX4_copyFrom cX4_copyFrom 2 none ∈ gtbl := gm 359 (by rfl) (by decide +kernel)
theorem w360 : Cond.methodLink RX4 33 yX4_clear ∈ gtbl := gm 360 (by decide +kernel) (by decide +kernel)
theorem w361 : Cond.methodLink RX4 36 yX4_addPart ∈ gtbl := gm 361 (by decide +kernel) (by decide +kernel)
theorem w362 : Cond.methodLink RX2 80 yX2_applyOne ∈ gtbl := gm 362 (by decide +kernel) (by decide +kernel)
theorem w364 : Cond.instanceMethod yX2_applyOne ∈ gtbl := gm 364 (by decide +kernel) (by decide +kernel)
set_option maxRecDepth 20000 in
theorem w365 : Cond.code yX2_applyOne cX2_applyOne 6 (some .boolean) ∈ gtbl := gm 365 (by rfl) (by decide +kernel)
theorem w366 : Cond.methodLink RX2 84 yX4_standsAt ∈ gtbl := gm 366 (by decide +kernel) (by decide +kernel)
theorem w367 : Cond.instanceMethod yX4_standsAt ∈ gtbl := gm 367 (by decide +kernel) (by decide +kernel)
theorem w368 : Cond.selects RX4 yX4_standsAt yX4_standsAt ∈ gtbl := gm 368 (by decide +kernel) (by decide +kernel)
set_option maxRecDepth 20000 in
theorem w369 : Cond.code yX4_standsAt cX4_standsAt 4 (some .boolean) ∈ gtbl := gm 369 (by rfl) (by decide +kernel)
theorem w370 : Cond.methodLink RX2 88 yX4_at ∈ gtbl := gm 370 (by decide +kernel) (by decide +kernel)
theorem w371 : Cond.methodLink RX2 91 yX4_add ∈ gtbl := gm 371 (by decide +kernel) (by decide +kernel)
theorem w372 : Cond.methodLink RX2 71 yX2_textWidth ∈ gtbl := gm 372 (by decide +kernel) (by decide +kernel)
theorem w374 : Cond.instanceMethod yX2_textWidth ∈ gtbl := gm 374 (by decide +kernel) (by decide +kernel)
set_option maxRecDepth 20000 in
theorem w375 : Cond.code yX2_textWidth cX2_textWidth 4 (some .int) ∈ gtbl := gm 375 (by rfl) (by decide +kernel)
theorem w376 : Cond.methodLink RL 37 yX7_used ∈ gtbl := gm 376 (by decide +kernel) (by decide +kernel)
theorem w377 : Cond.instanceMethod yX7_used ∈ gtbl := gm 377 (by decide +kernel) (by decide +kernel)
theorem w378 : Cond.selects RX7 yX7_used yX7_used ∈ gtbl := gm 378 (by decide +kernel) (by decide +kernel)
set_option maxRecDepth 20000 in
theorem w379 : Cond.code yX7_used cX7_used 1 (some .int) ∈ gtbl := gm 379 (by rfl) (by decide +kernel)
theorem w380 : Cond.methodLink RX7 84 yX2_latestSet ∈ gtbl := gm 380 (by decide +kernel) (by decide +kernel)
theorem w381 : Cond.instanceMethod yX2_latestSet ∈ gtbl := gm 381 (by decide +kernel) (by decide +kernel)
theorem w382 : Cond.selects RX2 yX2_latestSet yX2_latestSet ∈ gtbl := gm 382 (by decide +kernel) (by decide +kernel)
set_option maxRecDepth 20000 in
theorem w383 : Cond.code yX2_latestSet cX2_latestSet 1 (some .int) ∈ gtbl := gm 383 (by rfl) (by decide +kernel)
theorem w384 : Cond.methodLink RL 42 yX7_out ∈ gtbl := gm 384 (by decide +kernel) (by decide +kernel)
theorem w385 : Cond.instanceMethod yX7_out ∈ gtbl := gm 385 (by decide +kernel) (by decide +kernel)
theorem w386 : Cond.selects RX7 yX7_out yX7_out ∈ gtbl := gm 386 (by decide +kernel) (by decide +kernel)
set_option maxRecDepth 20000 in
theorem w387 : Cond.code yX7_out cX7_out 2 (some .int) ∈ gtbl := gm 387 (by rfl) (by decide +kernel)
theorem w388 : Cond.methodLink RX7 87 yX4_at ∈ gtbl := gm 388 (by decide +kernel) (by decide +kernel)
theorem w389 : Cond.methodLink RL 46 yX7_ratio ∈ gtbl := gm 389 (by decide +kernel) (by decide +kernel)
theorem w390 : Cond.instanceMethod yX7_ratio ∈ gtbl := gm 390 (by decide +kernel) (by decide +kernel)
theorem w391 : Cond.selects RX7 yX7_ratio yX7_ratio ∈ gtbl := gm 391 (by decide +kernel) (by decide +kernel)
set_option maxRecDepth 20000 in
theorem w392 : Cond.code yX7_ratio cX7_ratio 2 (some .boolean) ∈ gtbl := gm 392 (by rfl) (by decide +kernel)
theorem w393 : Cond.methodLink RX7 91 yX6_setRatio ∈ gtbl := gm 393 (by decide +kernel) (by decide +kernel)
theorem w394 : Cond.instanceMethod yX6_setRatio ∈ gtbl := gm 394 (by decide +kernel) (by decide +kernel)
theorem w395 : Cond.selects RX6 yX6_setRatio yX6_setRatio ∈ gtbl := gm 395 (by decide +kernel) (by decide +kernel)
set_option maxRecDepth 20000 in
theorem w396 : Cond.code yX6_setRatio cX6_setRatio 2 (some .boolean) ∈ gtbl := gm 396 (by rfl) (by decide +kernel)
theorem w397 : Cond.methodLink RL 50 yX7_bars ∈ gtbl := gm 397 (by decide +kernel) (by decide +kernel)
theorem w398 : Cond.instanceMethod yX7_bars ∈ gtbl := gm 398 (by decide +kernel) (by decide +kernel)
theorem w399 : Cond.selects RX7 yX7_bars yX7_bars ∈ gtbl := gm 399 (by decide +kernel) (by decide +kernel)
set_option maxRecDepth 20000 in
theorem w400 : Cond.code yX7_bars cX7_bars 2 (some .int) ∈ gtbl := gm 400 (by rfl) (by decide +kernel)
theorem w401 : Cond.methodLink RX7 94 yX6_drawBars ∈ gtbl := gm 401 (by decide +kernel) (by decide +kernel)
theorem w402 : Cond.instanceMethod yX6_drawBars ∈ gtbl := gm 402 (by decide +kernel) (by decide +kernel)
theorem w403 : Cond.selects RX6 yX6_drawBars yX6_drawBars ∈ gtbl := gm 403 (by decide +kernel) (by decide +kernel)
set_option maxRecDepth 20000 in
theorem w404 : Cond.code yX6_drawBars cX6_drawBars 4 (some .int) ∈ gtbl := gm 404 (by rfl) (by decide +kernel)
theorem w405 : Cond.methodLink RX6 49 yX4_size ∈ gtbl := gm 405 (by decide +kernel) (by decide +kernel)
theorem w406 : Cond.methodLink RX6 53 yX4_allWithin ∈ gtbl := gm 406 (by decide +kernel) (by decide +kernel)
theorem w407 : Cond.methodLink RX6 57 yX6_takeDigits ∈ gtbl := gm 407 (by decide +kernel) (by decide +kernel)
theorem w409 : Cond.instanceMethod yX6_takeDigits ∈ gtbl := gm 409 (by decide +kernel) (by decide +kernel)
set_option maxRecDepth 20000 in
theorem w410 : Cond.code yX6_takeDigits cX6_takeDigits 3 none ∈ gtbl := gm 410 (by rfl) (by decide +kernel)
theorem w411 : Cond.methodLink RX6 61 yX4_clear ∈ gtbl := gm 411 (by decide +kernel) (by decide +kernel)
theorem w412 : Cond.methodLink RX6 64 yX4_add ∈ gtbl := gm 412 (by decide +kernel) (by decide +kernel)
theorem w413 : Cond.methodLink RX6 68 yX4_at ∈ gtbl := gm 413 (by decide +kernel) (by decide +kernel)
theorem w414 : Cond.methodLink RX6 100 yX6_checkOf ∈ gtbl := gm 414 (by decide +kernel) (by decide +kernel)
theorem w415 : Cond.static yX6_checkOf ∈ gtbl := gm 415 (by decide +kernel) (by decide +kernel)
set_option maxRecDepth 20000 in
theorem w416 : Cond.code yX6_checkOf cX6_checkOf 5 (some .int) ∈ gtbl := gm 416 (by rfl) (by decide +kernel)
theorem w417 : Cond.methodLink RX6 72 yX6_codeOf ∈ gtbl := gm 417 (by decide +kernel) (by decide +kernel)
theorem w418 : Cond.static yX6_codeOf ∈ gtbl := gm 418 (by decide +kernel) (by decide +kernel)
set_option maxRecDepth 20000 in
theorem w419 : Cond.code yX6_codeOf cX6_codeOf 1 (some .int) ∈ gtbl := gm 419 (by rfl) (by decide +kernel)
theorem w422 : Cond.methodLink RX6 75 yX6_drawPair ∈ gtbl := gm 422 (by decide +kernel) (by decide +kernel)
theorem w424 : Cond.instanceMethod yX6_drawPair ∈ gtbl := gm 424 (by decide +kernel) (by decide +kernel)
set_option maxRecDepth 20000 in
theorem w425 : Cond.code yX6_drawPair cX6_drawPair 5 none ∈ gtbl := gm 425 (by rfl) (by decide +kernel)
theorem w426 : Cond.methodLink RL 54 yX7_read ∈ gtbl := gm 426 (by decide +kernel) (by decide +kernel)
theorem w427 : Cond.instanceMethod yX7_read ∈ gtbl := gm 427 (by decide +kernel) (by decide +kernel)
theorem w428 : Cond.selects RX7 yX7_read yX7_read ∈ gtbl := gm 428 (by decide +kernel) (by decide +kernel)
set_option maxRecDepth 20000 in
theorem w429 : Cond.code yX7_read cX7_read 2 (some .int) ∈ gtbl := gm 429 (by rfl) (by decide +kernel)
theorem w430 : Cond.methodLink RX7 98 yX6_readBars ∈ gtbl := gm 430 (by decide +kernel) (by decide +kernel)
theorem w431 : Cond.instanceMethod yX6_readBars ∈ gtbl := gm 431 (by decide +kernel) (by decide +kernel)
theorem w432 : Cond.selects RX6 yX6_readBars yX6_readBars ∈ gtbl := gm 432 (by decide +kernel) (by decide +kernel)
set_option maxRecDepth 20000 in
theorem w433 : Cond.code yX6_readBars cX6_readBars 3 (some .int) ∈ gtbl := gm 433 (by rfl) (by decide +kernel)
theorem w434 : Cond.methodLink RX6 79 yX6_canBeBars ∈ gtbl := gm 434 (by decide +kernel) (by decide +kernel)
theorem w435 : Cond.static yX6_canBeBars ∈ gtbl := gm 435 (by decide +kernel) (by decide +kernel)
set_option maxRecDepth 20000 in
theorem w436 : Cond.code yX6_canBeBars cX6_canBeBars 2 (some .boolean) ∈ gtbl := gm 436 (by rfl) (by decide +kernel)
theorem w437 : Cond.methodLink RX6 83 yX6_keepFault ∈ gtbl := gm 437 (by decide +kernel) (by decide +kernel)
theorem w439 : Cond.instanceMethod yX6_keepFault ∈ gtbl := gm 439 (by decide +kernel) (by decide +kernel)
set_option maxRecDepth 20000 in
theorem w440 : Cond.code yX6_keepFault cX6_keepFault 3 none ∈ gtbl := gm 440 (by rfl) (by decide +kernel)
theorem w441 : Cond.methodLink RX6 87 yX6_findWides ∈ gtbl := gm 441 (by decide +kernel) (by decide +kernel)
theorem w443 : Cond.instanceMethod yX6_findWides ∈ gtbl := gm 443 (by decide +kernel) (by decide +kernel)
set_option maxRecDepth 20000 in
theorem w444 : Cond.code yX6_findWides cX6_findWides 5 none ∈ gtbl := gm 444 (by rfl) (by decide +kernel)
theorem w445 : Cond.methodLink RX6 104 yJ9_min_7cf53 ∈ gtbl := gm 445 (by decide +kernel) (by decide +kernel)
theorem w446 : Cond.static yJ9_min_7cf53 ∈ gtbl := gm 446 (by decide +kernel) (by decide +kernel)
set_option maxRecDepth 20000 in
theorem w447 : Cond.code yJ9_min_7cf53 cJ9_min_7cf53 2 (some .int) ∈ gtbl := gm 447 (by rfl) (by decide +kernel)
theorem w448 : Cond.methodLink RX6 110 yJ9_max_7cf53 ∈ gtbl := gm 448 (by decide +kernel) (by decide +kernel)
theorem w449 : Cond.methodLink RX6 90 yX3_decode ∈ gtbl := gm 449 (by decide +kernel) (by decide +kernel)
theorem w450 : Cond.instanceMethod yX3_decode ∈ gtbl := gm 450 (by decide +kernel) (by decide +kernel)
theorem w451 : Cond.selects RX3 yX3_decode yX3_decode ∈ gtbl := gm 451 (by decide +kernel) (by decide +kernel)
set_option maxRecDepth 20000 in
theorem w452 : Cond.code yX3_decode cX3_decode 4 (some .boolean) ∈ gtbl := gm 452 (by rfl) (by decide +kernel)
theorem w453 : Cond.methodLink RX3 34 yX4_clear ∈ gtbl := gm 453 (by decide +kernel) (by decide +kernel)
theorem w454 : Cond.methodLink RX3 37 yX3_endsStand ∈ gtbl := gm 454 (by decide +kernel) (by decide +kernel)
theorem w456 : Cond.instanceMethod yX3_endsStand ∈ gtbl := gm 456 (by decide +kernel) (by decide +kernel)
set_option maxRecDepth 20000 in
theorem w457 : Cond.code yX3_endsStand cX3_endsStand 2 (some .boolean) ∈ gtbl := gm 457 (by rfl) (by decide +kernel)
theorem w458 : Cond.methodLink RX3 63 yX3_stripe ∈ gtbl := gm 458 (by decide +kernel) (by decide +kernel)
theorem w460 : Cond.instanceMethod yX3_stripe ∈ gtbl := gm 460 (by decide +kernel) (by decide +kernel)
set_option maxRecDepth 20000 in
theorem w461 : Cond.code yX3_stripe cX3_stripe 2 (some .int) ∈ gtbl := gm 461 (by rfl) (by decide +kernel)
theorem w462 : Cond.methodLink RX3 45 yX4_size ∈ gtbl := gm 462 (by decide +kernel) (by decide +kernel)
theorem w463 : Cond.methodLink RX3 53 yX4_at ∈ gtbl := gm 463 (by decide +kernel) (by decide +kernel)
theorem w464 : Cond.methodLink RX3 41 yX3_refuse ∈ gtbl := gm 464 (by decide +kernel) (by decide +kernel)
theorem w466 : Cond.instanceMethod yX3_refuse ∈ gtbl := gm 466 (by decide +kernel) (by decide +kernel)
set_option maxRecDepth 20000 in
theorem w467 : Cond.code yX3_refuse cX3_refuse 3 (some .boolean) ∈ gtbl := gm 467 (by rfl) (by decide +kernel)
theorem w468 : Cond.methodLink RX3 49 yX3_addDigit ∈ gtbl := gm 468 (by decide +kernel) (by decide +kernel)
theorem w470 : Cond.instanceMethod yX3_addDigit ∈ gtbl := gm 470 (by decide +kernel) (by decide +kernel)
set_option maxRecDepth 20000 in
theorem w471 : Cond.code yX3_addDigit cX3_addDigit 4 (some .boolean) ∈ gtbl := gm 471 (by rfl) (by decide +kernel)
theorem w473 : Cond.methodLink RX3 70 yX4_add ∈ gtbl := gm 473 (by decide +kernel) (by decide +kernel)
theorem w475 : Cond.methodLink RX6 94 yX6_keepDigits ∈ gtbl := gm 475 (by decide +kernel) (by decide +kernel)
theorem w477 : Cond.instanceMethod yX6_keepDigits ∈ gtbl := gm 477 (by decide +kernel) (by decide +kernel)
set_option maxRecDepth 20000 in
theorem w478 : Cond.code yX6_keepDigits cX6_keepDigits 5 (some .int) ∈ gtbl := gm 478 (by rfl) (by decide +kernel)
theorem w479 : Cond.methodLink RL 58 yX7_fault ∈ gtbl := gm 479 (by decide +kernel) (by decide +kernel)
theorem w480 : Cond.instanceMethod yX7_fault ∈ gtbl := gm 480 (by decide +kernel) (by decide +kernel)
theorem w481 : Cond.selects RX7 yX7_fault yX7_fault ∈ gtbl := gm 481 (by decide +kernel) (by decide +kernel)
set_option maxRecDepth 20000 in
theorem w482 : Cond.code yX7_fault cX7_fault 2 (some .int) ∈ gtbl := gm 482 (by rfl) (by decide +kernel)
theorem w483 : Cond.methodLink RX7 101 yX6_latestFault ∈ gtbl := gm 483 (by decide +kernel) (by decide +kernel)
theorem w484 : Cond.instanceMethod yX6_latestFault ∈ gtbl := gm 484 (by decide +kernel) (by decide +kernel)
theorem w485 : Cond.selects RX6 yX6_latestFault yX6_latestFault ∈ gtbl := gm 485 (by decide +kernel) (by decide +kernel)
set_option maxRecDepth 20000 in
theorem w486 : Cond.code yX6_latestFault cX6_latestFault 2 (some .int) ∈ gtbl := gm 486 (by rfl) (by decide +kernel)
theorem w487 : Cond.methodLink RL 62 yX7_take ∈ gtbl := gm 487 (by decide +kernel) (by decide +kernel)
theorem w488 : Cond.instanceMethod yX7_take ∈ gtbl := gm 488 (by decide +kernel) (by decide +kernel)
theorem w489 : Cond.selects RX7 yX7_take yX7_take ∈ gtbl := gm 489 (by decide +kernel) (by decide +kernel)
set_option maxRecDepth 20000 in
theorem w490 : Cond.code yX7_take cX7_take 1 (some .int) ∈ gtbl := gm 490 (by rfl) (by decide +kernel)
theorem w491 : Cond.methodLink RX7 104 yX4_copyFrom ∈ gtbl := gm 491 (by decide +kernel) (by decide +kernel)
theorem w492 : Cond.methodLink RL 68 yX7_sheet ∈ gtbl := gm 492 (by decide +kernel) (by decide +kernel)
theorem w493 : Cond.instanceMethod yX7_sheet ∈ gtbl := gm 493 (by decide +kernel) (by decide +kernel)
theorem w494 : Cond.selects RX7 yX7_sheet yX7_sheet ∈ gtbl := gm 494 (by decide +kernel) (by decide +kernel)
set_option maxRecDepth 20000 in
theorem w495 : Cond.code yX7_sheet cX7_sheet 4 (some .boolean) ∈ gtbl := gm 495 (by rfl) (by decide +kernel)
theorem w496 : Cond.methodLink RX7 108 yX5_replace ∈ gtbl := gm 496 (by decide +kernel) (by decide +kernel)
theorem w497 : Cond.instanceMethod yX5_replace ∈ gtbl := gm 497 (by decide +kernel) (by decide +kernel)
theorem w498 : Cond.selects RX5 yX5_replace yX5_replace ∈ gtbl := gm 498 (by decide +kernel) (by decide +kernel)
set_option maxRecDepth 20000 in
theorem w499 : Cond.code yX5_replace cX5_replace 5 (some .boolean) ∈ gtbl := gm 499 (by rfl) (by decide +kernel)
theorem w501 : Cond.static yX7_isSheet ∈ gtbl := gm 501 (by decide +kernel) (by decide +kernel)
set_option maxRecDepth 20000 in
theorem w502 : Cond.code yX7_isSheet cX7_isSheet 1 (some .boolean) ∈ gtbl := gm 502 (by rfl) (by decide +kernel)
theorem w503 : Cond.methodLink RX7 112 yX0_forget ∈ gtbl := gm 503 (by decide +kernel) (by decide +kernel)
theorem w504 : Cond.instanceMethod yX0_forget ∈ gtbl := gm 504 (by decide +kernel) (by decide +kernel)
theorem w505 : Cond.selects RX0 yX0_forget yX0_forget ∈ gtbl := gm 505 (by decide +kernel) (by decide +kernel)
set_option maxRecDepth 20000 in
theorem w506 : Cond.code yX0_forget cX0_forget 1 none ∈ gtbl := gm 506 (by rfl) (by decide +kernel)
theorem w507 : Cond.methodLink RL 73 yX7_come ∈ gtbl := gm 507 (by decide +kernel) (by decide +kernel)
theorem w508 : Cond.instanceMethod yX7_come ∈ gtbl := gm 508 (by decide +kernel) (by decide +kernel)
theorem w509 : Cond.selects RX7 yX7_come yX7_come ∈ gtbl := gm 509 (by decide +kernel) (by decide +kernel)
set_option maxRecDepth 20000 in
theorem w510 : Cond.code yX7_come cX7_come 4 (some .int) ∈ gtbl := gm 510 (by rfl) (by decide +kernel)
theorem w511 : Cond.methodLink RX7 115 yX1_addLabels ∈ gtbl := gm 511 (by decide +kernel) (by decide +kernel)
theorem w512 : Cond.instanceMethod yX1_addLabels ∈ gtbl := gm 512 (by decide +kernel) (by decide +kernel)
theorem w513 : Cond.selects RX1 yX1_addLabels yX1_addLabels ∈ gtbl := gm 513 (by decide +kernel) (by decide +kernel)
set_option maxRecDepth 20000 in
theorem w514 : Cond.code yX1_addLabels cX1_addLabels 5 (some .int) ∈ gtbl := gm 514 (by rfl) (by decide +kernel)
theorem w516 : Cond.static yX7_isGroup ∈ gtbl := gm 516 (by decide +kernel) (by decide +kernel)
set_option maxRecDepth 20000 in
theorem w517 : Cond.code yX7_isGroup cX7_isGroup 1 (some .boolean) ∈ gtbl := gm 517 (by rfl) (by decide +kernel)
theorem w518 : Cond.methodLink RL 78 yX7_look ∈ gtbl := gm 518 (by decide +kernel) (by decide +kernel)
theorem w519 : Cond.instanceMethod yX7_look ∈ gtbl := gm 519 (by decide +kernel) (by decide +kernel)
theorem w520 : Cond.selects RX7 yX7_look yX7_look ∈ gtbl := gm 520 (by decide +kernel) (by decide +kernel)
set_option maxRecDepth 20000 in
theorem w521 : Cond.code yX7_look cX7_look 2 (some .int) ∈ gtbl := gm 521 (by rfl) (by decide +kernel)
theorem w522 : Cond.methodLink RX7 119 yX1_count ∈ gtbl := gm 522 (by decide +kernel) (by decide +kernel)
theorem w523 : Cond.instanceMethod yX1_count ∈ gtbl := gm 523 (by decide +kernel) (by decide +kernel)
theorem w524 : Cond.selects RX1 yX1_count yX1_count ∈ gtbl := gm 524 (by decide +kernel) (by decide +kernel)
set_option maxRecDepth 20000 in
theorem w525 : Cond.code yX1_count cX1_count 1 (some .int) ∈ gtbl := gm 525 (by rfl) (by decide +kernel)
theorem w526 : Cond.methodLink RX7 122 yX1_allWaiting ∈ gtbl := gm 526 (by decide +kernel) (by decide +kernel)
theorem w527 : Cond.instanceMethod yX1_allWaiting ∈ gtbl := gm 527 (by decide +kernel) (by decide +kernel)
theorem w528 : Cond.selects RX1 yX1_allWaiting yX1_allWaiting ∈ gtbl := gm 528 (by decide +kernel) (by decide +kernel)
set_option maxRecDepth 20000 in
theorem w529 : Cond.code yX1_allWaiting cX1_allWaiting 3 (some .int) ∈ gtbl := gm 529 (by rfl) (by decide +kernel)
theorem w530 : Cond.methodLink RX7 125 yX5_allFree ∈ gtbl := gm 530 (by decide +kernel) (by decide +kernel)
theorem w531 : Cond.instanceMethod yX5_allFree ∈ gtbl := gm 531 (by decide +kernel) (by decide +kernel)
theorem w532 : Cond.selects RX5 yX5_allFree yX5_allFree ∈ gtbl := gm 532 (by decide +kernel) (by decide +kernel)
set_option maxRecDepth 20000 in
theorem w533 : Cond.code yX5_allFree cX5_allFree 3 (some .int) ∈ gtbl := gm 533 (by rfl) (by decide +kernel)
theorem w534 : Cond.methodLink RX5 33 yX5_freeIn ∈ gtbl := gm 534 (by decide +kernel) (by decide +kernel)
theorem w535 : Cond.instanceMethod yX5_freeIn ∈ gtbl := gm 535 (by decide +kernel) (by decide +kernel)
theorem w536 : Cond.selects RX5 yX5_freeIn yX5_freeIn ∈ gtbl := gm 536 (by decide +kernel) (by decide +kernel)
set_option maxRecDepth 20000 in
theorem w537 : Cond.code yX5_freeIn cX5_freeIn 2 (some .int) ∈ gtbl := gm 537 (by rfl) (by decide +kernel)
theorem w538 : Cond.methodLink RX5 27 yJ13_bitCount_95d88 ∈ gtbl := gm 538 (by decide +kernel) (by decide +kernel)
theorem w539 : Cond.static yJ13_bitCount_95d88 ∈ gtbl := gm 539 (by decide +kernel) (by decide +kernel)
set_option maxRecDepth 20000 in
theorem w540 : Cond.code yJ13_bitCount_95d88 cJ13_bitCount_95d88 2 (some .int) ∈ gtbl := gm 540 (by rfl) (by decide +kernel)
theorem w541 : Cond.constantLong RJ13 314 (6148914691236517205 : Int64) ∈ gtbl := gm 541 (by decide +kernel) (by decide +kernel)
theorem w542 : Cond.constantLong RJ13 316 (3689348814741910323 : Int64) ∈ gtbl := gm 542 (by decide +kernel) (by decide +kernel)
theorem w543 : Cond.constantLong RJ13 318 (1085102592571150095 : Int64) ∈ gtbl := gm 543 (by decide +kernel) (by decide +kernel)
theorem w544 : Cond.methodLink RX7 128 yX0_refresh ∈ gtbl := gm 544 (by decide +kernel) (by decide +kernel)
theorem w545 : Cond.instanceMethod yX0_refresh ∈ gtbl := gm 545 (by decide +kernel) (by decide +kernel)
theorem w546 : Cond.selects RX0 yX0_refresh yX0_refresh ∈ gtbl := gm 546 (by decide +kernel) (by decide +kernel)
set_option maxRecDepth 20000 in
theorem w547 : Cond.code yX0_refresh cX0_refresh 1 none ∈ gtbl := gm 547 (by rfl) (by decide +kernel)
theorem w548 : Cond.methodLink RX0 47 yX0_seek ∈ gtbl := gm 548 (by decide +kernel) (by decide +kernel)
theorem w550 : Cond.instanceMethod yX0_seek ∈ gtbl := gm 550 (by decide +kernel) (by decide +kernel)
set_option maxRecDepth 20000 in
theorem w551 : Cond.code yX0_seek cX0_seek 2 none ∈ gtbl := gm 551 (by rfl) (by decide +kernel)
theorem w552 : Cond.methodLink RX0 57 yX1_waitingIn ∈ gtbl := gm 552 (by decide +kernel) (by decide +kernel)
theorem w553 : Cond.instanceMethod yX1_waitingIn ∈ gtbl := gm 553 (by decide +kernel) (by decide +kernel)
theorem w554 : Cond.selects RX1 yX1_waitingIn yX1_waitingIn ∈ gtbl := gm 554 (by decide +kernel) (by decide +kernel)
set_option maxRecDepth 20000 in
theorem w555 : Cond.code yX1_waitingIn cX1_waitingIn 2 (some .int) ∈ gtbl := gm 555 (by rfl) (by decide +kernel)
theorem w556 : Cond.methodLink RX0 80 yX0_trySheets ∈ gtbl := gm 556 (by decide +kernel) (by decide +kernel)
theorem w558 : Cond.instanceMethod yX0_trySheets ∈ gtbl := gm 558 (by decide +kernel) (by decide +kernel)
set_option maxRecDepth 20000 in
theorem w559 : Cond.code yX0_trySheets cX0_trySheets 4 none ∈ gtbl := gm 559 (by rfl) (by decide +kernel)
theorem w560 : Cond.methodLink RX0 84 yX0_rankOf ∈ gtbl := gm 560 (by decide +kernel) (by decide +kernel)
theorem w561 : Cond.static yX0_rankOf ∈ gtbl := gm 561 (by decide +kernel) (by decide +kernel)
set_option maxRecDepth 20000 in
theorem w562 : Cond.code yX0_rankOf cX0_rankOf 5 (some .int) ∈ gtbl := gm 562 (by rfl) (by decide +kernel)
theorem w563 : Cond.methodLink RX0 74 yX0_sheetHeap ∈ gtbl := gm 563 (by decide +kernel) (by decide +kernel)
theorem w564 : Cond.static yX0_sheetHeap ∈ gtbl := gm 564 (by decide +kernel) (by decide +kernel)
set_option maxRecDepth 20000 in
theorem w565 : Cond.code yX0_sheetHeap cX0_sheetHeap 2 (some .int) ∈ gtbl := gm 565 (by rfl) (by decide +kernel)
theorem w566 : Cond.methodLink RX0 120 yJ6_bitCount_0f7a4 ∈ gtbl := gm 566 (by decide +kernel) (by decide +kernel)
theorem w567 : Cond.methodLink RX0 87 yX0_makeRoom ∈ gtbl := gm 567 (by decide +kernel) (by decide +kernel)
theorem w569 : Cond.instanceMethod yX0_makeRoom ∈ gtbl := gm 569 (by decide +kernel) (by decide +kernel)
set_option maxRecDepth 20000 in
theorem w570 : Cond.code yX0_makeRoom cX0_makeRoom 5 (some .boolean) ∈ gtbl := gm 570 (by rfl) (by decide +kernel)
theorem w571 : Cond.methodLink RX0 94 yX5_freeIn ∈ gtbl := gm 571 (by decide +kernel) (by decide +kernel)
theorem w572 : Cond.methodLink RX0 99 yX1_allWaiting ∈ gtbl := gm 572 (by decide +kernel) (by decide +kernel)
theorem w573 : Cond.methodLink RX0 90 yX0_leastHeaps ∈ gtbl := gm 573 (by decide +kernel) (by decide +kernel)
theorem w574 : Cond.static yX0_leastHeaps ∈ gtbl := gm 574 (by decide +kernel) (by decide +kernel)
set_option maxRecDepth 20000 in
theorem w575 : Cond.code yX0_leastHeaps cX0_leastHeaps 6 (some .int) ∈ gtbl := gm 575 (by rfl) (by decide +kernel)
theorem w576 : Cond.methodLink RX0 125 yJ9_max_7cf53 ∈ gtbl := gm 576 (by decide +kernel) (by decide +kernel)
theorem w577 : Cond.methodLink RX0 130 yX0_groupShift ∈ gtbl := gm 577 (by decide +kernel) (by decide +kernel)
theorem w578 : Cond.static yX0_groupShift ∈ gtbl := gm 578 (by decide +kernel) (by decide +kernel)
set_option maxRecDepth 20000 in
theorem w579 : Cond.code yX0_groupShift cX0_groupShift 1 (some .int) ∈ gtbl := gm 579 (by rfl) (by decide +kernel)
theorem w580 : Cond.methodLink RX0 50 yX0_layAll ∈ gtbl := gm 580 (by decide +kernel) (by decide +kernel)
theorem w582 : Cond.instanceMethod yX0_layAll ∈ gtbl := gm 582 (by decide +kernel) (by decide +kernel)
set_option maxRecDepth 20000 in
theorem w583 : Cond.code yX0_layAll cX0_layAll 2 none ∈ gtbl := gm 583 (by rfl) (by decide +kernel)
theorem w584 : Cond.methodLink RX0 53 yX0_exists ∈ gtbl := gm 584 (by decide +kernel) (by decide +kernel)
theorem w585 : Cond.instanceMethod yX0_exists ∈ gtbl := gm 585 (by decide +kernel) (by decide +kernel)
theorem w586 : Cond.selects RX0 yX0_exists yX0_exists ∈ gtbl := gm 586 (by decide +kernel) (by decide +kernel)
set_option maxRecDepth 20000 in
theorem w587 : Cond.code yX0_exists cX0_exists 1 (some .boolean) ∈ gtbl := gm 587 (by rfl) (by decide +kernel)
theorem w588 : Cond.methodLink RX0 103 yX0_layGroup ∈ gtbl := gm 588 (by decide +kernel) (by decide +kernel)
theorem w590 : Cond.instanceMethod yX0_layGroup ∈ gtbl := gm 590 (by decide +kernel) (by decide +kernel)
set_option maxRecDepth 20000 in
theorem w591 : Cond.code yX0_layGroup cX0_layGroup 4 none ∈ gtbl := gm 591 (by rfl) (by decide +kernel)
theorem w592 : Cond.methodLink RX0 67 yX0_groupHeap ∈ gtbl := gm 592 (by decide +kernel) (by decide +kernel)
theorem w593 : Cond.static yX0_groupHeap ∈ gtbl := gm 593 (by decide +kernel) (by decide +kernel)
set_option maxRecDepth 20000 in
theorem w594 : Cond.code yX0_groupHeap cX0_groupHeap 2 (some .int) ∈ gtbl := gm 594 (by rfl) (by decide +kernel)
theorem w595 : Cond.methodLink RX0 106 yX1_count ∈ gtbl := gm 595 (by decide +kernel) (by decide +kernel)
theorem w596 : Cond.methodLink RX0 109 yX1_waitsIn ∈ gtbl := gm 596 (by decide +kernel) (by decide +kernel)
theorem w597 : Cond.instanceMethod yX1_waitsIn ∈ gtbl := gm 597 (by decide +kernel) (by decide +kernel)
theorem w598 : Cond.selects RX1 yX1_waitsIn yX1_waitsIn ∈ gtbl := gm 598 (by decide +kernel) (by decide +kernel)
set_option maxRecDepth 20000 in
theorem w599 : Cond.code yX1_waitsIn cX1_waitsIn 3 (some .boolean) ∈ gtbl := gm 599 (by rfl) (by decide +kernel)
theorem w600 : Cond.methodLink RX1 33 yX1_isLabel ∈ gtbl := gm 600 (by decide +kernel) (by decide +kernel)
theorem w602 : Cond.instanceMethod yX1_isLabel ∈ gtbl := gm 602 (by decide +kernel) (by decide +kernel)
set_option maxRecDepth 20000 in
theorem w603 : Cond.code yX1_isLabel cX1_isLabel 2 (some .boolean) ∈ gtbl := gm 603 (by rfl) (by decide +kernel)
theorem w604 : Cond.methodLink RX0 113 yX0_layLabel ∈ gtbl := gm 604 (by decide +kernel) (by decide +kernel)
theorem w606 : Cond.instanceMethod yX0_layLabel ∈ gtbl := gm 606 (by decide +kernel) (by decide +kernel)
set_option maxRecDepth 20000 in
theorem w607 : Cond.code yX0_layLabel cX0_layLabel 4 none ∈ gtbl := gm 607 (by rfl) (by decide +kernel)
theorem w608 : Cond.methodLink RX0 117 yX5_isFree ∈ gtbl := gm 608 (by decide +kernel) (by decide +kernel)
theorem w609 : Cond.instanceMethod yX5_isFree ∈ gtbl := gm 609 (by decide +kernel) (by decide +kernel)
theorem w610 : Cond.selects RX5 yX5_isFree yX5_isFree ∈ gtbl := gm 610 (by decide +kernel) (by decide +kernel)
set_option maxRecDepth 20000 in
theorem w611 : Cond.code yX5_isFree cX5_isFree 2 (some .boolean) ∈ gtbl := gm 611 (by rfl) (by decide +kernel)
theorem w613 : Cond.static yX7_isPlace ∈ gtbl := gm 613 (by decide +kernel) (by decide +kernel)
set_option maxRecDepth 20000 in
theorem w614 : Cond.code yX7_isPlace cX7_isPlace 1 (some .boolean) ∈ gtbl := gm 614 (by rfl) (by decide +kernel)
theorem w615 : Cond.methodLink RX7 131 yX0_pieces ∈ gtbl := gm 615 (by decide +kernel) (by decide +kernel)
theorem w616 : Cond.instanceMethod yX0_pieces ∈ gtbl := gm 616 (by decide +kernel) (by decide +kernel)
theorem w617 : Cond.selects RX0 yX0_pieces yX0_pieces ∈ gtbl := gm 617 (by decide +kernel) (by decide +kernel)
set_option maxRecDepth 20000 in
theorem w618 : Cond.code yX0_pieces cX0_pieces 3 (some .int) ∈ gtbl := gm 618 (by rfl) (by decide +kernel)
theorem w619 : Cond.methodLink RX7 134 yX0_sheetsInHeaps ∈ gtbl := gm 619 (by decide +kernel) (by decide +kernel)
theorem w620 : Cond.instanceMethod yX0_sheetsInHeaps ∈ gtbl := gm 620 (by decide +kernel) (by decide +kernel)
theorem w621 : Cond.selects RX0 yX0_sheetsInHeaps yX0_sheetsInHeaps ∈ gtbl := gm 621 (by decide +kernel) (by decide +kernel)
set_option maxRecDepth 20000 in
theorem w622 : Cond.code yX0_sheetsInHeaps cX0_sheetsInHeaps 1 (some .int) ∈ gtbl := gm 622 (by rfl) (by decide +kernel)
theorem w623 : Cond.methodLink RL 82 yX7_heap ∈ gtbl := gm 623 (by decide +kernel) (by decide +kernel)
theorem w624 : Cond.instanceMethod yX7_heap ∈ gtbl := gm 624 (by decide +kernel) (by decide +kernel)
theorem w625 : Cond.selects RX7 yX7_heap yX7_heap ∈ gtbl := gm 625 (by decide +kernel) (by decide +kernel)
set_option maxRecDepth 20000 in
theorem w626 : Cond.code yX7_heap cX7_heap 3 (some .int) ∈ gtbl := gm 626 (by rfl) (by decide +kernel)
theorem w627 : Cond.methodLink RX7 137 yX0_heapOfGroup ∈ gtbl := gm 627 (by decide +kernel) (by decide +kernel)
theorem w628 : Cond.instanceMethod yX0_heapOfGroup ∈ gtbl := gm 628 (by decide +kernel) (by decide +kernel)
theorem w629 : Cond.selects RX0 yX0_heapOfGroup yX0_heapOfGroup ∈ gtbl := gm 629 (by decide +kernel) (by decide +kernel)
set_option maxRecDepth 20000 in
theorem w630 : Cond.code yX0_heapOfGroup cX0_heapOfGroup 2 (some .int) ∈ gtbl := gm 630 (by rfl) (by decide +kernel)
theorem w632 : Cond.methodLink RX7 140 yX0_heapOfSheet ∈ gtbl := gm 632 (by decide +kernel) (by decide +kernel)
theorem w633 : Cond.instanceMethod yX0_heapOfSheet ∈ gtbl := gm 633 (by decide +kernel) (by decide +kernel)
theorem w634 : Cond.selects RX0 yX0_heapOfSheet yX0_heapOfSheet ∈ gtbl := gm 634 (by decide +kernel) (by decide +kernel)
set_option maxRecDepth 20000 in
theorem w635 : Cond.code yX0_heapOfSheet cX0_heapOfSheet 3 (some .int) ∈ gtbl := gm 635 (by rfl) (by decide +kernel)
theorem w637 : Cond.methodLink RL 86 yX7_plan ∈ gtbl := gm 637 (by decide +kernel) (by decide +kernel)
theorem w638 : Cond.instanceMethod yX7_plan ∈ gtbl := gm 638 (by decide +kernel) (by decide +kernel)
theorem w639 : Cond.selects RX7 yX7_plan yX7_plan ∈ gtbl := gm 639 (by decide +kernel) (by decide +kernel)
set_option maxRecDepth 20000 in
theorem w640 : Cond.code yX7_plan cX7_plan 3 (some .int) ∈ gtbl := gm 640 (by rfl) (by decide +kernel)
theorem w641 : Cond.methodLink RX7 143 yX7_placeOf ∈ gtbl := gm 641 (by decide +kernel) (by decide +kernel)
theorem w642 : Cond.static yX7_placeOf ∈ gtbl := gm 642 (by decide +kernel) (by decide +kernel)
set_option maxRecDepth 20000 in
theorem w643 : Cond.code yX7_placeOf cX7_placeOf 2 (some .int) ∈ gtbl := gm 643 (by rfl) (by decide +kernel)
theorem w644 : Cond.methodLink RX7 149 yX7_isSheet ∈ gtbl := gm 644 (by decide +kernel) (by decide +kernel)
theorem w645 : Cond.methodLink RX7 146 yX0_labelFor ∈ gtbl := gm 645 (by decide +kernel) (by decide +kernel)
theorem w646 : Cond.instanceMethod yX0_labelFor ∈ gtbl := gm 646 (by decide +kernel) (by decide +kernel)
theorem w647 : Cond.selects RX0 yX0_labelFor yX0_labelFor ∈ gtbl := gm 647 (by decide +kernel) (by decide +kernel)
set_option maxRecDepth 20000 in
theorem w648 : Cond.code yX0_labelFor cX0_labelFor 2 (some .int) ∈ gtbl := gm 648 (by rfl) (by decide +kernel)
theorem w650 : Cond.methodLink RL 90 yX7_print ∈ gtbl := gm 650 (by decide +kernel) (by decide +kernel)
theorem w651 : Cond.instanceMethod yX7_print ∈ gtbl := gm 651 (by decide +kernel) (by decide +kernel)
theorem w652 : Cond.selects RX7 yX7_print yX7_print ∈ gtbl := gm 652 (by decide +kernel) (by decide +kernel)
set_option maxRecDepth 20000 in
theorem w653 : Cond.code yX7_print cX7_print 4 (some .int) ∈ gtbl := gm 653 (by rfl) (by decide +kernel)
theorem w654 : Cond.methodLink RX7 152 yX0_exists ∈ gtbl := gm 654 (by decide +kernel) (by decide +kernel)
theorem w655 : Cond.methodLink RX7 156 yX7_printCell ∈ gtbl := gm 655 (by decide +kernel) (by decide +kernel)
theorem w657 : Cond.instanceMethod yX7_printCell ∈ gtbl := gm 657 (by decide +kernel) (by decide +kernel)
set_option maxRecDepth 20000 in
theorem w658 : Cond.code yX7_printCell cX7_printCell 3 (some .boolean) ∈ gtbl := gm 658 (by rfl) (by decide +kernel)
theorem w659 : Cond.methodLink RX7 177 yX5_put ∈ gtbl := gm 659 (by decide +kernel) (by decide +kernel)
theorem w660 : Cond.instanceMethod yX5_put ∈ gtbl := gm 660 (by decide +kernel) (by decide +kernel)
theorem w661 : Cond.selects RX5 yX5_put yX5_put ∈ gtbl := gm 661 (by decide +kernel) (by decide +kernel)
set_option maxRecDepth 20000 in
theorem w662 : Cond.code yX5_put cX5_put 3 none ∈ gtbl := gm 662 (by rfl) (by decide +kernel)
theorem w663 : Cond.constantLong RX5 40 (-1 : Int64) ∈ gtbl := gm 663 (by decide +kernel) (by decide +kernel)
theorem w664 : Cond.methodLink RX7 181 yX1_markPrinted ∈ gtbl := gm 664 (by decide +kernel) (by decide +kernel)
theorem w665 : Cond.instanceMethod yX1_markPrinted ∈ gtbl := gm 665 (by decide +kernel) (by decide +kernel)
theorem w666 : Cond.selects RX1 yX1_markPrinted yX1_markPrinted ∈ gtbl := gm 666 (by decide +kernel) (by decide +kernel)
set_option maxRecDepth 20000 in
theorem w667 : Cond.code yX1_markPrinted cX1_markPrinted 2 none ∈ gtbl := gm 667 (by rfl) (by decide +kernel)
theorem w668 : Cond.methodLink RL 94 yX7_printed ∈ gtbl := gm 668 (by decide +kernel) (by decide +kernel)
theorem w669 : Cond.instanceMethod yX7_printed ∈ gtbl := gm 669 (by decide +kernel) (by decide +kernel)
theorem w670 : Cond.selects RX7 yX7_printed yX7_printed ∈ gtbl := gm 670 (by decide +kernel) (by decide +kernel)
set_option maxRecDepth 20000 in
theorem w671 : Cond.code yX7_printed cX7_printed 3 (some .int) ∈ gtbl := gm 671 (by rfl) (by decide +kernel)
theorem w672 : Cond.methodLink RX7 159 yX5_labelIn ∈ gtbl := gm 672 (by decide +kernel) (by decide +kernel)
theorem w673 : Cond.instanceMethod yX5_labelIn ∈ gtbl := gm 673 (by decide +kernel) (by decide +kernel)
theorem w674 : Cond.selects RX5 yX5_labelIn yX5_labelIn ∈ gtbl := gm 674 (by decide +kernel) (by decide +kernel)
set_option maxRecDepth 20000 in
theorem w675 : Cond.code yX5_labelIn cX5_labelIn 2 (some .int) ∈ gtbl := gm 675 (by rfl) (by decide +kernel)
theorem w676 : Cond.methodLink RL 98 yX7_spoil ∈ gtbl := gm 676 (by decide +kernel) (by decide +kernel)
theorem w677 : Cond.instanceMethod yX7_spoil ∈ gtbl := gm 677 (by decide +kernel) (by decide +kernel)
theorem w678 : Cond.selects RX7 yX7_spoil yX7_spoil ∈ gtbl := gm 678 (by decide +kernel) (by decide +kernel)
set_option maxRecDepth 20000 in
theorem w679 : Cond.code yX7_spoil cX7_spoil 5 (some .int) ∈ gtbl := gm 679 (by rfl) (by decide +kernel)
theorem w680 : Cond.methodLink RX7 162 yX5_isGood ∈ gtbl := gm 680 (by decide +kernel) (by decide +kernel)
theorem w681 : Cond.instanceMethod yX5_isGood ∈ gtbl := gm 681 (by decide +kernel) (by decide +kernel)
theorem w682 : Cond.selects RX5 yX5_isGood yX5_isGood ∈ gtbl := gm 682 (by decide +kernel) (by decide +kernel)
set_option maxRecDepth 20000 in
theorem w683 : Cond.code yX5_isGood cX5_isGood 2 (some .boolean) ∈ gtbl := gm 683 (by rfl) (by decide +kernel)
theorem w684 : Cond.methodLink RX5 42 yX5_labelIn ∈ gtbl := gm 684 (by decide +kernel) (by decide +kernel)
theorem w685 : Cond.methodLink RX7 165 yX1_waitAnew ∈ gtbl := gm 685 (by decide +kernel) (by decide +kernel)
theorem w686 : Cond.instanceMethod yX1_waitAnew ∈ gtbl := gm 686 (by decide +kernel) (by decide +kernel)
theorem w687 : Cond.selects RX1 yX1_waitAnew yX1_waitAnew ∈ gtbl := gm 687 (by decide +kernel) (by decide +kernel)
set_option maxRecDepth 20000 in
theorem w688 : Cond.code yX1_waitAnew cX1_waitAnew 2 (some .boolean) ∈ gtbl := gm 688 (by rfl) (by decide +kernel)
theorem w689 : Cond.methodLink RX7 168 yX5_markSpoiled ∈ gtbl := gm 689 (by decide +kernel) (by decide +kernel)
theorem w690 : Cond.instanceMethod yX5_markSpoiled ∈ gtbl := gm 690 (by decide +kernel) (by decide +kernel)
theorem w691 : Cond.selects RX5 yX5_markSpoiled yX5_markSpoiled ∈ gtbl := gm 691 (by decide +kernel) (by decide +kernel)
set_option maxRecDepth 20000 in
theorem w692 : Cond.code yX5_markSpoiled cX5_markSpoiled 2 none ∈ gtbl := gm 692 (by rfl) (by decide +kernel)
theorem w693 : Cond.methodLink RL 102 yX7_label ∈ gtbl := gm 693 (by decide +kernel) (by decide +kernel)
theorem w694 : Cond.instanceMethod yX7_label ∈ gtbl := gm 694 (by decide +kernel) (by decide +kernel)
theorem w695 : Cond.selects RX7 yX7_label yX7_label ∈ gtbl := gm 695 (by decide +kernel) (by decide +kernel)
set_option maxRecDepth 20000 in
theorem w696 : Cond.code yX7_label cX7_label 3 (some .int) ∈ gtbl := gm 696 (by rfl) (by decide +kernel)
theorem w697 : Cond.methodLink RX7 171 yX1_tell ∈ gtbl := gm 697 (by decide +kernel) (by decide +kernel)
theorem w698 : Cond.instanceMethod yX1_tell ∈ gtbl := gm 698 (by decide +kernel) (by decide +kernel)
theorem w699 : Cond.selects RX1 yX1_tell yX1_tell ∈ gtbl := gm 699 (by decide +kernel) (by decide +kernel)
set_option maxRecDepth 20000 in
theorem w700 : Cond.code yX1_tell cX1_tell 3 (some .int) ∈ gtbl := gm 700 (by rfl) (by decide +kernel)
theorem w701 : Cond.classLink RL 10 RX8 ∈ gtbl := gm 701 (by decide +kernel) (by decide +kernel)
theorem w702 : Cond.instantiable RX8 46 ∈ gtbl := gm 702 (by decide +kernel) (by decide +kernel)
theorem w703 : Cond.methodLink RL 12 yX8_init ∈ gtbl := gm 703 (by decide +kernel) (by decide +kernel)
theorem w704 : Cond.instanceMethod yX8_init ∈ gtbl := gm 704 (by decide +kernel) (by decide +kernel)
set_option maxRecDepth 20000 in
theorem w705 : Cond.code yX8_init cX8_init 2 none ∈ gtbl := gm 705 (by rfl) (by decide +kernel)
theorem w706 : Cond.methodLink RX8 1 (⟨"java/lang/Object", "<init>", "()V"⟩ : MethodName) ∈ gtbl := gm 706 (by decide +kernel) (by decide +kernel)
theorem w707 : Cond.fieldLink RX8 7 "StickerPressModel" "width" "[I" ∈ gtbl := gm 707 (by decide +kernel) (by decide +kernel)
theorem w708 : Cond.fieldLink RX8 13 "StickerPressModel" "tape" "[I" ∈ gtbl := gm 708 (by decide +kernel) (by decide +kernel)
theorem w709 : Cond.fieldLink RX8 16 "StickerPressModel" "out" "[I" ∈ gtbl := gm 709 (by decide +kernel) (by decide +kernel)
theorem w710 : Cond.fieldLink RX8 111 "StickerPressModel" "taped" "I" ∈ gtbl := gm 710 (by decide +kernel) (by decide +kernel)
theorem w711 : Cond.fieldLink RX8 153 "StickerPressModel" "outs" "I" ∈ gtbl := gm 711 (by decide +kernel) (by decide +kernel)
theorem w712 : Cond.fieldLink RX8 19 "StickerPressModel" "fromLong" "[I" ∈ gtbl := gm 712 (by decide +kernel) (by decide +kernel)
theorem w713 : Cond.fieldLink RX8 22 "StickerPressModel" "toLong" "[I" ∈ gtbl := gm 713 (by decide +kernel) (by decide +kernel)
theorem w714 : Cond.fieldLink RX8 25 "StickerPressModel" "from" "[I" ∈ gtbl := gm 714 (by decide +kernel) (by decide +kernel)
theorem w715 : Cond.fieldLink RX8 28 "StickerPressModel" "to" "[I" ∈ gtbl := gm 715 (by decide +kernel) (by decide +kernel)
theorem w716 : Cond.fieldLink RX8 31 "StickerPressModel" "text" "[I" ∈ gtbl := gm 716 (by decide +kernel) (by decide +kernel)
theorem w717 : Cond.fieldLink RX8 34 "StickerPressModel" "made" "[I" ∈ gtbl := gm 717 (by decide +kernel) (by decide +kernel)
theorem w718 : Cond.fieldLink RX8 37 "StickerPressModel" "best" "[I" ∈ gtbl := gm 718 (by decide +kernel) (by decide +kernel)
theorem w719 : Cond.fieldLink RX8 120 "StickerPressModel" "textLong" "I" ∈ gtbl := gm 719 (by decide +kernel) (by decide +kernel)
theorem w720 : Cond.fieldLink RX8 117 "StickerPressModel" "madeLong" "I" ∈ gtbl := gm 720 (by decide +kernel) (by decide +kernel)
theorem w721 : Cond.fieldLink RX8 150 "StickerPressModel" "bestLong" "I" ∈ gtbl := gm 721 (by decide +kernel) (by decide +kernel)
theorem w722 : Cond.fieldLink RX8 133 "StickerPressModel" "bestSet" "I" ∈ gtbl := gm 722 (by decide +kernel) (by decide +kernel)
theorem w723 : Cond.fieldLink RX8 147 "StickerPressModel" "bestWide" "I" ∈ gtbl := gm 723 (by decide +kernel) (by decide +kernel)
theorem w724 : Cond.fieldLink RX8 40 "StickerPressModel" "used" "I" ∈ gtbl := gm 724 (by decide +kernel) (by decide +kernel)
theorem w725 : Cond.fieldLink RX8 44 "StickerPressModel" "ratio" "I" ∈ gtbl := gm 725 (by decide +kernel) (by decide +kernel)
theorem w726 : Cond.fieldLink RX8 47 "StickerPressModel" "digit" "[I" ∈ gtbl := gm 726 (by decide +kernel) (by decide +kernel)
theorem w727 : Cond.fieldLink RX8 50 "StickerPressModel" "stripe" "[I" ∈ gtbl := gm 727 (by decide +kernel) (by decide +kernel)
theorem w728 : Cond.fieldLink RX8 159 "StickerPressModel" "digits" "I" ∈ gtbl := gm 728 (by decide +kernel) (by decide +kernel)
theorem w729 : Cond.fieldLink RX8 169 "StickerPressModel" "stripes" "I" ∈ gtbl := gm 729 (by decide +kernel) (by decide +kernel)
theorem w730 : Cond.fieldLink RX8 185 "StickerPressModel" "faultKind" "I" ∈ gtbl := gm 730 (by decide +kernel) (by decide +kernel)
theorem w731 : Cond.fieldLink RX8 188 "StickerPressModel" "behind" "I" ∈ gtbl := gm 731 (by decide +kernel) (by decide +kernel)
theorem w732 : Cond.fieldLink RX8 53 "StickerPressModel" "faultPlace" "I" ∈ gtbl := gm 732 (by decide +kernel) (by decide +kernel)
theorem w733 : Cond.fieldLink RX8 172 "StickerPressModel" "wrong" "I" ∈ gtbl := gm 733 (by decide +kernel) (by decide +kernel)
theorem w734 : Cond.fieldLink RX8 175 "StickerPressModel" "wrongAt" "I" ∈ gtbl := gm 734 (by decide +kernel) (by decide +kernel)
theorem w735 : Cond.fieldLink RX8 56 "StickerPressModel" "free" "[J" ∈ gtbl := gm 735 (by decide +kernel) (by decide +kernel)
theorem w736 : Cond.fieldLink RX8 60 "StickerPressModel" "cell" "[I" ∈ gtbl := gm 736 (by decide +kernel) (by decide +kernel)
theorem w737 : Cond.fieldLink RX8 63 "StickerPressModel" "spoiled" "[Z" ∈ gtbl := gm 737 (by decide +kernel) (by decide +kernel)
theorem w738 : Cond.fieldLink RX8 198 "StickerPressModel" "labels" "I" ∈ gtbl := gm 738 (by decide +kernel) (by decide +kernel)
theorem w739 : Cond.fieldLink RX8 67 "StickerPressModel" "groupOf" "[I" ∈ gtbl := gm 739 (by decide +kernel) (by decide +kernel)
theorem w740 : Cond.fieldLink RX8 70 "StickerPressModel" "printedOften" "[I" ∈ gtbl := gm 740 (by decide +kernel) (by decide +kernel)
theorem w741 : Cond.fieldLink RX8 73 "StickerPressModel" "waits" "[Z" ∈ gtbl := gm 741 (by decide +kernel) (by decide +kernel)
theorem w742 : Cond.fieldLink RX8 76 "StickerPressModel" "heapOf" "[I" ∈ gtbl := gm 742 (by decide +kernel) (by decide +kernel)
theorem w743 : Cond.fieldLink RX8 79 "StickerPressModel" "sheetHeap" "[I" ∈ gtbl := gm 743 (by decide +kernel) (by decide +kernel)
theorem w744 : Cond.fieldLink RX8 82 "StickerPressModel" "bestHeap" "[I" ∈ gtbl := gm 744 (by decide +kernel) (by decide +kernel)
theorem w745 : Cond.fieldLink RX8 85 "StickerPressModel" "bestSheet" "[I" ∈ gtbl := gm 745 (by decide +kernel) (by decide +kernel)
theorem w746 : Cond.fieldLink RX8 88 "StickerPressModel" "many" "[I" ∈ gtbl := gm 746 (by decide +kernel) (by decide +kernel)
theorem w747 : Cond.fieldLink RX8 91 "StickerPressModel" "room" "[I" ∈ gtbl := gm 747 (by decide +kernel) (by decide +kernel)
theorem w748 : Cond.fieldLink RX8 207 "StickerPressModel" "bestPieces" "I" ∈ gtbl := gm 748 (by decide +kernel) (by decide +kernel)
theorem w749 : Cond.fieldLink RX8 219 "StickerPressModel" "bestSheets" "I" ∈ gtbl := gm 749 (by decide +kernel) (by decide +kernel)
theorem w750 : Cond.fieldLink RX8 94 "StickerPressModel" "need" "[I" ∈ gtbl := gm 750 (by decide +kernel) (by decide +kernel)
theorem w751 : Cond.fieldLink RX8 97 "StickerPressModel" "has" "[I" ∈ gtbl := gm 751 (by decide +kernel) (by decide +kernel)
theorem w752 : Cond.fieldLink RX8 100 "StickerPressModel" "spot" "[I" ∈ gtbl := gm 752 (by decide +kernel) (by decide +kernel)
theorem w846 : Cond.methodLink RL 17 yX8_wide ∈ gtbl := gm 846 (by decide +kernel) (by decide +kernel)
theorem w847 : Cond.instanceMethod yX8_wide ∈ gtbl := gm 847 (by decide +kernel) (by decide +kernel)
theorem w848 : Cond.selects RX8 yX8_wide yX8_wide ∈ gtbl := gm 848 (by decide +kernel) (by decide +kernel)
set_option maxRecDepth 20000 in
theorem w849 : Cond.code yX8_wide cX8_wide 3 (some .boolean) ∈ gtbl := gm 849 (by rfl) (by decide +kernel)
theorem w850 : Cond.methodLink RX8 107 yX8_isSign ∈ gtbl := gm 850 (by decide +kernel) (by decide +kernel)
theorem w851 : Cond.static yX8_isSign ∈ gtbl := gm 851 (by decide +kernel) (by decide +kernel)
set_option maxRecDepth 20000 in
theorem w852 : Cond.code yX8_isSign cX8_isSign 1 (some .boolean) ∈ gtbl := gm 852 (by rfl) (by decide +kernel)
theorem w853 : Cond.methodLink RX8 103 yX8_isIn ∈ gtbl := gm 853 (by decide +kernel) (by decide +kernel)
theorem w854 : Cond.static yX8_isIn ∈ gtbl := gm 854 (by decide +kernel) (by decide +kernel)
set_option maxRecDepth 20000 in
theorem w855 : Cond.code yX8_isIn cX8_isIn 3 (some .boolean) ∈ gtbl := gm 855 (by rfl) (by decide +kernel)
theorem w856 : Cond.methodLink RL 22 yX8_feed ∈ gtbl := gm 856 (by decide +kernel) (by decide +kernel)
theorem w857 : Cond.instanceMethod yX8_feed ∈ gtbl := gm 857 (by decide +kernel) (by decide +kernel)
theorem w858 : Cond.selects RX8 yX8_feed yX8_feed ∈ gtbl := gm 858 (by decide +kernel) (by decide +kernel)
set_option maxRecDepth 20000 in
theorem w859 : Cond.code yX8_feed cX8_feed 8 (some .int) ∈ gtbl := gm 859 (by rfl) (by decide +kernel)
theorem w860 : Cond.methodLink RL 27 yX8_end ∈ gtbl := gm 860 (by decide +kernel) (by decide +kernel)
theorem w861 : Cond.instanceMethod yX8_end ∈ gtbl := gm 861 (by decide +kernel) (by decide +kernel)
theorem w862 : Cond.selects RX8 yX8_end yX8_end ∈ gtbl := gm 862 (by decide +kernel) (by decide +kernel)
set_option maxRecDepth 20000 in
theorem w863 : Cond.code yX8_end cX8_end 2 (some .boolean) ∈ gtbl := gm 863 (by rfl) (by decide +kernel)
theorem w864 : Cond.methodLink RL 31 yX8_shorten ∈ gtbl := gm 864 (by decide +kernel) (by decide +kernel)
theorem w865 : Cond.instanceMethod yX8_shorten ∈ gtbl := gm 865 (by decide +kernel) (by decide +kernel)
theorem w866 : Cond.selects RX8 yX8_shorten yX8_shorten ∈ gtbl := gm 866 (by decide +kernel) (by decide +kernel)
set_option maxRecDepth 20000 in
theorem w867 : Cond.code yX8_shorten cX8_shorten 5 (some .boolean) ∈ gtbl := gm 867 (by rfl) (by decide +kernel)
theorem w868 : Cond.methodLink RX8 114 yX8_areSigns ∈ gtbl := gm 868 (by decide +kernel) (by decide +kernel)
theorem w870 : Cond.instanceMethod yX8_areSigns ∈ gtbl := gm 870 (by decide +kernel) (by decide +kernel)
set_option maxRecDepth 20000 in
theorem w871 : Cond.code yX8_areSigns cX8_areSigns 4 (some .boolean) ∈ gtbl := gm 871 (by rfl) (by decide +kernel)
theorem w872 : Cond.methodLink RL 36 yX8_fit ∈ gtbl := gm 872 (by decide +kernel) (by decide +kernel)
theorem w873 : Cond.instanceMethod yX8_fit ∈ gtbl := gm 873 (by decide +kernel) (by decide +kernel)
theorem w874 : Cond.selects RX8 yX8_fit yX8_fit ∈ gtbl := gm 874 (by decide +kernel) (by decide +kernel)
set_option maxRecDepth 20000 in
theorem w875 : Cond.code yX8_fit cX8_fit 6 (some .int) ∈ gtbl := gm 875 (by rfl) (by decide +kernel)
theorem w876 : Cond.methodLink RX8 136 yX8_becomes ∈ gtbl := gm 876 (by decide +kernel) (by decide +kernel)
theorem w878 : Cond.instanceMethod yX8_becomes ∈ gtbl := gm 878 (by decide +kernel) (by decide +kernel)
set_option maxRecDepth 20000 in
theorem w879 : Cond.code yX8_becomes cX8_becomes 4 (some .boolean) ∈ gtbl := gm 879 (by rfl) (by decide +kernel)
theorem w880 : Cond.methodLink RX8 130 yX8_goes ∈ gtbl := gm 880 (by decide +kernel) (by decide +kernel)
theorem w882 : Cond.instanceMethod yX8_goes ∈ gtbl := gm 882 (by decide +kernel) (by decide +kernel)
set_option maxRecDepth 20000 in
theorem w883 : Cond.code yX8_goes cX8_goes 4 (some .boolean) ∈ gtbl := gm 883 (by rfl) (by decide +kernel)
theorem w884 : Cond.methodLink RX8 123 yX8_stands ∈ gtbl := gm 884 (by decide +kernel) (by decide +kernel)
theorem w886 : Cond.instanceMethod yX8_stands ∈ gtbl := gm 886 (by decide +kernel) (by decide +kernel)
set_option maxRecDepth 20000 in
theorem w887 : Cond.code yX8_stands cX8_stands 5 (some .boolean) ∈ gtbl := gm 887 (by rfl) (by decide +kernel)
theorem w888 : Cond.methodLink RX8 127 yX8_puts ∈ gtbl := gm 888 (by decide +kernel) (by decide +kernel)
theorem w890 : Cond.instanceMethod yX8_puts ∈ gtbl := gm 890 (by decide +kernel) (by decide +kernel)
set_option maxRecDepth 20000 in
theorem w891 : Cond.code yX8_puts cX8_puts 2 (some .boolean) ∈ gtbl := gm 891 (by rfl) (by decide +kernel)
theorem w892 : Cond.methodLink RX8 139 yX8_wideOf ∈ gtbl := gm 892 (by decide +kernel) (by decide +kernel)
theorem w894 : Cond.instanceMethod yX8_wideOf ∈ gtbl := gm 894 (by decide +kernel) (by decide +kernel)
set_option maxRecDepth 20000 in
theorem w895 : Cond.code yX8_wideOf cX8_wideOf 3 (some .int) ∈ gtbl := gm 895 (by rfl) (by decide +kernel)
theorem w896 : Cond.methodLink RX8 143 yX8_bits ∈ gtbl := gm 896 (by decide +kernel) (by decide +kernel)
theorem w897 : Cond.static yX8_bits ∈ gtbl := gm 897 (by decide +kernel) (by decide +kernel)
set_option maxRecDepth 20000 in
theorem w898 : Cond.code yX8_bits cX8_bits 3 (some .int) ∈ gtbl := gm 898 (by rfl) (by decide +kernel)
theorem w899 : Cond.methodLink RL 41 yX8_used ∈ gtbl := gm 899 (by decide +kernel) (by decide +kernel)
theorem w900 : Cond.instanceMethod yX8_used ∈ gtbl := gm 900 (by decide +kernel) (by decide +kernel)
theorem w901 : Cond.selects RX8 yX8_used yX8_used ∈ gtbl := gm 901 (by decide +kernel) (by decide +kernel)
set_option maxRecDepth 20000 in
theorem w902 : Cond.code yX8_used cX8_used 1 (some .int) ∈ gtbl := gm 902 (by rfl) (by decide +kernel)
theorem w903 : Cond.methodLink RL 45 yX8_out ∈ gtbl := gm 903 (by decide +kernel) (by decide +kernel)
theorem w904 : Cond.instanceMethod yX8_out ∈ gtbl := gm 904 (by decide +kernel) (by decide +kernel)
theorem w905 : Cond.selects RX8 yX8_out yX8_out ∈ gtbl := gm 905 (by decide +kernel) (by decide +kernel)
set_option maxRecDepth 20000 in
theorem w906 : Cond.code yX8_out cX8_out 2 (some .int) ∈ gtbl := gm 906 (by rfl) (by decide +kernel)
theorem w907 : Cond.methodLink RL 65 yX8_take ∈ gtbl := gm 907 (by decide +kernel) (by decide +kernel)
theorem w908 : Cond.instanceMethod yX8_take ∈ gtbl := gm 908 (by decide +kernel) (by decide +kernel)
theorem w909 : Cond.selects RX8 yX8_take yX8_take ∈ gtbl := gm 909 (by decide +kernel) (by decide +kernel)
set_option maxRecDepth 20000 in
theorem w910 : Cond.code yX8_take cX8_take 2 (some .int) ∈ gtbl := gm 910 (by rfl) (by decide +kernel)
theorem w911 : Cond.methodLink RL 49 yX8_ratio ∈ gtbl := gm 911 (by decide +kernel) (by decide +kernel)
theorem w912 : Cond.instanceMethod yX8_ratio ∈ gtbl := gm 912 (by decide +kernel) (by decide +kernel)
theorem w913 : Cond.selects RX8 yX8_ratio yX8_ratio ∈ gtbl := gm 913 (by decide +kernel) (by decide +kernel)
set_option maxRecDepth 20000 in
theorem w914 : Cond.code yX8_ratio cX8_ratio 2 (some .boolean) ∈ gtbl := gm 914 (by rfl) (by decide +kernel)
theorem w915 : Cond.methodLink RL 53 yX8_bars ∈ gtbl := gm 915 (by decide +kernel) (by decide +kernel)
theorem w916 : Cond.instanceMethod yX8_bars ∈ gtbl := gm 916 (by decide +kernel) (by decide +kernel)
theorem w917 : Cond.selects RX8 yX8_bars yX8_bars ∈ gtbl := gm 917 (by decide +kernel) (by decide +kernel)
set_option maxRecDepth 20000 in
theorem w918 : Cond.code yX8_bars cX8_bars 5 (some .int) ∈ gtbl := gm 918 (by rfl) (by decide +kernel)
theorem w919 : Cond.methodLink RX8 156 yX8_check ∈ gtbl := gm 919 (by decide +kernel) (by decide +kernel)
theorem w921 : Cond.instanceMethod yX8_check ∈ gtbl := gm 921 (by decide +kernel) (by decide +kernel)
set_option maxRecDepth 20000 in
theorem w922 : Cond.code yX8_check cX8_check 4 (some .int) ∈ gtbl := gm 922 (by rfl) (by decide +kernel)
theorem w923 : Cond.methodLink RX8 162 yX8_draws ∈ gtbl := gm 923 (by decide +kernel) (by decide +kernel)
theorem w925 : Cond.instanceMethod yX8_draws ∈ gtbl := gm 925 (by decide +kernel) (by decide +kernel)
set_option maxRecDepth 20000 in
theorem w926 : Cond.code yX8_draws cX8_draws 2 none ∈ gtbl := gm 926 (by rfl) (by decide +kernel)
theorem w927 : Cond.methodLink RX8 166 yX8_five ∈ gtbl := gm 927 (by decide +kernel) (by decide +kernel)
theorem w928 : Cond.static yX8_five ∈ gtbl := gm 928 (by decide +kernel) (by decide +kernel)
set_option maxRecDepth 20000 in
theorem w929 : Cond.code yX8_five cX8_five 1 (some .int) ∈ gtbl := gm 929 (by rfl) (by decide +kernel)
theorem w930 : Cond.methodLink RL 57 yX8_read ∈ gtbl := gm 930 (by decide +kernel) (by decide +kernel)
theorem w931 : Cond.instanceMethod yX8_read ∈ gtbl := gm 931 (by decide +kernel) (by decide +kernel)
theorem w932 : Cond.selects RX8 yX8_read yX8_read ∈ gtbl := gm 932 (by decide +kernel) (by decide +kernel)
set_option maxRecDepth 20000 in
theorem w933 : Cond.code yX8_read cX8_read 4 (some .int) ∈ gtbl := gm 933 (by rfl) (by decide +kernel)
theorem w934 : Cond.methodLink RX8 191 yX8_reads ∈ gtbl := gm 934 (by decide +kernel) (by decide +kernel)
theorem w936 : Cond.instanceMethod yX8_reads ∈ gtbl := gm 936 (by decide +kernel) (by decide +kernel)
set_option maxRecDepth 20000 in
theorem w937 : Cond.code yX8_reads cX8_reads 11 (some .boolean) ∈ gtbl := gm 937 (by rfl) (by decide +kernel)
theorem w938 : Cond.methodLink RX8 178 yX8_isWide ∈ gtbl := gm 938 (by decide +kernel) (by decide +kernel)
theorem w940 : Cond.instanceMethod yX8_isWide ∈ gtbl := gm 940 (by decide +kernel) (by decide +kernel)
set_option maxRecDepth 20000 in
theorem w941 : Cond.code yX8_isWide cX8_isWide 4 (some .boolean) ∈ gtbl := gm 941 (by rfl) (by decide +kernel)
theorem w942 : Cond.methodLink RX8 182 yX8_bad ∈ gtbl := gm 942 (by decide +kernel) (by decide +kernel)
theorem w944 : Cond.instanceMethod yX8_bad ∈ gtbl := gm 944 (by decide +kernel) (by decide +kernel)
set_option maxRecDepth 20000 in
theorem w945 : Cond.code yX8_bad cX8_bad 3 (some .boolean) ∈ gtbl := gm 945 (by rfl) (by decide +kernel)
theorem w946 : Cond.methodLink RL 61 yX8_fault ∈ gtbl := gm 946 (by decide +kernel) (by decide +kernel)
theorem w947 : Cond.instanceMethod yX8_fault ∈ gtbl := gm 947 (by decide +kernel) (by decide +kernel)
theorem w948 : Cond.selects RX8 yX8_fault yX8_fault ∈ gtbl := gm 948 (by decide +kernel) (by decide +kernel)
set_option maxRecDepth 20000 in
theorem w949 : Cond.code yX8_fault cX8_fault 2 (some .int) ∈ gtbl := gm 949 (by rfl) (by decide +kernel)
theorem w950 : Cond.methodLink RL 72 yX8_sheet ∈ gtbl := gm 950 (by decide +kernel) (by decide +kernel)
theorem w951 : Cond.instanceMethod yX8_sheet ∈ gtbl := gm 951 (by decide +kernel) (by decide +kernel)
theorem w952 : Cond.selects RX8 yX8_sheet yX8_sheet ∈ gtbl := gm 952 (by decide +kernel) (by decide +kernel)
set_option maxRecDepth 20000 in
theorem w953 : Cond.code yX8_sheet cX8_sheet 5 (some .boolean) ∈ gtbl := gm 953 (by rfl) (by decide +kernel)
theorem w954 : Cond.methodLink RX8 195 yX8_isSheet ∈ gtbl := gm 954 (by decide +kernel) (by decide +kernel)
theorem w955 : Cond.static yX8_isSheet ∈ gtbl := gm 955 (by decide +kernel) (by decide +kernel)
set_option maxRecDepth 20000 in
theorem w956 : Cond.code yX8_isSheet cX8_isSheet 1 (some .boolean) ∈ gtbl := gm 956 (by rfl) (by decide +kernel)
theorem w957 : Cond.methodLink RL 77 yX8_come ∈ gtbl := gm 957 (by decide +kernel) (by decide +kernel)
theorem w958 : Cond.instanceMethod yX8_come ∈ gtbl := gm 958 (by decide +kernel) (by decide +kernel)
theorem w959 : Cond.selects RX8 yX8_come yX8_come ∈ gtbl := gm 959 (by decide +kernel) (by decide +kernel)
set_option maxRecDepth 20000 in
theorem w960 : Cond.code yX8_come cX8_come 5 (some .int) ∈ gtbl := gm 960 (by rfl) (by decide +kernel)
theorem w961 : Cond.methodLink RX8 201 yX8_waiting ∈ gtbl := gm 961 (by decide +kernel) (by decide +kernel)
theorem w963 : Cond.instanceMethod yX8_waiting ∈ gtbl := gm 963 (by decide +kernel) (by decide +kernel)
set_option maxRecDepth 20000 in
theorem w964 : Cond.code yX8_waiting cX8_waiting 4 (some .int) ∈ gtbl := gm 964 (by rfl) (by decide +kernel)
theorem w965 : Cond.methodLink RL 81 yX8_look ∈ gtbl := gm 965 (by decide +kernel) (by decide +kernel)
theorem w966 : Cond.instanceMethod yX8_look ∈ gtbl := gm 966 (by decide +kernel) (by decide +kernel)
theorem w967 : Cond.selects RX8 yX8_look yX8_look ∈ gtbl := gm 967 (by decide +kernel) (by decide +kernel)
set_option maxRecDepth 20000 in
theorem w968 : Cond.code yX8_look cX8_look 4 (some .int) ∈ gtbl := gm 968 (by rfl) (by decide +kernel)
theorem w969 : Cond.methodLink RX8 204 yX8_freeOn ∈ gtbl := gm 969 (by decide +kernel) (by decide +kernel)
theorem w971 : Cond.instanceMethod yX8_freeOn ∈ gtbl := gm 971 (by decide +kernel) (by decide +kernel)
set_option maxRecDepth 20000 in
theorem w972 : Cond.code yX8_freeOn cX8_freeOn 4 (some .int) ∈ gtbl := gm 972 (by rfl) (by decide +kernel)
theorem w973 : Cond.methodLink RX8 222 yX8_lays ∈ gtbl := gm 973 (by decide +kernel) (by decide +kernel)
theorem w975 : Cond.instanceMethod yX8_lays ∈ gtbl := gm 975 (by decide +kernel) (by decide +kernel)
set_option maxRecDepth 20000 in
theorem w976 : Cond.code yX8_lays cX8_lays 7 (some .boolean) ∈ gtbl := gm 976 (by rfl) (by decide +kernel)
theorem w977 : Cond.methodLink RX8 210 yX8_groups ∈ gtbl := gm 977 (by decide +kernel) (by decide +kernel)
theorem w979 : Cond.instanceMethod yX8_groups ∈ gtbl := gm 979 (by decide +kernel) (by decide +kernel)
set_option maxRecDepth 20000 in
theorem w980 : Cond.code yX8_groups cX8_groups 4 (some .boolean) ∈ gtbl := gm 980 (by rfl) (by decide +kernel)
theorem w981 : Cond.methodLink RX8 213 yX8_sheets ∈ gtbl := gm 981 (by decide +kernel) (by decide +kernel)
theorem w983 : Cond.instanceMethod yX8_sheets ∈ gtbl := gm 983 (by decide +kernel) (by decide +kernel)
set_option maxRecDepth 20000 in
theorem w984 : Cond.code yX8_sheets cX8_sheets 4 (some .boolean) ∈ gtbl := gm 984 (by rfl) (by decide +kernel)
theorem w985 : Cond.methodLink RX8 216 yX8_heaps ∈ gtbl := gm 985 (by decide +kernel) (by decide +kernel)
theorem w987 : Cond.instanceMethod yX8_heaps ∈ gtbl := gm 987 (by decide +kernel) (by decide +kernel)
set_option maxRecDepth 20000 in
theorem w988 : Cond.code yX8_heaps cX8_heaps 3 (some .int) ∈ gtbl := gm 988 (by rfl) (by decide +kernel)
theorem w989 : Cond.methodLink RL 85 yX8_heap ∈ gtbl := gm 989 (by decide +kernel) (by decide +kernel)
theorem w990 : Cond.instanceMethod yX8_heap ∈ gtbl := gm 990 (by decide +kernel) (by decide +kernel)
theorem w991 : Cond.selects RX8 yX8_heap yX8_heap ∈ gtbl := gm 991 (by decide +kernel) (by decide +kernel)
set_option maxRecDepth 20000 in
theorem w992 : Cond.code yX8_heap cX8_heap 3 (some .int) ∈ gtbl := gm 992 (by rfl) (by decide +kernel)
theorem w993 : Cond.methodLink RL 89 yX8_plan ∈ gtbl := gm 993 (by decide +kernel) (by decide +kernel)
theorem w994 : Cond.instanceMethod yX8_plan ∈ gtbl := gm 994 (by decide +kernel) (by decide +kernel)
theorem w995 : Cond.selects RX8 yX8_plan yX8_plan ∈ gtbl := gm 995 (by decide +kernel) (by decide +kernel)
set_option maxRecDepth 20000 in
theorem w996 : Cond.code yX8_plan cX8_plan 3 (some .int) ∈ gtbl := gm 996 (by rfl) (by decide +kernel)
theorem w997 : Cond.methodLink RX8 226 yX8_isCell ∈ gtbl := gm 997 (by decide +kernel) (by decide +kernel)
theorem w998 : Cond.static yX8_isCell ∈ gtbl := gm 998 (by decide +kernel) (by decide +kernel)
set_option maxRecDepth 20000 in
theorem w999 : Cond.code yX8_isCell cX8_isCell 1 (some .boolean) ∈ gtbl := gm 999 (by rfl) (by decide +kernel)
theorem w1000 : Cond.methodLink RX8 229 yX8_plans ∈ gtbl := gm 1000 (by decide +kernel) (by decide +kernel)
theorem w1002 : Cond.instanceMethod yX8_plans ∈ gtbl := gm 1002 (by decide +kernel) (by decide +kernel)
set_option maxRecDepth 20000 in
theorem w1003 : Cond.code yX8_plans cX8_plans 5 none ∈ gtbl := gm 1003 (by rfl) (by decide +kernel)
theorem w1004 : Cond.methodLink RL 93 yX8_print ∈ gtbl := gm 1004 (by decide +kernel) (by decide +kernel)
theorem w1005 : Cond.instanceMethod yX8_print ∈ gtbl := gm 1005 (by decide +kernel) (by decide +kernel)
theorem w1006 : Cond.selects RX8 yX8_print yX8_print ∈ gtbl := gm 1006 (by decide +kernel) (by decide +kernel)
set_option maxRecDepth 20000 in
theorem w1007 : Cond.code yX8_print cX8_print 5 (some .int) ∈ gtbl := gm 1007 (by rfl) (by decide +kernel)
theorem w1008 : Cond.constantLong RX8 232 (-1 : Int64) ∈ gtbl := gm 1008 (by decide +kernel) (by decide +kernel)
theorem w1009 : Cond.methodLink RL 97 yX8_printed ∈ gtbl := gm 1009 (by decide +kernel) (by decide +kernel)
theorem w1010 : Cond.instanceMethod yX8_printed ∈ gtbl := gm 1010 (by decide +kernel) (by decide +kernel)
theorem w1011 : Cond.selects RX8 yX8_printed yX8_printed ∈ gtbl := gm 1011 (by decide +kernel) (by decide +kernel)
set_option maxRecDepth 20000 in
theorem w1012 : Cond.code yX8_printed cX8_printed 3 (some .int) ∈ gtbl := gm 1012 (by rfl) (by decide +kernel)
theorem w1013 : Cond.methodLink RL 101 yX8_spoil ∈ gtbl := gm 1013 (by decide +kernel) (by decide +kernel)
theorem w1014 : Cond.instanceMethod yX8_spoil ∈ gtbl := gm 1014 (by decide +kernel) (by decide +kernel)
theorem w1015 : Cond.selects RX8 yX8_spoil yX8_spoil ∈ gtbl := gm 1015 (by decide +kernel) (by decide +kernel)
set_option maxRecDepth 20000 in
theorem w1016 : Cond.code yX8_spoil cX8_spoil 4 (some .int) ∈ gtbl := gm 1016 (by rfl) (by decide +kernel)
theorem w1017 : Cond.methodLink RX8 234 yX8_printed ∈ gtbl := gm 1017 (by decide +kernel) (by decide +kernel)
theorem w1018 : Cond.methodLink RL 105 yX8_label ∈ gtbl := gm 1018 (by decide +kernel) (by decide +kernel)
theorem w1019 : Cond.instanceMethod yX8_label ∈ gtbl := gm 1019 (by decide +kernel) (by decide +kernel)
theorem w1020 : Cond.selects RX8 yX8_label yX8_label ∈ gtbl := gm 1020 (by decide +kernel) (by decide +kernel)
set_option maxRecDepth 20000 in
theorem w1021 : Cond.code yX8_label cX8_label 3 (some .int) ∈ gtbl := gm 1021 (by rfl) (by decide +kernel)
theorem w1022 : Cond.constantLong RL 66 (4294967295 : Int64) ∈ gtbl := gm 1022 (by decide +kernel) (by decide +kernel)
end
section
/-! The fixed memory: all objects of the class and of the reference are made in the constructors; afterwards a heap is a memory M (cell, slot, value). -/
def jI (a : Int) : Int32 := Int32.ofInt a
def jL (a : Int) : Int64 := Int64.ofInt a
abbrev Rg (a : Int) : Prop := -2147483648 ≤ a ∧ a ≤ 2147483647
abbrev RgL (a : Int) : Prop := -9223372036854775808 ≤ a ∧ a ≤ 9223372036854775807
theorem jI_toInt {a : Int} (h : Rg a) : (jI a).toInt = a := by
  have h1 := h.1
  have h2 := h.2
  exact Int32.toInt_ofInt_of_le (by omega) (by omega)
theorem jL_toInt {a : Int} (h : RgL a) : (jL a).toInt = a := by
  have h1 := h.1
  have h2 := h.2
  exact Int64.toInt_ofInt_of_le (by omega) (by omega)
theorem jI_of (x : Int32) : jI x.toInt = x := Int32.ofInt_toInt x
theorem jL_of (x : Int64) : jL x.toInt = x := Int64.ofInt_toInt x
theorem Rg_toInt (x : Int32) : Rg x.toInt := ⟨Int32.le_toInt x, by have := Int32.toInt_lt x; omega⟩
theorem RgL_toInt (x : Int64) : RgL x.toInt := ⟨Int64.le_toInt x, by have := Int64.toInt_lt x; omega⟩
theorem jI_add (a b : Int) : jI a + jI b = jI (a + b) := (Int32.ofInt_add a b).symm
theorem jI_sub (a b : Int) : jI a - jI b = jI (a - b) := (Int32.ofInt_sub a b).symm
theorem jI_mul (a b : Int) : jI a * jI b = jI (a * b) := (Int32.ofInt_mul a b).symm
theorem jL_add (a b : Int) : jL a + jL b = jL (a + b) := (Int64.ofInt_add a b).symm
theorem jL_sub (a b : Int) : jL a - jL b = jL (a - b) := (Int64.ofInt_sub a b).symm
theorem jI_lt {a b : Int} (ha : Rg a) (hb : Rg b) : jI a < jI b ↔ a < b := by
  rw [Int32.lt_iff_toInt_lt, jI_toInt ha, jI_toInt hb]
theorem jI_le {a b : Int} (ha : Rg a) (hb : Rg b) : jI a ≤ jI b ↔ a ≤ b := by
  rw [Int32.le_iff_toInt_le, jI_toInt ha, jI_toInt hb]
theorem jI_eq {a b : Int} (ha : Rg a) (hb : Rg b) : jI a = jI b ↔ a = b := by
  rw [← Int32.toInt_inj, jI_toInt ha, jI_toInt hb]
theorem jI_0 : jI 0 = 0 := rfl
theorem jI_div {a b : Int} (ha : Rg a) (h0 : 0 ≤ a) (hb : 0 < b) (hb2 : Rg b) : jI a / jI b = jI (a / b) := by
  apply Int32.toInt_inj.mp
  have hq : 0 ≤ a / b := Int.ediv_nonneg h0 (by omega)
  have hq2 : a / b ≤ a := Int.ediv_le_self b h0
  have h1 := ha.2
  rw [Int32.toInt_div, jI_toInt ha, jI_toInt hb2, jI_toInt ⟨by omega, by omega⟩, Int.tdiv_eq_ediv_of_nonneg h0]
  exact Int.bmod_eq_of_le (by omega) (by omega)
theorem jI_rem {a b : Int} (ha : Rg a) (h0 : 0 ≤ a) (hb : 0 < b) (hb2 : Rg b) : jI a - jI a / jI b * jI b = jI (a % b) := by
  rw [jI_div ha h0 hb hb2, jI_mul, jI_sub]
  congr 1
  have := Int.mul_ediv_add_emod a b
  rw [Int.mul_comm b] at this
  omega
/-! bits, as numbers -/
def bAnd (a b : Int) : Int := (jI a &&& jI b).toInt
def bOr (a b : Int) : Int := (jI a ||| jI b).toInt
def bXor (a b : Int) : Int := (jI a ^^^ jI b).toInt
def bShl (a b : Int) : Int := (jI a <<< (jI b &&& 31)).toInt
def bShr (a b : Int) : Int := (jI a >>> (jI b &&& 31)).toInt
def bUshr (a b : Int) : Int := ((jI a).toUInt32 >>> ((jI b).toUInt32 &&& Int32.toUInt32 31)).toInt32.toInt
def lAnd (a b : Int) : Int := (jL a &&& jL b).toInt
def lOr (a b : Int) : Int := (jL a ||| jL b).toInt
def lXor (a b : Int) : Int := (jL a ^^^ jL b).toInt
def lShl (a b : Int) : Int := (jL a <<< ((jI b).toInt64 &&& 63)).toInt
def lShr (a b : Int) : Int := (jL a >>> ((jI b).toInt64 &&& 63)).toInt
def lUshr (a b : Int) : Int := ((jL a).toUInt64 >>> ((jI b).toInt64.toUInt64 &&& Int64.toUInt64 63)).toInt64.toInt
def lCmp (a b : Int) : Int := (lg_cmp (jL a) (jL b)).toInt
def i2l (a : Int) : Int := (jI a).toInt64.toInt
def l2i (a : Int) : Int := (jL a).toInt32.toInt
/-! the memory -/
abbrev Mem : Type := Nat → Nat → Int
def upr (r : Nat → Int) (i : Nat) (v : Int) : Nat → Int := fun j => if j = i then v else r j
def up (M : Mem) (k i : Nat) (v : Int) : Mem := fun a => if a = k then upr (M a) i v else M a
theorem up_same (M : Mem) (k i : Nat) (v : Int) : up M k i v k = upr (M k) i v := by simp [up]
theorem up_ne (M : Mem) {k a : Nat} (i : Nat) (v : Int) (h : a ≠ k) : up M k i v a = M a := by simp [up, h]
/-- addresses, class numbers, array classes, the static table's address -/
abbrev Cx : Type := va_G × (Nat → ClassId) × Nat × (Nat → Nat)
def xD (X : Cx) : va_G := X.1
def xC (X : Cx) : Nat → ClassId := X.2.1
def xT (X : Cx) : Nat := X.2.2.1
def xA (X : Cx) : Nat → Nat := X.2.2.2
def NC : Nat := 90
/-- the places of a Row's array, by its cell (2 r + 1) -/
def capR (k : Nat) : Nat := if k < 2 then 200 else if k < 4 then 67 else if k < 28 then 6 else if k < 32 then 60 else if k < 34 then 12 else if k < 36 then 67 else 12
def arI (X : Cx) (n : Nat) (r : Nat → Int) : va_E := .inl (xC X 0, n, .inl (fun j => jI (r j)))
def arZ (X : Cx) (n : Nat) (r : Nat → Int) : va_E := .inl (xC X 1, n, .inl (fun j => jI (r j)))
def arJ (X : Cx) (n : Nat) (r : Nat → Int) : va_E := .inl (xC X 2, n, .inr (.inl (fun j => jL (r j))))
def arR (X : Cx) (n : Nat) (f : Nat → Nat) : va_E := .inl (xC X 3, n, .inr (.inr (.inr (.inr (fun j => some (xA X (f j)))))))
def iv (r : Nat → Int) (k : Nat) : Value := .int (jI (r k))
def rv (X : Cx) (k : Nat) : Value := .ref (xA X k)
def fsRow (X : Cx) (o : Nat) (r : Nat → Int) : List Value := [rv X (o + 1), iv r 1]
def fsRd (X : Cx) (o : Nat) (r : Nat → Int) : List Value := [rv X 34, iv r 1, rv X (2 * o - 44), iv r 3, iv r 4]
def fs42 (X : Cx) (_ : Nat → Int) : List Value := [rv X 0, rv X 2, rv X 43, rv X 47, rv X 48, rv X 53, rv X 57]
def fs43 (X : Cx) (r : Nat → Int) : List Value := [rv X 44, rv X 45, rv X 46, rv X 28, rv X 30, iv r 5, iv r 6]
def fs47 (X : Cx) (r : Nat → Int) : List Value := [rv X 32, rv X 34, rv X 40, rv X 41, iv r 4, iv r 5, iv r 6, iv r 7]
def fs48 (X : Cx) (r : Nat → Int) : List Value := [rv X 49, rv X 50, rv X 51, rv X 52, iv r 4]
def fs53 (X : Cx) (_ : Nat → Int) : List Value := [rv X 54, rv X 55, rv X 56]
def fs57 (X : Cx) (r : Nat → Int) : List Value := [rv X 48, rv X 53, rv X 58, rv X 59, rv X 60, rv X 61, iv r 6, iv r 7, iv r 8, iv r 9]
def fs62 (X : Cx) (r : Nat → Int) : List Value := [rv X 63, rv X 64, rv X 65, iv r 3, iv r 4, rv X 66, rv X 67, rv X 68, rv X 69, rv X 70, rv X 71, rv X 72, iv r 12, iv r 13, iv r 14, iv r 15, iv r 16, iv r 17, iv r 18, rv X 73, rv X 74, iv r 21, iv r 22, iv r 23, iv r 24, iv r 25, iv r 26, iv r 27, rv X 75, rv X 76, rv X 77, iv r 31, rv X 78, rv X 79, rv X 80, rv X 81, rv X 82, rv X 83, rv X 84, rv X 85, rv X 86, iv r 41, iv r 42, rv X 87, rv X 88, rv X 89]
def entR (X : Cx) (k : Nat) (r : Nat → Int) : va_E := if k < 40 then (if k % 2 = 0 then .inr (4, fsRow X k r) else arI X (capR k) r) else if k < 42 then .inr (3, fsRd X k r) else match k with
  | 42 => .inr (7, fs42 X r)
  | 43 => .inr (2, fs43 X r)
  | 44 => arI X 95 r
  | 45 => arR X 6 (fun j => 4 + 2 * j)
  | 46 => arR X 6 (fun j => 16 + 2 * j)
  | 47 => .inr (6, fs47 X r)
  | 48 => .inr (1, fs48 X r)
  | 49 => arI X 200 r
  | 50 => arI X 200 r
  | 51 => arZ X 200 r
  | 52 => arI X 6 r
  | 53 => .inr (5, fs53 X r)
  | 54 => arJ X 3 r
  | 55 => arI X 120 r
  | 56 => arZ X 120 r
  | 57 => .inr (0, fs57 X r)
  | 58 => arI X 6 r
  | 59 => arI X 3 r
  | 60 => arI X 3 r
  | 61 => arI X 120 r
  | 62 => .inr (8, fs62 X r)
  | 63 => arI X 127 r
  | 64 => arI X 200 r
  | 65 => arI X 200 r
  | 66 => arI X 6 r
  | 67 => arI X 6 r
  | 68 => arI X 36 r
  | 69 => arI X 36 r
  | 70 => arI X 61 r
  | 71 => arI X 61 r
  | 72 => arI X 61 r
  | 73 => arI X 12 r
  | 74 => arI X 130 r
  | 75 => arJ X 3 r
  | 76 => arI X 120 r
  | 77 => arZ X 120 r
  | 78 => arI X 200 r
  | 79 => arI X 200 r
  | 80 => arZ X 200 r
  | 81 => arI X 6 r
  | 82 => arI X 3 r
  | 83 => arI X 6 r
  | 84 => arI X 3 r
  | 85 => arI X 6 r
  | 86 => arI X 3 r
  | 87 => arI X 3 r
  | 88 => arI X 3 r
  | _ => arI X 120 r
def pic (X : Cx) (M : Mem) : va_W := (List.range NC).map (fun k => (xA X k, entR X k (M k)))
theorem pic_get (X : Cx) (M : Mem) {k : Nat} (h : k < NC) : (pic X M)[k]? = some (xA X k, entR X k (M k)) := by simp [pic, h]
theorem pic_set (X : Cx) (M : Mem) {k i : Nat} {v : Int} {e : va_E} (h : k < NC) (he : entR X k (upr (M k) i v) = e) : (pic X M).set k (xA X k, e) = pic X (up M k i v) := by
  subst he
  apply List.ext_getElem?
  intro j
  rw [List.getElem?_set]
  by_cases hj : k = j
  · subst hj
    rw [pic_get X (up M k i v) h, up_same]
    simp [pic, h]
  · rw [if_neg hj]
    simp only [pic, List.getElem?_map, List.getElem?_range]
    by_cases hn : j < NC
    · rw [List.getElem?_range hn]
      simp only [Option.map_some]
      rw [up_ne M i v (Ne.symm hj)]
    · rw [List.getElem?_eq_none (by simpa using hn)]
      rfl
def AW (X : Cx) : Nat → Prop := fun q => ∃ k, k < NC ∧ xA X k = q
def Inj (X : Cx) : Prop := ∀ i j : Nat, i < NC → j < NC → xA X i = xA X j → i = j
theorem pic_D {X : Cx} {M : Mem} {A : Nat → Prop} (hI : Inj X) (hA : ∀ q, AW X q → A q) : va_D A (pic X M) := by
  have key : ∀ (k : Nat) (q : Nat × va_E), (pic X M)[k]? = some q → k < NC ∧ q.1 = xA X k := by
    intro k q hk
    have hlt : k < NC := by
      have := (List.getElem?_eq_some_iff.mp hk).1
      simpa [pic] using this
    rw [pic_get X M hlt] at hk
    cases hk
    exact ⟨hlt, rfl⟩
  refine ⟨fun i j x y hi hj hxy => ?_, fun k q hk => ?_⟩
  · obtain ⟨h1, h2⟩ := key i x hi
    obtain ⟨h3, h4⟩ := key j y hj
    exact hI i j h1 h3 (by rw [← h2, ← h4]; exact hxy)
  · obtain ⟨h1, h2⟩ := key k q hk
    exact hA _ ⟨k, h1, h2.symm⟩
/-- a Row's cell; its array is the next one -/
abbrev isRow (o : Nat) : Prop := o < 40 ∧ o % 2 = 0
abbrev isRd (o : Nat) : Prop := o = 40 ∨ o = 41
theorem ent_row (X : Cx) {o : Nat} (h : isRow o) (r : Nat → Int) : entR X o r = .inr (4, fsRow X o r) := by simp [entR, h.1, h.2]
theorem ent_arr (X : Cx) {o : Nat} (h : isRow o) (r : Nat → Int) : entR X (o + 1) r = arI X (capR o) r := by
  have h1 := h.1
  have h2 := h.2
  have h3 : o + 1 < 40 := by omega
  have h4 : ¬ (o + 1) % 2 = 0 := by omega
  have h5 : capR (o + 1) = capR o := by
    unfold capR
    repeat' split
    all_goals first | rfl | omega
  simp [entR, h3, h4, h5]
theorem ent_rd (X : Cx) {o : Nat} (h : isRd o) (r : Nat → Int) : entR X o r = .inr (3, fsRd X o r) := by
  rcases h with rfl | rfl <;> rfl
theorem isRow_lt {o : Nat} (h : isRow o) : o < NC := Nat.lt_of_lt_of_le h.1 (by decide)
theorem isRow_lt1 {o : Nat} (h : isRow o) : o + 1 < NC := Nat.lt_of_le_of_lt h.1 (by decide)
theorem isRd_lt {o : Nat} (h : isRd o) : o < NC := by rcases h with rfl | rfl <;> decide
theorem isRd_row {o : Nat} (h : isRd o) : isRow (2 * o - 44) := by rcases h with rfl | rfl <;> decide
def xtys (X : Cx) : List (ClassId × FieldType) := [(xC X 0, .int), (xC X 1, .boolean), (xC X 2, .long), (xC X 3, .object "StickerPress$Row")]
def dcode : Nat → Int
  | 0 => 6 | 1 => 17 | 2 => 9 | 3 => 24 | 4 => 5 | 5 => 20 | 6 => 12 | 7 => 3 | 8 => 18 | _ => 10
def nstl : List Cond := [Cond.fieldLinkNest RX6 113 "StickerPress$Reading" "digits" "LStickerPress$Row;" "StickerPress", Cond.fieldLinkNest RX6 98 "StickerPress$Reading" "fault" "I" "StickerPress", Cond.fieldLinkNest RX6 99 "StickerPress$Reading" "place" "I" "StickerPress", Cond.fieldLinkNest RX6 114 "StickerPress" "DIGIT_CODES" "[I" "StickerPress", Cond.fieldLinkNest RX3 66 "StickerPress" "DIGIT_CODES" "[I" "StickerPress", Cond.methodLinkNest RX3 57 yX6_checkOf "StickerPress", Cond.methodLinkNest RX5 23 yX7_isSheet "StickerPress", Cond.methodLinkNest RX1 29 yX7_isGroup "StickerPress", Cond.methodLinkNest RX5 37 yX7_isPlace "StickerPress", Cond.methodLinkNest RX0 63 yX7_isGroup "StickerPress", Cond.methodLinkNest RX0 71 yX7_isSheet "StickerPress", Cond.methodLinkNest RX0 77 yX7_isPlace "StickerPress"]
def Nst (U : State) : Prop := ∀ w ∈ nstl, va_Nw w U
theorem nst_use {U : State} {args : Array Value} (h : Nst U) {w : Cond} (i : Nat) (hi : nstl[i]? = some w) (hw : w.onTables = true) : w.before args U = true := va_Nw.use hw (h w (List.mem_of_getElem? hi))
theorem Nst.warm {s U : State} (hW : s.WarmedH U.vm) (h : Nst s) : Nst U := by
  intro w hw
  have h1 := h w hw
  simp only [nstl, List.mem_cons, List.not_mem_nil, or_false] at hw
  rcases hw with rfl | rfl | rfl | rfl | rfl | rfl | rfl | rfl | rfl | rfl | rfl | rfl <;> first | exact va_Nw.warmF hW h1 | exact va_Nw.warmM hW h1
theorem nstl_tab : ∀ w ∈ nstl, w.onTables = true := by decide +kernel
theorem Nst.same {u U : State} (hv : u.vm = U.vm) (h : Nst u) : Nst U := fun w hw => va_Nw.same (nstl_tab w hw) hv (h w hw)
def Kx (X : Cx) (A : Nat → Prop) (U : State) : Prop := va_K (xD X) vwCl (xtys X) U ∧ Nst U ∧ va_Z "StickerPress" "DIGIT_CODES" "[I" (.ref (xT X)) A U U.heap ∧ va_T .int (xT X) 10 (fun j => .int (jI (dcode j))) A U U.heap
def Wd (X : Cx) (A : Nat → Prop) (s : State) (M : Mem) (H : Heap) (locs : List Loc) : Prop := va_P (xD X) vwCl (pic X M) H ∧ va_S A s.heap H locs
theorem Kx.call {X : Cx} {A : Nat → Prop} {s U : State} {H : Heap} {locs : List Loc} (hA : ∀ q, AW X q → A q) (h : Kx X A s) (hS : va_S A s.heap H locs) (hU : U.heap = H) (hW : s.WarmedH U.vm) : Kx X (AW X) U := by
  obtain ⟨h1, h2, h3, h4⟩ := h
  subst hU
  exact ⟨h1.moved hW.alike, h2.warm hW, ((h3.kept (fun a h5 h6 => hS.2.1 a h5 h6)).moved hW.alike).narrow hA, ((h4.kept (fun a h5 h6 => hS.2.1 a h5 h6)).moved hW.alike).narrow hA⟩
theorem Kx.blind {X : Cx} {A : Nat → Prop} {U U2 : State} (hv : U.vm = U2.vm) (hh : U2.heap = U.heap) (h : Kx X A U) : Kx X A U2 := by
  obtain ⟨h1, h2, h3, h4⟩ := h
  have hal : U.vm.Alike U2.vm := by rw [← hv]; exact Vm.Alike.refl _
  refine ⟨h1.moved hal, h2.same hv, ?_, ?_⟩
  · rw [hh]; exact h3.moved hal
  · rw [hh]; exact h4.moved hal
def CP (X : Cx) (M : Mem) (U : State) : Prop := va_P (xD X) vwCl (pic X M) U.heap ∧ Kx X (AW X) U
theorem CP.blind (X : Cx) (M : Mem) (av : List Value) : FrameBlind (va_Pc av (CP X M)) := by
  intro a U g mk h
  obtain ⟨h1, h2, h3⟩ := h
  exact ⟨h1, h2, h3.blind (U := U) (U2 := U.calling g mk a) rfl rfl⟩
/-! contracts -/
def rmd (d : Nat) : Room := { frames := d, cells := 0, slots := 0, locals := 40 * d }
def QI (X : Cx) (Q : Int → Mem → Prop) : Array Value → State → Outcome → State → Prop := va_Qi (fun (r : Int32) (M : Mem) => ∃ v : Int, r = jI v ∧ Q v M) (fun M t => va_P (xD X) vwCl (pic X M) t.heap) (AW X)
def QV (X : Cx) (Q : Mem → Prop) : Array Value → State → Outcome → State → Prop := va_Qv (fun M : Mem => Q M) (fun M t => va_P (xD X) vwCl (pic X M) t.heap) (AW X)
def MI (X : Cx) (l : Launch) (y : MethodName) (cc : ByteArray) (nL : Nat) (ret : Option FieldType) (d : Nat) (av : List Value) (M : Mem) (Q : Int → Mem → Prop) : Prop := Met l y (Cond.code y cc nL ret :: gtbl) (rmd d) (va_Pc av (CP X M)) (QI X Q) 0 0 (AW X)
def MV (X : Cx) (l : Launch) (y : MethodName) (cc : ByteArray) (nL : Nat) (d : Nat) (av : List Value) (M : Mem) (Q : Mem → Prop) : Prop := Met l y (Cond.code y cc nL none :: gtbl) (rmd d) (va_Pc av (CP X M)) (QV X Q) 0 0 (AW X)
def En (X : Cx) (A : Nat → Prop) (d : Nat) (p : Program) (R : Room) (s : State) (m : MethodId) (args : Array Value) (meth : Method) (c : Code) (cc : ByteArray) (own : String) (nL : Nat) (ret : Option FieldType) (cells slots : Nat) : Prop :=
  CallFix p m c cc nL s args gtbl own ∧ Kx X A s ∧ (Inj X ∧ ∀ q, AW X q → A q) ∧ (meth.sig.returnType = ret ∧ meth.locks = false) ∧ (d ≤ R.frames ∧ 40 * d ≤ R.locals ∧ cells ≤ R.cells ∧ slots ≤ R.slots)
theorem MI.of {X : Cx} {l : Launch} {y : MethodName} {cc : ByteArray} {nL : Nat} {ret : Option FieldType} {d : Nat} {av : List Value} {M : Mem} {Q : Int → Mem → Prop} (hI : Inj X) (hy : plainName y.cls = true) (hn : (lg_sl av).length ≤ nL)
    (body : ∀ (p : Program) (e : Env) (R : Room) (s : State) (m : MethodId) (args : Array Value) (below : List Frame) (meth : Method) (c : Code) (ls : Array Slot), En X (AW X) d p R s m args meth c cc y.cls nL ret 0 0 → Wd X (AW X) s M s.heap [] → lv_has ls nL (lv_args 0 av) → W p l e R s m args below meth c s.heap [] 0 0 (MQ below (QI X Q) args s 0 0 (AW X)) (F0 m 0 ls [])) : MI X l y cc nL ret d av M Q := by
  refine Met.ofW (cc := cc) (maxL := nL) (ret := ret) hy rfl ?_
  intro p e s m args below meth c s₁ B hml hv
  obtain ⟨rfl, hP, hK⟩ := hv
  have hts := atoms_spec (ws := Cond.code y cc nL ret :: gtbl) B.pre
  have hl := lv_entry av (n := nL) hn
  rw [lg_entry_eq]
  exact body p e _ s m _ below meth c _ ⟨⟨B.exec, B.bytes, hml, findClass_of_methodNamed B.named, fun w hw => hts w (List.mem_cons_of_mem _ hw)⟩, hK, ⟨hI, fun _ h => h⟩, ⟨B.returns, B.notSynchronized⟩, ⟨Nat.le_refl _, Nat.le_refl _, Nat.zero_le _, Nat.zero_le _⟩⟩ ⟨hP, va_S.rf⟩ hl
theorem MV.of {X : Cx} {l : Launch} {y : MethodName} {cc : ByteArray} {nL : Nat} {d : Nat} {av : List Value} {M : Mem} {Q : Mem → Prop} (hI : Inj X) (hy : plainName y.cls = true) (hn : (lg_sl av).length ≤ nL)
    (body : ∀ (p : Program) (e : Env) (R : Room) (s : State) (m : MethodId) (args : Array Value) (below : List Frame) (meth : Method) (c : Code) (ls : Array Slot), En X (AW X) d p R s m args meth c cc y.cls nL none 0 0 → Wd X (AW X) s M s.heap [] → lv_has ls nL (lv_args 0 av) → W p l e R s m args below meth c s.heap [] 0 0 (MQ below (QV X Q) args s 0 0 (AW X)) (F0 m 0 ls [])) : MV X l y cc nL d av M Q := by
  refine Met.ofW (cc := cc) (maxL := nL) (ret := none) hy rfl ?_
  intro p e s m args below meth c s₁ B hml hv
  obtain ⟨rfl, hP, hK⟩ := hv
  have hts := atoms_spec (ws := Cond.code y cc nL none :: gtbl) B.pre
  have hl := lv_entry av (n := nL) hn
  rw [lg_entry_eq]
  exact body p e _ s m _ below meth c _ ⟨⟨B.exec, B.bytes, hml, findClass_of_methodNamed B.named, fun w hw => hts w (List.mem_cons_of_mem _ hw)⟩, hK, ⟨hI, fun _ h => h⟩, ⟨B.returns, B.notSynchronized⟩, ⟨Nat.le_refl _, Nat.le_refl _, Nat.zero_le _, Nat.zero_le _⟩⟩ ⟨hP, va_S.rf⟩ hl
end
section
/-! rows over the fixed memory: one for each kind of instruction -/
section QR
variable {X : Cx} {A : Nat → Prop} {d : Nat} {p : Program} {l : Launch} {e : Env} {R : Room} {s : State} {m : MethodId} {args : Array Value} {below : List Frame} {meth : Method} {c : Code} {cc : ByteArray} {own : String} {nL : Nat} {ret : Option FieldType} {H : Heap} {locs : List Loc} {cells slots : Nat} {Q : State → Prop} {pc n : Nat} {ls : Array Slot} {rest : List Value} {M : Mem} {lv lv' : List (Nat × Value)}
theorem q_iconst {z : Int} (E : En X A d p R s m args meth c cc own nL ret cells slots) (hd : decode cc pc = .ok (.iconst z, 1)) (hn : pc + 1 = n) (k : W p l e R s m args below meth c H locs cells slots Q (F0 m n ls (.int (jI z) :: rest))) : W p l e R s m args below meth c H locs cells slots Q (F0 m pc ls rest) := by
  subst hn
  exact lv_iconst E.1.1 E.1.2.1 hd rfl k
theorem q_bipush {z : Int} (E : En X A d p R s m args meth c cc own nL ret cells slots) (hd : decode cc pc = .ok (.bipush z, 2)) (hv : (Int8.ofInt z).toInt32 = jI z) (hn : pc + 2 = n) (k : W p l e R s m args below meth c H locs cells slots Q (F0 m n ls (.int (jI z) :: rest))) : W p l e R s m args below meth c H locs cells slots Q (F0 m pc ls rest) := by
  subst hn
  exact lv_bipush E.1.1 E.1.2.1 hd hv k
theorem q_sipush {z : Int} (E : En X A d p R s m args meth c cc own nL ret cells slots) (hd : decode cc pc = .ok (.sipush z, 3)) (hv : (Int16.ofInt z).toInt32 = jI z) (hn : pc + 3 = n) (k : W p l e R s m args below meth c H locs cells slots Q (F0 m n ls (.int (jI z) :: rest))) : W p l e R s m args below meth c H locs cells slots Q (F0 m pc ls rest) := by
  subst hn
  exact lv_sipush E.1.1 E.1.2.1 hd hv k
theorem q_ldc {z : Int} {i : Nat} {v : Int32} (E : En X A d p R s m args meth c cc own nL ret cells slots) (hw : Cond.constant own i v ∈ gtbl) (hv : v = jI z) (hd : decode cc pc = .ok (.ldc i, 2)) (hn : pc + 2 = n) (k : W p l e R s m args below meth c H locs cells slots Q (F0 m n ls (.int (jI z) :: rest))) : W p l e R s m args below meth c H locs cells slots Q (F0 m pc ls rest) := by
  subst hn
  subst hv
  exact lv_ldc E.1.1 E.1.2.1 E.1.2.2.2.1 (E.1.2.2.2.2 _ hw) hd k
theorem q_ldcw {z : Int} {i : Nat} {v : Int32} (E : En X A d p R s m args meth c cc own nL ret cells slots) (hw : Cond.constant own i v ∈ gtbl) (hv : v = jI z) (hd : decode cc pc = .ok (.ldc_w i, 3)) (hn : pc + 3 = n) (k : W p l e R s m args below meth c H locs cells slots Q (F0 m n ls (.int (jI z) :: rest))) : W p l e R s m args below meth c H locs cells slots Q (F0 m pc ls rest) := by
  subst hn
  subst hv
  exact lv_ldcw E.1.1 E.1.2.1 E.1.2.2.2.1 (E.1.2.2.2.2 _ hw) hd k
theorem q_ldc2 {z : Int} {i : Nat} {v : Int64} (E : En X A d p R s m args meth c cc own nL ret cells slots) (hw : Cond.constantLong own i v ∈ gtbl) (hv : v = jL z) (hd : decode cc pc = .ok (.ldc2_w i, 3)) (hn : pc + 3 = n) (k : W p l e R s m args below meth c H locs cells slots Q (F0 m n ls (.long (jL z) :: rest))) : W p l e R s m args below meth c H locs cells slots Q (F0 m pc ls rest) := by
  subst hn
  subst hv
  exact lv_ldc2 E.1.1 E.1.2.1 E.1.2.2.2.1 (E.1.2.2.2.2 _ hw) hd k
theorem q_lconst {z : Fin 2} {w : Int} (E : En X A d p R s m args meth c cc own nL ret cells slots) (hd : decode cc pc = .ok (.lconst z, 1)) (hv : Int64.ofNat (z : Nat) = jL w) (hn : pc + 1 = n) (k : W p l e R s m args below meth c H locs cells slots Q (F0 m n ls (.long (jL w) :: rest))) : W p l e R s m args below meth c H locs cells slots Q (F0 m pc ls rest) := by
  subst hn
  exact lv_lconst E.1.1 E.1.2.1 hd hv k
theorem q_iload_n {j : Fin 4} {i q : Nat} {x : Int32} (E : En X A d p R s m args meth c cc own nL ret cells slots) (hl : lv_has ls nL lv) (hq : lv[q]? = some (i, .int x)) (hd : decode cc pc = .ok (.iload_n j, 1)) (hi : (j : Nat) = i) (hn : pc + 1 = n) (k : W p l e R s m args below meth c H locs cells slots Q (F0 m n ls (.int x :: rest))) : W p l e R s m args below meth c H locs cells slots Q (F0 m pc ls rest) := by
  subst hn
  exact lv_iload_n E.1.1 E.1.2.1 hd hi (lv_at hl q hq) k
theorem q_iload {i q : Nat} {x : Int32} (E : En X A d p R s m args meth c cc own nL ret cells slots) (hl : lv_has ls nL lv) (hq : lv[q]? = some (i, .int x)) (hd : decode cc pc = .ok (.iload i, 2)) (hn : pc + 2 = n) (k : W p l e R s m args below meth c H locs cells slots Q (F0 m n ls (.int x :: rest))) : W p l e R s m args below meth c H locs cells slots Q (F0 m pc ls rest) := by
  subst hn
  exact lv_iload E.1.1 E.1.2.1 hd (lv_at hl q hq) k
theorem q_lload_n {j : Fin 4} {i q : Nat} {x : Int64} (E : En X A d p R s m args meth c cc own nL ret cells slots) (hl : lv_has ls nL lv) (hq : lv[q]? = some (i, .long x)) (hd : decode cc pc = .ok (.lload_n j, 1)) (hi : (j : Nat) = i) (hn : pc + 1 = n) (k : W p l e R s m args below meth c H locs cells slots Q (F0 m n ls (.long x :: rest))) : W p l e R s m args below meth c H locs cells slots Q (F0 m pc ls rest) := by
  subst hn
  exact lv_lload_n E.1.1 E.1.2.1 hd hi (lv_at hl q hq) k
theorem q_aload_n {j : Fin 4} {i q x : Nat} (E : En X A d p R s m args meth c cc own nL ret cells slots) (hl : lv_has ls nL lv) (hq : lv[q]? = some (i, .ref x)) (hd : decode cc pc = .ok (.aload_n j, 1)) (hi : (j : Nat) = i) (hn : pc + 1 = n) (k : W p l e R s m args below meth c H locs cells slots Q (F0 m n ls (.ref x :: rest))) : W p l e R s m args below meth c H locs cells slots Q (F0 m pc ls rest) := by
  subst hn
  exact lv_aload_n E.1.1 E.1.2.1 hd hi (lv_at hl q hq) k
theorem q_istore_n {j : Fin 4} {i : Nat} {x : Int32} (lv' : List (Nat × Value)) (E : En X A d p R s m args meth c cc own nL ret cells slots) (hl : lv_has ls nL lv) (hd : decode cc pc = .ok (.istore_n j, 1)) (hi : (j : Nat) = i) (hi2 : i < nL) (he : (i, Value.int x) :: lv.filter (fun q => !(q.1 == i) && !(q.1 + 1 == i && q.2.category == 2)) = lv') (hn : pc + 1 = n) (k : ∀ ls : Array Slot, lv_has ls nL lv' → W p l e R s m args below meth c H locs cells slots Q (F0 m n ls rest)) : W p l e R s m args below meth c H locs cells slots Q (F0 m pc ls (.int x :: rest)) := by
  subst hn
  exact lv_istore_n E.1.1 E.1.2.1 hd hi hl hi2 he k
theorem q_istore {i : Nat} {x : Int32} (lv' : List (Nat × Value)) (E : En X A d p R s m args meth c cc own nL ret cells slots) (hl : lv_has ls nL lv) (hd : decode cc pc = .ok (.istore i, 2)) (hi2 : i < nL) (he : (i, Value.int x) :: lv.filter (fun q => !(q.1 == i) && !(q.1 + 1 == i && q.2.category == 2)) = lv') (hn : pc + 2 = n) (k : ∀ ls : Array Slot, lv_has ls nL lv' → W p l e R s m args below meth c H locs cells slots Q (F0 m n ls rest)) : W p l e R s m args below meth c H locs cells slots Q (F0 m pc ls (.int x :: rest)) := by
  subst hn
  exact lv_istore E.1.1 E.1.2.1 hd hl hi2 he k
theorem q_lstore_n {j : Fin 4} {i : Nat} {x : Int64} (lv' : List (Nat × Value)) (E : En X A d p R s m args meth c cc own nL ret cells slots) (hl : lv_has ls nL lv) (hd : decode cc pc = .ok (.lstore_n j, 1)) (hi : (j : Nat) = i) (hi2 : i + 1 < nL) (he : (i, Value.long x) :: lv.filter (fun q => !(q.1 == i) && (!(q.1 == i + 1) && !(q.1 + 1 == i && q.2.category == 2))) = lv') (hn : pc + 1 = n) (k : ∀ ls : Array Slot, lv_has ls nL lv' → W p l e R s m args below meth c H locs cells slots Q (F0 m n ls rest)) : W p l e R s m args below meth c H locs cells slots Q (F0 m pc ls (.long x :: rest)) := by
  subst hn
  exact lv_lstore_n E.1.1 E.1.2.1 hd hi hl hi2 he k
theorem q_iinc {i q : Nat} {z a : Int} (lv' : List (Nat × Value)) (E : En X A d p R s m args meth c cc own nL ret cells slots) (hl : lv_has ls nL lv) (hq : lv[q]? = some (i, .int (jI a))) (hd : decode cc pc = .ok (.iinc i z, 3)) (hi2 : i < nL) (he : (i, Value.int (jI (a + z))) :: lv.filter (fun q => !(q.1 == i) && !(q.1 + 1 == i && q.2.category == 2)) = lv') (hn : pc + 3 = n) (k : ∀ ls : Array Slot, lv_has ls nL lv' → W p l e R s m args below meth c H locs cells slots Q (F0 m n ls rest)) : W p l e R s m args below meth c H locs cells slots Q (F0 m pc ls rest) := by
  subst hn
  exact lv_iinc E.1.1 E.1.2.1 hd hl hq (jI_add a z) hi2 he k
theorem q_iadd {a b : Int} (E : En X A d p R s m args meth c cc own nL ret cells slots) (hd : decode cc pc = .ok (.iadd, 1)) (hn : pc + 1 = n) (k : W p l e R s m args below meth c H locs cells slots Q (F0 m n ls (.int (jI (a + b)) :: rest))) : W p l e R s m args below meth c H locs cells slots Q (F0 m pc ls (.int (jI b) :: .int (jI a) :: rest)) := by
  subst hn
  exact lv_iadd E.1.1 E.1.2.1 hd (by rw [jI_add]; exact k)
theorem q_isub {a b : Int} (E : En X A d p R s m args meth c cc own nL ret cells slots) (hd : decode cc pc = .ok (.isub, 1)) (hn : pc + 1 = n) (k : W p l e R s m args below meth c H locs cells slots Q (F0 m n ls (.int (jI (a - b)) :: rest))) : W p l e R s m args below meth c H locs cells slots Q (F0 m pc ls (.int (jI b) :: .int (jI a) :: rest)) := by
  subst hn
  exact lv_isub E.1.1 E.1.2.1 hd (by rw [jI_sub]; exact k)
theorem q_imul {a b : Int} (E : En X A d p R s m args meth c cc own nL ret cells slots) (hd : decode cc pc = .ok (.imul, 1)) (hn : pc + 1 = n) (k : W p l e R s m args below meth c H locs cells slots Q (F0 m n ls (.int (jI (a * b)) :: rest))) : W p l e R s m args below meth c H locs cells slots Q (F0 m pc ls (.int (jI b) :: .int (jI a) :: rest)) := by
  subst hn
  exact lv_imul E.1.1 E.1.2.1 hd (by rw [jI_mul]; exact k)
theorem q_idiv {a b : Int} (E : En X A d p R s m args meth c cc own nL ret cells slots) (hr : Rg a ∧ 0 ≤ a) (hb : 0 < b ∧ Rg b) (hd : decode cc pc = .ok (.idiv, 1)) (hn : pc + 1 = n) (k : W p l e R s m args below meth c H locs cells slots Q (F0 m n ls (.int (jI (a / b)) :: rest))) : W p l e R s m args below meth c H locs cells slots Q (F0 m pc ls (.int (jI b) :: .int (jI a) :: rest)) := by
  subst hn
  exact lv_idiv E.1.1 E.1.2.1 hd (fun h => by have h1 := (jI_eq hb.2 (by decide)).mp (h.trans jI_0.symm); omega) (by rw [jI_div hr.1 hr.2 hb.1 hb.2]; exact k)
theorem q_irem {a b : Int} (E : En X A d p R s m args meth c cc own nL ret cells slots) (hr : Rg a ∧ 0 ≤ a) (hb : 0 < b ∧ Rg b) (hd : decode cc pc = .ok (.irem, 1)) (hn : pc + 1 = n) (k : W p l e R s m args below meth c H locs cells slots Q (F0 m n ls (.int (jI (a % b)) :: rest))) : W p l e R s m args below meth c H locs cells slots Q (F0 m pc ls (.int (jI b) :: .int (jI a) :: rest)) := by
  subst hn
  exact lv_irem E.1.1 E.1.2.1 hd (fun h => by have h1 := (jI_eq hb.2 (by decide)).mp (h.trans jI_0.symm); omega) (by rw [jI_rem hr.1 hr.2 hb.1 hb.2]; exact k)
theorem q_iand {a b : Int} (E : En X A d p R s m args meth c cc own nL ret cells slots) (hd : decode cc pc = .ok (.iand, 1)) (hn : pc + 1 = n) (k : W p l e R s m args below meth c H locs cells slots Q (F0 m n ls (.int (jI (bAnd a b)) :: rest))) : W p l e R s m args below meth c H locs cells slots Q (F0 m pc ls (.int (jI b) :: .int (jI a) :: rest)) := by
  subst hn
  exact lv_iand E.1.1 E.1.2.1 hd (by rw [bAnd, jI_of] at k; exact k)
theorem q_ior {a b : Int} (E : En X A d p R s m args meth c cc own nL ret cells slots) (hd : decode cc pc = .ok (.ior, 1)) (hn : pc + 1 = n) (k : W p l e R s m args below meth c H locs cells slots Q (F0 m n ls (.int (jI (bOr a b)) :: rest))) : W p l e R s m args below meth c H locs cells slots Q (F0 m pc ls (.int (jI b) :: .int (jI a) :: rest)) := by
  subst hn
  exact lv_ior E.1.1 E.1.2.1 hd (by rw [bOr, jI_of] at k; exact k)
theorem q_ixor {a b : Int} (E : En X A d p R s m args meth c cc own nL ret cells slots) (hd : decode cc pc = .ok (.ixor, 1)) (hn : pc + 1 = n) (k : W p l e R s m args below meth c H locs cells slots Q (F0 m n ls (.int (jI (bXor a b)) :: rest))) : W p l e R s m args below meth c H locs cells slots Q (F0 m pc ls (.int (jI b) :: .int (jI a) :: rest)) := by
  subst hn
  exact lv_ixor E.1.1 E.1.2.1 hd (by rw [bXor, jI_of] at k; exact k)
theorem q_ishl {a b : Int} (E : En X A d p R s m args meth c cc own nL ret cells slots) (hd : decode cc pc = .ok (.ishl, 1)) (hn : pc + 1 = n) (k : W p l e R s m args below meth c H locs cells slots Q (F0 m n ls (.int (jI (bShl a b)) :: rest))) : W p l e R s m args below meth c H locs cells slots Q (F0 m pc ls (.int (jI b) :: .int (jI a) :: rest)) := by
  subst hn
  exact lv_ishl E.1.1 E.1.2.1 hd (by rw [bShl, jI_of] at k; exact k)
theorem q_ishr {a b : Int} (E : En X A d p R s m args meth c cc own nL ret cells slots) (hd : decode cc pc = .ok (.ishr, 1)) (hn : pc + 1 = n) (k : W p l e R s m args below meth c H locs cells slots Q (F0 m n ls (.int (jI (bShr a b)) :: rest))) : W p l e R s m args below meth c H locs cells slots Q (F0 m pc ls (.int (jI b) :: .int (jI a) :: rest)) := by
  subst hn
  exact lv_ishr E.1.1 E.1.2.1 hd (by rw [bShr, jI_of] at k; exact k)
theorem q_iushr {a b : Int} (E : En X A d p R s m args meth c cc own nL ret cells slots) (hd : decode cc pc = .ok (.iushr, 1)) (hn : pc + 1 = n) (k : W p l e R s m args below meth c H locs cells slots Q (F0 m n ls (.int (jI (bUshr a b)) :: rest))) : W p l e R s m args below meth c H locs cells slots Q (F0 m pc ls (.int (jI b) :: .int (jI a) :: rest)) := by
  subst hn
  exact lv_iushr E.1.1 E.1.2.1 hd (by rw [bUshr, jI_of]) k
theorem q_ladd {a b : Int} (E : En X A d p R s m args meth c cc own nL ret cells slots) (hd : decode cc pc = .ok (.ladd, 1)) (hn : pc + 1 = n) (k : W p l e R s m args below meth c H locs cells slots Q (F0 m n ls (.long (jL (a + b)) :: rest))) : W p l e R s m args below meth c H locs cells slots Q (F0 m pc ls (.long (jL b) :: .long (jL a) :: rest)) := by
  subst hn
  exact lv_ladd E.1.1 E.1.2.1 hd (by rw [jL_add]; exact k)
theorem q_lsub {a b : Int} (E : En X A d p R s m args meth c cc own nL ret cells slots) (hd : decode cc pc = .ok (.lsub, 1)) (hn : pc + 1 = n) (k : W p l e R s m args below meth c H locs cells slots Q (F0 m n ls (.long (jL (a - b)) :: rest))) : W p l e R s m args below meth c H locs cells slots Q (F0 m pc ls (.long (jL b) :: .long (jL a) :: rest)) := by
  subst hn
  exact lv_lsub E.1.1 E.1.2.1 hd (by rw [jL_sub]; exact k)
theorem q_land {a b : Int} (E : En X A d p R s m args meth c cc own nL ret cells slots) (hd : decode cc pc = .ok (.land, 1)) (hn : pc + 1 = n) (k : W p l e R s m args below meth c H locs cells slots Q (F0 m n ls (.long (jL (lAnd a b)) :: rest))) : W p l e R s m args below meth c H locs cells slots Q (F0 m pc ls (.long (jL b) :: .long (jL a) :: rest)) := by
  subst hn
  exact lv_land E.1.1 E.1.2.1 hd (by rw [lAnd, jL_of] at k; exact k)
theorem q_lor {a b : Int} (E : En X A d p R s m args meth c cc own nL ret cells slots) (hd : decode cc pc = .ok (.lor, 1)) (hn : pc + 1 = n) (k : W p l e R s m args below meth c H locs cells slots Q (F0 m n ls (.long (jL (lOr a b)) :: rest))) : W p l e R s m args below meth c H locs cells slots Q (F0 m pc ls (.long (jL b) :: .long (jL a) :: rest)) := by
  subst hn
  exact lv_lor E.1.1 E.1.2.1 hd (by rw [lOr, jL_of] at k; exact k)
theorem q_lxor {a b : Int} (E : En X A d p R s m args meth c cc own nL ret cells slots) (hd : decode cc pc = .ok (.lxor, 1)) (hn : pc + 1 = n) (k : W p l e R s m args below meth c H locs cells slots Q (F0 m n ls (.long (jL (lXor a b)) :: rest))) : W p l e R s m args below meth c H locs cells slots Q (F0 m pc ls (.long (jL b) :: .long (jL a) :: rest)) := by
  subst hn
  exact lv_lxor E.1.1 E.1.2.1 hd (by rw [lXor, jL_of] at k; exact k)
theorem q_lshl {a b : Int} (E : En X A d p R s m args meth c cc own nL ret cells slots) (hd : decode cc pc = .ok (.lshl, 1)) (hn : pc + 1 = n) (k : W p l e R s m args below meth c H locs cells slots Q (F0 m n ls (.long (jL (lShl a b)) :: rest))) : W p l e R s m args below meth c H locs cells slots Q (F0 m pc ls (.int (jI b) :: .long (jL a) :: rest)) := by
  subst hn
  exact lv_lshl E.1.1 E.1.2.1 hd (by rw [lShl, jL_of]) k
theorem q_lshr {a b : Int} (E : En X A d p R s m args meth c cc own nL ret cells slots) (hd : decode cc pc = .ok (.lshr, 1)) (hn : pc + 1 = n) (k : W p l e R s m args below meth c H locs cells slots Q (F0 m n ls (.long (jL (lShr a b)) :: rest))) : W p l e R s m args below meth c H locs cells slots Q (F0 m pc ls (.int (jI b) :: .long (jL a) :: rest)) := by
  subst hn
  exact lv_lshr E.1.1 E.1.2.1 hd (by rw [lShr, jL_of]) k
theorem q_lushr {a b : Int} (E : En X A d p R s m args meth c cc own nL ret cells slots) (hd : decode cc pc = .ok (.lushr, 1)) (hn : pc + 1 = n) (k : W p l e R s m args below meth c H locs cells slots Q (F0 m n ls (.long (jL (lUshr a b)) :: rest))) : W p l e R s m args below meth c H locs cells slots Q (F0 m pc ls (.int (jI b) :: .long (jL a) :: rest)) := by
  subst hn
  exact lv_lushr E.1.1 E.1.2.1 hd (by rw [lUshr, jL_of]) k
theorem q_lcmp {a b : Int} (E : En X A d p R s m args meth c cc own nL ret cells slots) (hd : decode cc pc = .ok (.lcmp, 1)) (hn : pc + 1 = n) (k : W p l e R s m args below meth c H locs cells slots Q (F0 m n ls (.int (jI (lCmp a b)) :: rest))) : W p l e R s m args below meth c H locs cells slots Q (F0 m pc ls (.long (jL b) :: .long (jL a) :: rest)) := by
  subst hn
  exact W.lcmp E.1.1 E.1.2.1 hd (by rw [lCmp, jI_of] at k; exact k)
theorem q_i2l {a : Int} (E : En X A d p R s m args meth c cc own nL ret cells slots) (hd : decode cc pc = .ok (.i2l, 1)) (hn : pc + 1 = n) (k : W p l e R s m args below meth c H locs cells slots Q (F0 m n ls (.long (jL (i2l a)) :: rest))) : W p l e R s m args below meth c H locs cells slots Q (F0 m pc ls (.int (jI a) :: rest)) := by
  subst hn
  exact lv_i2l E.1.1 E.1.2.1 hd (by rw [i2l, jL_of]) k
theorem q_l2i {a : Int} (E : En X A d p R s m args meth c cc own nL ret cells slots) (hd : decode cc pc = .ok (.l2i, 1)) (hn : pc + 1 = n) (k : W p l e R s m args below meth c H locs cells slots Q (F0 m n ls (.int (jI (l2i a)) :: rest))) : W p l e R s m args below meth c H locs cells slots Q (F0 m pc ls (.long (jL a) :: rest)) := by
  subst hn
  exact lv_l2i E.1.1 E.1.2.1 hd (by rw [l2i, jI_of]) k
theorem q_dup {v : Value} (E : En X A d p R s m args meth c cc own nL ret cells slots) (hd : decode cc pc = .ok (.dup, 1)) (hv : v.category = 1) (hn : pc + 1 = n) (k : W p l e R s m args below meth c H locs cells slots Q (F0 m n ls (v :: v :: rest))) : W p l e R s m args below meth c H locs cells slots Q (F0 m pc ls (v :: rest)) := by
  subst hn
  exact lv_dup E.1.1 E.1.2.1 hd hv k
theorem q_dup2 {v w : Value} (E : En X A d p R s m args meth c cc own nL ret cells slots) (hd : decode cc pc = .ok (.dup2, 1)) (hv : v.category = 1) (hw : w.category = 1) (hn : pc + 1 = n) (k : W p l e R s m args below meth c H locs cells slots Q (F0 m n ls (v :: w :: v :: w :: rest))) : W p l e R s m args below meth c H locs cells slots Q (F0 m pc ls (v :: w :: rest)) := by
  subst hn
  exact lv_dup2_11 E.1.1 E.1.2.1 hd hv hw k
theorem q_pop {v : Value} (E : En X A d p R s m args meth c cc own nL ret cells slots) (hd : decode cc pc = .ok (.pop, 1)) (hv : v.category = 1) (hn : pc + 1 = n) (k : W p l e R s m args below meth c H locs cells slots Q (F0 m n ls rest)) : W p l e R s m args below meth c H locs cells slots Q (F0 m pc ls (v :: rest)) := by
  subst hn
  exact lv_pop E.1.1 E.1.2.1 hd hv k
theorem q_goto {o : Int} (E : En X A d p R s m args meth c cc own nL ret cells slots) (hd : decode cc pc = .ok (.goto o, 3)) (hn : (pc : Int) + o = (n : Int)) (k : W p l e R s m args below meth c H locs cells slots Q (F0 m n ls rest)) : W p l e R s m args below meth c H locs cells slots Q (F0 m pc ls rest) := lv_goto E.1.1 E.1.2.1 hd hn k
theorem q_icmp_eq {a b o : Int} {t : Nat} (E : En X A d p R s m args meth c cc own nL ret cells slots) (ha : Rg a) (hb : Rg b) (hd : decode cc pc = .ok (.if_icmp .eq o, 3)) (ht : (pc : Int) + o = (t : Int)) (hn : pc + 3 = n) (kt : a = b → W p l e R s m args below meth c H locs cells slots Q (F0 m t ls rest)) (kf : ¬ (a = b) → W p l e R s m args below meth c H locs cells slots Q (F0 m n ls rest)) : W p l e R s m args below meth c H locs cells slots Q (F0 m pc ls (.int (jI b) :: .int (jI a) :: rest)) := by
  subst hn
  have hi := jI_eq ha hb
  exact lv_icmp_eq E.1.1 E.1.2.1 hd ht (fun h => kt (hi.mp h)) (fun h => kf (fun h2 => h (hi.mpr h2)))
theorem q_if_eq {a o : Int} {t : Nat} (E : En X A d p R s m args meth c cc own nL ret cells slots) (ha : Rg a) (hd : decode cc pc = .ok (.ifCond .eq o, 3)) (ht : (pc : Int) + o = (t : Int)) (hn : pc + 3 = n) (kt : a = 0 → W p l e R s m args below meth c H locs cells slots Q (F0 m t ls rest)) (kf : ¬ (a = 0) → W p l e R s m args below meth c H locs cells slots Q (F0 m n ls rest)) : W p l e R s m args below meth c H locs cells slots Q (F0 m pc ls (.int (jI a) :: rest)) := by
  subst hn
  have hi := jI_eq ha (by decide : Rg 0)
  exact lv_if_eq E.1.1 E.1.2.1 hd ht (fun h => kt (hi.mp h)) (fun h => kf (fun h2 => h (hi.mpr h2)))
theorem q_icmp_ne {a b o : Int} {t : Nat} (E : En X A d p R s m args meth c cc own nL ret cells slots) (ha : Rg a) (hb : Rg b) (hd : decode cc pc = .ok (.if_icmp .ne o, 3)) (ht : (pc : Int) + o = (t : Int)) (hn : pc + 3 = n) (kt : a ≠ b → W p l e R s m args below meth c H locs cells slots Q (F0 m t ls rest)) (kf : ¬ (a ≠ b) → W p l e R s m args below meth c H locs cells slots Q (F0 m n ls rest)) : W p l e R s m args below meth c H locs cells slots Q (F0 m pc ls (.int (jI b) :: .int (jI a) :: rest)) := by
  subst hn
  have hi := not_congr (jI_eq ha hb)
  exact lv_icmp_ne E.1.1 E.1.2.1 hd ht (fun h => kt (hi.mp h)) (fun h => kf (fun h2 => (hi.mpr h2) h))
theorem q_if_ne {a o : Int} {t : Nat} (E : En X A d p R s m args meth c cc own nL ret cells slots) (ha : Rg a) (hd : decode cc pc = .ok (.ifCond .ne o, 3)) (ht : (pc : Int) + o = (t : Int)) (hn : pc + 3 = n) (kt : a ≠ 0 → W p l e R s m args below meth c H locs cells slots Q (F0 m t ls rest)) (kf : ¬ (a ≠ 0) → W p l e R s m args below meth c H locs cells slots Q (F0 m n ls rest)) : W p l e R s m args below meth c H locs cells slots Q (F0 m pc ls (.int (jI a) :: rest)) := by
  subst hn
  have hi := not_congr (jI_eq ha (by decide : Rg 0))
  exact lv_if_ne E.1.1 E.1.2.1 hd ht (fun h => kt (hi.mp h)) (fun h => kf (fun h2 => (hi.mpr h2) h))
theorem q_icmp_lt {a b o : Int} {t : Nat} (E : En X A d p R s m args meth c cc own nL ret cells slots) (ha : Rg a) (hb : Rg b) (hd : decode cc pc = .ok (.if_icmp .lt o, 3)) (ht : (pc : Int) + o = (t : Int)) (hn : pc + 3 = n) (kt : a < b → W p l e R s m args below meth c H locs cells slots Q (F0 m t ls rest)) (kf : ¬ (a < b) → W p l e R s m args below meth c H locs cells slots Q (F0 m n ls rest)) : W p l e R s m args below meth c H locs cells slots Q (F0 m pc ls (.int (jI b) :: .int (jI a) :: rest)) := by
  subst hn
  have hi := jI_lt ha hb
  exact lv_icmp_lt E.1.1 E.1.2.1 hd ht (fun h => kt (hi.mp h)) (fun h => kf (fun h2 => h (hi.mpr h2)))
theorem q_if_lt {a o : Int} {t : Nat} (E : En X A d p R s m args meth c cc own nL ret cells slots) (ha : Rg a) (hd : decode cc pc = .ok (.ifCond .lt o, 3)) (ht : (pc : Int) + o = (t : Int)) (hn : pc + 3 = n) (kt : a < 0 → W p l e R s m args below meth c H locs cells slots Q (F0 m t ls rest)) (kf : ¬ (a < 0) → W p l e R s m args below meth c H locs cells slots Q (F0 m n ls rest)) : W p l e R s m args below meth c H locs cells slots Q (F0 m pc ls (.int (jI a) :: rest)) := by
  subst hn
  have hi := jI_lt ha (by decide : Rg 0)
  exact lv_if_lt E.1.1 E.1.2.1 hd ht (fun h => kt (hi.mp h)) (fun h => kf (fun h2 => h (hi.mpr h2)))
theorem q_icmp_ge {a b o : Int} {t : Nat} (E : En X A d p R s m args meth c cc own nL ret cells slots) (ha : Rg a) (hb : Rg b) (hd : decode cc pc = .ok (.if_icmp .ge o, 3)) (ht : (pc : Int) + o = (t : Int)) (hn : pc + 3 = n) (kt : b ≤ a → W p l e R s m args below meth c H locs cells slots Q (F0 m t ls rest)) (kf : ¬ (b ≤ a) → W p l e R s m args below meth c H locs cells slots Q (F0 m n ls rest)) : W p l e R s m args below meth c H locs cells slots Q (F0 m pc ls (.int (jI b) :: .int (jI a) :: rest)) := by
  subst hn
  have hi := jI_le hb ha
  exact lv_icmp_ge E.1.1 E.1.2.1 hd ht (fun h => kt (hi.mp h)) (fun h => kf (fun h2 => h (hi.mpr h2)))
theorem q_if_ge {a o : Int} {t : Nat} (E : En X A d p R s m args meth c cc own nL ret cells slots) (ha : Rg a) (hd : decode cc pc = .ok (.ifCond .ge o, 3)) (ht : (pc : Int) + o = (t : Int)) (hn : pc + 3 = n) (kt : 0 ≤ a → W p l e R s m args below meth c H locs cells slots Q (F0 m t ls rest)) (kf : ¬ (0 ≤ a) → W p l e R s m args below meth c H locs cells slots Q (F0 m n ls rest)) : W p l e R s m args below meth c H locs cells slots Q (F0 m pc ls (.int (jI a) :: rest)) := by
  subst hn
  have hi := jI_le (by decide : Rg 0) ha
  exact lv_if_ge E.1.1 E.1.2.1 hd ht (fun h => kt (hi.mp h)) (fun h => kf (fun h2 => h (hi.mpr h2)))
theorem q_icmp_gt {a b o : Int} {t : Nat} (E : En X A d p R s m args meth c cc own nL ret cells slots) (ha : Rg a) (hb : Rg b) (hd : decode cc pc = .ok (.if_icmp .gt o, 3)) (ht : (pc : Int) + o = (t : Int)) (hn : pc + 3 = n) (kt : b < a → W p l e R s m args below meth c H locs cells slots Q (F0 m t ls rest)) (kf : ¬ (b < a) → W p l e R s m args below meth c H locs cells slots Q (F0 m n ls rest)) : W p l e R s m args below meth c H locs cells slots Q (F0 m pc ls (.int (jI b) :: .int (jI a) :: rest)) := by
  subst hn
  have hi := jI_lt hb ha
  exact lv_icmp_gt E.1.1 E.1.2.1 hd ht (fun h => kt (hi.mp h)) (fun h => kf (fun h2 => h (hi.mpr h2)))
theorem q_if_gt {a o : Int} {t : Nat} (E : En X A d p R s m args meth c cc own nL ret cells slots) (ha : Rg a) (hd : decode cc pc = .ok (.ifCond .gt o, 3)) (ht : (pc : Int) + o = (t : Int)) (hn : pc + 3 = n) (kt : 0 < a → W p l e R s m args below meth c H locs cells slots Q (F0 m t ls rest)) (kf : ¬ (0 < a) → W p l e R s m args below meth c H locs cells slots Q (F0 m n ls rest)) : W p l e R s m args below meth c H locs cells slots Q (F0 m pc ls (.int (jI a) :: rest)) := by
  subst hn
  have hi := jI_lt (by decide : Rg 0) ha
  exact lv_if_gt E.1.1 E.1.2.1 hd ht (fun h => kt (hi.mp h)) (fun h => kf (fun h2 => h (hi.mpr h2)))
theorem q_icmp_le {a b o : Int} {t : Nat} (E : En X A d p R s m args meth c cc own nL ret cells slots) (ha : Rg a) (hb : Rg b) (hd : decode cc pc = .ok (.if_icmp .le o, 3)) (ht : (pc : Int) + o = (t : Int)) (hn : pc + 3 = n) (kt : a ≤ b → W p l e R s m args below meth c H locs cells slots Q (F0 m t ls rest)) (kf : ¬ (a ≤ b) → W p l e R s m args below meth c H locs cells slots Q (F0 m n ls rest)) : W p l e R s m args below meth c H locs cells slots Q (F0 m pc ls (.int (jI b) :: .int (jI a) :: rest)) := by
  subst hn
  have hi := jI_le ha hb
  exact lv_icmp_le E.1.1 E.1.2.1 hd ht (fun h => kt (hi.mp h)) (fun h => kf (fun h2 => h (hi.mpr h2)))
theorem q_if_le {a o : Int} {t : Nat} (E : En X A d p R s m args meth c cc own nL ret cells slots) (ha : Rg a) (hd : decode cc pc = .ok (.ifCond .le o, 3)) (ht : (pc : Int) + o = (t : Int)) (hn : pc + 3 = n) (kt : a ≤ 0 → W p l e R s m args below meth c H locs cells slots Q (F0 m t ls rest)) (kf : ¬ (a ≤ 0) → W p l e R s m args below meth c H locs cells slots Q (F0 m n ls rest)) : W p l e R s m args below meth c H locs cells slots Q (F0 m pc ls (.int (jI a) :: rest)) := by
  subst hn
  have hi := jI_le ha (by decide : Rg 0)
  exact lv_if_le E.1.1 E.1.2.1 hd ht (fun h => kt (hi.mp h)) (fun h => kf (fun h2 => h (hi.mpr h2)))
end QR
end
section
/-! rows over the fixed memory: fields, arrays, calls, returns, switches -/
def ClsOK (ci : Nat) (C : String) (T : u_T) (N : Nat) (ty : Nat → FieldType) : Prop := vwCl[ci]? = some (C, T, N) ∧ (∀ w ∈ u_ws C T N, w ∈ gtbl) ∧ (∀ k, k < N → parseFieldDescriptor (T k).2.2.1 = some (ty k)) ∧ (∀ a, a < N → ∀ b, b < N → a ≠ b → (T a).2.1 ≠ (T b).2.1)
theorem K0 : ClsOK 0 RX0 TX0 10 tyX0 := ⟨rfl, in0, tyX0_ok, nmX0⟩
theorem K1 : ClsOK 1 RX1 TX1 5 tyX1 := ⟨rfl, in1, tyX1_ok, nmX1⟩
theorem K2 : ClsOK 2 RX2 TX2 7 tyX2 := ⟨rfl, in2, tyX2_ok, nmX2⟩
theorem K3 : ClsOK 3 RX3 TX3 5 tyX3 := ⟨rfl, in3, tyX3_ok, nmX3⟩
theorem K4 : ClsOK 4 RX4 TX4 2 tyX4 := ⟨rfl, in4, tyX4_ok, nmX4⟩
theorem K5 : ClsOK 5 RX5 TX5 3 tyX5 := ⟨rfl, in5, tyX5_ok, nmX5⟩
theorem K6 : ClsOK 6 RX6 TX6 8 tyX6 := ⟨rfl, in6, tyX6_ok, nmX6⟩
theorem K7 : ClsOK 7 RX7 TX7 7 tyX7 := ⟨rfl, in7, tyX7_ok, nmX7⟩
theorem K8 : ClsOK 8 RX8 TX8 46 tyX8 := ⟨rfl, in8, tyX8_ok, nmX8⟩
theorem jI_ix {i : Int} {n : Nat} (h : 0 ≤ i ∧ i < n) (hn : n < 2147483648) : vp_in (jI i) n ∧ (jI i).toNatClampNeg = i.toNat := by
  have h1 := h.1
  have h2 := h.2
  have hr : Rg i := ⟨by omega, by omega⟩
  refine ⟨vp_in_iff.mpr (by rw [jI_toInt hr]; exact h), ?_⟩
  show (jI i).toInt.toNat = i.toNat
  rw [jI_toInt hr]
theorem upr_fun (r : Nat → Int) (i : Nat) (v : Int) : upd (fun j => jI (r j)) i (jI v) = fun j => jI (upr r i v j) := by
  funext j
  simp only [upd, upr]
  split <;> rfl
theorem upr_funL (r : Nat → Int) (i : Nat) (v : Int) : vp_updL (fun j => jL (r j)) i (jL v) = fun j => jL (upr r i v j) := by
  funext j
  simp only [vp_updL, upr]
  split <;> rfl
theorem nar_bool {v : Int} (h : v = 0 ∨ v = 1) : narrow .boolean (.int (jI v)) = .int (jI v) := by rcases h with rfl | rfl <;> rfl
theorem fit_bool {v : Int} (h : v = 0 ∨ v = 1) : fits .boolean (.int (jI v)) = true := by rcases h with rfl | rfl <;> rfl
theorem vnar_bool {v : Int} (h : v = 0 ∨ v = 1) : vp_nar .boolean (jI v) = jI v := by rcases h with rfl | rfl <;> rfl
section QH
variable {X : Cx} {A : Nat → Prop} {d : Nat} {p : Program} {l : Launch} {e : Env} {R : Room} {s : State} {m : MethodId} {args : Array Value} {below : List Frame} {meth : Method} {c : Code} {cc : ByteArray} {own : String} {nL : Nat} {ret : Option FieldType} {H : Heap} {locs : List Loc} {cells slots : Nat} {Q : State → Prop} {pc n : Nat} {ls : Array Slot} {rest : List Value} {M : Mem}
theorem q_get {o ci N k i : Nat} {C ref : String} {T : u_T} {ty : Nat → FieldType} {fs : (Nat → Int) → List Value} {v : Value} (E : En X A d p R s m args meth c cc own nL ret cells slots) (hW : Wd X A s M H locs) (ho : o < NC) (he : ∀ r, entR X o r = .inr (ci, fs r)) (K : ClsOK ci C T N ty) (hk : k < N) (hw : Cond.fieldLink own i ref (T k).2.1 (T k).2.2.1 ∈ gtbl) (href : (T k).1 = ref) (hv : (fs (M o))[k]? = some v) (hd : decode cc pc = .ok (.getfield i, 3)) (hn : pc + 3 = n) (kk : W p l e R s m args below meth c H locs cells slots Q (F0 m n ls (v :: rest))) : W p l e R s m args below meth c H locs cells slots Q (F0 m pc ls (.ref (xA X o) :: rest)) := by
  subst hn
  subst href
  exact va_get (D := xD X) (ci := ci) (v := v) (C := C) (T := T) (N := N) E.1.1 E.1.2.1 E.1.2.2.2.2 K.2.1 E.1.2.2.2.1 E.2.1.1 hW.1 o ((pic_get X M ho).trans (by rw [he])) K.1 k hk (E.1.2.2.2.2 _ hw) (fun _ h => h) hv hd kk
theorem q_getN {o ci N k i j : Nat} {C ref host : String} {T : u_T} {ty : Nat → FieldType} {fs : (Nat → Int) → List Value} {v : Value} (E : En X A d p R s m args meth c cc own nL ret cells slots) (hW : Wd X A s M H locs) (ho : o < NC) (he : ∀ r, entR X o r = .inr (ci, fs r)) (K : ClsOK ci C T N ty) (hk : k < N) (j : Nat) (hw : nstl[j]? = some (Cond.fieldLinkNest own i ref (T k).2.1 (T k).2.2.1 host)) (href : (T k).1 = ref) (hv : (fs (M o))[k]? = some v) (hd : decode cc pc = .ok (.getfield i, 3)) (hn : pc + 3 = n) (kk : W p l e R s m args below meth c H locs cells slots Q (F0 m n ls (v :: rest))) : W p l e R s m args below meth c H locs cells slots Q (F0 m pc ls (.ref (xA X o) :: rest)) := by
  subst hn
  subst href
  exact va_getN (D := xD X) (ci := ci) (v := v) (C := C) (T := T) (N := N) E.1.1 E.1.2.1 E.1.2.2.2.2 K.2.1 E.1.2.2.2.1 E.2.1.1 hW.1 o ((pic_get X M ho).trans (by rw [he])) K.1 k hk (nst_use E.2.1.2.1 j hw rfl) (fun _ h => h) hv hd kk
theorem q_put {o ci N k i : Nat} {C ref : String} {T : u_T} {ty : Nat → FieldType} {fs : (Nat → Int) → List Value} {v : Int} (E : En X A d p R s m args meth c cc own nL ret cells slots) (hW : Wd X A s M H locs) (ho : o < NC) (he : ∀ r, entR X o r = .inr (ci, fs r)) (K : ClsOK ci C T N ty) (hk : k < N) (hw : Cond.fieldLink own i ref (T k).2.1 (T k).2.2.1 ∈ gtbl) (href : (T k).1 = ref) (hfin : (T k).2.2.2 = false) (hnf : narrow (ty k) (.int (jI v)) = .int (jI v) ∧ fits (ty k) (.int (jI v)) = true) (hl : k < (fs (M o)).length) (hset : ∀ r : Nat → Int, fs (upr r k v) = (fs r).set k (.int (jI v))) (hd : decode cc pc = .ok (.putfield i, 3)) (hn : pc + 3 = n) (kk : ∀ (H : Heap) (locs : List Loc), Wd X A s (up M o k v) H locs → W p l e R s m args below meth c H locs cells slots Q (F0 m n ls rest)) : W p l e R s m args below meth c H locs cells slots Q (F0 m pc ls (.int (jI v) :: .ref (xA X o) :: rest)) := by
  subst hn
  subst href
  refine va_put (D := xD X) (ci := ci) (v := .int (jI v)) (ty := ty k) (C := C) (T := T) (N := N) E.1.1 E.1.2.1 E.1.2.2.2.2 K.2.1 ty K.2.2.1 K.2.2.2 E.1.2.2.2.1 E.2.1.1 hW.1 (pic_D E.2.2.1.1 E.2.2.1.2) hW.2 o ((pic_get X M ho).trans (by rw [he])) K.1 k hk (E.1.2.2.2.2 _ hw) (fun _ h => h) hfin (K.2.2.1 k hk) hnf.1 hnf.2 hl hd (fun H1 locs1 hP1 _ hS1 => kk H1 locs1 ⟨?_, hS1⟩)
  rw [pic_set X M (i := k) (v := v) ho (by rw [he, hset])] at hP1
  exact hP1
theorem q_iald {a len : Nat} {i : Int} (E : En X A d p R s m args meth c cc own nL ret cells slots) (hW : Wd X A s M H locs) (ha : a < NC) (he : ∀ r, entR X a r = arI X len r) (hlen : len < 2147483648) (hi : 0 ≤ i ∧ i < len) (hd : decode cc pc = .ok (.iaload, 1)) (hn : pc + 1 = n) (kk : W p l e R s m args below meth c H locs cells slots Q (F0 m n ls (.int (jI (M a i.toNat)) :: rest))) : W p l e R s m args below meth c H locs cells slots Q (F0 m pc ls (.int (jI i) :: .ref (xA X a) :: rest)) := by
  subst hn
  obtain ⟨h1, h2⟩ := jI_ix hi hlen
  exact va_iald (D := xD X) (f := fun j => jI (M a j)) E.1.1 E.1.2.1 E.2.1.1 hW.1 a 0 ((pic_get X M ha).trans (by rw [he]; rfl)) rfl h1 hd (by rw [h2]; exact kk)
theorem q_zald {a len : Nat} {i : Int} (E : En X A d p R s m args meth c cc own nL ret cells slots) (hW : Wd X A s M H locs) (ha : a < NC) (he : ∀ r, entR X a r = arZ X len r) (hlen : len < 2147483648) (hi : 0 ≤ i ∧ i < len) (hd : decode cc pc = .ok (.baload, 1)) (hn : pc + 1 = n) (kk : W p l e R s m args below meth c H locs cells slots Q (F0 m n ls (.int (jI (M a i.toNat)) :: rest))) : W p l e R s m args below meth c H locs cells slots Q (F0 m pc ls (.int (jI i) :: .ref (xA X a) :: rest)) := by
  subst hn
  obtain ⟨h1, h2⟩ := jI_ix hi hlen
  exact va_zald (D := xD X) (f := fun j => jI (M a j)) E.1.1 E.1.2.1 E.2.1.1 hW.1 a 1 ((pic_get X M ha).trans (by rw [he]; rfl)) rfl h1 hd (by rw [h2]; exact kk)
theorem q_lald {a len : Nat} {i : Int} (E : En X A d p R s m args meth c cc own nL ret cells slots) (hW : Wd X A s M H locs) (ha : a < NC) (he : ∀ r, entR X a r = arJ X len r) (hlen : len < 2147483648) (hi : 0 ≤ i ∧ i < len) (hd : decode cc pc = .ok (.laload, 1)) (hn : pc + 1 = n) (kk : W p l e R s m args below meth c H locs cells slots Q (F0 m n ls (.long (jL (M a i.toNat)) :: rest))) : W p l e R s m args below meth c H locs cells slots Q (F0 m pc ls (.int (jI i) :: .ref (xA X a) :: rest)) := by
  subst hn
  obtain ⟨h1, h2⟩ := jI_ix hi hlen
  exact va_lald (D := xD X) (f := fun j => jL (M a j)) E.1.1 E.1.2.1 E.2.1.1 hW.1 a 2 ((pic_get X M ha).trans (by rw [he]; rfl)) rfl h1 hd (by rw [h2]; exact kk)
theorem q_aald {a len : Nat} {i : Int} {f : Nat → Nat} (E : En X A d p R s m args meth c cc own nL ret cells slots) (hW : Wd X A s M H locs) (ha : a < NC) (he : ∀ r, entR X a r = arR X len f) (hlen : len < 2147483648) (hi : 0 ≤ i ∧ i < len) (hd : decode cc pc = .ok (.aaload, 1)) (hn : pc + 1 = n) (kk : W p l e R s m args below meth c H locs cells slots Q (F0 m n ls (.ref (xA X (f i.toNat)) :: rest))) : W p l e R s m args below meth c H locs cells slots Q (F0 m pc ls (.int (jI i) :: .ref (xA X a) :: rest)) := by
  subst hn
  obtain ⟨h1, h2⟩ := jI_ix hi hlen
  exact va_aldq (D := xD X) (C := "StickerPress$Row") (f := fun j => some (xA X (f j))) E.1.1 E.1.2.1 E.2.1.1 hW.1 a 3 ((pic_get X M ha).trans (by rw [he]; rfl)) rfl h1 hd (by rw [h2]; exact kk)
theorem q_iast {a len : Nat} {i v : Int} (E : En X A d p R s m args meth c cc own nL ret cells slots) (hW : Wd X A s M H locs) (ha : a < NC) (he : ∀ r, entR X a r = arI X len r) (hlen : len < 2147483648) (hi : 0 ≤ i ∧ i < len) (hd : decode cc pc = .ok (.iastore, 1)) (hn : pc + 1 = n) (kk : ∀ (H : Heap) (locs : List Loc), Wd X A s (up M a i.toNat v) H locs → W p l e R s m args below meth c H locs cells slots Q (F0 m n ls rest)) : W p l e R s m args below meth c H locs cells slots Q (F0 m pc ls (.int (jI v) :: .int (jI i) :: .ref (xA X a) :: rest)) := by
  subst hn
  obtain ⟨h1, h2⟩ := jI_ix hi hlen
  refine va_iast (D := xD X) (f := fun j => jI (M a j)) E.1.1 E.1.2.1 E.2.1.1 hW.1 (pic_D E.2.2.1.1 E.2.2.1.2) hW.2 a 0 ((pic_get X M ha).trans (by rw [he]; rfl)) rfl h1 hd (fun H1 locs1 hP1 _ hS1 => kk H1 locs1 ⟨?_, hS1⟩)
  rw [h2, upr_fun, pic_set X M (i := i.toNat) (v := v) ha (by rw [he]; rfl)] at hP1
  exact hP1
theorem q_zast {a len : Nat} {i v : Int} (E : En X A d p R s m args meth c cc own nL ret cells slots) (hW : Wd X A s M H locs) (ha : a < NC) (he : ∀ r, entR X a r = arZ X len r) (hlen : len < 2147483648) (hi : 0 ≤ i ∧ i < len) (hv : v = 0 ∨ v = 1) (hd : decode cc pc = .ok (.bastore, 1)) (hn : pc + 1 = n) (kk : ∀ (H : Heap) (locs : List Loc), Wd X A s (up M a i.toNat v) H locs → W p l e R s m args below meth c H locs cells slots Q (F0 m n ls rest)) : W p l e R s m args below meth c H locs cells slots Q (F0 m pc ls (.int (jI v) :: .int (jI i) :: .ref (xA X a) :: rest)) := by
  subst hn
  obtain ⟨h1, h2⟩ := jI_ix hi hlen
  refine va_zast (D := xD X) (f := fun j => jI (M a j)) E.1.1 E.1.2.1 E.2.1.1 hW.1 (pic_D E.2.2.1.1 E.2.2.1.2) hW.2 a 1 ((pic_get X M ha).trans (by rw [he]; rfl)) rfl h1 hd (fun H1 locs1 hP1 _ hS1 => kk H1 locs1 ⟨?_, hS1⟩)
  rw [h2, vnar_bool hv, upr_fun, pic_set X M (i := i.toNat) (v := v) ha (by rw [he]; rfl)] at hP1
  exact hP1
theorem q_last {a len : Nat} {i v : Int} (E : En X A d p R s m args meth c cc own nL ret cells slots) (hW : Wd X A s M H locs) (ha : a < NC) (he : ∀ r, entR X a r = arJ X len r) (hlen : len < 2147483648) (hi : 0 ≤ i ∧ i < len) (hd : decode cc pc = .ok (.lastore, 1)) (hn : pc + 1 = n) (kk : ∀ (H : Heap) (locs : List Loc), Wd X A s (up M a i.toNat v) H locs → W p l e R s m args below meth c H locs cells slots Q (F0 m n ls rest)) : W p l e R s m args below meth c H locs cells slots Q (F0 m pc ls (.long (jL v) :: .int (jI i) :: .ref (xA X a) :: rest)) := by
  subst hn
  obtain ⟨h1, h2⟩ := jI_ix hi hlen
  refine va_last (D := xD X) (f := fun j => jL (M a j)) E.1.1 E.1.2.1 E.2.1.1 hW.1 (pic_D E.2.2.1.1 E.2.2.1.2) hW.2 a 2 ((pic_get X M ha).trans (by rw [he]; rfl)) rfl h1 hd (fun H1 locs1 hP1 _ hS1 => kk H1 locs1 ⟨?_, hS1⟩)
  rw [h2, upr_funL, pic_set X M (i := i.toNat) (v := v) ha (by rw [he]; rfl)] at hP1
  exact hP1
theorem q_alen {a len : Nat} (E : En X A d p R s m args meth c cc own nL ret cells slots) (hW : Wd X A s M H locs) (ha : a < NC) (he : ∀ r, entR X a r = arI X len r) (hd : decode cc pc = .ok (.arraylength, 1)) (hn : pc + 1 = n) (kk : W p l e R s m args below meth c H locs cells slots Q (F0 m n ls (.int (jI (len : Int)) :: rest))) : W p l e R s m args below meth c H locs cells slots Q (F0 m pc ls (.ref (xA X a) :: rest)) := by
  subst hn
  exact va_alen (D := xD X) (x := (len, .inl (fun j => jI (M a j)))) E.1.1 E.1.2.1 E.2.1.1 hW.1 a 0 ((pic_get X M ha).trans (by rw [he]; rfl)) (ty := .int) rfl (v := jI (len : Int)) rfl hd kk
theorem q_gets {i j : Nat} {host : String} (E : En X A d p R s m args meth c cc own nL ret cells slots) (hW : Wd X A s M H locs) (j : Nat) (hw : nstl[j]? = some (Cond.fieldLinkNest own i "StickerPress" "DIGIT_CODES" "[I" host)) (hd : decode cc pc = .ok (.getstatic i, 3)) (hn : pc + 3 = n) (kk : W p l e R s m args below meth c H locs cells slots Q (F0 m n ls (.ref (xT X) :: rest))) : W p l e R s m args below meth c H locs cells slots Q (F0 m pc ls rest) := by
  subst hn
  exact va_getsN E.1.1 E.1.2.1 E.2.1.2.2.1 hW.2 E.1.2.2.2.1 (nst_use E.2.1.2.1 j hw rfl) (fun _ h => h) hd kk
theorem q_tald {i : Int} (E : En X A d p R s m args meth c cc own nL ret cells slots) (hW : Wd X A s M H locs) (hi : 0 ≤ i ∧ i < 10) (hd : decode cc pc = .ok (.iaload, 1)) (hn : pc + 1 = n) (kk : W p l e R s m args below meth c H locs cells slots Q (F0 m n ls (.int (jI (dcode i.toNat)) :: rest))) : W p l e R s m args below meth c H locs cells slots Q (F0 m pc ls (.int (jI i) :: .ref (xT X) :: rest)) := by
  subst hn
  obtain ⟨h1, h2⟩ := jI_ix (n := 10) hi (by decide)
  exact va_ti E.1.1 E.1.2.1 E.2.1.2.2.2 hW.2 h1 (by rw [h2]) hd kk
theorem q_tlen (E : En X A d p R s m args meth c cc own nL ret cells slots) (hW : Wd X A s M H locs) (hd : decode cc pc = .ok (.arraylength, 1)) (hn : pc + 1 = n) (kk : W p l e R s m args below meth c H locs cells slots Q (F0 m n ls (.int (jI 10) :: rest))) : W p l e R s m args below meth c H locs cells slots Q (F0 m pc ls (.ref (xT X) :: rest)) := by
  subst hn
  exact va_tlen E.1.1 E.1.2.1 E.2.1.2.2.2 hW.2 rfl hd kk
/-! returns -/
theorem q_iret {v : Int} {QQ : Int → Mem → Prop} (E : En X (AW X) d p R s m args meth c cc own nL (some .int) 0 0) (hW : Wd X (AW X) s M H locs) (h : QQ v M) (hd : decode cc pc = .ok (.ireturn, 1)) : W p l e R s m args below meth c H locs 0 0 (MQ below (QI X QQ) args s 0 0 (AW X)) (F0 m pc ls [.int (jI v)]) :=
  W.iret (v := jI v) E.1.1 E.1.2.1 E.2.2.2.1.1 (fun t ht _ => ⟨⟨jI v, M, rfl, ⟨v, rfl, h⟩, by show va_P _ _ _ t.heap; rw [ht]; exact hW.1⟩, hW.2.F ht⟩) hW.2.2.2 hd E.2.2.2.1.2
theorem q_zret {v : Int} {QQ : Int → Mem → Prop} (E : En X (AW X) d p R s m args meth c cc own nL (some .boolean) 0 0) (hW : Wd X (AW X) s M H locs) (hv : v = 0 ∨ v = 1) (h : QQ v M) (hd : decode cc pc = .ok (.ireturn, 1)) : W p l e R s m args below meth c H locs 0 0 (MQ below (QI X QQ) args s 0 0 (AW X)) (F0 m pc ls [.int (jI v)]) :=
  W.zret (v := jI v) E.1.1 E.1.2.1 E.2.2.2.1.1 (nar_bool hv) (fun t ht _ => ⟨⟨jI v, M, rfl, ⟨v, rfl, h⟩, by show va_P _ _ _ t.heap; rw [ht]; exact hW.1⟩, hW.2.F ht⟩) hW.2.2.2 hd E.2.2.2.1.2
theorem q_vret {QQ : Mem → Prop} (E : En X (AW X) d p R s m args meth c cc own nL none 0 0) (hW : Wd X (AW X) s M H locs) (h : QQ M) (hd : decode cc pc = .ok (.return_, 1)) : W p l e R s m args below meth c H locs 0 0 (MQ below (QV X QQ) args s 0 0 (AW X)) (F0 m pc ls []) :=
  W.vret E.1.1 E.1.2.1 E.2.2.2.1.1 (fun t ht _ => ⟨⟨M, rfl, h, by show va_P _ _ _ t.heap; rw [ht]; exact hW.1⟩, hW.2.F ht⟩) hW.2.2.2 hd E.2.2.2.1.2
/-! calls -/
theorem gt_app {y : MethodName} {c2 : ByteArray} {nL2 : Nat} {ret2 : Option FieldType} (hcode : Cond.code y c2 nL2 ret2 ∈ gtbl) : GoodIn gtbl (Cond.code y c2 nL2 ret2 :: gtbl) := by
  intro w hw
  have h1 : w ∈ gtbl := by
    rcases List.mem_cons.mp hw with h | h
    · rw [h]; exact hcode
    · exact h
  exact ⟨h1, good_of_word (gtbl_good w h1)⟩
theorem rmd_ok {d d2 nL2 : Nat} {R : Room} (h : d2 + 1 ≤ d) (hm : nL2 ≤ 20) (h1 : d ≤ R.frames) (h2 : 40 * d ≤ R.locals) : (rmd d2).frames + 1 ≤ R.frames ∧ 8 + (nL2 + 11) + (rmd d2).locals ≤ R.locals := by
  unfold rmd
  dsimp only
  omega
/-- what a caller knows of a callee's tables -/
def YV (own : String) (i : Nat) (C : String) (y : MethodName) (c2 : ByteArray) (nL2 : Nat) (ret2 : Option FieldType) (k : Nat) : Prop := Cond.code y c2 nL2 ret2 ∈ gtbl ∧ Cond.methodLink own i y ∈ gtbl ∧ Cond.instanceMethod y ∈ gtbl ∧ Cond.selects C y y ∈ gtbl ∧ Cond.initialized y.cls ∈ gtbl ∧ (y.cls ≠ "java/lang/invoke/MethodHandle" ∧ y.cls ≠ "java/lang/invoke/VarHandle" ∧ (parseMethodDescriptor y.desc).map (fun d => d.parameters.length) = some k) ∧ nL2 ≤ 20
def YS (own : String) (i : Nat) (y : MethodName) (c2 : ByteArray) (nL2 : Nat) (ret2 : Option FieldType) (k : Nat) : Prop := Cond.code y c2 nL2 ret2 ∈ gtbl ∧ Cond.methodLink own i y ∈ gtbl ∧ Cond.static y ∈ gtbl ∧ Cond.initialized y.cls ∈ gtbl ∧ (y.cls ≠ "java/lang/invoke/MethodHandle" ∧ y.cls ≠ "java/lang/invoke/VarHandle" ∧ (parseMethodDescriptor y.desc).map (fun d => d.parameters.length) = some k) ∧ nL2 ≤ 20
def YN (own : String) (i : Nat) (y : MethodName) (c2 : ByteArray) (nL2 : Nat) (ret2 : Option FieldType) (k : Nat) (host : String) : Prop := Cond.code y c2 nL2 ret2 ∈ gtbl ∧ Cond.methodLinkNest own i y host ∈ nstl ∧ Cond.static y ∈ gtbl ∧ Cond.initialized y.cls ∈ gtbl ∧ (y.cls ≠ "java/lang/invoke/MethodHandle" ∧ y.cls ≠ "java/lang/invoke/VarHandle" ∧ (parseMethodDescriptor y.desc).map (fun d => d.parameters.length) = some k) ∧ nL2 ≤ 20
theorem CP_ready (E : En X A d p R s m args meth c cc own nL ret cells slots) (hW : Wd X A s M H locs) : ∀ U : State, U.heap = H → s.WarmedH U.vm → CP X M U := fun U hU hV => ⟨by rw [hU]; exact hW.1, E.2.1.call E.2.2.1.2 hW.2 hU hV⟩
theorem recv_ok {o ci N : Nat} {C : String} {T : u_T} {ty : Nat → FieldType} {fs : (Nat → Int) → List Value} (E : En X A d p R s m args meth c cc own nL ret cells slots) (hW : Wd X A s M H locs) (ho : o < NC) (he : ∀ r, entR X o r = .inr (ci, fs r)) (K : ClsOK ci C T N ty) : ∃ cell : Cell, H[xA X o]? = some cell ∧ cell.vm.isStatics = false ∧ s.vm.findClass C = some cell.cls := va_recv (q := (C, T, N)) E.2.1.1 hW.1 K.1 (q0 := o) ((pic_get X M ho).trans (by rw [he]))
theorem q_callVi {y : MethodName} {c2 : ByteArray} {nL2 d2 i k o ci N : Nat} {ret2 : Option FieldType} {C : String} {T : u_T} {ty : Nat → FieldType} {fs : (Nat → Int) → List Value} {QQ : Int → Mem → Prop} {st0 : List Value} (As : List Value) (E : En X A d p R s m args meth c cc own nL ret cells slots) (hW : Wd X A s M H locs) (hlv : ls.size = nL) (ho : o < NC) (he : ∀ r, entR X o r = .inr (ci, fs r)) (K : ClsOK ci C T N ty) (hM : MI X l y c2 nL2 ret2 d2 (.ref (xA X o) :: As) M QQ) (hdd : d2 + 1 ≤ d) (Y : YV own i C y c2 nL2 ret2 k) (hk : As.length = k) (hst : st0 = As.reverse ++ .ref (xA X o) :: rest) (hr : (rest.map fun v => v.category).sum ≤ 8) (hd : decode cc pc = .ok (.invokevirtual i, 3)) (hn : pc + 3 = n) (kk : ∀ (r : Int) (M : Mem) (H : Heap) (locs : List Loc), QQ r M → Wd X A s M H locs → W p l e R s m args below meth c H locs cells slots Q (F0 m n ls (.int (jI r) :: rest))) : W p l e R s m args below meth c H locs cells slots Q (F0 m pc ls st0) := by
  subst hn
  obtain ⟨y1, y2, y3, y4, y5, y6, y7⟩ := Y
  refine va_calli (A0 := A) (H0 := s.heap) (va_runV (g := F0 m pc ls st0) (As := As) (rest := rest) (b := xA X o) (C := C) (y := y) (bytes := c2) (maxL := nL2) (ret := ret2) (index := i) (n := k) E.1 hM ⟨callB_of k E.1.2.2.2.2 (gt_app y1) rfl rfl rfl (E.1.2.2.2.2 _ y5) (E.1.2.2.2.2 _ y2) y6 (rmd_ok hdd y7 E.2.2.2.2.1 E.2.2.2.2.2.1), E.1.2.2.2.2 _ y3, E.1.2.2.2.2 _ y4⟩ ⟨CP.blind X M _, recv_ok E hW ho he K, fun U hU hV => ⟨rfl, CP_ready E hW U hU hV⟩⟩ rfl hk hlv hst (lv_room (rest := st0) hr) hd ⟨E.2.2.2.2.2.2.1, E.2.2.2.2.2.2.2⟩) hW.2 (fun q _ h => E.2.2.1.2 q h) (fun q h => E.2.2.1.2 q h) (fun r u t H1 locs1 ht _ hw hB _ _ hS1 => ?_)
  obtain ⟨v, rfl, hq⟩ := hw
  exact kk v u H1 locs1 hq ⟨by rw [← ht]; exact hB, hS1⟩
theorem q_callVv {y : MethodName} {c2 : ByteArray} {nL2 d2 i k o ci N : Nat} {C : String} {T : u_T} {ty : Nat → FieldType} {fs : (Nat → Int) → List Value} {QQ : Mem → Prop} {st0 : List Value} (As : List Value) (E : En X A d p R s m args meth c cc own nL ret cells slots) (hW : Wd X A s M H locs) (hlv : ls.size = nL) (ho : o < NC) (he : ∀ r, entR X o r = .inr (ci, fs r)) (K : ClsOK ci C T N ty) (hM : MV X l y c2 nL2 d2 (.ref (xA X o) :: As) M QQ) (hdd : d2 + 1 ≤ d) (Y : YV own i C y c2 nL2 none k) (hk : As.length = k) (hst : st0 = As.reverse ++ .ref (xA X o) :: rest) (hr : (rest.map fun v => v.category).sum ≤ 8) (hd : decode cc pc = .ok (.invokevirtual i, 3)) (hn : pc + 3 = n) (kk : ∀ (M : Mem) (H : Heap) (locs : List Loc), QQ M → Wd X A s M H locs → W p l e R s m args below meth c H locs cells slots Q (F0 m n ls rest)) : W p l e R s m args below meth c H locs cells slots Q (F0 m pc ls st0) := by
  subst hn
  obtain ⟨y1, y2, y3, y4, y5, y6, y7⟩ := Y
  exact va_callv (A0 := A) (H0 := s.heap) (va_runV (g := F0 m pc ls st0) (As := As) (rest := rest) (b := xA X o) (C := C) (y := y) (bytes := c2) (maxL := nL2) (ret := none) (index := i) (n := k) E.1 hM ⟨callB_of k E.1.2.2.2.2 (gt_app y1) rfl rfl rfl (E.1.2.2.2.2 _ y5) (E.1.2.2.2.2 _ y2) y6 (rmd_ok hdd y7 E.2.2.2.2.1 E.2.2.2.2.2.1), E.1.2.2.2.2 _ y3, E.1.2.2.2.2 _ y4⟩ ⟨CP.blind X M _, recv_ok E hW ho he K, fun U hU hV => ⟨rfl, CP_ready E hW U hU hV⟩⟩ rfl hk hlv hst (lv_room (rest := st0) hr) hd ⟨E.2.2.2.2.2.2.1, E.2.2.2.2.2.2.2⟩) hW.2 (fun q _ h => E.2.2.1.2 q h) (fun q h => E.2.2.1.2 q h) (fun u t H1 locs1 ht _ hw hB _ _ hS1 => kk u H1 locs1 hw ⟨by rw [← ht]; exact hB, hS1⟩)
theorem q_callSi {y : MethodName} {c2 : ByteArray} {nL2 d2 i k : Nat} {ret2 : Option FieldType} {QQ : Int → Mem → Prop} {st0 : List Value} (As : List Value) (E : En X A d p R s m args meth c cc own nL ret cells slots) (hW : Wd X A s M H locs) (hlv : ls.size = nL) (hM : MI X l y c2 nL2 ret2 d2 As M QQ) (hdd : d2 + 1 ≤ d) (Y : YS own i y c2 nL2 ret2 k) (hk : As.length = k) (hst : st0 = As.reverse ++ rest) (hr : (rest.map fun v => v.category).sum ≤ 8) (hd : decode cc pc = .ok (.invokestatic i, 3)) (hn : pc + 3 = n) (kk : ∀ (r : Int) (M : Mem) (H : Heap) (locs : List Loc), QQ r M → Wd X A s M H locs → W p l e R s m args below meth c H locs cells slots Q (F0 m n ls (.int (jI r) :: rest))) : W p l e R s m args below meth c H locs cells slots Q (F0 m pc ls st0) := by
  subst hn
  obtain ⟨y1, y2, y3, y5, y6, y7⟩ := Y
  refine va_calli (A0 := A) (H0 := s.heap) (va_runS (g := F0 m pc ls st0) (As := As) (rest := rest) (y := y) (bytes := c2) (maxL := nL2) (ret := ret2) (index := i) (n := k) E.1 hM ⟨callB_of k E.1.2.2.2.2 (gt_app y1) rfl rfl rfl (E.1.2.2.2.2 _ y5) (E.1.2.2.2.2 _ y2) y6 (rmd_ok hdd y7 E.2.2.2.2.1 E.2.2.2.2.2.1), E.1.2.2.2.2 _ y3⟩ ⟨CP.blind X M _, fun U hU hV => ⟨rfl, CP_ready E hW U hU hV⟩⟩ rfl hk hlv hst (lv_room (rest := st0) hr) hd ⟨E.2.2.2.2.2.2.1, E.2.2.2.2.2.2.2⟩) hW.2 (fun q _ h => E.2.2.1.2 q h) (fun q h => E.2.2.1.2 q h) (fun r u t H1 locs1 ht _ hw hB _ _ hS1 => ?_)
  obtain ⟨v, rfl, hq⟩ := hw
  exact kk v u H1 locs1 hq ⟨by rw [← ht]; exact hB, hS1⟩
theorem q_callNi {y : MethodName} {c2 : ByteArray} {nL2 d2 i k : Nat} {ret2 : Option FieldType} {host : String} {QQ : Int → Mem → Prop} {st0 : List Value} (As : List Value) (E : En X A d p R s m args meth c cc own nL ret cells slots) (hW : Wd X A s M H locs) (hlv : ls.size = nL) (hM : MI X l y c2 nL2 ret2 d2 As M QQ) (hdd : d2 + 1 ≤ d) (Y : YN own i y c2 nL2 ret2 k host) (hk : As.length = k) (hst : st0 = As.reverse ++ rest) (hr : (rest.map fun v => v.category).sum ≤ 8) (hd : decode cc pc = .ok (.invokestatic i, 3)) (hn : pc + 3 = n) (kk : ∀ (r : Int) (M : Mem) (H : Heap) (locs : List Loc), QQ r M → Wd X A s M H locs → W p l e R s m args below meth c H locs cells slots Q (F0 m n ls (.int (jI r) :: rest))) : W p l e R s m args below meth c H locs cells slots Q (F0 m pc ls st0) := by
  subst hn
  obtain ⟨y1, y2, y3, y5, y6, y7⟩ := Y
  refine va_calli (A0 := A) (H0 := s.heap) (va_runSN (g := F0 m pc ls st0) (As := As) (rest := rest) (y := y) (bytes := c2) (maxL := nL2) (ret := ret2) (index := i) (host := host) (n := k) E.1 hM ⟨va_cnB k E.1.2.2.2.2 (gt_app y1) rfl rfl rfl (E.2.1.2.1 _ y2) (E.1.2.2.2.2 _ y5) y6 (rmd_ok hdd y7 E.2.2.2.2.1 E.2.2.2.2.2.1), E.1.2.2.2.2 _ y3, trivial⟩ ⟨CP.blind X M _, fun U hU hV => ⟨rfl, CP_ready E hW U hU hV⟩⟩ rfl hk hlv hst (lv_room (rest := st0) hr) hd ⟨E.2.2.2.2.2.2.1, E.2.2.2.2.2.2.2⟩) hW.2 (fun q _ h => E.2.2.1.2 q h) (fun q h => E.2.2.1.2 q h) (fun r u t H1 locs1 ht _ hw hB _ _ hS1 => ?_)
  obtain ⟨v, rfl, hq⟩ := hw
  exact kk v u H1 locs1 hq ⟨by rw [← ht]; exact hB, hS1⟩
end QH
section QS
variable {X : Cx} {A : Nat → Prop} {d : Nat} {p : Program} {l : Launch} {e : Env} {R : Room} {s : State} {m : MethodId} {args : Array Value} {below : List Frame} {meth : Method} {c : Code} {cc : ByteArray} {own : String} {nL : Nat} {ret : Option FieldType} {H : Heap} {locs : List Loc} {cells slots : Nat} {Q : State → Prop} {pc n : Nat} {ls : Array Slot} {rest : List Value} {M : Mem}
theorem q_tin {x lo hi df off : Int} {offs : Array Int} {len t : Nat} (k : Int) (E : En X A d p R s m args meth c cc own nL ret cells slots) (hx : x = k) (hr : Rg k) (hd : decode cc pc = .ok (.tableswitch df lo hi offs, len)) (h1 : lo ≤ k ∧ k ≤ hi) (ho : offs[(k - lo).toNat]? = some off) (ht : (pc : Int) + off = (t : Int)) (kk : W p l e R s m args below meth c H locs cells slots Q (F0 m t ls rest)) : W p l e R s m args below meth c H locs cells slots Q (F0 m pc ls (.int (jI x) :: rest)) := by
  subst hx
  have h2 := h1.1
  have h3 := h1.2
  exact lv_tableIn E.1.1 E.1.2.1 hd (by rw [jI_toInt hr]; omega) (by rw [jI_toInt hr]; omega) (by rw [jI_toInt hr]; exact ho) ht kk
theorem q_tout {x lo hi df : Int} {offs : Array Int} {len t : Nat} (E : En X A d p R s m args meth c cc own nL ret cells slots) (hr : Rg x) (h : x < lo ∨ hi < x) (hd : decode cc pc = .ok (.tableswitch df lo hi offs, len)) (ht : (pc : Int) + df = (t : Int)) (kk : W p l e R s m args below meth c H locs cells slots Q (F0 m t ls rest)) : W p l e R s m args below meth c H locs cells slots Q (F0 m pc ls (.int (jI x) :: rest)) :=
  lv_tableOut E.1.1 E.1.2.1 hd (by rw [jI_toInt hr]; exact h) ht kk
theorem q_lsw {x df off : Int} {ps : Array (Int × Int)} {len t : Nat} (E : En X A d p R s m args meth c cc own nL ret cells slots) (hr : Rg x) (hd : decode cc pc = .ok (.lookupswitch df ps, len)) (hp : (ps.toList.zip (ps.toList.drop 1)).all (fun (a, next) => a.1 < next.1) = true) (ho : Op.lookupswitch.offset ps.toList df x = off) (ht : (pc : Int) + off = (t : Int)) (kk : W p l e R s m args below meth c H locs cells slots Q (F0 m t ls rest)) : W p l e R s m args below meth c H locs cells slots Q (F0 m pc ls (.int (jI x) :: rest)) :=
  lv_lookup E.1.1 E.1.2.1 hd hp (by rw [jI_toInt hr]; exact ho) ht kk
theorem capR_lt (o : Nat) : capR o < 2147483648 := by
  unfold capR
  repeat' split
  all_goals decide
end QS
end
section
/-! Row -/
section
variable {X : Cx} {p : Program} {l : Launch} {e : Env} {R : Room} {s : State} {m : MethodId} {args : Array Value} {below : List Frame} {meth : Method} {c : Code}
/-! StickerPress$Row.size()I -/
theorem dX4_size_0 : decode cX4_size 0 = .ok (.aload_n 0, 1) := by decide +kernel
theorem dX4_size_1 : decode cX4_size 1 = .ok (.getfield 21, 3) := by decide +kernel
theorem dX4_size_4 : decode cX4_size 4 = .ok (.ireturn, 1) := by decide +kernel
def wp_X4_size (o : Nat) (M : Mem) (Q : Int → Mem → Prop) : Prop := Q (M o 1) M
set_option maxHeartbeats 4000000 in
set_option maxRecDepth 100000 in
theorem c_X4_size (l : Launch) (X : Cx) (hI : Inj X) (o : Nat) (ho : isRow o) (M : Mem) (Q : Int → Mem → Prop) (h : wp_X4_size o M Q) : MI X l yX4_size cX4_size 1 (some .int) 0 [.ref (xA X o)] M Q := by
  refine MI.of hI (by decide) (Nat.le_of_ble_eq_true rfl) ?_
  intro p e R s m args below meth c ls E hW hl
  have E : En X (AW X) 0 p R s m args meth c cX4_size RX4 1 (some .int) 0 0 := E
  have hl : lv_has ls 1 [(0, .ref (xA X o))] := hl
  unfold wp_X4_size at h
  refine q_aload_n (n := 1) (q := 0) E hl rfl dX4_size_0 rfl rfl ?_
  refine q_get (n := 4) (k := 1) (fs := (fsRow X o)) (v := .int (jI (M o 1))) E hW (isRow_lt ho) (ent_row X ho) K4 (by decide) w71 rfl rfl dX4_size_1 rfl ?_
  exact q_iret E hW h dX4_size_4
/-! StickerPress$Row.at(I)I -/
theorem dX4_at_0 : decode cX4_at 0 = .ok (.iload_n 1, 1) := by decide +kernel
theorem dX4_at_1 : decode cX4_at 1 = .ok (.ifCond .lt 11, 3) := by decide +kernel
theorem dX4_at_4 : decode cX4_at 4 = .ok (.iload_n 1, 1) := by decide +kernel
theorem dX4_at_5 : decode cX4_at 5 = .ok (.aload_n 0, 1) := by decide +kernel
theorem dX4_at_6 : decode cX4_at 6 = .ok (.getfield 21, 3) := by decide +kernel
theorem dX4_at_9 : decode cX4_at 9 = .ok (.if_icmp .lt 5, 3) := by decide +kernel
theorem dX4_at_12 : decode cX4_at 12 = .ok (.iconst (-1), 1) := by decide +kernel
theorem dX4_at_13 : decode cX4_at 13 = .ok (.ireturn, 1) := by decide +kernel
theorem dX4_at_14 : decode cX4_at 14 = .ok (.aload_n 0, 1) := by decide +kernel
theorem dX4_at_15 : decode cX4_at 15 = .ok (.getfield 15, 3) := by decide +kernel
theorem dX4_at_18 : decode cX4_at 18 = .ok (.iload_n 1, 1) := by decide +kernel
theorem dX4_at_19 : decode cX4_at 19 = .ok (.iaload, 1) := by decide +kernel
theorem dX4_at_20 : decode cX4_at 20 = .ok (.ireturn, 1) := by decide +kernel
def wp_X4_at (o : Nat) (a1 : Int) (M : Mem) (Q : Int → Mem → Prop) : Prop := (Rg a1 ∧ (a1 < 0 → Q (-1) M) ∧ (¬ (a1 < 0) → (Rg a1 ∧ Rg (M o 1) ∧ (a1 < (M o 1) → (0 ≤ a1 ∧ a1 < ((capR o : Nat) : Int)) ∧ Q (M (o + 1) a1.toNat) M) ∧ (¬ (a1 < (M o 1)) → Q (-1) M))))
set_option maxHeartbeats 4000000 in
set_option maxRecDepth 100000 in
theorem c_X4_at (l : Launch) (X : Cx) (hI : Inj X) (o : Nat) (a1 : Int) (ho : isRow o) (M : Mem) (Q : Int → Mem → Prop) (h : wp_X4_at o a1 M Q) : MI X l yX4_at cX4_at 2 (some .int) 0 [.ref (xA X o), .int (jI a1)] M Q := by
  refine MI.of hI (by decide) (Nat.le_of_ble_eq_true rfl) ?_
  intro p e R s m args below meth c ls E hW hl
  have E : En X (AW X) 0 p R s m args meth c cX4_at RX4 2 (some .int) 0 0 := E
  have hl : lv_has ls 2 [(0, .ref (xA X o)), (1, .int (jI a1))] := hl
  unfold wp_X4_at at h
  refine q_iload_n (n := 1) (q := 1) E hl rfl dX4_at_0 rfl rfl ?_
  obtain ⟨g1, h2, h3⟩ := h
  refine q_if_lt (t := 12) (n := 4) E g1 dX4_at_1 (by decide) rfl (fun c4 => ?_) (fun c4 => ?_)
  · have h := h2 c4
    refine q_iconst (n := 13) E dX4_at_12 rfl ?_
    exact q_iret E hW h dX4_at_13
  · have h := h3 c4
    refine q_iload_n (n := 5) (q := 1) E hl rfl dX4_at_4 rfl rfl ?_
    refine q_aload_n (n := 6) (q := 0) E hl rfl dX4_at_5 rfl rfl ?_
    refine q_get (n := 9) (k := 1) (fs := (fsRow X o)) (v := .int (jI (M o 1))) E hW (isRow_lt ho) (ent_row X ho) K4 (by decide) w71 rfl rfl dX4_at_6 rfl ?_
    obtain ⟨g5, g6, h7, h8⟩ := h
    refine q_icmp_lt (t := 14) (n := 12) E g5 g6 dX4_at_9 (by decide) rfl (fun c9 => ?_) (fun c9 => ?_)
    · have h := h7 c9
      refine q_aload_n (n := 15) (q := 0) E hl rfl dX4_at_14 rfl rfl ?_
      refine q_get (n := 18) (k := 0) (fs := (fsRow X o)) (v := .ref (xA X (o + 1))) E hW (isRow_lt ho) (ent_row X ho) K4 (by decide) w70 rfl rfl dX4_at_15 rfl ?_
      refine q_iload_n (n := 19) (q := 1) E hl rfl dX4_at_18 rfl rfl ?_
      obtain ⟨g10, h⟩ := h
      refine q_iald (n := 20) E hW (isRow_lt1 ho) (ent_arr X ho) (capR_lt _) g10 dX4_at_19 rfl ?_
      exact q_iret E hW h dX4_at_20
    · have h := h8 c9
      refine q_iconst (n := 13) E dX4_at_12 rfl ?_
      exact q_iret E hW h dX4_at_13
/-! StickerPress$Row.clear()V -/
theorem dX4_clear_0 : decode cX4_clear 0 = .ok (.aload_n 0, 1) := by decide +kernel
theorem dX4_clear_1 : decode cX4_clear 1 = .ok (.iconst 0, 1) := by decide +kernel
theorem dX4_clear_2 : decode cX4_clear 2 = .ok (.putfield 21, 3) := by decide +kernel
theorem dX4_clear_5 : decode cX4_clear 5 = .ok (.return_, 1) := by decide +kernel
def wp_X4_clear (o : Nat) (M : Mem) (Q : Mem → Prop) : Prop := Q (up M o 1 0)
set_option maxHeartbeats 4000000 in
set_option maxRecDepth 100000 in
theorem c_X4_clear (l : Launch) (X : Cx) (hI : Inj X) (o : Nat) (ho : isRow o) (M : Mem) (Q : Mem → Prop) (h : wp_X4_clear o M Q) : MV X l yX4_clear cX4_clear 1 0 [.ref (xA X o)] M Q := by
  refine MV.of hI (by decide) (Nat.le_of_ble_eq_true rfl) ?_
  intro p e R s m args below meth c ls E hW hl
  have E : En X (AW X) 0 p R s m args meth c cX4_clear RX4 1 none 0 0 := E
  have hl : lv_has ls 1 [(0, .ref (xA X o))] := hl
  unfold wp_X4_clear at h
  refine q_aload_n (n := 1) (q := 0) E hl rfl dX4_clear_0 rfl rfl ?_
  refine q_iconst (n := 2) E dX4_clear_1 rfl ?_
  refine q_put (n := 5) (k := 1) (fs := (fsRow X o)) E hW (isRow_lt ho) (ent_row X ho) K4 (by decide) w71 rfl rfl ⟨rfl, rfl⟩ (Nat.le_of_ble_eq_true rfl) (fun _ => rfl) dX4_clear_2 rfl (fun H locs hW => ?_)
  exact q_vret E hW h dX4_clear_5
/-! StickerPress$Row.add(I)Z -/
theorem dX4_add_0 : decode cX4_add 0 = .ok (.aload_n 0, 1) := by decide +kernel
theorem dX4_add_1 : decode cX4_add 1 = .ok (.getfield 21, 3) := by decide +kernel
theorem dX4_add_4 : decode cX4_add 4 = .ok (.aload_n 0, 1) := by decide +kernel
theorem dX4_add_5 : decode cX4_add 5 = .ok (.getfield 15, 3) := by decide +kernel
theorem dX4_add_8 : decode cX4_add 8 = .ok (.arraylength, 1) := by decide +kernel
theorem dX4_add_9 : decode cX4_add 9 = .ok (.if_icmp .lt 5, 3) := by decide +kernel
theorem dX4_add_12 : decode cX4_add 12 = .ok (.iconst 0, 1) := by decide +kernel
theorem dX4_add_13 : decode cX4_add 13 = .ok (.ireturn, 1) := by decide +kernel
theorem dX4_add_14 : decode cX4_add 14 = .ok (.aload_n 0, 1) := by decide +kernel
theorem dX4_add_15 : decode cX4_add 15 = .ok (.getfield 15, 3) := by decide +kernel
theorem dX4_add_18 : decode cX4_add 18 = .ok (.aload_n 0, 1) := by decide +kernel
theorem dX4_add_19 : decode cX4_add 19 = .ok (.getfield 21, 3) := by decide +kernel
theorem dX4_add_22 : decode cX4_add 22 = .ok (.iload_n 1, 1) := by decide +kernel
theorem dX4_add_23 : decode cX4_add 23 = .ok (.iastore, 1) := by decide +kernel
theorem dX4_add_24 : decode cX4_add 24 = .ok (.aload_n 0, 1) := by decide +kernel
theorem dX4_add_25 : decode cX4_add 25 = .ok (.dup, 1) := by decide +kernel
theorem dX4_add_26 : decode cX4_add 26 = .ok (.getfield 21, 3) := by decide +kernel
theorem dX4_add_29 : decode cX4_add 29 = .ok (.iconst 1, 1) := by decide +kernel
theorem dX4_add_30 : decode cX4_add 30 = .ok (.iadd, 1) := by decide +kernel
theorem dX4_add_31 : decode cX4_add 31 = .ok (.putfield 21, 3) := by decide +kernel
theorem dX4_add_34 : decode cX4_add 34 = .ok (.iconst 1, 1) := by decide +kernel
theorem dX4_add_35 : decode cX4_add 35 = .ok (.ireturn, 1) := by decide +kernel
def wp_X4_add (o : Nat) (a1 : Int) (M : Mem) (Q : Int → Mem → Prop) : Prop := (Rg (M o 1) ∧ Rg ((capR o : Nat) : Int) ∧ ((M o 1) < ((capR o : Nat) : Int) → (0 ≤ (M o 1) ∧ (M o 1) < ((capR o : Nat) : Int)) ∧ Q 1 (up (up M (o + 1) (M o 1).toNat a1) o 1 (((up M (o + 1) (M o 1).toNat a1) o 1) + 1))) ∧ (¬ ((M o 1) < ((capR o : Nat) : Int)) → Q 0 M))
set_option maxHeartbeats 4000000 in
set_option maxRecDepth 100000 in
theorem c_X4_add (l : Launch) (X : Cx) (hI : Inj X) (o : Nat) (a1 : Int) (ho : isRow o) (M : Mem) (Q : Int → Mem → Prop) (h : wp_X4_add o a1 M Q) : MI X l yX4_add cX4_add 2 (some .boolean) 0 [.ref (xA X o), .int (jI a1)] M Q := by
  refine MI.of hI (by decide) (Nat.le_of_ble_eq_true rfl) ?_
  intro p e R s m args below meth c ls E hW hl
  have E : En X (AW X) 0 p R s m args meth c cX4_add RX4 2 (some .boolean) 0 0 := E
  have hl : lv_has ls 2 [(0, .ref (xA X o)), (1, .int (jI a1))] := hl
  unfold wp_X4_add at h
  refine q_aload_n (n := 1) (q := 0) E hl rfl dX4_add_0 rfl rfl ?_
  refine q_get (n := 4) (k := 1) (fs := (fsRow X o)) (v := .int (jI (M o 1))) E hW (isRow_lt ho) (ent_row X ho) K4 (by decide) w71 rfl rfl dX4_add_1 rfl ?_
  refine q_aload_n (n := 5) (q := 0) E hl rfl dX4_add_4 rfl rfl ?_
  refine q_get (n := 8) (k := 0) (fs := (fsRow X o)) (v := .ref (xA X (o + 1))) E hW (isRow_lt ho) (ent_row X ho) K4 (by decide) w70 rfl rfl dX4_add_5 rfl ?_
  refine q_alen (n := 9) E hW (isRow_lt1 ho) (ent_arr X ho) dX4_add_8 rfl ?_
  obtain ⟨g1, g2, h3, h4⟩ := h
  refine q_icmp_lt (t := 14) (n := 12) E g1 g2 dX4_add_9 (by decide) rfl (fun c5 => ?_) (fun c5 => ?_)
  · have h := h3 c5
    refine q_aload_n (n := 15) (q := 0) E hl rfl dX4_add_14 rfl rfl ?_
    refine q_get (n := 18) (k := 0) (fs := (fsRow X o)) (v := .ref (xA X (o + 1))) E hW (isRow_lt ho) (ent_row X ho) K4 (by decide) w70 rfl rfl dX4_add_15 rfl ?_
    refine q_aload_n (n := 19) (q := 0) E hl rfl dX4_add_18 rfl rfl ?_
    refine q_get (n := 22) (k := 1) (fs := (fsRow X o)) (v := .int (jI (M o 1))) E hW (isRow_lt ho) (ent_row X ho) K4 (by decide) w71 rfl rfl dX4_add_19 rfl ?_
    refine q_iload_n (n := 23) (q := 1) E hl rfl dX4_add_22 rfl rfl ?_
    obtain ⟨g6, h⟩ := h
    refine q_iast (n := 24) E hW (isRow_lt1 ho) (ent_arr X ho) (capR_lt _) g6 dX4_add_23 rfl (fun H locs hW => ?_)
    refine q_aload_n (n := 25) (q := 0) E hl rfl dX4_add_24 rfl rfl ?_
    refine q_dup (n := 26) E dX4_add_25 rfl rfl ?_
    refine q_get (n := 29) (k := 1) (fs := (fsRow X o)) (v := .int (jI ((up M (o + 1) (M o 1).toNat a1) o 1))) E hW (isRow_lt ho) (ent_row X ho) K4 (by decide) w71 rfl rfl dX4_add_26 rfl ?_
    refine q_iconst (n := 30) E dX4_add_29 rfl ?_
    refine q_iadd (n := 31) E dX4_add_30 rfl ?_
    refine q_put (n := 34) (k := 1) (fs := (fsRow X o)) E hW (isRow_lt ho) (ent_row X ho) K4 (by decide) w71 rfl rfl ⟨rfl, rfl⟩ (Nat.le_of_ble_eq_true rfl) (fun _ => rfl) dX4_add_31 rfl (fun H locs hW => ?_)
    refine q_iconst (n := 35) E dX4_add_34 rfl ?_
    exact q_zret E hW (Or.inr rfl) h dX4_add_35
  · have h := h4 c5
    refine q_iconst (n := 13) E dX4_add_12 rfl ?_
    exact q_zret E hW (Or.inl rfl) h dX4_add_13
/-! StickerPress$Row.addPart(LStickerPress$Row;II)Z -/
theorem dX4_addPart_0 : decode cX4_addPart 0 = .ok (.iload_n 2, 1) := by decide +kernel
theorem dX4_addPart_1 : decode cX4_addPart 1 = .ok (.istore 4, 2) := by decide +kernel
theorem dX4_addPart_3 : decode cX4_addPart 3 = .ok (.iload 4, 2) := by decide +kernel
theorem dX4_addPart_5 : decode cX4_addPart 5 = .ok (.iload_n 3, 1) := by decide +kernel
theorem dX4_addPart_6 : decode cX4_addPart 6 = .ok (.if_icmp .ge 24, 3) := by decide +kernel
theorem dX4_addPart_9 : decode cX4_addPart 9 = .ok (.aload_n 0, 1) := by decide +kernel
theorem dX4_addPart_10 : decode cX4_addPart 10 = .ok (.aload_n 1, 1) := by decide +kernel
theorem dX4_addPart_11 : decode cX4_addPart 11 = .ok (.iload 4, 2) := by decide +kernel
theorem dX4_addPart_13 : decode cX4_addPart 13 = .ok (.invokevirtual 25, 3) := by decide +kernel
theorem dX4_addPart_16 : decode cX4_addPart 16 = .ok (.invokevirtual 29, 3) := by decide +kernel
theorem dX4_addPart_19 : decode cX4_addPart 19 = .ok (.ifCond .ne 5, 3) := by decide +kernel
theorem dX4_addPart_22 : decode cX4_addPart 22 = .ok (.iconst 0, 1) := by decide +kernel
theorem dX4_addPart_23 : decode cX4_addPart 23 = .ok (.ireturn, 1) := by decide +kernel
theorem dX4_addPart_24 : decode cX4_addPart 24 = .ok (.iinc 4 1, 3) := by decide +kernel
theorem dX4_addPart_27 : decode cX4_addPart 27 = .ok (.goto (-24), 3) := by decide +kernel
theorem dX4_addPart_30 : decode cX4_addPart 30 = .ok (.iconst 1, 1) := by decide +kernel
theorem dX4_addPart_31 : decode cX4_addPart 31 = .ok (.ireturn, 1) := by decide +kernel
theorem Y_RX4_25 : YV RX4 25 RX4 yX4_at cX4_at 2 (some .int) 1 := ⟨w323, w320, w321, w322, w42, by decide +kernel, by decide⟩
theorem Y_RX4_29 : YV RX4 29 RX4 yX4_add cX4_add 2 (some .boolean) 1 := ⟨w292, w332, w290, w291, w42, by decide +kernel, by decide⟩
def wp_X4_addPart_3 (o : Nat) (a1 : Nat) (a2 : Int) (a3 : Int) (Q : Int → Mem → Prop) : Nat → Int → Mem → Prop
  | 0, _, _ => False
  | n + 1, x4, M => (Rg x4 ∧ Rg a3 ∧ (a3 ≤ x4 → Q 1 M) ∧ (¬ (a3 ≤ x4) → wp_X4_at a1 x4 M (fun r7 M6 => wp_X4_add o r7 M6 (fun r9 M8 => (Rg r9 ∧ (r9 ≠ 0 → wp_X4_addPart_3 o a1 a2 a3 Q n (x4 + 1) M8) ∧ (¬ (r9 ≠ 0) → Q 0 M8))))))
set_option maxHeartbeats 4000000 in
set_option maxRecDepth 100000 in
theorem v_X4_addPart_3 (o : Nat) (a1 : Nat) (a2 : Int) (a3 : Int) (ho : isRow o) (ha1 : isRow a1) (E : En X (AW X) 1 p R s m args meth c cX4_addPart RX4 5 (some .boolean) 0 0) (Q : Int → Mem → Prop) : ∀ n : Nat, ∀ (x4 : Int) (M : Mem) (H : Heap) (locs : List Loc) (ls : Array Slot), wp_X4_addPart_3 o a1 a2 a3 Q n x4 M → Wd X (AW X) s M H locs → lv_has ls 5 [(0, .ref (xA X o)), (1, .ref (xA X a1)), (3, .int (jI a3)), (4, .int (jI x4))] → W p l e R s m args below meth c H locs 0 0 (MQ below (QI X Q) args s 0 0 (AW X)) (F0 m 3 ls []) := by
  intro n
  induction n with
  | zero => intro x4 M H locs ls h; exact absurd h (by simp [wp_X4_addPart_3])
  | succ n ih =>
    intro x4 M H locs ls h hW hl
    rw [wp_X4_addPart_3] at h
    refine q_iload (n := 5) (q := 3) E hl rfl dX4_addPart_3 rfl ?_
    refine q_iload_n (n := 6) (q := 2) E hl rfl dX4_addPart_5 rfl rfl ?_
    obtain ⟨g1, g2, h3, h4⟩ := h
    refine q_icmp_ge (t := 30) (n := 9) E g1 g2 dX4_addPart_6 (by decide) rfl (fun c5 => ?_) (fun c5 => ?_)
    · have h := h3 c5
      refine q_iconst (n := 31) E dX4_addPart_30 rfl ?_
      exact q_zret E hW (Or.inr rfl) h dX4_addPart_31
    · have h := h4 c5
      refine q_aload_n (n := 10) (q := 0) E hl rfl dX4_addPart_9 rfl rfl ?_
      refine q_aload_n (n := 11) (q := 1) E hl rfl dX4_addPart_10 rfl rfl ?_
      refine q_iload (n := 13) (q := 3) E hl rfl dX4_addPart_11 rfl ?_
      refine q_callVi (n := 16) (fs := (fsRow X a1)) [.int (jI x4)] E hW hl.1 (isRow_lt ha1) (ent_row X ha1) K4 (c_X4_at l X E.2.2.1.1 a1 x4 ha1 _ _ h) (by decide) Y_RX4_25 rfl (rest := [.ref (xA X o)]) rfl (Nat.le_of_ble_eq_true rfl) dX4_addPart_13 rfl (fun r7 M6 H locs h hW => ?_)
      refine q_callVi (n := 19) (fs := (fsRow X o)) [.int (jI r7)] E hW hl.1 (isRow_lt ho) (ent_row X ho) K4 (c_X4_add l X E.2.2.1.1 o r7 ho _ _ h) (by decide) Y_RX4_29 rfl (rest := []) rfl (Nat.le_of_ble_eq_true rfl) dX4_addPart_16 rfl (fun r9 M8 H locs h hW => ?_)
      obtain ⟨g10, h11, h12⟩ := h
      refine q_if_ne (t := 24) (n := 22) E g10 dX4_addPart_19 (by decide) rfl (fun c13 => ?_) (fun c13 => ?_)
      · have h := h11 c13
        refine q_iinc (n := 27) (q := 3) [(4, .int (jI (x4 + 1))), (0, .ref (xA X o)), (1, .ref (xA X a1)), (3, .int (jI a3))] E hl rfl dX4_addPart_24 (by decide) rfl rfl (fun ls hl => ?_)
        refine q_goto (n := 3) E dX4_addPart_27 (by decide) ?_
        exact ih _ _ _ _ _ h hW (lv_sub hl [1, 2, 3, 0] rfl)
      · have h := h12 c13
        refine q_iconst (n := 23) E dX4_addPart_22 rfl ?_
        exact q_zret E hW (Or.inl rfl) h dX4_addPart_23
def wp_X4_addPart (o : Nat) (a1 : Nat) (a2 : Int) (a3 : Int) (M : Mem) (Q : Int → Mem → Prop) : Prop := (∃ n : Nat, wp_X4_addPart_3 o a1 a2 a3 Q n a2 M)
set_option maxHeartbeats 4000000 in
set_option maxRecDepth 100000 in
theorem c_X4_addPart (l : Launch) (X : Cx) (hI : Inj X) (o : Nat) (a1 : Nat) (a2 : Int) (a3 : Int) (ho : isRow o) (ha1 : isRow a1) (M : Mem) (Q : Int → Mem → Prop) (h : wp_X4_addPart o a1 a2 a3 M Q) : MI X l yX4_addPart cX4_addPart 5 (some .boolean) 1 [.ref (xA X o), .ref (xA X a1), .int (jI a2), .int (jI a3)] M Q := by
  refine MI.of hI (by decide) (Nat.le_of_ble_eq_true rfl) ?_
  intro p e R s m args below meth c ls E hW hl
  have E : En X (AW X) 1 p R s m args meth c cX4_addPart RX4 5 (some .boolean) 0 0 := E
  have hl : lv_has ls 5 [(0, .ref (xA X o)), (1, .ref (xA X a1)), (2, .int (jI a2)), (3, .int (jI a3))] := hl
  unfold wp_X4_addPart at h
  refine q_iload_n (n := 1) (q := 2) E hl rfl dX4_addPart_0 rfl rfl ?_
  refine q_istore (n := 3) [(4, .int (jI a2)), (0, .ref (xA X o)), (1, .ref (xA X a1)), (2, .int (jI a2)), (3, .int (jI a3))] E hl dX4_addPart_1 (by decide) rfl rfl (fun ls hl => ?_)
  obtain ⟨n1, h⟩ := h
  exact v_X4_addPart_3 o a1 a2 a3 ho ha1 E Q n1 _ _ _ _ _ h hW (lv_sub hl [1, 2, 4, 0] rfl)
/-! StickerPress$Row.copyFrom(LStickerPress$Row;)V -/
theorem dX4_copyFrom_0 : decode cX4_copyFrom 0 = .ok (.aload_n 0, 1) := by decide +kernel
theorem dX4_copyFrom_1 : decode cX4_copyFrom 1 = .ok (.invokevirtual 33, 3) := by decide +kernel
theorem dX4_copyFrom_4 : decode cX4_copyFrom 4 = .ok (.aload_n 0, 1) := by decide +kernel
theorem dX4_copyFrom_5 : decode cX4_copyFrom 5 = .ok (.aload_n 1, 1) := by decide +kernel
theorem dX4_copyFrom_6 : decode cX4_copyFrom 6 = .ok (.iconst 0, 1) := by decide +kernel
theorem dX4_copyFrom_7 : decode cX4_copyFrom 7 = .ok (.aload_n 1, 1) := by decide +kernel
theorem dX4_copyFrom_8 : decode cX4_copyFrom 8 = .ok (.getfield 21, 3) := by decide +kernel
theorem dX4_copyFrom_11 : decode cX4_copyFrom 11 = .ok (.invokevirtual 36, 3) := by decide +kernel
theorem dX4_copyFrom_14 : decode cX4_copyFrom 14 = .ok (.pop, 1) := by decide +kernel
theorem dX4_copyFrom_15 : decode cX4_copyFrom 15 = .ok (.return_, 1) := by decide +kernel
theorem Y_RX4_33 : YV RX4 33 RX4 yX4_clear cX4_clear 1 none 0 := ⟨w327, w360, w325, w326, w42, by decide +kernel, by decide⟩
theorem Y_RX4_36 : YV RX4 36 RX4 yX4_addPart cX4_addPart 5 (some .boolean) 3 := ⟨w331, w361, w329, w330, w42, by decide +kernel, by decide⟩
def wp_X4_copyFrom (o : Nat) (a1 : Nat) (M : Mem) (Q : Mem → Prop) : Prop := wp_X4_clear o M (fun M1 => wp_X4_addPart o a1 0 (M1 a1 1) M1 (fun r3 M2 => Q M2))
set_option maxHeartbeats 4000000 in
set_option maxRecDepth 100000 in
theorem c_X4_copyFrom (l : Launch) (X : Cx) (hI : Inj X) (o : Nat) (a1 : Nat) (ho : isRow o) (ha1 : isRow a1) (M : Mem) (Q : Mem → Prop) (h : wp_X4_copyFrom o a1 M Q) : MV X l yX4_copyFrom cX4_copyFrom 2 2 [.ref (xA X o), .ref (xA X a1)] M Q := by
  refine MV.of hI (by decide) (Nat.le_of_ble_eq_true rfl) ?_
  intro p e R s m args below meth c ls E hW hl
  have E : En X (AW X) 2 p R s m args meth c cX4_copyFrom RX4 2 none 0 0 := E
  have hl : lv_has ls 2 [(0, .ref (xA X o)), (1, .ref (xA X a1))] := hl
  unfold wp_X4_copyFrom at h
  refine q_aload_n (n := 1) (q := 0) E hl rfl dX4_copyFrom_0 rfl rfl ?_
  refine q_callVv (n := 4) (fs := (fsRow X o)) [] E hW hl.1 (isRow_lt ho) (ent_row X ho) K4 (c_X4_clear l X E.2.2.1.1 o ho _ _ h) (by decide) Y_RX4_33 rfl (rest := []) rfl (Nat.le_of_ble_eq_true rfl) dX4_copyFrom_1 rfl (fun M1 H locs h hW => ?_)
  refine q_aload_n (n := 5) (q := 0) E hl rfl dX4_copyFrom_4 rfl rfl ?_
  refine q_aload_n (n := 6) (q := 1) E hl rfl dX4_copyFrom_5 rfl rfl ?_
  refine q_iconst (n := 7) E dX4_copyFrom_6 rfl ?_
  refine q_aload_n (n := 8) (q := 1) E hl rfl dX4_copyFrom_7 rfl rfl ?_
  refine q_get (n := 11) (k := 1) (fs := (fsRow X a1)) (v := .int (jI (M1 a1 1))) E hW (isRow_lt ha1) (ent_row X ha1) K4 (by decide) w71 rfl rfl dX4_copyFrom_8 rfl ?_
  refine q_callVi (n := 14) (fs := (fsRow X o)) [.ref (xA X a1), .int (jI 0), .int (jI (M1 a1 1))] E hW hl.1 (isRow_lt ho) (ent_row X ho) K4 (c_X4_addPart l X E.2.2.1.1 o a1 0 (M1 a1 1) ho ha1 _ _ h) (by decide) Y_RX4_36 rfl (rest := []) rfl (Nat.le_of_ble_eq_true rfl) dX4_copyFrom_11 rfl (fun r3 M2 H locs h hW => ?_)
  refine q_pop (n := 15) E dX4_copyFrom_14 rfl rfl ?_
  exact q_vret E hW h dX4_copyFrom_15
/-! StickerPress$Row.cut(I)Z -/
theorem dX4_cut_0 : decode cX4_cut 0 = .ok (.iload_n 1, 1) := by decide +kernel
theorem dX4_cut_1 : decode cX4_cut 1 = .ok (.ifCond .lt 11, 3) := by decide +kernel
theorem dX4_cut_4 : decode cX4_cut 4 = .ok (.iload_n 1, 1) := by decide +kernel
theorem dX4_cut_5 : decode cX4_cut 5 = .ok (.aload_n 0, 1) := by decide +kernel
theorem dX4_cut_6 : decode cX4_cut 6 = .ok (.getfield 21, 3) := by decide +kernel
theorem dX4_cut_9 : decode cX4_cut 9 = .ok (.if_icmp .le 5, 3) := by decide +kernel
theorem dX4_cut_12 : decode cX4_cut 12 = .ok (.iconst 0, 1) := by decide +kernel
theorem dX4_cut_13 : decode cX4_cut 13 = .ok (.ireturn, 1) := by decide +kernel
theorem dX4_cut_14 : decode cX4_cut 14 = .ok (.aload_n 0, 1) := by decide +kernel
theorem dX4_cut_15 : decode cX4_cut 15 = .ok (.iload_n 1, 1) := by decide +kernel
theorem dX4_cut_16 : decode cX4_cut 16 = .ok (.putfield 21, 3) := by decide +kernel
theorem dX4_cut_19 : decode cX4_cut 19 = .ok (.iconst 1, 1) := by decide +kernel
theorem dX4_cut_20 : decode cX4_cut 20 = .ok (.ireturn, 1) := by decide +kernel
def wp_X4_cut (o : Nat) (a1 : Int) (M : Mem) (Q : Int → Mem → Prop) : Prop := (Rg a1 ∧ (a1 < 0 → Q 0 M) ∧ (¬ (a1 < 0) → (Rg a1 ∧ Rg (M o 1) ∧ (a1 ≤ (M o 1) → Q 1 (up M o 1 a1)) ∧ (¬ (a1 ≤ (M o 1)) → Q 0 M))))
set_option maxHeartbeats 4000000 in
set_option maxRecDepth 100000 in
theorem c_X4_cut (l : Launch) (X : Cx) (hI : Inj X) (o : Nat) (a1 : Int) (ho : isRow o) (M : Mem) (Q : Int → Mem → Prop) (h : wp_X4_cut o a1 M Q) : MI X l yX4_cut cX4_cut 2 (some .boolean) 0 [.ref (xA X o), .int (jI a1)] M Q := by
  refine MI.of hI (by decide) (Nat.le_of_ble_eq_true rfl) ?_
  intro p e R s m args below meth c ls E hW hl
  have E : En X (AW X) 0 p R s m args meth c cX4_cut RX4 2 (some .boolean) 0 0 := E
  have hl : lv_has ls 2 [(0, .ref (xA X o)), (1, .int (jI a1))] := hl
  unfold wp_X4_cut at h
  refine q_iload_n (n := 1) (q := 1) E hl rfl dX4_cut_0 rfl rfl ?_
  obtain ⟨g1, h2, h3⟩ := h
  refine q_if_lt (t := 12) (n := 4) E g1 dX4_cut_1 (by decide) rfl (fun c4 => ?_) (fun c4 => ?_)
  · have h := h2 c4
    refine q_iconst (n := 13) E dX4_cut_12 rfl ?_
    exact q_zret E hW (Or.inl rfl) h dX4_cut_13
  · have h := h3 c4
    refine q_iload_n (n := 5) (q := 1) E hl rfl dX4_cut_4 rfl rfl ?_
    refine q_aload_n (n := 6) (q := 0) E hl rfl dX4_cut_5 rfl rfl ?_
    refine q_get (n := 9) (k := 1) (fs := (fsRow X o)) (v := .int (jI (M o 1))) E hW (isRow_lt ho) (ent_row X ho) K4 (by decide) w71 rfl rfl dX4_cut_6 rfl ?_
    obtain ⟨g5, g6, h7, h8⟩ := h
    refine q_icmp_le (t := 14) (n := 12) E g5 g6 dX4_cut_9 (by decide) rfl (fun c9 => ?_) (fun c9 => ?_)
    · have h := h7 c9
      refine q_aload_n (n := 15) (q := 0) E hl rfl dX4_cut_14 rfl rfl ?_
      refine q_iload_n (n := 16) (q := 1) E hl rfl dX4_cut_15 rfl rfl ?_
      refine q_put (n := 19) (k := 1) (fs := (fsRow X o)) E hW (isRow_lt ho) (ent_row X ho) K4 (by decide) w71 rfl rfl ⟨rfl, rfl⟩ (Nat.le_of_ble_eq_true rfl) (fun _ => rfl) dX4_cut_16 rfl (fun H locs hW => ?_)
      refine q_iconst (n := 20) E dX4_cut_19 rfl ?_
      exact q_zret E hW (Or.inr rfl) h dX4_cut_20
    · have h := h8 c9
      refine q_iconst (n := 13) E dX4_cut_12 rfl ?_
      exact q_zret E hW (Or.inl rfl) h dX4_cut_13
/-! StickerPress$Row.standsAt(ILStickerPress$Row;)Z -/
theorem dX4_standsAt_0 : decode cX4_standsAt 0 = .ok (.aload_n 2, 1) := by decide +kernel
theorem dX4_standsAt_1 : decode cX4_standsAt 1 = .ok (.getfield 21, 3) := by decide +kernel
theorem dX4_standsAt_4 : decode cX4_standsAt 4 = .ok (.aload_n 0, 1) := by decide +kernel
theorem dX4_standsAt_5 : decode cX4_standsAt 5 = .ok (.getfield 21, 3) := by decide +kernel
theorem dX4_standsAt_8 : decode cX4_standsAt 8 = .ok (.iload_n 1, 1) := by decide +kernel
theorem dX4_standsAt_9 : decode cX4_standsAt 9 = .ok (.isub, 1) := by decide +kernel
theorem dX4_standsAt_10 : decode cX4_standsAt 10 = .ok (.if_icmp .le 5, 3) := by decide +kernel
theorem dX4_standsAt_13 : decode cX4_standsAt 13 = .ok (.iconst 0, 1) := by decide +kernel
theorem dX4_standsAt_14 : decode cX4_standsAt 14 = .ok (.ireturn, 1) := by decide +kernel
theorem dX4_standsAt_15 : decode cX4_standsAt 15 = .ok (.iconst 0, 1) := by decide +kernel
theorem dX4_standsAt_16 : decode cX4_standsAt 16 = .ok (.istore_n 3, 1) := by decide +kernel
theorem dX4_standsAt_17 : decode cX4_standsAt 17 = .ok (.iload_n 3, 1) := by decide +kernel
theorem dX4_standsAt_18 : decode cX4_standsAt 18 = .ok (.aload_n 2, 1) := by decide +kernel
theorem dX4_standsAt_19 : decode cX4_standsAt 19 = .ok (.getfield 21, 3) := by decide +kernel
theorem dX4_standsAt_22 : decode cX4_standsAt 22 = .ok (.if_icmp .ge 26, 3) := by decide +kernel
theorem dX4_standsAt_25 : decode cX4_standsAt 25 = .ok (.aload_n 0, 1) := by decide +kernel
theorem dX4_standsAt_26 : decode cX4_standsAt 26 = .ok (.iload_n 1, 1) := by decide +kernel
theorem dX4_standsAt_27 : decode cX4_standsAt 27 = .ok (.iload_n 3, 1) := by decide +kernel
theorem dX4_standsAt_28 : decode cX4_standsAt 28 = .ok (.iadd, 1) := by decide +kernel
theorem dX4_standsAt_29 : decode cX4_standsAt 29 = .ok (.invokevirtual 25, 3) := by decide +kernel
theorem dX4_standsAt_32 : decode cX4_standsAt 32 = .ok (.aload_n 2, 1) := by decide +kernel
theorem dX4_standsAt_33 : decode cX4_standsAt 33 = .ok (.iload_n 3, 1) := by decide +kernel
theorem dX4_standsAt_34 : decode cX4_standsAt 34 = .ok (.invokevirtual 25, 3) := by decide +kernel
theorem dX4_standsAt_37 : decode cX4_standsAt 37 = .ok (.if_icmp .eq 5, 3) := by decide +kernel
theorem dX4_standsAt_40 : decode cX4_standsAt 40 = .ok (.iconst 0, 1) := by decide +kernel
theorem dX4_standsAt_41 : decode cX4_standsAt 41 = .ok (.ireturn, 1) := by decide +kernel
theorem dX4_standsAt_42 : decode cX4_standsAt 42 = .ok (.iinc 3 1, 3) := by decide +kernel
theorem dX4_standsAt_45 : decode cX4_standsAt 45 = .ok (.goto (-28), 3) := by decide +kernel
theorem dX4_standsAt_48 : decode cX4_standsAt 48 = .ok (.iconst 1, 1) := by decide +kernel
theorem dX4_standsAt_49 : decode cX4_standsAt 49 = .ok (.ireturn, 1) := by decide +kernel
def wp_X4_standsAt_17 (o : Nat) (a1 : Int) (a2 : Nat) (Q : Int → Mem → Prop) : Nat → Int → Mem → Prop
  | 0, _, _ => False
  | n + 1, x3, M => (Rg x3 ∧ Rg (M a2 1) ∧ ((M a2 1) ≤ x3 → Q 1 M) ∧ (¬ ((M a2 1) ≤ x3) → wp_X4_at o (a1 + x3) M (fun r7 M6 => wp_X4_at a2 x3 M6 (fun r9 M8 => (Rg r7 ∧ Rg r9 ∧ (r7 = r9 → wp_X4_standsAt_17 o a1 a2 Q n (x3 + 1) M8) ∧ (¬ (r7 = r9) → Q 0 M8))))))
set_option maxHeartbeats 4000000 in
set_option maxRecDepth 100000 in
theorem v_X4_standsAt_17 (o : Nat) (a1 : Int) (a2 : Nat) (ho : isRow o) (ha2 : isRow a2) (E : En X (AW X) 1 p R s m args meth c cX4_standsAt RX4 4 (some .boolean) 0 0) (Q : Int → Mem → Prop) : ∀ n : Nat, ∀ (x3 : Int) (M : Mem) (H : Heap) (locs : List Loc) (ls : Array Slot), wp_X4_standsAt_17 o a1 a2 Q n x3 M → Wd X (AW X) s M H locs → lv_has ls 4 [(0, .ref (xA X o)), (1, .int (jI a1)), (2, .ref (xA X a2)), (3, .int (jI x3))] → W p l e R s m args below meth c H locs 0 0 (MQ below (QI X Q) args s 0 0 (AW X)) (F0 m 17 ls []) := by
  intro n
  induction n with
  | zero => intro x3 M H locs ls h; exact absurd h (by simp [wp_X4_standsAt_17])
  | succ n ih =>
    intro x3 M H locs ls h hW hl
    rw [wp_X4_standsAt_17] at h
    refine q_iload_n (n := 18) (q := 3) E hl rfl dX4_standsAt_17 rfl rfl ?_
    refine q_aload_n (n := 19) (q := 2) E hl rfl dX4_standsAt_18 rfl rfl ?_
    refine q_get (n := 22) (k := 1) (fs := (fsRow X a2)) (v := .int (jI (M a2 1))) E hW (isRow_lt ha2) (ent_row X ha2) K4 (by decide) w71 rfl rfl dX4_standsAt_19 rfl ?_
    obtain ⟨g1, g2, h3, h4⟩ := h
    refine q_icmp_ge (t := 48) (n := 25) E g1 g2 dX4_standsAt_22 (by decide) rfl (fun c5 => ?_) (fun c5 => ?_)
    · have h := h3 c5
      refine q_iconst (n := 49) E dX4_standsAt_48 rfl ?_
      exact q_zret E hW (Or.inr rfl) h dX4_standsAt_49
    · have h := h4 c5
      refine q_aload_n (n := 26) (q := 0) E hl rfl dX4_standsAt_25 rfl rfl ?_
      refine q_iload_n (n := 27) (q := 1) E hl rfl dX4_standsAt_26 rfl rfl ?_
      refine q_iload_n (n := 28) (q := 3) E hl rfl dX4_standsAt_27 rfl rfl ?_
      refine q_iadd (n := 29) E dX4_standsAt_28 rfl ?_
      refine q_callVi (n := 32) (fs := (fsRow X o)) [.int (jI (a1 + x3))] E hW hl.1 (isRow_lt ho) (ent_row X ho) K4 (c_X4_at l X E.2.2.1.1 o (a1 + x3) ho _ _ h) (by decide) Y_RX4_25 rfl (rest := []) rfl (Nat.le_of_ble_eq_true rfl) dX4_standsAt_29 rfl (fun r7 M6 H locs h hW => ?_)
      refine q_aload_n (n := 33) (q := 2) E hl rfl dX4_standsAt_32 rfl rfl ?_
      refine q_iload_n (n := 34) (q := 3) E hl rfl dX4_standsAt_33 rfl rfl ?_
      refine q_callVi (n := 37) (fs := (fsRow X a2)) [.int (jI x3)] E hW hl.1 (isRow_lt ha2) (ent_row X ha2) K4 (c_X4_at l X E.2.2.1.1 a2 x3 ha2 _ _ h) (by decide) Y_RX4_25 rfl (rest := [.int (jI r7)]) rfl (Nat.le_of_ble_eq_true rfl) dX4_standsAt_34 rfl (fun r9 M8 H locs h hW => ?_)
      obtain ⟨g10, g11, h12, h13⟩ := h
      refine q_icmp_eq (t := 42) (n := 40) E g10 g11 dX4_standsAt_37 (by decide) rfl (fun c14 => ?_) (fun c14 => ?_)
      · have h := h12 c14
        refine q_iinc (n := 45) (q := 3) [(3, .int (jI (x3 + 1))), (0, .ref (xA X o)), (1, .int (jI a1)), (2, .ref (xA X a2))] E hl rfl dX4_standsAt_42 (by decide) rfl rfl (fun ls hl => ?_)
        refine q_goto (n := 17) E dX4_standsAt_45 (by decide) ?_
        exact ih _ _ _ _ _ h hW (lv_sub hl [1, 2, 3, 0] rfl)
      · have h := h13 c14
        refine q_iconst (n := 41) E dX4_standsAt_40 rfl ?_
        exact q_zret E hW (Or.inl rfl) h dX4_standsAt_41
def wp_X4_standsAt (o : Nat) (a1 : Int) (a2 : Nat) (M : Mem) (Q : Int → Mem → Prop) : Prop := (Rg (M a2 1) ∧ Rg ((M o 1) - a1) ∧ ((M a2 1) ≤ ((M o 1) - a1) → (∃ n : Nat, wp_X4_standsAt_17 o a1 a2 Q n 0 M)) ∧ (¬ ((M a2 1) ≤ ((M o 1) - a1)) → Q 0 M))
set_option maxHeartbeats 4000000 in
set_option maxRecDepth 100000 in
theorem c_X4_standsAt (l : Launch) (X : Cx) (hI : Inj X) (o : Nat) (a1 : Int) (a2 : Nat) (ho : isRow o) (ha2 : isRow a2) (M : Mem) (Q : Int → Mem → Prop) (h : wp_X4_standsAt o a1 a2 M Q) : MI X l yX4_standsAt cX4_standsAt 4 (some .boolean) 1 [.ref (xA X o), .int (jI a1), .ref (xA X a2)] M Q := by
  refine MI.of hI (by decide) (Nat.le_of_ble_eq_true rfl) ?_
  intro p e R s m args below meth c ls E hW hl
  have E : En X (AW X) 1 p R s m args meth c cX4_standsAt RX4 4 (some .boolean) 0 0 := E
  have hl : lv_has ls 4 [(0, .ref (xA X o)), (1, .int (jI a1)), (2, .ref (xA X a2))] := hl
  unfold wp_X4_standsAt at h
  refine q_aload_n (n := 1) (q := 2) E hl rfl dX4_standsAt_0 rfl rfl ?_
  refine q_get (n := 4) (k := 1) (fs := (fsRow X a2)) (v := .int (jI (M a2 1))) E hW (isRow_lt ha2) (ent_row X ha2) K4 (by decide) w71 rfl rfl dX4_standsAt_1 rfl ?_
  refine q_aload_n (n := 5) (q := 0) E hl rfl dX4_standsAt_4 rfl rfl ?_
  refine q_get (n := 8) (k := 1) (fs := (fsRow X o)) (v := .int (jI (M o 1))) E hW (isRow_lt ho) (ent_row X ho) K4 (by decide) w71 rfl rfl dX4_standsAt_5 rfl ?_
  refine q_iload_n (n := 9) (q := 1) E hl rfl dX4_standsAt_8 rfl rfl ?_
  refine q_isub (n := 10) E dX4_standsAt_9 rfl ?_
  obtain ⟨g1, g2, h3, h4⟩ := h
  refine q_icmp_le (t := 15) (n := 13) E g1 g2 dX4_standsAt_10 (by decide) rfl (fun c5 => ?_) (fun c5 => ?_)
  · have h := h3 c5
    refine q_iconst (n := 16) E dX4_standsAt_15 rfl ?_
    refine q_istore_n (n := 17) [(3, .int (jI 0)), (0, .ref (xA X o)), (1, .int (jI a1)), (2, .ref (xA X a2))] E hl dX4_standsAt_16 rfl (by decide) rfl rfl (fun ls hl => ?_)
    obtain ⟨n6, h⟩ := h
    exact v_X4_standsAt_17 o a1 a2 ho ha2 E Q n6 _ _ _ _ _ h hW (lv_sub hl [1, 2, 3, 0] rfl)
  · have h := h4 c5
    refine q_iconst (n := 14) E dX4_standsAt_13 rfl ?_
    exact q_zret E hW (Or.inl rfl) h dX4_standsAt_14
/-! StickerPress$Row.allWithin(II)Z -/
theorem dX4_allWithin_0 : decode cX4_allWithin 0 = .ok (.iconst 0, 1) := by decide +kernel
theorem dX4_allWithin_1 : decode cX4_allWithin 1 = .ok (.istore_n 3, 1) := by decide +kernel
theorem dX4_allWithin_2 : decode cX4_allWithin 2 = .ok (.iload_n 3, 1) := by decide +kernel
theorem dX4_allWithin_3 : decode cX4_allWithin 3 = .ok (.aload_n 0, 1) := by decide +kernel
theorem dX4_allWithin_4 : decode cX4_allWithin 4 = .ok (.getfield 21, 3) := by decide +kernel
theorem dX4_allWithin_7 : decode cX4_allWithin 7 = .ok (.if_icmp .ge 29, 3) := by decide +kernel
theorem dX4_allWithin_10 : decode cX4_allWithin 10 = .ok (.aload_n 0, 1) := by decide +kernel
theorem dX4_allWithin_11 : decode cX4_allWithin 11 = .ok (.iload_n 3, 1) := by decide +kernel
theorem dX4_allWithin_12 : decode cX4_allWithin 12 = .ok (.invokevirtual 25, 3) := by decide +kernel
theorem dX4_allWithin_15 : decode cX4_allWithin 15 = .ok (.iload_n 1, 1) := by decide +kernel
theorem dX4_allWithin_16 : decode cX4_allWithin 16 = .ok (.if_icmp .lt 12, 3) := by decide +kernel
theorem dX4_allWithin_19 : decode cX4_allWithin 19 = .ok (.aload_n 0, 1) := by decide +kernel
theorem dX4_allWithin_20 : decode cX4_allWithin 20 = .ok (.iload_n 3, 1) := by decide +kernel
theorem dX4_allWithin_21 : decode cX4_allWithin 21 = .ok (.invokevirtual 25, 3) := by decide +kernel
theorem dX4_allWithin_24 : decode cX4_allWithin 24 = .ok (.iload_n 2, 1) := by decide +kernel
theorem dX4_allWithin_25 : decode cX4_allWithin 25 = .ok (.if_icmp .le 5, 3) := by decide +kernel
theorem dX4_allWithin_28 : decode cX4_allWithin 28 = .ok (.iconst 0, 1) := by decide +kernel
theorem dX4_allWithin_29 : decode cX4_allWithin 29 = .ok (.ireturn, 1) := by decide +kernel
theorem dX4_allWithin_30 : decode cX4_allWithin 30 = .ok (.iinc 3 1, 3) := by decide +kernel
theorem dX4_allWithin_33 : decode cX4_allWithin 33 = .ok (.goto (-31), 3) := by decide +kernel
theorem dX4_allWithin_36 : decode cX4_allWithin 36 = .ok (.iconst 1, 1) := by decide +kernel
theorem dX4_allWithin_37 : decode cX4_allWithin 37 = .ok (.ireturn, 1) := by decide +kernel
def wp_X4_allWithin_2 (o : Nat) (a1 : Int) (a2 : Int) (Q : Int → Mem → Prop) : Nat → Int → Mem → Prop
  | 0, _, _ => False
  | n + 1, x3, M => (Rg x3 ∧ Rg (M o 1) ∧ ((M o 1) ≤ x3 → Q 1 M) ∧ (¬ ((M o 1) ≤ x3) → wp_X4_at o x3 M (fun r7 M6 => (Rg r7 ∧ Rg a1 ∧ (r7 < a1 → Q 0 M6) ∧ (¬ (r7 < a1) → wp_X4_at o x3 M6 (fun r14 M13 => (Rg r14 ∧ Rg a2 ∧ (r14 ≤ a2 → wp_X4_allWithin_2 o a1 a2 Q n (x3 + 1) M13) ∧ (¬ (r14 ≤ a2) → Q 0 M13))))))))
set_option maxHeartbeats 4000000 in
set_option maxRecDepth 100000 in
theorem v_X4_allWithin_2 (o : Nat) (a1 : Int) (a2 : Int) (ho : isRow o) (E : En X (AW X) 1 p R s m args meth c cX4_allWithin RX4 4 (some .boolean) 0 0) (Q : Int → Mem → Prop) : ∀ n : Nat, ∀ (x3 : Int) (M : Mem) (H : Heap) (locs : List Loc) (ls : Array Slot), wp_X4_allWithin_2 o a1 a2 Q n x3 M → Wd X (AW X) s M H locs → lv_has ls 4 [(0, .ref (xA X o)), (1, .int (jI a1)), (2, .int (jI a2)), (3, .int (jI x3))] → W p l e R s m args below meth c H locs 0 0 (MQ below (QI X Q) args s 0 0 (AW X)) (F0 m 2 ls []) := by
  intro n
  induction n with
  | zero => intro x3 M H locs ls h; exact absurd h (by simp [wp_X4_allWithin_2])
  | succ n ih =>
    intro x3 M H locs ls h hW hl
    rw [wp_X4_allWithin_2] at h
    refine q_iload_n (n := 3) (q := 3) E hl rfl dX4_allWithin_2 rfl rfl ?_
    refine q_aload_n (n := 4) (q := 0) E hl rfl dX4_allWithin_3 rfl rfl ?_
    refine q_get (n := 7) (k := 1) (fs := (fsRow X o)) (v := .int (jI (M o 1))) E hW (isRow_lt ho) (ent_row X ho) K4 (by decide) w71 rfl rfl dX4_allWithin_4 rfl ?_
    obtain ⟨g1, g2, h3, h4⟩ := h
    refine q_icmp_ge (t := 36) (n := 10) E g1 g2 dX4_allWithin_7 (by decide) rfl (fun c5 => ?_) (fun c5 => ?_)
    · have h := h3 c5
      refine q_iconst (n := 37) E dX4_allWithin_36 rfl ?_
      exact q_zret E hW (Or.inr rfl) h dX4_allWithin_37
    · have h := h4 c5
      refine q_aload_n (n := 11) (q := 0) E hl rfl dX4_allWithin_10 rfl rfl ?_
      refine q_iload_n (n := 12) (q := 3) E hl rfl dX4_allWithin_11 rfl rfl ?_
      refine q_callVi (n := 15) (fs := (fsRow X o)) [.int (jI x3)] E hW hl.1 (isRow_lt ho) (ent_row X ho) K4 (c_X4_at l X E.2.2.1.1 o x3 ho _ _ h) (by decide) Y_RX4_25 rfl (rest := []) rfl (Nat.le_of_ble_eq_true rfl) dX4_allWithin_12 rfl (fun r7 M6 H locs h hW => ?_)
      refine q_iload_n (n := 16) (q := 1) E hl rfl dX4_allWithin_15 rfl rfl ?_
      obtain ⟨g8, g9, h10, h11⟩ := h
      refine q_icmp_lt (t := 28) (n := 19) E g8 g9 dX4_allWithin_16 (by decide) rfl (fun c12 => ?_) (fun c12 => ?_)
      · have h := h10 c12
        refine q_iconst (n := 29) E dX4_allWithin_28 rfl ?_
        exact q_zret E hW (Or.inl rfl) h dX4_allWithin_29
      · have h := h11 c12
        refine q_aload_n (n := 20) (q := 0) E hl rfl dX4_allWithin_19 rfl rfl ?_
        refine q_iload_n (n := 21) (q := 3) E hl rfl dX4_allWithin_20 rfl rfl ?_
        refine q_callVi (n := 24) (fs := (fsRow X o)) [.int (jI x3)] E hW hl.1 (isRow_lt ho) (ent_row X ho) K4 (c_X4_at l X E.2.2.1.1 o x3 ho _ _ h) (by decide) Y_RX4_25 rfl (rest := []) rfl (Nat.le_of_ble_eq_true rfl) dX4_allWithin_21 rfl (fun r14 M13 H locs h hW => ?_)
        refine q_iload_n (n := 25) (q := 2) E hl rfl dX4_allWithin_24 rfl rfl ?_
        obtain ⟨g15, g16, h17, h18⟩ := h
        refine q_icmp_le (t := 30) (n := 28) E g15 g16 dX4_allWithin_25 (by decide) rfl (fun c19 => ?_) (fun c19 => ?_)
        · have h := h17 c19
          refine q_iinc (n := 33) (q := 3) [(3, .int (jI (x3 + 1))), (0, .ref (xA X o)), (1, .int (jI a1)), (2, .int (jI a2))] E hl rfl dX4_allWithin_30 (by decide) rfl rfl (fun ls hl => ?_)
          refine q_goto (n := 2) E dX4_allWithin_33 (by decide) ?_
          exact ih _ _ _ _ _ h hW (lv_sub hl [1, 2, 3, 0] rfl)
        · have h := h18 c19
          refine q_iconst (n := 29) E dX4_allWithin_28 rfl ?_
          exact q_zret E hW (Or.inl rfl) h dX4_allWithin_29
def wp_X4_allWithin (o : Nat) (a1 : Int) (a2 : Int) (M : Mem) (Q : Int → Mem → Prop) : Prop := (∃ n : Nat, wp_X4_allWithin_2 o a1 a2 Q n 0 M)
set_option maxHeartbeats 4000000 in
set_option maxRecDepth 100000 in
theorem c_X4_allWithin (l : Launch) (X : Cx) (hI : Inj X) (o : Nat) (a1 : Int) (a2 : Int) (ho : isRow o) (M : Mem) (Q : Int → Mem → Prop) (h : wp_X4_allWithin o a1 a2 M Q) : MI X l yX4_allWithin cX4_allWithin 4 (some .boolean) 1 [.ref (xA X o), .int (jI a1), .int (jI a2)] M Q := by
  refine MI.of hI (by decide) (Nat.le_of_ble_eq_true rfl) ?_
  intro p e R s m args below meth c ls E hW hl
  have E : En X (AW X) 1 p R s m args meth c cX4_allWithin RX4 4 (some .boolean) 0 0 := E
  have hl : lv_has ls 4 [(0, .ref (xA X o)), (1, .int (jI a1)), (2, .int (jI a2))] := hl
  unfold wp_X4_allWithin at h
  refine q_iconst (n := 1) E dX4_allWithin_0 rfl ?_
  refine q_istore_n (n := 2) [(3, .int (jI 0)), (0, .ref (xA X o)), (1, .int (jI a1)), (2, .int (jI a2))] E hl dX4_allWithin_1 rfl (by decide) rfl rfl (fun ls hl => ?_)
  obtain ⟨n1, h⟩ := h
  exact v_X4_allWithin_2 o a1 a2 ho E Q n1 _ _ _ _ _ h hW (lv_sub hl [1, 2, 3, 0] rfl)
end
end
