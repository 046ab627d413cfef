/-! the reference: names -/
section
variable {X : Cx} {p : Program} {l : Launch} {e : Env} {R : Room} {s : State} {m : MethodId} {args : Array Value} {below : List Frame} {meth : Method} {c : Code}
/-! StickerPressModel.isIn(III)Z -/
theorem dX8_isIn_0 : decode cX8_isIn 0 = .ok (.iload_n 0, 1) := by decide +kernel
theorem dX8_isIn_1 : decode cX8_isIn 1 = .ok (.iload_n 1, 1) := by decide +kernel
theorem dX8_isIn_2 : decode cX8_isIn 2 = .ok (.if_icmp .lt 12, 3) := by decide +kernel
theorem dX8_isIn_5 : decode cX8_isIn 5 = .ok (.iload_n 0, 1) := by decide +kernel
theorem dX8_isIn_6 : decode cX8_isIn 6 = .ok (.iload_n 2, 1) := by decide +kernel
theorem dX8_isIn_7 : decode cX8_isIn 7 = .ok (.if_icmp .gt 7, 3) := by decide +kernel
theorem dX8_isIn_10 : decode cX8_isIn 10 = .ok (.iconst 1, 1) := by decide +kernel
theorem dX8_isIn_11 : decode cX8_isIn 11 = .ok (.goto 4, 3) := by decide +kernel
theorem dX8_isIn_14 : decode cX8_isIn 14 = .ok (.iconst 0, 1) := by decide +kernel
theorem dX8_isIn_15 : decode cX8_isIn 15 = .ok (.ireturn, 1) := by decide +kernel
def wp_X8_isIn (a0 : Int) (a1 : Int) (a2 : Int) (M : Mem) (Q : Int → Mem → Prop) : Prop := (Rg a0 ∧ Rg a1 ∧ (a0 < a1 → Q 0 M) ∧ (¬ (a0 < a1) → (Rg a0 ∧ Rg a2 ∧ (a2 < a0 → Q 0 M) ∧ (¬ (a2 < a0) → Q 1 M))))
set_option maxHeartbeats 4000000 in
set_option maxRecDepth 100000 in
theorem c_X8_isIn (l : Launch) (X : Cx) (hI : Inj X) (a0 : Int) (a1 : Int) (a2 : Int) (M : Mem) (Q : Int → Mem → Prop) (h : wp_X8_isIn a0 a1 a2 M Q) : MI X l yX8_isIn cX8_isIn 3 (some .boolean) 0 [.int (jI a0), .int (jI a1), .int (jI a2)] M Q := by
  refine MI.of hI (by decide) (Nat.le_of_ble_eq_true rfl) ?_
  intro p e R s m args below meth c ls E hW hl
  have E : En X (AW X) 0 p R s m args meth c cX8_isIn RX8 3 (some .boolean) 0 0 := E
  have hl : lv_has ls 3 [(0, .int (jI a0)), (1, .int (jI a1)), (2, .int (jI a2))] := hl
  unfold wp_X8_isIn at h
  refine q_iload_n (n := 1) (q := 0) E.1 hl rfl dX8_isIn_0 rfl rfl ?_
  refine q_iload_n (n := 2) (q := 1) E.1 hl rfl dX8_isIn_1 rfl rfl ?_
  obtain ⟨g1, g2, h3, h4⟩ := h
  refine q_icmp_lt (t := 14) (n := 5) E.1 g1 g2 dX8_isIn_2 (by decide) rfl (fun c5 => ?_) (fun c5 => ?_)
  · have h := h3 c5
    refine q_iconst (n := 15) E.1 dX8_isIn_14 rfl ?_
    exact q_zret E hW (Or.inl rfl) h dX8_isIn_15
  · have h := h4 c5
    refine q_iload_n (n := 6) (q := 0) E.1 hl rfl dX8_isIn_5 rfl rfl ?_
    refine q_iload_n (n := 7) (q := 2) E.1 hl rfl dX8_isIn_6 rfl rfl ?_
    obtain ⟨g6, g7, h8, h9⟩ := h
    refine q_icmp_gt (t := 14) (n := 10) E.1 g6 g7 dX8_isIn_7 (by decide) rfl (fun c10 => ?_) (fun c10 => ?_)
    · have h := h8 c10
      refine q_iconst (n := 15) E.1 dX8_isIn_14 rfl ?_
      exact q_zret E hW (Or.inl rfl) h dX8_isIn_15
    · have h := h9 c10
      refine q_iconst (n := 11) E.1 dX8_isIn_10 rfl ?_
      refine q_goto (n := 15) E.1 dX8_isIn_11 (by decide) ?_
      exact q_zret E hW (Or.inr rfl) h dX8_isIn_15
/-! StickerPressModel.isSign(I)Z -/
theorem dX8_isSign_0 : decode cX8_isSign 0 = .ok (.iload_n 0, 1) := by decide +kernel
theorem dX8_isSign_1 : decode cX8_isSign 1 = .ok (.bipush 32, 2) := by decide +kernel
theorem dX8_isSign_3 : decode cX8_isSign 3 = .ok (.bipush 126, 2) := by decide +kernel
theorem dX8_isSign_5 : decode cX8_isSign 5 = .ok (.invokestatic 103, 3) := by decide +kernel
theorem dX8_isSign_8 : decode cX8_isSign 8 = .ok (.ireturn, 1) := by decide +kernel
theorem Y_RX8_103 : YS RX8 103 yX8_isIn cX8_isIn 3 (some .boolean) 3 := ⟨w863, w861, w862, w52, by decide +kernel, by decide⟩
def wp_X8_isSign (a0 : Int) (M : Mem) (Q : Int → Mem → Prop) : Prop := wp_X8_isIn a0 32 126 M (fun r2 M1 => ((r2 = 0 ∨ r2 = 1) ∧ Q r2 M1))
set_option maxHeartbeats 4000000 in
set_option maxRecDepth 100000 in
theorem c_X8_isSign (l : Launch) (X : Cx) (hI : Inj X) (a0 : Int) (M : Mem) (Q : Int → Mem → Prop) (h : wp_X8_isSign a0 M Q) : MI X l yX8_isSign cX8_isSign 1 (some .boolean) 1 [.int (jI a0)] M Q := by
  refine MI.of hI (by decide) (Nat.le_of_ble_eq_true rfl) ?_
  intro p e R s m args below meth c ls E hW hl
  have E : En X (AW X) 1 p R s m args meth c cX8_isSign RX8 1 (some .boolean) 0 0 := E
  have hl : lv_has ls 1 [(0, .int (jI a0))] := hl
  unfold wp_X8_isSign at h
  refine q_iload_n (n := 1) (q := 0) E.1 hl rfl dX8_isSign_0 rfl rfl ?_
  refine q_bipush (n := 3) E.1 dX8_isSign_1 (by decide) rfl ?_
  refine q_bipush (n := 5) E.1 dX8_isSign_3 (by decide) rfl ?_
  refine q_callSi (n := 8) [.int (jI a0), .int (jI 32), .int (jI 126)] E hW hl.1 (c_X8_isIn l X E.2.2.1.1 a0 32 126  _ _ h) (by decide) Y_RX8_103 rfl (rest := []) rfl (Nat.le_of_ble_eq_true rfl) dX8_isSign_5 rfl (fun r2 M1 H locs h hW => ?_)
  exact q_zret E hW h.1 h.2 dX8_isSign_8
/-! StickerPressModel.wide(II)Z -/
theorem dX8_wide_0 : decode cX8_wide 0 = .ok (.iload_n 1, 1) := by decide +kernel
theorem dX8_wide_1 : decode cX8_wide 1 = .ok (.invokestatic 107, 3) := by decide +kernel
theorem dX8_wide_4 : decode cX8_wide 4 = .ok (.ifCond .eq 13, 3) := by decide +kernel
theorem dX8_wide_7 : decode cX8_wide 7 = .ok (.iload_n 2, 1) := by decide +kernel
theorem dX8_wide_8 : decode cX8_wide 8 = .ok (.iconst 1, 1) := by decide +kernel
theorem dX8_wide_9 : decode cX8_wide 9 = .ok (.bipush 20, 2) := by decide +kernel
theorem dX8_wide_11 : decode cX8_wide 11 = .ok (.invokestatic 103, 3) := by decide +kernel
theorem dX8_wide_14 : decode cX8_wide 14 = .ok (.ifCond .ne 5, 3) := by decide +kernel
theorem dX8_wide_17 : decode cX8_wide 17 = .ok (.iconst 0, 1) := by decide +kernel
theorem dX8_wide_18 : decode cX8_wide 18 = .ok (.ireturn, 1) := by decide +kernel
theorem dX8_wide_19 : decode cX8_wide 19 = .ok (.aload_n 0, 1) := by decide +kernel
theorem dX8_wide_20 : decode cX8_wide 20 = .ok (.getfield 7, 3) := by decide +kernel
theorem dX8_wide_23 : decode cX8_wide 23 = .ok (.iload_n 1, 1) := by decide +kernel
theorem dX8_wide_24 : decode cX8_wide 24 = .ok (.iload_n 2, 1) := by decide +kernel
theorem dX8_wide_25 : decode cX8_wide 25 = .ok (.iastore, 1) := by decide +kernel
theorem dX8_wide_26 : decode cX8_wide 26 = .ok (.iconst 1, 1) := by decide +kernel
theorem dX8_wide_27 : decode cX8_wide 27 = .ok (.ireturn, 1) := by decide +kernel
theorem Y_RX8_107 : YS RX8 107 yX8_isSign cX8_isSign 1 (some .boolean) 1 := ⟨w860, w858, w859, w52, by decide +kernel, by decide⟩
def wp_X8_wide (a1 : Int) (a2 : Int) (M : Mem) (Q : Int → Mem → Prop) : Prop := wp_X8_isSign a1 M (fun r2 M1 => (Rg r2 ∧ (r2 = 0 → Q 0 M1) ∧ (¬ (r2 = 0) → wp_X8_isIn a2 1 20 M1 (fun r8 M7 => (Rg r8 ∧ (r8 ≠ 0 → (0 ≤ a1 ∧ a1 < 127) ∧ Q 1 (up M7 63 a1.toNat a2)) ∧ (¬ (r8 ≠ 0) → Q 0 M7))))))
set_option maxHeartbeats 4000000 in
set_option maxRecDepth 100000 in
theorem c_X8_wide (l : Launch) (X : Cx) (hI : Inj X) (a1 : Int) (a2 : Int) (M : Mem) (Q : Int → Mem → Prop) (h : wp_X8_wide a1 a2 M Q) : MI X l yX8_wide cX8_wide 3 (some .boolean) 2 [.ref (xA X 62), .int (jI a1), .int (jI a2)] M Q := by
  refine MI.of hI (by decide) (Nat.le_of_ble_eq_true rfl) ?_
  intro p e R s m args below meth c ls E hW hl
  have E : En X (AW X) 2 p R s m args meth c cX8_wide RX8 3 (some .boolean) 0 0 := E
  have hl : lv_has ls 3 [(0, .ref (xA X 62)), (1, .int (jI a1)), (2, .int (jI a2))] := hl
  unfold wp_X8_wide at h
  refine q_iload_n (n := 1) (q := 1) E.1 hl rfl dX8_wide_0 rfl rfl ?_
  refine q_callSi (n := 4) [.int (jI a1)] E hW hl.1 (c_X8_isSign l X E.2.2.1.1 a1  _ _ h) (by decide) Y_RX8_107 rfl (rest := []) rfl (Nat.le_of_ble_eq_true rfl) dX8_wide_1 rfl (fun r2 M1 H locs h hW => ?_)
  obtain ⟨g3, h4, h5⟩ := h
  refine q_if_eq (t := 17) (n := 7) E.1 g3 dX8_wide_4 (by decide) rfl (fun c6 => ?_) (fun c6 => ?_)
  · have h := h4 c6
    refine q_iconst (n := 18) E.1 dX8_wide_17 rfl ?_
    exact q_zret E hW (Or.inl rfl) h dX8_wide_18
  · have h := h5 c6
    refine q_iload_n (n := 8) (q := 2) E.1 hl rfl dX8_wide_7 rfl rfl ?_
    refine q_iconst (n := 9) E.1 dX8_wide_8 rfl ?_
    refine q_bipush (n := 11) E.1 dX8_wide_9 (by decide) rfl ?_
    refine q_callSi (n := 14) [.int (jI a2), .int (jI 1), .int (jI 20)] E hW hl.1 (c_X8_isIn l X E.2.2.1.1 a2 1 20  _ _ h) (by decide) Y_RX8_103 rfl (rest := []) rfl (Nat.le_of_ble_eq_true rfl) dX8_wide_11 rfl (fun r8 M7 H locs h hW => ?_)
    obtain ⟨g9, h10, h11⟩ := h
    refine q_if_ne (t := 19) (n := 17) E.1 g9 dX8_wide_14 (by decide) rfl (fun c12 => ?_) (fun c12 => ?_)
    · have h := h10 c12
      refine q_aload_n (n := 20) (q := 0) E.1 hl rfl dX8_wide_19 rfl rfl ?_
      refine q_get (n := 23) (k := 0) (fs := (fs62 X)) (v := .ref (xA X 63)) E hW (by decide) (fun _ => rfl) K8 (by decide) w715 rfl rfl dX8_wide_20 rfl ?_
      refine q_iload_n (n := 24) (q := 1) E.1 hl rfl dX8_wide_23 rfl rfl ?_
      refine q_iload_n (n := 25) (q := 2) E.1 hl rfl dX8_wide_24 rfl rfl ?_
      obtain ⟨g13, h⟩ := h
      refine q_iast (n := 26) E hW (by decide) (fun _ => rfl) (by decide) g13 dX8_wide_25 rfl (fun H locs hW => ?_)
      refine q_iconst (n := 27) E.1 dX8_wide_26 rfl ?_
      exact q_zret E hW (Or.inr rfl) h dX8_wide_27
    · have h := h11 c12
      refine q_iconst (n := 18) E.1 dX8_wide_17 rfl ?_
      exact q_zret E hW (Or.inl rfl) h dX8_wide_18
/-! StickerPressModel.feed(IIIII)I -/
theorem dX8_feed_0 : decode cX8_feed 0 = .ok (.aload_n 0, 1) := by decide +kernel
theorem dX8_feed_1 : decode cX8_feed 1 = .ok (.getfield 111, 3) := by decide +kernel
theorem dX8_feed_4 : decode cX8_feed 4 = .ok (.bipush 20, 2) := by decide +kernel
theorem dX8_feed_6 : decode cX8_feed 6 = .ok (.iadd, 1) := by decide +kernel
theorem dX8_feed_7 : decode cX8_feed 7 = .ok (.sipush 200, 3) := by decide +kernel
theorem dX8_feed_10 : decode cX8_feed 10 = .ok (.if_icmp .le 5, 3) := by decide +kernel
theorem dX8_feed_13 : decode cX8_feed 13 = .ok (.iconst (-1), 1) := by decide +kernel
theorem dX8_feed_14 : decode cX8_feed 14 = .ok (.ireturn, 1) := by decide +kernel
theorem dX8_feed_15 : decode cX8_feed 15 = .ok (.iconst 0, 1) := by decide +kernel
theorem dX8_feed_16 : decode cX8_feed 16 = .ok (.istore 6, 2) := by decide +kernel
theorem dX8_feed_18 : decode cX8_feed 18 = .ok (.iload 6, 2) := by decide +kernel
theorem dX8_feed_20 : decode cX8_feed 20 = .ok (.bipush 20, 2) := by decide +kernel
theorem dX8_feed_22 : decode cX8_feed 22 = .ok (.if_icmp .ge 93, 3) := by decide +kernel
theorem dX8_feed_25 : decode cX8_feed 25 = .ok (.iload 6, 2) := by decide +kernel
theorem dX8_feed_27 : decode cX8_feed 27 = .ok (.iconst 4, 1) := by decide +kernel
theorem dX8_feed_28 : decode cX8_feed 28 = .ok (.if_icmp .ge 7, 3) := by decide +kernel
theorem dX8_feed_31 : decode cX8_feed 31 = .ok (.iload_n 1, 1) := by decide +kernel
theorem dX8_feed_32 : decode cX8_feed 32 = .ok (.goto 39, 3) := by decide +kernel
theorem dX8_feed_35 : decode cX8_feed 35 = .ok (.iload 6, 2) := by decide +kernel
theorem dX8_feed_37 : decode cX8_feed 37 = .ok (.bipush 8, 2) := by decide +kernel
theorem dX8_feed_39 : decode cX8_feed 39 = .ok (.if_icmp .ge 7, 3) := by decide +kernel
theorem dX8_feed_42 : decode cX8_feed 42 = .ok (.iload_n 2, 1) := by decide +kernel
theorem dX8_feed_43 : decode cX8_feed 43 = .ok (.goto 28, 3) := by decide +kernel
theorem dX8_feed_46 : decode cX8_feed 46 = .ok (.iload 6, 2) := by decide +kernel
theorem dX8_feed_48 : decode cX8_feed 48 = .ok (.bipush 12, 2) := by decide +kernel
theorem dX8_feed_50 : decode cX8_feed 50 = .ok (.if_icmp .ge 7, 3) := by decide +kernel
theorem dX8_feed_53 : decode cX8_feed 53 = .ok (.iload_n 3, 1) := by decide +kernel
theorem dX8_feed_54 : decode cX8_feed 54 = .ok (.goto 17, 3) := by decide +kernel
theorem dX8_feed_57 : decode cX8_feed 57 = .ok (.iload 6, 2) := by decide +kernel
theorem dX8_feed_59 : decode cX8_feed 59 = .ok (.bipush 16, 2) := by decide +kernel
theorem dX8_feed_61 : decode cX8_feed 61 = .ok (.if_icmp .ge 8, 3) := by decide +kernel
theorem dX8_feed_64 : decode cX8_feed 64 = .ok (.iload 4, 2) := by decide +kernel
theorem dX8_feed_66 : decode cX8_feed 66 = .ok (.goto 5, 3) := by decide +kernel
theorem dX8_feed_69 : decode cX8_feed 69 = .ok (.iload 5, 2) := by decide +kernel
theorem dX8_feed_71 : decode cX8_feed 71 = .ok (.istore 7, 2) := by decide +kernel
theorem dX8_feed_73 : decode cX8_feed 73 = .ok (.aload_n 0, 1) := by decide +kernel
theorem dX8_feed_74 : decode cX8_feed 74 = .ok (.getfield 13, 3) := by decide +kernel
theorem dX8_feed_77 : decode cX8_feed 77 = .ok (.aload_n 0, 1) := by decide +kernel
theorem dX8_feed_78 : decode cX8_feed 78 = .ok (.getfield 111, 3) := by decide +kernel
theorem dX8_feed_81 : decode cX8_feed 81 = .ok (.iload 7, 2) := by decide +kernel
theorem dX8_feed_83 : decode cX8_feed 83 = .ok (.bipush 24, 2) := by decide +kernel
theorem dX8_feed_85 : decode cX8_feed 85 = .ok (.bipush 8, 2) := by decide +kernel
theorem dX8_feed_87 : decode cX8_feed 87 = .ok (.iload 6, 2) := by decide +kernel
theorem dX8_feed_89 : decode cX8_feed 89 = .ok (.iconst 4, 1) := by decide +kernel
theorem dX8_feed_90 : decode cX8_feed 90 = .ok (.irem, 1) := by decide +kernel
theorem dX8_feed_91 : decode cX8_feed 91 = .ok (.imul, 1) := by decide +kernel
theorem dX8_feed_92 : decode cX8_feed 92 = .ok (.isub, 1) := by decide +kernel
theorem dX8_feed_93 : decode cX8_feed 93 = .ok (.ishr, 1) := by decide +kernel
theorem dX8_feed_94 : decode cX8_feed 94 = .ok (.sipush 255, 3) := by decide +kernel
theorem dX8_feed_97 : decode cX8_feed 97 = .ok (.iand, 1) := by decide +kernel
theorem dX8_feed_98 : decode cX8_feed 98 = .ok (.iastore, 1) := by decide +kernel
theorem dX8_feed_99 : decode cX8_feed 99 = .ok (.aload_n 0, 1) := by decide +kernel
theorem dX8_feed_100 : decode cX8_feed 100 = .ok (.dup, 1) := by decide +kernel
theorem dX8_feed_101 : decode cX8_feed 101 = .ok (.getfield 111, 3) := by decide +kernel
theorem dX8_feed_104 : decode cX8_feed 104 = .ok (.iconst 1, 1) := by decide +kernel
theorem dX8_feed_105 : decode cX8_feed 105 = .ok (.iadd, 1) := by decide +kernel
theorem dX8_feed_106 : decode cX8_feed 106 = .ok (.putfield 111, 3) := by decide +kernel
theorem dX8_feed_109 : decode cX8_feed 109 = .ok (.iinc 6 1, 3) := by decide +kernel
theorem dX8_feed_112 : decode cX8_feed 112 = .ok (.goto (-94), 3) := by decide +kernel
theorem dX8_feed_115 : decode cX8_feed 115 = .ok (.aload_n 0, 1) := by decide +kernel
theorem dX8_feed_116 : decode cX8_feed 116 = .ok (.getfield 111, 3) := by decide +kernel
theorem dX8_feed_119 : decode cX8_feed 119 = .ok (.ireturn, 1) := by decide +kernel
def wp_X8_feed_71 (a1 : Int) (a2 : Int) (a3 : Int) (a4 : Int) (a5 : Int) (k18 : Int → Mem → Prop) (Q : Int → Mem → Prop) (x6 s0 : Int) (M : Mem) : Prop := (Rg x6 ∧ 0 ≤ x6) ∧ (0 ≤ (M 62 3) ∧ (M 62 3) < 200) ∧ k18 (x6 + 1) (up (up M 64 (M 62 3).toNat (bAnd (bShr s0 (24 - (8 * (x6 % 4)))) 255)) 62 3 (((up M 64 (M 62 3).toNat (bAnd (bShr s0 (24 - (8 * (x6 % 4)))) 255)) 62 3) + 1))
set_option maxHeartbeats 4000000 in
set_option maxRecDepth 100000 in
theorem v_X8_feed_71 (a1 : Int) (a2 : Int) (a3 : Int) (a4 : Int) (a5 : Int) (E : En X (AW X) 0 p R s m args meth c cX8_feed RX8 8 (some .int) 0 0) (Q : Int → Mem → Prop) (k18 : Int → Mem → Prop) (Hk18 : ∀ (x6 : Int) (M : Mem) (H : Heap) (locs : List Loc) (ls : Array Slot), k18 x6 M → Wd X (AW X) s M H locs → lv_has ls 8 [(0, .ref (xA X 62)), (1, .int (jI a1)), (2, .int (jI a2)), (3, .int (jI a3)), (4, .int (jI a4)), (5, .int (jI a5)), (6, .int (jI x6))] → W p l e R s m args below meth c H locs 0 0 (MQ below (QI X Q) args s 0 0 (AW X)) (F0 m 18 ls [])) : ∀ (x6 s0 : Int) (M : Mem) (H : Heap) (locs : List Loc) (ls : Array Slot), wp_X8_feed_71 a1 a2 a3 a4 a5 k18 Q x6 s0 M → Wd X (AW X) s M H locs → lv_has ls 8 [(0, .ref (xA X 62)), (1, .int (jI a1)), (2, .int (jI a2)), (3, .int (jI a3)), (4, .int (jI a4)), (5, .int (jI a5)), (6, .int (jI x6))] → W p l e R s m args below meth c H locs 0 0 (MQ below (QI X Q) args s 0 0 (AW X)) (F0 m 71 ls [.int (jI s0)]) := by
  intro x6 s0 M H locs ls h hW hl
  unfold wp_X8_feed_71 at h
  refine q_istore (n := 73) [(7, .int (jI s0)), (0, .ref (xA X 62)), (1, .int (jI a1)), (2, .int (jI a2)), (3, .int (jI a3)), (4, .int (jI a4)), (5, .int (jI a5)), (6, .int (jI x6))] E.1 hl dX8_feed_71 (by decide) rfl rfl (fun ls hl => ?_)
  refine q_aload_n (n := 74) (q := 1) E.1 hl rfl dX8_feed_73 rfl rfl ?_
  refine q_get (n := 77) (k := 1) (fs := (fs62 X)) (v := .ref (xA X 64)) E hW (by decide) (fun _ => rfl) K8 (by decide) w716 rfl rfl dX8_feed_74 rfl ?_
  refine q_aload_n (n := 78) (q := 1) E.1 hl rfl dX8_feed_77 rfl rfl ?_
  refine q_get (n := 81) (k := 3) (fs := (fs62 X)) (v := .int (jI (M 62 3))) E hW (by decide) (fun _ => rfl) K8 (by decide) w718 rfl rfl dX8_feed_78 rfl ?_
  refine q_iload (n := 83) (q := 0) E.1 hl rfl dX8_feed_81 rfl ?_
  refine q_bipush (n := 85) E.1 dX8_feed_83 (by decide) rfl ?_
  refine q_bipush (n := 87) E.1 dX8_feed_85 (by decide) rfl ?_
  refine q_iload (n := 89) (q := 7) E.1 hl rfl dX8_feed_87 rfl ?_
  refine q_iconst (n := 90) E.1 dX8_feed_89 rfl ?_
  obtain ⟨g1, h⟩ := h
  refine q_irem (n := 91) E.1 g1 (by decide) dX8_feed_90 rfl ?_
  refine q_imul (n := 92) E.1 dX8_feed_91 rfl ?_
  refine q_isub (n := 93) E.1 dX8_feed_92 rfl ?_
  refine q_ishr (n := 94) E.1 dX8_feed_93 rfl ?_
  refine q_sipush (n := 97) E.1 dX8_feed_94 (by decide) rfl ?_
  refine q_iand (n := 98) E.1 dX8_feed_97 rfl ?_
  obtain ⟨g2, h⟩ := h
  refine q_iast (n := 99) E hW (by decide) (fun _ => rfl) (by decide) g2 dX8_feed_98 rfl (fun H locs hW => ?_)
  refine q_aload_n (n := 100) (q := 1) E.1 hl rfl dX8_feed_99 rfl rfl ?_
  refine q_dup (n := 101) E.1 dX8_feed_100 rfl rfl ?_
  refine q_get (n := 104) (k := 3) (fs := (fs62 X)) (v := .int (jI ((up M 64 (M 62 3).toNat (bAnd (bShr s0 (24 - (8 * (x6 % 4)))) 255)) 62 3))) E hW (by decide) (fun _ => rfl) K8 (by decide) w718 rfl rfl dX8_feed_101 rfl ?_
  refine q_iconst (n := 105) E.1 dX8_feed_104 rfl ?_
  refine q_iadd (n := 106) E.1 dX8_feed_105 rfl ?_
  refine q_put (n := 109) (k := 3) (fs := (fs62 X)) E hW (by decide) (fun _ => rfl) K8 (by decide) w718 rfl rfl ⟨rfl, rfl⟩ (Nat.le_of_ble_eq_true rfl) (fun _ => rfl) dX8_feed_106 rfl (fun H locs hW => ?_)
  refine q_iinc (n := 112) (q := 7) [(6, .int (jI (x6 + 1))), (7, .int (jI s0)), (0, .ref (xA X 62)), (1, .int (jI a1)), (2, .int (jI a2)), (3, .int (jI a3)), (4, .int (jI a4)), (5, .int (jI a5))] E.1 hl rfl dX8_feed_109 (by decide) rfl rfl (fun ls hl => ?_)
  refine q_goto (n := 18) E.1 dX8_feed_112 (by decide) ?_
  exact Hk18 _ _ _ _ _ h hW (lv_sub hl [2, 3, 4, 5, 6, 7, 0] rfl)
def wp_X8_feed_18 (a1 : Int) (a2 : Int) (a3 : Int) (a4 : Int) (a5 : Int) (Q : Int → Mem → Prop) : Nat → Int → Mem → Prop
  | 0, _, _ => False
  | n + 1, x6, M => (Rg x6 ∧ (20 ≤ x6 → Q (M 62 3) M) ∧ (¬ (20 ≤ x6) → (Rg x6 ∧ (4 ≤ x6 → (Rg x6 ∧ (8 ≤ x6 → (Rg x6 ∧ (12 ≤ x6 → (Rg x6 ∧ (16 ≤ x6 → wp_X8_feed_71 a1 a2 a3 a4 a5 (fun x6 M => wp_X8_feed_18 a1 a2 a3 a4 a5 Q n x6 M) Q x6 a5 M) ∧ (¬ (16 ≤ x6) → wp_X8_feed_71 a1 a2 a3 a4 a5 (fun x6 M => wp_X8_feed_18 a1 a2 a3 a4 a5 Q n x6 M) Q x6 a4 M))) ∧ (¬ (12 ≤ x6) → wp_X8_feed_71 a1 a2 a3 a4 a5 (fun x6 M => wp_X8_feed_18 a1 a2 a3 a4 a5 Q n x6 M) Q x6 a3 M))) ∧ (¬ (8 ≤ x6) → wp_X8_feed_71 a1 a2 a3 a4 a5 (fun x6 M => wp_X8_feed_18 a1 a2 a3 a4 a5 Q n x6 M) Q x6 a2 M))) ∧ (¬ (4 ≤ x6) → wp_X8_feed_71 a1 a2 a3 a4 a5 (fun x6 M => wp_X8_feed_18 a1 a2 a3 a4 a5 Q n x6 M) Q x6 a1 M))))
set_option maxHeartbeats 4000000 in
set_option maxRecDepth 100000 in
theorem v_X8_feed_18 (a1 : Int) (a2 : Int) (a3 : Int) (a4 : Int) (a5 : Int) (E : En X (AW X) 0 p R s m args meth c cX8_feed RX8 8 (some .int) 0 0) (Q : Int → Mem → Prop) : ∀ n : Nat, ∀ (x6 : Int) (M : Mem) (H : Heap) (locs : List Loc) (ls : Array Slot), wp_X8_feed_18 a1 a2 a3 a4 a5 Q n x6 M → Wd X (AW X) s M H locs → lv_has ls 8 [(0, .ref (xA X 62)), (1, .int (jI a1)), (2, .int (jI a2)), (3, .int (jI a3)), (4, .int (jI a4)), (5, .int (jI a5)), (6, .int (jI x6))] → W p l e R s m args below meth c H locs 0 0 (MQ below (QI X Q) args s 0 0 (AW X)) (F0 m 18 ls []) := by
  intro n
  induction n with
  | zero => intro x6 M H locs ls h; exact absurd h (by simp [wp_X8_feed_18])
  | succ n ih =>
    intro x6 M H locs ls h hW hl
    rw [wp_X8_feed_18] at h
    refine q_iload (n := 20) (q := 6) E.1 hl rfl dX8_feed_18 rfl ?_
    refine q_bipush (n := 22) E.1 dX8_feed_20 (by decide) rfl ?_
    obtain ⟨g1, h2, h3⟩ := h
    refine q_icmp_ge (t := 115) (n := 25) E.1 g1 (by decide) dX8_feed_22 (by decide) rfl (fun c4 => ?_) (fun c4 => ?_)
    · have h := h2 c4
      refine q_aload_n (n := 116) (q := 0) E.1 hl rfl dX8_feed_115 rfl rfl ?_
      refine q_get (n := 119) (k := 3) (fs := (fs62 X)) (v := .int (jI (M 62 3))) E hW (by decide) (fun _ => rfl) K8 (by decide) w718 rfl rfl dX8_feed_116 rfl ?_
      exact q_iret E hW h dX8_feed_119
    · have h := h3 c4
      refine q_iload (n := 27) (q := 6) E.1 hl rfl dX8_feed_25 rfl ?_
      refine q_iconst (n := 28) E.1 dX8_feed_27 rfl ?_
      obtain ⟨g5, h6, h7⟩ := h
      refine q_icmp_ge (t := 35) (n := 31) E.1 g5 (by decide) dX8_feed_28 (by decide) rfl (fun c8 => ?_) (fun c8 => ?_)
      · have h := h6 c8
        refine q_iload (n := 37) (q := 6) E.1 hl rfl dX8_feed_35 rfl ?_
        refine q_bipush (n := 39) E.1 dX8_feed_37 (by decide) rfl ?_
        obtain ⟨g9, h10, h11⟩ := h
        refine q_icmp_ge (t := 46) (n := 42) E.1 g9 (by decide) dX8_feed_39 (by decide) rfl (fun c12 => ?_) (fun c12 => ?_)
        · have h := h10 c12
          refine q_iload (n := 48) (q := 6) E.1 hl rfl dX8_feed_46 rfl ?_
          refine q_bipush (n := 50) E.1 dX8_feed_48 (by decide) rfl ?_
          obtain ⟨g13, h14, h15⟩ := h
          refine q_icmp_ge (t := 57) (n := 53) E.1 g13 (by decide) dX8_feed_50 (by decide) rfl (fun c16 => ?_) (fun c16 => ?_)
          · have h := h14 c16
            refine q_iload (n := 59) (q := 6) E.1 hl rfl dX8_feed_57 rfl ?_
            refine q_bipush (n := 61) E.1 dX8_feed_59 (by decide) rfl ?_
            obtain ⟨g17, h18, h19⟩ := h
            refine q_icmp_ge (t := 69) (n := 64) E.1 g17 (by decide) dX8_feed_61 (by decide) rfl (fun c20 => ?_) (fun c20 => ?_)
            · have h := h18 c20
              refine q_iload (n := 71) (q := 5) E.1 hl rfl dX8_feed_69 rfl ?_
              exact v_X8_feed_71 a1 a2 a3 a4 a5 E Q _ ih _ _ _ _ _ _ h hW (lv_sub hl [0, 1, 2, 3, 4, 5, 6] rfl)
            · have h := h19 c20
              refine q_iload (n := 66) (q := 4) E.1 hl rfl dX8_feed_64 rfl ?_
              refine q_goto (n := 71) E.1 dX8_feed_66 (by decide) ?_
              exact v_X8_feed_71 a1 a2 a3 a4 a5 E Q _ ih _ _ _ _ _ _ h hW (lv_sub hl [0, 1, 2, 3, 4, 5, 6] rfl)
          · have h := h15 c16
            refine q_iload_n (n := 54) (q := 3) E.1 hl rfl dX8_feed_53 rfl rfl ?_
            refine q_goto (n := 71) E.1 dX8_feed_54 (by decide) ?_
            exact v_X8_feed_71 a1 a2 a3 a4 a5 E Q _ ih _ _ _ _ _ _ h hW (lv_sub hl [0, 1, 2, 3, 4, 5, 6] rfl)
        · have h := h11 c12
          refine q_iload_n (n := 43) (q := 2) E.1 hl rfl dX8_feed_42 rfl rfl ?_
          refine q_goto (n := 71) E.1 dX8_feed_43 (by decide) ?_
          exact v_X8_feed_71 a1 a2 a3 a4 a5 E Q _ ih _ _ _ _ _ _ h hW (lv_sub hl [0, 1, 2, 3, 4, 5, 6] rfl)
      · have h := h7 c8
        refine q_iload_n (n := 32) (q := 1) E.1 hl rfl dX8_feed_31 rfl rfl ?_
        refine q_goto (n := 71) E.1 dX8_feed_32 (by decide) ?_
        exact v_X8_feed_71 a1 a2 a3 a4 a5 E Q _ ih _ _ _ _ _ _ h hW (lv_sub hl [0, 1, 2, 3, 4, 5, 6] rfl)
def wp_X8_feed (a1 : Int) (a2 : Int) (a3 : Int) (a4 : Int) (a5 : Int) (M : Mem) (Q : Int → Mem → Prop) : Prop := (Rg ((M 62 3) + 20) ∧ (((M 62 3) + 20) ≤ 200 → (∃ n : Nat, wp_X8_feed_18 a1 a2 a3 a4 a5 Q n 0 M)) ∧ (¬ (((M 62 3) + 20) ≤ 200) → Q (-1) M))
set_option maxHeartbeats 4000000 in
set_option maxRecDepth 100000 in
theorem c_X8_feed (l : Launch) (X : Cx) (hI : Inj X) (a1 : Int) (a2 : Int) (a3 : Int) (a4 : Int) (a5 : Int) (M : Mem) (Q : Int → Mem → Prop) (h : wp_X8_feed a1 a2 a3 a4 a5 M Q) : MI X l yX8_feed cX8_feed 8 (some .int) 0 [.ref (xA X 62), .int (jI a1), .int (jI a2), .int (jI a3), .int (jI a4), .int (jI a5)] M Q := by
  refine MI.of hI (by decide) (Nat.le_of_ble_eq_true rfl) ?_
  intro p e R s m args below meth c ls E hW hl
  have E : En X (AW X) 0 p R s m args meth c cX8_feed RX8 8 (some .int) 0 0 := E
  have hl : lv_has ls 8 [(0, .ref (xA X 62)), (1, .int (jI a1)), (2, .int (jI a2)), (3, .int (jI a3)), (4, .int (jI a4)), (5, .int (jI a5))] := hl
  unfold wp_X8_feed at h
  refine q_aload_n (n := 1) (q := 0) E.1 hl rfl dX8_feed_0 rfl rfl ?_
  refine q_get (n := 4) (k := 3) (fs := (fs62 X)) (v := .int (jI (M 62 3))) E hW (by decide) (fun _ => rfl) K8 (by decide) w718 rfl rfl dX8_feed_1 rfl ?_
  refine q_bipush (n := 6) E.1 dX8_feed_4 (by decide) rfl ?_
  refine q_iadd (n := 7) E.1 dX8_feed_6 rfl ?_
  refine q_sipush (n := 10) E.1 dX8_feed_7 (by decide) rfl ?_
  obtain ⟨g1, h2, h3⟩ := h
  refine q_icmp_le (t := 15) (n := 13) E.1 g1 (by decide) dX8_feed_10 (by decide) rfl (fun c4 => ?_) (fun c4 => ?_)
  · have h := h2 c4
    refine q_iconst (n := 16) E.1 dX8_feed_15 rfl ?_
    refine q_istore (n := 18) [(6, .int (jI 0)), (0, .ref (xA X 62)), (1, .int (jI a1)), (2, .int (jI a2)), (3, .int (jI a3)), (4, .int (jI a4)), (5, .int (jI a5))] E.1 hl dX8_feed_16 (by decide) rfl rfl (fun ls hl => ?_)
    obtain ⟨n5, h⟩ := h
    exact v_X8_feed_18 a1 a2 a3 a4 a5 E Q n5 _ _ _ _ _ h hW (lv_sub hl [1, 2, 3, 4, 5, 6, 0] rfl)
  · have h := h3 c4
    refine q_iconst (n := 14) E.1 dX8_feed_13 rfl ?_
    exact q_iret E hW h dX8_feed_14
/-! StickerPressModel.end(I)Z -/
theorem dX8_end_0 : decode cX8_end 0 = .ok (.iload_n 1, 1) := by decide +kernel
theorem dX8_end_1 : decode cX8_end 1 = .ok (.iconst 0, 1) := by decide +kernel
theorem dX8_end_2 : decode cX8_end 2 = .ok (.aload_n 0, 1) := by decide +kernel
theorem dX8_end_3 : decode cX8_end 3 = .ok (.getfield 111, 3) := by decide +kernel
theorem dX8_end_6 : decode cX8_end 6 = .ok (.invokestatic 103, 3) := by decide +kernel
theorem dX8_end_9 : decode cX8_end 9 = .ok (.ifCond .ne 5, 3) := by decide +kernel
theorem dX8_end_12 : decode cX8_end 12 = .ok (.iconst 0, 1) := by decide +kernel
theorem dX8_end_13 : decode cX8_end 13 = .ok (.ireturn, 1) := by decide +kernel
theorem dX8_end_14 : decode cX8_end 14 = .ok (.aload_n 0, 1) := by decide +kernel
theorem dX8_end_15 : decode cX8_end 15 = .ok (.iload_n 1, 1) := by decide +kernel
theorem dX8_end_16 : decode cX8_end 16 = .ok (.putfield 111, 3) := by decide +kernel
theorem dX8_end_19 : decode cX8_end 19 = .ok (.iconst 1, 1) := by decide +kernel
theorem dX8_end_20 : decode cX8_end 20 = .ok (.ireturn, 1) := by decide +kernel
def wp_X8_end (a1 : Int) (M : Mem) (Q : Int → Mem → Prop) : Prop := wp_X8_isIn a1 0 (M 62 3) M (fun r2 M1 => (Rg r2 ∧ (r2 ≠ 0 → Q 1 (up M1 62 3 a1)) ∧ (¬ (r2 ≠ 0) → Q 0 M1)))
set_option maxHeartbeats 4000000 in
set_option maxRecDepth 100000 in
theorem c_X8_end (l : Launch) (X : Cx) (hI : Inj X) (a1 : Int) (M : Mem) (Q : Int → Mem → Prop) (h : wp_X8_end a1 M Q) : MI X l yX8_end cX8_end 2 (some .boolean) 1 [.ref (xA X 62), .int (jI a1)] M Q := by
  refine MI.of hI (by decide) (Nat.le_of_ble_eq_true rfl) ?_
  intro p e R s m args below meth c ls E hW hl
  have E : En X (AW X) 1 p R s m args meth c cX8_end RX8 2 (some .boolean) 0 0 := E
  have hl : lv_has ls 2 [(0, .ref (xA X 62)), (1, .int (jI a1))] := hl
  unfold wp_X8_end at h
  refine q_iload_n (n := 1) (q := 1) E.1 hl rfl dX8_end_0 rfl rfl ?_
  refine q_iconst (n := 2) E.1 dX8_end_1 rfl ?_
  refine q_aload_n (n := 3) (q := 0) E.1 hl rfl dX8_end_2 rfl rfl ?_
  refine q_get (n := 6) (k := 3) (fs := (fs62 X)) (v := .int (jI (M 62 3))) E hW (by decide) (fun _ => rfl) K8 (by decide) w718 rfl rfl dX8_end_3 rfl ?_
  refine q_callSi (n := 9) [.int (jI a1), .int (jI 0), .int (jI (M 62 3))] E hW hl.1 (c_X8_isIn l X E.2.2.1.1 a1 0 (M 62 3)  _ _ h) (by decide) Y_RX8_103 rfl (rest := []) rfl (Nat.le_of_ble_eq_true rfl) dX8_end_6 rfl (fun r2 M1 H locs h hW => ?_)
  obtain ⟨g3, h4, h5⟩ := h
  refine q_if_ne (t := 14) (n := 12) E.1 g3 dX8_end_9 (by decide) rfl (fun c6 => ?_) (fun c6 => ?_)
  · have h := h4 c6
    refine q_aload_n (n := 15) (q := 0) E.1 hl rfl dX8_end_14 rfl rfl ?_
    refine q_iload_n (n := 16) (q := 1) E.1 hl rfl dX8_end_15 rfl rfl ?_
    refine q_put (n := 19) (k := 3) (fs := (fs62 X)) E hW (by decide) (fun _ => rfl) K8 (by decide) w718 rfl rfl ⟨rfl, rfl⟩ (Nat.le_of_ble_eq_true rfl) (fun _ => rfl) dX8_end_16 rfl (fun H locs hW => ?_)
    refine q_iconst (n := 20) E.1 dX8_end_19 rfl ?_
    exact q_zret E hW (Or.inr rfl) h dX8_end_20
  · have h := h5 c6
    refine q_iconst (n := 13) E.1 dX8_end_12 rfl ?_
    exact q_zret E hW (Or.inl rfl) h dX8_end_13
/-! StickerPressModel.areSigns(I)Z -/
theorem dX8_areSigns_0 : decode cX8_areSigns 0 = .ok (.iconst 1, 1) := by decide +kernel
theorem dX8_areSigns_1 : decode cX8_areSigns 1 = .ok (.istore_n 2, 1) := by decide +kernel
theorem dX8_areSigns_2 : decode cX8_areSigns 2 = .ok (.iconst 0, 1) := by decide +kernel
theorem dX8_areSigns_3 : decode cX8_areSigns 3 = .ok (.istore_n 3, 1) := by decide +kernel
theorem dX8_areSigns_4 : decode cX8_areSigns 4 = .ok (.iload_n 3, 1) := by decide +kernel
theorem dX8_areSigns_5 : decode cX8_areSigns 5 = .ok (.iload_n 1, 1) := by decide +kernel
theorem dX8_areSigns_6 : decode cX8_areSigns 6 = .ok (.if_icmp .ge 31, 3) := by decide +kernel
theorem dX8_areSigns_9 : decode cX8_areSigns 9 = .ok (.iload_n 2, 1) := by decide +kernel
theorem dX8_areSigns_10 : decode cX8_areSigns 10 = .ok (.ifCond .eq 19, 3) := by decide +kernel
theorem dX8_areSigns_13 : decode cX8_areSigns 13 = .ok (.aload_n 0, 1) := by decide +kernel
theorem dX8_areSigns_14 : decode cX8_areSigns 14 = .ok (.getfield 13, 3) := by decide +kernel
theorem dX8_areSigns_17 : decode cX8_areSigns 17 = .ok (.iload_n 3, 1) := by decide +kernel
theorem dX8_areSigns_18 : decode cX8_areSigns 18 = .ok (.iaload, 1) := by decide +kernel
theorem dX8_areSigns_19 : decode cX8_areSigns 19 = .ok (.invokestatic 107, 3) := by decide +kernel
theorem dX8_areSigns_22 : decode cX8_areSigns 22 = .ok (.ifCond .eq 7, 3) := by decide +kernel
theorem dX8_areSigns_25 : decode cX8_areSigns 25 = .ok (.iconst 1, 1) := by decide +kernel
theorem dX8_areSigns_26 : decode cX8_areSigns 26 = .ok (.goto 4, 3) := by decide +kernel
theorem dX8_areSigns_29 : decode cX8_areSigns 29 = .ok (.iconst 0, 1) := by decide +kernel
theorem dX8_areSigns_30 : decode cX8_areSigns 30 = .ok (.istore_n 2, 1) := by decide +kernel
theorem dX8_areSigns_31 : decode cX8_areSigns 31 = .ok (.iinc 3 1, 3) := by decide +kernel
theorem dX8_areSigns_34 : decode cX8_areSigns 34 = .ok (.goto (-30), 3) := by decide +kernel
theorem dX8_areSigns_37 : decode cX8_areSigns 37 = .ok (.iload_n 2, 1) := by decide +kernel
theorem dX8_areSigns_38 : decode cX8_areSigns 38 = .ok (.ireturn, 1) := by decide +kernel
def wp_X8_areSigns_4 (a1 : Int) (Q : Int → Mem → Prop) : Nat → Int → Int → Mem → Prop
  | 0, _, _, _ => False
  | n + 1, x2, x3, M => (Rg x3 ∧ Rg a1 ∧ (a1 ≤ x3 → ((x2 = 0 ∨ x2 = 1) ∧ Q x2 M)) ∧ (¬ (a1 ≤ x3) → (Rg x2 ∧ (x2 = 0 → wp_X8_areSigns_4 a1 Q n 0 (x3 + 1) M) ∧ (¬ (x2 = 0) → (0 ≤ x3 ∧ x3 < 200) ∧ wp_X8_isSign (M 64 x3.toNat) M (fun r13 M12 => (Rg r13 ∧ (r13 = 0 → wp_X8_areSigns_4 a1 Q n 0 (x3 + 1) M12) ∧ (¬ (r13 = 0) → wp_X8_areSigns_4 a1 Q n 1 (x3 + 1) M12)))))))
set_option maxHeartbeats 4000000 in
set_option maxRecDepth 100000 in
theorem v_X8_areSigns_4 (a1 : Int) (E : En X (AW X) 2 p R s m args meth c cX8_areSigns RX8 4 (some .boolean) 0 0) (Q : Int → Mem → Prop) : ∀ n : Nat, ∀ (x2 x3 : Int) (M : Mem) (H : Heap) (locs : List Loc) (ls : Array Slot), wp_X8_areSigns_4 a1 Q n x2 x3 M → Wd X (AW X) s M H locs → lv_has ls 4 [(0, .ref (xA X 62)), (1, .int (jI a1)), (2, .int (jI x2)), (3, .int (jI x3))] → W p l e R s m args below meth c H locs 0 0 (MQ below (QI X Q) args s 0 0 (AW X)) (F0 m 4 ls []) := by
  intro n
  induction n with
  | zero => intro x2 x3 M H locs ls h; exact absurd h (by simp [wp_X8_areSigns_4])
  | succ n ih =>
    intro x2 x3 M H locs ls h hW hl
    rw [wp_X8_areSigns_4] at h
    refine q_iload_n (n := 5) (q := 3) E.1 hl rfl dX8_areSigns_4 rfl rfl ?_
    refine q_iload_n (n := 6) (q := 1) E.1 hl rfl dX8_areSigns_5 rfl rfl ?_
    obtain ⟨g1, g2, h3, h4⟩ := h
    refine q_icmp_ge (t := 37) (n := 9) E.1 g1 g2 dX8_areSigns_6 (by decide) rfl (fun c5 => ?_) (fun c5 => ?_)
    · have h := h3 c5
      refine q_iload_n (n := 38) (q := 2) E.1 hl rfl dX8_areSigns_37 rfl rfl ?_
      exact q_zret E hW h.1 h.2 dX8_areSigns_38
    · have h := h4 c5
      refine q_iload_n (n := 10) (q := 2) E.1 hl rfl dX8_areSigns_9 rfl rfl ?_
      obtain ⟨g7, h8, h9⟩ := h
      refine q_if_eq (t := 29) (n := 13) E.1 g7 dX8_areSigns_10 (by decide) rfl (fun c10 => ?_) (fun c10 => ?_)
      · have h := h8 c10
        refine q_iconst (n := 30) E.1 dX8_areSigns_29 rfl ?_
        refine q_istore_n (n := 31) [(2, .int (jI 0)), (0, .ref (xA X 62)), (1, .int (jI a1)), (3, .int (jI x3))] E.1 hl dX8_areSigns_30 rfl (by decide) rfl rfl (fun ls hl => ?_)
        refine q_iinc (n := 34) (q := 3) [(3, .int (jI (x3 + 1))), (2, .int (jI 0)), (0, .ref (xA X 62)), (1, .int (jI a1))] E.1 hl rfl dX8_areSigns_31 (by decide) rfl rfl (fun ls hl => ?_)
        refine q_goto (n := 4) E.1 dX8_areSigns_34 (by decide) ?_
        exact ih _ _ _ _ _ _ h hW (lv_sub hl [2, 3, 1, 0] rfl)
      · have h := h9 c10
        refine q_aload_n (n := 14) (q := 0) E.1 hl rfl dX8_areSigns_13 rfl rfl ?_
        refine q_get (n := 17) (k := 1) (fs := (fs62 X)) (v := .ref (xA X 64)) E hW (by decide) (fun _ => rfl) K8 (by decide) w716 rfl rfl dX8_areSigns_14 rfl ?_
        refine q_iload_n (n := 18) (q := 3) E.1 hl rfl dX8_areSigns_17 rfl rfl ?_
        obtain ⟨g11, h⟩ := h
        refine q_iald (n := 19) E hW (by decide) (fun _ => rfl) (by decide) g11 dX8_areSigns_18 rfl ?_
        refine q_callSi (n := 22) [.int (jI (M 64 x3.toNat))] E hW hl.1 (c_X8_isSign l X E.2.2.1.1 (M 64 x3.toNat)  _ _ h) (by decide) Y_RX8_107 rfl (rest := []) rfl (Nat.le_of_ble_eq_true rfl) dX8_areSigns_19 rfl (fun r13 M12 H locs h hW => ?_)
        obtain ⟨g14, h15, h16⟩ := h
        refine q_if_eq (t := 29) (n := 25) E.1 g14 dX8_areSigns_22 (by decide) rfl (fun c17 => ?_) (fun c17 => ?_)
        · have h := h15 c17
          refine q_iconst (n := 30) E.1 dX8_areSigns_29 rfl ?_
          refine q_istore_n (n := 31) [(2, .int (jI 0)), (0, .ref (xA X 62)), (1, .int (jI a1)), (3, .int (jI x3))] E.1 hl dX8_areSigns_30 rfl (by decide) rfl rfl (fun ls hl => ?_)
          refine q_iinc (n := 34) (q := 3) [(3, .int (jI (x3 + 1))), (2, .int (jI 0)), (0, .ref (xA X 62)), (1, .int (jI a1))] E.1 hl rfl dX8_areSigns_31 (by decide) rfl rfl (fun ls hl => ?_)
          refine q_goto (n := 4) E.1 dX8_areSigns_34 (by decide) ?_
          exact ih _ _ _ _ _ _ h hW (lv_sub hl [2, 3, 1, 0] rfl)
        · have h := h16 c17
          refine q_iconst (n := 26) E.1 dX8_areSigns_25 rfl ?_
          refine q_goto (n := 30) E.1 dX8_areSigns_26 (by decide) ?_
          refine q_istore_n (n := 31) [(2, .int (jI 1)), (0, .ref (xA X 62)), (1, .int (jI a1)), (3, .int (jI x3))] E.1 hl dX8_areSigns_30 rfl (by decide) rfl rfl (fun ls hl => ?_)
          refine q_iinc (n := 34) (q := 3) [(3, .int (jI (x3 + 1))), (2, .int (jI 1)), (0, .ref (xA X 62)), (1, .int (jI a1))] E.1 hl rfl dX8_areSigns_31 (by decide) rfl rfl (fun ls hl => ?_)
          refine q_goto (n := 4) E.1 dX8_areSigns_34 (by decide) ?_
          exact ih _ _ _ _ _ _ h hW (lv_sub hl [2, 3, 1, 0] rfl)
def wp_X8_areSigns (a1 : Int) (M : Mem) (Q : Int → Mem → Prop) : Prop := (∃ n : Nat, wp_X8_areSigns_4 a1 Q n 1 0 M)
set_option maxHeartbeats 4000000 in
set_option maxRecDepth 100000 in
theorem c_X8_areSigns (l : Launch) (X : Cx) (hI : Inj X) (a1 : Int) (M : Mem) (Q : Int → Mem → Prop) (h : wp_X8_areSigns a1 M Q) : MI X l yX8_areSigns cX8_areSigns 4 (some .boolean) 2 [.ref (xA X 62), .int (jI a1)] M Q := by
  refine MI.of hI (by decide) (Nat.le_of_ble_eq_true rfl) ?_
  intro p e R s m args below meth c ls E hW hl
  have E : En X (AW X) 2 p R s m args meth c cX8_areSigns RX8 4 (some .boolean) 0 0 := E
  have hl : lv_has ls 4 [(0, .ref (xA X 62)), (1, .int (jI a1))] := hl
  unfold wp_X8_areSigns at h
  refine q_iconst (n := 1) E.1 dX8_areSigns_0 rfl ?_
  refine q_istore_n (n := 2) [(2, .int (jI 1)), (0, .ref (xA X 62)), (1, .int (jI a1))] E.1 hl dX8_areSigns_1 rfl (by decide) rfl rfl (fun ls hl => ?_)
  refine q_iconst (n := 3) E.1 dX8_areSigns_2 rfl ?_
  refine q_istore_n (n := 4) [(3, .int (jI 0)), (2, .int (jI 1)), (0, .ref (xA X 62)), (1, .int (jI a1))] E.1 hl dX8_areSigns_3 rfl (by decide) rfl rfl (fun ls hl => ?_)
  obtain ⟨n1, h⟩ := h
  exact v_X8_areSigns_4 a1 E Q n1 _ _ _ _ _ _ h hW (lv_sub hl [2, 3, 1, 0] rfl)
/-! StickerPressModel.shorten(II)Z -/
theorem dX8_shorten_0 : decode cX8_shorten 0 = .ok (.aload_n 0, 1) := by decide +kernel
theorem dX8_shorten_1 : decode cX8_shorten 1 = .ok (.getfield 111, 3) := by decide +kernel
theorem dX8_shorten_4 : decode cX8_shorten 4 = .ok (.istore_n 3, 1) := by decide +kernel
theorem dX8_shorten_5 : decode cX8_shorten 5 = .ok (.aload_n 0, 1) := by decide +kernel
theorem dX8_shorten_6 : decode cX8_shorten 6 = .ok (.iconst 0, 1) := by decide +kernel
theorem dX8_shorten_7 : decode cX8_shorten 7 = .ok (.putfield 111, 3) := by decide +kernel
theorem dX8_shorten_10 : decode cX8_shorten 10 = .ok (.iload_n 1, 1) := by decide +kernel
theorem dX8_shorten_11 : decode cX8_shorten 11 = .ok (.iconst 0, 1) := by decide +kernel
theorem dX8_shorten_12 : decode cX8_shorten 12 = .ok (.iconst 5, 1) := by decide +kernel
theorem dX8_shorten_13 : decode cX8_shorten 13 = .ok (.invokestatic 103, 3) := by decide +kernel
theorem dX8_shorten_16 : decode cX8_shorten 16 = .ok (.ifCond .ne 5, 3) := by decide +kernel
theorem dX8_shorten_19 : decode cX8_shorten 19 = .ok (.iconst 0, 1) := by decide +kernel
theorem dX8_shorten_20 : decode cX8_shorten 20 = .ok (.ireturn, 1) := by decide +kernel
theorem dX8_shorten_21 : decode cX8_shorten 21 = .ok (.iload_n 2, 1) := by decide +kernel
theorem dX8_shorten_22 : decode cX8_shorten 22 = .ok (.ifCond .ne 16, 3) := by decide +kernel
theorem dX8_shorten_25 : decode cX8_shorten 25 = .ok (.iload_n 3, 1) := by decide +kernel
theorem dX8_shorten_26 : decode cX8_shorten 26 = .ok (.ifCond .ne 12, 3) := by decide +kernel
theorem dX8_shorten_29 : decode cX8_shorten 29 = .ok (.aload_n 0, 1) := by decide +kernel
theorem dX8_shorten_30 : decode cX8_shorten 30 = .ok (.getfield 19, 3) := by decide +kernel
theorem dX8_shorten_33 : decode cX8_shorten 33 = .ok (.iload_n 1, 1) := by decide +kernel
theorem dX8_shorten_34 : decode cX8_shorten 34 = .ok (.iconst 0, 1) := by decide +kernel
theorem dX8_shorten_35 : decode cX8_shorten 35 = .ok (.iastore, 1) := by decide +kernel
theorem dX8_shorten_36 : decode cX8_shorten 36 = .ok (.iconst 1, 1) := by decide +kernel
theorem dX8_shorten_37 : decode cX8_shorten 37 = .ok (.ireturn, 1) := by decide +kernel
theorem dX8_shorten_38 : decode cX8_shorten 38 = .ok (.iload_n 2, 1) := by decide +kernel
theorem dX8_shorten_39 : decode cX8_shorten 39 = .ok (.iconst 1, 1) := by decide +kernel
theorem dX8_shorten_40 : decode cX8_shorten 40 = .ok (.bipush 6, 2) := by decide +kernel
theorem dX8_shorten_42 : decode cX8_shorten 42 = .ok (.invokestatic 103, 3) := by decide +kernel
theorem dX8_shorten_45 : decode cX8_shorten 45 = .ok (.ifCond .eq 24, 3) := by decide +kernel
theorem dX8_shorten_48 : decode cX8_shorten 48 = .ok (.iload_n 3, 1) := by decide +kernel
theorem dX8_shorten_49 : decode cX8_shorten 49 = .ok (.iload_n 2, 1) := by decide +kernel
theorem dX8_shorten_50 : decode cX8_shorten 50 = .ok (.if_icmp .lt 19, 3) := by decide +kernel
theorem dX8_shorten_53 : decode cX8_shorten 53 = .ok (.iload_n 3, 1) := by decide +kernel
theorem dX8_shorten_54 : decode cX8_shorten 54 = .ok (.iload_n 2, 1) := by decide +kernel
theorem dX8_shorten_55 : decode cX8_shorten 55 = .ok (.isub, 1) := by decide +kernel
theorem dX8_shorten_56 : decode cX8_shorten 56 = .ok (.bipush 6, 2) := by decide +kernel
theorem dX8_shorten_58 : decode cX8_shorten 58 = .ok (.if_icmp .gt 11, 3) := by decide +kernel
theorem dX8_shorten_61 : decode cX8_shorten 61 = .ok (.aload_n 0, 1) := by decide +kernel
theorem dX8_shorten_62 : decode cX8_shorten 62 = .ok (.iload_n 3, 1) := by decide +kernel
theorem dX8_shorten_63 : decode cX8_shorten 63 = .ok (.invokevirtual 114, 3) := by decide +kernel
theorem dX8_shorten_66 : decode cX8_shorten 66 = .ok (.ifCond .ne 5, 3) := by decide +kernel
theorem dX8_shorten_69 : decode cX8_shorten 69 = .ok (.iconst 0, 1) := by decide +kernel
theorem dX8_shorten_70 : decode cX8_shorten 70 = .ok (.ireturn, 1) := by decide +kernel
theorem dX8_shorten_71 : decode cX8_shorten 71 = .ok (.aload_n 0, 1) := by decide +kernel
theorem dX8_shorten_72 : decode cX8_shorten 72 = .ok (.getfield 19, 3) := by decide +kernel
theorem dX8_shorten_75 : decode cX8_shorten 75 = .ok (.iload_n 1, 1) := by decide +kernel
theorem dX8_shorten_76 : decode cX8_shorten 76 = .ok (.iload_n 2, 1) := by decide +kernel
theorem dX8_shorten_77 : decode cX8_shorten 77 = .ok (.iastore, 1) := by decide +kernel
theorem dX8_shorten_78 : decode cX8_shorten 78 = .ok (.aload_n 0, 1) := by decide +kernel
theorem dX8_shorten_79 : decode cX8_shorten 79 = .ok (.getfield 22, 3) := by decide +kernel
theorem dX8_shorten_82 : decode cX8_shorten 82 = .ok (.iload_n 1, 1) := by decide +kernel
theorem dX8_shorten_83 : decode cX8_shorten 83 = .ok (.iload_n 3, 1) := by decide +kernel
theorem dX8_shorten_84 : decode cX8_shorten 84 = .ok (.iload_n 2, 1) := by decide +kernel
theorem dX8_shorten_85 : decode cX8_shorten 85 = .ok (.isub, 1) := by decide +kernel
theorem dX8_shorten_86 : decode cX8_shorten 86 = .ok (.iastore, 1) := by decide +kernel
theorem dX8_shorten_87 : decode cX8_shorten 87 = .ok (.iconst 0, 1) := by decide +kernel
theorem dX8_shorten_88 : decode cX8_shorten 88 = .ok (.istore 4, 2) := by decide +kernel
theorem dX8_shorten_90 : decode cX8_shorten 90 = .ok (.iload 4, 2) := by decide +kernel
theorem dX8_shorten_92 : decode cX8_shorten 92 = .ok (.iload_n 3, 1) := by decide +kernel
theorem dX8_shorten_93 : decode cX8_shorten 93 = .ok (.if_icmp .ge 58, 3) := by decide +kernel
theorem dX8_shorten_96 : decode cX8_shorten 96 = .ok (.iload 4, 2) := by decide +kernel
theorem dX8_shorten_98 : decode cX8_shorten 98 = .ok (.iload_n 2, 1) := by decide +kernel
theorem dX8_shorten_99 : decode cX8_shorten 99 = .ok (.if_icmp .ge 25, 3) := by decide +kernel
theorem dX8_shorten_102 : decode cX8_shorten 102 = .ok (.aload_n 0, 1) := by decide +kernel
theorem dX8_shorten_103 : decode cX8_shorten 103 = .ok (.getfield 25, 3) := by decide +kernel
theorem dX8_shorten_106 : decode cX8_shorten 106 = .ok (.bipush 6, 2) := by decide +kernel
theorem dX8_shorten_108 : decode cX8_shorten 108 = .ok (.iload_n 1, 1) := by decide +kernel
theorem dX8_shorten_109 : decode cX8_shorten 109 = .ok (.imul, 1) := by decide +kernel
theorem dX8_shorten_110 : decode cX8_shorten 110 = .ok (.iload 4, 2) := by decide +kernel
theorem dX8_shorten_112 : decode cX8_shorten 112 = .ok (.iadd, 1) := by decide +kernel
theorem dX8_shorten_113 : decode cX8_shorten 113 = .ok (.aload_n 0, 1) := by decide +kernel
theorem dX8_shorten_114 : decode cX8_shorten 114 = .ok (.getfield 13, 3) := by decide +kernel
theorem dX8_shorten_117 : decode cX8_shorten 117 = .ok (.iload 4, 2) := by decide +kernel
theorem dX8_shorten_119 : decode cX8_shorten 119 = .ok (.iaload, 1) := by decide +kernel
theorem dX8_shorten_120 : decode cX8_shorten 120 = .ok (.iastore, 1) := by decide +kernel
theorem dX8_shorten_121 : decode cX8_shorten 121 = .ok (.goto 24, 3) := by decide +kernel
theorem dX8_shorten_124 : decode cX8_shorten 124 = .ok (.aload_n 0, 1) := by decide +kernel
theorem dX8_shorten_125 : decode cX8_shorten 125 = .ok (.getfield 28, 3) := by decide +kernel
theorem dX8_shorten_128 : decode cX8_shorten 128 = .ok (.bipush 6, 2) := by decide +kernel
theorem dX8_shorten_130 : decode cX8_shorten 130 = .ok (.iload_n 1, 1) := by decide +kernel
theorem dX8_shorten_131 : decode cX8_shorten 131 = .ok (.imul, 1) := by decide +kernel
theorem dX8_shorten_132 : decode cX8_shorten 132 = .ok (.iload 4, 2) := by decide +kernel
theorem dX8_shorten_134 : decode cX8_shorten 134 = .ok (.iadd, 1) := by decide +kernel
theorem dX8_shorten_135 : decode cX8_shorten 135 = .ok (.iload_n 2, 1) := by decide +kernel
theorem dX8_shorten_136 : decode cX8_shorten 136 = .ok (.isub, 1) := by decide +kernel
theorem dX8_shorten_137 : decode cX8_shorten 137 = .ok (.aload_n 0, 1) := by decide +kernel
theorem dX8_shorten_138 : decode cX8_shorten 138 = .ok (.getfield 13, 3) := by decide +kernel
theorem dX8_shorten_141 : decode cX8_shorten 141 = .ok (.iload 4, 2) := by decide +kernel
theorem dX8_shorten_143 : decode cX8_shorten 143 = .ok (.iaload, 1) := by decide +kernel
theorem dX8_shorten_144 : decode cX8_shorten 144 = .ok (.iastore, 1) := by decide +kernel
theorem dX8_shorten_145 : decode cX8_shorten 145 = .ok (.iinc 4 1, 3) := by decide +kernel
theorem dX8_shorten_148 : decode cX8_shorten 148 = .ok (.goto (-58), 3) := by decide +kernel
theorem dX8_shorten_151 : decode cX8_shorten 151 = .ok (.iconst 1, 1) := by decide +kernel
theorem dX8_shorten_152 : decode cX8_shorten 152 = .ok (.ireturn, 1) := by decide +kernel
theorem Y_RX8_114 : YV RX8 114 RX8 yX8_areSigns cX8_areSigns 4 (some .boolean) 1 := ⟨w879, w876, w878, w24, w52, by decide +kernel, by decide⟩
def wp_X8_shorten_90 (a1 : Int) (a2 : Int) (Q : Int → Mem → Prop) : Nat → Int → Int → Mem → Prop
  | 0, _, _, _ => False
  | n + 1, x3, x4, M => (Rg x4 ∧ Rg x3 ∧ (x3 ≤ x4 → Q 1 M) ∧ (¬ (x3 ≤ x4) → (Rg x4 ∧ Rg a2 ∧ (a2 ≤ x4 → (0 ≤ x4 ∧ x4 < 200) ∧ (0 ≤ (((6 * a1) + x4) - a2) ∧ (((6 * a1) + x4) - a2) < 36) ∧ wp_X8_shorten_90 a1 a2 Q n x3 (x4 + 1) (up M 69 (((6 * a1) + x4) - a2).toNat (M 64 x4.toNat))) ∧ (¬ (a2 ≤ x4) → (0 ≤ x4 ∧ x4 < 200) ∧ (0 ≤ ((6 * a1) + x4) ∧ ((6 * a1) + x4) < 36) ∧ wp_X8_shorten_90 a1 a2 Q n x3 (x4 + 1) (up M 68 ((6 * a1) + x4).toNat (M 64 x4.toNat))))))
set_option maxHeartbeats 4000000 in
set_option maxRecDepth 100000 in
theorem v_X8_shorten_90 (a1 : Int) (a2 : Int) (E : En X (AW X) 3 p R s m args meth c cX8_shorten RX8 5 (some .boolean) 0 0) (Q : Int → Mem → Prop) : ∀ n : Nat, ∀ (x3 x4 : Int) (M : Mem) (H : Heap) (locs : List Loc) (ls : Array Slot), wp_X8_shorten_90 a1 a2 Q n x3 x4 M → Wd X (AW X) s M H locs → lv_has ls 5 [(0, .ref (xA X 62)), (1, .int (jI a1)), (2, .int (jI a2)), (3, .int (jI x3)), (4, .int (jI x4))] → W p l e R s m args below meth c H locs 0 0 (MQ below (QI X Q) args s 0 0 (AW X)) (F0 m 90 ls []) := by
  intro n
  induction n with
  | zero => intro x3 x4 M H locs ls h; exact absurd h (by simp [wp_X8_shorten_90])
  | succ n ih =>
    intro x3 x4 M H locs ls h hW hl
    rw [wp_X8_shorten_90] at h
    refine q_iload (n := 92) (q := 4) E.1 hl rfl dX8_shorten_90 rfl ?_
    refine q_iload_n (n := 93) (q := 3) E.1 hl rfl dX8_shorten_92 rfl rfl ?_
    obtain ⟨g1, g2, h3, h4⟩ := h
    refine q_icmp_ge (t := 151) (n := 96) E.1 g1 g2 dX8_shorten_93 (by decide) rfl (fun c5 => ?_) (fun c5 => ?_)
    · have h := h3 c5
      refine q_iconst (n := 152) E.1 dX8_shorten_151 rfl ?_
      exact q_zret E hW (Or.inr rfl) h dX8_shorten_152
    · have h := h4 c5
      refine q_iload (n := 98) (q := 4) E.1 hl rfl dX8_shorten_96 rfl ?_
      refine q_iload_n (n := 99) (q := 2) E.1 hl rfl dX8_shorten_98 rfl rfl ?_
      obtain ⟨g6, g7, h8, h9⟩ := h
      refine q_icmp_ge (t := 124) (n := 102) E.1 g6 g7 dX8_shorten_99 (by decide) rfl (fun c10 => ?_) (fun c10 => ?_)
      · have h := h8 c10
        refine q_aload_n (n := 125) (q := 0) E.1 hl rfl dX8_shorten_124 rfl rfl ?_
        refine q_get (n := 128) (k := 8) (fs := (fs62 X)) (v := .ref (xA X 69)) E hW (by decide) (fun _ => rfl) K8 (by decide) w723 rfl rfl dX8_shorten_125 rfl ?_
        refine q_bipush (n := 130) E.1 dX8_shorten_128 (by decide) rfl ?_
        refine q_iload_n (n := 131) (q := 1) E.1 hl rfl dX8_shorten_130 rfl rfl ?_
        refine q_imul (n := 132) E.1 dX8_shorten_131 rfl ?_
        refine q_iload (n := 134) (q := 4) E.1 hl rfl dX8_shorten_132 rfl ?_
        refine q_iadd (n := 135) E.1 dX8_shorten_134 rfl ?_
        refine q_iload_n (n := 136) (q := 2) E.1 hl rfl dX8_shorten_135 rfl rfl ?_
        refine q_isub (n := 137) E.1 dX8_shorten_136 rfl ?_
        refine q_aload_n (n := 138) (q := 0) E.1 hl rfl dX8_shorten_137 rfl rfl ?_
        refine q_get (n := 141) (k := 1) (fs := (fs62 X)) (v := .ref (xA X 64)) E hW (by decide) (fun _ => rfl) K8 (by decide) w716 rfl rfl dX8_shorten_138 rfl ?_
        refine q_iload (n := 143) (q := 4) E.1 hl rfl dX8_shorten_141 rfl ?_
        obtain ⟨g11, h⟩ := h
        refine q_iald (n := 144) E hW (by decide) (fun _ => rfl) (by decide) g11 dX8_shorten_143 rfl ?_
        obtain ⟨g12, h⟩ := h
        refine q_iast (n := 145) E hW (by decide) (fun _ => rfl) (by decide) g12 dX8_shorten_144 rfl (fun H locs hW => ?_)
        refine q_iinc (n := 148) (q := 4) [(4, .int (jI (x4 + 1))), (0, .ref (xA X 62)), (1, .int (jI a1)), (2, .int (jI a2)), (3, .int (jI x3))] E.1 hl rfl dX8_shorten_145 (by decide) rfl rfl (fun ls hl => ?_)
        refine q_goto (n := 90) E.1 dX8_shorten_148 (by decide) ?_
        exact ih _ _ _ _ _ _ h hW (lv_sub hl [1, 2, 3, 4, 0] rfl)
      · have h := h9 c10
        refine q_aload_n (n := 103) (q := 0) E.1 hl rfl dX8_shorten_102 rfl rfl ?_
        refine q_get (n := 106) (k := 7) (fs := (fs62 X)) (v := .ref (xA X 68)) E hW (by decide) (fun _ => rfl) K8 (by decide) w722 rfl rfl dX8_shorten_103 rfl ?_
        refine q_bipush (n := 108) E.1 dX8_shorten_106 (by decide) rfl ?_
        refine q_iload_n (n := 109) (q := 1) E.1 hl rfl dX8_shorten_108 rfl rfl ?_
        refine q_imul (n := 110) E.1 dX8_shorten_109 rfl ?_
        refine q_iload (n := 112) (q := 4) E.1 hl rfl dX8_shorten_110 rfl ?_
        refine q_iadd (n := 113) E.1 dX8_shorten_112 rfl ?_
        refine q_aload_n (n := 114) (q := 0) E.1 hl rfl dX8_shorten_113 rfl rfl ?_
        refine q_get (n := 117) (k := 1) (fs := (fs62 X)) (v := .ref (xA X 64)) E hW (by decide) (fun _ => rfl) K8 (by decide) w716 rfl rfl dX8_shorten_114 rfl ?_
        refine q_iload (n := 119) (q := 4) E.1 hl rfl dX8_shorten_117 rfl ?_
        obtain ⟨g13, h⟩ := h
        refine q_iald (n := 120) E hW (by decide) (fun _ => rfl) (by decide) g13 dX8_shorten_119 rfl ?_
        obtain ⟨g14, h⟩ := h
        refine q_iast (n := 121) E hW (by decide) (fun _ => rfl) (by decide) g14 dX8_shorten_120 rfl (fun H locs hW => ?_)
        refine q_goto (n := 145) E.1 dX8_shorten_121 (by decide) ?_
        refine q_iinc (n := 148) (q := 4) [(4, .int (jI (x4 + 1))), (0, .ref (xA X 62)), (1, .int (jI a1)), (2, .int (jI a2)), (3, .int (jI x3))] E.1 hl rfl dX8_shorten_145 (by decide) rfl rfl (fun ls hl => ?_)
        refine q_goto (n := 90) E.1 dX8_shorten_148 (by decide) ?_
        exact ih _ _ _ _ _ _ h hW (lv_sub hl [1, 2, 3, 4, 0] rfl)
def wp_X8_shorten_38 (a1 : Int) (a2 : Int) (Q : Int → Mem → Prop) (x3 : Int) (M : Mem) : Prop := wp_X8_isIn a2 1 6 M (fun r2 M1 => (Rg r2 ∧ (r2 = 0 → Q 0 M1) ∧ (¬ (r2 = 0) → (Rg x3 ∧ Rg a2 ∧ (x3 < a2 → Q 0 M1) ∧ (¬ (x3 < a2) → (Rg (x3 - a2) ∧ (6 < (x3 - a2) → Q 0 M1) ∧ (¬ (6 < (x3 - a2)) → wp_X8_areSigns x3 M1 (fun r17 M16 => (Rg r17 ∧ (r17 ≠ 0 → (0 ≤ a1 ∧ a1 < 6) ∧ (0 ≤ a1 ∧ a1 < 6) ∧ (∃ n : Nat, wp_X8_shorten_90 a1 a2 Q n x3 0 (up (up M16 66 a1.toNat a2) 67 a1.toNat (x3 - a2)))) ∧ (¬ (r17 ≠ 0) → Q 0 M16))))))))))
set_option maxHeartbeats 4000000 in
set_option maxRecDepth 100000 in
theorem v_X8_shorten_38 (a1 : Int) (a2 : Int) (E : En X (AW X) 3 p R s m args meth c cX8_shorten RX8 5 (some .boolean) 0 0) (Q : Int → Mem → Prop) : ∀ (x3 : Int) (M : Mem) (H : Heap) (locs : List Loc) (ls : Array Slot), wp_X8_shorten_38 a1 a2 Q x3 M → Wd X (AW X) s M H locs → lv_has ls 5 [(0, .ref (xA X 62)), (1, .int (jI a1)), (2, .int (jI a2)), (3, .int (jI x3))] → W p l e R s m args below meth c H locs 0 0 (MQ below (QI X Q) args s 0 0 (AW X)) (F0 m 38 ls []) := by
  intro x3 M H locs ls h hW hl
  unfold wp_X8_shorten_38 at h
  refine q_iload_n (n := 39) (q := 2) E.1 hl rfl dX8_shorten_38 rfl rfl ?_
  refine q_iconst (n := 40) E.1 dX8_shorten_39 rfl ?_
  refine q_bipush (n := 42) E.1 dX8_shorten_40 (by decide) rfl ?_
  refine q_callSi (n := 45) [.int (jI a2), .int (jI 1), .int (jI 6)] E hW hl.1 (c_X8_isIn l X E.2.2.1.1 a2 1 6  _ _ h) (by decide) Y_RX8_103 rfl (rest := []) rfl (Nat.le_of_ble_eq_true rfl) dX8_shorten_42 rfl (fun r2 M1 H locs h hW => ?_)
  obtain ⟨g3, h4, h5⟩ := h
  refine q_if_eq (t := 69) (n := 48) E.1 g3 dX8_shorten_45 (by decide) rfl (fun c6 => ?_) (fun c6 => ?_)
  · have h := h4 c6
    refine q_iconst (n := 70) E.1 dX8_shorten_69 rfl ?_
    exact q_zret E hW (Or.inl rfl) h dX8_shorten_70
  · have h := h5 c6
    refine q_iload_n (n := 49) (q := 3) E.1 hl rfl dX8_shorten_48 rfl rfl ?_
    refine q_iload_n (n := 50) (q := 2) E.1 hl rfl dX8_shorten_49 rfl rfl ?_
    obtain ⟨g7, g8, h9, h10⟩ := h
    refine q_icmp_lt (t := 69) (n := 53) E.1 g7 g8 dX8_shorten_50 (by decide) rfl (fun c11 => ?_) (fun c11 => ?_)
    · have h := h9 c11
      refine q_iconst (n := 70) E.1 dX8_shorten_69 rfl ?_
      exact q_zret E hW (Or.inl rfl) h dX8_shorten_70
    · have h := h10 c11
      refine q_iload_n (n := 54) (q := 3) E.1 hl rfl dX8_shorten_53 rfl rfl ?_
      refine q_iload_n (n := 55) (q := 2) E.1 hl rfl dX8_shorten_54 rfl rfl ?_
      refine q_isub (n := 56) E.1 dX8_shorten_55 rfl ?_
      refine q_bipush (n := 58) E.1 dX8_shorten_56 (by decide) rfl ?_
      obtain ⟨g12, h13, h14⟩ := h
      refine q_icmp_gt (t := 69) (n := 61) E.1 g12 (by decide) dX8_shorten_58 (by decide) rfl (fun c15 => ?_) (fun c15 => ?_)
      · have h := h13 c15
        refine q_iconst (n := 70) E.1 dX8_shorten_69 rfl ?_
        exact q_zret E hW (Or.inl rfl) h dX8_shorten_70
      · have h := h14 c15
        refine q_aload_n (n := 62) (q := 0) E.1 hl rfl dX8_shorten_61 rfl rfl ?_
        refine q_iload_n (n := 63) (q := 3) E.1 hl rfl dX8_shorten_62 rfl rfl ?_
        refine q_callVi (n := 66) (fs := (fs62 X)) [.int (jI x3)] E hW hl.1 (by decide) (fun _ => rfl) K8 (c_X8_areSigns l X E.2.2.1.1 x3  _ _ h) (by decide) Y_RX8_114 rfl (rest := []) rfl (Nat.le_of_ble_eq_true rfl) dX8_shorten_63 rfl (fun r17 M16 H locs h hW => ?_)
        obtain ⟨g18, h19, h20⟩ := h
        refine q_if_ne (t := 71) (n := 69) E.1 g18 dX8_shorten_66 (by decide) rfl (fun c21 => ?_) (fun c21 => ?_)
        · have h := h19 c21
          refine q_aload_n (n := 72) (q := 0) E.1 hl rfl dX8_shorten_71 rfl rfl ?_
          refine q_get (n := 75) (k := 5) (fs := (fs62 X)) (v := .ref (xA X 66)) E hW (by decide) (fun _ => rfl) K8 (by decide) w720 rfl rfl dX8_shorten_72 rfl ?_
          refine q_iload_n (n := 76) (q := 1) E.1 hl rfl dX8_shorten_75 rfl rfl ?_
          refine q_iload_n (n := 77) (q := 2) E.1 hl rfl dX8_shorten_76 rfl rfl ?_
          obtain ⟨g22, h⟩ := h
          refine q_iast (n := 78) E hW (by decide) (fun _ => rfl) (by decide) g22 dX8_shorten_77 rfl (fun H locs hW => ?_)
          refine q_aload_n (n := 79) (q := 0) E.1 hl rfl dX8_shorten_78 rfl rfl ?_
          refine q_get (n := 82) (k := 6) (fs := (fs62 X)) (v := .ref (xA X 67)) E hW (by decide) (fun _ => rfl) K8 (by decide) w721 rfl rfl dX8_shorten_79 rfl ?_
          refine q_iload_n (n := 83) (q := 1) E.1 hl rfl dX8_shorten_82 rfl rfl ?_
          refine q_iload_n (n := 84) (q := 3) E.1 hl rfl dX8_shorten_83 rfl rfl ?_
          refine q_iload_n (n := 85) (q := 2) E.1 hl rfl dX8_shorten_84 rfl rfl ?_
          refine q_isub (n := 86) E.1 dX8_shorten_85 rfl ?_
          obtain ⟨g23, h⟩ := h
          refine q_iast (n := 87) E hW (by decide) (fun _ => rfl) (by decide) g23 dX8_shorten_86 rfl (fun H locs hW => ?_)
          refine q_iconst (n := 88) E.1 dX8_shorten_87 rfl ?_
          refine q_istore (n := 90) [(4, .int (jI 0)), (0, .ref (xA X 62)), (1, .int (jI a1)), (2, .int (jI a2)), (3, .int (jI x3))] E.1 hl dX8_shorten_88 (by decide) rfl rfl (fun ls hl => ?_)
          obtain ⟨n24, h⟩ := h
          exact v_X8_shorten_90 a1 a2 E Q n24 _ _ _ _ _ _ h hW (lv_sub hl [1, 2, 3, 4, 0] rfl)
        · have h := h20 c21
          refine q_iconst (n := 70) E.1 dX8_shorten_69 rfl ?_
          exact q_zret E hW (Or.inl rfl) h dX8_shorten_70
def wp_X8_shorten (a1 : Int) (a2 : Int) (M : Mem) (Q : Int → Mem → Prop) : Prop := wp_X8_isIn a1 0 5 (up M 62 3 0) (fun r2 M1 => (Rg r2 ∧ (r2 ≠ 0 → (Rg a2 ∧ (a2 ≠ 0 → wp_X8_shorten_38 a1 a2 Q (M 62 3) M1) ∧ (¬ (a2 ≠ 0) → (Rg (M 62 3) ∧ ((M 62 3) ≠ 0 → wp_X8_shorten_38 a1 a2 Q (M 62 3) M1) ∧ (¬ ((M 62 3) ≠ 0) → (0 ≤ a1 ∧ a1 < 6) ∧ Q 1 (up M1 66 a1.toNat 0)))))) ∧ (¬ (r2 ≠ 0) → Q 0 M1)))
set_option maxHeartbeats 4000000 in
set_option maxRecDepth 100000 in
theorem c_X8_shorten (l : Launch) (X : Cx) (hI : Inj X) (a1 : Int) (a2 : Int) (M : Mem) (Q : Int → Mem → Prop) (h : wp_X8_shorten a1 a2 M Q) : MI X l yX8_shorten cX8_shorten 5 (some .boolean) 3 [.ref (xA X 62), .int (jI a1), .int (jI a2)] M Q := by
  refine MI.of hI (by decide) (Nat.le_of_ble_eq_true rfl) ?_
  intro p e R s m args below meth c ls E hW hl
  have E : En X (AW X) 3 p R s m args meth c cX8_shorten RX8 5 (some .boolean) 0 0 := E
  have hl : lv_has ls 5 [(0, .ref (xA X 62)), (1, .int (jI a1)), (2, .int (jI a2))] := hl
  unfold wp_X8_shorten at h
  refine q_aload_n (n := 1) (q := 0) E.1 hl rfl dX8_shorten_0 rfl rfl ?_
  refine q_get (n := 4) (k := 3) (fs := (fs62 X)) (v := .int (jI (M 62 3))) E hW (by decide) (fun _ => rfl) K8 (by decide) w718 rfl rfl dX8_shorten_1 rfl ?_
  refine q_istore_n (n := 5) [(3, .int (jI (M 62 3))), (0, .ref (xA X 62)), (1, .int (jI a1)), (2, .int (jI a2))] E.1 hl dX8_shorten_4 rfl (by decide) rfl rfl (fun ls hl => ?_)
  refine q_aload_n (n := 6) (q := 1) E.1 hl rfl dX8_shorten_5 rfl rfl ?_
  refine q_iconst (n := 7) E.1 dX8_shorten_6 rfl ?_
  refine q_put (n := 10) (k := 3) (fs := (fs62 X)) E hW (by decide) (fun _ => rfl) K8 (by decide) w718 rfl rfl ⟨rfl, rfl⟩ (Nat.le_of_ble_eq_true rfl) (fun _ => rfl) dX8_shorten_7 rfl (fun H locs hW => ?_)
  refine q_iload_n (n := 11) (q := 2) E.1 hl rfl dX8_shorten_10 rfl rfl ?_
  refine q_iconst (n := 12) E.1 dX8_shorten_11 rfl ?_
  refine q_iconst (n := 13) E.1 dX8_shorten_12 rfl ?_
  refine q_callSi (n := 16) [.int (jI a1), .int (jI 0), .int (jI 5)] E hW hl.1 (c_X8_isIn l X E.2.2.1.1 a1 0 5  _ _ h) (by decide) Y_RX8_103 rfl (rest := []) rfl (Nat.le_of_ble_eq_true rfl) dX8_shorten_13 rfl (fun r2 M1 H locs h hW => ?_)
  obtain ⟨g3, h4, h5⟩ := h
  refine q_if_ne (t := 21) (n := 19) E.1 g3 dX8_shorten_16 (by decide) rfl (fun c6 => ?_) (fun c6 => ?_)
  · have h := h4 c6
    refine q_iload_n (n := 22) (q := 3) E.1 hl rfl dX8_shorten_21 rfl rfl ?_
    obtain ⟨g7, h8, h9⟩ := h
    refine q_if_ne (t := 38) (n := 25) E.1 g7 dX8_shorten_22 (by decide) rfl (fun c10 => ?_) (fun c10 => ?_)
    · have h := h8 c10
      exact v_X8_shorten_38 a1 a2 E Q _ _ _ _ _ h hW (lv_sub hl [1, 2, 3, 0] rfl)
    · have h := h9 c10
      refine q_iload_n (n := 26) (q := 0) E.1 hl rfl dX8_shorten_25 rfl rfl ?_
      obtain ⟨g11, h12, h13⟩ := h
      refine q_if_ne (t := 38) (n := 29) E.1 g11 dX8_shorten_26 (by decide) rfl (fun c14 => ?_) (fun c14 => ?_)
      · have h := h12 c14
        exact v_X8_shorten_38 a1 a2 E Q _ _ _ _ _ h hW (lv_sub hl [1, 2, 3, 0] rfl)
      · have h := h13 c14
        refine q_aload_n (n := 30) (q := 1) E.1 hl rfl dX8_shorten_29 rfl rfl ?_
        refine q_get (n := 33) (k := 5) (fs := (fs62 X)) (v := .ref (xA X 66)) E hW (by decide) (fun _ => rfl) K8 (by decide) w720 rfl rfl dX8_shorten_30 rfl ?_
        refine q_iload_n (n := 34) (q := 2) E.1 hl rfl dX8_shorten_33 rfl rfl ?_
        refine q_iconst (n := 35) E.1 dX8_shorten_34 rfl ?_
        obtain ⟨g15, h⟩ := h
        refine q_iast (n := 36) E hW (by decide) (fun _ => rfl) (by decide) g15 dX8_shorten_35 rfl (fun H locs hW => ?_)
        refine q_iconst (n := 37) E.1 dX8_shorten_36 rfl ?_
        exact q_zret E hW (Or.inr rfl) h dX8_shorten_37
  · have h := h5 c6
    refine q_iconst (n := 20) E.1 dX8_shorten_19 rfl ?_
    exact q_zret E hW (Or.inl rfl) h dX8_shorten_20
/-! StickerPressModel.puts(I)Z -/
theorem dX8_puts_0 : decode cX8_puts 0 = .ok (.aload_n 0, 1) := by decide +kernel
theorem dX8_puts_1 : decode cX8_puts 1 = .ok (.getfield 117, 3) := by decide +kernel
theorem dX8_puts_4 : decode cX8_puts 4 = .ok (.bipush 60, 2) := by decide +kernel
theorem dX8_puts_6 : decode cX8_puts 6 = .ok (.if_icmp .ne 5, 3) := by decide +kernel
theorem dX8_puts_9 : decode cX8_puts 9 = .ok (.iconst 0, 1) := by decide +kernel
theorem dX8_puts_10 : decode cX8_puts 10 = .ok (.ireturn, 1) := by decide +kernel
theorem dX8_puts_11 : decode cX8_puts 11 = .ok (.aload_n 0, 1) := by decide +kernel
theorem dX8_puts_12 : decode cX8_puts 12 = .ok (.getfield 34, 3) := by decide +kernel
theorem dX8_puts_15 : decode cX8_puts 15 = .ok (.aload_n 0, 1) := by decide +kernel
theorem dX8_puts_16 : decode cX8_puts 16 = .ok (.getfield 117, 3) := by decide +kernel
theorem dX8_puts_19 : decode cX8_puts 19 = .ok (.iload_n 1, 1) := by decide +kernel
theorem dX8_puts_20 : decode cX8_puts 20 = .ok (.iastore, 1) := by decide +kernel
theorem dX8_puts_21 : decode cX8_puts 21 = .ok (.aload_n 0, 1) := by decide +kernel
theorem dX8_puts_22 : decode cX8_puts 22 = .ok (.dup, 1) := by decide +kernel
theorem dX8_puts_23 : decode cX8_puts 23 = .ok (.getfield 117, 3) := by decide +kernel
theorem dX8_puts_26 : decode cX8_puts 26 = .ok (.iconst 1, 1) := by decide +kernel
theorem dX8_puts_27 : decode cX8_puts 27 = .ok (.iadd, 1) := by decide +kernel
theorem dX8_puts_28 : decode cX8_puts 28 = .ok (.putfield 117, 3) := by decide +kernel
theorem dX8_puts_31 : decode cX8_puts 31 = .ok (.iconst 1, 1) := by decide +kernel
theorem dX8_puts_32 : decode cX8_puts 32 = .ok (.ireturn, 1) := by decide +kernel
def wp_X8_puts (a1 : Int) (M : Mem) (Q : Int → Mem → Prop) : Prop := (Rg (M 62 13) ∧ ((M 62 13) ≠ 60 → (0 ≤ (M 62 13) ∧ (M 62 13) < 61) ∧ Q 1 (up (up M 71 (M 62 13).toNat a1) 62 13 (((up M 71 (M 62 13).toNat a1) 62 13) + 1))) ∧ (¬ ((M 62 13) ≠ 60) → Q 0 M))
set_option maxHeartbeats 4000000 in
set_option maxRecDepth 100000 in
theorem c_X8_puts (l : Launch) (X : Cx) (hI : Inj X) (a1 : Int) (M : Mem) (Q : Int → Mem → Prop) (h : wp_X8_puts a1 M Q) : MI X l yX8_puts cX8_puts 2 (some .boolean) 0 [.ref (xA X 62), .int (jI a1)] M Q := by
  refine MI.of hI (by decide) (Nat.le_of_ble_eq_true rfl) ?_
  intro p e R s m args below meth c ls E hW hl
  have E : En X (AW X) 0 p R s m args meth c cX8_puts RX8 2 (some .boolean) 0 0 := E
  have hl : lv_has ls 2 [(0, .ref (xA X 62)), (1, .int (jI a1))] := hl
  unfold wp_X8_puts at h
  refine q_aload_n (n := 1) (q := 0) E.1 hl rfl dX8_puts_0 rfl rfl ?_
  refine q_get (n := 4) (k := 13) (fs := (fs62 X)) (v := .int (jI (M 62 13))) E hW (by decide) (fun _ => rfl) K8 (by decide) w728 rfl rfl dX8_puts_1 rfl ?_
  refine q_bipush (n := 6) E.1 dX8_puts_4 (by decide) rfl ?_
  obtain ⟨g1, h2, h3⟩ := h
  refine q_icmp_ne (t := 11) (n := 9) E.1 g1 (by decide) dX8_puts_6 (by decide) rfl (fun c4 => ?_) (fun c4 => ?_)
  · have h := h2 c4
    refine q_aload_n (n := 12) (q := 0) E.1 hl rfl dX8_puts_11 rfl rfl ?_
    refine q_get (n := 15) (k := 10) (fs := (fs62 X)) (v := .ref (xA X 71)) E hW (by decide) (fun _ => rfl) K8 (by decide) w725 rfl rfl dX8_puts_12 rfl ?_
    refine q_aload_n (n := 16) (q := 0) E.1 hl rfl dX8_puts_15 rfl rfl ?_
    refine q_get (n := 19) (k := 13) (fs := (fs62 X)) (v := .int (jI (M 62 13))) E hW (by decide) (fun _ => rfl) K8 (by decide) w728 rfl rfl dX8_puts_16 rfl ?_
    refine q_iload_n (n := 20) (q := 1) E.1 hl rfl dX8_puts_19 rfl rfl ?_
    obtain ⟨g5, h⟩ := h
    refine q_iast (n := 21) E hW (by decide) (fun _ => rfl) (by decide) g5 dX8_puts_20 rfl (fun H locs hW => ?_)
    refine q_aload_n (n := 22) (q := 0) E.1 hl rfl dX8_puts_21 rfl rfl ?_
    refine q_dup (n := 23) E.1 dX8_puts_22 rfl rfl ?_
    refine q_get (n := 26) (k := 13) (fs := (fs62 X)) (v := .int (jI ((up M 71 (M 62 13).toNat a1) 62 13))) E hW (by decide) (fun _ => rfl) K8 (by decide) w728 rfl rfl dX8_puts_23 rfl ?_
    refine q_iconst (n := 27) E.1 dX8_puts_26 rfl ?_
    refine q_iadd (n := 28) E.1 dX8_puts_27 rfl ?_
    refine q_put (n := 31) (k := 13) (fs := (fs62 X)) E hW (by decide) (fun _ => rfl) K8 (by decide) w728 rfl rfl ⟨rfl, rfl⟩ (Nat.le_of_ble_eq_true rfl) (fun _ => rfl) dX8_puts_28 rfl (fun H locs hW => ?_)
    refine q_iconst (n := 32) E.1 dX8_puts_31 rfl ?_
    exact q_zret E hW (Or.inr rfl) h dX8_puts_32
  · have h := h3 c4
    refine q_iconst (n := 10) E.1 dX8_puts_9 rfl ?_
    exact q_zret E hW (Or.inl rfl) h dX8_puts_10
/-! StickerPressModel.stands(II)Z -/
theorem dX8_stands_0 : decode cX8_stands 0 = .ok (.iload_n 2, 1) := by decide +kernel
theorem dX8_stands_1 : decode cX8_stands 1 = .ok (.aload_n 0, 1) := by decide +kernel
theorem dX8_stands_2 : decode cX8_stands 2 = .ok (.getfield 19, 3) := by decide +kernel
theorem dX8_stands_5 : decode cX8_stands 5 = .ok (.iload_n 1, 1) := by decide +kernel
theorem dX8_stands_6 : decode cX8_stands 6 = .ok (.iaload, 1) := by decide +kernel
theorem dX8_stands_7 : decode cX8_stands 7 = .ok (.iadd, 1) := by decide +kernel
theorem dX8_stands_8 : decode cX8_stands 8 = .ok (.aload_n 0, 1) := by decide +kernel
theorem dX8_stands_9 : decode cX8_stands 9 = .ok (.getfield 120, 3) := by decide +kernel
theorem dX8_stands_12 : decode cX8_stands 12 = .ok (.if_icmp .le 5, 3) := by decide +kernel
theorem dX8_stands_15 : decode cX8_stands 15 = .ok (.iconst 0, 1) := by decide +kernel
theorem dX8_stands_16 : decode cX8_stands 16 = .ok (.ireturn, 1) := by decide +kernel
theorem dX8_stands_17 : decode cX8_stands 17 = .ok (.iconst 1, 1) := by decide +kernel
theorem dX8_stands_18 : decode cX8_stands 18 = .ok (.istore_n 3, 1) := by decide +kernel
theorem dX8_stands_19 : decode cX8_stands 19 = .ok (.iconst 0, 1) := by decide +kernel
theorem dX8_stands_20 : decode cX8_stands 20 = .ok (.istore 4, 2) := by decide +kernel
theorem dX8_stands_22 : decode cX8_stands 22 = .ok (.iload 4, 2) := by decide +kernel
theorem dX8_stands_24 : decode cX8_stands 24 = .ok (.aload_n 0, 1) := by decide +kernel
theorem dX8_stands_25 : decode cX8_stands 25 = .ok (.getfield 19, 3) := by decide +kernel
theorem dX8_stands_28 : decode cX8_stands 28 = .ok (.iload_n 1, 1) := by decide +kernel
theorem dX8_stands_29 : decode cX8_stands 29 = .ok (.iaload, 1) := by decide +kernel
theorem dX8_stands_30 : decode cX8_stands 30 = .ok (.if_icmp .ge 43, 3) := by decide +kernel
theorem dX8_stands_33 : decode cX8_stands 33 = .ok (.iload_n 3, 1) := by decide +kernel
theorem dX8_stands_34 : decode cX8_stands 34 = .ok (.ifCond .eq 31, 3) := by decide +kernel
theorem dX8_stands_37 : decode cX8_stands 37 = .ok (.aload_n 0, 1) := by decide +kernel
theorem dX8_stands_38 : decode cX8_stands 38 = .ok (.getfield 31, 3) := by decide +kernel
theorem dX8_stands_41 : decode cX8_stands 41 = .ok (.iload_n 2, 1) := by decide +kernel
theorem dX8_stands_42 : decode cX8_stands 42 = .ok (.iload 4, 2) := by decide +kernel
theorem dX8_stands_44 : decode cX8_stands 44 = .ok (.iadd, 1) := by decide +kernel
theorem dX8_stands_45 : decode cX8_stands 45 = .ok (.iaload, 1) := by decide +kernel
theorem dX8_stands_46 : decode cX8_stands 46 = .ok (.aload_n 0, 1) := by decide +kernel
theorem dX8_stands_47 : decode cX8_stands 47 = .ok (.getfield 25, 3) := by decide +kernel
theorem dX8_stands_50 : decode cX8_stands 50 = .ok (.bipush 6, 2) := by decide +kernel
theorem dX8_stands_52 : decode cX8_stands 52 = .ok (.iload_n 1, 1) := by decide +kernel
theorem dX8_stands_53 : decode cX8_stands 53 = .ok (.imul, 1) := by decide +kernel
theorem dX8_stands_54 : decode cX8_stands 54 = .ok (.iload 4, 2) := by decide +kernel
theorem dX8_stands_56 : decode cX8_stands 56 = .ok (.iadd, 1) := by decide +kernel
theorem dX8_stands_57 : decode cX8_stands 57 = .ok (.iaload, 1) := by decide +kernel
theorem dX8_stands_58 : decode cX8_stands 58 = .ok (.if_icmp .ne 7, 3) := by decide +kernel
theorem dX8_stands_61 : decode cX8_stands 61 = .ok (.iconst 1, 1) := by decide +kernel
theorem dX8_stands_62 : decode cX8_stands 62 = .ok (.goto 4, 3) := by decide +kernel
theorem dX8_stands_65 : decode cX8_stands 65 = .ok (.iconst 0, 1) := by decide +kernel
theorem dX8_stands_66 : decode cX8_stands 66 = .ok (.istore_n 3, 1) := by decide +kernel
theorem dX8_stands_67 : decode cX8_stands 67 = .ok (.iinc 4 1, 3) := by decide +kernel
theorem dX8_stands_70 : decode cX8_stands 70 = .ok (.goto (-48), 3) := by decide +kernel
theorem dX8_stands_73 : decode cX8_stands 73 = .ok (.iload_n 3, 1) := by decide +kernel
theorem dX8_stands_74 : decode cX8_stands 74 = .ok (.ireturn, 1) := by decide +kernel
def wp_X8_stands_22 (a1 : Int) (a2 : Int) (Q : Int → Mem → Prop) : Nat → Int → Int → Mem → Prop
  | 0, _, _, _ => False
  | n + 1, x3, x4, M => (0 ≤ a1 ∧ a1 < 6) ∧ (Rg x4 ∧ Rg (M 66 a1.toNat) ∧ ((M 66 a1.toNat) ≤ x4 → ((x3 = 0 ∨ x3 = 1) ∧ Q x3 M)) ∧ (¬ ((M 66 a1.toNat) ≤ x4) → (Rg x3 ∧ (x3 = 0 → wp_X8_stands_22 a1 a2 Q n 0 (x4 + 1) M) ∧ (¬ (x3 = 0) → (0 ≤ (a2 + x4) ∧ (a2 + x4) < 61) ∧ (0 ≤ ((6 * a1) + x4) ∧ ((6 * a1) + x4) < 36) ∧ (Rg (M 70 (a2 + x4).toNat) ∧ Rg (M 68 ((6 * a1) + x4).toNat) ∧ ((M 70 (a2 + x4).toNat) ≠ (M 68 ((6 * a1) + x4).toNat) → wp_X8_stands_22 a1 a2 Q n 0 (x4 + 1) M) ∧ (¬ ((M 70 (a2 + x4).toNat) ≠ (M 68 ((6 * a1) + x4).toNat)) → wp_X8_stands_22 a1 a2 Q n 1 (x4 + 1) M))))))
set_option maxHeartbeats 4000000 in
set_option maxRecDepth 100000 in
theorem v_X8_stands_22 (a1 : Int) (a2 : Int) (E : En X (AW X) 0 p R s m args meth c cX8_stands RX8 5 (some .boolean) 0 0) (Q : Int → Mem → Prop) : ∀ n : Nat, ∀ (x3 x4 : Int) (M : Mem) (H : Heap) (locs : List Loc) (ls : Array Slot), wp_X8_stands_22 a1 a2 Q n x3 x4 M → Wd X (AW X) s M H locs → lv_has ls 5 [(0, .ref (xA X 62)), (1, .int (jI a1)), (2, .int (jI a2)), (3, .int (jI x3)), (4, .int (jI x4))] → W p l e R s m args below meth c H locs 0 0 (MQ below (QI X Q) args s 0 0 (AW X)) (F0 m 22 ls []) := by
  intro n
  induction n with
  | zero => intro x3 x4 M H locs ls h; exact absurd h (by simp [wp_X8_stands_22])
  | succ n ih =>
    intro x3 x4 M H locs ls h hW hl
    rw [wp_X8_stands_22] at h
    refine q_iload (n := 24) (q := 4) E.1 hl rfl dX8_stands_22 rfl ?_
    refine q_aload_n (n := 25) (q := 0) E.1 hl rfl dX8_stands_24 rfl rfl ?_
    refine q_get (n := 28) (k := 5) (fs := (fs62 X)) (v := .ref (xA X 66)) E hW (by decide) (fun _ => rfl) K8 (by decide) w720 rfl rfl dX8_stands_25 rfl ?_
    refine q_iload_n (n := 29) (q := 1) E.1 hl rfl dX8_stands_28 rfl rfl ?_
    obtain ⟨g1, h⟩ := h
    refine q_iald (n := 30) E hW (by decide) (fun _ => rfl) (by decide) g1 dX8_stands_29 rfl ?_
    obtain ⟨g2, g3, h4, h5⟩ := h
    refine q_icmp_ge (t := 73) (n := 33) E.1 g2 g3 dX8_stands_30 (by decide) rfl (fun c6 => ?_) (fun c6 => ?_)
    · have h := h4 c6
      refine q_iload_n (n := 74) (q := 3) E.1 hl rfl dX8_stands_73 rfl rfl ?_
      exact q_zret E hW h.1 h.2 dX8_stands_74
    · have h := h5 c6
      refine q_iload_n (n := 34) (q := 3) E.1 hl rfl dX8_stands_33 rfl rfl ?_
      obtain ⟨g8, h9, h10⟩ := h
      refine q_if_eq (t := 65) (n := 37) E.1 g8 dX8_stands_34 (by decide) rfl (fun c11 => ?_) (fun c11 => ?_)
      · have h := h9 c11
        refine q_iconst (n := 66) E.1 dX8_stands_65 rfl ?_
        refine q_istore_n (n := 67) [(3, .int (jI 0)), (0, .ref (xA X 62)), (1, .int (jI a1)), (2, .int (jI a2)), (4, .int (jI x4))] E.1 hl dX8_stands_66 rfl (by decide) rfl rfl (fun ls hl => ?_)
        refine q_iinc (n := 70) (q := 4) [(4, .int (jI (x4 + 1))), (3, .int (jI 0)), (0, .ref (xA X 62)), (1, .int (jI a1)), (2, .int (jI a2))] E.1 hl rfl dX8_stands_67 (by decide) rfl rfl (fun ls hl => ?_)
        refine q_goto (n := 22) E.1 dX8_stands_70 (by decide) ?_
        exact ih _ _ _ _ _ _ h hW (lv_sub hl [2, 3, 4, 1, 0] rfl)
      · have h := h10 c11
        refine q_aload_n (n := 38) (q := 0) E.1 hl rfl dX8_stands_37 rfl rfl ?_
        refine q_get (n := 41) (k := 9) (fs := (fs62 X)) (v := .ref (xA X 70)) E hW (by decide) (fun _ => rfl) K8 (by decide) w724 rfl rfl dX8_stands_38 rfl ?_
        refine q_iload_n (n := 42) (q := 2) E.1 hl rfl dX8_stands_41 rfl rfl ?_
        refine q_iload (n := 44) (q := 4) E.1 hl rfl dX8_stands_42 rfl ?_
        refine q_iadd (n := 45) E.1 dX8_stands_44 rfl ?_
        obtain ⟨g12, h⟩ := h
        refine q_iald (n := 46) E hW (by decide) (fun _ => rfl) (by decide) g12 dX8_stands_45 rfl ?_
        refine q_aload_n (n := 47) (q := 0) E.1 hl rfl dX8_stands_46 rfl rfl ?_
        refine q_get (n := 50) (k := 7) (fs := (fs62 X)) (v := .ref (xA X 68)) E hW (by decide) (fun _ => rfl) K8 (by decide) w722 rfl rfl dX8_stands_47 rfl ?_
        refine q_bipush (n := 52) E.1 dX8_stands_50 (by decide) rfl ?_
        refine q_iload_n (n := 53) (q := 1) E.1 hl rfl dX8_stands_52 rfl rfl ?_
        refine q_imul (n := 54) E.1 dX8_stands_53 rfl ?_
        refine q_iload (n := 56) (q := 4) E.1 hl rfl dX8_stands_54 rfl ?_
        refine q_iadd (n := 57) E.1 dX8_stands_56 rfl ?_
        obtain ⟨g13, h⟩ := h
        refine q_iald (n := 58) E hW (by decide) (fun _ => rfl) (by decide) g13 dX8_stands_57 rfl ?_
        obtain ⟨g14, g15, h16, h17⟩ := h
        refine q_icmp_ne (t := 65) (n := 61) E.1 g14 g15 dX8_stands_58 (by decide) rfl (fun c18 => ?_) (fun c18 => ?_)
        · have h := h16 c18
          refine q_iconst (n := 66) E.1 dX8_stands_65 rfl ?_
          refine q_istore_n (n := 67) [(3, .int (jI 0)), (0, .ref (xA X 62)), (1, .int (jI a1)), (2, .int (jI a2)), (4, .int (jI x4))] E.1 hl dX8_stands_66 rfl (by decide) rfl rfl (fun ls hl => ?_)
          refine q_iinc (n := 70) (q := 4) [(4, .int (jI (x4 + 1))), (3, .int (jI 0)), (0, .ref (xA X 62)), (1, .int (jI a1)), (2, .int (jI a2))] E.1 hl rfl dX8_stands_67 (by decide) rfl rfl (fun ls hl => ?_)
          refine q_goto (n := 22) E.1 dX8_stands_70 (by decide) ?_
          exact ih _ _ _ _ _ _ h hW (lv_sub hl [2, 3, 4, 1, 0] rfl)
        · have h := h17 c18
          refine q_iconst (n := 62) E.1 dX8_stands_61 rfl ?_
          refine q_goto (n := 66) E.1 dX8_stands_62 (by decide) ?_
          refine q_istore_n (n := 67) [(3, .int (jI 1)), (0, .ref (xA X 62)), (1, .int (jI a1)), (2, .int (jI a2)), (4, .int (jI x4))] E.1 hl dX8_stands_66 rfl (by decide) rfl rfl (fun ls hl => ?_)
          refine q_iinc (n := 70) (q := 4) [(4, .int (jI (x4 + 1))), (3, .int (jI 1)), (0, .ref (xA X 62)), (1, .int (jI a1)), (2, .int (jI a2))] E.1 hl rfl dX8_stands_67 (by decide) rfl rfl (fun ls hl => ?_)
          refine q_goto (n := 22) E.1 dX8_stands_70 (by decide) ?_
          exact ih _ _ _ _ _ _ h hW (lv_sub hl [2, 3, 4, 1, 0] rfl)
def wp_X8_stands (a1 : Int) (a2 : Int) (M : Mem) (Q : Int → Mem → Prop) : Prop := (0 ≤ a1 ∧ a1 < 6) ∧ (Rg (a2 + (M 66 a1.toNat)) ∧ Rg (M 62 12) ∧ ((a2 + (M 66 a1.toNat)) ≤ (M 62 12) → (∃ n : Nat, wp_X8_stands_22 a1 a2 Q n 1 0 M)) ∧ (¬ ((a2 + (M 66 a1.toNat)) ≤ (M 62 12)) → Q 0 M))
set_option maxHeartbeats 4000000 in
set_option maxRecDepth 100000 in
theorem c_X8_stands (l : Launch) (X : Cx) (hI : Inj X) (a1 : Int) (a2 : Int) (M : Mem) (Q : Int → Mem → Prop) (h : wp_X8_stands a1 a2 M Q) : MI X l yX8_stands cX8_stands 5 (some .boolean) 0 [.ref (xA X 62), .int (jI a1), .int (jI a2)] M Q := by
  refine MI.of hI (by decide) (Nat.le_of_ble_eq_true rfl) ?_
  intro p e R s m args below meth c ls E hW hl
  have E : En X (AW X) 0 p R s m args meth c cX8_stands RX8 5 (some .boolean) 0 0 := E
  have hl : lv_has ls 5 [(0, .ref (xA X 62)), (1, .int (jI a1)), (2, .int (jI a2))] := hl
  unfold wp_X8_stands at h
  refine q_iload_n (n := 1) (q := 2) E.1 hl rfl dX8_stands_0 rfl rfl ?_
  refine q_aload_n (n := 2) (q := 0) E.1 hl rfl dX8_stands_1 rfl rfl ?_
  refine q_get (n := 5) (k := 5) (fs := (fs62 X)) (v := .ref (xA X 66)) E hW (by decide) (fun _ => rfl) K8 (by decide) w720 rfl rfl dX8_stands_2 rfl ?_
  refine q_iload_n (n := 6) (q := 1) E.1 hl rfl dX8_stands_5 rfl rfl ?_
  obtain ⟨g1, h⟩ := h
  refine q_iald (n := 7) E hW (by decide) (fun _ => rfl) (by decide) g1 dX8_stands_6 rfl ?_
  refine q_iadd (n := 8) E.1 dX8_stands_7 rfl ?_
  refine q_aload_n (n := 9) (q := 0) E.1 hl rfl dX8_stands_8 rfl rfl ?_
  refine q_get (n := 12) (k := 12) (fs := (fs62 X)) (v := .int (jI (M 62 12))) E hW (by decide) (fun _ => rfl) K8 (by decide) w727 rfl rfl dX8_stands_9 rfl ?_
  obtain ⟨g2, g3, h4, h5⟩ := h
  refine q_icmp_le (t := 17) (n := 15) E.1 g2 g3 dX8_stands_12 (by decide) rfl (fun c6 => ?_) (fun c6 => ?_)
  · have h := h4 c6
    refine q_iconst (n := 18) E.1 dX8_stands_17 rfl ?_
    refine q_istore_n (n := 19) [(3, .int (jI 1)), (0, .ref (xA X 62)), (1, .int (jI a1)), (2, .int (jI a2))] E.1 hl dX8_stands_18 rfl (by decide) rfl rfl (fun ls hl => ?_)
    refine q_iconst (n := 20) E.1 dX8_stands_19 rfl ?_
    refine q_istore (n := 22) [(4, .int (jI 0)), (3, .int (jI 1)), (0, .ref (xA X 62)), (1, .int (jI a1)), (2, .int (jI a2))] E.1 hl dX8_stands_20 (by decide) rfl rfl (fun ls hl => ?_)
    obtain ⟨n7, h⟩ := h
    exact v_X8_stands_22 a1 a2 E Q n7 _ _ _ _ _ _ h hW (lv_sub hl [2, 3, 4, 1, 0] rfl)
  · have h := h5 c6
    refine q_iconst (n := 16) E.1 dX8_stands_15 rfl ?_
    exact q_zret E hW (Or.inl rfl) h dX8_stands_16
/-! StickerPressModel.goes(I)Z -/
theorem dX8_goes_0 : decode cX8_goes 0 = .ok (.aload_n 0, 1) := by decide +kernel
theorem dX8_goes_1 : decode cX8_goes 1 = .ok (.iconst 0, 1) := by decide +kernel
theorem dX8_goes_2 : decode cX8_goes 2 = .ok (.putfield 117, 3) := by decide +kernel
theorem dX8_goes_5 : decode cX8_goes 5 = .ok (.iconst 0, 1) := by decide +kernel
theorem dX8_goes_6 : decode cX8_goes 6 = .ok (.istore_n 2, 1) := by decide +kernel
theorem dX8_goes_7 : decode cX8_goes 7 = .ok (.iload_n 2, 1) := by decide +kernel
theorem dX8_goes_8 : decode cX8_goes 8 = .ok (.aload_n 0, 1) := by decide +kernel
theorem dX8_goes_9 : decode cX8_goes 9 = .ok (.getfield 120, 3) := by decide +kernel
theorem dX8_goes_12 : decode cX8_goes 12 = .ok (.if_icmp .ge 83, 3) := by decide +kernel
theorem dX8_goes_15 : decode cX8_goes 15 = .ok (.aload_n 0, 1) := by decide +kernel
theorem dX8_goes_16 : decode cX8_goes 16 = .ok (.iload_n 1, 1) := by decide +kernel
theorem dX8_goes_17 : decode cX8_goes 17 = .ok (.iload_n 2, 1) := by decide +kernel
theorem dX8_goes_18 : decode cX8_goes 18 = .ok (.invokevirtual 123, 3) := by decide +kernel
theorem dX8_goes_21 : decode cX8_goes 21 = .ok (.ifCond .eq 53, 3) := by decide +kernel
theorem dX8_goes_24 : decode cX8_goes 24 = .ok (.iconst 0, 1) := by decide +kernel
theorem dX8_goes_25 : decode cX8_goes 25 = .ok (.istore_n 3, 1) := by decide +kernel
theorem dX8_goes_26 : decode cX8_goes 26 = .ok (.iload_n 3, 1) := by decide +kernel
theorem dX8_goes_27 : decode cX8_goes 27 = .ok (.aload_n 0, 1) := by decide +kernel
theorem dX8_goes_28 : decode cX8_goes 28 = .ok (.getfield 22, 3) := by decide +kernel
theorem dX8_goes_31 : decode cX8_goes 31 = .ok (.iload_n 1, 1) := by decide +kernel
theorem dX8_goes_32 : decode cX8_goes 32 = .ok (.iaload, 1) := by decide +kernel
theorem dX8_goes_33 : decode cX8_goes 33 = .ok (.if_icmp .ge 29, 3) := by decide +kernel
theorem dX8_goes_36 : decode cX8_goes 36 = .ok (.aload_n 0, 1) := by decide +kernel
theorem dX8_goes_37 : decode cX8_goes 37 = .ok (.aload_n 0, 1) := by decide +kernel
theorem dX8_goes_38 : decode cX8_goes 38 = .ok (.getfield 28, 3) := by decide +kernel
theorem dX8_goes_41 : decode cX8_goes 41 = .ok (.bipush 6, 2) := by decide +kernel
theorem dX8_goes_43 : decode cX8_goes 43 = .ok (.iload_n 1, 1) := by decide +kernel
theorem dX8_goes_44 : decode cX8_goes 44 = .ok (.imul, 1) := by decide +kernel
theorem dX8_goes_45 : decode cX8_goes 45 = .ok (.iload_n 3, 1) := by decide +kernel
theorem dX8_goes_46 : decode cX8_goes 46 = .ok (.iadd, 1) := by decide +kernel
theorem dX8_goes_47 : decode cX8_goes 47 = .ok (.iaload, 1) := by decide +kernel
theorem dX8_goes_48 : decode cX8_goes 48 = .ok (.invokevirtual 127, 3) := by decide +kernel
theorem dX8_goes_51 : decode cX8_goes 51 = .ok (.ifCond .ne 5, 3) := by decide +kernel
theorem dX8_goes_54 : decode cX8_goes 54 = .ok (.iconst 0, 1) := by decide +kernel
theorem dX8_goes_55 : decode cX8_goes 55 = .ok (.ireturn, 1) := by decide +kernel
theorem dX8_goes_56 : decode cX8_goes 56 = .ok (.iinc 3 1, 3) := by decide +kernel
theorem dX8_goes_59 : decode cX8_goes 59 = .ok (.goto (-33), 3) := by decide +kernel
theorem dX8_goes_62 : decode cX8_goes 62 = .ok (.iload_n 2, 1) := by decide +kernel
theorem dX8_goes_63 : decode cX8_goes 63 = .ok (.aload_n 0, 1) := by decide +kernel
theorem dX8_goes_64 : decode cX8_goes 64 = .ok (.getfield 19, 3) := by decide +kernel
theorem dX8_goes_67 : decode cX8_goes 67 = .ok (.iload_n 1, 1) := by decide +kernel
theorem dX8_goes_68 : decode cX8_goes 68 = .ok (.iaload, 1) := by decide +kernel
theorem dX8_goes_69 : decode cX8_goes 69 = .ok (.iadd, 1) := by decide +kernel
theorem dX8_goes_70 : decode cX8_goes 70 = .ok (.istore_n 2, 1) := by decide +kernel
theorem dX8_goes_71 : decode cX8_goes 71 = .ok (.goto (-64), 3) := by decide +kernel
theorem dX8_goes_74 : decode cX8_goes 74 = .ok (.aload_n 0, 1) := by decide +kernel
theorem dX8_goes_75 : decode cX8_goes 75 = .ok (.aload_n 0, 1) := by decide +kernel
theorem dX8_goes_76 : decode cX8_goes 76 = .ok (.getfield 31, 3) := by decide +kernel
theorem dX8_goes_79 : decode cX8_goes 79 = .ok (.iload_n 2, 1) := by decide +kernel
theorem dX8_goes_80 : decode cX8_goes 80 = .ok (.iaload, 1) := by decide +kernel
theorem dX8_goes_81 : decode cX8_goes 81 = .ok (.invokevirtual 127, 3) := by decide +kernel
theorem dX8_goes_84 : decode cX8_goes 84 = .ok (.ifCond .ne 5, 3) := by decide +kernel
theorem dX8_goes_87 : decode cX8_goes 87 = .ok (.iconst 0, 1) := by decide +kernel
theorem dX8_goes_88 : decode cX8_goes 88 = .ok (.ireturn, 1) := by decide +kernel
theorem dX8_goes_89 : decode cX8_goes 89 = .ok (.iinc 2 1, 3) := by decide +kernel
theorem dX8_goes_92 : decode cX8_goes 92 = .ok (.goto (-85), 3) := by decide +kernel
theorem dX8_goes_95 : decode cX8_goes 95 = .ok (.iconst 0, 1) := by decide +kernel
theorem dX8_goes_96 : decode cX8_goes 96 = .ok (.istore_n 3, 1) := by decide +kernel
theorem dX8_goes_97 : decode cX8_goes 97 = .ok (.iload_n 3, 1) := by decide +kernel
theorem dX8_goes_98 : decode cX8_goes 98 = .ok (.aload_n 0, 1) := by decide +kernel
theorem dX8_goes_99 : decode cX8_goes 99 = .ok (.getfield 117, 3) := by decide +kernel
theorem dX8_goes_102 : decode cX8_goes 102 = .ok (.if_icmp .ge 21, 3) := by decide +kernel
theorem dX8_goes_105 : decode cX8_goes 105 = .ok (.aload_n 0, 1) := by decide +kernel
theorem dX8_goes_106 : decode cX8_goes 106 = .ok (.getfield 31, 3) := by decide +kernel
theorem dX8_goes_109 : decode cX8_goes 109 = .ok (.iload_n 3, 1) := by decide +kernel
theorem dX8_goes_110 : decode cX8_goes 110 = .ok (.aload_n 0, 1) := by decide +kernel
theorem dX8_goes_111 : decode cX8_goes 111 = .ok (.getfield 34, 3) := by decide +kernel
theorem dX8_goes_114 : decode cX8_goes 114 = .ok (.iload_n 3, 1) := by decide +kernel
theorem dX8_goes_115 : decode cX8_goes 115 = .ok (.iaload, 1) := by decide +kernel
theorem dX8_goes_116 : decode cX8_goes 116 = .ok (.iastore, 1) := by decide +kernel
theorem dX8_goes_117 : decode cX8_goes 117 = .ok (.iinc 3 1, 3) := by decide +kernel
theorem dX8_goes_120 : decode cX8_goes 120 = .ok (.goto (-23), 3) := by decide +kernel
theorem dX8_goes_123 : decode cX8_goes 123 = .ok (.aload_n 0, 1) := by decide +kernel
theorem dX8_goes_124 : decode cX8_goes 124 = .ok (.aload_n 0, 1) := by decide +kernel
theorem dX8_goes_125 : decode cX8_goes 125 = .ok (.getfield 117, 3) := by decide +kernel
theorem dX8_goes_128 : decode cX8_goes 128 = .ok (.putfield 120, 3) := by decide +kernel
theorem dX8_goes_131 : decode cX8_goes 131 = .ok (.iconst 1, 1) := by decide +kernel
theorem dX8_goes_132 : decode cX8_goes 132 = .ok (.ireturn, 1) := by decide +kernel
theorem Y_RX8_123 : YV RX8 123 RX8 yX8_stands cX8_stands 5 (some .boolean) 2 := ⟨w895, w892, w894, w27, w52, by decide +kernel, by decide⟩
theorem Y_RX8_127 : YV RX8 127 RX8 yX8_puts cX8_puts 2 (some .boolean) 1 := ⟨w899, w896, w898, w28, w52, by decide +kernel, by decide⟩
def wp_X8_goes_97 (a1 : Int) (Q : Int → Mem → Prop) : Nat → Int → Mem → Prop
  | 0, _, _ => False
  | n + 1, x3, M => (Rg x3 ∧ Rg (M 62 13) ∧ ((M 62 13) ≤ x3 → Q 1 (up M 62 12 (M 62 13))) ∧ (¬ ((M 62 13) ≤ x3) → (0 ≤ x3 ∧ x3 < 61) ∧ (0 ≤ x3 ∧ x3 < 61) ∧ wp_X8_goes_97 a1 Q n (x3 + 1) (up M 70 x3.toNat (M 71 x3.toNat))))
set_option maxHeartbeats 4000000 in
set_option maxRecDepth 100000 in
theorem v_X8_goes_97 (a1 : Int) (E : En X (AW X) 1 p R s m args meth c cX8_goes RX8 4 (some .boolean) 0 0) (Q : Int → Mem → Prop) : ∀ n : Nat, ∀ (x3 : Int) (M : Mem) (H : Heap) (locs : List Loc) (ls : Array Slot), wp_X8_goes_97 a1 Q n x3 M → Wd X (AW X) s M H locs → lv_has ls 4 [(0, .ref (xA X 62)), (3, .int (jI x3))] → W p l e R s m args below meth c H locs 0 0 (MQ below (QI X Q) args s 0 0 (AW X)) (F0 m 97 ls []) := by
  intro n
  induction n with
  | zero => intro x3 M H locs ls h; exact absurd h (by simp [wp_X8_goes_97])
  | succ n ih =>
    intro x3 M H locs ls h hW hl
    rw [wp_X8_goes_97] at h
    refine q_iload_n (n := 98) (q := 1) E.1 hl rfl dX8_goes_97 rfl rfl ?_
    refine q_aload_n (n := 99) (q := 0) E.1 hl rfl dX8_goes_98 rfl rfl ?_
    refine q_get (n := 102) (k := 13) (fs := (fs62 X)) (v := .int (jI (M 62 13))) E hW (by decide) (fun _ => rfl) K8 (by decide) w728 rfl rfl dX8_goes_99 rfl ?_
    obtain ⟨g1, g2, h3, h4⟩ := h
    refine q_icmp_ge (t := 123) (n := 105) E.1 g1 g2 dX8_goes_102 (by decide) rfl (fun c5 => ?_) (fun c5 => ?_)
    · have h := h3 c5
      refine q_aload_n (n := 124) (q := 0) E.1 hl rfl dX8_goes_123 rfl rfl ?_
      refine q_aload_n (n := 125) (q := 0) E.1 hl rfl dX8_goes_124 rfl rfl ?_
      refine q_get (n := 128) (k := 13) (fs := (fs62 X)) (v := .int (jI (M 62 13))) E hW (by decide) (fun _ => rfl) K8 (by decide) w728 rfl rfl dX8_goes_125 rfl ?_
      refine q_put (n := 131) (k := 12) (fs := (fs62 X)) E hW (by decide) (fun _ => rfl) K8 (by decide) w727 rfl rfl ⟨rfl, rfl⟩ (Nat.le_of_ble_eq_true rfl) (fun _ => rfl) dX8_goes_128 rfl (fun H locs hW => ?_)
      refine q_iconst (n := 132) E.1 dX8_goes_131 rfl ?_
      exact q_zret E hW (Or.inr rfl) h dX8_goes_132
    · have h := h4 c5
      refine q_aload_n (n := 106) (q := 0) E.1 hl rfl dX8_goes_105 rfl rfl ?_
      refine q_get (n := 109) (k := 9) (fs := (fs62 X)) (v := .ref (xA X 70)) E hW (by decide) (fun _ => rfl) K8 (by decide) w724 rfl rfl dX8_goes_106 rfl ?_
      refine q_iload_n (n := 110) (q := 1) E.1 hl rfl dX8_goes_109 rfl rfl ?_
      refine q_aload_n (n := 111) (q := 0) E.1 hl rfl dX8_goes_110 rfl rfl ?_
      refine q_get (n := 114) (k := 10) (fs := (fs62 X)) (v := .ref (xA X 71)) E hW (by decide) (fun _ => rfl) K8 (by decide) w725 rfl rfl dX8_goes_111 rfl ?_
      refine q_iload_n (n := 115) (q := 1) E.1 hl rfl dX8_goes_114 rfl rfl ?_
      obtain ⟨g6, h⟩ := h
      refine q_iald (n := 116) E hW (by decide) (fun _ => rfl) (by decide) g6 dX8_goes_115 rfl ?_
      obtain ⟨g7, h⟩ := h
      refine q_iast (n := 117) E hW (by decide) (fun _ => rfl) (by decide) g7 dX8_goes_116 rfl (fun H locs hW => ?_)
      refine q_iinc (n := 120) (q := 1) [(3, .int (jI (x3 + 1))), (0, .ref (xA X 62))] E.1 hl rfl dX8_goes_117 (by decide) rfl rfl (fun ls hl => ?_)
      refine q_goto (n := 97) E.1 dX8_goes_120 (by decide) ?_
      exact ih _ _ _ _ _ h hW (lv_sub hl [1, 0] rfl)
def wp_X8_goes_26 (a1 : Int) (k7 : Int → Mem → Prop) (Q : Int → Mem → Prop) : Nat → Int → Int → Mem → Prop
  | 0, _, _, _ => False
  | n + 1, x2, x3, M => (0 ≤ a1 ∧ a1 < 6) ∧ (Rg x3 ∧ Rg (M 67 a1.toNat) ∧ ((M 67 a1.toNat) ≤ x3 → (0 ≤ a1 ∧ a1 < 6) ∧ k7 (x2 + (M 66 a1.toNat)) M) ∧ (¬ ((M 67 a1.toNat) ≤ x3) → (0 ≤ ((6 * a1) + x3) ∧ ((6 * a1) + x3) < 36) ∧ wp_X8_puts (M 69 ((6 * a1) + x3).toNat) M (fun r10 M9 => (Rg r10 ∧ (r10 ≠ 0 → wp_X8_goes_26 a1 k7 Q n x2 (x3 + 1) M9) ∧ (¬ (r10 ≠ 0) → Q 0 M9)))))
set_option maxHeartbeats 4000000 in
set_option maxRecDepth 100000 in
theorem v_X8_goes_26 (a1 : Int) (E : En X (AW X) 1 p R s m args meth c cX8_goes RX8 4 (some .boolean) 0 0) (Q : Int → Mem → Prop) (k7 : Int → Mem → Prop) (Hk7 : ∀ (x2 : Int) (M : Mem) (H : Heap) (locs : List Loc) (ls : Array Slot), k7 x2 M → Wd X (AW X) s M H locs → lv_has ls 4 [(0, .ref (xA X 62)), (1, .int (jI a1)), (2, .int (jI x2))] → W p l e R s m args below meth c H locs 0 0 (MQ below (QI X Q) args s 0 0 (AW X)) (F0 m 7 ls [])) : ∀ n : Nat, ∀ (x2 x3 : Int) (M : Mem) (H : Heap) (locs : List Loc) (ls : Array Slot), wp_X8_goes_26 a1 k7 Q n x2 x3 M → Wd X (AW X) s M H locs → lv_has ls 4 [(0, .ref (xA X 62)), (1, .int (jI a1)), (2, .int (jI x2)), (3, .int (jI x3))] → W p l e R s m args below meth c H locs 0 0 (MQ below (QI X Q) args s 0 0 (AW X)) (F0 m 26 ls []) := by
  intro n
  induction n with
  | zero => intro x2 x3 M H locs ls h; exact absurd h (by simp [wp_X8_goes_26])
  | succ n ih =>
    intro x2 x3 M H locs ls h hW hl
    rw [wp_X8_goes_26] at h
    refine q_iload_n (n := 27) (q := 3) E.1 hl rfl dX8_goes_26 rfl rfl ?_
    refine q_aload_n (n := 28) (q := 0) E.1 hl rfl dX8_goes_27 rfl rfl ?_
    refine q_get (n := 31) (k := 6) (fs := (fs62 X)) (v := .ref (xA X 67)) E hW (by decide) (fun _ => rfl) K8 (by decide) w721 rfl rfl dX8_goes_28 rfl ?_
    refine q_iload_n (n := 32) (q := 1) E.1 hl rfl dX8_goes_31 rfl rfl ?_
    obtain ⟨g1, h⟩ := h
    refine q_iald (n := 33) E hW (by decide) (fun _ => rfl) (by decide) g1 dX8_goes_32 rfl ?_
    obtain ⟨g2, g3, h4, h5⟩ := h
    refine q_icmp_ge (t := 62) (n := 36) E.1 g2 g3 dX8_goes_33 (by decide) rfl (fun c6 => ?_) (fun c6 => ?_)
    · have h := h4 c6
      refine q_iload_n (n := 63) (q := 2) E.1 hl rfl dX8_goes_62 rfl rfl ?_
      refine q_aload_n (n := 64) (q := 0) E.1 hl rfl dX8_goes_63 rfl rfl ?_
      refine q_get (n := 67) (k := 5) (fs := (fs62 X)) (v := .ref (xA X 66)) E hW (by decide) (fun _ => rfl) K8 (by decide) w720 rfl rfl dX8_goes_64 rfl ?_
      refine q_iload_n (n := 68) (q := 1) E.1 hl rfl dX8_goes_67 rfl rfl ?_
      obtain ⟨g7, h⟩ := h
      refine q_iald (n := 69) E hW (by decide) (fun _ => rfl) (by decide) g7 dX8_goes_68 rfl ?_
      refine q_iadd (n := 70) E.1 dX8_goes_69 rfl ?_
      refine q_istore_n (n := 71) [(2, .int (jI (x2 + (M 66 a1.toNat)))), (0, .ref (xA X 62)), (1, .int (jI a1)), (3, .int (jI x3))] E.1 hl dX8_goes_70 rfl (by decide) rfl rfl (fun ls hl => ?_)
      refine q_goto (n := 7) E.1 dX8_goes_71 (by decide) ?_
      exact Hk7 _ _ _ _ _ h hW (lv_sub hl [1, 2, 0] rfl)
    · have h := h5 c6
      refine q_aload_n (n := 37) (q := 0) E.1 hl rfl dX8_goes_36 rfl rfl ?_
      refine q_aload_n (n := 38) (q := 0) E.1 hl rfl dX8_goes_37 rfl rfl ?_
      refine q_get (n := 41) (k := 8) (fs := (fs62 X)) (v := .ref (xA X 69)) E hW (by decide) (fun _ => rfl) K8 (by decide) w723 rfl rfl dX8_goes_38 rfl ?_
      refine q_bipush (n := 43) E.1 dX8_goes_41 (by decide) rfl ?_
      refine q_iload_n (n := 44) (q := 1) E.1 hl rfl dX8_goes_43 rfl rfl ?_
      refine q_imul (n := 45) E.1 dX8_goes_44 rfl ?_
      refine q_iload_n (n := 46) (q := 3) E.1 hl rfl dX8_goes_45 rfl rfl ?_
      refine q_iadd (n := 47) E.1 dX8_goes_46 rfl ?_
      obtain ⟨g8, h⟩ := h
      refine q_iald (n := 48) E hW (by decide) (fun _ => rfl) (by decide) g8 dX8_goes_47 rfl ?_
      refine q_callVi (n := 51) (fs := (fs62 X)) [.int (jI (M 69 ((6 * a1) + x3).toNat))] E hW hl.1 (by decide) (fun _ => rfl) K8 (c_X8_puts l X E.2.2.1.1 (M 69 ((6 * a1) + x3).toNat)  _ _ h) (by decide) Y_RX8_127 rfl (rest := []) rfl (Nat.le_of_ble_eq_true rfl) dX8_goes_48 rfl (fun r10 M9 H locs h hW => ?_)
      obtain ⟨g11, h12, h13⟩ := h
      refine q_if_ne (t := 56) (n := 54) E.1 g11 dX8_goes_51 (by decide) rfl (fun c14 => ?_) (fun c14 => ?_)
      · have h := h12 c14
        refine q_iinc (n := 59) (q := 3) [(3, .int (jI (x3 + 1))), (0, .ref (xA X 62)), (1, .int (jI a1)), (2, .int (jI x2))] E.1 hl rfl dX8_goes_56 (by decide) rfl rfl (fun ls hl => ?_)
        refine q_goto (n := 26) E.1 dX8_goes_59 (by decide) ?_
        exact ih _ _ _ _ _ _ h hW (lv_sub hl [1, 2, 3, 0] rfl)
      · have h := h13 c14
        refine q_iconst (n := 55) E.1 dX8_goes_54 rfl ?_
        exact q_zret E hW (Or.inl rfl) h dX8_goes_55
def wp_X8_goes_7 (a1 : Int) (Q : Int → Mem → Prop) : Nat → Int → Mem → Prop
  | 0, _, _ => False
  | n + 1, x2, M => (Rg x2 ∧ Rg (M 62 12) ∧ ((M 62 12) ≤ x2 → (∃ n2 : Nat, wp_X8_goes_97 a1 Q n2 0 M)) ∧ (¬ ((M 62 12) ≤ x2) → wp_X8_stands a1 x2 M (fun r8 M7 => (Rg r8 ∧ (r8 = 0 → (0 ≤ x2 ∧ x2 < 61) ∧ wp_X8_puts (M7 70 x2.toNat) M7 (fun r15 M14 => (Rg r15 ∧ (r15 ≠ 0 → wp_X8_goes_7 a1 Q n (x2 + 1) M14) ∧ (¬ (r15 ≠ 0) → Q 0 M14)))) ∧ (¬ (r8 = 0) → (∃ n2 : Nat, wp_X8_goes_26 a1 (fun x2 M => wp_X8_goes_7 a1 Q n x2 M) Q n2 x2 0 M7))))))
set_option maxHeartbeats 4000000 in
set_option maxRecDepth 100000 in
theorem v_X8_goes_7 (a1 : Int) (E : En X (AW X) 1 p R s m args meth c cX8_goes RX8 4 (some .boolean) 0 0) (Q : Int → Mem → Prop) : ∀ n : Nat, ∀ (x2 : Int) (M : Mem) (H : Heap) (locs : List Loc) (ls : Array Slot), wp_X8_goes_7 a1 Q n x2 M → Wd X (AW X) s M H locs → lv_has ls 4 [(0, .ref (xA X 62)), (1, .int (jI a1)), (2, .int (jI x2))] → W p l e R s m args below meth c H locs 0 0 (MQ below (QI X Q) args s 0 0 (AW X)) (F0 m 7 ls []) := by
  intro n
  induction n with
  | zero => intro x2 M H locs ls h; exact absurd h (by simp [wp_X8_goes_7])
  | succ n ih =>
    intro x2 M H locs ls h hW hl
    rw [wp_X8_goes_7] at h
    refine q_iload_n (n := 8) (q := 2) E.1 hl rfl dX8_goes_7 rfl rfl ?_
    refine q_aload_n (n := 9) (q := 0) E.1 hl rfl dX8_goes_8 rfl rfl ?_
    refine q_get (n := 12) (k := 12) (fs := (fs62 X)) (v := .int (jI (M 62 12))) E hW (by decide) (fun _ => rfl) K8 (by decide) w727 rfl rfl dX8_goes_9 rfl ?_
    obtain ⟨g1, g2, h3, h4⟩ := h
    refine q_icmp_ge (t := 95) (n := 15) E.1 g1 g2 dX8_goes_12 (by decide) rfl (fun c5 => ?_) (fun c5 => ?_)
    · have h := h3 c5
      refine q_iconst (n := 96) E.1 dX8_goes_95 rfl ?_
      refine q_istore_n (n := 97) [(3, .int (jI 0)), (0, .ref (xA X 62)), (1, .int (jI a1)), (2, .int (jI x2))] E.1 hl dX8_goes_96 rfl (by decide) rfl rfl (fun ls hl => ?_)
      obtain ⟨n6, h⟩ := h
      exact v_X8_goes_97 a1 E Q n6 _ _ _ _ _ h hW (lv_sub hl [1, 0] rfl)
    · have h := h4 c5
      refine q_aload_n (n := 16) (q := 0) E.1 hl rfl dX8_goes_15 rfl rfl ?_
      refine q_iload_n (n := 17) (q := 1) E.1 hl rfl dX8_goes_16 rfl rfl ?_
      refine q_iload_n (n := 18) (q := 2) E.1 hl rfl dX8_goes_17 rfl rfl ?_
      refine q_callVi (n := 21) (fs := (fs62 X)) [.int (jI a1), .int (jI x2)] E hW hl.1 (by decide) (fun _ => rfl) K8 (c_X8_stands l X E.2.2.1.1 a1 x2  _ _ h) (by decide) Y_RX8_123 rfl (rest := []) rfl (Nat.le_of_ble_eq_true rfl) dX8_goes_18 rfl (fun r8 M7 H locs h hW => ?_)
      obtain ⟨g9, h10, h11⟩ := h
      refine q_if_eq (t := 74) (n := 24) E.1 g9 dX8_goes_21 (by decide) rfl (fun c12 => ?_) (fun c12 => ?_)
      · have h := h10 c12
        refine q_aload_n (n := 75) (q := 0) E.1 hl rfl dX8_goes_74 rfl rfl ?_
        refine q_aload_n (n := 76) (q := 0) E.1 hl rfl dX8_goes_75 rfl rfl ?_
        refine q_get (n := 79) (k := 9) (fs := (fs62 X)) (v := .ref (xA X 70)) E hW (by decide) (fun _ => rfl) K8 (by decide) w724 rfl rfl dX8_goes_76 rfl ?_
        refine q_iload_n (n := 80) (q := 2) E.1 hl rfl dX8_goes_79 rfl rfl ?_
        obtain ⟨g13, h⟩ := h
        refine q_iald (n := 81) E hW (by decide) (fun _ => rfl) (by decide) g13 dX8_goes_80 rfl ?_
        refine q_callVi (n := 84) (fs := (fs62 X)) [.int (jI (M7 70 x2.toNat))] E hW hl.1 (by decide) (fun _ => rfl) K8 (c_X8_puts l X E.2.2.1.1 (M7 70 x2.toNat)  _ _ h) (by decide) Y_RX8_127 rfl (rest := []) rfl (Nat.le_of_ble_eq_true rfl) dX8_goes_81 rfl (fun r15 M14 H locs h hW => ?_)
        obtain ⟨g16, h17, h18⟩ := h
        refine q_if_ne (t := 89) (n := 87) E.1 g16 dX8_goes_84 (by decide) rfl (fun c19 => ?_) (fun c19 => ?_)
        · have h := h17 c19
          refine q_iinc (n := 92) (q := 2) [(2, .int (jI (x2 + 1))), (0, .ref (xA X 62)), (1, .int (jI a1))] E.1 hl rfl dX8_goes_89 (by decide) rfl rfl (fun ls hl => ?_)
          refine q_goto (n := 7) E.1 dX8_goes_92 (by decide) ?_
          exact ih _ _ _ _ _ h hW (lv_sub hl [1, 2, 0] rfl)
        · have h := h18 c19
          refine q_iconst (n := 88) E.1 dX8_goes_87 rfl ?_
          exact q_zret E hW (Or.inl rfl) h dX8_goes_88
      · have h := h11 c12
        refine q_iconst (n := 25) E.1 dX8_goes_24 rfl ?_
        refine q_istore_n (n := 26) [(3, .int (jI 0)), (0, .ref (xA X 62)), (1, .int (jI a1)), (2, .int (jI x2))] E.1 hl dX8_goes_25 rfl (by decide) rfl rfl (fun ls hl => ?_)
        obtain ⟨n20, h⟩ := h
        exact v_X8_goes_26 a1 E Q _ ih n20 _ _ _ _ _ _ h hW (lv_sub hl [1, 2, 3, 0] rfl)
def wp_X8_goes (a1 : Int) (M : Mem) (Q : Int → Mem → Prop) : Prop := (∃ n : Nat, wp_X8_goes_7 a1 Q n 0 (up M 62 13 0))
set_option maxHeartbeats 4000000 in
set_option maxRecDepth 100000 in
theorem c_X8_goes (l : Launch) (X : Cx) (hI : Inj X) (a1 : Int) (M : Mem) (Q : Int → Mem → Prop) (h : wp_X8_goes a1 M Q) : MI X l yX8_goes cX8_goes 4 (some .boolean) 1 [.ref (xA X 62), .int (jI a1)] M Q := by
  refine MI.of hI (by decide) (Nat.le_of_ble_eq_true rfl) ?_
  intro p e R s m args below meth c ls E hW hl
  have E : En X (AW X) 1 p R s m args meth c cX8_goes RX8 4 (some .boolean) 0 0 := E
  have hl : lv_has ls 4 [(0, .ref (xA X 62)), (1, .int (jI a1))] := hl
  unfold wp_X8_goes at h
  refine q_aload_n (n := 1) (q := 0) E.1 hl rfl dX8_goes_0 rfl rfl ?_
  refine q_iconst (n := 2) E.1 dX8_goes_1 rfl ?_
  refine q_put (n := 5) (k := 13) (fs := (fs62 X)) E hW (by decide) (fun _ => rfl) K8 (by decide) w728 rfl rfl ⟨rfl, rfl⟩ (Nat.le_of_ble_eq_true rfl) (fun _ => rfl) dX8_goes_2 rfl (fun H locs hW => ?_)
  refine q_iconst (n := 6) E.1 dX8_goes_5 rfl ?_
  refine q_istore_n (n := 7) [(2, .int (jI 0)), (0, .ref (xA X 62)), (1, .int (jI a1))] E.1 hl dX8_goes_6 rfl (by decide) rfl rfl (fun ls hl => ?_)
  obtain ⟨n1, h⟩ := h
  exact v_X8_goes_7 a1 E Q n1 _ _ _ _ _ h hW (lv_sub hl [1, 2, 0] rfl)
/-! StickerPressModel.bits(I)I -/
theorem dX8_bits_0 : decode cX8_bits 0 = .ok (.iconst 0, 1) := by decide +kernel
theorem dX8_bits_1 : decode cX8_bits 1 = .ok (.istore_n 1, 1) := by decide +kernel
theorem dX8_bits_2 : decode cX8_bits 2 = .ok (.iconst 0, 1) := by decide +kernel
theorem dX8_bits_3 : decode cX8_bits 3 = .ok (.istore_n 2, 1) := by decide +kernel
theorem dX8_bits_4 : decode cX8_bits 4 = .ok (.iload_n 2, 1) := by decide +kernel
theorem dX8_bits_5 : decode cX8_bits 5 = .ok (.bipush 6, 2) := by decide +kernel
theorem dX8_bits_7 : decode cX8_bits 7 = .ok (.if_icmp .ge 17, 3) := by decide +kernel
theorem dX8_bits_10 : decode cX8_bits 10 = .ok (.iload_n 1, 1) := by decide +kernel
theorem dX8_bits_11 : decode cX8_bits 11 = .ok (.iload_n 0, 1) := by decide +kernel
theorem dX8_bits_12 : decode cX8_bits 12 = .ok (.iload_n 2, 1) := by decide +kernel
theorem dX8_bits_13 : decode cX8_bits 13 = .ok (.ishr, 1) := by decide +kernel
theorem dX8_bits_14 : decode cX8_bits 14 = .ok (.iconst 1, 1) := by decide +kernel
theorem dX8_bits_15 : decode cX8_bits 15 = .ok (.iand, 1) := by decide +kernel
theorem dX8_bits_16 : decode cX8_bits 16 = .ok (.iadd, 1) := by decide +kernel
theorem dX8_bits_17 : decode cX8_bits 17 = .ok (.istore_n 1, 1) := by decide +kernel
theorem dX8_bits_18 : decode cX8_bits 18 = .ok (.iinc 2 1, 3) := by decide +kernel
theorem dX8_bits_21 : decode cX8_bits 21 = .ok (.goto (-17), 3) := by decide +kernel
theorem dX8_bits_24 : decode cX8_bits 24 = .ok (.iload_n 1, 1) := by decide +kernel
theorem dX8_bits_25 : decode cX8_bits 25 = .ok (.ireturn, 1) := by decide +kernel
def wp_X8_bits_4 (a0 : Int) (Q : Int → Mem → Prop) : Nat → Int → Int → Mem → Prop
  | 0, _, _, _ => False
  | n + 1, x1, x2, M => (Rg x2 ∧ (6 ≤ x2 → Q x1 M) ∧ (¬ (6 ≤ x2) → wp_X8_bits_4 a0 Q n (x1 + (bAnd (bShr a0 x2) 1)) (x2 + 1) M))
set_option maxHeartbeats 4000000 in
set_option maxRecDepth 100000 in
theorem v_X8_bits_4 (a0 : Int) (E : En X (AW X) 0 p R s m args meth c cX8_bits RX8 3 (some .int) 0 0) (Q : Int → Mem → Prop) : ∀ n : Nat, ∀ (x1 x2 : Int) (M : Mem) (H : Heap) (locs : List Loc) (ls : Array Slot), wp_X8_bits_4 a0 Q n x1 x2 M → Wd X (AW X) s M H locs → lv_has ls 3 [(0, .int (jI a0)), (1, .int (jI x1)), (2, .int (jI x2))] → W p l e R s m args below meth c H locs 0 0 (MQ below (QI X Q) args s 0 0 (AW X)) (F0 m 4 ls []) := by
  intro n
  induction n with
  | zero => intro x1 x2 M H locs ls h; exact absurd h (by simp [wp_X8_bits_4])
  | succ n ih =>
    intro x1 x2 M H locs ls h hW hl
    rw [wp_X8_bits_4] at h
    refine q_iload_n (n := 5) (q := 2) E.1 hl rfl dX8_bits_4 rfl rfl ?_
    refine q_bipush (n := 7) E.1 dX8_bits_5 (by decide) rfl ?_
    obtain ⟨g1, h2, h3⟩ := h
    refine q_icmp_ge (t := 24) (n := 10) E.1 g1 (by decide) dX8_bits_7 (by decide) rfl (fun c4 => ?_) (fun c4 => ?_)
    · have h := h2 c4
      refine q_iload_n (n := 25) (q := 1) E.1 hl rfl dX8_bits_24 rfl rfl ?_
      exact q_iret E hW h dX8_bits_25
    · have h := h3 c4
      refine q_iload_n (n := 11) (q := 1) E.1 hl rfl dX8_bits_10 rfl rfl ?_
      refine q_iload_n (n := 12) (q := 0) E.1 hl rfl dX8_bits_11 rfl rfl ?_
      refine q_iload_n (n := 13) (q := 2) E.1 hl rfl dX8_bits_12 rfl rfl ?_
      refine q_ishr (n := 14) E.1 dX8_bits_13 rfl ?_
      refine q_iconst (n := 15) E.1 dX8_bits_14 rfl ?_
      refine q_iand (n := 16) E.1 dX8_bits_15 rfl ?_
      refine q_iadd (n := 17) E.1 dX8_bits_16 rfl ?_
      refine q_istore_n (n := 18) [(1, .int (jI (x1 + (bAnd (bShr a0 x2) 1)))), (0, .int (jI a0)), (2, .int (jI x2))] E.1 hl dX8_bits_17 rfl (by decide) rfl rfl (fun ls hl => ?_)
      refine q_iinc (n := 21) (q := 2) [(2, .int (jI (x2 + 1))), (1, .int (jI (x1 + (bAnd (bShr a0 x2) 1)))), (0, .int (jI a0))] E.1 hl rfl dX8_bits_18 (by decide) rfl rfl (fun ls hl => ?_)
      refine q_goto (n := 4) E.1 dX8_bits_21 (by decide) ?_
      exact ih _ _ _ _ _ _ h hW (lv_sub hl [2, 1, 0] rfl)
def wp_X8_bits (a0 : Int) (M : Mem) (Q : Int → Mem → Prop) : Prop := (∃ n : Nat, wp_X8_bits_4 a0 Q n 0 0 M)
set_option maxHeartbeats 4000000 in
set_option maxRecDepth 100000 in
theorem c_X8_bits (l : Launch) (X : Cx) (hI : Inj X) (a0 : Int) (M : Mem) (Q : Int → Mem → Prop) (h : wp_X8_bits a0 M Q) : MI X l yX8_bits cX8_bits 3 (some .int) 0 [.int (jI a0)] M Q := by
  refine MI.of hI (by decide) (Nat.le_of_ble_eq_true rfl) ?_
  intro p e R s m args below meth c ls E hW hl
  have E : En X (AW X) 0 p R s m args meth c cX8_bits RX8 3 (some .int) 0 0 := E
  have hl : lv_has ls 3 [(0, .int (jI a0))] := hl
  unfold wp_X8_bits at h
  refine q_iconst (n := 1) E.1 dX8_bits_0 rfl ?_
  refine q_istore_n (n := 2) [(1, .int (jI 0)), (0, .int (jI a0))] E.1 hl dX8_bits_1 rfl (by decide) rfl rfl (fun ls hl => ?_)
  refine q_iconst (n := 3) E.1 dX8_bits_2 rfl ?_
  refine q_istore_n (n := 4) [(2, .int (jI 0)), (1, .int (jI 0)), (0, .int (jI a0))] E.1 hl dX8_bits_3 rfl (by decide) rfl rfl (fun ls hl => ?_)
  obtain ⟨n1, h⟩ := h
  exact v_X8_bits_4 a0 E Q n1 _ _ _ _ _ _ h hW (lv_sub hl [2, 1, 0] rfl)
/-! StickerPressModel.becomes(II)Z -/
theorem dX8_becomes_0 : decode cX8_becomes 0 = .ok (.aload_n 0, 1) := by decide +kernel
theorem dX8_becomes_1 : decode cX8_becomes 1 = .ok (.iload_n 2, 1) := by decide +kernel
theorem dX8_becomes_2 : decode cX8_becomes 2 = .ok (.putfield 120, 3) := by decide +kernel
theorem dX8_becomes_5 : decode cX8_becomes 5 = .ok (.iconst 0, 1) := by decide +kernel
theorem dX8_becomes_6 : decode cX8_becomes 6 = .ok (.istore_n 3, 1) := by decide +kernel
theorem dX8_becomes_7 : decode cX8_becomes 7 = .ok (.iload_n 3, 1) := by decide +kernel
theorem dX8_becomes_8 : decode cX8_becomes 8 = .ok (.iload_n 2, 1) := by decide +kernel
theorem dX8_becomes_9 : decode cX8_becomes 9 = .ok (.if_icmp .ge 21, 3) := by decide +kernel
theorem dX8_becomes_12 : decode cX8_becomes 12 = .ok (.aload_n 0, 1) := by decide +kernel
theorem dX8_becomes_13 : decode cX8_becomes 13 = .ok (.getfield 31, 3) := by decide +kernel
theorem dX8_becomes_16 : decode cX8_becomes 16 = .ok (.iload_n 3, 1) := by decide +kernel
theorem dX8_becomes_17 : decode cX8_becomes 17 = .ok (.aload_n 0, 1) := by decide +kernel
theorem dX8_becomes_18 : decode cX8_becomes 18 = .ok (.getfield 13, 3) := by decide +kernel
theorem dX8_becomes_21 : decode cX8_becomes 21 = .ok (.iload_n 3, 1) := by decide +kernel
theorem dX8_becomes_22 : decode cX8_becomes 22 = .ok (.iaload, 1) := by decide +kernel
theorem dX8_becomes_23 : decode cX8_becomes 23 = .ok (.iastore, 1) := by decide +kernel
theorem dX8_becomes_24 : decode cX8_becomes 24 = .ok (.iinc 3 1, 3) := by decide +kernel
theorem dX8_becomes_27 : decode cX8_becomes 27 = .ok (.goto (-20), 3) := by decide +kernel
theorem dX8_becomes_30 : decode cX8_becomes 30 = .ok (.iconst 0, 1) := by decide +kernel
theorem dX8_becomes_31 : decode cX8_becomes 31 = .ok (.istore_n 3, 1) := by decide +kernel
theorem dX8_becomes_32 : decode cX8_becomes 32 = .ok (.iload_n 3, 1) := by decide +kernel
theorem dX8_becomes_33 : decode cX8_becomes 33 = .ok (.bipush 6, 2) := by decide +kernel
theorem dX8_becomes_35 : decode cX8_becomes 35 = .ok (.if_icmp .ge 37, 3) := by decide +kernel
theorem dX8_becomes_38 : decode cX8_becomes 38 = .ok (.iload_n 1, 1) := by decide +kernel
theorem dX8_becomes_39 : decode cX8_becomes 39 = .ok (.iload_n 3, 1) := by decide +kernel
theorem dX8_becomes_40 : decode cX8_becomes 40 = .ok (.ishr, 1) := by decide +kernel
theorem dX8_becomes_41 : decode cX8_becomes 41 = .ok (.iconst 1, 1) := by decide +kernel
theorem dX8_becomes_42 : decode cX8_becomes 42 = .ok (.iand, 1) := by decide +kernel
theorem dX8_becomes_43 : decode cX8_becomes 43 = .ok (.iconst 1, 1) := by decide +kernel
theorem dX8_becomes_44 : decode cX8_becomes 44 = .ok (.if_icmp .ne 22, 3) := by decide +kernel
theorem dX8_becomes_47 : decode cX8_becomes 47 = .ok (.aload_n 0, 1) := by decide +kernel
theorem dX8_becomes_48 : decode cX8_becomes 48 = .ok (.getfield 19, 3) := by decide +kernel
theorem dX8_becomes_51 : decode cX8_becomes 51 = .ok (.iload_n 3, 1) := by decide +kernel
theorem dX8_becomes_52 : decode cX8_becomes 52 = .ok (.iaload, 1) := by decide +kernel
theorem dX8_becomes_53 : decode cX8_becomes 53 = .ok (.ifCond .eq 11, 3) := by decide +kernel
theorem dX8_becomes_56 : decode cX8_becomes 56 = .ok (.aload_n 0, 1) := by decide +kernel
theorem dX8_becomes_57 : decode cX8_becomes 57 = .ok (.iload_n 3, 1) := by decide +kernel
theorem dX8_becomes_58 : decode cX8_becomes 58 = .ok (.invokevirtual 130, 3) := by decide +kernel
theorem dX8_becomes_61 : decode cX8_becomes 61 = .ok (.ifCond .ne 5, 3) := by decide +kernel
theorem dX8_becomes_64 : decode cX8_becomes 64 = .ok (.iconst 0, 1) := by decide +kernel
theorem dX8_becomes_65 : decode cX8_becomes 65 = .ok (.ireturn, 1) := by decide +kernel
theorem dX8_becomes_66 : decode cX8_becomes 66 = .ok (.iinc 3 1, 3) := by decide +kernel
theorem dX8_becomes_69 : decode cX8_becomes 69 = .ok (.goto (-37), 3) := by decide +kernel
theorem dX8_becomes_72 : decode cX8_becomes 72 = .ok (.iconst 1, 1) := by decide +kernel
theorem dX8_becomes_73 : decode cX8_becomes 73 = .ok (.ireturn, 1) := by decide +kernel
theorem Y_RX8_130 : YV RX8 130 RX8 yX8_goes cX8_goes 4 (some .boolean) 1 := ⟨w891, w888, w890, w26, w52, by decide +kernel, by decide⟩
def wp_X8_becomes_32 (a1 : Int) (a2 : Int) (Q : Int → Mem → Prop) : Nat → Int → Mem → Prop
  | 0, _, _ => False
  | n + 1, x3, M => (Rg x3 ∧ (6 ≤ x3 → Q 1 M) ∧ (¬ (6 ≤ x3) → (Rg (bAnd (bShr a1 x3) 1) ∧ ((bAnd (bShr a1 x3) 1) ≠ 1 → wp_X8_becomes_32 a1 a2 Q n (x3 + 1) M) ∧ (¬ ((bAnd (bShr a1 x3) 1) ≠ 1) → (0 ≤ x3 ∧ x3 < 6) ∧ (Rg (M 66 x3.toNat) ∧ ((M 66 x3.toNat) = 0 → Q 0 M) ∧ (¬ ((M 66 x3.toNat) = 0) → wp_X8_goes x3 M (fun r15 M14 => (Rg r15 ∧ (r15 ≠ 0 → wp_X8_becomes_32 a1 a2 Q n (x3 + 1) M14) ∧ (¬ (r15 ≠ 0) → Q 0 M14)))))))))
set_option maxHeartbeats 4000000 in
set_option maxRecDepth 100000 in
theorem v_X8_becomes_32 (a1 : Int) (a2 : Int) (E : En X (AW X) 2 p R s m args meth c cX8_becomes RX8 4 (some .boolean) 0 0) (Q : Int → Mem → Prop) : ∀ n : Nat, ∀ (x3 : Int) (M : Mem) (H : Heap) (locs : List Loc) (ls : Array Slot), wp_X8_becomes_32 a1 a2 Q n x3 M → Wd X (AW X) s M H locs → lv_has ls 4 [(0, .ref (xA X 62)), (1, .int (jI a1)), (3, .int (jI x3))] → W p l e R s m args below meth c H locs 0 0 (MQ below (QI X Q) args s 0 0 (AW X)) (F0 m 32 ls []) := by
  intro n
  induction n with
  | zero => intro x3 M H locs ls h; exact absurd h (by simp [wp_X8_becomes_32])
  | succ n ih =>
    intro x3 M H locs ls h hW hl
    rw [wp_X8_becomes_32] at h
    refine q_iload_n (n := 33) (q := 2) E.1 hl rfl dX8_becomes_32 rfl rfl ?_
    refine q_bipush (n := 35) E.1 dX8_becomes_33 (by decide) rfl ?_
    obtain ⟨g1, h2, h3⟩ := h
    refine q_icmp_ge (t := 72) (n := 38) E.1 g1 (by decide) dX8_becomes_35 (by decide) rfl (fun c4 => ?_) (fun c4 => ?_)
    · have h := h2 c4
      refine q_iconst (n := 73) E.1 dX8_becomes_72 rfl ?_
      exact q_zret E hW (Or.inr rfl) h dX8_becomes_73
    · have h := h3 c4
      refine q_iload_n (n := 39) (q := 1) E.1 hl rfl dX8_becomes_38 rfl rfl ?_
      refine q_iload_n (n := 40) (q := 2) E.1 hl rfl dX8_becomes_39 rfl rfl ?_
      refine q_ishr (n := 41) E.1 dX8_becomes_40 rfl ?_
      refine q_iconst (n := 42) E.1 dX8_becomes_41 rfl ?_
      refine q_iand (n := 43) E.1 dX8_becomes_42 rfl ?_
      refine q_iconst (n := 44) E.1 dX8_becomes_43 rfl ?_
      obtain ⟨g5, h6, h7⟩ := h
      refine q_icmp_ne (t := 66) (n := 47) E.1 g5 (by decide) dX8_becomes_44 (by decide) rfl (fun c8 => ?_) (fun c8 => ?_)
      · have h := h6 c8
        refine q_iinc (n := 69) (q := 2) [(3, .int (jI (x3 + 1))), (0, .ref (xA X 62)), (1, .int (jI a1))] E.1 hl rfl dX8_becomes_66 (by decide) rfl rfl (fun ls hl => ?_)
        refine q_goto (n := 32) E.1 dX8_becomes_69 (by decide) ?_
        exact ih _ _ _ _ _ h hW (lv_sub hl [1, 2, 0] rfl)
      · have h := h7 c8
        refine q_aload_n (n := 48) (q := 0) E.1 hl rfl dX8_becomes_47 rfl rfl ?_
        refine q_get (n := 51) (k := 5) (fs := (fs62 X)) (v := .ref (xA X 66)) E hW (by decide) (fun _ => rfl) K8 (by decide) w720 rfl rfl dX8_becomes_48 rfl ?_
        refine q_iload_n (n := 52) (q := 2) E.1 hl rfl dX8_becomes_51 rfl rfl ?_
        obtain ⟨g9, h⟩ := h
        refine q_iald (n := 53) E hW (by decide) (fun _ => rfl) (by decide) g9 dX8_becomes_52 rfl ?_
        obtain ⟨g10, h11, h12⟩ := h
        refine q_if_eq (t := 64) (n := 56) E.1 g10 dX8_becomes_53 (by decide) rfl (fun c13 => ?_) (fun c13 => ?_)
        · have h := h11 c13
          refine q_iconst (n := 65) E.1 dX8_becomes_64 rfl ?_
          exact q_zret E hW (Or.inl rfl) h dX8_becomes_65
        · have h := h12 c13
          refine q_aload_n (n := 57) (q := 0) E.1 hl rfl dX8_becomes_56 rfl rfl ?_
          refine q_iload_n (n := 58) (q := 2) E.1 hl rfl dX8_becomes_57 rfl rfl ?_
          refine q_callVi (n := 61) (fs := (fs62 X)) [.int (jI x3)] E hW hl.1 (by decide) (fun _ => rfl) K8 (c_X8_goes l X E.2.2.1.1 x3  _ _ h) (by decide) Y_RX8_130 rfl (rest := []) rfl (Nat.le_of_ble_eq_true rfl) dX8_becomes_58 rfl (fun r15 M14 H locs h hW => ?_)
          obtain ⟨g16, h17, h18⟩ := h
          refine q_if_ne (t := 66) (n := 64) E.1 g16 dX8_becomes_61 (by decide) rfl (fun c19 => ?_) (fun c19 => ?_)
          · have h := h17 c19
            refine q_iinc (n := 69) (q := 2) [(3, .int (jI (x3 + 1))), (0, .ref (xA X 62)), (1, .int (jI a1))] E.1 hl rfl dX8_becomes_66 (by decide) rfl rfl (fun ls hl => ?_)
            refine q_goto (n := 32) E.1 dX8_becomes_69 (by decide) ?_
            exact ih _ _ _ _ _ h hW (lv_sub hl [1, 2, 0] rfl)
          · have h := h18 c19
            refine q_iconst (n := 65) E.1 dX8_becomes_64 rfl ?_
            exact q_zret E hW (Or.inl rfl) h dX8_becomes_65
def wp_X8_becomes_7 (a1 : Int) (a2 : Int) (Q : Int → Mem → Prop) : Nat → Int → Mem → Prop
  | 0, _, _ => False
  | n + 1, x3, M => (Rg x3 ∧ Rg a2 ∧ (a2 ≤ x3 → (∃ n2 : Nat, wp_X8_becomes_32 a1 a2 Q n2 0 M)) ∧ (¬ (a2 ≤ x3) → (0 ≤ x3 ∧ x3 < 200) ∧ (0 ≤ x3 ∧ x3 < 61) ∧ wp_X8_becomes_7 a1 a2 Q n (x3 + 1) (up M 70 x3.toNat (M 64 x3.toNat))))
set_option maxHeartbeats 4000000 in
set_option maxRecDepth 100000 in
theorem v_X8_becomes_7 (a1 : Int) (a2 : Int) (E : En X (AW X) 2 p R s m args meth c cX8_becomes RX8 4 (some .boolean) 0 0) (Q : Int → Mem → Prop) : ∀ n : Nat, ∀ (x3 : Int) (M : Mem) (H : Heap) (locs : List Loc) (ls : Array Slot), wp_X8_becomes_7 a1 a2 Q n x3 M → Wd X (AW X) s M H locs → lv_has ls 4 [(0, .ref (xA X 62)), (1, .int (jI a1)), (2, .int (jI a2)), (3, .int (jI x3))] → W p l e R s m args below meth c H locs 0 0 (MQ below (QI X Q) args s 0 0 (AW X)) (F0 m 7 ls []) := by
  intro n
  induction n with
  | zero => intro x3 M H locs ls h; exact absurd h (by simp [wp_X8_becomes_7])
  | succ n ih =>
    intro x3 M H locs ls h hW hl
    rw [wp_X8_becomes_7] at h
    refine q_iload_n (n := 8) (q := 3) E.1 hl rfl dX8_becomes_7 rfl rfl ?_
    refine q_iload_n (n := 9) (q := 2) E.1 hl rfl dX8_becomes_8 rfl rfl ?_
    obtain ⟨g1, g2, h3, h4⟩ := h
    refine q_icmp_ge (t := 30) (n := 12) E.1 g1 g2 dX8_becomes_9 (by decide) rfl (fun c5 => ?_) (fun c5 => ?_)
    · have h := h3 c5
      refine q_iconst (n := 31) E.1 dX8_becomes_30 rfl ?_
      refine q_istore_n (n := 32) [(3, .int (jI 0)), (0, .ref (xA X 62)), (1, .int (jI a1)), (2, .int (jI a2))] E.1 hl dX8_becomes_31 rfl (by decide) rfl rfl (fun ls hl => ?_)
      obtain ⟨n6, h⟩ := h
      exact v_X8_becomes_32 a1 a2 E Q n6 _ _ _ _ _ h hW (lv_sub hl [1, 2, 0] rfl)
    · have h := h4 c5
      refine q_aload_n (n := 13) (q := 0) E.1 hl rfl dX8_becomes_12 rfl rfl ?_
      refine q_get (n := 16) (k := 9) (fs := (fs62 X)) (v := .ref (xA X 70)) E hW (by decide) (fun _ => rfl) K8 (by decide) w724 rfl rfl dX8_becomes_13 rfl ?_
      refine q_iload_n (n := 17) (q := 3) E.1 hl rfl dX8_becomes_16 rfl rfl ?_
      refine q_aload_n (n := 18) (q := 0) E.1 hl rfl dX8_becomes_17 rfl rfl ?_
      refine q_get (n := 21) (k := 1) (fs := (fs62 X)) (v := .ref (xA X 64)) E hW (by decide) (fun _ => rfl) K8 (by decide) w716 rfl rfl dX8_becomes_18 rfl ?_
      refine q_iload_n (n := 22) (q := 3) E.1 hl rfl dX8_becomes_21 rfl rfl ?_
      obtain ⟨g7, h⟩ := h
      refine q_iald (n := 23) E hW (by decide) (fun _ => rfl) (by decide) g7 dX8_becomes_22 rfl ?_
      obtain ⟨g8, h⟩ := h
      refine q_iast (n := 24) E hW (by decide) (fun _ => rfl) (by decide) g8 dX8_becomes_23 rfl (fun H locs hW => ?_)
      refine q_iinc (n := 27) (q := 3) [(3, .int (jI (x3 + 1))), (0, .ref (xA X 62)), (1, .int (jI a1)), (2, .int (jI a2))] E.1 hl rfl dX8_becomes_24 (by decide) rfl rfl (fun ls hl => ?_)
      refine q_goto (n := 7) E.1 dX8_becomes_27 (by decide) ?_
      exact ih _ _ _ _ _ h hW (lv_sub hl [1, 2, 3, 0] rfl)
def wp_X8_becomes (a1 : Int) (a2 : Int) (M : Mem) (Q : Int → Mem → Prop) : Prop := (∃ n : Nat, wp_X8_becomes_7 a1 a2 Q n 0 (up M 62 12 a2))
set_option maxHeartbeats 4000000 in
set_option maxRecDepth 100000 in
theorem c_X8_becomes (l : Launch) (X : Cx) (hI : Inj X) (a1 : Int) (a2 : Int) (M : Mem) (Q : Int → Mem → Prop) (h : wp_X8_becomes a1 a2 M Q) : MI X l yX8_becomes cX8_becomes 4 (some .boolean) 2 [.ref (xA X 62), .int (jI a1), .int (jI a2)] M Q := by
  refine MI.of hI (by decide) (Nat.le_of_ble_eq_true rfl) ?_
  intro p e R s m args below meth c ls E hW hl
  have E : En X (AW X) 2 p R s m args meth c cX8_becomes RX8 4 (some .boolean) 0 0 := E
  have hl : lv_has ls 4 [(0, .ref (xA X 62)), (1, .int (jI a1)), (2, .int (jI a2))] := hl
  unfold wp_X8_becomes at h
  refine q_aload_n (n := 1) (q := 0) E.1 hl rfl dX8_becomes_0 rfl rfl ?_
  refine q_iload_n (n := 2) (q := 2) E.1 hl rfl dX8_becomes_1 rfl rfl ?_
  refine q_put (n := 5) (k := 12) (fs := (fs62 X)) E hW (by decide) (fun _ => rfl) K8 (by decide) w727 rfl rfl ⟨rfl, rfl⟩ (Nat.le_of_ble_eq_true rfl) (fun _ => rfl) dX8_becomes_2 rfl (fun H locs hW => ?_)
  refine q_iconst (n := 6) E.1 dX8_becomes_5 rfl ?_
  refine q_istore_n (n := 7) [(3, .int (jI 0)), (0, .ref (xA X 62)), (1, .int (jI a1)), (2, .int (jI a2))] E.1 hl dX8_becomes_6 rfl (by decide) rfl rfl (fun ls hl => ?_)
  obtain ⟨n1, h⟩ := h
  exact v_X8_becomes_7 a1 a2 E Q n1 _ _ _ _ _ h hW (lv_sub hl [1, 2, 3, 0] rfl)
/-! StickerPressModel.wideOf()I -/
theorem dX8_wideOf_0 : decode cX8_wideOf 0 = .ok (.iconst 0, 1) := by decide +kernel
theorem dX8_wideOf_1 : decode cX8_wideOf 1 = .ok (.istore_n 1, 1) := by decide +kernel
theorem dX8_wideOf_2 : decode cX8_wideOf 2 = .ok (.iconst 0, 1) := by decide +kernel
theorem dX8_wideOf_3 : decode cX8_wideOf 3 = .ok (.istore_n 2, 1) := by decide +kernel
theorem dX8_wideOf_4 : decode cX8_wideOf 4 = .ok (.iload_n 2, 1) := by decide +kernel
theorem dX8_wideOf_5 : decode cX8_wideOf 5 = .ok (.aload_n 0, 1) := by decide +kernel
theorem dX8_wideOf_6 : decode cX8_wideOf 6 = .ok (.getfield 120, 3) := by decide +kernel
theorem dX8_wideOf_9 : decode cX8_wideOf 9 = .ok (.if_icmp .ge 23, 3) := by decide +kernel
theorem dX8_wideOf_12 : decode cX8_wideOf 12 = .ok (.iload_n 1, 1) := by decide +kernel
theorem dX8_wideOf_13 : decode cX8_wideOf 13 = .ok (.aload_n 0, 1) := by decide +kernel
theorem dX8_wideOf_14 : decode cX8_wideOf 14 = .ok (.getfield 7, 3) := by decide +kernel
theorem dX8_wideOf_17 : decode cX8_wideOf 17 = .ok (.aload_n 0, 1) := by decide +kernel
theorem dX8_wideOf_18 : decode cX8_wideOf 18 = .ok (.getfield 31, 3) := by decide +kernel
theorem dX8_wideOf_21 : decode cX8_wideOf 21 = .ok (.iload_n 2, 1) := by decide +kernel
theorem dX8_wideOf_22 : decode cX8_wideOf 22 = .ok (.iaload, 1) := by decide +kernel
theorem dX8_wideOf_23 : decode cX8_wideOf 23 = .ok (.iaload, 1) := by decide +kernel
theorem dX8_wideOf_24 : decode cX8_wideOf 24 = .ok (.iadd, 1) := by decide +kernel
theorem dX8_wideOf_25 : decode cX8_wideOf 25 = .ok (.istore_n 1, 1) := by decide +kernel
theorem dX8_wideOf_26 : decode cX8_wideOf 26 = .ok (.iinc 2 1, 3) := by decide +kernel
theorem dX8_wideOf_29 : decode cX8_wideOf 29 = .ok (.goto (-25), 3) := by decide +kernel
theorem dX8_wideOf_32 : decode cX8_wideOf 32 = .ok (.iload_n 1, 1) := by decide +kernel
theorem dX8_wideOf_33 : decode cX8_wideOf 33 = .ok (.ireturn, 1) := by decide +kernel
def wp_X8_wideOf_4 (Q : Int → Mem → Prop) : Nat → Int → Int → Mem → Prop
  | 0, _, _, _ => False
  | n + 1, x1, x2, M => (Rg x2 ∧ Rg (M 62 12) ∧ ((M 62 12) ≤ x2 → Q x1 M) ∧ (¬ ((M 62 12) ≤ x2) → (0 ≤ x2 ∧ x2 < 61) ∧ (0 ≤ (M 70 x2.toNat) ∧ (M 70 x2.toNat) < 127) ∧ wp_X8_wideOf_4 Q n (x1 + (M 63 (M 70 x2.toNat).toNat)) (x2 + 1) M))
set_option maxHeartbeats 4000000 in
set_option maxRecDepth 100000 in
theorem v_X8_wideOf_4 (E : En X (AW X) 0 p R s m args meth c cX8_wideOf RX8 3 (some .int) 0 0) (Q : Int → Mem → Prop) : ∀ n : Nat, ∀ (x1 x2 : Int) (M : Mem) (H : Heap) (locs : List Loc) (ls : Array Slot), wp_X8_wideOf_4 Q n x1 x2 M → Wd X (AW X) s M H locs → lv_has ls 3 [(0, .ref (xA X 62)), (1, .int (jI x1)), (2, .int (jI x2))] → W p l e R s m args below meth c H locs 0 0 (MQ below (QI X Q) args s 0 0 (AW X)) (F0 m 4 ls []) := by
  intro n
  induction n with
  | zero => intro x1 x2 M H locs ls h; exact absurd h (by simp [wp_X8_wideOf_4])
  | succ n ih =>
    intro x1 x2 M H locs ls h hW hl
    rw [wp_X8_wideOf_4] at h
    refine q_iload_n (n := 5) (q := 2) E.1 hl rfl dX8_wideOf_4 rfl rfl ?_
    refine q_aload_n (n := 6) (q := 0) E.1 hl rfl dX8_wideOf_5 rfl rfl ?_
    refine q_get (n := 9) (k := 12) (fs := (fs62 X)) (v := .int (jI (M 62 12))) E hW (by decide) (fun _ => rfl) K8 (by decide) w727 rfl rfl dX8_wideOf_6 rfl ?_
    obtain ⟨g1, g2, h3, h4⟩ := h
    refine q_icmp_ge (t := 32) (n := 12) E.1 g1 g2 dX8_wideOf_9 (by decide) rfl (fun c5 => ?_) (fun c5 => ?_)
    · have h := h3 c5
      refine q_iload_n (n := 33) (q := 1) E.1 hl rfl dX8_wideOf_32 rfl rfl ?_
      exact q_iret E hW h dX8_wideOf_33
    · have h := h4 c5
      refine q_iload_n (n := 13) (q := 1) E.1 hl rfl dX8_wideOf_12 rfl rfl ?_
      refine q_aload_n (n := 14) (q := 0) E.1 hl rfl dX8_wideOf_13 rfl rfl ?_
      refine q_get (n := 17) (k := 0) (fs := (fs62 X)) (v := .ref (xA X 63)) E hW (by decide) (fun _ => rfl) K8 (by decide) w715 rfl rfl dX8_wideOf_14 rfl ?_
      refine q_aload_n (n := 18) (q := 0) E.1 hl rfl dX8_wideOf_17 rfl rfl ?_
      refine q_get (n := 21) (k := 9) (fs := (fs62 X)) (v := .ref (xA X 70)) E hW (by decide) (fun _ => rfl) K8 (by decide) w724 rfl rfl dX8_wideOf_18 rfl ?_
      refine q_iload_n (n := 22) (q := 2) E.1 hl rfl dX8_wideOf_21 rfl rfl ?_
      obtain ⟨g6, h⟩ := h
      refine q_iald (n := 23) E hW (by decide) (fun _ => rfl) (by decide) g6 dX8_wideOf_22 rfl ?_
      obtain ⟨g7, h⟩ := h
      refine q_iald (n := 24) E hW (by decide) (fun _ => rfl) (by decide) g7 dX8_wideOf_23 rfl ?_
      refine q_iadd (n := 25) E.1 dX8_wideOf_24 rfl ?_
      refine q_istore_n (n := 26) [(1, .int (jI (x1 + (M 63 (M 70 x2.toNat).toNat)))), (0, .ref (xA X 62)), (2, .int (jI x2))] E.1 hl dX8_wideOf_25 rfl (by decide) rfl rfl (fun ls hl => ?_)
      refine q_iinc (n := 29) (q := 2) [(2, .int (jI (x2 + 1))), (1, .int (jI (x1 + (M 63 (M 70 x2.toNat).toNat)))), (0, .ref (xA X 62))] E.1 hl rfl dX8_wideOf_26 (by decide) rfl rfl (fun ls hl => ?_)
      refine q_goto (n := 4) E.1 dX8_wideOf_29 (by decide) ?_
      exact ih _ _ _ _ _ _ h hW (lv_sub hl [2, 1, 0] rfl)
def wp_X8_wideOf (M : Mem) (Q : Int → Mem → Prop) : Prop := (∃ n : Nat, wp_X8_wideOf_4 Q n 0 0 M)
set_option maxHeartbeats 4000000 in
set_option maxRecDepth 100000 in
theorem c_X8_wideOf (l : Launch) (X : Cx) (hI : Inj X) (M : Mem) (Q : Int → Mem → Prop) (h : wp_X8_wideOf M Q) : MI X l yX8_wideOf cX8_wideOf 3 (some .int) 0 [.ref (xA X 62)] M Q := by
  refine MI.of hI (by decide) (Nat.le_of_ble_eq_true rfl) ?_
  intro p e R s m args below meth c ls E hW hl
  have E : En X (AW X) 0 p R s m args meth c cX8_wideOf RX8 3 (some .int) 0 0 := E
  have hl : lv_has ls 3 [(0, .ref (xA X 62))] := hl
  unfold wp_X8_wideOf at h
  refine q_iconst (n := 1) E.1 dX8_wideOf_0 rfl ?_
  refine q_istore_n (n := 2) [(1, .int (jI 0)), (0, .ref (xA X 62))] E.1 hl dX8_wideOf_1 rfl (by decide) rfl rfl (fun ls hl => ?_)
  refine q_iconst (n := 3) E.1 dX8_wideOf_2 rfl ?_
  refine q_istore_n (n := 4) [(2, .int (jI 0)), (1, .int (jI 0)), (0, .ref (xA X 62))] E.1 hl dX8_wideOf_3 rfl (by decide) rfl rfl (fun ls hl => ?_)
  obtain ⟨n1, h⟩ := h
  exact v_X8_wideOf_4 E Q n1 _ _ _ _ _ _ h hW (lv_sub hl [2, 1, 0] rfl)
/-! StickerPressModel.fit(I)I -/
theorem dX8_fit_0 : decode cX8_fit 0 = .ok (.aload_n 0, 1) := by decide +kernel
theorem dX8_fit_1 : decode cX8_fit 1 = .ok (.getfield 111, 3) := by decide +kernel
theorem dX8_fit_4 : decode cX8_fit 4 = .ok (.istore_n 2, 1) := by decide +kernel
theorem dX8_fit_5 : decode cX8_fit 5 = .ok (.aload_n 0, 1) := by decide +kernel
theorem dX8_fit_6 : decode cX8_fit 6 = .ok (.iconst 0, 1) := by decide +kernel
theorem dX8_fit_7 : decode cX8_fit 7 = .ok (.putfield 111, 3) := by decide +kernel
theorem dX8_fit_10 : decode cX8_fit 10 = .ok (.iload_n 2, 1) := by decide +kernel
theorem dX8_fit_11 : decode cX8_fit 11 = .ok (.bipush 30, 2) := by decide +kernel
theorem dX8_fit_13 : decode cX8_fit 13 = .ok (.if_icmp .gt 22, 3) := by decide +kernel
theorem dX8_fit_16 : decode cX8_fit 16 = .ok (.aload_n 0, 1) := by decide +kernel
theorem dX8_fit_17 : decode cX8_fit 17 = .ok (.iload_n 2, 1) := by decide +kernel
theorem dX8_fit_18 : decode cX8_fit 18 = .ok (.invokevirtual 114, 3) := by decide +kernel
theorem dX8_fit_21 : decode cX8_fit 21 = .ok (.ifCond .eq 14, 3) := by decide +kernel
theorem dX8_fit_24 : decode cX8_fit 24 = .ok (.iload_n 1, 1) := by decide +kernel
theorem dX8_fit_25 : decode cX8_fit 25 = .ok (.iconst 0, 1) := by decide +kernel
theorem dX8_fit_26 : decode cX8_fit 26 = .ok (.sipush 999, 3) := by decide +kernel
theorem dX8_fit_29 : decode cX8_fit 29 = .ok (.invokestatic 103, 3) := by decide +kernel
theorem dX8_fit_32 : decode cX8_fit 32 = .ok (.ifCond .ne 5, 3) := by decide +kernel
theorem dX8_fit_35 : decode cX8_fit 35 = .ok (.iconst (-1), 1) := by decide +kernel
theorem dX8_fit_36 : decode cX8_fit 36 = .ok (.ireturn, 1) := by decide +kernel
theorem dX8_fit_37 : decode cX8_fit 37 = .ok (.aload_n 0, 1) := by decide +kernel
theorem dX8_fit_38 : decode cX8_fit 38 = .ok (.iconst (-1), 1) := by decide +kernel
theorem dX8_fit_39 : decode cX8_fit 39 = .ok (.putfield 133, 3) := by decide +kernel
theorem dX8_fit_42 : decode cX8_fit 42 = .ok (.iconst 0, 1) := by decide +kernel
theorem dX8_fit_43 : decode cX8_fit 43 = .ok (.istore_n 3, 1) := by decide +kernel
theorem dX8_fit_44 : decode cX8_fit 44 = .ok (.iload_n 3, 1) := by decide +kernel
theorem dX8_fit_45 : decode cX8_fit 45 = .ok (.bipush 64, 2) := by decide +kernel
theorem dX8_fit_47 : decode cX8_fit 47 = .ok (.if_icmp .ge 132, 3) := by decide +kernel
theorem dX8_fit_50 : decode cX8_fit 50 = .ok (.aload_n 0, 1) := by decide +kernel
theorem dX8_fit_51 : decode cX8_fit 51 = .ok (.iload_n 3, 1) := by decide +kernel
theorem dX8_fit_52 : decode cX8_fit 52 = .ok (.iload_n 2, 1) := by decide +kernel
theorem dX8_fit_53 : decode cX8_fit 53 = .ok (.invokevirtual 136, 3) := by decide +kernel
theorem dX8_fit_56 : decode cX8_fit 56 = .ok (.ifCond .ne 6, 3) := by decide +kernel
theorem dX8_fit_59 : decode cX8_fit 59 = .ok (.goto 114, 3) := by decide +kernel
theorem dX8_fit_62 : decode cX8_fit 62 = .ok (.aload_n 0, 1) := by decide +kernel
theorem dX8_fit_63 : decode cX8_fit 63 = .ok (.invokevirtual 139, 3) := by decide +kernel
theorem dX8_fit_66 : decode cX8_fit 66 = .ok (.istore 4, 2) := by decide +kernel
theorem dX8_fit_68 : decode cX8_fit 68 = .ok (.iload 4, 2) := by decide +kernel
theorem dX8_fit_70 : decode cX8_fit 70 = .ok (.iload_n 1, 1) := by decide +kernel
theorem dX8_fit_71 : decode cX8_fit 71 = .ok (.if_icmp .gt 102, 3) := by decide +kernel
theorem dX8_fit_74 : decode cX8_fit 74 = .ok (.aload_n 0, 1) := by decide +kernel
theorem dX8_fit_75 : decode cX8_fit 75 = .ok (.getfield 133, 3) := by decide +kernel
theorem dX8_fit_78 : decode cX8_fit 78 = .ok (.iconst (-1), 1) := by decide +kernel
theorem dX8_fit_79 : decode cX8_fit 79 = .ok (.if_icmp .eq 43, 3) := by decide +kernel
theorem dX8_fit_82 : decode cX8_fit 82 = .ok (.iload_n 3, 1) := by decide +kernel
theorem dX8_fit_83 : decode cX8_fit 83 = .ok (.invokestatic 143, 3) := by decide +kernel
theorem dX8_fit_86 : decode cX8_fit 86 = .ok (.aload_n 0, 1) := by decide +kernel
theorem dX8_fit_87 : decode cX8_fit 87 = .ok (.getfield 133, 3) := by decide +kernel
theorem dX8_fit_90 : decode cX8_fit 90 = .ok (.invokestatic 143, 3) := by decide +kernel
theorem dX8_fit_93 : decode cX8_fit 93 = .ok (.if_icmp .gt 80, 3) := by decide +kernel
theorem dX8_fit_96 : decode cX8_fit 96 = .ok (.iload_n 3, 1) := by decide +kernel
theorem dX8_fit_97 : decode cX8_fit 97 = .ok (.invokestatic 143, 3) := by decide +kernel
theorem dX8_fit_100 : decode cX8_fit 100 = .ok (.aload_n 0, 1) := by decide +kernel
theorem dX8_fit_101 : decode cX8_fit 101 = .ok (.getfield 133, 3) := by decide +kernel
theorem dX8_fit_104 : decode cX8_fit 104 = .ok (.invokestatic 143, 3) := by decide +kernel
theorem dX8_fit_107 : decode cX8_fit 107 = .ok (.if_icmp .ne 15, 3) := by decide +kernel
theorem dX8_fit_110 : decode cX8_fit 110 = .ok (.iload 4, 2) := by decide +kernel
theorem dX8_fit_112 : decode cX8_fit 112 = .ok (.aload_n 0, 1) := by decide +kernel
theorem dX8_fit_113 : decode cX8_fit 113 = .ok (.getfield 147, 3) := by decide +kernel
theorem dX8_fit_116 : decode cX8_fit 116 = .ok (.if_icmp .gt 6, 3) := by decide +kernel
theorem dX8_fit_119 : decode cX8_fit 119 = .ok (.goto 54, 3) := by decide +kernel
theorem dX8_fit_122 : decode cX8_fit 122 = .ok (.aload_n 0, 1) := by decide +kernel
theorem dX8_fit_123 : decode cX8_fit 123 = .ok (.iload_n 3, 1) := by decide +kernel
theorem dX8_fit_124 : decode cX8_fit 124 = .ok (.putfield 133, 3) := by decide +kernel
theorem dX8_fit_127 : decode cX8_fit 127 = .ok (.aload_n 0, 1) := by decide +kernel
theorem dX8_fit_128 : decode cX8_fit 128 = .ok (.iload 4, 2) := by decide +kernel
theorem dX8_fit_130 : decode cX8_fit 130 = .ok (.putfield 147, 3) := by decide +kernel
theorem dX8_fit_133 : decode cX8_fit 133 = .ok (.aload_n 0, 1) := by decide +kernel
theorem dX8_fit_134 : decode cX8_fit 134 = .ok (.aload_n 0, 1) := by decide +kernel
theorem dX8_fit_135 : decode cX8_fit 135 = .ok (.getfield 120, 3) := by decide +kernel
theorem dX8_fit_138 : decode cX8_fit 138 = .ok (.putfield 150, 3) := by decide +kernel
theorem dX8_fit_141 : decode cX8_fit 141 = .ok (.iconst 0, 1) := by decide +kernel
theorem dX8_fit_142 : decode cX8_fit 142 = .ok (.istore 5, 2) := by decide +kernel
theorem dX8_fit_144 : decode cX8_fit 144 = .ok (.iload 5, 2) := by decide +kernel
theorem dX8_fit_146 : decode cX8_fit 146 = .ok (.aload_n 0, 1) := by decide +kernel
theorem dX8_fit_147 : decode cX8_fit 147 = .ok (.getfield 120, 3) := by decide +kernel
theorem dX8_fit_150 : decode cX8_fit 150 = .ok (.if_icmp .ge 23, 3) := by decide +kernel
theorem dX8_fit_153 : decode cX8_fit 153 = .ok (.aload_n 0, 1) := by decide +kernel
theorem dX8_fit_154 : decode cX8_fit 154 = .ok (.getfield 37, 3) := by decide +kernel
theorem dX8_fit_157 : decode cX8_fit 157 = .ok (.iload 5, 2) := by decide +kernel
theorem dX8_fit_159 : decode cX8_fit 159 = .ok (.aload_n 0, 1) := by decide +kernel
theorem dX8_fit_160 : decode cX8_fit 160 = .ok (.getfield 31, 3) := by decide +kernel
theorem dX8_fit_163 : decode cX8_fit 163 = .ok (.iload 5, 2) := by decide +kernel
theorem dX8_fit_165 : decode cX8_fit 165 = .ok (.iaload, 1) := by decide +kernel
theorem dX8_fit_166 : decode cX8_fit 166 = .ok (.iastore, 1) := by decide +kernel
theorem dX8_fit_167 : decode cX8_fit 167 = .ok (.iinc 5 1, 3) := by decide +kernel
theorem dX8_fit_170 : decode cX8_fit 170 = .ok (.goto (-26), 3) := by decide +kernel
theorem dX8_fit_173 : decode cX8_fit 173 = .ok (.iinc 3 1, 3) := by decide +kernel
theorem dX8_fit_176 : decode cX8_fit 176 = .ok (.goto (-132), 3) := by decide +kernel
theorem dX8_fit_179 : decode cX8_fit 179 = .ok (.aload_n 0, 1) := by decide +kernel
theorem dX8_fit_180 : decode cX8_fit 180 = .ok (.aload_n 0, 1) := by decide +kernel
theorem dX8_fit_181 : decode cX8_fit 181 = .ok (.getfield 133, 3) := by decide +kernel
theorem dX8_fit_184 : decode cX8_fit 184 = .ok (.iconst (-1), 1) := by decide +kernel
theorem dX8_fit_185 : decode cX8_fit 185 = .ok (.if_icmp .ne 7, 3) := by decide +kernel
theorem dX8_fit_188 : decode cX8_fit 188 = .ok (.iconst 0, 1) := by decide +kernel
theorem dX8_fit_189 : decode cX8_fit 189 = .ok (.goto 7, 3) := by decide +kernel
theorem dX8_fit_192 : decode cX8_fit 192 = .ok (.aload_n 0, 1) := by decide +kernel
theorem dX8_fit_193 : decode cX8_fit 193 = .ok (.getfield 150, 3) := by decide +kernel
theorem dX8_fit_196 : decode cX8_fit 196 = .ok (.putfield 153, 3) := by decide +kernel
theorem dX8_fit_199 : decode cX8_fit 199 = .ok (.aload_n 0, 1) := by decide +kernel
theorem dX8_fit_200 : decode cX8_fit 200 = .ok (.getfield 133, 3) := by decide +kernel
theorem dX8_fit_203 : decode cX8_fit 203 = .ok (.iconst (-1), 1) := by decide +kernel
theorem dX8_fit_204 : decode cX8_fit 204 = .ok (.if_icmp .ne 5, 3) := by decide +kernel
theorem dX8_fit_207 : decode cX8_fit 207 = .ok (.iconst (-1), 1) := by decide +kernel
theorem dX8_fit_208 : decode cX8_fit 208 = .ok (.ireturn, 1) := by decide +kernel
theorem dX8_fit_209 : decode cX8_fit 209 = .ok (.iconst 0, 1) := by decide +kernel
theorem dX8_fit_210 : decode cX8_fit 210 = .ok (.istore_n 3, 1) := by decide +kernel
theorem dX8_fit_211 : decode cX8_fit 211 = .ok (.iload_n 3, 1) := by decide +kernel
theorem dX8_fit_212 : decode cX8_fit 212 = .ok (.aload_n 0, 1) := by decide +kernel
theorem dX8_fit_213 : decode cX8_fit 213 = .ok (.getfield 150, 3) := by decide +kernel
theorem dX8_fit_216 : decode cX8_fit 216 = .ok (.if_icmp .ge 21, 3) := by decide +kernel
theorem dX8_fit_219 : decode cX8_fit 219 = .ok (.aload_n 0, 1) := by decide +kernel
theorem dX8_fit_220 : decode cX8_fit 220 = .ok (.getfield 16, 3) := by decide +kernel
theorem dX8_fit_223 : decode cX8_fit 223 = .ok (.iload_n 3, 1) := by decide +kernel
theorem dX8_fit_224 : decode cX8_fit 224 = .ok (.aload_n 0, 1) := by decide +kernel
theorem dX8_fit_225 : decode cX8_fit 225 = .ok (.getfield 37, 3) := by decide +kernel
theorem dX8_fit_228 : decode cX8_fit 228 = .ok (.iload_n 3, 1) := by decide +kernel
theorem dX8_fit_229 : decode cX8_fit 229 = .ok (.iaload, 1) := by decide +kernel
theorem dX8_fit_230 : decode cX8_fit 230 = .ok (.iastore, 1) := by decide +kernel
theorem dX8_fit_231 : decode cX8_fit 231 = .ok (.iinc 3 1, 3) := by decide +kernel
theorem dX8_fit_234 : decode cX8_fit 234 = .ok (.goto (-23), 3) := by decide +kernel
theorem dX8_fit_237 : decode cX8_fit 237 = .ok (.aload_n 0, 1) := by decide +kernel
theorem dX8_fit_238 : decode cX8_fit 238 = .ok (.aload_n 0, 1) := by decide +kernel
theorem dX8_fit_239 : decode cX8_fit 239 = .ok (.getfield 133, 3) := by decide +kernel
theorem dX8_fit_242 : decode cX8_fit 242 = .ok (.putfield 40, 3) := by decide +kernel
theorem dX8_fit_245 : decode cX8_fit 245 = .ok (.aload_n 0, 1) := by decide +kernel
theorem dX8_fit_246 : decode cX8_fit 246 = .ok (.getfield 147, 3) := by decide +kernel
theorem dX8_fit_249 : decode cX8_fit 249 = .ok (.ireturn, 1) := by decide +kernel
theorem Y_RX8_136 : YV RX8 136 RX8 yX8_becomes cX8_becomes 4 (some .boolean) 2 := ⟨w887, w884, w886, w25, w52, by decide +kernel, by decide⟩
theorem Y_RX8_139 : YV RX8 139 RX8 yX8_wideOf cX8_wideOf 3 (some .int) 0 := ⟨w903, w900, w902, w29, w52, by decide +kernel, by decide⟩
theorem Y_RX8_143 : YS RX8 143 yX8_bits cX8_bits 3 (some .int) 1 := ⟨w906, w904, w905, w52, by decide +kernel, by decide⟩
def wp_X8_fit_211 (a1 : Int) (Q : Int → Mem → Prop) : Nat → Int → Mem → Prop
  | 0, _, _ => False
  | n + 1, x3, M => (Rg x3 ∧ Rg (M 62 14) ∧ ((M 62 14) ≤ x3 → Q ((up M 62 17 (M 62 15)) 62 16) (up M 62 17 (M 62 15))) ∧ (¬ ((M 62 14) ≤ x3) → (0 ≤ x3 ∧ x3 < 61) ∧ (0 ≤ x3 ∧ x3 < 200) ∧ wp_X8_fit_211 a1 Q n (x3 + 1) (up M 65 x3.toNat (M 72 x3.toNat))))
set_option maxHeartbeats 4000000 in
set_option maxRecDepth 100000 in
theorem v_X8_fit_211 (a1 : Int) (E : En X (AW X) 3 p R s m args meth c cX8_fit RX8 6 (some .int) 0 0) (Q : Int → Mem → Prop) : ∀ n : Nat, ∀ (x3 : Int) (M : Mem) (H : Heap) (locs : List Loc) (ls : Array Slot), wp_X8_fit_211 a1 Q n x3 M → Wd X (AW X) s M H locs → lv_has ls 6 [(0, .ref (xA X 62)), (3, .int (jI x3))] → W p l e R s m args below meth c H locs 0 0 (MQ below (QI X Q) args s 0 0 (AW X)) (F0 m 211 ls []) := by
  intro n
  induction n with
  | zero => intro x3 M H locs ls h; exact absurd h (by simp [wp_X8_fit_211])
  | succ n ih =>
    intro x3 M H locs ls h hW hl
    rw [wp_X8_fit_211] at h
    refine q_iload_n (n := 212) (q := 1) E.1 hl rfl dX8_fit_211 rfl rfl ?_
    refine q_aload_n (n := 213) (q := 0) E.1 hl rfl dX8_fit_212 rfl rfl ?_
    refine q_get (n := 216) (k := 14) (fs := (fs62 X)) (v := .int (jI (M 62 14))) E hW (by decide) (fun _ => rfl) K8 (by decide) w729 rfl rfl dX8_fit_213 rfl ?_
    obtain ⟨g1, g2, h3, h4⟩ := h
    refine q_icmp_ge (t := 237) (n := 219) E.1 g1 g2 dX8_fit_216 (by decide) rfl (fun c5 => ?_) (fun c5 => ?_)
    · have h := h3 c5
      refine q_aload_n (n := 238) (q := 0) E.1 hl rfl dX8_fit_237 rfl rfl ?_
      refine q_aload_n (n := 239) (q := 0) E.1 hl rfl dX8_fit_238 rfl rfl ?_
      refine q_get (n := 242) (k := 15) (fs := (fs62 X)) (v := .int (jI (M 62 15))) E hW (by decide) (fun _ => rfl) K8 (by decide) w730 rfl rfl dX8_fit_239 rfl ?_
      refine q_put (n := 245) (k := 17) (fs := (fs62 X)) E hW (by decide) (fun _ => rfl) K8 (by decide) w732 rfl rfl ⟨rfl, rfl⟩ (Nat.le_of_ble_eq_true rfl) (fun _ => rfl) dX8_fit_242 rfl (fun H locs hW => ?_)
      refine q_aload_n (n := 246) (q := 0) E.1 hl rfl dX8_fit_245 rfl rfl ?_
      refine q_get (n := 249) (k := 16) (fs := (fs62 X)) (v := .int (jI ((up M 62 17 (M 62 15)) 62 16))) E hW (by decide) (fun _ => rfl) K8 (by decide) w731 rfl rfl dX8_fit_246 rfl ?_
      exact q_iret E hW h dX8_fit_249
    · have h := h4 c5
      refine q_aload_n (n := 220) (q := 0) E.1 hl rfl dX8_fit_219 rfl rfl ?_
      refine q_get (n := 223) (k := 2) (fs := (fs62 X)) (v := .ref (xA X 65)) E hW (by decide) (fun _ => rfl) K8 (by decide) w717 rfl rfl dX8_fit_220 rfl ?_
      refine q_iload_n (n := 224) (q := 1) E.1 hl rfl dX8_fit_223 rfl rfl ?_
      refine q_aload_n (n := 225) (q := 0) E.1 hl rfl dX8_fit_224 rfl rfl ?_
      refine q_get (n := 228) (k := 11) (fs := (fs62 X)) (v := .ref (xA X 72)) E hW (by decide) (fun _ => rfl) K8 (by decide) w726 rfl rfl dX8_fit_225 rfl ?_
      refine q_iload_n (n := 229) (q := 1) E.1 hl rfl dX8_fit_228 rfl rfl ?_
      obtain ⟨g6, h⟩ := h
      refine q_iald (n := 230) E hW (by decide) (fun _ => rfl) (by decide) g6 dX8_fit_229 rfl ?_
      obtain ⟨g7, h⟩ := h
      refine q_iast (n := 231) E hW (by decide) (fun _ => rfl) (by decide) g7 dX8_fit_230 rfl (fun H locs hW => ?_)
      refine q_iinc (n := 234) (q := 1) [(3, .int (jI (x3 + 1))), (0, .ref (xA X 62))] E.1 hl rfl dX8_fit_231 (by decide) rfl rfl (fun ls hl => ?_)
      refine q_goto (n := 211) E.1 dX8_fit_234 (by decide) ?_
      exact ih _ _ _ _ _ h hW (lv_sub hl [1, 0] rfl)
def wp_X8_fit_144 (a1 : Int) (k44 : Int → Int → Mem → Prop) (Q : Int → Mem → Prop) : Nat → Int → Int → Int → Mem → Prop
  | 0, _, _, _, _ => False
  | n + 1, x2, x3, x5, M => (Rg x5 ∧ Rg (M 62 12) ∧ ((M 62 12) ≤ x5 → k44 x2 (x3 + 1) M) ∧ (¬ ((M 62 12) ≤ x5) → (0 ≤ x5 ∧ x5 < 61) ∧ (0 ≤ x5 ∧ x5 < 61) ∧ wp_X8_fit_144 a1 k44 Q n x2 x3 (x5 + 1) (up M 72 x5.toNat (M 70 x5.toNat))))
set_option maxHeartbeats 4000000 in
set_option maxRecDepth 100000 in
theorem v_X8_fit_144 (a1 : Int) (E : En X (AW X) 3 p R s m args meth c cX8_fit RX8 6 (some .int) 0 0) (Q : Int → Mem → Prop) (k44 : Int → Int → Mem → Prop) (Hk44 : ∀ (x2 x3 : Int) (M : Mem) (H : Heap) (locs : List Loc) (ls : Array Slot), k44 x2 x3 M → Wd X (AW X) s M H locs → lv_has ls 6 [(0, .ref (xA X 62)), (1, .int (jI a1)), (2, .int (jI x2)), (3, .int (jI x3))] → W p l e R s m args below meth c H locs 0 0 (MQ below (QI X Q) args s 0 0 (AW X)) (F0 m 44 ls [])) : ∀ n : Nat, ∀ (x2 x3 x5 : Int) (M : Mem) (H : Heap) (locs : List Loc) (ls : Array Slot), wp_X8_fit_144 a1 k44 Q n x2 x3 x5 M → Wd X (AW X) s M H locs → lv_has ls 6 [(0, .ref (xA X 62)), (1, .int (jI a1)), (2, .int (jI x2)), (3, .int (jI x3)), (5, .int (jI x5))] → W p l e R s m args below meth c H locs 0 0 (MQ below (QI X Q) args s 0 0 (AW X)) (F0 m 144 ls []) := by
  intro n
  induction n with
  | zero => intro x2 x3 x5 M H locs ls h; exact absurd h (by simp [wp_X8_fit_144])
  | succ n ih =>
    intro x2 x3 x5 M H locs ls h hW hl
    rw [wp_X8_fit_144] at h
    refine q_iload (n := 146) (q := 4) E.1 hl rfl dX8_fit_144 rfl ?_
    refine q_aload_n (n := 147) (q := 0) E.1 hl rfl dX8_fit_146 rfl rfl ?_
    refine q_get (n := 150) (k := 12) (fs := (fs62 X)) (v := .int (jI (M 62 12))) E hW (by decide) (fun _ => rfl) K8 (by decide) w727 rfl rfl dX8_fit_147 rfl ?_
    obtain ⟨g1, g2, h3, h4⟩ := h
    refine q_icmp_ge (t := 173) (n := 153) E.1 g1 g2 dX8_fit_150 (by decide) rfl (fun c5 => ?_) (fun c5 => ?_)
    · have h := h3 c5
      refine q_iinc (n := 176) (q := 3) [(3, .int (jI (x3 + 1))), (0, .ref (xA X 62)), (1, .int (jI a1)), (2, .int (jI x2)), (5, .int (jI x5))] E.1 hl rfl dX8_fit_173 (by decide) rfl rfl (fun ls hl => ?_)
      refine q_goto (n := 44) E.1 dX8_fit_176 (by decide) ?_
      exact Hk44 _ _ _ _ _ _ h hW (lv_sub hl [1, 2, 3, 0] rfl)
    · have h := h4 c5
      refine q_aload_n (n := 154) (q := 0) E.1 hl rfl dX8_fit_153 rfl rfl ?_
      refine q_get (n := 157) (k := 11) (fs := (fs62 X)) (v := .ref (xA X 72)) E hW (by decide) (fun _ => rfl) K8 (by decide) w726 rfl rfl dX8_fit_154 rfl ?_
      refine q_iload (n := 159) (q := 4) E.1 hl rfl dX8_fit_157 rfl ?_
      refine q_aload_n (n := 160) (q := 0) E.1 hl rfl dX8_fit_159 rfl rfl ?_
      refine q_get (n := 163) (k := 9) (fs := (fs62 X)) (v := .ref (xA X 70)) E hW (by decide) (fun _ => rfl) K8 (by decide) w724 rfl rfl dX8_fit_160 rfl ?_
      refine q_iload (n := 165) (q := 4) E.1 hl rfl dX8_fit_163 rfl ?_
      obtain ⟨g6, h⟩ := h
      refine q_iald (n := 166) E hW (by decide) (fun _ => rfl) (by decide) g6 dX8_fit_165 rfl ?_
      obtain ⟨g7, h⟩ := h
      refine q_iast (n := 167) E hW (by decide) (fun _ => rfl) (by decide) g7 dX8_fit_166 rfl (fun H locs hW => ?_)
      refine q_iinc (n := 170) (q := 4) [(5, .int (jI (x5 + 1))), (0, .ref (xA X 62)), (1, .int (jI a1)), (2, .int (jI x2)), (3, .int (jI x3))] E.1 hl rfl dX8_fit_167 (by decide) rfl rfl (fun ls hl => ?_)
      refine q_goto (n := 144) E.1 dX8_fit_170 (by decide) ?_
      exact ih _ _ _ _ _ _ _ h hW (lv_sub hl [1, 2, 3, 4, 0] rfl)
def wp_X8_fit_44 (a1 : Int) (Q : Int → Mem → Prop) : Nat → Int → Int → Mem → Prop
  | 0, _, _, _ => False
  | n + 1, x2, x3, M => (Rg x3 ∧ (64 ≤ x3 → (Rg (M 62 15) ∧ ((M 62 15) ≠ (-1) → (Rg ((up M 62 4 (M 62 14)) 62 15) ∧ (((up M 62 4 (M 62 14)) 62 15) ≠ (-1) → (∃ n2 : Nat, wp_X8_fit_211 a1 Q n2 0 (up M 62 4 (M 62 14)))) ∧ (¬ (((up M 62 4 (M 62 14)) 62 15) ≠ (-1)) → Q (-1) (up M 62 4 (M 62 14))))) ∧ (¬ ((M 62 15) ≠ (-1)) → (Rg ((up M 62 4 0) 62 15) ∧ (((up M 62 4 0) 62 15) ≠ (-1) → (∃ n2 : Nat, wp_X8_fit_211 a1 Q n2 0 (up M 62 4 0))) ∧ (¬ (((up M 62 4 0) 62 15) ≠ (-1)) → Q (-1) (up M 62 4 0)))))) ∧ (¬ (64 ≤ x3) → wp_X8_becomes x3 x2 M (fun r20 M19 => (Rg r20 ∧ (r20 ≠ 0 → wp_X8_wideOf  M19 (fun r26 M25 => (Rg r26 ∧ Rg a1 ∧ (a1 < r26 → wp_X8_fit_44 a1 Q n x2 (x3 + 1) M25) ∧ (¬ (a1 < r26) → (Rg (M25 62 15) ∧ ((M25 62 15) = (-1) → (∃ n2 : Nat, wp_X8_fit_144 a1 (fun x2 x3 M => wp_X8_fit_44 a1 Q n x2 x3 M) Q n2 x2 x3 0 (up (up (up M25 62 15 x3) 62 16 r26) 62 14 ((up (up M25 62 15 x3) 62 16 r26) 62 12)))) ∧ (¬ ((M25 62 15) = (-1)) → wp_X8_bits x3 M25 (fun r38 M37 => wp_X8_bits (M37 62 15) M37 (fun r40 M39 => (Rg r38 ∧ Rg r40 ∧ (r40 < r38 → wp_X8_fit_44 a1 Q n x2 (x3 + 1) M39) ∧ (¬ (r40 < r38) → wp_X8_bits x3 M39 (fun r47 M46 => wp_X8_bits (M46 62 15) M46 (fun r49 M48 => (Rg r47 ∧ Rg r49 ∧ (r47 ≠ r49 → (∃ n2 : Nat, wp_X8_fit_144 a1 (fun x2 x3 M => wp_X8_fit_44 a1 Q n x2 x3 M) Q n2 x2 x3 0 (up (up (up M48 62 15 x3) 62 16 r26) 62 14 ((up (up M48 62 15 x3) 62 16 r26) 62 12)))) ∧ (¬ (r47 ≠ r49) → (Rg r26 ∧ Rg (M48 62 16) ∧ ((M48 62 16) < r26 → (∃ n2 : Nat, wp_X8_fit_144 a1 (fun x2 x3 M => wp_X8_fit_44 a1 Q n x2 x3 M) Q n2 x2 x3 0 (up (up (up M48 62 15 x3) 62 16 r26) 62 14 ((up (up M48 62 15 x3) 62 16 r26) 62 12)))) ∧ (¬ ((M48 62 16) < r26) → wp_X8_fit_44 a1 Q n x2 (x3 + 1) M48)))))))))))))))) ∧ (¬ (r20 ≠ 0) → wp_X8_fit_44 a1 Q n x2 (x3 + 1) M19)))))
set_option maxHeartbeats 4000000 in
set_option maxRecDepth 100000 in
theorem v_X8_fit_44 (a1 : Int) (E : En X (AW X) 3 p R s m args meth c cX8_fit RX8 6 (some .int) 0 0) (Q : Int → Mem → Prop) : ∀ n : Nat, ∀ (x2 x3 : Int) (M : Mem) (H : Heap) (locs : List Loc) (ls : Array Slot), wp_X8_fit_44 a1 Q n x2 x3 M → Wd X (AW X) s M H locs → lv_has ls 6 [(0, .ref (xA X 62)), (1, .int (jI a1)), (2, .int (jI x2)), (3, .int (jI x3))] → W p l e R s m args below meth c H locs 0 0 (MQ below (QI X Q) args s 0 0 (AW X)) (F0 m 44 ls []) := by
  intro n
  induction n with
  | zero => intro x2 x3 M H locs ls h; exact absurd h (by simp [wp_X8_fit_44])
  | succ n ih =>
    intro x2 x3 M H locs ls h hW hl
    rw [wp_X8_fit_44] at h
    refine q_iload_n (n := 45) (q := 3) E.1 hl rfl dX8_fit_44 rfl rfl ?_
    refine q_bipush (n := 47) E.1 dX8_fit_45 (by decide) rfl ?_
    obtain ⟨g1, h2, h3⟩ := h
    refine q_icmp_ge (t := 179) (n := 50) E.1 g1 (by decide) dX8_fit_47 (by decide) rfl (fun c4 => ?_) (fun c4 => ?_)
    · have h := h2 c4
      refine q_aload_n (n := 180) (q := 0) E.1 hl rfl dX8_fit_179 rfl rfl ?_
      refine q_aload_n (n := 181) (q := 0) E.1 hl rfl dX8_fit_180 rfl rfl ?_
      refine q_get (n := 184) (k := 15) (fs := (fs62 X)) (v := .int (jI (M 62 15))) E hW (by decide) (fun _ => rfl) K8 (by decide) w730 rfl rfl dX8_fit_181 rfl ?_
      refine q_iconst (n := 185) E.1 dX8_fit_184 rfl ?_
      obtain ⟨g5, h6, h7⟩ := h
      refine q_icmp_ne (t := 192) (n := 188) E.1 g5 (by decide) dX8_fit_185 (by decide) rfl (fun c8 => ?_) (fun c8 => ?_)
      · have h := h6 c8
        refine q_aload_n (n := 193) (q := 0) E.1 hl rfl dX8_fit_192 rfl rfl ?_
        refine q_get (n := 196) (k := 14) (fs := (fs62 X)) (v := .int (jI (M 62 14))) E hW (by decide) (fun _ => rfl) K8 (by decide) w729 rfl rfl dX8_fit_193 rfl ?_
        refine q_put (n := 199) (k := 4) (fs := (fs62 X)) E hW (by decide) (fun _ => rfl) K8 (by decide) w719 rfl rfl ⟨rfl, rfl⟩ (Nat.le_of_ble_eq_true rfl) (fun _ => rfl) dX8_fit_196 rfl (fun H locs hW => ?_)
        refine q_aload_n (n := 200) (q := 0) E.1 hl rfl dX8_fit_199 rfl rfl ?_
        refine q_get (n := 203) (k := 15) (fs := (fs62 X)) (v := .int (jI ((up M 62 4 (M 62 14)) 62 15))) E hW (by decide) (fun _ => rfl) K8 (by decide) w730 rfl rfl dX8_fit_200 rfl ?_
        refine q_iconst (n := 204) E.1 dX8_fit_203 rfl ?_
        obtain ⟨g9, h10, h11⟩ := h
        refine q_icmp_ne (t := 209) (n := 207) E.1 g9 (by decide) dX8_fit_204 (by decide) rfl (fun c12 => ?_) (fun c12 => ?_)
        · have h := h10 c12
          refine q_iconst (n := 210) E.1 dX8_fit_209 rfl ?_
          refine q_istore_n (n := 211) [(3, .int (jI 0)), (0, .ref (xA X 62)), (1, .int (jI a1)), (2, .int (jI x2))] E.1 hl dX8_fit_210 rfl (by decide) rfl rfl (fun ls hl => ?_)
          obtain ⟨n13, h⟩ := h
          exact v_X8_fit_211 a1 E Q n13 _ _ _ _ _ h hW (lv_sub hl [1, 0] rfl)
        · have h := h11 c12
          refine q_iconst (n := 208) E.1 dX8_fit_207 rfl ?_
          exact q_iret E hW h dX8_fit_208
      · have h := h7 c8
        refine q_iconst (n := 189) E.1 dX8_fit_188 rfl ?_
        refine q_goto (n := 196) E.1 dX8_fit_189 (by decide) ?_
        refine q_put (n := 199) (k := 4) (fs := (fs62 X)) E hW (by decide) (fun _ => rfl) K8 (by decide) w719 rfl rfl ⟨rfl, rfl⟩ (Nat.le_of_ble_eq_true rfl) (fun _ => rfl) dX8_fit_196 rfl (fun H locs hW => ?_)
        refine q_aload_n (n := 200) (q := 0) E.1 hl rfl dX8_fit_199 rfl rfl ?_
        refine q_get (n := 203) (k := 15) (fs := (fs62 X)) (v := .int (jI ((up M 62 4 0) 62 15))) E hW (by decide) (fun _ => rfl) K8 (by decide) w730 rfl rfl dX8_fit_200 rfl ?_
        refine q_iconst (n := 204) E.1 dX8_fit_203 rfl ?_
        obtain ⟨g14, h15, h16⟩ := h
        refine q_icmp_ne (t := 209) (n := 207) E.1 g14 (by decide) dX8_fit_204 (by decide) rfl (fun c17 => ?_) (fun c17 => ?_)
        · have h := h15 c17
          refine q_iconst (n := 210) E.1 dX8_fit_209 rfl ?_
          refine q_istore_n (n := 211) [(3, .int (jI 0)), (0, .ref (xA X 62)), (1, .int (jI a1)), (2, .int (jI x2))] E.1 hl dX8_fit_210 rfl (by decide) rfl rfl (fun ls hl => ?_)
          obtain ⟨n18, h⟩ := h
          exact v_X8_fit_211 a1 E Q n18 _ _ _ _ _ h hW (lv_sub hl [1, 0] rfl)
        · have h := h16 c17
          refine q_iconst (n := 208) E.1 dX8_fit_207 rfl ?_
          exact q_iret E hW h dX8_fit_208
    · have h := h3 c4
      refine q_aload_n (n := 51) (q := 0) E.1 hl rfl dX8_fit_50 rfl rfl ?_
      refine q_iload_n (n := 52) (q := 3) E.1 hl rfl dX8_fit_51 rfl rfl ?_
      refine q_iload_n (n := 53) (q := 2) E.1 hl rfl dX8_fit_52 rfl rfl ?_
      refine q_callVi (n := 56) (fs := (fs62 X)) [.int (jI x3), .int (jI x2)] E hW hl.1 (by decide) (fun _ => rfl) K8 (c_X8_becomes l X E.2.2.1.1 x3 x2  _ _ h) (by decide) Y_RX8_136 rfl (rest := []) rfl (Nat.le_of_ble_eq_true rfl) dX8_fit_53 rfl (fun r20 M19 H locs h hW => ?_)
      obtain ⟨g21, h22, h23⟩ := h
      refine q_if_ne (t := 62) (n := 59) E.1 g21 dX8_fit_56 (by decide) rfl (fun c24 => ?_) (fun c24 => ?_)
      · have h := h22 c24
        refine q_aload_n (n := 63) (q := 0) E.1 hl rfl dX8_fit_62 rfl rfl ?_
        refine q_callVi (n := 66) (fs := (fs62 X)) [] E hW hl.1 (by decide) (fun _ => rfl) K8 (c_X8_wideOf l X E.2.2.1.1   _ _ h) (by decide) Y_RX8_139 rfl (rest := []) rfl (Nat.le_of_ble_eq_true rfl) dX8_fit_63 rfl (fun r26 M25 H locs h hW => ?_)
        refine q_istore (n := 68) [(4, .int (jI r26)), (0, .ref (xA X 62)), (1, .int (jI a1)), (2, .int (jI x2)), (3, .int (jI x3))] E.1 hl dX8_fit_66 (by decide) rfl rfl (fun ls hl => ?_)
        refine q_iload (n := 70) (q := 0) E.1 hl rfl dX8_fit_68 rfl ?_
        refine q_iload_n (n := 71) (q := 2) E.1 hl rfl dX8_fit_70 rfl rfl ?_
        obtain ⟨g27, g28, h29, h30⟩ := h
        refine q_icmp_gt (t := 173) (n := 74) E.1 g27 g28 dX8_fit_71 (by decide) rfl (fun c31 => ?_) (fun c31 => ?_)
        · have h := h29 c31
          refine q_iinc (n := 176) (q := 4) [(3, .int (jI (x3 + 1))), (4, .int (jI r26)), (0, .ref (xA X 62)), (1, .int (jI a1)), (2, .int (jI x2))] E.1 hl rfl dX8_fit_173 (by decide) rfl rfl (fun ls hl => ?_)
          refine q_goto (n := 44) E.1 dX8_fit_176 (by decide) ?_
          exact ih _ _ _ _ _ _ h hW (lv_sub hl [2, 3, 4, 0] rfl)
        · have h := h30 c31
          refine q_aload_n (n := 75) (q := 1) E.1 hl rfl dX8_fit_74 rfl rfl ?_
          refine q_get (n := 78) (k := 15) (fs := (fs62 X)) (v := .int (jI (M25 62 15))) E hW (by decide) (fun _ => rfl) K8 (by decide) w730 rfl rfl dX8_fit_75 rfl ?_
          refine q_iconst (n := 79) E.1 dX8_fit_78 rfl ?_
          obtain ⟨g32, h33, h34⟩ := h
          refine q_icmp_eq (t := 122) (n := 82) E.1 g32 (by decide) dX8_fit_79 (by decide) rfl (fun c35 => ?_) (fun c35 => ?_)
          · have h := h33 c35
            refine q_aload_n (n := 123) (q := 1) E.1 hl rfl dX8_fit_122 rfl rfl ?_
            refine q_iload_n (n := 124) (q := 4) E.1 hl rfl dX8_fit_123 rfl rfl ?_
            refine q_put (n := 127) (k := 15) (fs := (fs62 X)) E hW (by decide) (fun _ => rfl) K8 (by decide) w730 rfl rfl ⟨rfl, rfl⟩ (Nat.le_of_ble_eq_true rfl) (fun _ => rfl) dX8_fit_124 rfl (fun H locs hW => ?_)
            refine q_aload_n (n := 128) (q := 1) E.1 hl rfl dX8_fit_127 rfl rfl ?_
            refine q_iload (n := 130) (q := 0) E.1 hl rfl dX8_fit_128 rfl ?_
            refine q_put (n := 133) (k := 16) (fs := (fs62 X)) E hW (by decide) (fun _ => rfl) K8 (by decide) w731 rfl rfl ⟨rfl, rfl⟩ (Nat.le_of_ble_eq_true rfl) (fun _ => rfl) dX8_fit_130 rfl (fun H locs hW => ?_)
            refine q_aload_n (n := 134) (q := 1) E.1 hl rfl dX8_fit_133 rfl rfl ?_
            refine q_aload_n (n := 135) (q := 1) E.1 hl rfl dX8_fit_134 rfl rfl ?_
            refine q_get (n := 138) (k := 12) (fs := (fs62 X)) (v := .int (jI ((up (up M25 62 15 x3) 62 16 r26) 62 12))) E hW (by decide) (fun _ => rfl) K8 (by decide) w727 rfl rfl dX8_fit_135 rfl ?_
            refine q_put (n := 141) (k := 14) (fs := (fs62 X)) E hW (by decide) (fun _ => rfl) K8 (by decide) w729 rfl rfl ⟨rfl, rfl⟩ (Nat.le_of_ble_eq_true rfl) (fun _ => rfl) dX8_fit_138 rfl (fun H locs hW => ?_)
            refine q_iconst (n := 142) E.1 dX8_fit_141 rfl ?_
            refine q_istore (n := 144) [(5, .int (jI 0)), (4, .int (jI r26)), (0, .ref (xA X 62)), (1, .int (jI a1)), (2, .int (jI x2)), (3, .int (jI x3))] E.1 hl dX8_fit_142 (by decide) rfl rfl (fun ls hl => ?_)
            obtain ⟨n36, h⟩ := h
            exact v_X8_fit_144 a1 E Q _ ih n36 _ _ _ _ _ _ _ h hW (lv_sub hl [2, 3, 4, 5, 0] rfl)
          · have h := h34 c35
            refine q_iload_n (n := 83) (q := 4) E.1 hl rfl dX8_fit_82 rfl rfl ?_
            refine q_callSi (n := 86) [.int (jI x3)] E hW hl.1 (c_X8_bits l X E.2.2.1.1 x3  _ _ h) (by decide) Y_RX8_143 rfl (rest := []) rfl (Nat.le_of_ble_eq_true rfl) dX8_fit_83 rfl (fun r38 M37 H locs h hW => ?_)
            refine q_aload_n (n := 87) (q := 1) E.1 hl rfl dX8_fit_86 rfl rfl ?_
            refine q_get (n := 90) (k := 15) (fs := (fs62 X)) (v := .int (jI (M37 62 15))) E hW (by decide) (fun _ => rfl) K8 (by decide) w730 rfl rfl dX8_fit_87 rfl ?_
            refine q_callSi (n := 93) [.int (jI (M37 62 15))] E hW hl.1 (c_X8_bits l X E.2.2.1.1 (M37 62 15)  _ _ h) (by decide) Y_RX8_143 rfl (rest := [.int (jI r38)]) rfl (Nat.le_of_ble_eq_true rfl) dX8_fit_90 rfl (fun r40 M39 H locs h hW => ?_)
            obtain ⟨g41, g42, h43, h44⟩ := h
            refine q_icmp_gt (t := 173) (n := 96) E.1 g41 g42 dX8_fit_93 (by decide) rfl (fun c45 => ?_) (fun c45 => ?_)
            · have h := h43 c45
              refine q_iinc (n := 176) (q := 4) [(3, .int (jI (x3 + 1))), (4, .int (jI r26)), (0, .ref (xA X 62)), (1, .int (jI a1)), (2, .int (jI x2))] E.1 hl rfl dX8_fit_173 (by decide) rfl rfl (fun ls hl => ?_)
              refine q_goto (n := 44) E.1 dX8_fit_176 (by decide) ?_
              exact ih _ _ _ _ _ _ h hW (lv_sub hl [2, 3, 4, 0] rfl)
            · have h := h44 c45
              refine q_iload_n (n := 97) (q := 4) E.1 hl rfl dX8_fit_96 rfl rfl ?_
              refine q_callSi (n := 100) [.int (jI x3)] E hW hl.1 (c_X8_bits l X E.2.2.1.1 x3  _ _ h) (by decide) Y_RX8_143 rfl (rest := []) rfl (Nat.le_of_ble_eq_true rfl) dX8_fit_97 rfl (fun r47 M46 H locs h hW => ?_)
              refine q_aload_n (n := 101) (q := 1) E.1 hl rfl dX8_fit_100 rfl rfl ?_
              refine q_get (n := 104) (k := 15) (fs := (fs62 X)) (v := .int (jI (M46 62 15))) E hW (by decide) (fun _ => rfl) K8 (by decide) w730 rfl rfl dX8_fit_101 rfl ?_
              refine q_callSi (n := 107) [.int (jI (M46 62 15))] E hW hl.1 (c_X8_bits l X E.2.2.1.1 (M46 62 15)  _ _ h) (by decide) Y_RX8_143 rfl (rest := [.int (jI r47)]) rfl (Nat.le_of_ble_eq_true rfl) dX8_fit_104 rfl (fun r49 M48 H locs h hW => ?_)
              obtain ⟨g50, g51, h52, h53⟩ := h
              refine q_icmp_ne (t := 122) (n := 110) E.1 g50 g51 dX8_fit_107 (by decide) rfl (fun c54 => ?_) (fun c54 => ?_)
              · have h := h52 c54
                refine q_aload_n (n := 123) (q := 1) E.1 hl rfl dX8_fit_122 rfl rfl ?_
                refine q_iload_n (n := 124) (q := 4) E.1 hl rfl dX8_fit_123 rfl rfl ?_
                refine q_put (n := 127) (k := 15) (fs := (fs62 X)) E hW (by decide) (fun _ => rfl) K8 (by decide) w730 rfl rfl ⟨rfl, rfl⟩ (Nat.le_of_ble_eq_true rfl) (fun _ => rfl) dX8_fit_124 rfl (fun H locs hW => ?_)
                refine q_aload_n (n := 128) (q := 1) E.1 hl rfl dX8_fit_127 rfl rfl ?_
                refine q_iload (n := 130) (q := 0) E.1 hl rfl dX8_fit_128 rfl ?_
                refine q_put (n := 133) (k := 16) (fs := (fs62 X)) E hW (by decide) (fun _ => rfl) K8 (by decide) w731 rfl rfl ⟨rfl, rfl⟩ (Nat.le_of_ble_eq_true rfl) (fun _ => rfl) dX8_fit_130 rfl (fun H locs hW => ?_)
                refine q_aload_n (n := 134) (q := 1) E.1 hl rfl dX8_fit_133 rfl rfl ?_
                refine q_aload_n (n := 135) (q := 1) E.1 hl rfl dX8_fit_134 rfl rfl ?_
                refine q_get (n := 138) (k := 12) (fs := (fs62 X)) (v := .int (jI ((up (up M48 62 15 x3) 62 16 r26) 62 12))) E hW (by decide) (fun _ => rfl) K8 (by decide) w727 rfl rfl dX8_fit_135 rfl ?_
                refine q_put (n := 141) (k := 14) (fs := (fs62 X)) E hW (by decide) (fun _ => rfl) K8 (by decide) w729 rfl rfl ⟨rfl, rfl⟩ (Nat.le_of_ble_eq_true rfl) (fun _ => rfl) dX8_fit_138 rfl (fun H locs hW => ?_)
                refine q_iconst (n := 142) E.1 dX8_fit_141 rfl ?_
                refine q_istore (n := 144) [(5, .int (jI 0)), (4, .int (jI r26)), (0, .ref (xA X 62)), (1, .int (jI a1)), (2, .int (jI x2)), (3, .int (jI x3))] E.1 hl dX8_fit_142 (by decide) rfl rfl (fun ls hl => ?_)
                obtain ⟨n55, h⟩ := h
                exact v_X8_fit_144 a1 E Q _ ih n55 _ _ _ _ _ _ _ h hW (lv_sub hl [2, 3, 4, 5, 0] rfl)
              · have h := h53 c54
                refine q_iload (n := 112) (q := 0) E.1 hl rfl dX8_fit_110 rfl ?_
                refine q_aload_n (n := 113) (q := 1) E.1 hl rfl dX8_fit_112 rfl rfl ?_
                refine q_get (n := 116) (k := 16) (fs := (fs62 X)) (v := .int (jI (M48 62 16))) E hW (by decide) (fun _ => rfl) K8 (by decide) w731 rfl rfl dX8_fit_113 rfl ?_
                obtain ⟨g56, g57, h58, h59⟩ := h
                refine q_icmp_gt (t := 122) (n := 119) E.1 g56 g57 dX8_fit_116 (by decide) rfl (fun c60 => ?_) (fun c60 => ?_)
                · have h := h58 c60
                  refine q_aload_n (n := 123) (q := 1) E.1 hl rfl dX8_fit_122 rfl rfl ?_
                  refine q_iload_n (n := 124) (q := 4) E.1 hl rfl dX8_fit_123 rfl rfl ?_
                  refine q_put (n := 127) (k := 15) (fs := (fs62 X)) E hW (by decide) (fun _ => rfl) K8 (by decide) w730 rfl rfl ⟨rfl, rfl⟩ (Nat.le_of_ble_eq_true rfl) (fun _ => rfl) dX8_fit_124 rfl (fun H locs hW => ?_)
                  refine q_aload_n (n := 128) (q := 1) E.1 hl rfl dX8_fit_127 rfl rfl ?_
                  refine q_iload (n := 130) (q := 0) E.1 hl rfl dX8_fit_128 rfl ?_
                  refine q_put (n := 133) (k := 16) (fs := (fs62 X)) E hW (by decide) (fun _ => rfl) K8 (by decide) w731 rfl rfl ⟨rfl, rfl⟩ (Nat.le_of_ble_eq_true rfl) (fun _ => rfl) dX8_fit_130 rfl (fun H locs hW => ?_)
                  refine q_aload_n (n := 134) (q := 1) E.1 hl rfl dX8_fit_133 rfl rfl ?_
                  refine q_aload_n (n := 135) (q := 1) E.1 hl rfl dX8_fit_134 rfl rfl ?_
                  refine q_get (n := 138) (k := 12) (fs := (fs62 X)) (v := .int (jI ((up (up M48 62 15 x3) 62 16 r26) 62 12))) E hW (by decide) (fun _ => rfl) K8 (by decide) w727 rfl rfl dX8_fit_135 rfl ?_
                  refine q_put (n := 141) (k := 14) (fs := (fs62 X)) E hW (by decide) (fun _ => rfl) K8 (by decide) w729 rfl rfl ⟨rfl, rfl⟩ (Nat.le_of_ble_eq_true rfl) (fun _ => rfl) dX8_fit_138 rfl (fun H locs hW => ?_)
                  refine q_iconst (n := 142) E.1 dX8_fit_141 rfl ?_
                  refine q_istore (n := 144) [(5, .int (jI 0)), (4, .int (jI r26)), (0, .ref (xA X 62)), (1, .int (jI a1)), (2, .int (jI x2)), (3, .int (jI x3))] E.1 hl dX8_fit_142 (by decide) rfl rfl (fun ls hl => ?_)
                  obtain ⟨n61, h⟩ := h
                  exact v_X8_fit_144 a1 E Q _ ih n61 _ _ _ _ _ _ _ h hW (lv_sub hl [2, 3, 4, 5, 0] rfl)
                · have h := h59 c60
                  refine q_goto (n := 173) E.1 dX8_fit_119 (by decide) ?_
                  refine q_iinc (n := 176) (q := 4) [(3, .int (jI (x3 + 1))), (4, .int (jI r26)), (0, .ref (xA X 62)), (1, .int (jI a1)), (2, .int (jI x2))] E.1 hl rfl dX8_fit_173 (by decide) rfl rfl (fun ls hl => ?_)
                  refine q_goto (n := 44) E.1 dX8_fit_176 (by decide) ?_
                  exact ih _ _ _ _ _ _ h hW (lv_sub hl [2, 3, 4, 0] rfl)
      · have h := h23 c24
        refine q_goto (n := 173) E.1 dX8_fit_59 (by decide) ?_
        refine q_iinc (n := 176) (q := 3) [(3, .int (jI (x3 + 1))), (0, .ref (xA X 62)), (1, .int (jI a1)), (2, .int (jI x2))] E.1 hl rfl dX8_fit_173 (by decide) rfl rfl (fun ls hl => ?_)
        refine q_goto (n := 44) E.1 dX8_fit_176 (by decide) ?_
        exact ih _ _ _ _ _ _ h hW (lv_sub hl [1, 2, 3, 0] rfl)
def wp_X8_fit (a1 : Int) (M : Mem) (Q : Int → Mem → Prop) : Prop := (Rg (M 62 3) ∧ (30 < (M 62 3) → Q (-1) (up M 62 3 0)) ∧ (¬ (30 < (M 62 3)) → wp_X8_areSigns (M 62 3) (up M 62 3 0) (fun r6 M5 => (Rg r6 ∧ (r6 = 0 → Q (-1) M5) ∧ (¬ (r6 = 0) → wp_X8_isIn a1 0 999 M5 (fun r12 M11 => (Rg r12 ∧ (r12 ≠ 0 → (∃ n : Nat, wp_X8_fit_44 a1 Q n (M 62 3) 0 (up M11 62 15 (-1)))) ∧ (¬ (r12 ≠ 0) → Q (-1) M11))))))))
set_option maxHeartbeats 4000000 in
set_option maxRecDepth 100000 in
theorem c_X8_fit (l : Launch) (X : Cx) (hI : Inj X) (a1 : Int) (M : Mem) (Q : Int → Mem → Prop) (h : wp_X8_fit a1 M Q) : MI X l yX8_fit cX8_fit 6 (some .int) 3 [.ref (xA X 62), .int (jI a1)] M Q := by
  refine MI.of hI (by decide) (Nat.le_of_ble_eq_true rfl) ?_
  intro p e R s m args below meth c ls E hW hl
  have E : En X (AW X) 3 p R s m args meth c cX8_fit RX8 6 (some .int) 0 0 := E
  have hl : lv_has ls 6 [(0, .ref (xA X 62)), (1, .int (jI a1))] := hl
  unfold wp_X8_fit at h
  refine q_aload_n (n := 1) (q := 0) E.1 hl rfl dX8_fit_0 rfl rfl ?_
  refine q_get (n := 4) (k := 3) (fs := (fs62 X)) (v := .int (jI (M 62 3))) E hW (by decide) (fun _ => rfl) K8 (by decide) w718 rfl rfl dX8_fit_1 rfl ?_
  refine q_istore_n (n := 5) [(2, .int (jI (M 62 3))), (0, .ref (xA X 62)), (1, .int (jI a1))] E.1 hl dX8_fit_4 rfl (by decide) rfl rfl (fun ls hl => ?_)
  refine q_aload_n (n := 6) (q := 1) E.1 hl rfl dX8_fit_5 rfl rfl ?_
  refine q_iconst (n := 7) E.1 dX8_fit_6 rfl ?_
  refine q_put (n := 10) (k := 3) (fs := (fs62 X)) E hW (by decide) (fun _ => rfl) K8 (by decide) w718 rfl rfl ⟨rfl, rfl⟩ (Nat.le_of_ble_eq_true rfl) (fun _ => rfl) dX8_fit_7 rfl (fun H locs hW => ?_)
  refine q_iload_n (n := 11) (q := 0) E.1 hl rfl dX8_fit_10 rfl rfl ?_
  refine q_bipush (n := 13) E.1 dX8_fit_11 (by decide) rfl ?_
  obtain ⟨g1, h2, h3⟩ := h
  refine q_icmp_gt (t := 35) (n := 16) E.1 g1 (by decide) dX8_fit_13 (by decide) rfl (fun c4 => ?_) (fun c4 => ?_)
  · have h := h2 c4
    refine q_iconst (n := 36) E.1 dX8_fit_35 rfl ?_
    exact q_iret E hW h dX8_fit_36
  · have h := h3 c4
    refine q_aload_n (n := 17) (q := 1) E.1 hl rfl dX8_fit_16 rfl rfl ?_
    refine q_iload_n (n := 18) (q := 0) E.1 hl rfl dX8_fit_17 rfl rfl ?_
    refine q_callVi (n := 21) (fs := (fs62 X)) [.int (jI (M 62 3))] E hW hl.1 (by decide) (fun _ => rfl) K8 (c_X8_areSigns l X E.2.2.1.1 (M 62 3)  _ _ h) (by decide) Y_RX8_114 rfl (rest := []) rfl (Nat.le_of_ble_eq_true rfl) dX8_fit_18 rfl (fun r6 M5 H locs h hW => ?_)
    obtain ⟨g7, h8, h9⟩ := h
    refine q_if_eq (t := 35) (n := 24) E.1 g7 dX8_fit_21 (by decide) rfl (fun c10 => ?_) (fun c10 => ?_)
    · have h := h8 c10
      refine q_iconst (n := 36) E.1 dX8_fit_35 rfl ?_
      exact q_iret E hW h dX8_fit_36
    · have h := h9 c10
      refine q_iload_n (n := 25) (q := 2) E.1 hl rfl dX8_fit_24 rfl rfl ?_
      refine q_iconst (n := 26) E.1 dX8_fit_25 rfl ?_
      refine q_sipush (n := 29) E.1 dX8_fit_26 (by decide) rfl ?_
      refine q_callSi (n := 32) [.int (jI a1), .int (jI 0), .int (jI 999)] E hW hl.1 (c_X8_isIn l X E.2.2.1.1 a1 0 999  _ _ h) (by decide) Y_RX8_103 rfl (rest := []) rfl (Nat.le_of_ble_eq_true rfl) dX8_fit_29 rfl (fun r12 M11 H locs h hW => ?_)
      obtain ⟨g13, h14, h15⟩ := h
      refine q_if_ne (t := 37) (n := 35) E.1 g13 dX8_fit_32 (by decide) rfl (fun c16 => ?_) (fun c16 => ?_)
      · have h := h14 c16
        refine q_aload_n (n := 38) (q := 1) E.1 hl rfl dX8_fit_37 rfl rfl ?_
        refine q_iconst (n := 39) E.1 dX8_fit_38 rfl ?_
        refine q_put (n := 42) (k := 15) (fs := (fs62 X)) E hW (by decide) (fun _ => rfl) K8 (by decide) w730 rfl rfl ⟨rfl, rfl⟩ (Nat.le_of_ble_eq_true rfl) (fun _ => rfl) dX8_fit_39 rfl (fun H locs hW => ?_)
        refine q_iconst (n := 43) E.1 dX8_fit_42 rfl ?_
        refine q_istore_n (n := 44) [(3, .int (jI 0)), (2, .int (jI (M 62 3))), (0, .ref (xA X 62)), (1, .int (jI a1))] E.1 hl dX8_fit_43 rfl (by decide) rfl rfl (fun ls hl => ?_)
        obtain ⟨n17, h⟩ := h
        exact v_X8_fit_44 a1 E Q n17 _ _ _ _ _ _ h hW (lv_sub hl [2, 3, 1, 0] rfl)
      · have h := h15 c16
        refine q_iconst (n := 36) E.1 dX8_fit_35 rfl ?_
        exact q_iret E hW h dX8_fit_36
/-! StickerPressModel.used()I -/
theorem dX8_used_0 : decode cX8_used 0 = .ok (.aload_n 0, 1) := by decide +kernel
theorem dX8_used_1 : decode cX8_used 1 = .ok (.getfield 40, 3) := by decide +kernel
theorem dX8_used_4 : decode cX8_used 4 = .ok (.ireturn, 1) := by decide +kernel
def wp_X8_used (M : Mem) (Q : Int → Mem → Prop) : Prop := Q (M 62 17) M
set_option maxHeartbeats 4000000 in
set_option maxRecDepth 100000 in
theorem c_X8_used (l : Launch) (X : Cx) (hI : Inj X) (M : Mem) (Q : Int → Mem → Prop) (h : wp_X8_used M Q) : MI X l yX8_used cX8_used 1 (some .int) 0 [.ref (xA X 62)] M Q := by
  refine MI.of hI (by decide) (Nat.le_of_ble_eq_true rfl) ?_
  intro p e R s m args below meth c ls E hW hl
  have E : En X (AW X) 0 p R s m args meth c cX8_used RX8 1 (some .int) 0 0 := E
  have hl : lv_has ls 1 [(0, .ref (xA X 62))] := hl
  unfold wp_X8_used at h
  refine q_aload_n (n := 1) (q := 0) E.1 hl rfl dX8_used_0 rfl rfl ?_
  refine q_get (n := 4) (k := 17) (fs := (fs62 X)) (v := .int (jI (M 62 17))) E hW (by decide) (fun _ => rfl) K8 (by decide) w732 rfl rfl dX8_used_1 rfl ?_
  exact q_iret E hW h dX8_used_4
/-! StickerPressModel.out(I)I -/
theorem dX8_out_0 : decode cX8_out 0 = .ok (.iload_n 1, 1) := by decide +kernel
theorem dX8_out_1 : decode cX8_out 1 = .ok (.iconst 0, 1) := by decide +kernel
theorem dX8_out_2 : decode cX8_out 2 = .ok (.aload_n 0, 1) := by decide +kernel
theorem dX8_out_3 : decode cX8_out 3 = .ok (.getfield 153, 3) := by decide +kernel
theorem dX8_out_6 : decode cX8_out 6 = .ok (.iconst 1, 1) := by decide +kernel
theorem dX8_out_7 : decode cX8_out 7 = .ok (.isub, 1) := by decide +kernel
theorem dX8_out_8 : decode cX8_out 8 = .ok (.invokestatic 103, 3) := by decide +kernel
theorem dX8_out_11 : decode cX8_out 11 = .ok (.ifCond .eq 12, 3) := by decide +kernel
theorem dX8_out_14 : decode cX8_out 14 = .ok (.aload_n 0, 1) := by decide +kernel
theorem dX8_out_15 : decode cX8_out 15 = .ok (.getfield 16, 3) := by decide +kernel
theorem dX8_out_18 : decode cX8_out 18 = .ok (.iload_n 1, 1) := by decide +kernel
theorem dX8_out_19 : decode cX8_out 19 = .ok (.iaload, 1) := by decide +kernel
theorem dX8_out_20 : decode cX8_out 20 = .ok (.goto 4, 3) := by decide +kernel
theorem dX8_out_23 : decode cX8_out 23 = .ok (.iconst (-1), 1) := by decide +kernel
theorem dX8_out_24 : decode cX8_out 24 = .ok (.ireturn, 1) := by decide +kernel
def wp_X8_out (a1 : Int) (M : Mem) (Q : Int → Mem → Prop) : Prop := wp_X8_isIn a1 0 ((M 62 4) - 1) M (fun r2 M1 => (Rg r2 ∧ (r2 = 0 → Q (-1) M1) ∧ (¬ (r2 = 0) → (0 ≤ a1 ∧ a1 < 200) ∧ Q (M1 65 a1.toNat) M1)))
set_option maxHeartbeats 4000000 in
set_option maxRecDepth 100000 in
theorem c_X8_out (l : Launch) (X : Cx) (hI : Inj X) (a1 : Int) (M : Mem) (Q : Int → Mem → Prop) (h : wp_X8_out a1 M Q) : MI X l yX8_out cX8_out 2 (some .int) 1 [.ref (xA X 62), .int (jI a1)] M Q := by
  refine MI.of hI (by decide) (Nat.le_of_ble_eq_true rfl) ?_
  intro p e R s m args below meth c ls E hW hl
  have E : En X (AW X) 1 p R s m args meth c cX8_out RX8 2 (some .int) 0 0 := E
  have hl : lv_has ls 2 [(0, .ref (xA X 62)), (1, .int (jI a1))] := hl
  unfold wp_X8_out at h
  refine q_iload_n (n := 1) (q := 1) E.1 hl rfl dX8_out_0 rfl rfl ?_
  refine q_iconst (n := 2) E.1 dX8_out_1 rfl ?_
  refine q_aload_n (n := 3) (q := 0) E.1 hl rfl dX8_out_2 rfl rfl ?_
  refine q_get (n := 6) (k := 4) (fs := (fs62 X)) (v := .int (jI (M 62 4))) E hW (by decide) (fun _ => rfl) K8 (by decide) w719 rfl rfl dX8_out_3 rfl ?_
  refine q_iconst (n := 7) E.1 dX8_out_6 rfl ?_
  refine q_isub (n := 8) E.1 dX8_out_7 rfl ?_
  refine q_callSi (n := 11) [.int (jI a1), .int (jI 0), .int (jI ((M 62 4) - 1))] E hW hl.1 (c_X8_isIn l X E.2.2.1.1 a1 0 ((M 62 4) - 1)  _ _ h) (by decide) Y_RX8_103 rfl (rest := []) rfl (Nat.le_of_ble_eq_true rfl) dX8_out_8 rfl (fun r2 M1 H locs h hW => ?_)
  obtain ⟨g3, h4, h5⟩ := h
  refine q_if_eq (t := 23) (n := 14) E.1 g3 dX8_out_11 (by decide) rfl (fun c6 => ?_) (fun c6 => ?_)
  · have h := h4 c6
    refine q_iconst (n := 24) E.1 dX8_out_23 rfl ?_
    exact q_iret E hW h dX8_out_24
  · have h := h5 c6
    refine q_aload_n (n := 15) (q := 0) E.1 hl rfl dX8_out_14 rfl rfl ?_
    refine q_get (n := 18) (k := 2) (fs := (fs62 X)) (v := .ref (xA X 65)) E hW (by decide) (fun _ => rfl) K8 (by decide) w717 rfl rfl dX8_out_15 rfl ?_
    refine q_iload_n (n := 19) (q := 1) E.1 hl rfl dX8_out_18 rfl rfl ?_
    obtain ⟨g7, h⟩ := h
    refine q_iald (n := 20) E hW (by decide) (fun _ => rfl) (by decide) g7 dX8_out_19 rfl ?_
    refine q_goto (n := 24) E.1 dX8_out_20 (by decide) ?_
    exact q_iret E hW h dX8_out_24
/-! StickerPressModel.take()I -/
theorem dX8_take_0 : decode cX8_take 0 = .ok (.aload_n 0, 1) := by decide +kernel
theorem dX8_take_1 : decode cX8_take 1 = .ok (.aload_n 0, 1) := by decide +kernel
theorem dX8_take_2 : decode cX8_take 2 = .ok (.getfield 153, 3) := by decide +kernel
theorem dX8_take_5 : decode cX8_take 5 = .ok (.putfield 111, 3) := by decide +kernel
theorem dX8_take_8 : decode cX8_take 8 = .ok (.iconst 0, 1) := by decide +kernel
theorem dX8_take_9 : decode cX8_take 9 = .ok (.istore_n 1, 1) := by decide +kernel
theorem dX8_take_10 : decode cX8_take 10 = .ok (.iload_n 1, 1) := by decide +kernel
theorem dX8_take_11 : decode cX8_take 11 = .ok (.aload_n 0, 1) := by decide +kernel
theorem dX8_take_12 : decode cX8_take 12 = .ok (.getfield 153, 3) := by decide +kernel
theorem dX8_take_15 : decode cX8_take 15 = .ok (.if_icmp .ge 21, 3) := by decide +kernel
theorem dX8_take_18 : decode cX8_take 18 = .ok (.aload_n 0, 1) := by decide +kernel
theorem dX8_take_19 : decode cX8_take 19 = .ok (.getfield 13, 3) := by decide +kernel
theorem dX8_take_22 : decode cX8_take 22 = .ok (.iload_n 1, 1) := by decide +kernel
theorem dX8_take_23 : decode cX8_take 23 = .ok (.aload_n 0, 1) := by decide +kernel
theorem dX8_take_24 : decode cX8_take 24 = .ok (.getfield 16, 3) := by decide +kernel
theorem dX8_take_27 : decode cX8_take 27 = .ok (.iload_n 1, 1) := by decide +kernel
theorem dX8_take_28 : decode cX8_take 28 = .ok (.iaload, 1) := by decide +kernel
theorem dX8_take_29 : decode cX8_take 29 = .ok (.iastore, 1) := by decide +kernel
theorem dX8_take_30 : decode cX8_take 30 = .ok (.iinc 1 1, 3) := by decide +kernel
theorem dX8_take_33 : decode cX8_take 33 = .ok (.goto (-23), 3) := by decide +kernel
theorem dX8_take_36 : decode cX8_take 36 = .ok (.aload_n 0, 1) := by decide +kernel
theorem dX8_take_37 : decode cX8_take 37 = .ok (.getfield 153, 3) := by decide +kernel
theorem dX8_take_40 : decode cX8_take 40 = .ok (.ireturn, 1) := by decide +kernel
def wp_X8_take_10 (Q : Int → Mem → Prop) : Nat → Int → Mem → Prop
  | 0, _, _ => False
  | n + 1, x1, M => (Rg x1 ∧ Rg (M 62 4) ∧ ((M 62 4) ≤ x1 → Q (M 62 4) M) ∧ (¬ ((M 62 4) ≤ x1) → (0 ≤ x1 ∧ x1 < 200) ∧ (0 ≤ x1 ∧ x1 < 200) ∧ wp_X8_take_10 Q n (x1 + 1) (up M 64 x1.toNat (M 65 x1.toNat))))
set_option maxHeartbeats 4000000 in
set_option maxRecDepth 100000 in
theorem v_X8_take_10 (E : En X (AW X) 0 p R s m args meth c cX8_take RX8 2 (some .int) 0 0) (Q : Int → Mem → Prop) : ∀ n : Nat, ∀ (x1 : Int) (M : Mem) (H : Heap) (locs : List Loc) (ls : Array Slot), wp_X8_take_10 Q n x1 M → Wd X (AW X) s M H locs → lv_has ls 2 [(0, .ref (xA X 62)), (1, .int (jI x1))] → W p l e R s m args below meth c H locs 0 0 (MQ below (QI X Q) args s 0 0 (AW X)) (F0 m 10 ls []) := by
  intro n
  induction n with
  | zero => intro x1 M H locs ls h; exact absurd h (by simp [wp_X8_take_10])
  | succ n ih =>
    intro x1 M H locs ls h hW hl
    rw [wp_X8_take_10] at h
    refine q_iload_n (n := 11) (q := 1) E.1 hl rfl dX8_take_10 rfl rfl ?_
    refine q_aload_n (n := 12) (q := 0) E.1 hl rfl dX8_take_11 rfl rfl ?_
    refine q_get (n := 15) (k := 4) (fs := (fs62 X)) (v := .int (jI (M 62 4))) E hW (by decide) (fun _ => rfl) K8 (by decide) w719 rfl rfl dX8_take_12 rfl ?_
    obtain ⟨g1, g2, h3, h4⟩ := h
    refine q_icmp_ge (t := 36) (n := 18) E.1 g1 g2 dX8_take_15 (by decide) rfl (fun c5 => ?_) (fun c5 => ?_)
    · have h := h3 c5
      refine q_aload_n (n := 37) (q := 0) E.1 hl rfl dX8_take_36 rfl rfl ?_
      refine q_get (n := 40) (k := 4) (fs := (fs62 X)) (v := .int (jI (M 62 4))) E hW (by decide) (fun _ => rfl) K8 (by decide) w719 rfl rfl dX8_take_37 rfl ?_
      exact q_iret E hW h dX8_take_40
    · have h := h4 c5
      refine q_aload_n (n := 19) (q := 0) E.1 hl rfl dX8_take_18 rfl rfl ?_
      refine q_get (n := 22) (k := 1) (fs := (fs62 X)) (v := .ref (xA X 64)) E hW (by decide) (fun _ => rfl) K8 (by decide) w716 rfl rfl dX8_take_19 rfl ?_
      refine q_iload_n (n := 23) (q := 1) E.1 hl rfl dX8_take_22 rfl rfl ?_
      refine q_aload_n (n := 24) (q := 0) E.1 hl rfl dX8_take_23 rfl rfl ?_
      refine q_get (n := 27) (k := 2) (fs := (fs62 X)) (v := .ref (xA X 65)) E hW (by decide) (fun _ => rfl) K8 (by decide) w717 rfl rfl dX8_take_24 rfl ?_
      refine q_iload_n (n := 28) (q := 1) E.1 hl rfl dX8_take_27 rfl rfl ?_
      obtain ⟨g6, h⟩ := h
      refine q_iald (n := 29) E hW (by decide) (fun _ => rfl) (by decide) g6 dX8_take_28 rfl ?_
      obtain ⟨g7, h⟩ := h
      refine q_iast (n := 30) E hW (by decide) (fun _ => rfl) (by decide) g7 dX8_take_29 rfl (fun H locs hW => ?_)
      refine q_iinc (n := 33) (q := 1) [(1, .int (jI (x1 + 1))), (0, .ref (xA X 62))] E.1 hl rfl dX8_take_30 (by decide) rfl rfl (fun ls hl => ?_)
      refine q_goto (n := 10) E.1 dX8_take_33 (by decide) ?_
      exact ih _ _ _ _ _ h hW (lv_sub hl [1, 0] rfl)
def wp_X8_take (M : Mem) (Q : Int → Mem → Prop) : Prop := (∃ n : Nat, wp_X8_take_10 Q n 0 (up M 62 3 (M 62 4)))
set_option maxHeartbeats 4000000 in
set_option maxRecDepth 100000 in
theorem c_X8_take (l : Launch) (X : Cx) (hI : Inj X) (M : Mem) (Q : Int → Mem → Prop) (h : wp_X8_take M Q) : MI X l yX8_take cX8_take 2 (some .int) 0 [.ref (xA X 62)] M Q := by
  refine MI.of hI (by decide) (Nat.le_of_ble_eq_true rfl) ?_
  intro p e R s m args below meth c ls E hW hl
  have E : En X (AW X) 0 p R s m args meth c cX8_take RX8 2 (some .int) 0 0 := E
  have hl : lv_has ls 2 [(0, .ref (xA X 62))] := hl
  unfold wp_X8_take at h
  refine q_aload_n (n := 1) (q := 0) E.1 hl rfl dX8_take_0 rfl rfl ?_
  refine q_aload_n (n := 2) (q := 0) E.1 hl rfl dX8_take_1 rfl rfl ?_
  refine q_get (n := 5) (k := 4) (fs := (fs62 X)) (v := .int (jI (M 62 4))) E hW (by decide) (fun _ => rfl) K8 (by decide) w719 rfl rfl dX8_take_2 rfl ?_
  refine q_put (n := 8) (k := 3) (fs := (fs62 X)) E hW (by decide) (fun _ => rfl) K8 (by decide) w718 rfl rfl ⟨rfl, rfl⟩ (Nat.le_of_ble_eq_true rfl) (fun _ => rfl) dX8_take_5 rfl (fun H locs hW => ?_)
  refine q_iconst (n := 9) E.1 dX8_take_8 rfl ?_
  refine q_istore_n (n := 10) [(1, .int (jI 0)), (0, .ref (xA X 62))] E.1 hl dX8_take_9 rfl (by decide) rfl rfl (fun ls hl => ?_)
  obtain ⟨n1, h⟩ := h
  exact v_X8_take_10 E Q n1 _ _ _ _ _ h hW (lv_sub hl [1, 0] rfl)
end
