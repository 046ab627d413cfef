/-! StickerPress -/
section
variable {X : Cx} {p : Program} {l : Launch} {e : Env} {R : Room} {s : State} {m : MethodId} {args : Array Value} {below : List Frame} {meth : Method} {c : Code}
/-! StickerPress.wide(II)Z -/
theorem dX7_wide_0 : decode cX7_wide 0 = .ok (.aload_n 0, 1) := by decide +kernel
theorem dX7_wide_1 : decode cX7_wide 1 = .ok (.getfield 24, 3) := by decide +kernel
theorem dX7_wide_4 : decode cX7_wide 4 = .ok (.iload_n 1, 1) := by decide +kernel
theorem dX7_wide_5 : decode cX7_wide 5 = .ok (.iload_n 2, 1) := by decide +kernel
theorem dX7_wide_6 : decode cX7_wide 6 = .ok (.invokevirtual 56, 3) := by decide +kernel
theorem dX7_wide_9 : decode cX7_wide 9 = .ok (.ireturn, 1) := by decide +kernel
theorem Y_RX7_56 : YV RX7 56 RX2 yX2_setWidth cX2_setWidth 3 (some .boolean) 2 := ⟨w275, w272, w273, w274, w46, by decide +kernel, by decide⟩
def wp_X7_wide (a1 : Int) (a2 : Int) (M : Mem) (Q : Int → Mem → Prop) : Prop := wp_X2_setWidth a1 a2 M (fun r2 M1 => ((r2 = 0 ∨ r2 = 1) ∧ Q r2 M1))
set_option maxHeartbeats 4000000 in
set_option maxRecDepth 100000 in
theorem c_X7_wide (l : Launch) (X : Cx) (hI : Inj X) (a1 : Int) (a2 : Int) (M : Mem) (Q : Int → Mem → Prop) (h : wp_X7_wide a1 a2 M Q) : MI X l yX7_wide cX7_wide 3 (some .boolean) 1 [.ref (xA X 42), .int (jI a1), .int (jI a2)] M Q := by
  refine MI.of hI (by decide) (Nat.le_of_ble_eq_true rfl) ?_
  intro p e R s m args below meth c ls E hW hl
  have E : En X (AW X) 1 p R s m args meth c cX7_wide RX7 3 (some .boolean) 0 0 := E
  have hl : lv_has ls 3 [(0, .ref (xA X 42)), (1, .int (jI a1)), (2, .int (jI a2))] := hl
  unfold wp_X7_wide at h
  refine q_aload_n (n := 1) (q := 0) E.1 hl rfl dX7_wide_0 rfl rfl ?_
  refine q_get (n := 4) (k := 2) (fs := (fs42 X)) (v := .ref (xA X 43)) E hW (by decide) (fun _ => rfl) K7 (by decide) w248 rfl rfl dX7_wide_1 rfl ?_
  refine q_iload_n (n := 5) (q := 1) E.1 hl rfl dX7_wide_4 rfl rfl ?_
  refine q_iload_n (n := 6) (q := 2) E.1 hl rfl dX7_wide_5 rfl rfl ?_
  refine q_callVi (n := 9) (fs := (fs43 X)) [.int (jI a1), .int (jI a2)] E hW hl.1 (by decide) (fun _ => rfl) K2 (c_X2_setWidth l X E.2.2.1.1 a1 a2  _ _ h) (by decide) Y_RX7_56 rfl (rest := []) rfl (Nat.le_of_ble_eq_true rfl) dX7_wide_6 rfl (fun r2 M1 H locs h hW => ?_)
  exact q_zret E hW h.1 h.2 dX7_wide_9
/-! StickerPress.feedBytes(I)V -/
theorem dX7_feedBytes_0 : decode cX7_feedBytes 0 = .ok (.bipush 24, 2) := by decide +kernel
theorem dX7_feedBytes_2 : decode cX7_feedBytes 2 = .ok (.istore_n 2, 1) := by decide +kernel
theorem dX7_feedBytes_3 : decode cX7_feedBytes 3 = .ok (.iload_n 2, 1) := by decide +kernel
theorem dX7_feedBytes_4 : decode cX7_feedBytes 4 = .ok (.ifCond .lt 24, 3) := by decide +kernel
theorem dX7_feedBytes_7 : decode cX7_feedBytes 7 = .ok (.aload_n 0, 1) := by decide +kernel
theorem dX7_feedBytes_8 : decode cX7_feedBytes 8 = .ok (.getfield 14, 3) := by decide +kernel
theorem dX7_feedBytes_11 : decode cX7_feedBytes 11 = .ok (.iload_n 1, 1) := by decide +kernel
theorem dX7_feedBytes_12 : decode cX7_feedBytes 12 = .ok (.iload_n 2, 1) := by decide +kernel
theorem dX7_feedBytes_13 : decode cX7_feedBytes 13 = .ok (.iushr, 1) := by decide +kernel
theorem dX7_feedBytes_14 : decode cX7_feedBytes 14 = .ok (.sipush 255, 3) := by decide +kernel
theorem dX7_feedBytes_17 : decode cX7_feedBytes 17 = .ok (.iand, 1) := by decide +kernel
theorem dX7_feedBytes_18 : decode cX7_feedBytes 18 = .ok (.invokevirtual 173, 3) := by decide +kernel
theorem dX7_feedBytes_21 : decode cX7_feedBytes 21 = .ok (.pop, 1) := by decide +kernel
theorem dX7_feedBytes_22 : decode cX7_feedBytes 22 = .ok (.iinc 2 (-8), 3) := by decide +kernel
theorem dX7_feedBytes_25 : decode cX7_feedBytes 25 = .ok (.goto (-22), 3) := by decide +kernel
theorem dX7_feedBytes_28 : decode cX7_feedBytes 28 = .ok (.return_, 1) := by decide +kernel
theorem Y_RX7_173 : YV RX7 173 RX4 yX4_add cX4_add 2 (some .boolean) 1 := ⟨w291, w288, w289, w290, w44, by decide +kernel, by decide⟩
def wp_X7_feedBytes_3 (a1 : Int) (Q : Mem → Prop) : Nat → Int → Mem → Prop
  | 0, _, _ => False
  | n + 1, x2, M => (Rg x2 ∧ (x2 < 0 → Q M) ∧ (¬ (x2 < 0) → wp_X4_add 0 (bAnd (bUshr a1 x2) 255) M (fun r6 M5 => wp_X7_feedBytes_3 a1 Q n (x2 + (-8)) M5)))
set_option maxHeartbeats 4000000 in
set_option maxRecDepth 100000 in
theorem v_X7_feedBytes_3 (a1 : Int) (E : En X (AW X) 1 p R s m args meth c cX7_feedBytes RX7 3 none 0 0) (Q : Mem → Prop) : ∀ n : Nat, ∀ (x2 : Int) (M : Mem) (H : Heap) (locs : List Loc) (ls : Array Slot), wp_X7_feedBytes_3 a1 Q n x2 M → Wd X (AW X) s M H locs → lv_has ls 3 [(0, .ref (xA X 42)), (1, .int (jI a1)), (2, .int (jI x2))] → W p l e R s m args below meth c H locs 0 0 (MQ below (QV X Q) args s 0 0 (AW X)) (F0 m 3 ls []) := by
  intro n
  induction n with
  | zero => intro x2 M H locs ls h; exact absurd h (by simp [wp_X7_feedBytes_3])
  | succ n ih =>
    intro x2 M H locs ls h hW hl
    rw [wp_X7_feedBytes_3] at h
    refine q_iload_n (n := 4) (q := 2) E.1 hl rfl dX7_feedBytes_3 rfl rfl ?_
    obtain ⟨g1, h2, h3⟩ := h
    refine q_if_lt (t := 28) (n := 7) E.1 g1 dX7_feedBytes_4 (by decide) rfl (fun c4 => ?_) (fun c4 => ?_)
    · have h := h2 c4
      exact q_vret E hW h dX7_feedBytes_28
    · have h := h3 c4
      refine q_aload_n (n := 8) (q := 0) E.1 hl rfl dX7_feedBytes_7 rfl rfl ?_
      refine q_get (n := 11) (k := 0) (fs := (fs42 X)) (v := .ref (xA X 0)) E hW (by decide) (fun _ => rfl) K7 (by decide) w246 rfl rfl dX7_feedBytes_8 rfl ?_
      refine q_iload_n (n := 12) (q := 1) E.1 hl rfl dX7_feedBytes_11 rfl rfl ?_
      refine q_iload_n (n := 13) (q := 2) E.1 hl rfl dX7_feedBytes_12 rfl rfl ?_
      refine q_iushr (n := 14) E.1 dX7_feedBytes_13 rfl ?_
      refine q_sipush (n := 17) E.1 dX7_feedBytes_14 (by decide) rfl ?_
      refine q_iand (n := 18) E.1 dX7_feedBytes_17 rfl ?_
      refine q_callVi (n := 21) (fs := (fsRow X 0)) [.int (jI (bAnd (bUshr a1 x2) 255))] E hW hl.1 (isRow_lt (by decide)) (ent_row X (by decide)) K4 (c_X4_add l X E.2.2.1.1 0 (bAnd (bUshr a1 x2) 255) (by decide) _ _ h) (by decide) Y_RX7_173 rfl (rest := []) rfl (Nat.le_of_ble_eq_true rfl) dX7_feedBytes_18 rfl (fun r6 M5 H locs h hW => ?_)
      refine q_pop (n := 22) E.1 dX7_feedBytes_21 rfl rfl ?_
      refine q_iinc (n := 25) (q := 2) [(2, .int (jI (x2 + (-8)))), (0, .ref (xA X 42)), (1, .int (jI a1))] E.1 hl rfl dX7_feedBytes_22 (by decide) rfl rfl (fun ls hl => ?_)
      refine q_goto (n := 3) E.1 dX7_feedBytes_25 (by decide) ?_
      exact ih _ _ _ _ _ h hW (lv_sub hl [1, 2, 0] rfl)
def wp_X7_feedBytes (a1 : Int) (M : Mem) (Q : Mem → Prop) : Prop := (∃ n : Nat, wp_X7_feedBytes_3 a1 Q n 24 M)
set_option maxHeartbeats 4000000 in
set_option maxRecDepth 100000 in
theorem c_X7_feedBytes (l : Launch) (X : Cx) (hI : Inj X) (a1 : Int) (M : Mem) (Q : Mem → Prop) (h : wp_X7_feedBytes a1 M Q) : MV X l yX7_feedBytes cX7_feedBytes 3 1 [.ref (xA X 42), .int (jI a1)] M Q := by
  refine MV.of hI (by decide) (Nat.le_of_ble_eq_true rfl) ?_
  intro p e R s m args below meth c ls E hW hl
  have E : En X (AW X) 1 p R s m args meth c cX7_feedBytes RX7 3 none 0 0 := E
  have hl : lv_has ls 3 [(0, .ref (xA X 42)), (1, .int (jI a1))] := hl
  unfold wp_X7_feedBytes at h
  refine q_bipush (n := 2) E.1 dX7_feedBytes_0 (by decide) rfl ?_
  refine q_istore_n (n := 3) [(2, .int (jI 24)), (0, .ref (xA X 42)), (1, .int (jI a1))] E.1 hl dX7_feedBytes_2 rfl (by decide) rfl rfl (fun ls hl => ?_)
  obtain ⟨n1, h⟩ := h
  exact v_X7_feedBytes_3 a1 E Q n1 _ _ _ _ _ h hW (lv_sub hl [1, 2, 0] rfl)
/-! StickerPress.feed(IIIII)I -/
theorem dX7_feed_0 : decode cX7_feed 0 = .ok (.aload_n 0, 1) := by decide +kernel
theorem dX7_feed_1 : decode cX7_feed 1 = .ok (.getfield 14, 3) := by decide +kernel
theorem dX7_feed_4 : decode cX7_feed 4 = .ok (.invokevirtual 60, 3) := by decide +kernel
theorem dX7_feed_7 : decode cX7_feed 7 = .ok (.bipush 20, 2) := by decide +kernel
theorem dX7_feed_9 : decode cX7_feed 9 = .ok (.iadd, 1) := by decide +kernel
theorem dX7_feed_10 : decode cX7_feed 10 = .ok (.sipush 200, 3) := by decide +kernel
theorem dX7_feed_13 : decode cX7_feed 13 = .ok (.if_icmp .le 5, 3) := by decide +kernel
theorem dX7_feed_16 : decode cX7_feed 16 = .ok (.iconst (-1), 1) := by decide +kernel
theorem dX7_feed_17 : decode cX7_feed 17 = .ok (.ireturn, 1) := by decide +kernel
theorem dX7_feed_18 : decode cX7_feed 18 = .ok (.aload_n 0, 1) := by decide +kernel
theorem dX7_feed_19 : decode cX7_feed 19 = .ok (.iload_n 1, 1) := by decide +kernel
theorem dX7_feed_20 : decode cX7_feed 20 = .ok (.invokevirtual 64, 3) := by decide +kernel
theorem dX7_feed_23 : decode cX7_feed 23 = .ok (.aload_n 0, 1) := by decide +kernel
theorem dX7_feed_24 : decode cX7_feed 24 = .ok (.iload_n 2, 1) := by decide +kernel
theorem dX7_feed_25 : decode cX7_feed 25 = .ok (.invokevirtual 64, 3) := by decide +kernel
theorem dX7_feed_28 : decode cX7_feed 28 = .ok (.aload_n 0, 1) := by decide +kernel
theorem dX7_feed_29 : decode cX7_feed 29 = .ok (.iload_n 3, 1) := by decide +kernel
theorem dX7_feed_30 : decode cX7_feed 30 = .ok (.invokevirtual 64, 3) := by decide +kernel
theorem dX7_feed_33 : decode cX7_feed 33 = .ok (.aload_n 0, 1) := by decide +kernel
theorem dX7_feed_34 : decode cX7_feed 34 = .ok (.iload 4, 2) := by decide +kernel
theorem dX7_feed_36 : decode cX7_feed 36 = .ok (.invokevirtual 64, 3) := by decide +kernel
theorem dX7_feed_39 : decode cX7_feed 39 = .ok (.aload_n 0, 1) := by decide +kernel
theorem dX7_feed_40 : decode cX7_feed 40 = .ok (.iload 5, 2) := by decide +kernel
theorem dX7_feed_42 : decode cX7_feed 42 = .ok (.invokevirtual 64, 3) := by decide +kernel
theorem dX7_feed_45 : decode cX7_feed 45 = .ok (.aload_n 0, 1) := by decide +kernel
theorem dX7_feed_46 : decode cX7_feed 46 = .ok (.getfield 14, 3) := by decide +kernel
theorem dX7_feed_49 : decode cX7_feed 49 = .ok (.invokevirtual 60, 3) := by decide +kernel
theorem dX7_feed_52 : decode cX7_feed 52 = .ok (.ireturn, 1) := by decide +kernel
theorem Y_RX7_60 : YV RX7 60 RX4 yX4_size cX4_size 1 (some .int) 0 := ⟨w283, w280, w281, w282, w44, by decide +kernel, by decide⟩
theorem Y_RX7_64 : YV RX7 64 RX7 yX7_feedBytes cX7_feedBytes 3 none 1 := ⟨w287, w284, w286, w0, w43, by decide +kernel, by decide⟩
def wp_X7_feed (a1 : Int) (a2 : Int) (a3 : Int) (a4 : Int) (a5 : Int) (M : Mem) (Q : Int → Mem → Prop) : Prop := wp_X4_size 0 M (fun r2 M1 => (Rg (r2 + 20) ∧ ((r2 + 20) ≤ 200 → wp_X7_feedBytes a1 M1 (fun M7 => wp_X7_feedBytes a2 M7 (fun M8 => wp_X7_feedBytes a3 M8 (fun M9 => wp_X7_feedBytes a4 M9 (fun M10 => wp_X7_feedBytes a5 M10 (fun M11 => wp_X4_size 0 M11 (fun r13 M12 => Q r13 M12))))))) ∧ (¬ ((r2 + 20) ≤ 200) → Q (-1) M1)))
set_option maxHeartbeats 4000000 in
set_option maxRecDepth 100000 in
theorem c_X7_feed (l : Launch) (X : Cx) (hI : Inj X) (a1 : Int) (a2 : Int) (a3 : Int) (a4 : Int) (a5 : Int) (M : Mem) (Q : Int → Mem → Prop) (h : wp_X7_feed a1 a2 a3 a4 a5 M Q) : MI X l yX7_feed cX7_feed 6 (some .int) 2 [.ref (xA X 42), .int (jI a1), .int (jI a2), .int (jI a3), .int (jI a4), .int (jI a5)] M Q := by
  refine MI.of hI (by decide) (Nat.le_of_ble_eq_true rfl) ?_
  intro p e R s m args below meth c ls E hW hl
  have E : En X (AW X) 2 p R s m args meth c cX7_feed RX7 6 (some .int) 0 0 := E
  have hl : lv_has ls 6 [(0, .ref (xA X 42)), (1, .int (jI a1)), (2, .int (jI a2)), (3, .int (jI a3)), (4, .int (jI a4)), (5, .int (jI a5))] := hl
  unfold wp_X7_feed at h
  refine q_aload_n (n := 1) (q := 0) E.1 hl rfl dX7_feed_0 rfl rfl ?_
  refine q_get (n := 4) (k := 0) (fs := (fs42 X)) (v := .ref (xA X 0)) E hW (by decide) (fun _ => rfl) K7 (by decide) w246 rfl rfl dX7_feed_1 rfl ?_
  refine q_callVi (n := 7) (fs := (fsRow X 0)) [] E hW hl.1 (isRow_lt (by decide)) (ent_row X (by decide)) K4 (c_X4_size l X E.2.2.1.1 0 (by decide) _ _ h) (by decide) Y_RX7_60 rfl (rest := []) rfl (Nat.le_of_ble_eq_true rfl) dX7_feed_4 rfl (fun r2 M1 H locs h hW => ?_)
  refine q_bipush (n := 9) E.1 dX7_feed_7 (by decide) rfl ?_
  refine q_iadd (n := 10) E.1 dX7_feed_9 rfl ?_
  refine q_sipush (n := 13) E.1 dX7_feed_10 (by decide) rfl ?_
  obtain ⟨g3, h4, h5⟩ := h
  refine q_icmp_le (t := 18) (n := 16) E.1 g3 (by decide) dX7_feed_13 (by decide) rfl (fun c6 => ?_) (fun c6 => ?_)
  · have h := h4 c6
    refine q_aload_n (n := 19) (q := 0) E.1 hl rfl dX7_feed_18 rfl rfl ?_
    refine q_iload_n (n := 20) (q := 1) E.1 hl rfl dX7_feed_19 rfl rfl ?_
    refine q_callVv (n := 23) (fs := (fs42 X)) [.int (jI a1)] E hW hl.1 (by decide) (fun _ => rfl) K7 (c_X7_feedBytes l X E.2.2.1.1 a1  _ _ h) (by decide) Y_RX7_64 rfl (rest := []) rfl (Nat.le_of_ble_eq_true rfl) dX7_feed_20 rfl (fun M7 H locs h hW => ?_)
    refine q_aload_n (n := 24) (q := 0) E.1 hl rfl dX7_feed_23 rfl rfl ?_
    refine q_iload_n (n := 25) (q := 2) E.1 hl rfl dX7_feed_24 rfl rfl ?_
    refine q_callVv (n := 28) (fs := (fs42 X)) [.int (jI a2)] E hW hl.1 (by decide) (fun _ => rfl) K7 (c_X7_feedBytes l X E.2.2.1.1 a2  _ _ h) (by decide) Y_RX7_64 rfl (rest := []) rfl (Nat.le_of_ble_eq_true rfl) dX7_feed_25 rfl (fun M8 H locs h hW => ?_)
    refine q_aload_n (n := 29) (q := 0) E.1 hl rfl dX7_feed_28 rfl rfl ?_
    refine q_iload_n (n := 30) (q := 3) E.1 hl rfl dX7_feed_29 rfl rfl ?_
    refine q_callVv (n := 33) (fs := (fs42 X)) [.int (jI a3)] E hW hl.1 (by decide) (fun _ => rfl) K7 (c_X7_feedBytes l X E.2.2.1.1 a3  _ _ h) (by decide) Y_RX7_64 rfl (rest := []) rfl (Nat.le_of_ble_eq_true rfl) dX7_feed_30 rfl (fun M9 H locs h hW => ?_)
    refine q_aload_n (n := 34) (q := 0) E.1 hl rfl dX7_feed_33 rfl rfl ?_
    refine q_iload (n := 36) (q := 4) E.1 hl rfl dX7_feed_34 rfl ?_
    refine q_callVv (n := 39) (fs := (fs42 X)) [.int (jI a4)] E hW hl.1 (by decide) (fun _ => rfl) K7 (c_X7_feedBytes l X E.2.2.1.1 a4  _ _ h) (by decide) Y_RX7_64 rfl (rest := []) rfl (Nat.le_of_ble_eq_true rfl) dX7_feed_36 rfl (fun M10 H locs h hW => ?_)
    refine q_aload_n (n := 40) (q := 0) E.1 hl rfl dX7_feed_39 rfl rfl ?_
    refine q_iload (n := 42) (q := 5) E.1 hl rfl dX7_feed_40 rfl ?_
    refine q_callVv (n := 45) (fs := (fs42 X)) [.int (jI a5)] E hW hl.1 (by decide) (fun _ => rfl) K7 (c_X7_feedBytes l X E.2.2.1.1 a5  _ _ h) (by decide) Y_RX7_64 rfl (rest := []) rfl (Nat.le_of_ble_eq_true rfl) dX7_feed_42 rfl (fun M11 H locs h hW => ?_)
    refine q_aload_n (n := 46) (q := 0) E.1 hl rfl dX7_feed_45 rfl rfl ?_
    refine q_get (n := 49) (k := 0) (fs := (fs42 X)) (v := .ref (xA X 0)) E hW (by decide) (fun _ => rfl) K7 (by decide) w246 rfl rfl dX7_feed_46 rfl ?_
    refine q_callVi (n := 52) (fs := (fsRow X 0)) [] E hW hl.1 (isRow_lt (by decide)) (ent_row X (by decide)) K4 (c_X4_size l X E.2.2.1.1 0 (by decide) _ _ h) (by decide) Y_RX7_60 rfl (rest := []) rfl (Nat.le_of_ble_eq_true rfl) dX7_feed_49 rfl (fun r13 M12 H locs h hW => ?_)
    exact q_iret E hW h dX7_feed_52
  · have h := h5 c6
    refine q_iconst (n := 17) E.1 dX7_feed_16 rfl ?_
    exact q_iret E hW h dX7_feed_17
/-! StickerPress.end(I)Z -/
theorem dX7_end_0 : decode cX7_end 0 = .ok (.aload_n 0, 1) := by decide +kernel
theorem dX7_end_1 : decode cX7_end 1 = .ok (.getfield 14, 3) := by decide +kernel
theorem dX7_end_4 : decode cX7_end 4 = .ok (.iload_n 1, 1) := by decide +kernel
theorem dX7_end_5 : decode cX7_end 5 = .ok (.invokevirtual 67, 3) := by decide +kernel
theorem dX7_end_8 : decode cX7_end 8 = .ok (.ireturn, 1) := by decide +kernel
theorem Y_RX7_67 : YV RX7 67 RX4 yX4_cut cX4_cut 2 (some .boolean) 1 := ⟨w299, w296, w297, w298, w44, by decide +kernel, by decide⟩
def wp_X7_end (a1 : Int) (M : Mem) (Q : Int → Mem → Prop) : Prop := wp_X4_cut 0 a1 M (fun r2 M1 => ((r2 = 0 ∨ r2 = 1) ∧ Q r2 M1))
set_option maxHeartbeats 4000000 in
set_option maxRecDepth 100000 in
theorem c_X7_end (l : Launch) (X : Cx) (hI : Inj X) (a1 : Int) (M : Mem) (Q : Int → Mem → Prop) (h : wp_X7_end a1 M Q) : MI X l yX7_end cX7_end 2 (some .boolean) 1 [.ref (xA X 42), .int (jI a1)] M Q := by
  refine MI.of hI (by decide) (Nat.le_of_ble_eq_true rfl) ?_
  intro p e R s m args below meth c ls E hW hl
  have E : En X (AW X) 1 p R s m args meth c cX7_end RX7 2 (some .boolean) 0 0 := E
  have hl : lv_has ls 2 [(0, .ref (xA X 42)), (1, .int (jI a1))] := hl
  unfold wp_X7_end at h
  refine q_aload_n (n := 1) (q := 0) E.1 hl rfl dX7_end_0 rfl rfl ?_
  refine q_get (n := 4) (k := 0) (fs := (fs42 X)) (v := .ref (xA X 0)) E hW (by decide) (fun _ => rfl) K7 (by decide) w246 rfl rfl dX7_end_1 rfl ?_
  refine q_iload_n (n := 5) (q := 1) E.1 hl rfl dX7_end_4 rfl rfl ?_
  refine q_callVi (n := 8) (fs := (fsRow X 0)) [.int (jI a1)] E hW hl.1 (isRow_lt (by decide)) (ent_row X (by decide)) K4 (c_X4_cut l X E.2.2.1.1 0 a1 (by decide) _ _ h) (by decide) Y_RX7_67 rfl (rest := []) rfl (Nat.le_of_ble_eq_true rfl) dX7_end_5 rfl (fun r2 M1 H locs h hW => ?_)
  exact q_zret E hW h.1 h.2 dX7_end_8
/-! StickerPress.shorten(II)Z -/
theorem dX7_shorten_0 : decode cX7_shorten 0 = .ok (.aload_n 0, 1) := by decide +kernel
theorem dX7_shorten_1 : decode cX7_shorten 1 = .ok (.getfield 24, 3) := by decide +kernel
theorem dX7_shorten_4 : decode cX7_shorten 4 = .ok (.iload_n 1, 1) := by decide +kernel
theorem dX7_shorten_5 : decode cX7_shorten 5 = .ok (.aload_n 0, 1) := by decide +kernel
theorem dX7_shorten_6 : decode cX7_shorten 6 = .ok (.getfield 14, 3) := by decide +kernel
theorem dX7_shorten_9 : decode cX7_shorten 9 = .ok (.iload_n 2, 1) := by decide +kernel
theorem dX7_shorten_10 : decode cX7_shorten 10 = .ok (.invokevirtual 71, 3) := by decide +kernel
theorem dX7_shorten_13 : decode cX7_shorten 13 = .ok (.istore_n 3, 1) := by decide +kernel
theorem dX7_shorten_14 : decode cX7_shorten 14 = .ok (.aload_n 0, 1) := by decide +kernel
theorem dX7_shorten_15 : decode cX7_shorten 15 = .ok (.getfield 14, 3) := by decide +kernel
theorem dX7_shorten_18 : decode cX7_shorten 18 = .ok (.invokevirtual 75, 3) := by decide +kernel
theorem dX7_shorten_21 : decode cX7_shorten 21 = .ok (.iload_n 3, 1) := by decide +kernel
theorem dX7_shorten_22 : decode cX7_shorten 22 = .ok (.ireturn, 1) := by decide +kernel
theorem Y_RX7_71 : YV RX7 71 RX2 yX2_setShortening cX2_setShortening 4 (some .boolean) 3 := ⟨w307, w304, w305, w306, w46, by decide +kernel, by decide⟩
theorem Y_RX7_75 : YV RX7 75 RX4 yX4_clear cX4_clear 1 none 0 := ⟨w326, w332, w324, w325, w44, by decide +kernel, by decide⟩
def wp_X7_shorten (a1 : Int) (a2 : Int) (M : Mem) (Q : Int → Mem → Prop) : Prop := wp_X2_setShortening a1 0 a2 M (fun r2 M1 => wp_X4_clear 0 M1 (fun M3 => ((r2 = 0 ∨ r2 = 1) ∧ Q r2 M3)))
set_option maxHeartbeats 4000000 in
set_option maxRecDepth 100000 in
theorem c_X7_shorten (l : Launch) (X : Cx) (hI : Inj X) (a1 : Int) (a2 : Int) (M : Mem) (Q : Int → Mem → Prop) (h : wp_X7_shorten a1 a2 M Q) : MI X l yX7_shorten cX7_shorten 4 (some .boolean) 5 [.ref (xA X 42), .int (jI a1), .int (jI a2)] M Q := by
  refine MI.of hI (by decide) (Nat.le_of_ble_eq_true rfl) ?_
  intro p e R s m args below meth c ls E hW hl
  have E : En X (AW X) 5 p R s m args meth c cX7_shorten RX7 4 (some .boolean) 0 0 := E
  have hl : lv_has ls 4 [(0, .ref (xA X 42)), (1, .int (jI a1)), (2, .int (jI a2))] := hl
  unfold wp_X7_shorten at h
  refine q_aload_n (n := 1) (q := 0) E.1 hl rfl dX7_shorten_0 rfl rfl ?_
  refine q_get (n := 4) (k := 2) (fs := (fs42 X)) (v := .ref (xA X 43)) E hW (by decide) (fun _ => rfl) K7 (by decide) w248 rfl rfl dX7_shorten_1 rfl ?_
  refine q_iload_n (n := 5) (q := 1) E.1 hl rfl dX7_shorten_4 rfl rfl ?_
  refine q_aload_n (n := 6) (q := 0) E.1 hl rfl dX7_shorten_5 rfl rfl ?_
  refine q_get (n := 9) (k := 0) (fs := (fs42 X)) (v := .ref (xA X 0)) E hW (by decide) (fun _ => rfl) K7 (by decide) w246 rfl rfl dX7_shorten_6 rfl ?_
  refine q_iload_n (n := 10) (q := 2) E.1 hl rfl dX7_shorten_9 rfl rfl ?_
  refine q_callVi (n := 13) (fs := (fs43 X)) [.int (jI a1), .ref (xA X 0), .int (jI a2)] E hW hl.1 (by decide) (fun _ => rfl) K2 (c_X2_setShortening l X E.2.2.1.1 a1 0 a2 (by decide) _ _ h) (by decide) Y_RX7_71 rfl (rest := []) rfl (Nat.le_of_ble_eq_true rfl) dX7_shorten_10 rfl (fun r2 M1 H locs h hW => ?_)
  refine q_istore_n (n := 14) [(3, .int (jI r2)), (0, .ref (xA X 42)), (1, .int (jI a1)), (2, .int (jI a2))] E.1 hl dX7_shorten_13 rfl (by decide) rfl rfl (fun ls hl => ?_)
  refine q_aload_n (n := 15) (q := 1) E.1 hl rfl dX7_shorten_14 rfl rfl ?_
  refine q_get (n := 18) (k := 0) (fs := (fs42 X)) (v := .ref (xA X 0)) E hW (by decide) (fun _ => rfl) K7 (by decide) w246 rfl rfl dX7_shorten_15 rfl ?_
  refine q_callVv (n := 21) (fs := (fsRow X 0)) [] E hW hl.1 (isRow_lt (by decide)) (ent_row X (by decide)) K4 (c_X4_clear l X E.2.2.1.1 0 (by decide) _ _ h) (by decide) Y_RX7_75 rfl (rest := []) rfl (Nat.le_of_ble_eq_true rfl) dX7_shorten_18 rfl (fun M3 H locs h hW => ?_)
  refine q_iload_n (n := 22) (q := 0) E.1 hl rfl dX7_shorten_21 rfl rfl ?_
  exact q_zret E hW h.1 h.2 dX7_shorten_22
/-! StickerPress.fit(I)I -/
theorem dX7_fit_0 : decode cX7_fit 0 = .ok (.aload_n 0, 1) := by decide +kernel
theorem dX7_fit_1 : decode cX7_fit 1 = .ok (.getfield 24, 3) := by decide +kernel
theorem dX7_fit_4 : decode cX7_fit 4 = .ok (.aload_n 0, 1) := by decide +kernel
theorem dX7_fit_5 : decode cX7_fit 5 = .ok (.getfield 14, 3) := by decide +kernel
theorem dX7_fit_8 : decode cX7_fit 8 = .ok (.iload_n 1, 1) := by decide +kernel
theorem dX7_fit_9 : decode cX7_fit 9 = .ok (.aload_n 0, 1) := by decide +kernel
theorem dX7_fit_10 : decode cX7_fit 10 = .ok (.getfield 18, 3) := by decide +kernel
theorem dX7_fit_13 : decode cX7_fit 13 = .ok (.invokevirtual 78, 3) := by decide +kernel
theorem dX7_fit_16 : decode cX7_fit 16 = .ok (.istore_n 2, 1) := by decide +kernel
theorem dX7_fit_17 : decode cX7_fit 17 = .ok (.aload_n 0, 1) := by decide +kernel
theorem dX7_fit_18 : decode cX7_fit 18 = .ok (.getfield 14, 3) := by decide +kernel
theorem dX7_fit_21 : decode cX7_fit 21 = .ok (.invokevirtual 75, 3) := by decide +kernel
theorem dX7_fit_24 : decode cX7_fit 24 = .ok (.iload_n 2, 1) := by decide +kernel
theorem dX7_fit_25 : decode cX7_fit 25 = .ok (.ireturn, 1) := by decide +kernel
theorem Y_RX7_78 : YV RX7 78 RX2 yX2_fitText cX2_fitText 5 (some .int) 3 := ⟨w340, w337, w338, w339, w46, by decide +kernel, by decide⟩
def wp_X7_fit (a1 : Int) (M : Mem) (Q : Int → Mem → Prop) : Prop := wp_X2_fitText 0 a1 2 M (fun r2 M1 => wp_X4_clear 0 M1 (fun M3 => Q r2 M3))
set_option maxHeartbeats 4000000 in
set_option maxRecDepth 100000 in
theorem c_X7_fit (l : Launch) (X : Cx) (hI : Inj X) (a1 : Int) (M : Mem) (Q : Int → Mem → Prop) (h : wp_X7_fit a1 M Q) : MI X l yX7_fit cX7_fit 3 (some .int) 6 [.ref (xA X 42), .int (jI a1)] M Q := by
  refine MI.of hI (by decide) (Nat.le_of_ble_eq_true rfl) ?_
  intro p e R s m args below meth c ls E hW hl
  have E : En X (AW X) 6 p R s m args meth c cX7_fit RX7 3 (some .int) 0 0 := E
  have hl : lv_has ls 3 [(0, .ref (xA X 42)), (1, .int (jI a1))] := hl
  unfold wp_X7_fit at h
  refine q_aload_n (n := 1) (q := 0) E.1 hl rfl dX7_fit_0 rfl rfl ?_
  refine q_get (n := 4) (k := 2) (fs := (fs42 X)) (v := .ref (xA X 43)) E hW (by decide) (fun _ => rfl) K7 (by decide) w248 rfl rfl dX7_fit_1 rfl ?_
  refine q_aload_n (n := 5) (q := 0) E.1 hl rfl dX7_fit_4 rfl rfl ?_
  refine q_get (n := 8) (k := 0) (fs := (fs42 X)) (v := .ref (xA X 0)) E hW (by decide) (fun _ => rfl) K7 (by decide) w246 rfl rfl dX7_fit_5 rfl ?_
  refine q_iload_n (n := 9) (q := 1) E.1 hl rfl dX7_fit_8 rfl rfl ?_
  refine q_aload_n (n := 10) (q := 0) E.1 hl rfl dX7_fit_9 rfl rfl ?_
  refine q_get (n := 13) (k := 1) (fs := (fs42 X)) (v := .ref (xA X 2)) E hW (by decide) (fun _ => rfl) K7 (by decide) w247 rfl rfl dX7_fit_10 rfl ?_
  refine q_callVi (n := 16) (fs := (fs43 X)) [.ref (xA X 0), .int (jI a1), .ref (xA X 2)] E hW hl.1 (by decide) (fun _ => rfl) K2 (c_X2_fitText l X E.2.2.1.1 0 a1 2 (by decide) (by decide) _ _ h) (by decide) Y_RX7_78 rfl (rest := []) rfl (Nat.le_of_ble_eq_true rfl) dX7_fit_13 rfl (fun r2 M1 H locs h hW => ?_)
  refine q_istore_n (n := 17) [(2, .int (jI r2)), (0, .ref (xA X 42)), (1, .int (jI a1))] E.1 hl dX7_fit_16 rfl (by decide) rfl rfl (fun ls hl => ?_)
  refine q_aload_n (n := 18) (q := 1) E.1 hl rfl dX7_fit_17 rfl rfl ?_
  refine q_get (n := 21) (k := 0) (fs := (fs42 X)) (v := .ref (xA X 0)) E hW (by decide) (fun _ => rfl) K7 (by decide) w246 rfl rfl dX7_fit_18 rfl ?_
  refine q_callVv (n := 24) (fs := (fsRow X 0)) [] E hW hl.1 (isRow_lt (by decide)) (ent_row X (by decide)) K4 (c_X4_clear l X E.2.2.1.1 0 (by decide) _ _ h) (by decide) Y_RX7_75 rfl (rest := []) rfl (Nat.le_of_ble_eq_true rfl) dX7_fit_21 rfl (fun M3 H locs h hW => ?_)
  refine q_iload_n (n := 25) (q := 0) E.1 hl rfl dX7_fit_24 rfl rfl ?_
  exact q_iret E hW h dX7_fit_25
/-! StickerPress.used()I -/
theorem dX7_used_0 : decode cX7_used 0 = .ok (.aload_n 0, 1) := by decide +kernel
theorem dX7_used_1 : decode cX7_used 1 = .ok (.getfield 24, 3) := by decide +kernel
theorem dX7_used_4 : decode cX7_used 4 = .ok (.invokevirtual 82, 3) := by decide +kernel
theorem dX7_used_7 : decode cX7_used 7 = .ok (.ireturn, 1) := by decide +kernel
theorem Y_RX7_82 : YV RX7 82 RX2 yX2_latestSet cX2_latestSet 1 (some .int) 0 := ⟨w382, w379, w380, w381, w46, by decide +kernel, by decide⟩
def wp_X7_used (M : Mem) (Q : Int → Mem → Prop) : Prop := wp_X2_latestSet  M (fun r2 M1 => Q r2 M1)
set_option maxHeartbeats 4000000 in
set_option maxRecDepth 100000 in
theorem c_X7_used (l : Launch) (X : Cx) (hI : Inj X) (M : Mem) (Q : Int → Mem → Prop) (h : wp_X7_used M Q) : MI X l yX7_used cX7_used 1 (some .int) 1 [.ref (xA X 42)] M Q := by
  refine MI.of hI (by decide) (Nat.le_of_ble_eq_true rfl) ?_
  intro p e R s m args below meth c ls E hW hl
  have E : En X (AW X) 1 p R s m args meth c cX7_used RX7 1 (some .int) 0 0 := E
  have hl : lv_has ls 1 [(0, .ref (xA X 42))] := hl
  unfold wp_X7_used at h
  refine q_aload_n (n := 1) (q := 0) E.1 hl rfl dX7_used_0 rfl rfl ?_
  refine q_get (n := 4) (k := 2) (fs := (fs42 X)) (v := .ref (xA X 43)) E hW (by decide) (fun _ => rfl) K7 (by decide) w248 rfl rfl dX7_used_1 rfl ?_
  refine q_callVi (n := 7) (fs := (fs43 X)) [] E hW hl.1 (by decide) (fun _ => rfl) K2 (c_X2_latestSet l X E.2.2.1.1   _ _ h) (by decide) Y_RX7_82 rfl (rest := []) rfl (Nat.le_of_ble_eq_true rfl) dX7_used_4 rfl (fun r2 M1 H locs h hW => ?_)
  exact q_iret E hW h dX7_used_7
/-! StickerPress.out(I)I -/
theorem dX7_out_0 : decode cX7_out 0 = .ok (.aload_n 0, 1) := by decide +kernel
theorem dX7_out_1 : decode cX7_out 1 = .ok (.getfield 18, 3) := by decide +kernel
theorem dX7_out_4 : decode cX7_out 4 = .ok (.iload_n 1, 1) := by decide +kernel
theorem dX7_out_5 : decode cX7_out 5 = .ok (.invokevirtual 85, 3) := by decide +kernel
theorem dX7_out_8 : decode cX7_out 8 = .ok (.ireturn, 1) := by decide +kernel
theorem Y_RX7_85 : YV RX7 85 RX4 yX4_at cX4_at 2 (some .int) 1 := ⟨w322, w387, w320, w321, w44, by decide +kernel, by decide⟩
def wp_X7_out (a1 : Int) (M : Mem) (Q : Int → Mem → Prop) : Prop := wp_X4_at 2 a1 M (fun r2 M1 => Q r2 M1)
set_option maxHeartbeats 4000000 in
set_option maxRecDepth 100000 in
theorem c_X7_out (l : Launch) (X : Cx) (hI : Inj X) (a1 : Int) (M : Mem) (Q : Int → Mem → Prop) (h : wp_X7_out a1 M Q) : MI X l yX7_out cX7_out 2 (some .int) 1 [.ref (xA X 42), .int (jI a1)] M Q := by
  refine MI.of hI (by decide) (Nat.le_of_ble_eq_true rfl) ?_
  intro p e R s m args below meth c ls E hW hl
  have E : En X (AW X) 1 p R s m args meth c cX7_out RX7 2 (some .int) 0 0 := E
  have hl : lv_has ls 2 [(0, .ref (xA X 42)), (1, .int (jI a1))] := hl
  unfold wp_X7_out at h
  refine q_aload_n (n := 1) (q := 0) E.1 hl rfl dX7_out_0 rfl rfl ?_
  refine q_get (n := 4) (k := 1) (fs := (fs42 X)) (v := .ref (xA X 2)) E hW (by decide) (fun _ => rfl) K7 (by decide) w247 rfl rfl dX7_out_1 rfl ?_
  refine q_iload_n (n := 5) (q := 1) E.1 hl rfl dX7_out_4 rfl rfl ?_
  refine q_callVi (n := 8) (fs := (fsRow X 2)) [.int (jI a1)] E hW hl.1 (isRow_lt (by decide)) (ent_row X (by decide)) K4 (c_X4_at l X E.2.2.1.1 2 a1 (by decide) _ _ h) (by decide) Y_RX7_85 rfl (rest := []) rfl (Nat.le_of_ble_eq_true rfl) dX7_out_5 rfl (fun r2 M1 H locs h hW => ?_)
  exact q_iret E hW h dX7_out_8
/-! StickerPress.ratio(I)Z -/
theorem dX7_ratio_0 : decode cX7_ratio 0 = .ok (.aload_n 0, 1) := by decide +kernel
theorem dX7_ratio_1 : decode cX7_ratio 1 = .ok (.getfield 31, 3) := by decide +kernel
theorem dX7_ratio_4 : decode cX7_ratio 4 = .ok (.iload_n 1, 1) := by decide +kernel
theorem dX7_ratio_5 : decode cX7_ratio 5 = .ok (.invokevirtual 89, 3) := by decide +kernel
theorem dX7_ratio_8 : decode cX7_ratio 8 = .ok (.ireturn, 1) := by decide +kernel
theorem Y_RX7_89 : YV RX7 89 RX6 yX6_setRatio cX6_setRatio 2 (some .boolean) 1 := ⟨w395, w392, w393, w394, w47, by decide +kernel, by decide⟩
def wp_X7_ratio (a1 : Int) (M : Mem) (Q : Int → Mem → Prop) : Prop := wp_X6_setRatio a1 M (fun r2 M1 => ((r2 = 0 ∨ r2 = 1) ∧ Q r2 M1))
set_option maxHeartbeats 4000000 in
set_option maxRecDepth 100000 in
theorem c_X7_ratio (l : Launch) (X : Cx) (hI : Inj X) (a1 : Int) (M : Mem) (Q : Int → Mem → Prop) (h : wp_X7_ratio a1 M Q) : MI X l yX7_ratio cX7_ratio 2 (some .boolean) 1 [.ref (xA X 42), .int (jI a1)] M Q := by
  refine MI.of hI (by decide) (Nat.le_of_ble_eq_true rfl) ?_
  intro p e R s m args below meth c ls E hW hl
  have E : En X (AW X) 1 p R s m args meth c cX7_ratio RX7 2 (some .boolean) 0 0 := E
  have hl : lv_has ls 2 [(0, .ref (xA X 42)), (1, .int (jI a1))] := hl
  unfold wp_X7_ratio at h
  refine q_aload_n (n := 1) (q := 0) E.1 hl rfl dX7_ratio_0 rfl rfl ?_
  refine q_get (n := 4) (k := 3) (fs := (fs42 X)) (v := .ref (xA X 47)) E hW (by decide) (fun _ => rfl) K7 (by decide) w249 rfl rfl dX7_ratio_1 rfl ?_
  refine q_iload_n (n := 5) (q := 1) E.1 hl rfl dX7_ratio_4 rfl rfl ?_
  refine q_callVi (n := 8) (fs := (fs47 X)) [.int (jI a1)] E hW hl.1 (by decide) (fun _ => rfl) K6 (c_X6_setRatio l X E.2.2.1.1 a1  _ _ h) (by decide) Y_RX7_89 rfl (rest := []) rfl (Nat.le_of_ble_eq_true rfl) dX7_ratio_5 rfl (fun r2 M1 H locs h hW => ?_)
  exact q_zret E hW h.1 h.2 dX7_ratio_8
/-! StickerPress.bars()I -/
theorem dX7_bars_0 : decode cX7_bars 0 = .ok (.aload_n 0, 1) := by decide +kernel
theorem dX7_bars_1 : decode cX7_bars 1 = .ok (.getfield 31, 3) := by decide +kernel
theorem dX7_bars_4 : decode cX7_bars 4 = .ok (.aload_n 0, 1) := by decide +kernel
theorem dX7_bars_5 : decode cX7_bars 5 = .ok (.getfield 14, 3) := by decide +kernel
theorem dX7_bars_8 : decode cX7_bars 8 = .ok (.aload_n 0, 1) := by decide +kernel
theorem dX7_bars_9 : decode cX7_bars 9 = .ok (.getfield 18, 3) := by decide +kernel
theorem dX7_bars_12 : decode cX7_bars 12 = .ok (.invokevirtual 92, 3) := by decide +kernel
theorem dX7_bars_15 : decode cX7_bars 15 = .ok (.istore_n 1, 1) := by decide +kernel
theorem dX7_bars_16 : decode cX7_bars 16 = .ok (.aload_n 0, 1) := by decide +kernel
theorem dX7_bars_17 : decode cX7_bars 17 = .ok (.getfield 14, 3) := by decide +kernel
theorem dX7_bars_20 : decode cX7_bars 20 = .ok (.invokevirtual 75, 3) := by decide +kernel
theorem dX7_bars_23 : decode cX7_bars 23 = .ok (.iload_n 1, 1) := by decide +kernel
theorem dX7_bars_24 : decode cX7_bars 24 = .ok (.ireturn, 1) := by decide +kernel
theorem Y_RX7_92 : YV RX7 92 RX6 yX6_drawBars cX6_drawBars 4 (some .int) 2 := ⟨w403, w400, w401, w402, w47, by decide +kernel, by decide⟩
def wp_X7_bars (M : Mem) (Q : Int → Mem → Prop) : Prop := wp_X6_drawBars 0 2 M (fun r2 M1 => wp_X4_clear 0 M1 (fun M3 => Q r2 M3))
set_option maxHeartbeats 4000000 in
set_option maxRecDepth 100000 in
theorem c_X7_bars (l : Launch) (X : Cx) (hI : Inj X) (M : Mem) (Q : Int → Mem → Prop) (h : wp_X7_bars M Q) : MI X l yX7_bars cX7_bars 2 (some .int) 4 [.ref (xA X 42)] M Q := by
  refine MI.of hI (by decide) (Nat.le_of_ble_eq_true rfl) ?_
  intro p e R s m args below meth c ls E hW hl
  have E : En X (AW X) 4 p R s m args meth c cX7_bars RX7 2 (some .int) 0 0 := E
  have hl : lv_has ls 2 [(0, .ref (xA X 42))] := hl
  unfold wp_X7_bars at h
  refine q_aload_n (n := 1) (q := 0) E.1 hl rfl dX7_bars_0 rfl rfl ?_
  refine q_get (n := 4) (k := 3) (fs := (fs42 X)) (v := .ref (xA X 47)) E hW (by decide) (fun _ => rfl) K7 (by decide) w249 rfl rfl dX7_bars_1 rfl ?_
  refine q_aload_n (n := 5) (q := 0) E.1 hl rfl dX7_bars_4 rfl rfl ?_
  refine q_get (n := 8) (k := 0) (fs := (fs42 X)) (v := .ref (xA X 0)) E hW (by decide) (fun _ => rfl) K7 (by decide) w246 rfl rfl dX7_bars_5 rfl ?_
  refine q_aload_n (n := 9) (q := 0) E.1 hl rfl dX7_bars_8 rfl rfl ?_
  refine q_get (n := 12) (k := 1) (fs := (fs42 X)) (v := .ref (xA X 2)) E hW (by decide) (fun _ => rfl) K7 (by decide) w247 rfl rfl dX7_bars_9 rfl ?_
  refine q_callVi (n := 15) (fs := (fs47 X)) [.ref (xA X 0), .ref (xA X 2)] E hW hl.1 (by decide) (fun _ => rfl) K6 (c_X6_drawBars l X E.2.2.1.1 0 2 (by decide) (by decide) _ _ h) (by decide) Y_RX7_92 rfl (rest := []) rfl (Nat.le_of_ble_eq_true rfl) dX7_bars_12 rfl (fun r2 M1 H locs h hW => ?_)
  refine q_istore_n (n := 16) [(1, .int (jI r2)), (0, .ref (xA X 42))] E.1 hl dX7_bars_15 rfl (by decide) rfl rfl (fun ls hl => ?_)
  refine q_aload_n (n := 17) (q := 1) E.1 hl rfl dX7_bars_16 rfl rfl ?_
  refine q_get (n := 20) (k := 0) (fs := (fs42 X)) (v := .ref (xA X 0)) E hW (by decide) (fun _ => rfl) K7 (by decide) w246 rfl rfl dX7_bars_17 rfl ?_
  refine q_callVv (n := 23) (fs := (fsRow X 0)) [] E hW hl.1 (isRow_lt (by decide)) (ent_row X (by decide)) K4 (c_X4_clear l X E.2.2.1.1 0 (by decide) _ _ h) (by decide) Y_RX7_75 rfl (rest := []) rfl (Nat.le_of_ble_eq_true rfl) dX7_bars_20 rfl (fun M3 H locs h hW => ?_)
  refine q_iload_n (n := 24) (q := 0) E.1 hl rfl dX7_bars_23 rfl rfl ?_
  exact q_iret E hW h dX7_bars_24
/-! StickerPress.read()I -/
theorem dX7_read_0 : decode cX7_read 0 = .ok (.aload_n 0, 1) := by decide +kernel
theorem dX7_read_1 : decode cX7_read 1 = .ok (.getfield 31, 3) := by decide +kernel
theorem dX7_read_4 : decode cX7_read 4 = .ok (.aload_n 0, 1) := by decide +kernel
theorem dX7_read_5 : decode cX7_read 5 = .ok (.getfield 14, 3) := by decide +kernel
theorem dX7_read_8 : decode cX7_read 8 = .ok (.aload_n 0, 1) := by decide +kernel
theorem dX7_read_9 : decode cX7_read 9 = .ok (.getfield 18, 3) := by decide +kernel
theorem dX7_read_12 : decode cX7_read 12 = .ok (.invokevirtual 96, 3) := by decide +kernel
theorem dX7_read_15 : decode cX7_read 15 = .ok (.istore_n 1, 1) := by decide +kernel
theorem dX7_read_16 : decode cX7_read 16 = .ok (.aload_n 0, 1) := by decide +kernel
theorem dX7_read_17 : decode cX7_read 17 = .ok (.getfield 14, 3) := by decide +kernel
theorem dX7_read_20 : decode cX7_read 20 = .ok (.invokevirtual 75, 3) := by decide +kernel
theorem dX7_read_23 : decode cX7_read 23 = .ok (.iload_n 1, 1) := by decide +kernel
theorem dX7_read_24 : decode cX7_read 24 = .ok (.ireturn, 1) := by decide +kernel
theorem Y_RX7_96 : YV RX7 96 RX6 yX6_readBars cX6_readBars 3 (some .int) 2 := ⟨w432, w429, w430, w431, w47, by decide +kernel, by decide⟩
def wp_X7_read (M : Mem) (Q : Int → Mem → Prop) : Prop := wp_X6_readBars 0 2 M (fun r2 M1 => wp_X4_clear 0 M1 (fun M3 => Q r2 M3))
set_option maxHeartbeats 4000000 in
set_option maxRecDepth 100000 in
theorem c_X7_read (l : Launch) (X : Cx) (hI : Inj X) (M : Mem) (Q : Int → Mem → Prop) (h : wp_X7_read M Q) : MI X l yX7_read cX7_read 2 (some .int) 5 [.ref (xA X 42)] M Q := by
  refine MI.of hI (by decide) (Nat.le_of_ble_eq_true rfl) ?_
  intro p e R s m args below meth c ls E hW hl
  have E : En X (AW X) 5 p R s m args meth c cX7_read RX7 2 (some .int) 0 0 := E
  have hl : lv_has ls 2 [(0, .ref (xA X 42))] := hl
  unfold wp_X7_read at h
  refine q_aload_n (n := 1) (q := 0) E.1 hl rfl dX7_read_0 rfl rfl ?_
  refine q_get (n := 4) (k := 3) (fs := (fs42 X)) (v := .ref (xA X 47)) E hW (by decide) (fun _ => rfl) K7 (by decide) w249 rfl rfl dX7_read_1 rfl ?_
  refine q_aload_n (n := 5) (q := 0) E.1 hl rfl dX7_read_4 rfl rfl ?_
  refine q_get (n := 8) (k := 0) (fs := (fs42 X)) (v := .ref (xA X 0)) E hW (by decide) (fun _ => rfl) K7 (by decide) w246 rfl rfl dX7_read_5 rfl ?_
  refine q_aload_n (n := 9) (q := 0) E.1 hl rfl dX7_read_8 rfl rfl ?_
  refine q_get (n := 12) (k := 1) (fs := (fs42 X)) (v := .ref (xA X 2)) E hW (by decide) (fun _ => rfl) K7 (by decide) w247 rfl rfl dX7_read_9 rfl ?_
  refine q_callVi (n := 15) (fs := (fs47 X)) [.ref (xA X 0), .ref (xA X 2)] E hW hl.1 (by decide) (fun _ => rfl) K6 (c_X6_readBars l X E.2.2.1.1 0 2 (by decide) (by decide) _ _ h) (by decide) Y_RX7_96 rfl (rest := []) rfl (Nat.le_of_ble_eq_true rfl) dX7_read_12 rfl (fun r2 M1 H locs h hW => ?_)
  refine q_istore_n (n := 16) [(1, .int (jI r2)), (0, .ref (xA X 42))] E.1 hl dX7_read_15 rfl (by decide) rfl rfl (fun ls hl => ?_)
  refine q_aload_n (n := 17) (q := 1) E.1 hl rfl dX7_read_16 rfl rfl ?_
  refine q_get (n := 20) (k := 0) (fs := (fs42 X)) (v := .ref (xA X 0)) E hW (by decide) (fun _ => rfl) K7 (by decide) w246 rfl rfl dX7_read_17 rfl ?_
  refine q_callVv (n := 23) (fs := (fsRow X 0)) [] E hW hl.1 (isRow_lt (by decide)) (ent_row X (by decide)) K4 (c_X4_clear l X E.2.2.1.1 0 (by decide) _ _ h) (by decide) Y_RX7_75 rfl (rest := []) rfl (Nat.le_of_ble_eq_true rfl) dX7_read_20 rfl (fun M3 H locs h hW => ?_)
  refine q_iload_n (n := 24) (q := 0) E.1 hl rfl dX7_read_23 rfl rfl ?_
  exact q_iret E hW h dX7_read_24
/-! StickerPress.fault(I)I -/
theorem dX7_fault_0 : decode cX7_fault 0 = .ok (.aload_n 0, 1) := by decide +kernel
theorem dX7_fault_1 : decode cX7_fault 1 = .ok (.getfield 31, 3) := by decide +kernel
theorem dX7_fault_4 : decode cX7_fault 4 = .ok (.iload_n 1, 1) := by decide +kernel
theorem dX7_fault_5 : decode cX7_fault 5 = .ok (.invokevirtual 99, 3) := by decide +kernel
theorem dX7_fault_8 : decode cX7_fault 8 = .ok (.ireturn, 1) := by decide +kernel
theorem Y_RX7_99 : YV RX7 99 RX6 yX6_latestFault cX6_latestFault 2 (some .int) 1 := ⟨w485, w482, w483, w484, w47, by decide +kernel, by decide⟩
def wp_X7_fault (a1 : Int) (M : Mem) (Q : Int → Mem → Prop) : Prop := wp_X6_latestFault a1 M (fun r2 M1 => Q r2 M1)
set_option maxHeartbeats 4000000 in
set_option maxRecDepth 100000 in
theorem c_X7_fault (l : Launch) (X : Cx) (hI : Inj X) (a1 : Int) (M : Mem) (Q : Int → Mem → Prop) (h : wp_X7_fault a1 M Q) : MI X l yX7_fault cX7_fault 2 (some .int) 1 [.ref (xA X 42), .int (jI a1)] M Q := by
  refine MI.of hI (by decide) (Nat.le_of_ble_eq_true rfl) ?_
  intro p e R s m args below meth c ls E hW hl
  have E : En X (AW X) 1 p R s m args meth c cX7_fault RX7 2 (some .int) 0 0 := E
  have hl : lv_has ls 2 [(0, .ref (xA X 42)), (1, .int (jI a1))] := hl
  unfold wp_X7_fault at h
  refine q_aload_n (n := 1) (q := 0) E.1 hl rfl dX7_fault_0 rfl rfl ?_
  refine q_get (n := 4) (k := 3) (fs := (fs42 X)) (v := .ref (xA X 47)) E hW (by decide) (fun _ => rfl) K7 (by decide) w249 rfl rfl dX7_fault_1 rfl ?_
  refine q_iload_n (n := 5) (q := 1) E.1 hl rfl dX7_fault_4 rfl rfl ?_
  refine q_callVi (n := 8) (fs := (fs47 X)) [.int (jI a1)] E hW hl.1 (by decide) (fun _ => rfl) K6 (c_X6_latestFault l X E.2.2.1.1 a1  _ _ h) (by decide) Y_RX7_99 rfl (rest := []) rfl (Nat.le_of_ble_eq_true rfl) dX7_fault_5 rfl (fun r2 M1 H locs h hW => ?_)
  exact q_iret E hW h dX7_fault_8
/-! StickerPress.take()I -/
theorem dX7_take_0 : decode cX7_take 0 = .ok (.aload_n 0, 1) := by decide +kernel
theorem dX7_take_1 : decode cX7_take 1 = .ok (.getfield 14, 3) := by decide +kernel
theorem dX7_take_4 : decode cX7_take 4 = .ok (.aload_n 0, 1) := by decide +kernel
theorem dX7_take_5 : decode cX7_take 5 = .ok (.getfield 18, 3) := by decide +kernel
theorem dX7_take_8 : decode cX7_take 8 = .ok (.invokevirtual 102, 3) := by decide +kernel
theorem dX7_take_11 : decode cX7_take 11 = .ok (.aload_n 0, 1) := by decide +kernel
theorem dX7_take_12 : decode cX7_take 12 = .ok (.getfield 14, 3) := by decide +kernel
theorem dX7_take_15 : decode cX7_take 15 = .ok (.invokevirtual 60, 3) := by decide +kernel
theorem dX7_take_18 : decode cX7_take 18 = .ok (.ireturn, 1) := by decide +kernel
theorem Y_RX7_102 : YV RX7 102 RX4 yX4_copyFrom cX4_copyFrom 2 none 1 := ⟨w358, w490, w356, w357, w44, by decide +kernel, by decide⟩
def wp_X7_take (M : Mem) (Q : Int → Mem → Prop) : Prop := wp_X4_copyFrom 0 2 M (fun M1 => wp_X4_size 0 M1 (fun r3 M2 => Q r3 M2))
set_option maxHeartbeats 4000000 in
set_option maxRecDepth 100000 in
theorem c_X7_take (l : Launch) (X : Cx) (hI : Inj X) (M : Mem) (Q : Int → Mem → Prop) (h : wp_X7_take M Q) : MI X l yX7_take cX7_take 1 (some .int) 3 [.ref (xA X 42)] M Q := by
  refine MI.of hI (by decide) (Nat.le_of_ble_eq_true rfl) ?_
  intro p e R s m args below meth c ls E hW hl
  have E : En X (AW X) 3 p R s m args meth c cX7_take RX7 1 (some .int) 0 0 := E
  have hl : lv_has ls 1 [(0, .ref (xA X 42))] := hl
  unfold wp_X7_take at h
  refine q_aload_n (n := 1) (q := 0) E.1 hl rfl dX7_take_0 rfl rfl ?_
  refine q_get (n := 4) (k := 0) (fs := (fs42 X)) (v := .ref (xA X 0)) E hW (by decide) (fun _ => rfl) K7 (by decide) w246 rfl rfl dX7_take_1 rfl ?_
  refine q_aload_n (n := 5) (q := 0) E.1 hl rfl dX7_take_4 rfl rfl ?_
  refine q_get (n := 8) (k := 1) (fs := (fs42 X)) (v := .ref (xA X 2)) E hW (by decide) (fun _ => rfl) K7 (by decide) w247 rfl rfl dX7_take_5 rfl ?_
  refine q_callVv (n := 11) (fs := (fsRow X 0)) [.ref (xA X 2)] E hW hl.1 (isRow_lt (by decide)) (ent_row X (by decide)) K4 (c_X4_copyFrom l X E.2.2.1.1 0 2 (by decide) (by decide) _ _ h) (by decide) Y_RX7_102 rfl (rest := []) rfl (Nat.le_of_ble_eq_true rfl) dX7_take_8 rfl (fun M1 H locs h hW => ?_)
  refine q_aload_n (n := 12) (q := 0) E.1 hl rfl dX7_take_11 rfl rfl ?_
  refine q_get (n := 15) (k := 0) (fs := (fs42 X)) (v := .ref (xA X 0)) E hW (by decide) (fun _ => rfl) K7 (by decide) w246 rfl rfl dX7_take_12 rfl ?_
  refine q_callVi (n := 18) (fs := (fsRow X 0)) [] E hW hl.1 (isRow_lt (by decide)) (ent_row X (by decide)) K4 (c_X4_size l X E.2.2.1.1 0 (by decide) _ _ h) (by decide) Y_RX7_60 rfl (rest := []) rfl (Nat.le_of_ble_eq_true rfl) dX7_take_15 rfl (fun r3 M2 H locs h hW => ?_)
  exact q_iret E hW h dX7_take_18
/-! StickerPress.sheet(IJ)Z -/
theorem dX7_sheet_0 : decode cX7_sheet 0 = .ok (.aload_n 0, 1) := by decide +kernel
theorem dX7_sheet_1 : decode cX7_sheet 1 = .ok (.getfield 45, 3) := by decide +kernel
theorem dX7_sheet_4 : decode cX7_sheet 4 = .ok (.iload_n 1, 1) := by decide +kernel
theorem dX7_sheet_5 : decode cX7_sheet 5 = .ok (.lload_n 2, 1) := by decide +kernel
theorem dX7_sheet_6 : decode cX7_sheet 6 = .ok (.invokevirtual 106, 3) := by decide +kernel
theorem dX7_sheet_9 : decode cX7_sheet 9 = .ok (.ifCond .ne 5, 3) := by decide +kernel
theorem dX7_sheet_12 : decode cX7_sheet 12 = .ok (.iconst 0, 1) := by decide +kernel
theorem dX7_sheet_13 : decode cX7_sheet 13 = .ok (.ireturn, 1) := by decide +kernel
theorem dX7_sheet_14 : decode cX7_sheet 14 = .ok (.aload_n 0, 1) := by decide +kernel
theorem dX7_sheet_15 : decode cX7_sheet 15 = .ok (.getfield 52, 3) := by decide +kernel
theorem dX7_sheet_18 : decode cX7_sheet 18 = .ok (.invokevirtual 110, 3) := by decide +kernel
theorem dX7_sheet_21 : decode cX7_sheet 21 = .ok (.iconst 1, 1) := by decide +kernel
theorem dX7_sheet_22 : decode cX7_sheet 22 = .ok (.ireturn, 1) := by decide +kernel
theorem Y_RX7_106 : YV RX7 106 RX5 yX5_replace cX5_replace 5 (some .boolean) 2 := ⟨w498, w495, w496, w497, w50, by decide +kernel, by decide⟩
theorem Y_RX7_110 : YV RX7 110 RX0 yX0_forget cX0_forget 1 none 0 := ⟨w505, w502, w503, w504, w51, by decide +kernel, by decide⟩
def wp_X7_sheet (a1 : Int) (a2 : Int) (M : Mem) (Q : Int → Mem → Prop) : Prop := wp_X5_replace a1 a2 M (fun r2 M1 => (Rg r2 ∧ (r2 ≠ 0 → wp_X0_forget  M1 (fun M7 => Q 1 M7)) ∧ (¬ (r2 ≠ 0) → Q 0 M1)))
set_option maxHeartbeats 4000000 in
set_option maxRecDepth 100000 in
theorem c_X7_sheet (l : Launch) (X : Cx) (hI : Inj X) (a1 : Int) (a2 : Int) (M : Mem) (Q : Int → Mem → Prop) (h : wp_X7_sheet a1 a2 M Q) : MI X l yX7_sheet cX7_sheet 4 (some .boolean) 2 [.ref (xA X 42), .int (jI a1), .long (jL a2)] M Q := by
  refine MI.of hI (by decide) (Nat.le_of_ble_eq_true rfl) ?_
  intro p e R s m args below meth c ls E hW hl
  have E : En X (AW X) 2 p R s m args meth c cX7_sheet RX7 4 (some .boolean) 0 0 := E
  have hl : lv_has ls 4 [(0, .ref (xA X 42)), (1, .int (jI a1)), (2, .long (jL a2))] := hl
  unfold wp_X7_sheet at h
  refine q_aload_n (n := 1) (q := 0) E.1 hl rfl dX7_sheet_0 rfl rfl ?_
  refine q_get (n := 4) (k := 5) (fs := (fs42 X)) (v := .ref (xA X 53)) E hW (by decide) (fun _ => rfl) K7 (by decide) w251 rfl rfl dX7_sheet_1 rfl ?_
  refine q_iload_n (n := 5) (q := 1) E.1 hl rfl dX7_sheet_4 rfl rfl ?_
  refine q_lload_n (n := 6) (q := 2) E.1 hl rfl dX7_sheet_5 rfl rfl ?_
  refine q_callVi (n := 9) (fs := (fs53 X)) [.int (jI a1), .long (jL a2)] E hW hl.1 (by decide) (fun _ => rfl) K5 (c_X5_replace l X E.2.2.1.1 a1 a2  _ _ h) (by decide) Y_RX7_106 rfl (rest := []) rfl (Nat.le_of_ble_eq_true rfl) dX7_sheet_6 rfl (fun r2 M1 H locs h hW => ?_)
  obtain ⟨g3, h4, h5⟩ := h
  refine q_if_ne (t := 14) (n := 12) E.1 g3 dX7_sheet_9 (by decide) rfl (fun c6 => ?_) (fun c6 => ?_)
  · have h := h4 c6
    refine q_aload_n (n := 15) (q := 0) E.1 hl rfl dX7_sheet_14 rfl rfl ?_
    refine q_get (n := 18) (k := 6) (fs := (fs42 X)) (v := .ref (xA X 57)) E hW (by decide) (fun _ => rfl) K7 (by decide) w252 rfl rfl dX7_sheet_15 rfl ?_
    refine q_callVv (n := 21) (fs := (fs57 X)) [] E hW hl.1 (by decide) (fun _ => rfl) K0 (c_X0_forget l X E.2.2.1.1   _ _ h) (by decide) Y_RX7_110 rfl (rest := []) rfl (Nat.le_of_ble_eq_true rfl) dX7_sheet_18 rfl (fun M7 H locs h hW => ?_)
    refine q_iconst (n := 22) E.1 dX7_sheet_21 rfl ?_
    exact q_zret E hW (Or.inr rfl) h dX7_sheet_22
  · have h := h5 c6
    refine q_iconst (n := 13) E.1 dX7_sheet_12 rfl ?_
    exact q_zret E hW (Or.inl rfl) h dX7_sheet_13
/-! StickerPress.come(II)I -/
theorem dX7_come_0 : decode cX7_come 0 = .ok (.aload_n 0, 1) := by decide +kernel
theorem dX7_come_1 : decode cX7_come 1 = .ok (.getfield 38, 3) := by decide +kernel
theorem dX7_come_4 : decode cX7_come 4 = .ok (.iload_n 1, 1) := by decide +kernel
theorem dX7_come_5 : decode cX7_come 5 = .ok (.iload_n 2, 1) := by decide +kernel
theorem dX7_come_6 : decode cX7_come 6 = .ok (.invokevirtual 113, 3) := by decide +kernel
theorem dX7_come_9 : decode cX7_come 9 = .ok (.istore_n 3, 1) := by decide +kernel
theorem dX7_come_10 : decode cX7_come 10 = .ok (.iload_n 3, 1) := by decide +kernel
theorem dX7_come_11 : decode cX7_come 11 = .ok (.iconst (-1), 1) := by decide +kernel
theorem dX7_come_12 : decode cX7_come 12 = .ok (.if_icmp .eq 10, 3) := by decide +kernel
theorem dX7_come_15 : decode cX7_come 15 = .ok (.aload_n 0, 1) := by decide +kernel
theorem dX7_come_16 : decode cX7_come 16 = .ok (.getfield 52, 3) := by decide +kernel
theorem dX7_come_19 : decode cX7_come 19 = .ok (.invokevirtual 110, 3) := by decide +kernel
theorem dX7_come_22 : decode cX7_come 22 = .ok (.iload_n 3, 1) := by decide +kernel
theorem dX7_come_23 : decode cX7_come 23 = .ok (.ireturn, 1) := by decide +kernel
theorem Y_RX7_113 : YV RX7 113 RX1 yX1_addLabels cX1_addLabels 5 (some .int) 2 := ⟨w513, w510, w511, w512, w49, by decide +kernel, by decide⟩
def wp_X7_come (a1 : Int) (a2 : Int) (M : Mem) (Q : Int → Mem → Prop) : Prop := wp_X1_addLabels a1 a2 M (fun r2 M1 => (Rg r2 ∧ (r2 = (-1) → Q r2 M1) ∧ (¬ (r2 = (-1)) → wp_X0_forget  M1 (fun M7 => Q r2 M7))))
set_option maxHeartbeats 4000000 in
set_option maxRecDepth 100000 in
theorem c_X7_come (l : Launch) (X : Cx) (hI : Inj X) (a1 : Int) (a2 : Int) (M : Mem) (Q : Int → Mem → Prop) (h : wp_X7_come a1 a2 M Q) : MI X l yX7_come cX7_come 4 (some .int) 3 [.ref (xA X 42), .int (jI a1), .int (jI a2)] M Q := by
  refine MI.of hI (by decide) (Nat.le_of_ble_eq_true rfl) ?_
  intro p e R s m args below meth c ls E hW hl
  have E : En X (AW X) 3 p R s m args meth c cX7_come RX7 4 (some .int) 0 0 := E
  have hl : lv_has ls 4 [(0, .ref (xA X 42)), (1, .int (jI a1)), (2, .int (jI a2))] := hl
  unfold wp_X7_come at h
  refine q_aload_n (n := 1) (q := 0) E.1 hl rfl dX7_come_0 rfl rfl ?_
  refine q_get (n := 4) (k := 4) (fs := (fs42 X)) (v := .ref (xA X 48)) E hW (by decide) (fun _ => rfl) K7 (by decide) w250 rfl rfl dX7_come_1 rfl ?_
  refine q_iload_n (n := 5) (q := 1) E.1 hl rfl dX7_come_4 rfl rfl ?_
  refine q_iload_n (n := 6) (q := 2) E.1 hl rfl dX7_come_5 rfl rfl ?_
  refine q_callVi (n := 9) (fs := (fs48 X)) [.int (jI a1), .int (jI a2)] E hW hl.1 (by decide) (fun _ => rfl) K1 (c_X1_addLabels l X E.2.2.1.1 a1 a2  _ _ h) (by decide) Y_RX7_113 rfl (rest := []) rfl (Nat.le_of_ble_eq_true rfl) dX7_come_6 rfl (fun r2 M1 H locs h hW => ?_)
  refine q_istore_n (n := 10) [(3, .int (jI r2)), (0, .ref (xA X 42)), (1, .int (jI a1)), (2, .int (jI a2))] E.1 hl dX7_come_9 rfl (by decide) rfl rfl (fun ls hl => ?_)
  refine q_iload_n (n := 11) (q := 0) E.1 hl rfl dX7_come_10 rfl rfl ?_
  refine q_iconst (n := 12) E.1 dX7_come_11 rfl ?_
  obtain ⟨g3, h4, h5⟩ := h
  refine q_icmp_eq (t := 22) (n := 15) E.1 g3 (by decide) dX7_come_12 (by decide) rfl (fun c6 => ?_) (fun c6 => ?_)
  · have h := h4 c6
    refine q_iload_n (n := 23) (q := 0) E.1 hl rfl dX7_come_22 rfl rfl ?_
    exact q_iret E hW h dX7_come_23
  · have h := h5 c6
    refine q_aload_n (n := 16) (q := 1) E.1 hl rfl dX7_come_15 rfl rfl ?_
    refine q_get (n := 19) (k := 6) (fs := (fs42 X)) (v := .ref (xA X 57)) E hW (by decide) (fun _ => rfl) K7 (by decide) w252 rfl rfl dX7_come_16 rfl ?_
    refine q_callVv (n := 22) (fs := (fs57 X)) [] E hW hl.1 (by decide) (fun _ => rfl) K0 (c_X0_forget l X E.2.2.1.1   _ _ h) (by decide) Y_RX7_110 rfl (rest := []) rfl (Nat.le_of_ble_eq_true rfl) dX7_come_19 rfl (fun M7 H locs h hW => ?_)
    refine q_iload_n (n := 23) (q := 0) E.1 hl rfl dX7_come_22 rfl rfl ?_
    exact q_iret E hW h dX7_come_23
/-! StickerPress.look(I)I -/
theorem dX7_look_0 : decode cX7_look 0 = .ok (.iload_n 1, 1) := by decide +kernel
theorem dX7_look_1 : decode cX7_look 1 = .ok (.tableswitch 105 0 4 #[35, 43, 51, 59, 82], 35) := by decide +kernel
theorem dX7_look_36 : decode cX7_look 36 = .ok (.aload_n 0, 1) := by decide +kernel
theorem dX7_look_37 : decode cX7_look 37 = .ok (.getfield 38, 3) := by decide +kernel
theorem dX7_look_40 : decode cX7_look 40 = .ok (.invokevirtual 117, 3) := by decide +kernel
theorem dX7_look_43 : decode cX7_look 43 = .ok (.ireturn, 1) := by decide +kernel
theorem dX7_look_44 : decode cX7_look 44 = .ok (.aload_n 0, 1) := by decide +kernel
theorem dX7_look_45 : decode cX7_look 45 = .ok (.getfield 38, 3) := by decide +kernel
theorem dX7_look_48 : decode cX7_look 48 = .ok (.invokevirtual 120, 3) := by decide +kernel
theorem dX7_look_51 : decode cX7_look 51 = .ok (.ireturn, 1) := by decide +kernel
theorem dX7_look_52 : decode cX7_look 52 = .ok (.aload_n 0, 1) := by decide +kernel
theorem dX7_look_53 : decode cX7_look 53 = .ok (.getfield 45, 3) := by decide +kernel
theorem dX7_look_56 : decode cX7_look 56 = .ok (.invokevirtual 123, 3) := by decide +kernel
theorem dX7_look_59 : decode cX7_look 59 = .ok (.ireturn, 1) := by decide +kernel
theorem dX7_look_60 : decode cX7_look 60 = .ok (.aload_n 0, 1) := by decide +kernel
theorem dX7_look_61 : decode cX7_look 61 = .ok (.getfield 52, 3) := by decide +kernel
theorem dX7_look_64 : decode cX7_look 64 = .ok (.aload_n 0, 1) := by decide +kernel
theorem dX7_look_65 : decode cX7_look 65 = .ok (.getfield 38, 3) := by decide +kernel
theorem dX7_look_68 : decode cX7_look 68 = .ok (.aload_n 0, 1) := by decide +kernel
theorem dX7_look_69 : decode cX7_look 69 = .ok (.getfield 45, 3) := by decide +kernel
theorem dX7_look_72 : decode cX7_look 72 = .ok (.invokevirtual 126, 3) := by decide +kernel
theorem dX7_look_75 : decode cX7_look 75 = .ok (.aload_n 0, 1) := by decide +kernel
theorem dX7_look_76 : decode cX7_look 76 = .ok (.getfield 52, 3) := by decide +kernel
theorem dX7_look_79 : decode cX7_look 79 = .ok (.invokevirtual 130, 3) := by decide +kernel
theorem dX7_look_82 : decode cX7_look 82 = .ok (.ireturn, 1) := by decide +kernel
theorem dX7_look_83 : decode cX7_look 83 = .ok (.aload_n 0, 1) := by decide +kernel
theorem dX7_look_84 : decode cX7_look 84 = .ok (.getfield 52, 3) := by decide +kernel
theorem dX7_look_87 : decode cX7_look 87 = .ok (.aload_n 0, 1) := by decide +kernel
theorem dX7_look_88 : decode cX7_look 88 = .ok (.getfield 38, 3) := by decide +kernel
theorem dX7_look_91 : decode cX7_look 91 = .ok (.aload_n 0, 1) := by decide +kernel
theorem dX7_look_92 : decode cX7_look 92 = .ok (.getfield 45, 3) := by decide +kernel
theorem dX7_look_95 : decode cX7_look 95 = .ok (.invokevirtual 126, 3) := by decide +kernel
theorem dX7_look_98 : decode cX7_look 98 = .ok (.aload_n 0, 1) := by decide +kernel
theorem dX7_look_99 : decode cX7_look 99 = .ok (.getfield 52, 3) := by decide +kernel
theorem dX7_look_102 : decode cX7_look 102 = .ok (.invokevirtual 133, 3) := by decide +kernel
theorem dX7_look_105 : decode cX7_look 105 = .ok (.ireturn, 1) := by decide +kernel
theorem dX7_look_106 : decode cX7_look 106 = .ok (.iconst (-1), 1) := by decide +kernel
theorem dX7_look_107 : decode cX7_look 107 = .ok (.ireturn, 1) := by decide +kernel
theorem Y_RX7_117 : YV RX7 117 RX1 yX1_count cX1_count 1 (some .int) 0 := ⟨w532, w529, w530, w531, w49, by decide +kernel, by decide⟩
theorem Y_RX7_120 : YV RX7 120 RX1 yX1_allWaiting cX1_allWaiting 3 (some .int) 0 := ⟨w536, w533, w534, w535, w49, by decide +kernel, by decide⟩
theorem Y_RX7_123 : YV RX7 123 RX5 yX5_allFree cX5_allFree 3 (some .int) 0 := ⟨w540, w537, w538, w539, w50, by decide +kernel, by decide⟩
theorem Y_RX7_126 : YV RX7 126 RX0 yX0_refresh cX0_refresh 3 none 2 := ⟨w554, w551, w552, w553, w51, by decide +kernel, by decide⟩
theorem Y_RX7_130 : YV RX7 130 RX0 yX0_pieces cX0_pieces 3 (some .int) 0 := ⟨w626, w623, w624, w625, w51, by decide +kernel, by decide⟩
theorem Y_RX7_133 : YV RX7 133 RX0 yX0_sheetsInHeaps cX0_sheetsInHeaps 1 (some .int) 0 := ⟨w630, w627, w628, w629, w51, by decide +kernel, by decide⟩
def wp_X7_look (a1 : Int) (M : Mem) (Q : Int → Mem → Prop) : Prop := (Rg a1 ∧ (a1 = 0 → wp_X1_count  M (fun r9 M8 => Q r9 M8)) ∧ (a1 = 1 → wp_X1_allWaiting  M (fun r12 M11 => Q r12 M11)) ∧ (a1 = 2 → wp_X5_allFree  M (fun r15 M14 => Q r15 M14)) ∧ (a1 = 3 → wp_X0_refresh  M (fun M17 => wp_X0_pieces  M17 (fun r19 M18 => Q r19 M18))) ∧ (a1 = 4 → wp_X0_refresh  M (fun M21 => wp_X0_sheetsInHeaps  M21 (fun r23 M22 => Q r23 M22))) ∧ ((a1 < 0 ∨ 4 < a1) → Q (-1) M))
set_option maxHeartbeats 4000000 in
set_option maxRecDepth 100000 in
theorem c_X7_look (l : Launch) (X : Cx) (hI : Inj X) (a1 : Int) (M : Mem) (Q : Int → Mem → Prop) (h : wp_X7_look a1 M Q) : MI X l yX7_look cX7_look 2 (some .int) 13 [.ref (xA X 42), .int (jI a1)] M Q := by
  refine MI.of hI (by decide) (Nat.le_of_ble_eq_true rfl) ?_
  intro p e R s m args below meth c ls E hW hl
  have E : En X (AW X) 13 p R s m args meth c cX7_look RX7 2 (some .int) 0 0 := E
  have hl : lv_has ls 2 [(0, .ref (xA X 42)), (1, .int (jI a1))] := hl
  unfold wp_X7_look at h
  refine q_iload_n (n := 1) (q := 1) E.1 hl rfl dX7_look_0 rfl rfl ?_
  obtain ⟨g1, h2, h3, h4, h5, h6, h7⟩ := h
  by_cases c10 : a1 = 0
  · have h := h2 c10
    refine q_tin (t := 36) 0 E c10 (by decide) dX7_look_1 (by decide) rfl (by decide) ?_
    refine q_aload_n (n := 37) (q := 0) E.1 hl rfl dX7_look_36 rfl rfl ?_
    refine q_get (n := 40) (k := 4) (fs := (fs42 X)) (v := .ref (xA X 48)) E hW (by decide) (fun _ => rfl) K7 (by decide) w250 rfl rfl dX7_look_37 rfl ?_
    refine q_callVi (n := 43) (fs := (fs48 X)) [] E hW hl.1 (by decide) (fun _ => rfl) K1 (c_X1_count l X E.2.2.1.1   _ _ h) (by decide) Y_RX7_117 rfl (rest := []) rfl (Nat.le_of_ble_eq_true rfl) dX7_look_40 rfl (fun r9 M8 H locs h hW => ?_)
    exact q_iret E hW h dX7_look_43
  by_cases c13 : a1 = 1
  · have h := h3 c13
    refine q_tin (t := 44) 1 E c13 (by decide) dX7_look_1 (by decide) rfl (by decide) ?_
    refine q_aload_n (n := 45) (q := 0) E.1 hl rfl dX7_look_44 rfl rfl ?_
    refine q_get (n := 48) (k := 4) (fs := (fs42 X)) (v := .ref (xA X 48)) E hW (by decide) (fun _ => rfl) K7 (by decide) w250 rfl rfl dX7_look_45 rfl ?_
    refine q_callVi (n := 51) (fs := (fs48 X)) [] E hW hl.1 (by decide) (fun _ => rfl) K1 (c_X1_allWaiting l X E.2.2.1.1   _ _ h) (by decide) Y_RX7_120 rfl (rest := []) rfl (Nat.le_of_ble_eq_true rfl) dX7_look_48 rfl (fun r12 M11 H locs h hW => ?_)
    exact q_iret E hW h dX7_look_51
  by_cases c16 : a1 = 2
  · have h := h4 c16
    refine q_tin (t := 52) 2 E c16 (by decide) dX7_look_1 (by decide) rfl (by decide) ?_
    refine q_aload_n (n := 53) (q := 0) E.1 hl rfl dX7_look_52 rfl rfl ?_
    refine q_get (n := 56) (k := 5) (fs := (fs42 X)) (v := .ref (xA X 53)) E hW (by decide) (fun _ => rfl) K7 (by decide) w251 rfl rfl dX7_look_53 rfl ?_
    refine q_callVi (n := 59) (fs := (fs53 X)) [] E hW hl.1 (by decide) (fun _ => rfl) K5 (c_X5_allFree l X E.2.2.1.1   _ _ h) (by decide) Y_RX7_123 rfl (rest := []) rfl (Nat.le_of_ble_eq_true rfl) dX7_look_56 rfl (fun r15 M14 H locs h hW => ?_)
    exact q_iret E hW h dX7_look_59
  by_cases c20 : a1 = 3
  · have h := h5 c20
    refine q_tin (t := 60) 3 E c20 (by decide) dX7_look_1 (by decide) rfl (by decide) ?_
    refine q_aload_n (n := 61) (q := 0) E.1 hl rfl dX7_look_60 rfl rfl ?_
    refine q_get (n := 64) (k := 6) (fs := (fs42 X)) (v := .ref (xA X 57)) E hW (by decide) (fun _ => rfl) K7 (by decide) w252 rfl rfl dX7_look_61 rfl ?_
    refine q_aload_n (n := 65) (q := 0) E.1 hl rfl dX7_look_64 rfl rfl ?_
    refine q_get (n := 68) (k := 4) (fs := (fs42 X)) (v := .ref (xA X 48)) E hW (by decide) (fun _ => rfl) K7 (by decide) w250 rfl rfl dX7_look_65 rfl ?_
    refine q_aload_n (n := 69) (q := 0) E.1 hl rfl dX7_look_68 rfl rfl ?_
    refine q_get (n := 72) (k := 5) (fs := (fs42 X)) (v := .ref (xA X 53)) E hW (by decide) (fun _ => rfl) K7 (by decide) w251 rfl rfl dX7_look_69 rfl ?_
    refine q_callVv (n := 75) (fs := (fs57 X)) [.ref (xA X 48), .ref (xA X 53)] E hW hl.1 (by decide) (fun _ => rfl) K0 (c_X0_refresh l X E.2.2.1.1   _ _ h) (by decide) Y_RX7_126 rfl (rest := []) rfl (Nat.le_of_ble_eq_true rfl) dX7_look_72 rfl (fun M17 H locs h hW => ?_)
    refine q_aload_n (n := 76) (q := 0) E.1 hl rfl dX7_look_75 rfl rfl ?_
    refine q_get (n := 79) (k := 6) (fs := (fs42 X)) (v := .ref (xA X 57)) E hW (by decide) (fun _ => rfl) K7 (by decide) w252 rfl rfl dX7_look_76 rfl ?_
    refine q_callVi (n := 82) (fs := (fs57 X)) [] E hW hl.1 (by decide) (fun _ => rfl) K0 (c_X0_pieces l X E.2.2.1.1   _ _ h) (by decide) Y_RX7_130 rfl (rest := []) rfl (Nat.le_of_ble_eq_true rfl) dX7_look_79 rfl (fun r19 M18 H locs h hW => ?_)
    exact q_iret E hW h dX7_look_82
  by_cases c24 : a1 = 4
  · have h := h6 c24
    refine q_tin (t := 83) 4 E c24 (by decide) dX7_look_1 (by decide) rfl (by decide) ?_
    refine q_aload_n (n := 84) (q := 0) E.1 hl rfl dX7_look_83 rfl rfl ?_
    refine q_get (n := 87) (k := 6) (fs := (fs42 X)) (v := .ref (xA X 57)) E hW (by decide) (fun _ => rfl) K7 (by decide) w252 rfl rfl dX7_look_84 rfl ?_
    refine q_aload_n (n := 88) (q := 0) E.1 hl rfl dX7_look_87 rfl rfl ?_
    refine q_get (n := 91) (k := 4) (fs := (fs42 X)) (v := .ref (xA X 48)) E hW (by decide) (fun _ => rfl) K7 (by decide) w250 rfl rfl dX7_look_88 rfl ?_
    refine q_aload_n (n := 92) (q := 0) E.1 hl rfl dX7_look_91 rfl rfl ?_
    refine q_get (n := 95) (k := 5) (fs := (fs42 X)) (v := .ref (xA X 53)) E hW (by decide) (fun _ => rfl) K7 (by decide) w251 rfl rfl dX7_look_92 rfl ?_
    refine q_callVv (n := 98) (fs := (fs57 X)) [.ref (xA X 48), .ref (xA X 53)] E hW hl.1 (by decide) (fun _ => rfl) K0 (c_X0_refresh l X E.2.2.1.1   _ _ h) (by decide) Y_RX7_126 rfl (rest := []) rfl (Nat.le_of_ble_eq_true rfl) dX7_look_95 rfl (fun M21 H locs h hW => ?_)
    refine q_aload_n (n := 99) (q := 0) E.1 hl rfl dX7_look_98 rfl rfl ?_
    refine q_get (n := 102) (k := 6) (fs := (fs42 X)) (v := .ref (xA X 57)) E hW (by decide) (fun _ => rfl) K7 (by decide) w252 rfl rfl dX7_look_99 rfl ?_
    refine q_callVi (n := 105) (fs := (fs57 X)) [] E hW hl.1 (by decide) (fun _ => rfl) K0 (c_X0_sheetsInHeaps l X E.2.2.1.1   _ _ h) (by decide) Y_RX7_133 rfl (rest := []) rfl (Nat.le_of_ble_eq_true rfl) dX7_look_102 rfl (fun r23 M22 H locs h hW => ?_)
    exact q_iret E hW h dX7_look_105
  have c25 : a1 < 0 ∨ 4 < a1 := by omega
  have h := h7 c25
  refine q_tout (t := 106) E g1 c25 dX7_look_1 (by decide) ?_
  refine q_iconst (n := 107) E.1 dX7_look_106 rfl ?_
  exact q_iret E hW h dX7_look_107
/-! StickerPress.heap(II)I -/
theorem dX7_heap_0 : decode cX7_heap 0 = .ok (.aload_n 0, 1) := by decide +kernel
theorem dX7_heap_1 : decode cX7_heap 1 = .ok (.getfield 52, 3) := by decide +kernel
theorem dX7_heap_4 : decode cX7_heap 4 = .ok (.aload_n 0, 1) := by decide +kernel
theorem dX7_heap_5 : decode cX7_heap 5 = .ok (.getfield 38, 3) := by decide +kernel
theorem dX7_heap_8 : decode cX7_heap 8 = .ok (.aload_n 0, 1) := by decide +kernel
theorem dX7_heap_9 : decode cX7_heap 9 = .ok (.getfield 45, 3) := by decide +kernel
theorem dX7_heap_12 : decode cX7_heap 12 = .ok (.invokevirtual 126, 3) := by decide +kernel
theorem dX7_heap_15 : decode cX7_heap 15 = .ok (.iload_n 2, 1) := by decide +kernel
theorem dX7_heap_16 : decode cX7_heap 16 = .ok (.lookupswitch 46 #[(0, 28), (1, 37)], 28) := by decide +kernel
theorem dX7_heap_44 : decode cX7_heap 44 = .ok (.aload_n 0, 1) := by decide +kernel
theorem dX7_heap_45 : decode cX7_heap 45 = .ok (.getfield 52, 3) := by decide +kernel
theorem dX7_heap_48 : decode cX7_heap 48 = .ok (.iload_n 1, 1) := by decide +kernel
theorem dX7_heap_49 : decode cX7_heap 49 = .ok (.invokevirtual 136, 3) := by decide +kernel
theorem dX7_heap_52 : decode cX7_heap 52 = .ok (.ireturn, 1) := by decide +kernel
theorem dX7_heap_53 : decode cX7_heap 53 = .ok (.aload_n 0, 1) := by decide +kernel
theorem dX7_heap_54 : decode cX7_heap 54 = .ok (.getfield 52, 3) := by decide +kernel
theorem dX7_heap_57 : decode cX7_heap 57 = .ok (.iload_n 1, 1) := by decide +kernel
theorem dX7_heap_58 : decode cX7_heap 58 = .ok (.invokevirtual 139, 3) := by decide +kernel
theorem dX7_heap_61 : decode cX7_heap 61 = .ok (.ireturn, 1) := by decide +kernel
theorem dX7_heap_62 : decode cX7_heap 62 = .ok (.iconst (-1), 1) := by decide +kernel
theorem dX7_heap_63 : decode cX7_heap 63 = .ok (.ireturn, 1) := by decide +kernel
theorem Y_RX7_136 : YV RX7 136 RX0 yX0_heapOfGroup cX0_heapOfGroup 2 (some .int) 1 := ⟨w638, w635, w636, w637, w51, by decide +kernel, by decide⟩
theorem Y_RX7_139 : YV RX7 139 RX0 yX0_heapOfSheet cX0_heapOfSheet 3 (some .int) 1 := ⟨w643, w640, w641, w642, w51, by decide +kernel, by decide⟩
def wp_X7_heap (a1 : Int) (a2 : Int) (M : Mem) (Q : Int → Mem → Prop) : Prop := wp_X0_refresh  M (fun M1 => (Rg a2 ∧ (a2 = 0 → wp_X0_heapOfGroup a1 M1 (fun r7 M6 => Q r7 M6)) ∧ (a2 = 1 → wp_X0_heapOfSheet a1 M1 (fun r10 M9 => Q r10 M9)) ∧ ((a2 ≠ 0 ∧ a2 ≠ 1) → Q (-1) M1)))
set_option maxHeartbeats 4000000 in
set_option maxRecDepth 100000 in
theorem c_X7_heap (l : Launch) (X : Cx) (hI : Inj X) (a1 : Int) (a2 : Int) (M : Mem) (Q : Int → Mem → Prop) (h : wp_X7_heap a1 a2 M Q) : MI X l yX7_heap cX7_heap 3 (some .int) 13 [.ref (xA X 42), .int (jI a1), .int (jI a2)] M Q := by
  refine MI.of hI (by decide) (Nat.le_of_ble_eq_true rfl) ?_
  intro p e R s m args below meth c ls E hW hl
  have E : En X (AW X) 13 p R s m args meth c cX7_heap RX7 3 (some .int) 0 0 := E
  have hl : lv_has ls 3 [(0, .ref (xA X 42)), (1, .int (jI a1)), (2, .int (jI a2))] := hl
  unfold wp_X7_heap at h
  refine q_aload_n (n := 1) (q := 0) E.1 hl rfl dX7_heap_0 rfl rfl ?_
  refine q_get (n := 4) (k := 6) (fs := (fs42 X)) (v := .ref (xA X 57)) E hW (by decide) (fun _ => rfl) K7 (by decide) w252 rfl rfl dX7_heap_1 rfl ?_
  refine q_aload_n (n := 5) (q := 0) E.1 hl rfl dX7_heap_4 rfl rfl ?_
  refine q_get (n := 8) (k := 4) (fs := (fs42 X)) (v := .ref (xA X 48)) E hW (by decide) (fun _ => rfl) K7 (by decide) w250 rfl rfl dX7_heap_5 rfl ?_
  refine q_aload_n (n := 9) (q := 0) E.1 hl rfl dX7_heap_8 rfl rfl ?_
  refine q_get (n := 12) (k := 5) (fs := (fs42 X)) (v := .ref (xA X 53)) E hW (by decide) (fun _ => rfl) K7 (by decide) w251 rfl rfl dX7_heap_9 rfl ?_
  refine q_callVv (n := 15) (fs := (fs57 X)) [.ref (xA X 48), .ref (xA X 53)] E hW hl.1 (by decide) (fun _ => rfl) K0 (c_X0_refresh l X E.2.2.1.1   _ _ h) (by decide) Y_RX7_126 rfl (rest := []) rfl (Nat.le_of_ble_eq_true rfl) dX7_heap_12 rfl (fun M1 H locs h hW => ?_)
  refine q_iload_n (n := 16) (q := 2) E.1 hl rfl dX7_heap_15 rfl rfl ?_
  obtain ⟨g2, h3, h4, h5⟩ := h
  by_cases c8 : a2 = 0
  · have h := h3 c8
    refine q_lsw (t := 44) (off := 28) E g2 dX7_heap_16 rfl (by rw [c8]; rfl) (by decide) ?_
    refine q_aload_n (n := 45) (q := 0) E.1 hl rfl dX7_heap_44 rfl rfl ?_
    refine q_get (n := 48) (k := 6) (fs := (fs42 X)) (v := .ref (xA X 57)) E hW (by decide) (fun _ => rfl) K7 (by decide) w252 rfl rfl dX7_heap_45 rfl ?_
    refine q_iload_n (n := 49) (q := 1) E.1 hl rfl dX7_heap_48 rfl rfl ?_
    refine q_callVi (n := 52) (fs := (fs57 X)) [.int (jI a1)] E hW hl.1 (by decide) (fun _ => rfl) K0 (c_X0_heapOfGroup l X E.2.2.1.1 a1  _ _ h) (by decide) Y_RX7_136 rfl (rest := []) rfl (Nat.le_of_ble_eq_true rfl) dX7_heap_49 rfl (fun r7 M6 H locs h hW => ?_)
    exact q_iret E hW h dX7_heap_52
  by_cases c11 : a2 = 1
  · have h := h4 c11
    refine q_lsw (t := 53) (off := 37) E g2 dX7_heap_16 rfl (by rw [c11]; rfl) (by decide) ?_
    refine q_aload_n (n := 54) (q := 0) E.1 hl rfl dX7_heap_53 rfl rfl ?_
    refine q_get (n := 57) (k := 6) (fs := (fs42 X)) (v := .ref (xA X 57)) E hW (by decide) (fun _ => rfl) K7 (by decide) w252 rfl rfl dX7_heap_54 rfl ?_
    refine q_iload_n (n := 58) (q := 1) E.1 hl rfl dX7_heap_57 rfl rfl ?_
    refine q_callVi (n := 61) (fs := (fs57 X)) [.int (jI a1)] E hW hl.1 (by decide) (fun _ => rfl) K0 (c_X0_heapOfSheet l X E.2.2.1.1 a1  _ _ h) (by decide) Y_RX7_139 rfl (rest := []) rfl (Nat.le_of_ble_eq_true rfl) dX7_heap_58 rfl (fun r10 M9 H locs h hW => ?_)
    exact q_iret E hW h dX7_heap_61
  have h := h5 ⟨c8, c11⟩
  refine q_lsw (t := 62) (off := 46) E g2 dX7_heap_16 rfl (by simp [Op.lookupswitch.offset, Ne.symm c8, Ne.symm c11]) (by decide) ?_
  refine q_iconst (n := 63) E.1 dX7_heap_62 rfl ?_
  exact q_iret E hW h dX7_heap_63
/-! StickerPress.placeOf(II)I -/
theorem dX7_placeOf_0 : decode cX7_placeOf 0 = .ok (.iload_n 0, 1) := by decide +kernel
theorem dX7_placeOf_1 : decode cX7_placeOf 1 = .ok (.invokestatic 148, 3) := by decide +kernel
theorem dX7_placeOf_4 : decode cX7_placeOf 4 = .ok (.ifCond .eq 13, 3) := by decide +kernel
theorem dX7_placeOf_7 : decode cX7_placeOf 7 = .ok (.iload_n 1, 1) := by decide +kernel
theorem dX7_placeOf_8 : decode cX7_placeOf 8 = .ok (.ifCond .lt 9, 3) := by decide +kernel
theorem dX7_placeOf_11 : decode cX7_placeOf 11 = .ok (.iload_n 1, 1) := by decide +kernel
theorem dX7_placeOf_12 : decode cX7_placeOf 12 = .ok (.bipush 40, 2) := by decide +kernel
theorem dX7_placeOf_14 : decode cX7_placeOf 14 = .ok (.if_icmp .lt 5, 3) := by decide +kernel
theorem dX7_placeOf_17 : decode cX7_placeOf 17 = .ok (.iconst (-1), 1) := by decide +kernel
theorem dX7_placeOf_18 : decode cX7_placeOf 18 = .ok (.ireturn, 1) := by decide +kernel
theorem dX7_placeOf_19 : decode cX7_placeOf 19 = .ok (.iload_n 0, 1) := by decide +kernel
theorem dX7_placeOf_20 : decode cX7_placeOf 20 = .ok (.bipush 40, 2) := by decide +kernel
theorem dX7_placeOf_22 : decode cX7_placeOf 22 = .ok (.imul, 1) := by decide +kernel
theorem dX7_placeOf_23 : decode cX7_placeOf 23 = .ok (.iload_n 1, 1) := by decide +kernel
theorem dX7_placeOf_24 : decode cX7_placeOf 24 = .ok (.iadd, 1) := by decide +kernel
theorem dX7_placeOf_25 : decode cX7_placeOf 25 = .ok (.ireturn, 1) := by decide +kernel
theorem Y_RX7_148 : YS RX7 148 yX7_isSheet cX7_isSheet 1 (some .boolean) 1 := ⟨w501, w652, w500, w43, by decide +kernel, by decide⟩
def wp_X7_placeOf (a0 : Int) (a1 : Int) (M : Mem) (Q : Int → Mem → Prop) : Prop := wp_X7_isSheet a0 M (fun r2 M1 => (Rg r2 ∧ (r2 = 0 → Q (-1) M1) ∧ (¬ (r2 = 0) → (Rg a1 ∧ (a1 < 0 → Q (-1) M1) ∧ (¬ (a1 < 0) → (Rg a1 ∧ (a1 < 40 → Q ((a0 * 40) + a1) M1) ∧ (¬ (a1 < 40) → Q (-1) M1)))))))
set_option maxHeartbeats 4000000 in
set_option maxRecDepth 100000 in
theorem c_X7_placeOf (l : Launch) (X : Cx) (hI : Inj X) (a0 : Int) (a1 : Int) (M : Mem) (Q : Int → Mem → Prop) (h : wp_X7_placeOf a0 a1 M Q) : MI X l yX7_placeOf cX7_placeOf 2 (some .int) 1 [.int (jI a0), .int (jI a1)] M Q := by
  refine MI.of hI (by decide) (Nat.le_of_ble_eq_true rfl) ?_
  intro p e R s m args below meth c ls E hW hl
  have E : En X (AW X) 1 p R s m args meth c cX7_placeOf RX7 2 (some .int) 0 0 := E
  have hl : lv_has ls 2 [(0, .int (jI a0)), (1, .int (jI a1))] := hl
  unfold wp_X7_placeOf at h
  refine q_iload_n (n := 1) (q := 0) E.1 hl rfl dX7_placeOf_0 rfl rfl ?_
  refine q_callSi (n := 4) [.int (jI a0)] E hW hl.1 (c_X7_isSheet l X E.2.2.1.1 a0  _ _ h) (by decide) Y_RX7_148 rfl (rest := []) rfl (Nat.le_of_ble_eq_true rfl) dX7_placeOf_1 rfl (fun r2 M1 H locs h hW => ?_)
  obtain ⟨g3, h4, h5⟩ := h
  refine q_if_eq (t := 17) (n := 7) E.1 g3 dX7_placeOf_4 (by decide) rfl (fun c6 => ?_) (fun c6 => ?_)
  · have h := h4 c6
    refine q_iconst (n := 18) E.1 dX7_placeOf_17 rfl ?_
    exact q_iret E hW h dX7_placeOf_18
  · have h := h5 c6
    refine q_iload_n (n := 8) (q := 1) E.1 hl rfl dX7_placeOf_7 rfl rfl ?_
    obtain ⟨g7, h8, h9⟩ := h
    refine q_if_lt (t := 17) (n := 11) E.1 g7 dX7_placeOf_8 (by decide) rfl (fun c10 => ?_) (fun c10 => ?_)
    · have h := h8 c10
      refine q_iconst (n := 18) E.1 dX7_placeOf_17 rfl ?_
      exact q_iret E hW h dX7_placeOf_18
    · have h := h9 c10
      refine q_iload_n (n := 12) (q := 1) E.1 hl rfl dX7_placeOf_11 rfl rfl ?_
      refine q_bipush (n := 14) E.1 dX7_placeOf_12 (by decide) rfl ?_
      obtain ⟨g11, h12, h13⟩ := h
      refine q_icmp_lt (t := 19) (n := 17) E.1 g11 (by decide) dX7_placeOf_14 (by decide) rfl (fun c14 => ?_) (fun c14 => ?_)
      · have h := h12 c14
        refine q_iload_n (n := 20) (q := 0) E.1 hl rfl dX7_placeOf_19 rfl rfl ?_
        refine q_bipush (n := 22) E.1 dX7_placeOf_20 (by decide) rfl ?_
        refine q_imul (n := 23) E.1 dX7_placeOf_22 rfl ?_
        refine q_iload_n (n := 24) (q := 1) E.1 hl rfl dX7_placeOf_23 rfl rfl ?_
        refine q_iadd (n := 25) E.1 dX7_placeOf_24 rfl ?_
        exact q_iret E hW h dX7_placeOf_25
      · have h := h13 c14
        refine q_iconst (n := 18) E.1 dX7_placeOf_17 rfl ?_
        exact q_iret E hW h dX7_placeOf_18
/-! StickerPress.plan(II)I -/
theorem dX7_plan_0 : decode cX7_plan 0 = .ok (.aload_n 0, 1) := by decide +kernel
theorem dX7_plan_1 : decode cX7_plan 1 = .ok (.getfield 52, 3) := by decide +kernel
theorem dX7_plan_4 : decode cX7_plan 4 = .ok (.aload_n 0, 1) := by decide +kernel
theorem dX7_plan_5 : decode cX7_plan 5 = .ok (.getfield 38, 3) := by decide +kernel
theorem dX7_plan_8 : decode cX7_plan 8 = .ok (.aload_n 0, 1) := by decide +kernel
theorem dX7_plan_9 : decode cX7_plan 9 = .ok (.getfield 45, 3) := by decide +kernel
theorem dX7_plan_12 : decode cX7_plan 12 = .ok (.invokevirtual 126, 3) := by decide +kernel
theorem dX7_plan_15 : decode cX7_plan 15 = .ok (.aload_n 0, 1) := by decide +kernel
theorem dX7_plan_16 : decode cX7_plan 16 = .ok (.getfield 52, 3) := by decide +kernel
theorem dX7_plan_19 : decode cX7_plan 19 = .ok (.iload_n 1, 1) := by decide +kernel
theorem dX7_plan_20 : decode cX7_plan 20 = .ok (.iload_n 2, 1) := by decide +kernel
theorem dX7_plan_21 : decode cX7_plan 21 = .ok (.invokestatic 142, 3) := by decide +kernel
theorem dX7_plan_24 : decode cX7_plan 24 = .ok (.invokevirtual 145, 3) := by decide +kernel
theorem dX7_plan_27 : decode cX7_plan 27 = .ok (.ireturn, 1) := by decide +kernel
theorem Y_RX7_142 : YS RX7 142 yX7_placeOf cX7_placeOf 2 (some .int) 2 := ⟨w651, w649, w650, w43, by decide +kernel, by decide⟩
theorem Y_RX7_145 : YV RX7 145 RX0 yX0_labelFor cX0_labelFor 2 (some .int) 1 := ⟨w656, w653, w654, w655, w51, by decide +kernel, by decide⟩
def wp_X7_plan (a1 : Int) (a2 : Int) (M : Mem) (Q : Int → Mem → Prop) : Prop := wp_X0_refresh  M (fun M1 => wp_X7_placeOf a1 a2 M1 (fun r3 M2 => wp_X0_labelFor r3 M2 (fun r5 M4 => Q r5 M4)))
set_option maxHeartbeats 4000000 in
set_option maxRecDepth 100000 in
theorem c_X7_plan (l : Launch) (X : Cx) (hI : Inj X) (a1 : Int) (a2 : Int) (M : Mem) (Q : Int → Mem → Prop) (h : wp_X7_plan a1 a2 M Q) : MI X l yX7_plan cX7_plan 3 (some .int) 13 [.ref (xA X 42), .int (jI a1), .int (jI a2)] M Q := by
  refine MI.of hI (by decide) (Nat.le_of_ble_eq_true rfl) ?_
  intro p e R s m args below meth c ls E hW hl
  have E : En X (AW X) 13 p R s m args meth c cX7_plan RX7 3 (some .int) 0 0 := E
  have hl : lv_has ls 3 [(0, .ref (xA X 42)), (1, .int (jI a1)), (2, .int (jI a2))] := hl
  unfold wp_X7_plan at h
  refine q_aload_n (n := 1) (q := 0) E.1 hl rfl dX7_plan_0 rfl rfl ?_
  refine q_get (n := 4) (k := 6) (fs := (fs42 X)) (v := .ref (xA X 57)) E hW (by decide) (fun _ => rfl) K7 (by decide) w252 rfl rfl dX7_plan_1 rfl ?_
  refine q_aload_n (n := 5) (q := 0) E.1 hl rfl dX7_plan_4 rfl rfl ?_
  refine q_get (n := 8) (k := 4) (fs := (fs42 X)) (v := .ref (xA X 48)) E hW (by decide) (fun _ => rfl) K7 (by decide) w250 rfl rfl dX7_plan_5 rfl ?_
  refine q_aload_n (n := 9) (q := 0) E.1 hl rfl dX7_plan_8 rfl rfl ?_
  refine q_get (n := 12) (k := 5) (fs := (fs42 X)) (v := .ref (xA X 53)) E hW (by decide) (fun _ => rfl) K7 (by decide) w251 rfl rfl dX7_plan_9 rfl ?_
  refine q_callVv (n := 15) (fs := (fs57 X)) [.ref (xA X 48), .ref (xA X 53)] E hW hl.1 (by decide) (fun _ => rfl) K0 (c_X0_refresh l X E.2.2.1.1   _ _ h) (by decide) Y_RX7_126 rfl (rest := []) rfl (Nat.le_of_ble_eq_true rfl) dX7_plan_12 rfl (fun M1 H locs h hW => ?_)
  refine q_aload_n (n := 16) (q := 0) E.1 hl rfl dX7_plan_15 rfl rfl ?_
  refine q_get (n := 19) (k := 6) (fs := (fs42 X)) (v := .ref (xA X 57)) E hW (by decide) (fun _ => rfl) K7 (by decide) w252 rfl rfl dX7_plan_16 rfl ?_
  refine q_iload_n (n := 20) (q := 1) E.1 hl rfl dX7_plan_19 rfl rfl ?_
  refine q_iload_n (n := 21) (q := 2) E.1 hl rfl dX7_plan_20 rfl rfl ?_
  refine q_callSi (n := 24) [.int (jI a1), .int (jI a2)] E hW hl.1 (c_X7_placeOf l X E.2.2.1.1 a1 a2  _ _ h) (by decide) Y_RX7_142 rfl (rest := [.ref (xA X 57)]) rfl (Nat.le_of_ble_eq_true rfl) dX7_plan_21 rfl (fun r3 M2 H locs h hW => ?_)
  refine q_callVi (n := 27) (fs := (fs57 X)) [.int (jI r3)] E hW hl.1 (by decide) (fun _ => rfl) K0 (c_X0_labelFor l X E.2.2.1.1 r3  _ _ h) (by decide) Y_RX7_145 rfl (rest := []) rfl (Nat.le_of_ble_eq_true rfl) dX7_plan_24 rfl (fun r5 M4 H locs h hW => ?_)
  exact q_iret E hW h dX7_plan_27
/-! StickerPress.printCell(I)Z -/
theorem dX7_printCell_0 : decode cX7_printCell 0 = .ok (.aload_n 0, 1) := by decide +kernel
theorem dX7_printCell_1 : decode cX7_printCell 1 = .ok (.getfield 52, 3) := by decide +kernel
theorem dX7_printCell_4 : decode cX7_printCell 4 = .ok (.iload_n 1, 1) := by decide +kernel
theorem dX7_printCell_5 : decode cX7_printCell 5 = .ok (.invokevirtual 145, 3) := by decide +kernel
theorem dX7_printCell_8 : decode cX7_printCell 8 = .ok (.istore_n 2, 1) := by decide +kernel
theorem dX7_printCell_9 : decode cX7_printCell 9 = .ok (.iload_n 2, 1) := by decide +kernel
theorem dX7_printCell_10 : decode cX7_printCell 10 = .ok (.iconst (-1), 1) := by decide +kernel
theorem dX7_printCell_11 : decode cX7_printCell 11 = .ok (.if_icmp .ne 5, 3) := by decide +kernel
theorem dX7_printCell_14 : decode cX7_printCell 14 = .ok (.iconst 0, 1) := by decide +kernel
theorem dX7_printCell_15 : decode cX7_printCell 15 = .ok (.ireturn, 1) := by decide +kernel
theorem dX7_printCell_16 : decode cX7_printCell 16 = .ok (.aload_n 0, 1) := by decide +kernel
theorem dX7_printCell_17 : decode cX7_printCell 17 = .ok (.getfield 45, 3) := by decide +kernel
theorem dX7_printCell_20 : decode cX7_printCell 20 = .ok (.iload_n 1, 1) := by decide +kernel
theorem dX7_printCell_21 : decode cX7_printCell 21 = .ok (.iload_n 2, 1) := by decide +kernel
theorem dX7_printCell_22 : decode cX7_printCell 22 = .ok (.invokevirtual 176, 3) := by decide +kernel
theorem dX7_printCell_25 : decode cX7_printCell 25 = .ok (.aload_n 0, 1) := by decide +kernel
theorem dX7_printCell_26 : decode cX7_printCell 26 = .ok (.getfield 38, 3) := by decide +kernel
theorem dX7_printCell_29 : decode cX7_printCell 29 = .ok (.iload_n 2, 1) := by decide +kernel
theorem dX7_printCell_30 : decode cX7_printCell 30 = .ok (.invokevirtual 180, 3) := by decide +kernel
theorem dX7_printCell_33 : decode cX7_printCell 33 = .ok (.iconst 1, 1) := by decide +kernel
theorem dX7_printCell_34 : decode cX7_printCell 34 = .ok (.ireturn, 1) := by decide +kernel
theorem Y_RX7_176 : YV RX7 176 RX5 yX5_put cX5_put 3 none 2 := ⟨w670, w667, w668, w669, w50, by decide +kernel, by decide⟩
theorem Y_RX7_180 : YV RX7 180 RX1 yX1_markPrinted cX1_markPrinted 2 none 1 := ⟨w675, w672, w673, w674, w49, by decide +kernel, by decide⟩
def wp_X7_printCell (a1 : Int) (M : Mem) (Q : Int → Mem → Prop) : Prop := wp_X0_labelFor a1 M (fun r2 M1 => (Rg r2 ∧ (r2 ≠ (-1) → wp_X5_put a1 r2 M1 (fun M7 => wp_X1_markPrinted r2 M7 (fun M8 => Q 1 M8))) ∧ (¬ (r2 ≠ (-1)) → Q 0 M1)))
set_option maxHeartbeats 4000000 in
set_option maxRecDepth 100000 in
theorem c_X7_printCell (l : Launch) (X : Cx) (hI : Inj X) (a1 : Int) (M : Mem) (Q : Int → Mem → Prop) (h : wp_X7_printCell a1 M Q) : MI X l yX7_printCell cX7_printCell 3 (some .boolean) 3 [.ref (xA X 42), .int (jI a1)] M Q := by
  refine MI.of hI (by decide) (Nat.le_of_ble_eq_true rfl) ?_
  intro p e R s m args below meth c ls E hW hl
  have E : En X (AW X) 3 p R s m args meth c cX7_printCell RX7 3 (some .boolean) 0 0 := E
  have hl : lv_has ls 3 [(0, .ref (xA X 42)), (1, .int (jI a1))] := hl
  unfold wp_X7_printCell at h
  refine q_aload_n (n := 1) (q := 0) E.1 hl rfl dX7_printCell_0 rfl rfl ?_
  refine q_get (n := 4) (k := 6) (fs := (fs42 X)) (v := .ref (xA X 57)) E hW (by decide) (fun _ => rfl) K7 (by decide) w252 rfl rfl dX7_printCell_1 rfl ?_
  refine q_iload_n (n := 5) (q := 1) E.1 hl rfl dX7_printCell_4 rfl rfl ?_
  refine q_callVi (n := 8) (fs := (fs57 X)) [.int (jI a1)] E hW hl.1 (by decide) (fun _ => rfl) K0 (c_X0_labelFor l X E.2.2.1.1 a1  _ _ h) (by decide) Y_RX7_145 rfl (rest := []) rfl (Nat.le_of_ble_eq_true rfl) dX7_printCell_5 rfl (fun r2 M1 H locs h hW => ?_)
  refine q_istore_n (n := 9) [(2, .int (jI r2)), (0, .ref (xA X 42)), (1, .int (jI a1))] E.1 hl dX7_printCell_8 rfl (by decide) rfl rfl (fun ls hl => ?_)
  refine q_iload_n (n := 10) (q := 0) E.1 hl rfl dX7_printCell_9 rfl rfl ?_
  refine q_iconst (n := 11) E.1 dX7_printCell_10 rfl ?_
  obtain ⟨g3, h4, h5⟩ := h
  refine q_icmp_ne (t := 16) (n := 14) E.1 g3 (by decide) dX7_printCell_11 (by decide) rfl (fun c6 => ?_) (fun c6 => ?_)
  · have h := h4 c6
    refine q_aload_n (n := 17) (q := 1) E.1 hl rfl dX7_printCell_16 rfl rfl ?_
    refine q_get (n := 20) (k := 5) (fs := (fs42 X)) (v := .ref (xA X 53)) E hW (by decide) (fun _ => rfl) K7 (by decide) w251 rfl rfl dX7_printCell_17 rfl ?_
    refine q_iload_n (n := 21) (q := 2) E.1 hl rfl dX7_printCell_20 rfl rfl ?_
    refine q_iload_n (n := 22) (q := 0) E.1 hl rfl dX7_printCell_21 rfl rfl ?_
    refine q_callVv (n := 25) (fs := (fs53 X)) [.int (jI a1), .int (jI r2)] E hW hl.1 (by decide) (fun _ => rfl) K5 (c_X5_put l X E.2.2.1.1 a1 r2  _ _ h) (by decide) Y_RX7_176 rfl (rest := []) rfl (Nat.le_of_ble_eq_true rfl) dX7_printCell_22 rfl (fun M7 H locs h hW => ?_)
    refine q_aload_n (n := 26) (q := 1) E.1 hl rfl dX7_printCell_25 rfl rfl ?_
    refine q_get (n := 29) (k := 4) (fs := (fs42 X)) (v := .ref (xA X 48)) E hW (by decide) (fun _ => rfl) K7 (by decide) w250 rfl rfl dX7_printCell_26 rfl ?_
    refine q_iload_n (n := 30) (q := 0) E.1 hl rfl dX7_printCell_29 rfl rfl ?_
    refine q_callVv (n := 33) (fs := (fs48 X)) [.int (jI r2)] E hW hl.1 (by decide) (fun _ => rfl) K1 (c_X1_markPrinted l X E.2.2.1.1 r2  _ _ h) (by decide) Y_RX7_180 rfl (rest := []) rfl (Nat.le_of_ble_eq_true rfl) dX7_printCell_30 rfl (fun M8 H locs h hW => ?_)
    refine q_iconst (n := 34) E.1 dX7_printCell_33 rfl ?_
    exact q_zret E hW (Or.inr rfl) h dX7_printCell_34
  · have h := h5 c6
    refine q_iconst (n := 15) E.1 dX7_printCell_14 rfl ?_
    exact q_zret E hW (Or.inl rfl) h dX7_printCell_15
/-! StickerPress.print(I)I -/
theorem dX7_print_0 : decode cX7_print 0 = .ok (.aload_n 0, 1) := by decide +kernel
theorem dX7_print_1 : decode cX7_print 1 = .ok (.getfield 52, 3) := by decide +kernel
theorem dX7_print_4 : decode cX7_print 4 = .ok (.aload_n 0, 1) := by decide +kernel
theorem dX7_print_5 : decode cX7_print 5 = .ok (.getfield 38, 3) := by decide +kernel
theorem dX7_print_8 : decode cX7_print 8 = .ok (.aload_n 0, 1) := by decide +kernel
theorem dX7_print_9 : decode cX7_print 9 = .ok (.getfield 45, 3) := by decide +kernel
theorem dX7_print_12 : decode cX7_print 12 = .ok (.invokevirtual 126, 3) := by decide +kernel
theorem dX7_print_15 : decode cX7_print 15 = .ok (.iload_n 1, 1) := by decide +kernel
theorem dX7_print_16 : decode cX7_print 16 = .ok (.invokestatic 148, 3) := by decide +kernel
theorem dX7_print_19 : decode cX7_print 19 = .ok (.ifCond .eq 13, 3) := by decide +kernel
theorem dX7_print_22 : decode cX7_print 22 = .ok (.aload_n 0, 1) := by decide +kernel
theorem dX7_print_23 : decode cX7_print 23 = .ok (.getfield 52, 3) := by decide +kernel
theorem dX7_print_26 : decode cX7_print 26 = .ok (.invokevirtual 151, 3) := by decide +kernel
theorem dX7_print_29 : decode cX7_print 29 = .ok (.ifCond .ne 5, 3) := by decide +kernel
theorem dX7_print_32 : decode cX7_print 32 = .ok (.iconst (-1), 1) := by decide +kernel
theorem dX7_print_33 : decode cX7_print 33 = .ok (.ireturn, 1) := by decide +kernel
theorem dX7_print_34 : decode cX7_print 34 = .ok (.iconst 0, 1) := by decide +kernel
theorem dX7_print_35 : decode cX7_print 35 = .ok (.istore_n 2, 1) := by decide +kernel
theorem dX7_print_36 : decode cX7_print 36 = .ok (.iconst 0, 1) := by decide +kernel
theorem dX7_print_37 : decode cX7_print 37 = .ok (.istore_n 3, 1) := by decide +kernel
theorem dX7_print_38 : decode cX7_print 38 = .ok (.iload_n 3, 1) := by decide +kernel
theorem dX7_print_39 : decode cX7_print 39 = .ok (.bipush 40, 2) := by decide +kernel
theorem dX7_print_41 : decode cX7_print 41 = .ok (.if_icmp .ge 24, 3) := by decide +kernel
theorem dX7_print_44 : decode cX7_print 44 = .ok (.aload_n 0, 1) := by decide +kernel
theorem dX7_print_45 : decode cX7_print 45 = .ok (.iload_n 1, 1) := by decide +kernel
theorem dX7_print_46 : decode cX7_print 46 = .ok (.iload_n 3, 1) := by decide +kernel
theorem dX7_print_47 : decode cX7_print 47 = .ok (.invokestatic 142, 3) := by decide +kernel
theorem dX7_print_50 : decode cX7_print 50 = .ok (.invokevirtual 155, 3) := by decide +kernel
theorem dX7_print_53 : decode cX7_print 53 = .ok (.ifCond .eq 6, 3) := by decide +kernel
theorem dX7_print_56 : decode cX7_print 56 = .ok (.iinc 2 1, 3) := by decide +kernel
theorem dX7_print_59 : decode cX7_print 59 = .ok (.iinc 3 1, 3) := by decide +kernel
theorem dX7_print_62 : decode cX7_print 62 = .ok (.goto (-24), 3) := by decide +kernel
theorem dX7_print_65 : decode cX7_print 65 = .ok (.aload_n 0, 1) := by decide +kernel
theorem dX7_print_66 : decode cX7_print 66 = .ok (.getfield 52, 3) := by decide +kernel
theorem dX7_print_69 : decode cX7_print 69 = .ok (.invokevirtual 110, 3) := by decide +kernel
theorem dX7_print_72 : decode cX7_print 72 = .ok (.iload_n 2, 1) := by decide +kernel
theorem dX7_print_73 : decode cX7_print 73 = .ok (.ireturn, 1) := by decide +kernel
theorem Y_RX7_151 : YV RX7 151 RX0 yX0_exists cX0_exists 1 (some .boolean) 0 := ⟨w595, w662, w593, w594, w51, by decide +kernel, by decide⟩
theorem Y_RX7_155 : YV RX7 155 RX7 yX7_printCell cX7_printCell 3 (some .boolean) 1 := ⟨w666, w663, w665, w23, w43, by decide +kernel, by decide⟩
def wp_X7_print_38 (a1 : Int) (Q : Int → Mem → Prop) : Nat → Int → Int → Mem → Prop
  | 0, _, _, _ => False
  | n + 1, x2, x3, M => (Rg x3 ∧ (40 ≤ x3 → wp_X0_forget  M (fun M5 => Q x2 M5)) ∧ (¬ (40 ≤ x3) → wp_X7_placeOf a1 x3 M (fun r7 M6 => wp_X7_printCell r7 M6 (fun r9 M8 => (Rg r9 ∧ (r9 = 0 → wp_X7_print_38 a1 Q n x2 (x3 + 1) M8) ∧ (¬ (r9 = 0) → wp_X7_print_38 a1 Q n (x2 + 1) (x3 + 1) M8))))))
set_option maxHeartbeats 4000000 in
set_option maxRecDepth 100000 in
theorem v_X7_print_38 (a1 : Int) (E : En X (AW X) 13 p R s m args meth c cX7_print RX7 4 (some .int) 0 0) (Q : Int → Mem → Prop) : ∀ n : Nat, ∀ (x2 x3 : Int) (M : Mem) (H : Heap) (locs : List Loc) (ls : Array Slot), wp_X7_print_38 a1 Q n x2 x3 M → Wd X (AW X) s M H locs → lv_has ls 4 [(0, .ref (xA X 42)), (1, .int (jI a1)), (2, .int (jI x2)), (3, .int (jI x3))] → W p l e R s m args below meth c H locs 0 0 (MQ below (QI X Q) args s 0 0 (AW X)) (F0 m 38 ls []) := by
  intro n
  induction n with
  | zero => intro x2 x3 M H locs ls h; exact absurd h (by simp [wp_X7_print_38])
  | succ n ih =>
    intro x2 x3 M H locs ls h hW hl
    rw [wp_X7_print_38] at h
    refine q_iload_n (n := 39) (q := 3) E.1 hl rfl dX7_print_38 rfl rfl ?_
    refine q_bipush (n := 41) E.1 dX7_print_39 (by decide) rfl ?_
    obtain ⟨g1, h2, h3⟩ := h
    refine q_icmp_ge (t := 65) (n := 44) E.1 g1 (by decide) dX7_print_41 (by decide) rfl (fun c4 => ?_) (fun c4 => ?_)
    · have h := h2 c4
      refine q_aload_n (n := 66) (q := 0) E.1 hl rfl dX7_print_65 rfl rfl ?_
      refine q_get (n := 69) (k := 6) (fs := (fs42 X)) (v := .ref (xA X 57)) E hW (by decide) (fun _ => rfl) K7 (by decide) w252 rfl rfl dX7_print_66 rfl ?_
      refine q_callVv (n := 72) (fs := (fs57 X)) [] E hW hl.1 (by decide) (fun _ => rfl) K0 (c_X0_forget l X E.2.2.1.1   _ _ h) (by decide) Y_RX7_110 rfl (rest := []) rfl (Nat.le_of_ble_eq_true rfl) dX7_print_69 rfl (fun M5 H locs h hW => ?_)
      refine q_iload_n (n := 73) (q := 2) E.1 hl rfl dX7_print_72 rfl rfl ?_
      exact q_iret E hW h dX7_print_73
    · have h := h3 c4
      refine q_aload_n (n := 45) (q := 0) E.1 hl rfl dX7_print_44 rfl rfl ?_
      refine q_iload_n (n := 46) (q := 1) E.1 hl rfl dX7_print_45 rfl rfl ?_
      refine q_iload_n (n := 47) (q := 3) E.1 hl rfl dX7_print_46 rfl rfl ?_
      refine q_callSi (n := 50) [.int (jI a1), .int (jI x3)] E hW hl.1 (c_X7_placeOf l X E.2.2.1.1 a1 x3  _ _ h) (by decide) Y_RX7_142 rfl (rest := [.ref (xA X 42)]) rfl (Nat.le_of_ble_eq_true rfl) dX7_print_47 rfl (fun r7 M6 H locs h hW => ?_)
      refine q_callVi (n := 53) (fs := (fs42 X)) [.int (jI r7)] E hW hl.1 (by decide) (fun _ => rfl) K7 (c_X7_printCell l X E.2.2.1.1 r7  _ _ h) (by decide) Y_RX7_155 rfl (rest := []) rfl (Nat.le_of_ble_eq_true rfl) dX7_print_50 rfl (fun r9 M8 H locs h hW => ?_)
      obtain ⟨g10, h11, h12⟩ := h
      refine q_if_eq (t := 59) (n := 56) E.1 g10 dX7_print_53 (by decide) rfl (fun c13 => ?_) (fun c13 => ?_)
      · have h := h11 c13
        refine q_iinc (n := 62) (q := 3) [(3, .int (jI (x3 + 1))), (0, .ref (xA X 42)), (1, .int (jI a1)), (2, .int (jI x2))] E.1 hl rfl dX7_print_59 (by decide) rfl rfl (fun ls hl => ?_)
        refine q_goto (n := 38) E.1 dX7_print_62 (by decide) ?_
        exact ih _ _ _ _ _ _ h hW (lv_sub hl [1, 2, 3, 0] rfl)
      · have h := h12 c13
        refine q_iinc (n := 59) (q := 2) [(2, .int (jI (x2 + 1))), (0, .ref (xA X 42)), (1, .int (jI a1)), (3, .int (jI x3))] E.1 hl rfl dX7_print_56 (by decide) rfl rfl (fun ls hl => ?_)
        refine q_iinc (n := 62) (q := 3) [(3, .int (jI (x3 + 1))), (2, .int (jI (x2 + 1))), (0, .ref (xA X 42)), (1, .int (jI a1))] E.1 hl rfl dX7_print_59 (by decide) rfl rfl (fun ls hl => ?_)
        refine q_goto (n := 38) E.1 dX7_print_62 (by decide) ?_
        exact ih _ _ _ _ _ _ h hW (lv_sub hl [2, 3, 1, 0] rfl)
def wp_X7_print (a1 : Int) (M : Mem) (Q : Int → Mem → Prop) : Prop := wp_X0_refresh  M (fun M1 => wp_X7_isSheet a1 M1 (fun r3 M2 => (Rg r3 ∧ (r3 = 0 → Q (-1) M2) ∧ (¬ (r3 = 0) → wp_X0_exists  M2 (fun r9 M8 => (Rg r9 ∧ (r9 ≠ 0 → (∃ n : Nat, wp_X7_print_38 a1 Q n 0 0 M8)) ∧ (¬ (r9 ≠ 0) → Q (-1) M8)))))))
set_option maxHeartbeats 4000000 in
set_option maxRecDepth 100000 in
theorem c_X7_print (l : Launch) (X : Cx) (hI : Inj X) (a1 : Int) (M : Mem) (Q : Int → Mem → Prop) (h : wp_X7_print a1 M Q) : MI X l yX7_print cX7_print 4 (some .int) 13 [.ref (xA X 42), .int (jI a1)] M Q := by
  refine MI.of hI (by decide) (Nat.le_of_ble_eq_true rfl) ?_
  intro p e R s m args below meth c ls E hW hl
  have E : En X (AW X) 13 p R s m args meth c cX7_print RX7 4 (some .int) 0 0 := E
  have hl : lv_has ls 4 [(0, .ref (xA X 42)), (1, .int (jI a1))] := hl
  unfold wp_X7_print at h
  refine q_aload_n (n := 1) (q := 0) E.1 hl rfl dX7_print_0 rfl rfl ?_
  refine q_get (n := 4) (k := 6) (fs := (fs42 X)) (v := .ref (xA X 57)) E hW (by decide) (fun _ => rfl) K7 (by decide) w252 rfl rfl dX7_print_1 rfl ?_
  refine q_aload_n (n := 5) (q := 0) E.1 hl rfl dX7_print_4 rfl rfl ?_
  refine q_get (n := 8) (k := 4) (fs := (fs42 X)) (v := .ref (xA X 48)) E hW (by decide) (fun _ => rfl) K7 (by decide) w250 rfl rfl dX7_print_5 rfl ?_
  refine q_aload_n (n := 9) (q := 0) E.1 hl rfl dX7_print_8 rfl rfl ?_
  refine q_get (n := 12) (k := 5) (fs := (fs42 X)) (v := .ref (xA X 53)) E hW (by decide) (fun _ => rfl) K7 (by decide) w251 rfl rfl dX7_print_9 rfl ?_
  refine q_callVv (n := 15) (fs := (fs57 X)) [.ref (xA X 48), .ref (xA X 53)] E hW hl.1 (by decide) (fun _ => rfl) K0 (c_X0_refresh l X E.2.2.1.1   _ _ h) (by decide) Y_RX7_126 rfl (rest := []) rfl (Nat.le_of_ble_eq_true rfl) dX7_print_12 rfl (fun M1 H locs h hW => ?_)
  refine q_iload_n (n := 16) (q := 1) E.1 hl rfl dX7_print_15 rfl rfl ?_
  refine q_callSi (n := 19) [.int (jI a1)] E hW hl.1 (c_X7_isSheet l X E.2.2.1.1 a1  _ _ h) (by decide) Y_RX7_148 rfl (rest := []) rfl (Nat.le_of_ble_eq_true rfl) dX7_print_16 rfl (fun r3 M2 H locs h hW => ?_)
  obtain ⟨g4, h5, h6⟩ := h
  refine q_if_eq (t := 32) (n := 22) E.1 g4 dX7_print_19 (by decide) rfl (fun c7 => ?_) (fun c7 => ?_)
  · have h := h5 c7
    refine q_iconst (n := 33) E.1 dX7_print_32 rfl ?_
    exact q_iret E hW h dX7_print_33
  · have h := h6 c7
    refine q_aload_n (n := 23) (q := 0) E.1 hl rfl dX7_print_22 rfl rfl ?_
    refine q_get (n := 26) (k := 6) (fs := (fs42 X)) (v := .ref (xA X 57)) E hW (by decide) (fun _ => rfl) K7 (by decide) w252 rfl rfl dX7_print_23 rfl ?_
    refine q_callVi (n := 29) (fs := (fs57 X)) [] E hW hl.1 (by decide) (fun _ => rfl) K0 (c_X0_exists l X E.2.2.1.1   _ _ h) (by decide) Y_RX7_151 rfl (rest := []) rfl (Nat.le_of_ble_eq_true rfl) dX7_print_26 rfl (fun r9 M8 H locs h hW => ?_)
    obtain ⟨g10, h11, h12⟩ := h
    refine q_if_ne (t := 34) (n := 32) E.1 g10 dX7_print_29 (by decide) rfl (fun c13 => ?_) (fun c13 => ?_)
    · have h := h11 c13
      refine q_iconst (n := 35) E.1 dX7_print_34 rfl ?_
      refine q_istore_n (n := 36) [(2, .int (jI 0)), (0, .ref (xA X 42)), (1, .int (jI a1))] E.1 hl dX7_print_35 rfl (by decide) rfl rfl (fun ls hl => ?_)
      refine q_iconst (n := 37) E.1 dX7_print_36 rfl ?_
      refine q_istore_n (n := 38) [(3, .int (jI 0)), (2, .int (jI 0)), (0, .ref (xA X 42)), (1, .int (jI a1))] E.1 hl dX7_print_37 rfl (by decide) rfl rfl (fun ls hl => ?_)
      obtain ⟨n14, h⟩ := h
      exact v_X7_print_38 a1 E Q n14 _ _ _ _ _ _ h hW (lv_sub hl [2, 3, 1, 0] rfl)
    · have h := h12 c13
      refine q_iconst (n := 33) E.1 dX7_print_32 rfl ?_
      exact q_iret E hW h dX7_print_33
/-! StickerPress.printed(II)I -/
theorem dX7_printed_0 : decode cX7_printed 0 = .ok (.aload_n 0, 1) := by decide +kernel
theorem dX7_printed_1 : decode cX7_printed 1 = .ok (.getfield 45, 3) := by decide +kernel
theorem dX7_printed_4 : decode cX7_printed 4 = .ok (.iload_n 1, 1) := by decide +kernel
theorem dX7_printed_5 : decode cX7_printed 5 = .ok (.iload_n 2, 1) := by decide +kernel
theorem dX7_printed_6 : decode cX7_printed 6 = .ok (.invokestatic 142, 3) := by decide +kernel
theorem dX7_printed_9 : decode cX7_printed 9 = .ok (.invokevirtual 158, 3) := by decide +kernel
theorem dX7_printed_12 : decode cX7_printed 12 = .ok (.ireturn, 1) := by decide +kernel
theorem Y_RX7_158 : YV RX7 158 RX5 yX5_labelIn cX5_labelIn 2 (some .int) 1 := ⟨w683, w680, w681, w682, w50, by decide +kernel, by decide⟩
def wp_X7_printed (a1 : Int) (a2 : Int) (M : Mem) (Q : Int → Mem → Prop) : Prop := wp_X7_placeOf a1 a2 M (fun r2 M1 => wp_X5_labelIn r2 M1 (fun r4 M3 => Q r4 M3))
set_option maxHeartbeats 4000000 in
set_option maxRecDepth 100000 in
theorem c_X7_printed (l : Launch) (X : Cx) (hI : Inj X) (a1 : Int) (a2 : Int) (M : Mem) (Q : Int → Mem → Prop) (h : wp_X7_printed a1 a2 M Q) : MI X l yX7_printed cX7_printed 3 (some .int) 2 [.ref (xA X 42), .int (jI a1), .int (jI a2)] M Q := by
  refine MI.of hI (by decide) (Nat.le_of_ble_eq_true rfl) ?_
  intro p e R s m args below meth c ls E hW hl
  have E : En X (AW X) 2 p R s m args meth c cX7_printed RX7 3 (some .int) 0 0 := E
  have hl : lv_has ls 3 [(0, .ref (xA X 42)), (1, .int (jI a1)), (2, .int (jI a2))] := hl
  unfold wp_X7_printed at h
  refine q_aload_n (n := 1) (q := 0) E.1 hl rfl dX7_printed_0 rfl rfl ?_
  refine q_get (n := 4) (k := 5) (fs := (fs42 X)) (v := .ref (xA X 53)) E hW (by decide) (fun _ => rfl) K7 (by decide) w251 rfl rfl dX7_printed_1 rfl ?_
  refine q_iload_n (n := 5) (q := 1) E.1 hl rfl dX7_printed_4 rfl rfl ?_
  refine q_iload_n (n := 6) (q := 2) E.1 hl rfl dX7_printed_5 rfl rfl ?_
  refine q_callSi (n := 9) [.int (jI a1), .int (jI a2)] E hW hl.1 (c_X7_placeOf l X E.2.2.1.1 a1 a2  _ _ h) (by decide) Y_RX7_142 rfl (rest := [.ref (xA X 53)]) rfl (Nat.le_of_ble_eq_true rfl) dX7_printed_6 rfl (fun r2 M1 H locs h hW => ?_)
  refine q_callVi (n := 12) (fs := (fs53 X)) [.int (jI r2)] E hW hl.1 (by decide) (fun _ => rfl) K5 (c_X5_labelIn l X E.2.2.1.1 r2  _ _ h) (by decide) Y_RX7_158 rfl (rest := []) rfl (Nat.le_of_ble_eq_true rfl) dX7_printed_9 rfl (fun r4 M3 H locs h hW => ?_)
  exact q_iret E hW h dX7_printed_12
/-! StickerPress.spoil(II)I -/
theorem dX7_spoil_0 : decode cX7_spoil 0 = .ok (.iload_n 1, 1) := by decide +kernel
theorem dX7_spoil_1 : decode cX7_spoil 1 = .ok (.iload_n 2, 1) := by decide +kernel
theorem dX7_spoil_2 : decode cX7_spoil 2 = .ok (.invokestatic 142, 3) := by decide +kernel
theorem dX7_spoil_5 : decode cX7_spoil 5 = .ok (.istore_n 3, 1) := by decide +kernel
theorem dX7_spoil_6 : decode cX7_spoil 6 = .ok (.aload_n 0, 1) := by decide +kernel
theorem dX7_spoil_7 : decode cX7_spoil 7 = .ok (.getfield 45, 3) := by decide +kernel
theorem dX7_spoil_10 : decode cX7_spoil 10 = .ok (.iload_n 3, 1) := by decide +kernel
theorem dX7_spoil_11 : decode cX7_spoil 11 = .ok (.invokevirtual 161, 3) := by decide +kernel
theorem dX7_spoil_14 : decode cX7_spoil 14 = .ok (.ifCond .ne 5, 3) := by decide +kernel
theorem dX7_spoil_17 : decode cX7_spoil 17 = .ok (.iconst (-1), 1) := by decide +kernel
theorem dX7_spoil_18 : decode cX7_spoil 18 = .ok (.ireturn, 1) := by decide +kernel
theorem dX7_spoil_19 : decode cX7_spoil 19 = .ok (.aload_n 0, 1) := by decide +kernel
theorem dX7_spoil_20 : decode cX7_spoil 20 = .ok (.getfield 45, 3) := by decide +kernel
theorem dX7_spoil_23 : decode cX7_spoil 23 = .ok (.iload_n 3, 1) := by decide +kernel
theorem dX7_spoil_24 : decode cX7_spoil 24 = .ok (.invokevirtual 158, 3) := by decide +kernel
theorem dX7_spoil_27 : decode cX7_spoil 27 = .ok (.istore 4, 2) := by decide +kernel
theorem dX7_spoil_29 : decode cX7_spoil 29 = .ok (.aload_n 0, 1) := by decide +kernel
theorem dX7_spoil_30 : decode cX7_spoil 30 = .ok (.getfield 38, 3) := by decide +kernel
theorem dX7_spoil_33 : decode cX7_spoil 33 = .ok (.iload 4, 2) := by decide +kernel
theorem dX7_spoil_35 : decode cX7_spoil 35 = .ok (.invokevirtual 164, 3) := by decide +kernel
theorem dX7_spoil_38 : decode cX7_spoil 38 = .ok (.ifCond .ne 5, 3) := by decide +kernel
theorem dX7_spoil_41 : decode cX7_spoil 41 = .ok (.iconst (-1), 1) := by decide +kernel
theorem dX7_spoil_42 : decode cX7_spoil 42 = .ok (.ireturn, 1) := by decide +kernel
theorem dX7_spoil_43 : decode cX7_spoil 43 = .ok (.aload_n 0, 1) := by decide +kernel
theorem dX7_spoil_44 : decode cX7_spoil 44 = .ok (.getfield 45, 3) := by decide +kernel
theorem dX7_spoil_47 : decode cX7_spoil 47 = .ok (.iload_n 3, 1) := by decide +kernel
theorem dX7_spoil_48 : decode cX7_spoil 48 = .ok (.invokevirtual 167, 3) := by decide +kernel
theorem dX7_spoil_51 : decode cX7_spoil 51 = .ok (.aload_n 0, 1) := by decide +kernel
theorem dX7_spoil_52 : decode cX7_spoil 52 = .ok (.getfield 52, 3) := by decide +kernel
theorem dX7_spoil_55 : decode cX7_spoil 55 = .ok (.invokevirtual 110, 3) := by decide +kernel
theorem dX7_spoil_58 : decode cX7_spoil 58 = .ok (.iload 4, 2) := by decide +kernel
theorem dX7_spoil_60 : decode cX7_spoil 60 = .ok (.ireturn, 1) := by decide +kernel
theorem Y_RX7_161 : YV RX7 161 RX5 yX5_isGood cX5_isGood 2 (some .boolean) 1 := ⟨w691, w688, w689, w690, w50, by decide +kernel, by decide⟩
theorem Y_RX7_164 : YV RX7 164 RX1 yX1_waitAnew cX1_waitAnew 2 (some .boolean) 1 := ⟨w696, w693, w694, w695, w49, by decide +kernel, by decide⟩
theorem Y_RX7_167 : YV RX7 167 RX5 yX5_markSpoiled cX5_markSpoiled 2 none 1 := ⟨w700, w697, w698, w699, w50, by decide +kernel, by decide⟩
def wp_X7_spoil (a1 : Int) (a2 : Int) (M : Mem) (Q : Int → Mem → Prop) : Prop := wp_X7_placeOf a1 a2 M (fun r2 M1 => wp_X5_isGood r2 M1 (fun r4 M3 => (Rg r4 ∧ (r4 ≠ 0 → wp_X5_labelIn r2 M3 (fun r10 M9 => wp_X1_waitAnew r10 M9 (fun r12 M11 => (Rg r12 ∧ (r12 ≠ 0 → wp_X5_markSpoiled r2 M11 (fun M17 => wp_X0_forget  M17 (fun M18 => Q r10 M18))) ∧ (¬ (r12 ≠ 0) → Q (-1) M11))))) ∧ (¬ (r4 ≠ 0) → Q (-1) M3))))
set_option maxHeartbeats 4000000 in
set_option maxRecDepth 100000 in
theorem c_X7_spoil (l : Launch) (X : Cx) (hI : Inj X) (a1 : Int) (a2 : Int) (M : Mem) (Q : Int → Mem → Prop) (h : wp_X7_spoil a1 a2 M Q) : MI X l yX7_spoil cX7_spoil 5 (some .int) 3 [.ref (xA X 42), .int (jI a1), .int (jI a2)] M Q := by
  refine MI.of hI (by decide) (Nat.le_of_ble_eq_true rfl) ?_
  intro p e R s m args below meth c ls E hW hl
  have E : En X (AW X) 3 p R s m args meth c cX7_spoil RX7 5 (some .int) 0 0 := E
  have hl : lv_has ls 5 [(0, .ref (xA X 42)), (1, .int (jI a1)), (2, .int (jI a2))] := hl
  unfold wp_X7_spoil at h
  refine q_iload_n (n := 1) (q := 1) E.1 hl rfl dX7_spoil_0 rfl rfl ?_
  refine q_iload_n (n := 2) (q := 2) E.1 hl rfl dX7_spoil_1 rfl rfl ?_
  refine q_callSi (n := 5) [.int (jI a1), .int (jI a2)] E hW hl.1 (c_X7_placeOf l X E.2.2.1.1 a1 a2  _ _ h) (by decide) Y_RX7_142 rfl (rest := []) rfl (Nat.le_of_ble_eq_true rfl) dX7_spoil_2 rfl (fun r2 M1 H locs h hW => ?_)
  refine q_istore_n (n := 6) [(3, .int (jI r2)), (0, .ref (xA X 42)), (1, .int (jI a1)), (2, .int (jI a2))] E.1 hl dX7_spoil_5 rfl (by decide) rfl rfl (fun ls hl => ?_)
  refine q_aload_n (n := 7) (q := 1) E.1 hl rfl dX7_spoil_6 rfl rfl ?_
  refine q_get (n := 10) (k := 5) (fs := (fs42 X)) (v := .ref (xA X 53)) E hW (by decide) (fun _ => rfl) K7 (by decide) w251 rfl rfl dX7_spoil_7 rfl ?_
  refine q_iload_n (n := 11) (q := 0) E.1 hl rfl dX7_spoil_10 rfl rfl ?_
  refine q_callVi (n := 14) (fs := (fs53 X)) [.int (jI r2)] E hW hl.1 (by decide) (fun _ => rfl) K5 (c_X5_isGood l X E.2.2.1.1 r2  _ _ h) (by decide) Y_RX7_161 rfl (rest := []) rfl (Nat.le_of_ble_eq_true rfl) dX7_spoil_11 rfl (fun r4 M3 H locs h hW => ?_)
  obtain ⟨g5, h6, h7⟩ := h
  refine q_if_ne (t := 19) (n := 17) E.1 g5 dX7_spoil_14 (by decide) rfl (fun c8 => ?_) (fun c8 => ?_)
  · have h := h6 c8
    refine q_aload_n (n := 20) (q := 1) E.1 hl rfl dX7_spoil_19 rfl rfl ?_
    refine q_get (n := 23) (k := 5) (fs := (fs42 X)) (v := .ref (xA X 53)) E hW (by decide) (fun _ => rfl) K7 (by decide) w251 rfl rfl dX7_spoil_20 rfl ?_
    refine q_iload_n (n := 24) (q := 0) E.1 hl rfl dX7_spoil_23 rfl rfl ?_
    refine q_callVi (n := 27) (fs := (fs53 X)) [.int (jI r2)] E hW hl.1 (by decide) (fun _ => rfl) K5 (c_X5_labelIn l X E.2.2.1.1 r2  _ _ h) (by decide) Y_RX7_158 rfl (rest := []) rfl (Nat.le_of_ble_eq_true rfl) dX7_spoil_24 rfl (fun r10 M9 H locs h hW => ?_)
    refine q_istore (n := 29) [(4, .int (jI r10)), (3, .int (jI r2)), (0, .ref (xA X 42)), (1, .int (jI a1)), (2, .int (jI a2))] E.1 hl dX7_spoil_27 (by decide) rfl rfl (fun ls hl => ?_)
    refine q_aload_n (n := 30) (q := 2) E.1 hl rfl dX7_spoil_29 rfl rfl ?_
    refine q_get (n := 33) (k := 4) (fs := (fs42 X)) (v := .ref (xA X 48)) E hW (by decide) (fun _ => rfl) K7 (by decide) w250 rfl rfl dX7_spoil_30 rfl ?_
    refine q_iload (n := 35) (q := 0) E.1 hl rfl dX7_spoil_33 rfl ?_
    refine q_callVi (n := 38) (fs := (fs48 X)) [.int (jI r10)] E hW hl.1 (by decide) (fun _ => rfl) K1 (c_X1_waitAnew l X E.2.2.1.1 r10  _ _ h) (by decide) Y_RX7_164 rfl (rest := []) rfl (Nat.le_of_ble_eq_true rfl) dX7_spoil_35 rfl (fun r12 M11 H locs h hW => ?_)
    obtain ⟨g13, h14, h15⟩ := h
    refine q_if_ne (t := 43) (n := 41) E.1 g13 dX7_spoil_38 (by decide) rfl (fun c16 => ?_) (fun c16 => ?_)
    · have h := h14 c16
      refine q_aload_n (n := 44) (q := 2) E.1 hl rfl dX7_spoil_43 rfl rfl ?_
      refine q_get (n := 47) (k := 5) (fs := (fs42 X)) (v := .ref (xA X 53)) E hW (by decide) (fun _ => rfl) K7 (by decide) w251 rfl rfl dX7_spoil_44 rfl ?_
      refine q_iload_n (n := 48) (q := 1) E.1 hl rfl dX7_spoil_47 rfl rfl ?_
      refine q_callVv (n := 51) (fs := (fs53 X)) [.int (jI r2)] E hW hl.1 (by decide) (fun _ => rfl) K5 (c_X5_markSpoiled l X E.2.2.1.1 r2  _ _ h) (by decide) Y_RX7_167 rfl (rest := []) rfl (Nat.le_of_ble_eq_true rfl) dX7_spoil_48 rfl (fun M17 H locs h hW => ?_)
      refine q_aload_n (n := 52) (q := 2) E.1 hl rfl dX7_spoil_51 rfl rfl ?_
      refine q_get (n := 55) (k := 6) (fs := (fs42 X)) (v := .ref (xA X 57)) E hW (by decide) (fun _ => rfl) K7 (by decide) w252 rfl rfl dX7_spoil_52 rfl ?_
      refine q_callVv (n := 58) (fs := (fs57 X)) [] E hW hl.1 (by decide) (fun _ => rfl) K0 (c_X0_forget l X E.2.2.1.1   _ _ h) (by decide) Y_RX7_110 rfl (rest := []) rfl (Nat.le_of_ble_eq_true rfl) dX7_spoil_55 rfl (fun M18 H locs h hW => ?_)
      refine q_iload (n := 60) (q := 0) E.1 hl rfl dX7_spoil_58 rfl ?_
      exact q_iret E hW h dX7_spoil_60
    · have h := h15 c16
      refine q_iconst (n := 42) E.1 dX7_spoil_41 rfl ?_
      exact q_iret E hW h dX7_spoil_42
  · have h := h7 c8
    refine q_iconst (n := 18) E.1 dX7_spoil_17 rfl ?_
    exact q_iret E hW h dX7_spoil_18
/-! StickerPress.label(II)I -/
theorem dX7_label_0 : decode cX7_label 0 = .ok (.aload_n 0, 1) := by decide +kernel
theorem dX7_label_1 : decode cX7_label 1 = .ok (.getfield 38, 3) := by decide +kernel
theorem dX7_label_4 : decode cX7_label 4 = .ok (.iload_n 1, 1) := by decide +kernel
theorem dX7_label_5 : decode cX7_label 5 = .ok (.iload_n 2, 1) := by decide +kernel
theorem dX7_label_6 : decode cX7_label 6 = .ok (.invokevirtual 170, 3) := by decide +kernel
theorem dX7_label_9 : decode cX7_label 9 = .ok (.ireturn, 1) := by decide +kernel
theorem Y_RX7_170 : YV RX7 170 RX1 yX1_tell cX1_tell 3 (some .int) 2 := ⟨w708, w705, w706, w707, w49, by decide +kernel, by decide⟩
def wp_X7_label (a1 : Int) (a2 : Int) (M : Mem) (Q : Int → Mem → Prop) : Prop := wp_X1_tell a1 a2 M (fun r2 M1 => Q r2 M1)
set_option maxHeartbeats 4000000 in
set_option maxRecDepth 100000 in
theorem c_X7_label (l : Launch) (X : Cx) (hI : Inj X) (a1 : Int) (a2 : Int) (M : Mem) (Q : Int → Mem → Prop) (h : wp_X7_label a1 a2 M Q) : MI X l yX7_label cX7_label 3 (some .int) 2 [.ref (xA X 42), .int (jI a1), .int (jI a2)] M Q := by
  refine MI.of hI (by decide) (Nat.le_of_ble_eq_true rfl) ?_
  intro p e R s m args below meth c ls E hW hl
  have E : En X (AW X) 2 p R s m args meth c cX7_label RX7 3 (some .int) 0 0 := E
  have hl : lv_has ls 3 [(0, .ref (xA X 42)), (1, .int (jI a1)), (2, .int (jI a2))] := hl
  unfold wp_X7_label at h
  refine q_aload_n (n := 1) (q := 0) E.1 hl rfl dX7_label_0 rfl rfl ?_
  refine q_get (n := 4) (k := 4) (fs := (fs42 X)) (v := .ref (xA X 48)) E hW (by decide) (fun _ => rfl) K7 (by decide) w250 rfl rfl dX7_label_1 rfl ?_
  refine q_iload_n (n := 5) (q := 1) E.1 hl rfl dX7_label_4 rfl rfl ?_
  refine q_iload_n (n := 6) (q := 2) E.1 hl rfl dX7_label_5 rfl rfl ?_
  refine q_callVi (n := 9) (fs := (fs48 X)) [.int (jI a1), .int (jI a2)] E hW hl.1 (by decide) (fun _ => rfl) K1 (c_X1_tell l X E.2.2.1.1 a1 a2  _ _ h) (by decide) Y_RX7_170 rfl (rest := []) rfl (Nat.le_of_ble_eq_true rfl) dX7_label_6 rfl (fun r2 M1 H locs h hW => ?_)
  exact q_iret E hW h dX7_label_9
end
