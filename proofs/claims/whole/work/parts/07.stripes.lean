/-! Stripes, Reading -/
section
variable {X : Cx} {p : Program} {l : Launch} {e : Env} {R : Room} {s : State} {m : MethodId} {args : Array Value} {below : List Frame} {meth : Method} {c : Code}
/-! StickerPress$Reading.stripe(LStickerPress$Row;I)I -/
theorem dX3_stripe_0 : decode cX3_stripe 0 = .ok (.aload_n 1, 1) := by decide +kernel
theorem dX3_stripe_1 : decode cX3_stripe 1 = .ok (.aload_n 0, 1) := by decide +kernel
theorem dX3_stripe_2 : decode cX3_stripe 2 = .ok (.getfield 9, 3) := by decide +kernel
theorem dX3_stripe_5 : decode cX3_stripe 5 = .ok (.ifCond .eq 14, 3) := by decide +kernel
theorem dX3_stripe_8 : decode cX3_stripe 8 = .ok (.aload_n 1, 1) := by decide +kernel
theorem dX3_stripe_9 : decode cX3_stripe 9 = .ok (.invokevirtual 42, 3) := by decide +kernel
theorem dX3_stripe_12 : decode cX3_stripe 12 = .ok (.iconst 1, 1) := by decide +kernel
theorem dX3_stripe_13 : decode cX3_stripe 13 = .ok (.isub, 1) := by decide +kernel
theorem dX3_stripe_14 : decode cX3_stripe 14 = .ok (.iload_n 2, 1) := by decide +kernel
theorem dX3_stripe_15 : decode cX3_stripe 15 = .ok (.isub, 1) := by decide +kernel
theorem dX3_stripe_16 : decode cX3_stripe 16 = .ok (.goto 4, 3) := by decide +kernel
theorem dX3_stripe_19 : decode cX3_stripe 19 = .ok (.iload_n 2, 1) := by decide +kernel
theorem dX3_stripe_20 : decode cX3_stripe 20 = .ok (.invokevirtual 50, 3) := by decide +kernel
theorem dX3_stripe_23 : decode cX3_stripe 23 = .ok (.ireturn, 1) := by decide +kernel
theorem Y_RX3_42 : YV RX3 42 RX4 yX4_size cX4_size 1 (some .int) 0 := ⟨w283, w461, w281, w282, w44, by decide +kernel, by decide⟩
theorem Y_RX3_50 : YV RX3 50 RX4 yX4_at cX4_at 2 (some .int) 1 := ⟨w322, w462, w320, w321, w44, by decide +kernel, by decide⟩
def wp_X3_stripe (o : Nat) (a2 : Int) (M : Mem) (Q : Int → Mem → Prop) : Prop := (Rg (M o 0) ∧ ((M o 0) = 0 → wp_X4_at 34 a2 M (fun r6 M5 => Q r6 M5)) ∧ (¬ ((M o 0) = 0) → wp_X4_size 34 M (fun r8 M7 => wp_X4_at 34 ((r8 - 1) - a2) M7 (fun r10 M9 => Q r10 M9))))
set_option maxHeartbeats 4000000 in
set_option maxRecDepth 100000 in
theorem c_X3_stripe (l : Launch) (X : Cx) (hI : Inj X) (o : Nat) (a2 : Int) (ho : isRd o) (M : Mem) (Q : Int → Mem → Prop) (h : wp_X3_stripe o a2 M Q) : MI X l yX3_stripe cX3_stripe 3 (some .int) 1 [.ref (xA X o), .ref (xA X 34), .int (jI a2)] M Q := by
  refine MI.of hI (by decide) (Nat.le_of_ble_eq_true rfl) ?_
  intro p e R s m args below meth c ls E hW hl
  have E : En X (AW X) 1 p R s m args meth c cX3_stripe RX3 3 (some .int) 0 0 := E
  have hl : lv_has ls 3 [(0, .ref (xA X o)), (1, .ref (xA X 34)), (2, .int (jI a2))] := hl
  unfold wp_X3_stripe at h
  refine q_aload_n (n := 1) (q := 1) E.1 hl rfl dX3_stripe_0 rfl rfl ?_
  refine q_aload_n (n := 2) (q := 0) E.1 hl rfl dX3_stripe_1 rfl rfl ?_
  refine q_get (n := 5) (k := 0) (fs := (fsRd X o)) (v := .int (jI (M o 0))) E hW (isRd_lt ho) (ent_rd X ho) K3 (by decide) w127 rfl rfl dX3_stripe_2 rfl ?_
  obtain ⟨g1, h2, h3⟩ := h
  refine q_if_eq (t := 19) (n := 8) E.1 g1 dX3_stripe_5 (by decide) rfl (fun c4 => ?_) (fun c4 => ?_)
  · have h := h2 c4
    refine q_iload_n (n := 20) (q := 2) E.1 hl rfl dX3_stripe_19 rfl rfl ?_
    refine q_callVi (n := 23) (fs := (fsRow X 34)) [.int (jI a2)] E hW hl.1 (isRow_lt (by decide)) (ent_row X (by decide)) K4 (c_X4_at l X E.2.2.1.1 34 a2 (by decide) _ _ h) (by decide) Y_RX3_50 rfl (rest := []) rfl (Nat.le_of_ble_eq_true rfl) dX3_stripe_20 rfl (fun r6 M5 H locs h hW => ?_)
    exact q_iret E hW h dX3_stripe_23
  · have h := h3 c4
    refine q_aload_n (n := 9) (q := 1) E.1 hl rfl dX3_stripe_8 rfl rfl ?_
    refine q_callVi (n := 12) (fs := (fsRow X 34)) [] E hW hl.1 (isRow_lt (by decide)) (ent_row X (by decide)) K4 (c_X4_size l X E.2.2.1.1 34 (by decide) _ _ h) (by decide) Y_RX3_42 rfl (rest := [.ref (xA X 34)]) rfl (Nat.le_of_ble_eq_true rfl) dX3_stripe_9 rfl (fun r8 M7 H locs h hW => ?_)
    refine q_iconst (n := 13) E.1 dX3_stripe_12 rfl ?_
    refine q_isub (n := 14) E.1 dX3_stripe_13 rfl ?_
    refine q_iload_n (n := 15) (q := 2) E.1 hl rfl dX3_stripe_14 rfl rfl ?_
    refine q_isub (n := 16) E.1 dX3_stripe_15 rfl ?_
    refine q_goto (n := 20) E.1 dX3_stripe_16 (by decide) ?_
    refine q_callVi (n := 23) (fs := (fsRow X 34)) [.int (jI ((r8 - 1) - a2))] E hW hl.1 (isRow_lt (by decide)) (ent_row X (by decide)) K4 (c_X4_at l X E.2.2.1.1 34 ((r8 - 1) - a2) (by decide) _ _ h) (by decide) Y_RX3_50 rfl (rest := []) rfl (Nat.le_of_ble_eq_true rfl) dX3_stripe_20 rfl (fun r10 M9 H locs h hW => ?_)
    exact q_iret E hW h dX3_stripe_23
/-! StickerPress$Reading.addDigit(LStickerPress$Row;I)Z -/
theorem dX3_addDigit_0 : decode cX3_addDigit 0 = .ok (.iconst 0, 1) := by decide +kernel
theorem dX3_addDigit_1 : decode cX3_addDigit 1 = .ok (.istore_n 3, 1) := by decide +kernel
theorem dX3_addDigit_2 : decode cX3_addDigit 2 = .ok (.iconst 0, 1) := by decide +kernel
theorem dX3_addDigit_3 : decode cX3_addDigit 3 = .ok (.istore 4, 2) := by decide +kernel
theorem dX3_addDigit_5 : decode cX3_addDigit 5 = .ok (.iload 4, 2) := by decide +kernel
theorem dX3_addDigit_7 : decode cX3_addDigit 7 = .ok (.iconst 5, 1) := by decide +kernel
theorem dX3_addDigit_8 : decode cX3_addDigit 8 = .ok (.if_icmp .ge 25, 3) := by decide +kernel
theorem dX3_addDigit_11 : decode cX3_addDigit 11 = .ok (.iload_n 3, 1) := by decide +kernel
theorem dX3_addDigit_12 : decode cX3_addDigit 12 = .ok (.iconst 2, 1) := by decide +kernel
theorem dX3_addDigit_13 : decode cX3_addDigit 13 = .ok (.imul, 1) := by decide +kernel
theorem dX3_addDigit_14 : decode cX3_addDigit 14 = .ok (.aload_n 0, 1) := by decide +kernel
theorem dX3_addDigit_15 : decode cX3_addDigit 15 = .ok (.aload_n 1, 1) := by decide +kernel
theorem dX3_addDigit_16 : decode cX3_addDigit 16 = .ok (.iload_n 2, 1) := by decide +kernel
theorem dX3_addDigit_17 : decode cX3_addDigit 17 = .ok (.iconst 2, 1) := by decide +kernel
theorem dX3_addDigit_18 : decode cX3_addDigit 18 = .ok (.iload 4, 2) := by decide +kernel
theorem dX3_addDigit_20 : decode cX3_addDigit 20 = .ok (.imul, 1) := by decide +kernel
theorem dX3_addDigit_21 : decode cX3_addDigit 21 = .ok (.iadd, 1) := by decide +kernel
theorem dX3_addDigit_22 : decode cX3_addDigit 22 = .ok (.invokevirtual 60, 3) := by decide +kernel
theorem dX3_addDigit_25 : decode cX3_addDigit 25 = .ok (.iadd, 1) := by decide +kernel
theorem dX3_addDigit_26 : decode cX3_addDigit 26 = .ok (.istore_n 3, 1) := by decide +kernel
theorem dX3_addDigit_27 : decode cX3_addDigit 27 = .ok (.iinc 4 1, 3) := by decide +kernel
theorem dX3_addDigit_30 : decode cX3_addDigit 30 = .ok (.goto (-25), 3) := by decide +kernel
theorem dX3_addDigit_33 : decode cX3_addDigit 33 = .ok (.iconst 0, 1) := by decide +kernel
theorem dX3_addDigit_34 : decode cX3_addDigit 34 = .ok (.istore 4, 2) := by decide +kernel
theorem dX3_addDigit_36 : decode cX3_addDigit 36 = .ok (.iload 4, 2) := by decide +kernel
theorem dX3_addDigit_38 : decode cX3_addDigit 38 = .ok (.getstatic 63, 3) := by decide +kernel
theorem dX3_addDigit_41 : decode cX3_addDigit 41 = .ok (.arraylength, 1) := by decide +kernel
theorem dX3_addDigit_42 : decode cX3_addDigit 42 = .ok (.if_icmp .ge 29, 3) := by decide +kernel
theorem dX3_addDigit_45 : decode cX3_addDigit 45 = .ok (.getstatic 63, 3) := by decide +kernel
theorem dX3_addDigit_48 : decode cX3_addDigit 48 = .ok (.iload 4, 2) := by decide +kernel
theorem dX3_addDigit_50 : decode cX3_addDigit 50 = .ok (.iaload, 1) := by decide +kernel
theorem dX3_addDigit_51 : decode cX3_addDigit 51 = .ok (.iload_n 3, 1) := by decide +kernel
theorem dX3_addDigit_52 : decode cX3_addDigit 52 = .ok (.if_icmp .ne 13, 3) := by decide +kernel
theorem dX3_addDigit_55 : decode cX3_addDigit 55 = .ok (.aload_n 0, 1) := by decide +kernel
theorem dX3_addDigit_56 : decode cX3_addDigit 56 = .ok (.getfield 20, 3) := by decide +kernel
theorem dX3_addDigit_59 : decode cX3_addDigit 59 = .ok (.iload 4, 2) := by decide +kernel
theorem dX3_addDigit_61 : decode cX3_addDigit 61 = .ok (.invokevirtual 67, 3) := by decide +kernel
theorem dX3_addDigit_64 : decode cX3_addDigit 64 = .ok (.ireturn, 1) := by decide +kernel
theorem dX3_addDigit_65 : decode cX3_addDigit 65 = .ok (.iinc 4 1, 3) := by decide +kernel
theorem dX3_addDigit_68 : decode cX3_addDigit 68 = .ok (.goto (-32), 3) := by decide +kernel
theorem dX3_addDigit_71 : decode cX3_addDigit 71 = .ok (.iconst 0, 1) := by decide +kernel
theorem dX3_addDigit_72 : decode cX3_addDigit 72 = .ok (.ireturn, 1) := by decide +kernel
theorem Y_RX3_60 : YV RX3 60 RX3 yX3_stripe cX3_stripe 3 (some .int) 2 := ⟨w460, w457, w459, w10, w48, by decide +kernel, by decide⟩
theorem Y_RX3_67 : YV RX3 67 RX4 yX4_add cX4_add 2 (some .boolean) 1 := ⟨w291, w472, w289, w290, w44, by decide +kernel, by decide⟩
def wp_X3_addDigit_36 (o : Nat) (a2 : Int) (Q : Int → Mem → Prop) : Nat → Int → Int → Mem → Prop
  | 0, _, _, _ => False
  | n + 1, x3, x4, M => (Rg x4 ∧ (10 ≤ x4 → Q 0 M) ∧ (¬ (10 ≤ x4) → (0 ≤ x4 ∧ x4 < 10) ∧ (Rg (dcode x4.toNat) ∧ Rg x3 ∧ ((dcode x4.toNat) ≠ x3 → wp_X3_addDigit_36 o a2 Q n x3 (x4 + 1) M) ∧ (¬ ((dcode x4.toNat) ≠ x3) → wp_X4_add (2 * o - 44) x4 M (fun r12 M11 => ((r12 = 0 ∨ r12 = 1) ∧ Q r12 M11))))))
set_option maxHeartbeats 4000000 in
set_option maxRecDepth 100000 in
theorem v_X3_addDigit_36 (o : Nat) (a2 : Int) (ho : isRd o) (E : En X (AW X) 2 p R s m args meth c cX3_addDigit RX3 5 (some .boolean) 0 0) (Q : Int → Mem → Prop) : ∀ n : Nat, ∀ (x3 x4 : Int) (M : Mem) (H : Heap) (locs : List Loc) (ls : Array Slot), wp_X3_addDigit_36 o a2 Q n x3 x4 M → Wd X (AW X) s M H locs → lv_has ls 5 [(0, .ref (xA X o)), (3, .int (jI x3)), (4, .int (jI x4))] → W p l e R s m args below meth c H locs 0 0 (MQ below (QI X Q) args s 0 0 (AW X)) (F0 m 36 ls []) := by
  intro n
  induction n with
  | zero => intro x3 x4 M H locs ls h; exact absurd h (by simp [wp_X3_addDigit_36])
  | succ n ih =>
    intro x3 x4 M H locs ls h hW hl
    rw [wp_X3_addDigit_36] at h
    refine q_iload (n := 38) (q := 2) E.1 hl rfl dX3_addDigit_36 rfl ?_
    refine q_gets (n := 41) E hW 4 rfl dX3_addDigit_38 rfl ?_
    refine q_tlen (n := 42) E hW dX3_addDigit_41 rfl ?_
    obtain ⟨g1, h2, h3⟩ := h
    refine q_icmp_ge (t := 71) (n := 45) E.1 g1 (by decide) dX3_addDigit_42 (by decide) rfl (fun c4 => ?_) (fun c4 => ?_)
    · have h := h2 c4
      refine q_iconst (n := 72) E.1 dX3_addDigit_71 rfl ?_
      exact q_zret E hW (Or.inl rfl) h dX3_addDigit_72
    · have h := h3 c4
      refine q_gets (n := 48) E hW 4 rfl dX3_addDigit_45 rfl ?_
      refine q_iload (n := 50) (q := 2) E.1 hl rfl dX3_addDigit_48 rfl ?_
      obtain ⟨g5, h⟩ := h
      refine q_tald (n := 51) E hW g5 dX3_addDigit_50 rfl ?_
      refine q_iload_n (n := 52) (q := 1) E.1 hl rfl dX3_addDigit_51 rfl rfl ?_
      obtain ⟨g6, g7, h8, h9⟩ := h
      refine q_icmp_ne (t := 65) (n := 55) E.1 g6 g7 dX3_addDigit_52 (by decide) rfl (fun c10 => ?_) (fun c10 => ?_)
      · have h := h8 c10
        refine q_iinc (n := 68) (q := 2) [(4, .int (jI (x4 + 1))), (0, .ref (xA X o)), (3, .int (jI x3))] E.1 hl rfl dX3_addDigit_65 (by decide) rfl rfl (fun ls hl => ?_)
        refine q_goto (n := 36) E.1 dX3_addDigit_68 (by decide) ?_
        exact ih _ _ _ _ _ _ h hW (lv_sub hl [1, 2, 0] rfl)
      · have h := h9 c10
        refine q_aload_n (n := 56) (q := 0) E.1 hl rfl dX3_addDigit_55 rfl rfl ?_
        refine q_get (n := 59) (k := 1) (fs := (fsRd X o)) (v := .ref (xA X (2 * o - 44))) E hW (isRd_lt ho) (ent_rd X ho) K3 (by decide) w128 rfl rfl dX3_addDigit_56 rfl ?_
        refine q_iload (n := 61) (q := 2) E.1 hl rfl dX3_addDigit_59 rfl ?_
        refine q_callVi (n := 64) (fs := (fsRow X (2 * o - 44))) [.int (jI x4)] E hW hl.1 (isRow_lt (isRd_row ho)) (ent_row X (isRd_row ho)) K4 (c_X4_add l X E.2.2.1.1 (2 * o - 44) x4 (isRd_row ho) _ _ h) (by decide) Y_RX3_67 rfl (rest := []) rfl (Nat.le_of_ble_eq_true rfl) dX3_addDigit_61 rfl (fun r12 M11 H locs h hW => ?_)
        exact q_zret E hW h.1 h.2 dX3_addDigit_64
def wp_X3_addDigit_5 (o : Nat) (a2 : Int) (Q : Int → Mem → Prop) : Nat → Int → Int → Mem → Prop
  | 0, _, _, _ => False
  | n + 1, x3, x4, M => (Rg x4 ∧ (5 ≤ x4 → (∃ n2 : Nat, wp_X3_addDigit_36 o a2 Q n2 x3 0 M)) ∧ (¬ (5 ≤ x4) → wp_X3_stripe o (a2 + (2 * x4)) M (fun r7 M6 => wp_X3_addDigit_5 o a2 Q n ((x3 * 2) + r7) (x4 + 1) M6)))
set_option maxHeartbeats 4000000 in
set_option maxRecDepth 100000 in
theorem v_X3_addDigit_5 (o : Nat) (a2 : Int) (ho : isRd o) (E : En X (AW X) 2 p R s m args meth c cX3_addDigit RX3 5 (some .boolean) 0 0) (Q : Int → Mem → Prop) : ∀ n : Nat, ∀ (x3 x4 : Int) (M : Mem) (H : Heap) (locs : List Loc) (ls : Array Slot), wp_X3_addDigit_5 o a2 Q n x3 x4 M → Wd X (AW X) s M H locs → lv_has ls 5 [(0, .ref (xA X o)), (1, .ref (xA X 34)), (2, .int (jI a2)), (3, .int (jI x3)), (4, .int (jI x4))] → W p l e R s m args below meth c H locs 0 0 (MQ below (QI X Q) args s 0 0 (AW X)) (F0 m 5 ls []) := by
  intro n
  induction n with
  | zero => intro x3 x4 M H locs ls h; exact absurd h (by simp [wp_X3_addDigit_5])
  | succ n ih =>
    intro x3 x4 M H locs ls h hW hl
    rw [wp_X3_addDigit_5] at h
    refine q_iload (n := 7) (q := 4) E.1 hl rfl dX3_addDigit_5 rfl ?_
    refine q_iconst (n := 8) E.1 dX3_addDigit_7 rfl ?_
    obtain ⟨g1, h2, h3⟩ := h
    refine q_icmp_ge (t := 33) (n := 11) E.1 g1 (by decide) dX3_addDigit_8 (by decide) rfl (fun c4 => ?_) (fun c4 => ?_)
    · have h := h2 c4
      refine q_iconst (n := 34) E.1 dX3_addDigit_33 rfl ?_
      refine q_istore (n := 36) [(4, .int (jI 0)), (0, .ref (xA X o)), (1, .ref (xA X 34)), (2, .int (jI a2)), (3, .int (jI x3))] E.1 hl dX3_addDigit_34 (by decide) rfl rfl (fun ls hl => ?_)
      obtain ⟨n5, h⟩ := h
      exact v_X3_addDigit_36 o a2 ho E Q n5 _ _ _ _ _ _ h hW (lv_sub hl [1, 4, 0] rfl)
    · have h := h3 c4
      refine q_iload_n (n := 12) (q := 3) E.1 hl rfl dX3_addDigit_11 rfl rfl ?_
      refine q_iconst (n := 13) E.1 dX3_addDigit_12 rfl ?_
      refine q_imul (n := 14) E.1 dX3_addDigit_13 rfl ?_
      refine q_aload_n (n := 15) (q := 0) E.1 hl rfl dX3_addDigit_14 rfl rfl ?_
      refine q_aload_n (n := 16) (q := 1) E.1 hl rfl dX3_addDigit_15 rfl rfl ?_
      refine q_iload_n (n := 17) (q := 2) E.1 hl rfl dX3_addDigit_16 rfl rfl ?_
      refine q_iconst (n := 18) E.1 dX3_addDigit_17 rfl ?_
      refine q_iload (n := 20) (q := 4) E.1 hl rfl dX3_addDigit_18 rfl ?_
      refine q_imul (n := 21) E.1 dX3_addDigit_20 rfl ?_
      refine q_iadd (n := 22) E.1 dX3_addDigit_21 rfl ?_
      refine q_callVi (n := 25) (fs := (fsRd X o)) [.ref (xA X 34), .int (jI (a2 + (2 * x4)))] E hW hl.1 (isRd_lt ho) (ent_rd X ho) K3 (c_X3_stripe l X E.2.2.1.1 o (a2 + (2 * x4)) ho _ _ h) (by decide) Y_RX3_60 rfl (rest := [.int (jI (x3 * 2))]) rfl (Nat.le_of_ble_eq_true rfl) dX3_addDigit_22 rfl (fun r7 M6 H locs h hW => ?_)
      refine q_iadd (n := 26) E.1 dX3_addDigit_25 rfl ?_
      refine q_istore_n (n := 27) [(3, .int (jI ((x3 * 2) + r7))), (0, .ref (xA X o)), (1, .ref (xA X 34)), (2, .int (jI a2)), (4, .int (jI x4))] E.1 hl dX3_addDigit_26 rfl (by decide) rfl rfl (fun ls hl => ?_)
      refine q_iinc (n := 30) (q := 4) [(4, .int (jI (x4 + 1))), (3, .int (jI ((x3 * 2) + r7))), (0, .ref (xA X o)), (1, .ref (xA X 34)), (2, .int (jI a2))] E.1 hl rfl dX3_addDigit_27 (by decide) rfl rfl (fun ls hl => ?_)
      refine q_goto (n := 5) E.1 dX3_addDigit_30 (by decide) ?_
      exact ih _ _ _ _ _ _ h hW (lv_sub hl [2, 3, 4, 1, 0] rfl)
def wp_X3_addDigit (o : Nat) (a2 : Int) (M : Mem) (Q : Int → Mem → Prop) : Prop := (∃ n : Nat, wp_X3_addDigit_5 o a2 Q n 0 0 M)
set_option maxHeartbeats 4000000 in
set_option maxRecDepth 100000 in
theorem c_X3_addDigit (l : Launch) (X : Cx) (hI : Inj X) (o : Nat) (a2 : Int) (ho : isRd o) (M : Mem) (Q : Int → Mem → Prop) (h : wp_X3_addDigit o a2 M Q) : MI X l yX3_addDigit cX3_addDigit 5 (some .boolean) 2 [.ref (xA X o), .ref (xA X 34), .int (jI a2)] M Q := by
  refine MI.of hI (by decide) (Nat.le_of_ble_eq_true rfl) ?_
  intro p e R s m args below meth c ls E hW hl
  have E : En X (AW X) 2 p R s m args meth c cX3_addDigit RX3 5 (some .boolean) 0 0 := E
  have hl : lv_has ls 5 [(0, .ref (xA X o)), (1, .ref (xA X 34)), (2, .int (jI a2))] := hl
  unfold wp_X3_addDigit at h
  refine q_iconst (n := 1) E.1 dX3_addDigit_0 rfl ?_
  refine q_istore_n (n := 2) [(3, .int (jI 0)), (0, .ref (xA X o)), (1, .ref (xA X 34)), (2, .int (jI a2))] E.1 hl dX3_addDigit_1 rfl (by decide) rfl rfl (fun ls hl => ?_)
  refine q_iconst (n := 3) E.1 dX3_addDigit_2 rfl ?_
  refine q_istore (n := 5) [(4, .int (jI 0)), (3, .int (jI 0)), (0, .ref (xA X o)), (1, .ref (xA X 34)), (2, .int (jI a2))] E.1 hl dX3_addDigit_3 (by decide) rfl rfl (fun ls hl => ?_)
  obtain ⟨n1, h⟩ := h
  exact v_X3_addDigit_5 o a2 ho E Q n1 _ _ _ _ _ _ h hW (lv_sub hl [2, 3, 4, 1, 0] rfl)
/-! StickerPress$Reading.endsStand(LStickerPress$Row;)Z -/
theorem dX3_endsStand_0 : decode cX3_endsStand 0 = .ok (.iconst 0, 1) := by decide +kernel
theorem dX3_endsStand_1 : decode cX3_endsStand 1 = .ok (.istore_n 2, 1) := by decide +kernel
theorem dX3_endsStand_2 : decode cX3_endsStand 2 = .ok (.iload_n 2, 1) := by decide +kernel
theorem dX3_endsStand_3 : decode cX3_endsStand 3 = .ok (.iconst 4, 1) := by decide +kernel
theorem dX3_endsStand_4 : decode cX3_endsStand 4 = .ok (.if_icmp .ge 20, 3) := by decide +kernel
theorem dX3_endsStand_7 : decode cX3_endsStand 7 = .ok (.aload_n 0, 1) := by decide +kernel
theorem dX3_endsStand_8 : decode cX3_endsStand 8 = .ok (.aload_n 1, 1) := by decide +kernel
theorem dX3_endsStand_9 : decode cX3_endsStand 9 = .ok (.iload_n 2, 1) := by decide +kernel
theorem dX3_endsStand_10 : decode cX3_endsStand 10 = .ok (.invokevirtual 60, 3) := by decide +kernel
theorem dX3_endsStand_13 : decode cX3_endsStand 13 = .ok (.ifCond .eq 5, 3) := by decide +kernel
theorem dX3_endsStand_16 : decode cX3_endsStand 16 = .ok (.iconst 0, 1) := by decide +kernel
theorem dX3_endsStand_17 : decode cX3_endsStand 17 = .ok (.ireturn, 1) := by decide +kernel
theorem dX3_endsStand_18 : decode cX3_endsStand 18 = .ok (.iinc 2 1, 3) := by decide +kernel
theorem dX3_endsStand_21 : decode cX3_endsStand 21 = .ok (.goto (-19), 3) := by decide +kernel
theorem dX3_endsStand_24 : decode cX3_endsStand 24 = .ok (.aload_n 1, 1) := by decide +kernel
theorem dX3_endsStand_25 : decode cX3_endsStand 25 = .ok (.invokevirtual 42, 3) := by decide +kernel
theorem dX3_endsStand_28 : decode cX3_endsStand 28 = .ok (.iconst 3, 1) := by decide +kernel
theorem dX3_endsStand_29 : decode cX3_endsStand 29 = .ok (.isub, 1) := by decide +kernel
theorem dX3_endsStand_30 : decode cX3_endsStand 30 = .ok (.istore_n 2, 1) := by decide +kernel
theorem dX3_endsStand_31 : decode cX3_endsStand 31 = .ok (.aload_n 0, 1) := by decide +kernel
theorem dX3_endsStand_32 : decode cX3_endsStand 32 = .ok (.aload_n 1, 1) := by decide +kernel
theorem dX3_endsStand_33 : decode cX3_endsStand 33 = .ok (.iload_n 2, 1) := by decide +kernel
theorem dX3_endsStand_34 : decode cX3_endsStand 34 = .ok (.invokevirtual 60, 3) := by decide +kernel
theorem dX3_endsStand_37 : decode cX3_endsStand 37 = .ok (.iconst 1, 1) := by decide +kernel
theorem dX3_endsStand_38 : decode cX3_endsStand 38 = .ok (.if_icmp .ne 29, 3) := by decide +kernel
theorem dX3_endsStand_41 : decode cX3_endsStand 41 = .ok (.aload_n 0, 1) := by decide +kernel
theorem dX3_endsStand_42 : decode cX3_endsStand 42 = .ok (.aload_n 1, 1) := by decide +kernel
theorem dX3_endsStand_43 : decode cX3_endsStand 43 = .ok (.iload_n 2, 1) := by decide +kernel
theorem dX3_endsStand_44 : decode cX3_endsStand 44 = .ok (.iconst 1, 1) := by decide +kernel
theorem dX3_endsStand_45 : decode cX3_endsStand 45 = .ok (.iadd, 1) := by decide +kernel
theorem dX3_endsStand_46 : decode cX3_endsStand 46 = .ok (.invokevirtual 60, 3) := by decide +kernel
theorem dX3_endsStand_49 : decode cX3_endsStand 49 = .ok (.ifCond .ne 18, 3) := by decide +kernel
theorem dX3_endsStand_52 : decode cX3_endsStand 52 = .ok (.aload_n 0, 1) := by decide +kernel
theorem dX3_endsStand_53 : decode cX3_endsStand 53 = .ok (.aload_n 1, 1) := by decide +kernel
theorem dX3_endsStand_54 : decode cX3_endsStand 54 = .ok (.iload_n 2, 1) := by decide +kernel
theorem dX3_endsStand_55 : decode cX3_endsStand 55 = .ok (.iconst 2, 1) := by decide +kernel
theorem dX3_endsStand_56 : decode cX3_endsStand 56 = .ok (.iadd, 1) := by decide +kernel
theorem dX3_endsStand_57 : decode cX3_endsStand 57 = .ok (.invokevirtual 60, 3) := by decide +kernel
theorem dX3_endsStand_60 : decode cX3_endsStand 60 = .ok (.ifCond .ne 7, 3) := by decide +kernel
theorem dX3_endsStand_63 : decode cX3_endsStand 63 = .ok (.iconst 1, 1) := by decide +kernel
theorem dX3_endsStand_64 : decode cX3_endsStand 64 = .ok (.goto 4, 3) := by decide +kernel
theorem dX3_endsStand_67 : decode cX3_endsStand 67 = .ok (.iconst 0, 1) := by decide +kernel
theorem dX3_endsStand_68 : decode cX3_endsStand 68 = .ok (.ireturn, 1) := by decide +kernel
def wp_X3_endsStand_2 (o : Nat) (Q : Int → Mem → Prop) : Nat → Int → Mem → Prop
  | 0, _, _ => False
  | n + 1, x2, M => (Rg x2 ∧ (4 ≤ x2 → wp_X4_size 34 M (fun r6 M5 => wp_X3_stripe o (r6 - 3) M5 (fun r8 M7 => (Rg r8 ∧ (r8 ≠ 1 → Q 0 M7) ∧ (¬ (r8 ≠ 1) → wp_X3_stripe o ((r6 - 3) + 1) M7 (fun r14 M13 => (Rg r14 ∧ (r14 ≠ 0 → Q 0 M13) ∧ (¬ (r14 ≠ 0) → wp_X3_stripe o ((r6 - 3) + 2) M13 (fun r20 M19 => (Rg r20 ∧ (r20 ≠ 0 → Q 0 M19) ∧ (¬ (r20 ≠ 0) → Q 1 M19))))))))))) ∧ (¬ (4 ≤ x2) → wp_X3_stripe o x2 M (fun r26 M25 => (Rg r26 ∧ (r26 = 0 → wp_X3_endsStand_2 o Q n (x2 + 1) M25) ∧ (¬ (r26 = 0) → Q 0 M25)))))
set_option maxHeartbeats 4000000 in
set_option maxRecDepth 100000 in
theorem v_X3_endsStand_2 (o : Nat) (ho : isRd o) (E : En X (AW X) 2 p R s m args meth c cX3_endsStand RX3 3 (some .boolean) 0 0) (Q : Int → Mem → Prop) : ∀ n : Nat, ∀ (x2 : Int) (M : Mem) (H : Heap) (locs : List Loc) (ls : Array Slot), wp_X3_endsStand_2 o Q n x2 M → Wd X (AW X) s M H locs → lv_has ls 3 [(0, .ref (xA X o)), (1, .ref (xA X 34)), (2, .int (jI x2))] → W p l e R s m args below meth c H locs 0 0 (MQ below (QI X Q) args s 0 0 (AW X)) (F0 m 2 ls []) := by
  intro n
  induction n with
  | zero => intro x2 M H locs ls h; exact absurd h (by simp [wp_X3_endsStand_2])
  | succ n ih =>
    intro x2 M H locs ls h hW hl
    rw [wp_X3_endsStand_2] at h
    refine q_iload_n (n := 3) (q := 2) E.1 hl rfl dX3_endsStand_2 rfl rfl ?_
    refine q_iconst (n := 4) E.1 dX3_endsStand_3 rfl ?_
    obtain ⟨g1, h2, h3⟩ := h
    refine q_icmp_ge (t := 24) (n := 7) E.1 g1 (by decide) dX3_endsStand_4 (by decide) rfl (fun c4 => ?_) (fun c4 => ?_)
    · have h := h2 c4
      refine q_aload_n (n := 25) (q := 1) E.1 hl rfl dX3_endsStand_24 rfl rfl ?_
      refine q_callVi (n := 28) (fs := (fsRow X 34)) [] E hW hl.1 (isRow_lt (by decide)) (ent_row X (by decide)) K4 (c_X4_size l X E.2.2.1.1 34 (by decide) _ _ h) (by decide) Y_RX3_42 rfl (rest := []) rfl (Nat.le_of_ble_eq_true rfl) dX3_endsStand_25 rfl (fun r6 M5 H locs h hW => ?_)
      refine q_iconst (n := 29) E.1 dX3_endsStand_28 rfl ?_
      refine q_isub (n := 30) E.1 dX3_endsStand_29 rfl ?_
      refine q_istore_n (n := 31) [(2, .int (jI (r6 - 3))), (0, .ref (xA X o)), (1, .ref (xA X 34))] E.1 hl dX3_endsStand_30 rfl (by decide) rfl rfl (fun ls hl => ?_)
      refine q_aload_n (n := 32) (q := 1) E.1 hl rfl dX3_endsStand_31 rfl rfl ?_
      refine q_aload_n (n := 33) (q := 2) E.1 hl rfl dX3_endsStand_32 rfl rfl ?_
      refine q_iload_n (n := 34) (q := 0) E.1 hl rfl dX3_endsStand_33 rfl rfl ?_
      refine q_callVi (n := 37) (fs := (fsRd X o)) [.ref (xA X 34), .int (jI (r6 - 3))] E hW hl.1 (isRd_lt ho) (ent_rd X ho) K3 (c_X3_stripe l X E.2.2.1.1 o (r6 - 3) ho _ _ h) (by decide) Y_RX3_60 rfl (rest := []) rfl (Nat.le_of_ble_eq_true rfl) dX3_endsStand_34 rfl (fun r8 M7 H locs h hW => ?_)
      refine q_iconst (n := 38) E.1 dX3_endsStand_37 rfl ?_
      obtain ⟨g9, h10, h11⟩ := h
      refine q_icmp_ne (t := 67) (n := 41) E.1 g9 (by decide) dX3_endsStand_38 (by decide) rfl (fun c12 => ?_) (fun c12 => ?_)
      · have h := h10 c12
        refine q_iconst (n := 68) E.1 dX3_endsStand_67 rfl ?_
        exact q_zret E hW (Or.inl rfl) h dX3_endsStand_68
      · have h := h11 c12
        refine q_aload_n (n := 42) (q := 1) E.1 hl rfl dX3_endsStand_41 rfl rfl ?_
        refine q_aload_n (n := 43) (q := 2) E.1 hl rfl dX3_endsStand_42 rfl rfl ?_
        refine q_iload_n (n := 44) (q := 0) E.1 hl rfl dX3_endsStand_43 rfl rfl ?_
        refine q_iconst (n := 45) E.1 dX3_endsStand_44 rfl ?_
        refine q_iadd (n := 46) E.1 dX3_endsStand_45 rfl ?_
        refine q_callVi (n := 49) (fs := (fsRd X o)) [.ref (xA X 34), .int (jI ((r6 - 3) + 1))] E hW hl.1 (isRd_lt ho) (ent_rd X ho) K3 (c_X3_stripe l X E.2.2.1.1 o ((r6 - 3) + 1) ho _ _ h) (by decide) Y_RX3_60 rfl (rest := []) rfl (Nat.le_of_ble_eq_true rfl) dX3_endsStand_46 rfl (fun r14 M13 H locs h hW => ?_)
        obtain ⟨g15, h16, h17⟩ := h
        refine q_if_ne (t := 67) (n := 52) E.1 g15 dX3_endsStand_49 (by decide) rfl (fun c18 => ?_) (fun c18 => ?_)
        · have h := h16 c18
          refine q_iconst (n := 68) E.1 dX3_endsStand_67 rfl ?_
          exact q_zret E hW (Or.inl rfl) h dX3_endsStand_68
        · have h := h17 c18
          refine q_aload_n (n := 53) (q := 1) E.1 hl rfl dX3_endsStand_52 rfl rfl ?_
          refine q_aload_n (n := 54) (q := 2) E.1 hl rfl dX3_endsStand_53 rfl rfl ?_
          refine q_iload_n (n := 55) (q := 0) E.1 hl rfl dX3_endsStand_54 rfl rfl ?_
          refine q_iconst (n := 56) E.1 dX3_endsStand_55 rfl ?_
          refine q_iadd (n := 57) E.1 dX3_endsStand_56 rfl ?_
          refine q_callVi (n := 60) (fs := (fsRd X o)) [.ref (xA X 34), .int (jI ((r6 - 3) + 2))] E hW hl.1 (isRd_lt ho) (ent_rd X ho) K3 (c_X3_stripe l X E.2.2.1.1 o ((r6 - 3) + 2) ho _ _ h) (by decide) Y_RX3_60 rfl (rest := []) rfl (Nat.le_of_ble_eq_true rfl) dX3_endsStand_57 rfl (fun r20 M19 H locs h hW => ?_)
          obtain ⟨g21, h22, h23⟩ := h
          refine q_if_ne (t := 67) (n := 63) E.1 g21 dX3_endsStand_60 (by decide) rfl (fun c24 => ?_) (fun c24 => ?_)
          · have h := h22 c24
            refine q_iconst (n := 68) E.1 dX3_endsStand_67 rfl ?_
            exact q_zret E hW (Or.inl rfl) h dX3_endsStand_68
          · have h := h23 c24
            refine q_iconst (n := 64) E.1 dX3_endsStand_63 rfl ?_
            refine q_goto (n := 68) E.1 dX3_endsStand_64 (by decide) ?_
            exact q_zret E hW (Or.inr rfl) h dX3_endsStand_68
    · have h := h3 c4
      refine q_aload_n (n := 8) (q := 0) E.1 hl rfl dX3_endsStand_7 rfl rfl ?_
      refine q_aload_n (n := 9) (q := 1) E.1 hl rfl dX3_endsStand_8 rfl rfl ?_
      refine q_iload_n (n := 10) (q := 2) E.1 hl rfl dX3_endsStand_9 rfl rfl ?_
      refine q_callVi (n := 13) (fs := (fsRd X o)) [.ref (xA X 34), .int (jI x2)] E hW hl.1 (isRd_lt ho) (ent_rd X ho) K3 (c_X3_stripe l X E.2.2.1.1 o x2 ho _ _ h) (by decide) Y_RX3_60 rfl (rest := []) rfl (Nat.le_of_ble_eq_true rfl) dX3_endsStand_10 rfl (fun r26 M25 H locs h hW => ?_)
      obtain ⟨g27, h28, h29⟩ := h
      refine q_if_eq (t := 18) (n := 16) E.1 g27 dX3_endsStand_13 (by decide) rfl (fun c30 => ?_) (fun c30 => ?_)
      · have h := h28 c30
        refine q_iinc (n := 21) (q := 2) [(2, .int (jI (x2 + 1))), (0, .ref (xA X o)), (1, .ref (xA X 34))] E.1 hl rfl dX3_endsStand_18 (by decide) rfl rfl (fun ls hl => ?_)
        refine q_goto (n := 2) E.1 dX3_endsStand_21 (by decide) ?_
        exact ih _ _ _ _ _ h hW (lv_sub hl [1, 2, 0] rfl)
      · have h := h29 c30
        refine q_iconst (n := 17) E.1 dX3_endsStand_16 rfl ?_
        exact q_zret E hW (Or.inl rfl) h dX3_endsStand_17
def wp_X3_endsStand (o : Nat) (M : Mem) (Q : Int → Mem → Prop) : Prop := (∃ n : Nat, wp_X3_endsStand_2 o Q n 0 M)
set_option maxHeartbeats 4000000 in
set_option maxRecDepth 100000 in
theorem c_X3_endsStand (l : Launch) (X : Cx) (hI : Inj X) (o : Nat) (ho : isRd o) (M : Mem) (Q : Int → Mem → Prop) (h : wp_X3_endsStand o M Q) : MI X l yX3_endsStand cX3_endsStand 3 (some .boolean) 2 [.ref (xA X o), .ref (xA X 34)] M Q := by
  refine MI.of hI (by decide) (Nat.le_of_ble_eq_true rfl) ?_
  intro p e R s m args below meth c ls E hW hl
  have E : En X (AW X) 2 p R s m args meth c cX3_endsStand RX3 3 (some .boolean) 0 0 := E
  have hl : lv_has ls 3 [(0, .ref (xA X o)), (1, .ref (xA X 34))] := hl
  unfold wp_X3_endsStand at h
  refine q_iconst (n := 1) E.1 dX3_endsStand_0 rfl ?_
  refine q_istore_n (n := 2) [(2, .int (jI 0)), (0, .ref (xA X o)), (1, .ref (xA X 34))] E.1 hl dX3_endsStand_1 rfl (by decide) rfl rfl (fun ls hl => ?_)
  obtain ⟨n1, h⟩ := h
  exact v_X3_endsStand_2 o ho E Q n1 _ _ _ _ _ h hW (lv_sub hl [1, 2, 0] rfl)
/-! StickerPress$Reading.refuse(II)Z -/
theorem dX3_refuse_0 : decode cX3_refuse 0 = .ok (.aload_n 0, 1) := by decide +kernel
theorem dX3_refuse_1 : decode cX3_refuse 1 = .ok (.iload_n 1, 1) := by decide +kernel
theorem dX3_refuse_2 : decode cX3_refuse 2 = .ok (.putfield 24, 3) := by decide +kernel
theorem dX3_refuse_5 : decode cX3_refuse 5 = .ok (.aload_n 0, 1) := by decide +kernel
theorem dX3_refuse_6 : decode cX3_refuse 6 = .ok (.iload_n 2, 1) := by decide +kernel
theorem dX3_refuse_7 : decode cX3_refuse 7 = .ok (.putfield 28, 3) := by decide +kernel
theorem dX3_refuse_10 : decode cX3_refuse 10 = .ok (.iconst 0, 1) := by decide +kernel
theorem dX3_refuse_11 : decode cX3_refuse 11 = .ok (.ireturn, 1) := by decide +kernel
def wp_X3_refuse (o : Nat) (a1 : Int) (a2 : Int) (M : Mem) (Q : Int → Mem → Prop) : Prop := Q 0 (up (up M o 2 a1) o 3 a2)
set_option maxHeartbeats 4000000 in
set_option maxRecDepth 100000 in
theorem c_X3_refuse (l : Launch) (X : Cx) (hI : Inj X) (o : Nat) (a1 : Int) (a2 : Int) (ho : isRd o) (M : Mem) (Q : Int → Mem → Prop) (h : wp_X3_refuse o a1 a2 M Q) : MI X l yX3_refuse cX3_refuse 3 (some .boolean) 0 [.ref (xA X o), .int (jI a1), .int (jI a2)] M Q := by
  refine MI.of hI (by decide) (Nat.le_of_ble_eq_true rfl) ?_
  intro p e R s m args below meth c ls E hW hl
  have E : En X (AW X) 0 p R s m args meth c cX3_refuse RX3 3 (some .boolean) 0 0 := E
  have hl : lv_has ls 3 [(0, .ref (xA X o)), (1, .int (jI a1)), (2, .int (jI a2))] := hl
  unfold wp_X3_refuse at h
  refine q_aload_n (n := 1) (q := 0) E.1 hl rfl dX3_refuse_0 rfl rfl ?_
  refine q_iload_n (n := 2) (q := 1) E.1 hl rfl dX3_refuse_1 rfl rfl ?_
  refine q_put (n := 5) (k := 2) (fs := (fsRd X o)) E hW (isRd_lt ho) (ent_rd X ho) K3 (by decide) w130 rfl rfl ⟨rfl, rfl⟩ (Nat.le_of_ble_eq_true rfl) (fun _ => rfl) dX3_refuse_2 rfl (fun H locs hW => ?_)
  refine q_aload_n (n := 6) (q := 0) E.1 hl rfl dX3_refuse_5 rfl rfl ?_
  refine q_iload_n (n := 7) (q := 2) E.1 hl rfl dX3_refuse_6 rfl rfl ?_
  refine q_put (n := 10) (k := 3) (fs := (fsRd X o)) E hW (isRd_lt ho) (ent_rd X ho) K3 (by decide) w132 rfl rfl ⟨rfl, rfl⟩ (Nat.le_of_ble_eq_true rfl) (fun _ => rfl) dX3_refuse_7 rfl (fun H locs hW => ?_)
  refine q_iconst (n := 11) E.1 dX3_refuse_10 rfl ?_
  exact q_zret E hW (Or.inl rfl) h dX3_refuse_11
/-! StickerPress$Stripes.checkOf(LStickerPress$Row;I)I -/
theorem dX6_checkOf_0 : decode cX6_checkOf 0 = .ok (.iconst 0, 1) := by decide +kernel
theorem dX6_checkOf_1 : decode cX6_checkOf 1 = .ok (.istore_n 2, 1) := by decide +kernel
theorem dX6_checkOf_2 : decode cX6_checkOf 2 = .ok (.iconst 3, 1) := by decide +kernel
theorem dX6_checkOf_3 : decode cX6_checkOf 3 = .ok (.istore_n 3, 1) := by decide +kernel
theorem dX6_checkOf_4 : decode cX6_checkOf 4 = .ok (.iload_n 1, 1) := by decide +kernel
theorem dX6_checkOf_5 : decode cX6_checkOf 5 = .ok (.iconst 1, 1) := by decide +kernel
theorem dX6_checkOf_6 : decode cX6_checkOf 6 = .ok (.isub, 1) := by decide +kernel
theorem dX6_checkOf_7 : decode cX6_checkOf 7 = .ok (.istore 4, 2) := by decide +kernel
theorem dX6_checkOf_9 : decode cX6_checkOf 9 = .ok (.iload 4, 2) := by decide +kernel
theorem dX6_checkOf_11 : decode cX6_checkOf 11 = .ok (.ifCond .lt 24, 3) := by decide +kernel
theorem dX6_checkOf_14 : decode cX6_checkOf 14 = .ok (.iload_n 2, 1) := by decide +kernel
theorem dX6_checkOf_15 : decode cX6_checkOf 15 = .ok (.iload_n 3, 1) := by decide +kernel
theorem dX6_checkOf_16 : decode cX6_checkOf 16 = .ok (.aload_n 0, 1) := by decide +kernel
theorem dX6_checkOf_17 : decode cX6_checkOf 17 = .ok (.iload 4, 2) := by decide +kernel
theorem dX6_checkOf_19 : decode cX6_checkOf 19 = .ok (.invokevirtual 68, 3) := by decide +kernel
theorem dX6_checkOf_22 : decode cX6_checkOf 22 = .ok (.imul, 1) := by decide +kernel
theorem dX6_checkOf_23 : decode cX6_checkOf 23 = .ok (.iadd, 1) := by decide +kernel
theorem dX6_checkOf_24 : decode cX6_checkOf 24 = .ok (.istore_n 2, 1) := by decide +kernel
theorem dX6_checkOf_25 : decode cX6_checkOf 25 = .ok (.iconst 4, 1) := by decide +kernel
theorem dX6_checkOf_26 : decode cX6_checkOf 26 = .ok (.iload_n 3, 1) := by decide +kernel
theorem dX6_checkOf_27 : decode cX6_checkOf 27 = .ok (.isub, 1) := by decide +kernel
theorem dX6_checkOf_28 : decode cX6_checkOf 28 = .ok (.istore_n 3, 1) := by decide +kernel
theorem dX6_checkOf_29 : decode cX6_checkOf 29 = .ok (.iinc 4 (-1), 3) := by decide +kernel
theorem dX6_checkOf_32 : decode cX6_checkOf 32 = .ok (.goto (-23), 3) := by decide +kernel
theorem dX6_checkOf_35 : decode cX6_checkOf 35 = .ok (.bipush 10, 2) := by decide +kernel
theorem dX6_checkOf_37 : decode cX6_checkOf 37 = .ok (.iload_n 2, 1) := by decide +kernel
theorem dX6_checkOf_38 : decode cX6_checkOf 38 = .ok (.bipush 10, 2) := by decide +kernel
theorem dX6_checkOf_40 : decode cX6_checkOf 40 = .ok (.irem, 1) := by decide +kernel
theorem dX6_checkOf_41 : decode cX6_checkOf 41 = .ok (.isub, 1) := by decide +kernel
theorem dX6_checkOf_42 : decode cX6_checkOf 42 = .ok (.bipush 10, 2) := by decide +kernel
theorem dX6_checkOf_44 : decode cX6_checkOf 44 = .ok (.irem, 1) := by decide +kernel
theorem dX6_checkOf_45 : decode cX6_checkOf 45 = .ok (.ireturn, 1) := by decide +kernel
theorem Y_RX6_68 : YV RX6 68 RX4 yX4_at cX4_at 2 (some .int) 1 := ⟨w322, w412, w320, w321, w44, by decide +kernel, by decide⟩
def wp_X6_checkOf_9 (a0 : Nat) (a1 : Int) (Q : Int → Mem → Prop) : Nat → Int → Int → Int → Mem → Prop
  | 0, _, _, _, _ => False
  | n + 1, x2, x3, x4, M => (Rg x4 ∧ (x4 < 0 → (Rg x2 ∧ 0 ≤ x2) ∧ (Rg (10 - (x2 % 10)) ∧ 0 ≤ (10 - (x2 % 10))) ∧ Q ((10 - (x2 % 10)) % 10) M) ∧ (¬ (x4 < 0) → wp_X4_at a0 x4 M (fun r8 M7 => wp_X6_checkOf_9 a0 a1 Q n (x2 + (x3 * r8)) (4 - x3) (x4 + (-1)) M7)))
set_option maxHeartbeats 4000000 in
set_option maxRecDepth 100000 in
theorem v_X6_checkOf_9 (a0 : Nat) (a1 : Int) (ha0 : isRow a0) (E : En X (AW X) 1 p R s m args meth c cX6_checkOf RX6 5 (some .int) 0 0) (Q : Int → Mem → Prop) : ∀ n : Nat, ∀ (x2 x3 x4 : Int) (M : Mem) (H : Heap) (locs : List Loc) (ls : Array Slot), wp_X6_checkOf_9 a0 a1 Q n x2 x3 x4 M → Wd X (AW X) s M H locs → lv_has ls 5 [(0, .ref (xA X a0)), (2, .int (jI x2)), (3, .int (jI x3)), (4, .int (jI x4))] → W p l e R s m args below meth c H locs 0 0 (MQ below (QI X Q) args s 0 0 (AW X)) (F0 m 9 ls []) := by
  intro n
  induction n with
  | zero => intro x2 x3 x4 M H locs ls h; exact absurd h (by simp [wp_X6_checkOf_9])
  | succ n ih =>
    intro x2 x3 x4 M H locs ls h hW hl
    rw [wp_X6_checkOf_9] at h
    refine q_iload (n := 11) (q := 3) E.1 hl rfl dX6_checkOf_9 rfl ?_
    obtain ⟨g1, h2, h3⟩ := h
    refine q_if_lt (t := 35) (n := 14) E.1 g1 dX6_checkOf_11 (by decide) rfl (fun c4 => ?_) (fun c4 => ?_)
    · have h := h2 c4
      refine q_bipush (n := 37) E.1 dX6_checkOf_35 (by decide) rfl ?_
      refine q_iload_n (n := 38) (q := 1) E.1 hl rfl dX6_checkOf_37 rfl rfl ?_
      refine q_bipush (n := 40) E.1 dX6_checkOf_38 (by decide) rfl ?_
      obtain ⟨g5, h⟩ := h
      refine q_irem (n := 41) E.1 g5 (by decide) dX6_checkOf_40 rfl ?_
      refine q_isub (n := 42) E.1 dX6_checkOf_41 rfl ?_
      refine q_bipush (n := 44) E.1 dX6_checkOf_42 (by decide) rfl ?_
      obtain ⟨g6, h⟩ := h
      refine q_irem (n := 45) E.1 g6 (by decide) dX6_checkOf_44 rfl ?_
      exact q_iret E hW h dX6_checkOf_45
    · have h := h3 c4
      refine q_iload_n (n := 15) (q := 1) E.1 hl rfl dX6_checkOf_14 rfl rfl ?_
      refine q_iload_n (n := 16) (q := 2) E.1 hl rfl dX6_checkOf_15 rfl rfl ?_
      refine q_aload_n (n := 17) (q := 0) E.1 hl rfl dX6_checkOf_16 rfl rfl ?_
      refine q_iload (n := 19) (q := 3) E.1 hl rfl dX6_checkOf_17 rfl ?_
      refine q_callVi (n := 22) (fs := (fsRow X a0)) [.int (jI x4)] E hW hl.1 (isRow_lt ha0) (ent_row X ha0) K4 (c_X4_at l X E.2.2.1.1 a0 x4 ha0 _ _ h) (by decide) Y_RX6_68 rfl (rest := [.int (jI x3), .int (jI x2)]) rfl (Nat.le_of_ble_eq_true rfl) dX6_checkOf_19 rfl (fun r8 M7 H locs h hW => ?_)
      refine q_imul (n := 23) E.1 dX6_checkOf_22 rfl ?_
      refine q_iadd (n := 24) E.1 dX6_checkOf_23 rfl ?_
      refine q_istore_n (n := 25) [(2, .int (jI (x2 + (x3 * r8)))), (0, .ref (xA X a0)), (3, .int (jI x3)), (4, .int (jI x4))] E.1 hl dX6_checkOf_24 rfl (by decide) rfl rfl (fun ls hl => ?_)
      refine q_iconst (n := 26) E.1 dX6_checkOf_25 rfl ?_
      refine q_iload_n (n := 27) (q := 2) E.1 hl rfl dX6_checkOf_26 rfl rfl ?_
      refine q_isub (n := 28) E.1 dX6_checkOf_27 rfl ?_
      refine q_istore_n (n := 29) [(3, .int (jI (4 - x3))), (2, .int (jI (x2 + (x3 * r8)))), (0, .ref (xA X a0)), (4, .int (jI x4))] E.1 hl dX6_checkOf_28 rfl (by decide) rfl rfl (fun ls hl => ?_)
      refine q_iinc (n := 32) (q := 3) [(4, .int (jI (x4 + (-1)))), (3, .int (jI (4 - x3))), (2, .int (jI (x2 + (x3 * r8)))), (0, .ref (xA X a0))] E.1 hl rfl dX6_checkOf_29 (by decide) rfl rfl (fun ls hl => ?_)
      refine q_goto (n := 9) E.1 dX6_checkOf_32 (by decide) ?_
      exact ih _ _ _ _ _ _ _ h hW (lv_sub hl [3, 2, 1, 0] rfl)
def wp_X6_checkOf (a0 : Nat) (a1 : Int) (M : Mem) (Q : Int → Mem → Prop) : Prop := (∃ n : Nat, wp_X6_checkOf_9 a0 a1 Q n 0 3 (a1 - 1) M)
set_option maxHeartbeats 4000000 in
set_option maxRecDepth 100000 in
theorem c_X6_checkOf (l : Launch) (X : Cx) (hI : Inj X) (a0 : Nat) (a1 : Int) (ha0 : isRow a0) (M : Mem) (Q : Int → Mem → Prop) (h : wp_X6_checkOf a0 a1 M Q) : MI X l yX6_checkOf cX6_checkOf 5 (some .int) 1 [.ref (xA X a0), .int (jI a1)] M Q := by
  refine MI.of hI (by decide) (Nat.le_of_ble_eq_true rfl) ?_
  intro p e R s m args below meth c ls E hW hl
  have E : En X (AW X) 1 p R s m args meth c cX6_checkOf RX6 5 (some .int) 0 0 := E
  have hl : lv_has ls 5 [(0, .ref (xA X a0)), (1, .int (jI a1))] := hl
  unfold wp_X6_checkOf at h
  refine q_iconst (n := 1) E.1 dX6_checkOf_0 rfl ?_
  refine q_istore_n (n := 2) [(2, .int (jI 0)), (0, .ref (xA X a0)), (1, .int (jI a1))] E.1 hl dX6_checkOf_1 rfl (by decide) rfl rfl (fun ls hl => ?_)
  refine q_iconst (n := 3) E.1 dX6_checkOf_2 rfl ?_
  refine q_istore_n (n := 4) [(3, .int (jI 3)), (2, .int (jI 0)), (0, .ref (xA X a0)), (1, .int (jI a1))] E.1 hl dX6_checkOf_3 rfl (by decide) rfl rfl (fun ls hl => ?_)
  refine q_iload_n (n := 5) (q := 3) E.1 hl rfl dX6_checkOf_4 rfl rfl ?_
  refine q_iconst (n := 6) E.1 dX6_checkOf_5 rfl ?_
  refine q_isub (n := 7) E.1 dX6_checkOf_6 rfl ?_
  refine q_istore (n := 9) [(4, .int (jI (a1 - 1))), (3, .int (jI 3)), (2, .int (jI 0)), (0, .ref (xA X a0)), (1, .int (jI a1))] E.1 hl dX6_checkOf_7 (by decide) rfl rfl (fun ls hl => ?_)
  obtain ⟨n1, h⟩ := h
  exact v_X6_checkOf_9 a0 a1 ha0 E Q n1 _ _ _ _ _ _ _ h hW (lv_sub hl [3, 2, 1, 0] rfl)
/-! StickerPress$Reading.decode(LStickerPress$Row;)Z -/
theorem dX3_decode_0 : decode cX3_decode 0 = .ok (.aload_n 0, 1) := by decide +kernel
theorem dX3_decode_1 : decode cX3_decode 1 = .ok (.getfield 20, 3) := by decide +kernel
theorem dX3_decode_4 : decode cX3_decode 4 = .ok (.invokevirtual 31, 3) := by decide +kernel
theorem dX3_decode_7 : decode cX3_decode 7 = .ok (.aload_n 0, 1) := by decide +kernel
theorem dX3_decode_8 : decode cX3_decode 8 = .ok (.aload_n 1, 1) := by decide +kernel
theorem dX3_decode_9 : decode cX3_decode 9 = .ok (.invokevirtual 34, 3) := by decide +kernel
theorem dX3_decode_12 : decode cX3_decode 12 = .ok (.ifCond .ne 10, 3) := by decide +kernel
theorem dX3_decode_15 : decode cX3_decode 15 = .ok (.aload_n 0, 1) := by decide +kernel
theorem dX3_decode_16 : decode cX3_decode 16 = .ok (.iconst 2, 1) := by decide +kernel
theorem dX3_decode_17 : decode cX3_decode 17 = .ok (.iconst 0, 1) := by decide +kernel
theorem dX3_decode_18 : decode cX3_decode 18 = .ok (.invokevirtual 38, 3) := by decide +kernel
theorem dX3_decode_21 : decode cX3_decode 21 = .ok (.ireturn, 1) := by decide +kernel
theorem dX3_decode_22 : decode cX3_decode 22 = .ok (.aload_n 1, 1) := by decide +kernel
theorem dX3_decode_23 : decode cX3_decode 23 = .ok (.invokevirtual 42, 3) := by decide +kernel
theorem dX3_decode_26 : decode cX3_decode 26 = .ok (.iconst 3, 1) := by decide +kernel
theorem dX3_decode_27 : decode cX3_decode 27 = .ok (.isub, 1) := by decide +kernel
theorem dX3_decode_28 : decode cX3_decode 28 = .ok (.bipush 10, 2) := by decide +kernel
theorem dX3_decode_30 : decode cX3_decode 30 = .ok (.isub, 1) := by decide +kernel
theorem dX3_decode_31 : decode cX3_decode 31 = .ok (.istore_n 2, 1) := by decide +kernel
theorem dX3_decode_32 : decode cX3_decode 32 = .ok (.iconst 4, 1) := by decide +kernel
theorem dX3_decode_33 : decode cX3_decode 33 = .ok (.istore_n 3, 1) := by decide +kernel
theorem dX3_decode_34 : decode cX3_decode 34 = .ok (.iload_n 3, 1) := by decide +kernel
theorem dX3_decode_35 : decode cX3_decode 35 = .ok (.iload_n 2, 1) := by decide +kernel
theorem dX3_decode_36 : decode cX3_decode 36 = .ok (.if_icmp .gt 46, 3) := by decide +kernel
theorem dX3_decode_39 : decode cX3_decode 39 = .ok (.aload_n 0, 1) := by decide +kernel
theorem dX3_decode_40 : decode cX3_decode 40 = .ok (.getfield 20, 3) := by decide +kernel
theorem dX3_decode_43 : decode cX3_decode 43 = .ok (.invokevirtual 42, 3) := by decide +kernel
theorem dX3_decode_46 : decode cX3_decode 46 = .ok (.istore 4, 2) := by decide +kernel
theorem dX3_decode_48 : decode cX3_decode 48 = .ok (.aload_n 0, 1) := by decide +kernel
theorem dX3_decode_49 : decode cX3_decode 49 = .ok (.aload_n 1, 1) := by decide +kernel
theorem dX3_decode_50 : decode cX3_decode 50 = .ok (.iload_n 3, 1) := by decide +kernel
theorem dX3_decode_51 : decode cX3_decode 51 = .ok (.invokevirtual 46, 3) := by decide +kernel
theorem dX3_decode_54 : decode cX3_decode 54 = .ok (.ifCond .eq 14, 3) := by decide +kernel
theorem dX3_decode_57 : decode cX3_decode 57 = .ok (.aload_n 0, 1) := by decide +kernel
theorem dX3_decode_58 : decode cX3_decode 58 = .ok (.aload_n 1, 1) := by decide +kernel
theorem dX3_decode_59 : decode cX3_decode 59 = .ok (.iload_n 3, 1) := by decide +kernel
theorem dX3_decode_60 : decode cX3_decode 60 = .ok (.iconst 1, 1) := by decide +kernel
theorem dX3_decode_61 : decode cX3_decode 61 = .ok (.iadd, 1) := by decide +kernel
theorem dX3_decode_62 : decode cX3_decode 62 = .ok (.invokevirtual 46, 3) := by decide +kernel
theorem dX3_decode_65 : decode cX3_decode 65 = .ok (.ifCond .ne 11, 3) := by decide +kernel
theorem dX3_decode_68 : decode cX3_decode 68 = .ok (.aload_n 0, 1) := by decide +kernel
theorem dX3_decode_69 : decode cX3_decode 69 = .ok (.iconst 3, 1) := by decide +kernel
theorem dX3_decode_70 : decode cX3_decode 70 = .ok (.iload 4, 2) := by decide +kernel
theorem dX3_decode_72 : decode cX3_decode 72 = .ok (.invokevirtual 38, 3) := by decide +kernel
theorem dX3_decode_75 : decode cX3_decode 75 = .ok (.ireturn, 1) := by decide +kernel
theorem dX3_decode_76 : decode cX3_decode 76 = .ok (.iinc 3 10, 3) := by decide +kernel
theorem dX3_decode_79 : decode cX3_decode 79 = .ok (.goto (-45), 3) := by decide +kernel
theorem dX3_decode_82 : decode cX3_decode 82 = .ok (.aload_n 0, 1) := by decide +kernel
theorem dX3_decode_83 : decode cX3_decode 83 = .ok (.getfield 20, 3) := by decide +kernel
theorem dX3_decode_86 : decode cX3_decode 86 = .ok (.invokevirtual 42, 3) := by decide +kernel
theorem dX3_decode_89 : decode cX3_decode 89 = .ok (.istore_n 3, 1) := by decide +kernel
theorem dX3_decode_90 : decode cX3_decode 90 = .ok (.aload_n 0, 1) := by decide +kernel
theorem dX3_decode_91 : decode cX3_decode 91 = .ok (.getfield 20, 3) := by decide +kernel
theorem dX3_decode_94 : decode cX3_decode 94 = .ok (.iload_n 3, 1) := by decide +kernel
theorem dX3_decode_95 : decode cX3_decode 95 = .ok (.iconst 1, 1) := by decide +kernel
theorem dX3_decode_96 : decode cX3_decode 96 = .ok (.isub, 1) := by decide +kernel
theorem dX3_decode_97 : decode cX3_decode 97 = .ok (.invokevirtual 50, 3) := by decide +kernel
theorem dX3_decode_100 : decode cX3_decode 100 = .ok (.aload_n 0, 1) := by decide +kernel
theorem dX3_decode_101 : decode cX3_decode 101 = .ok (.getfield 20, 3) := by decide +kernel
theorem dX3_decode_104 : decode cX3_decode 104 = .ok (.iload_n 3, 1) := by decide +kernel
theorem dX3_decode_105 : decode cX3_decode 105 = .ok (.iconst 1, 1) := by decide +kernel
theorem dX3_decode_106 : decode cX3_decode 106 = .ok (.isub, 1) := by decide +kernel
theorem dX3_decode_107 : decode cX3_decode 107 = .ok (.invokestatic 54, 3) := by decide +kernel
theorem dX3_decode_110 : decode cX3_decode 110 = .ok (.if_icmp .eq 10, 3) := by decide +kernel
theorem dX3_decode_113 : decode cX3_decode 113 = .ok (.aload_n 0, 1) := by decide +kernel
theorem dX3_decode_114 : decode cX3_decode 114 = .ok (.iconst 4, 1) := by decide +kernel
theorem dX3_decode_115 : decode cX3_decode 115 = .ok (.iconst 0, 1) := by decide +kernel
theorem dX3_decode_116 : decode cX3_decode 116 = .ok (.invokevirtual 38, 3) := by decide +kernel
theorem dX3_decode_119 : decode cX3_decode 119 = .ok (.ireturn, 1) := by decide +kernel
theorem dX3_decode_120 : decode cX3_decode 120 = .ok (.iconst 1, 1) := by decide +kernel
theorem dX3_decode_121 : decode cX3_decode 121 = .ok (.ireturn, 1) := by decide +kernel
theorem Y_RX3_31 : YV RX3 31 RX4 yX4_clear cX4_clear 1 none 0 := ⟨w326, w452, w324, w325, w44, by decide +kernel, by decide⟩
theorem Y_RX3_34 : YV RX3 34 RX3 yX3_endsStand cX3_endsStand 3 (some .boolean) 1 := ⟨w456, w453, w455, w9, w48, by decide +kernel, by decide⟩
theorem Y_RX3_38 : YV RX3 38 RX3 yX3_refuse cX3_refuse 3 (some .boolean) 2 := ⟨w466, w463, w465, w11, w48, by decide +kernel, by decide⟩
theorem Y_RX3_46 : YV RX3 46 RX3 yX3_addDigit cX3_addDigit 5 (some .boolean) 2 := ⟨w470, w467, w469, w12, w48, by decide +kernel, by decide⟩
theorem Y_RX3_54 : YN RX3 54 yX6_checkOf cX6_checkOf 5 (some .int) 2 "StickerPress" := ⟨w415, List.mem_of_getElem? (i := 5) rfl, w414, w47, by decide +kernel, by decide⟩
def wp_X3_decode_34 (o : Nat) (Q : Int → Mem → Prop) : Nat → Int → Int → Mem → Prop
  | 0, _, _, _ => False
  | n + 1, x2, x3, M => (Rg x3 ∧ Rg x2 ∧ (x2 < x3 → wp_X4_size (2 * o - 44) M (fun r7 M6 => wp_X4_at (2 * o - 44) (r7 - 1) M6 (fun r9 M8 => wp_X6_checkOf (2 * o - 44) (r7 - 1) M8 (fun r11 M10 => (Rg r9 ∧ Rg r11 ∧ (r9 = r11 → Q 1 M10) ∧ (¬ (r9 = r11) → wp_X3_refuse o 4 0 M10 (fun r18 M17 => ((r18 = 0 ∨ r18 = 1) ∧ Q r18 M17)))))))) ∧ (¬ (x2 < x3) → wp_X4_size (2 * o - 44) M (fun r21 M20 => wp_X3_addDigit o x3 M20 (fun r23 M22 => (Rg r23 ∧ (r23 = 0 → wp_X3_refuse o 3 r21 M22 (fun r29 M28 => ((r29 = 0 ∨ r29 = 1) ∧ Q r29 M28))) ∧ (¬ (r23 = 0) → wp_X3_addDigit o (x3 + 1) M22 (fun r32 M31 => (Rg r32 ∧ (r32 ≠ 0 → wp_X3_decode_34 o Q n x2 (x3 + 10) M31) ∧ (¬ (r32 ≠ 0) → wp_X3_refuse o 3 r21 M31 (fun r38 M37 => ((r38 = 0 ∨ r38 = 1) ∧ Q r38 M37)))))))))))
set_option maxHeartbeats 4000000 in
set_option maxRecDepth 100000 in
theorem v_X3_decode_34 (o : Nat) (ho : isRd o) (E : En X (AW X) 3 p R s m args meth c cX3_decode RX3 5 (some .boolean) 0 0) (Q : Int → Mem → Prop) : ∀ n : Nat, ∀ (x2 x3 : Int) (M : Mem) (H : Heap) (locs : List Loc) (ls : Array Slot), wp_X3_decode_34 o Q n x2 x3 M → Wd X (AW X) s M H locs → lv_has ls 5 [(0, .ref (xA X o)), (1, .ref (xA X 34)), (2, .int (jI x2)), (3, .int (jI x3))] → W p l e R s m args below meth c H locs 0 0 (MQ below (QI X Q) args s 0 0 (AW X)) (F0 m 34 ls []) := by
  intro n
  induction n with
  | zero => intro x2 x3 M H locs ls h; exact absurd h (by simp [wp_X3_decode_34])
  | succ n ih =>
    intro x2 x3 M H locs ls h hW hl
    rw [wp_X3_decode_34] at h
    refine q_iload_n (n := 35) (q := 3) E.1 hl rfl dX3_decode_34 rfl rfl ?_
    refine q_iload_n (n := 36) (q := 2) E.1 hl rfl dX3_decode_35 rfl rfl ?_
    obtain ⟨g1, g2, h3, h4⟩ := h
    refine q_icmp_gt (t := 82) (n := 39) E.1 g1 g2 dX3_decode_36 (by decide) rfl (fun c5 => ?_) (fun c5 => ?_)
    · have h := h3 c5
      refine q_aload_n (n := 83) (q := 0) E.1 hl rfl dX3_decode_82 rfl rfl ?_
      refine q_get (n := 86) (k := 1) (fs := (fsRd X o)) (v := .ref (xA X (2 * o - 44))) E hW (isRd_lt ho) (ent_rd X ho) K3 (by decide) w128 rfl rfl dX3_decode_83 rfl ?_
      refine q_callVi (n := 89) (fs := (fsRow X (2 * o - 44))) [] E hW hl.1 (isRow_lt (isRd_row ho)) (ent_row X (isRd_row ho)) K4 (c_X4_size l X E.2.2.1.1 (2 * o - 44) (isRd_row ho) _ _ h) (by decide) Y_RX3_42 rfl (rest := []) rfl (Nat.le_of_ble_eq_true rfl) dX3_decode_86 rfl (fun r7 M6 H locs h hW => ?_)
      refine q_istore_n (n := 90) [(3, .int (jI r7)), (0, .ref (xA X o)), (1, .ref (xA X 34)), (2, .int (jI x2))] E.1 hl dX3_decode_89 rfl (by decide) rfl rfl (fun ls hl => ?_)
      refine q_aload_n (n := 91) (q := 1) E.1 hl rfl dX3_decode_90 rfl rfl ?_
      refine q_get (n := 94) (k := 1) (fs := (fsRd X o)) (v := .ref (xA X (2 * o - 44))) E hW (isRd_lt ho) (ent_rd X ho) K3 (by decide) w128 rfl rfl dX3_decode_91 rfl ?_
      refine q_iload_n (n := 95) (q := 0) E.1 hl rfl dX3_decode_94 rfl rfl ?_
      refine q_iconst (n := 96) E.1 dX3_decode_95 rfl ?_
      refine q_isub (n := 97) E.1 dX3_decode_96 rfl ?_
      refine q_callVi (n := 100) (fs := (fsRow X (2 * o - 44))) [.int (jI (r7 - 1))] E hW hl.1 (isRow_lt (isRd_row ho)) (ent_row X (isRd_row ho)) K4 (c_X4_at l X E.2.2.1.1 (2 * o - 44) (r7 - 1) (isRd_row ho) _ _ h) (by decide) Y_RX3_50 rfl (rest := []) rfl (Nat.le_of_ble_eq_true rfl) dX3_decode_97 rfl (fun r9 M8 H locs h hW => ?_)
      refine q_aload_n (n := 101) (q := 1) E.1 hl rfl dX3_decode_100 rfl rfl ?_
      refine q_get (n := 104) (k := 1) (fs := (fsRd X o)) (v := .ref (xA X (2 * o - 44))) E hW (isRd_lt ho) (ent_rd X ho) K3 (by decide) w128 rfl rfl dX3_decode_101 rfl ?_
      refine q_iload_n (n := 105) (q := 0) E.1 hl rfl dX3_decode_104 rfl rfl ?_
      refine q_iconst (n := 106) E.1 dX3_decode_105 rfl ?_
      refine q_isub (n := 107) E.1 dX3_decode_106 rfl ?_
      refine q_callNi (n := 110) [.ref (xA X (2 * o - 44)), .int (jI (r7 - 1))] E hW hl.1 (c_X6_checkOf l X E.2.2.1.1 (2 * o - 44) (r7 - 1) (isRd_row ho) _ _ h) (by decide) Y_RX3_54 rfl (rest := [.int (jI r9)]) rfl (Nat.le_of_ble_eq_true rfl) dX3_decode_107 rfl (fun r11 M10 H locs h hW => ?_)
      obtain ⟨g12, g13, h14, h15⟩ := h
      refine q_icmp_eq (t := 120) (n := 113) E.1 g12 g13 dX3_decode_110 (by decide) rfl (fun c16 => ?_) (fun c16 => ?_)
      · have h := h14 c16
        refine q_iconst (n := 121) E.1 dX3_decode_120 rfl ?_
        exact q_zret E hW (Or.inr rfl) h dX3_decode_121
      · have h := h15 c16
        refine q_aload_n (n := 114) (q := 1) E.1 hl rfl dX3_decode_113 rfl rfl ?_
        refine q_iconst (n := 115) E.1 dX3_decode_114 rfl ?_
        refine q_iconst (n := 116) E.1 dX3_decode_115 rfl ?_
        refine q_callVi (n := 119) (fs := (fsRd X o)) [.int (jI 4), .int (jI 0)] E hW hl.1 (isRd_lt ho) (ent_rd X ho) K3 (c_X3_refuse l X E.2.2.1.1 o 4 0 ho _ _ h) (by decide) Y_RX3_38 rfl (rest := []) rfl (Nat.le_of_ble_eq_true rfl) dX3_decode_116 rfl (fun r18 M17 H locs h hW => ?_)
        exact q_zret E hW h.1 h.2 dX3_decode_119
    · have h := h4 c5
      refine q_aload_n (n := 40) (q := 0) E.1 hl rfl dX3_decode_39 rfl rfl ?_
      refine q_get (n := 43) (k := 1) (fs := (fsRd X o)) (v := .ref (xA X (2 * o - 44))) E hW (isRd_lt ho) (ent_rd X ho) K3 (by decide) w128 rfl rfl dX3_decode_40 rfl ?_
      refine q_callVi (n := 46) (fs := (fsRow X (2 * o - 44))) [] E hW hl.1 (isRow_lt (isRd_row ho)) (ent_row X (isRd_row ho)) K4 (c_X4_size l X E.2.2.1.1 (2 * o - 44) (isRd_row ho) _ _ h) (by decide) Y_RX3_42 rfl (rest := []) rfl (Nat.le_of_ble_eq_true rfl) dX3_decode_43 rfl (fun r21 M20 H locs h hW => ?_)
      refine q_istore (n := 48) [(4, .int (jI r21)), (0, .ref (xA X o)), (1, .ref (xA X 34)), (2, .int (jI x2)), (3, .int (jI x3))] E.1 hl dX3_decode_46 (by decide) rfl rfl (fun ls hl => ?_)
      refine q_aload_n (n := 49) (q := 1) E.1 hl rfl dX3_decode_48 rfl rfl ?_
      refine q_aload_n (n := 50) (q := 2) E.1 hl rfl dX3_decode_49 rfl rfl ?_
      refine q_iload_n (n := 51) (q := 4) E.1 hl rfl dX3_decode_50 rfl rfl ?_
      refine q_callVi (n := 54) (fs := (fsRd X o)) [.ref (xA X 34), .int (jI x3)] E hW hl.1 (isRd_lt ho) (ent_rd X ho) K3 (c_X3_addDigit l X E.2.2.1.1 o x3 ho _ _ h) (by decide) Y_RX3_46 rfl (rest := []) rfl (Nat.le_of_ble_eq_true rfl) dX3_decode_51 rfl (fun r23 M22 H locs h hW => ?_)
      obtain ⟨g24, h25, h26⟩ := h
      refine q_if_eq (t := 68) (n := 57) E.1 g24 dX3_decode_54 (by decide) rfl (fun c27 => ?_) (fun c27 => ?_)
      · have h := h25 c27
        refine q_aload_n (n := 69) (q := 1) E.1 hl rfl dX3_decode_68 rfl rfl ?_
        refine q_iconst (n := 70) E.1 dX3_decode_69 rfl ?_
        refine q_iload (n := 72) (q := 0) E.1 hl rfl dX3_decode_70 rfl ?_
        refine q_callVi (n := 75) (fs := (fsRd X o)) [.int (jI 3), .int (jI r21)] E hW hl.1 (isRd_lt ho) (ent_rd X ho) K3 (c_X3_refuse l X E.2.2.1.1 o 3 r21 ho _ _ h) (by decide) Y_RX3_38 rfl (rest := []) rfl (Nat.le_of_ble_eq_true rfl) dX3_decode_72 rfl (fun r29 M28 H locs h hW => ?_)
        exact q_zret E hW h.1 h.2 dX3_decode_75
      · have h := h26 c27
        refine q_aload_n (n := 58) (q := 1) E.1 hl rfl dX3_decode_57 rfl rfl ?_
        refine q_aload_n (n := 59) (q := 2) E.1 hl rfl dX3_decode_58 rfl rfl ?_
        refine q_iload_n (n := 60) (q := 4) E.1 hl rfl dX3_decode_59 rfl rfl ?_
        refine q_iconst (n := 61) E.1 dX3_decode_60 rfl ?_
        refine q_iadd (n := 62) E.1 dX3_decode_61 rfl ?_
        refine q_callVi (n := 65) (fs := (fsRd X o)) [.ref (xA X 34), .int (jI (x3 + 1))] E hW hl.1 (isRd_lt ho) (ent_rd X ho) K3 (c_X3_addDigit l X E.2.2.1.1 o (x3 + 1) ho _ _ h) (by decide) Y_RX3_46 rfl (rest := []) rfl (Nat.le_of_ble_eq_true rfl) dX3_decode_62 rfl (fun r32 M31 H locs h hW => ?_)
        obtain ⟨g33, h34, h35⟩ := h
        refine q_if_ne (t := 76) (n := 68) E.1 g33 dX3_decode_65 (by decide) rfl (fun c36 => ?_) (fun c36 => ?_)
        · have h := h34 c36
          refine q_iinc (n := 79) (q := 4) [(3, .int (jI (x3 + 10))), (4, .int (jI r21)), (0, .ref (xA X o)), (1, .ref (xA X 34)), (2, .int (jI x2))] E.1 hl rfl dX3_decode_76 (by decide) rfl rfl (fun ls hl => ?_)
          refine q_goto (n := 34) E.1 dX3_decode_79 (by decide) ?_
          exact ih _ _ _ _ _ _ h hW (lv_sub hl [2, 3, 4, 0] rfl)
        · have h := h35 c36
          refine q_aload_n (n := 69) (q := 1) E.1 hl rfl dX3_decode_68 rfl rfl ?_
          refine q_iconst (n := 70) E.1 dX3_decode_69 rfl ?_
          refine q_iload (n := 72) (q := 0) E.1 hl rfl dX3_decode_70 rfl ?_
          refine q_callVi (n := 75) (fs := (fsRd X o)) [.int (jI 3), .int (jI r21)] E hW hl.1 (isRd_lt ho) (ent_rd X ho) K3 (c_X3_refuse l X E.2.2.1.1 o 3 r21 ho _ _ h) (by decide) Y_RX3_38 rfl (rest := []) rfl (Nat.le_of_ble_eq_true rfl) dX3_decode_72 rfl (fun r38 M37 H locs h hW => ?_)
          exact q_zret E hW h.1 h.2 dX3_decode_75
def wp_X3_decode (o : Nat) (M : Mem) (Q : Int → Mem → Prop) : Prop := wp_X4_clear (2 * o - 44) M (fun M1 => wp_X3_endsStand o M1 (fun r3 M2 => (Rg r3 ∧ (r3 ≠ 0 → wp_X4_size 34 M2 (fun r9 M8 => (∃ n : Nat, wp_X3_decode_34 o Q n ((r9 - 3) - 10) 4 M8))) ∧ (¬ (r3 ≠ 0) → wp_X3_refuse o 2 0 M2 (fun r12 M11 => ((r12 = 0 ∨ r12 = 1) ∧ Q r12 M11))))))
set_option maxHeartbeats 4000000 in
set_option maxRecDepth 100000 in
theorem c_X3_decode (l : Launch) (X : Cx) (hI : Inj X) (o : Nat) (ho : isRd o) (M : Mem) (Q : Int → Mem → Prop) (h : wp_X3_decode o M Q) : MI X l yX3_decode cX3_decode 5 (some .boolean) 3 [.ref (xA X o), .ref (xA X 34)] M Q := by
  refine MI.of hI (by decide) (Nat.le_of_ble_eq_true rfl) ?_
  intro p e R s m args below meth c ls E hW hl
  have E : En X (AW X) 3 p R s m args meth c cX3_decode RX3 5 (some .boolean) 0 0 := E
  have hl : lv_has ls 5 [(0, .ref (xA X o)), (1, .ref (xA X 34))] := hl
  unfold wp_X3_decode at h
  refine q_aload_n (n := 1) (q := 0) E.1 hl rfl dX3_decode_0 rfl rfl ?_
  refine q_get (n := 4) (k := 1) (fs := (fsRd X o)) (v := .ref (xA X (2 * o - 44))) E hW (isRd_lt ho) (ent_rd X ho) K3 (by decide) w128 rfl rfl dX3_decode_1 rfl ?_
  refine q_callVv (n := 7) (fs := (fsRow X (2 * o - 44))) [] E hW hl.1 (isRow_lt (isRd_row ho)) (ent_row X (isRd_row ho)) K4 (c_X4_clear l X E.2.2.1.1 (2 * o - 44) (isRd_row ho) _ _ h) (by decide) Y_RX3_31 rfl (rest := []) rfl (Nat.le_of_ble_eq_true rfl) dX3_decode_4 rfl (fun M1 H locs h hW => ?_)
  refine q_aload_n (n := 8) (q := 0) E.1 hl rfl dX3_decode_7 rfl rfl ?_
  refine q_aload_n (n := 9) (q := 1) E.1 hl rfl dX3_decode_8 rfl rfl ?_
  refine q_callVi (n := 12) (fs := (fsRd X o)) [.ref (xA X 34)] E hW hl.1 (isRd_lt ho) (ent_rd X ho) K3 (c_X3_endsStand l X E.2.2.1.1 o ho _ _ h) (by decide) Y_RX3_34 rfl (rest := []) rfl (Nat.le_of_ble_eq_true rfl) dX3_decode_9 rfl (fun r3 M2 H locs h hW => ?_)
  obtain ⟨g4, h5, h6⟩ := h
  refine q_if_ne (t := 22) (n := 15) E.1 g4 dX3_decode_12 (by decide) rfl (fun c7 => ?_) (fun c7 => ?_)
  · have h := h5 c7
    refine q_aload_n (n := 23) (q := 1) E.1 hl rfl dX3_decode_22 rfl rfl ?_
    refine q_callVi (n := 26) (fs := (fsRow X 34)) [] E hW hl.1 (isRow_lt (by decide)) (ent_row X (by decide)) K4 (c_X4_size l X E.2.2.1.1 34 (by decide) _ _ h) (by decide) Y_RX3_42 rfl (rest := []) rfl (Nat.le_of_ble_eq_true rfl) dX3_decode_23 rfl (fun r9 M8 H locs h hW => ?_)
    refine q_iconst (n := 27) E.1 dX3_decode_26 rfl ?_
    refine q_isub (n := 28) E.1 dX3_decode_27 rfl ?_
    refine q_bipush (n := 30) E.1 dX3_decode_28 (by decide) rfl ?_
    refine q_isub (n := 31) E.1 dX3_decode_30 rfl ?_
    refine q_istore_n (n := 32) [(2, .int (jI ((r9 - 3) - 10))), (0, .ref (xA X o)), (1, .ref (xA X 34))] E.1 hl dX3_decode_31 rfl (by decide) rfl rfl (fun ls hl => ?_)
    refine q_iconst (n := 33) E.1 dX3_decode_32 rfl ?_
    refine q_istore_n (n := 34) [(3, .int (jI 4)), (2, .int (jI ((r9 - 3) - 10))), (0, .ref (xA X o)), (1, .ref (xA X 34))] E.1 hl dX3_decode_33 rfl (by decide) rfl rfl (fun ls hl => ?_)
    obtain ⟨n10, h⟩ := h
    exact v_X3_decode_34 o ho E Q n10 _ _ _ _ _ _ h hW (lv_sub hl [2, 3, 1, 0] rfl)
  · have h := h6 c7
    refine q_aload_n (n := 16) (q := 0) E.1 hl rfl dX3_decode_15 rfl rfl ?_
    refine q_iconst (n := 17) E.1 dX3_decode_16 rfl ?_
    refine q_iconst (n := 18) E.1 dX3_decode_17 rfl ?_
    refine q_callVi (n := 21) (fs := (fsRd X o)) [.int (jI 2), .int (jI 0)] E hW hl.1 (isRd_lt ho) (ent_rd X ho) K3 (c_X3_refuse l X E.2.2.1.1 o 2 0 ho _ _ h) (by decide) Y_RX3_38 rfl (rest := []) rfl (Nat.le_of_ble_eq_true rfl) dX3_decode_18 rfl (fun r12 M11 H locs h hW => ?_)
    exact q_zret E hW h.1 h.2 dX3_decode_21
/-! StickerPress$Stripes.setRatio(I)Z -/
theorem dX6_setRatio_0 : decode cX6_setRatio 0 = .ok (.iload_n 1, 1) := by decide +kernel
theorem dX6_setRatio_1 : decode cX6_setRatio 1 = .ok (.iconst 2, 1) := by decide +kernel
theorem dX6_setRatio_2 : decode cX6_setRatio 2 = .ok (.if_icmp .eq 10, 3) := by decide +kernel
theorem dX6_setRatio_5 : decode cX6_setRatio 5 = .ok (.iload_n 1, 1) := by decide +kernel
theorem dX6_setRatio_6 : decode cX6_setRatio 6 = .ok (.iconst 3, 1) := by decide +kernel
theorem dX6_setRatio_7 : decode cX6_setRatio 7 = .ok (.if_icmp .eq 5, 3) := by decide +kernel
theorem dX6_setRatio_10 : decode cX6_setRatio 10 = .ok (.iconst 0, 1) := by decide +kernel
theorem dX6_setRatio_11 : decode cX6_setRatio 11 = .ok (.ireturn, 1) := by decide +kernel
theorem dX6_setRatio_12 : decode cX6_setRatio 12 = .ok (.aload_n 0, 1) := by decide +kernel
theorem dX6_setRatio_13 : decode cX6_setRatio 13 = .ok (.iload_n 1, 1) := by decide +kernel
theorem dX6_setRatio_14 : decode cX6_setRatio 14 = .ok (.putfield 35, 3) := by decide +kernel
theorem dX6_setRatio_17 : decode cX6_setRatio 17 = .ok (.iconst 1, 1) := by decide +kernel
theorem dX6_setRatio_18 : decode cX6_setRatio 18 = .ok (.ireturn, 1) := by decide +kernel
def wp_X6_setRatio (a1 : Int) (M : Mem) (Q : Int → Mem → Prop) : Prop := (Rg a1 ∧ (a1 = 2 → Q 1 (up M 47 4 a1)) ∧ (¬ (a1 = 2) → (Rg a1 ∧ (a1 = 3 → Q 1 (up M 47 4 a1)) ∧ (¬ (a1 = 3) → Q 0 M))))
set_option maxHeartbeats 4000000 in
set_option maxRecDepth 100000 in
theorem c_X6_setRatio (l : Launch) (X : Cx) (hI : Inj X) (a1 : Int) (M : Mem) (Q : Int → Mem → Prop) (h : wp_X6_setRatio a1 M Q) : MI X l yX6_setRatio cX6_setRatio 2 (some .boolean) 0 [.ref (xA X 47), .int (jI a1)] M Q := by
  refine MI.of hI (by decide) (Nat.le_of_ble_eq_true rfl) ?_
  intro p e R s m args below meth c ls E hW hl
  have E : En X (AW X) 0 p R s m args meth c cX6_setRatio RX6 2 (some .boolean) 0 0 := E
  have hl : lv_has ls 2 [(0, .ref (xA X 47)), (1, .int (jI a1))] := hl
  unfold wp_X6_setRatio at h
  refine q_iload_n (n := 1) (q := 1) E.1 hl rfl dX6_setRatio_0 rfl rfl ?_
  refine q_iconst (n := 2) E.1 dX6_setRatio_1 rfl ?_
  obtain ⟨g1, h2, h3⟩ := h
  refine q_icmp_eq (t := 12) (n := 5) E.1 g1 (by decide) dX6_setRatio_2 (by decide) rfl (fun c4 => ?_) (fun c4 => ?_)
  · have h := h2 c4
    refine q_aload_n (n := 13) (q := 0) E.1 hl rfl dX6_setRatio_12 rfl rfl ?_
    refine q_iload_n (n := 14) (q := 1) E.1 hl rfl dX6_setRatio_13 rfl rfl ?_
    refine q_put (n := 17) (k := 4) (fs := (fs47 X)) E hW (by decide) (fun _ => rfl) K6 (by decide) w147 rfl rfl ⟨rfl, rfl⟩ (Nat.le_of_ble_eq_true rfl) (fun _ => rfl) dX6_setRatio_14 rfl (fun H locs hW => ?_)
    refine q_iconst (n := 18) E.1 dX6_setRatio_17 rfl ?_
    exact q_zret E hW (Or.inr rfl) h dX6_setRatio_18
  · have h := h3 c4
    refine q_iload_n (n := 6) (q := 1) E.1 hl rfl dX6_setRatio_5 rfl rfl ?_
    refine q_iconst (n := 7) E.1 dX6_setRatio_6 rfl ?_
    obtain ⟨g5, h6, h7⟩ := h
    refine q_icmp_eq (t := 12) (n := 10) E.1 g5 (by decide) dX6_setRatio_7 (by decide) rfl (fun c8 => ?_) (fun c8 => ?_)
    · have h := h6 c8
      refine q_aload_n (n := 13) (q := 0) E.1 hl rfl dX6_setRatio_12 rfl rfl ?_
      refine q_iload_n (n := 14) (q := 1) E.1 hl rfl dX6_setRatio_13 rfl rfl ?_
      refine q_put (n := 17) (k := 4) (fs := (fs47 X)) E hW (by decide) (fun _ => rfl) K6 (by decide) w147 rfl rfl ⟨rfl, rfl⟩ (Nat.le_of_ble_eq_true rfl) (fun _ => rfl) dX6_setRatio_14 rfl (fun H locs hW => ?_)
      refine q_iconst (n := 18) E.1 dX6_setRatio_17 rfl ?_
      exact q_zret E hW (Or.inr rfl) h dX6_setRatio_18
    · have h := h7 c8
      refine q_iconst (n := 11) E.1 dX6_setRatio_10 rfl ?_
      exact q_zret E hW (Or.inl rfl) h dX6_setRatio_11
/-! StickerPress$Stripes.codeOf(I)I -/
theorem dX6_codeOf_0 : decode cX6_codeOf 0 = .ok (.iload_n 0, 1) := by decide +kernel
theorem dX6_codeOf_1 : decode cX6_codeOf 1 = .ok (.ifCond .lt 19, 3) := by decide +kernel
theorem dX6_codeOf_4 : decode cX6_codeOf 4 = .ok (.iload_n 0, 1) := by decide +kernel
theorem dX6_codeOf_5 : decode cX6_codeOf 5 = .ok (.getstatic 113, 3) := by decide +kernel
theorem dX6_codeOf_8 : decode cX6_codeOf 8 = .ok (.arraylength, 1) := by decide +kernel
theorem dX6_codeOf_9 : decode cX6_codeOf 9 = .ok (.if_icmp .ge 11, 3) := by decide +kernel
theorem dX6_codeOf_12 : decode cX6_codeOf 12 = .ok (.getstatic 113, 3) := by decide +kernel
theorem dX6_codeOf_15 : decode cX6_codeOf 15 = .ok (.iload_n 0, 1) := by decide +kernel
theorem dX6_codeOf_16 : decode cX6_codeOf 16 = .ok (.iaload, 1) := by decide +kernel
theorem dX6_codeOf_17 : decode cX6_codeOf 17 = .ok (.goto 4, 3) := by decide +kernel
theorem dX6_codeOf_20 : decode cX6_codeOf 20 = .ok (.iconst 0, 1) := by decide +kernel
theorem dX6_codeOf_21 : decode cX6_codeOf 21 = .ok (.ireturn, 1) := by decide +kernel
def wp_X6_codeOf (a0 : Int) (M : Mem) (Q : Int → Mem → Prop) : Prop := (Rg a0 ∧ (a0 < 0 → Q 0 M) ∧ (¬ (a0 < 0) → (Rg a0 ∧ (10 ≤ a0 → Q 0 M) ∧ (¬ (10 ≤ a0) → (0 ≤ a0 ∧ a0 < 10) ∧ Q (dcode a0.toNat) M))))
set_option maxHeartbeats 4000000 in
set_option maxRecDepth 100000 in
theorem c_X6_codeOf (l : Launch) (X : Cx) (hI : Inj X) (a0 : Int) (M : Mem) (Q : Int → Mem → Prop) (h : wp_X6_codeOf a0 M Q) : MI X l yX6_codeOf cX6_codeOf 1 (some .int) 0 [.int (jI a0)] M Q := by
  refine MI.of hI (by decide) (Nat.le_of_ble_eq_true rfl) ?_
  intro p e R s m args below meth c ls E hW hl
  have E : En X (AW X) 0 p R s m args meth c cX6_codeOf RX6 1 (some .int) 0 0 := E
  have hl : lv_has ls 1 [(0, .int (jI a0))] := hl
  unfold wp_X6_codeOf at h
  refine q_iload_n (n := 1) (q := 0) E.1 hl rfl dX6_codeOf_0 rfl rfl ?_
  obtain ⟨g1, h2, h3⟩ := h
  refine q_if_lt (t := 20) (n := 4) E.1 g1 dX6_codeOf_1 (by decide) rfl (fun c4 => ?_) (fun c4 => ?_)
  · have h := h2 c4
    refine q_iconst (n := 21) E.1 dX6_codeOf_20 rfl ?_
    exact q_iret E hW h dX6_codeOf_21
  · have h := h3 c4
    refine q_iload_n (n := 5) (q := 0) E.1 hl rfl dX6_codeOf_4 rfl rfl ?_
    refine q_gets (n := 8) E hW 3 rfl dX6_codeOf_5 rfl ?_
    refine q_tlen (n := 9) E hW dX6_codeOf_8 rfl ?_
    obtain ⟨g5, h6, h7⟩ := h
    refine q_icmp_ge (t := 20) (n := 12) E.1 g5 (by decide) dX6_codeOf_9 (by decide) rfl (fun c8 => ?_) (fun c8 => ?_)
    · have h := h6 c8
      refine q_iconst (n := 21) E.1 dX6_codeOf_20 rfl ?_
      exact q_iret E hW h dX6_codeOf_21
    · have h := h7 c8
      refine q_gets (n := 15) E hW 3 rfl dX6_codeOf_12 rfl ?_
      refine q_iload_n (n := 16) (q := 0) E.1 hl rfl dX6_codeOf_15 rfl rfl ?_
      obtain ⟨g9, h⟩ := h
      refine q_tald (n := 17) E hW g9 dX6_codeOf_16 rfl ?_
      refine q_goto (n := 21) E.1 dX6_codeOf_17 (by decide) ?_
      exact q_iret E hW h dX6_codeOf_21
/-! StickerPress$Stripes.drawPair(IILStickerPress$Row;)V -/
theorem dX6_drawPair_0 : decode cX6_drawPair 0 = .ok (.iconst 4, 1) := by decide +kernel
theorem dX6_drawPair_1 : decode cX6_drawPair 1 = .ok (.istore 4, 2) := by decide +kernel
theorem dX6_drawPair_3 : decode cX6_drawPair 3 = .ok (.iload 4, 2) := by decide +kernel
theorem dX6_drawPair_5 : decode cX6_drawPair 5 = .ok (.ifCond .lt 55, 3) := by decide +kernel
theorem dX6_drawPair_8 : decode cX6_drawPair 8 = .ok (.aload_n 3, 1) := by decide +kernel
theorem dX6_drawPair_9 : decode cX6_drawPair 9 = .ok (.iload_n 1, 1) := by decide +kernel
theorem dX6_drawPair_10 : decode cX6_drawPair 10 = .ok (.iload 4, 2) := by decide +kernel
theorem dX6_drawPair_12 : decode cX6_drawPair 12 = .ok (.ishr, 1) := by decide +kernel
theorem dX6_drawPair_13 : decode cX6_drawPair 13 = .ok (.iconst 1, 1) := by decide +kernel
theorem dX6_drawPair_14 : decode cX6_drawPair 14 = .ok (.iand, 1) := by decide +kernel
theorem dX6_drawPair_15 : decode cX6_drawPair 15 = .ok (.iconst 1, 1) := by decide +kernel
theorem dX6_drawPair_16 : decode cX6_drawPair 16 = .ok (.if_icmp .ne 10, 3) := by decide +kernel
theorem dX6_drawPair_19 : decode cX6_drawPair 19 = .ok (.aload_n 0, 1) := by decide +kernel
theorem dX6_drawPair_20 : decode cX6_drawPair 20 = .ok (.getfield 35, 3) := by decide +kernel
theorem dX6_drawPair_23 : decode cX6_drawPair 23 = .ok (.goto 4, 3) := by decide +kernel
theorem dX6_drawPair_26 : decode cX6_drawPair 26 = .ok (.iconst 1, 1) := by decide +kernel
theorem dX6_drawPair_27 : decode cX6_drawPair 27 = .ok (.invokevirtual 64, 3) := by decide +kernel
theorem dX6_drawPair_30 : decode cX6_drawPair 30 = .ok (.pop, 1) := by decide +kernel
theorem dX6_drawPair_31 : decode cX6_drawPair 31 = .ok (.aload_n 3, 1) := by decide +kernel
theorem dX6_drawPair_32 : decode cX6_drawPair 32 = .ok (.iload_n 2, 1) := by decide +kernel
theorem dX6_drawPair_33 : decode cX6_drawPair 33 = .ok (.iload 4, 2) := by decide +kernel
theorem dX6_drawPair_35 : decode cX6_drawPair 35 = .ok (.ishr, 1) := by decide +kernel
theorem dX6_drawPair_36 : decode cX6_drawPair 36 = .ok (.iconst 1, 1) := by decide +kernel
theorem dX6_drawPair_37 : decode cX6_drawPair 37 = .ok (.iand, 1) := by decide +kernel
theorem dX6_drawPair_38 : decode cX6_drawPair 38 = .ok (.iconst 1, 1) := by decide +kernel
theorem dX6_drawPair_39 : decode cX6_drawPair 39 = .ok (.if_icmp .ne 10, 3) := by decide +kernel
theorem dX6_drawPair_42 : decode cX6_drawPair 42 = .ok (.aload_n 0, 1) := by decide +kernel
theorem dX6_drawPair_43 : decode cX6_drawPair 43 = .ok (.getfield 35, 3) := by decide +kernel
theorem dX6_drawPair_46 : decode cX6_drawPair 46 = .ok (.goto 4, 3) := by decide +kernel
theorem dX6_drawPair_49 : decode cX6_drawPair 49 = .ok (.iconst 1, 1) := by decide +kernel
theorem dX6_drawPair_50 : decode cX6_drawPair 50 = .ok (.invokevirtual 64, 3) := by decide +kernel
theorem dX6_drawPair_53 : decode cX6_drawPair 53 = .ok (.pop, 1) := by decide +kernel
theorem dX6_drawPair_54 : decode cX6_drawPair 54 = .ok (.iinc 4 (-1), 3) := by decide +kernel
theorem dX6_drawPair_57 : decode cX6_drawPair 57 = .ok (.goto (-54), 3) := by decide +kernel
theorem dX6_drawPair_60 : decode cX6_drawPair 60 = .ok (.return_, 1) := by decide +kernel
theorem Y_RX6_64 : YV RX6 64 RX4 yX4_add cX4_add 2 (some .boolean) 1 := ⟨w291, w411, w289, w290, w44, by decide +kernel, by decide⟩
def wp_X6_drawPair_27 (a1 : Int) (a2 : Int) (a3 : Nat) (k3 : Int → Mem → Prop) (Q : Mem → Prop) (x4 s0 : Int) (M : Mem) : Prop := wp_X4_add a3 s0 M (fun r2 M1 => (Rg (bAnd (bShr a2 x4) 1) ∧ ((bAnd (bShr a2 x4) 1) ≠ 1 → wp_X4_add a3 1 M1 (fun r8 M7 => k3 (x4 + (-1)) M7)) ∧ (¬ ((bAnd (bShr a2 x4) 1) ≠ 1) → wp_X4_add a3 (M1 47 4) M1 (fun r10 M9 => k3 (x4 + (-1)) M9))))
set_option maxHeartbeats 4000000 in
set_option maxRecDepth 100000 in
theorem v_X6_drawPair_27 (a1 : Int) (a2 : Int) (a3 : Nat) (ha3 : isRow a3) (E : En X (AW X) 1 p R s m args meth c cX6_drawPair RX6 5 none 0 0) (Q : Mem → Prop) (k3 : Int → Mem → Prop) (Hk3 : ∀ (x4 : Int) (M : Mem) (H : Heap) (locs : List Loc) (ls : Array Slot), k3 x4 M → Wd X (AW X) s M H locs → lv_has ls 5 [(0, .ref (xA X 47)), (1, .int (jI a1)), (2, .int (jI a2)), (3, .ref (xA X a3)), (4, .int (jI x4))] → W p l e R s m args below meth c H locs 0 0 (MQ below (QV X Q) args s 0 0 (AW X)) (F0 m 3 ls [])) : ∀ (x4 s0 : Int) (M : Mem) (H : Heap) (locs : List Loc) (ls : Array Slot), wp_X6_drawPair_27 a1 a2 a3 k3 Q x4 s0 M → Wd X (AW X) s M H locs → lv_has ls 5 [(0, .ref (xA X 47)), (1, .int (jI a1)), (2, .int (jI a2)), (3, .ref (xA X a3)), (4, .int (jI x4))] → W p l e R s m args below meth c H locs 0 0 (MQ below (QV X Q) args s 0 0 (AW X)) (F0 m 27 ls [.int (jI s0), .ref (xA X a3)]) := by
  intro x4 s0 M H locs ls h hW hl
  unfold wp_X6_drawPair_27 at h
  refine q_callVi (n := 30) (fs := (fsRow X a3)) [.int (jI s0)] E hW hl.1 (isRow_lt ha3) (ent_row X ha3) K4 (c_X4_add l X E.2.2.1.1 a3 s0 ha3 _ _ h) (by decide) Y_RX6_64 rfl (rest := []) rfl (Nat.le_of_ble_eq_true rfl) dX6_drawPair_27 rfl (fun r2 M1 H locs h hW => ?_)
  refine q_pop (n := 31) E.1 dX6_drawPair_30 rfl rfl ?_
  refine q_aload_n (n := 32) (q := 3) E.1 hl rfl dX6_drawPair_31 rfl rfl ?_
  refine q_iload_n (n := 33) (q := 2) E.1 hl rfl dX6_drawPair_32 rfl rfl ?_
  refine q_iload (n := 35) (q := 4) E.1 hl rfl dX6_drawPair_33 rfl ?_
  refine q_ishr (n := 36) E.1 dX6_drawPair_35 rfl ?_
  refine q_iconst (n := 37) E.1 dX6_drawPair_36 rfl ?_
  refine q_iand (n := 38) E.1 dX6_drawPair_37 rfl ?_
  refine q_iconst (n := 39) E.1 dX6_drawPair_38 rfl ?_
  obtain ⟨g3, h4, h5⟩ := h
  refine q_icmp_ne (t := 49) (n := 42) E.1 g3 (by decide) dX6_drawPair_39 (by decide) rfl (fun c6 => ?_) (fun c6 => ?_)
  · have h := h4 c6
    refine q_iconst (n := 50) E.1 dX6_drawPair_49 rfl ?_
    refine q_callVi (n := 53) (fs := (fsRow X a3)) [.int (jI 1)] E hW hl.1 (isRow_lt ha3) (ent_row X ha3) K4 (c_X4_add l X E.2.2.1.1 a3 1 ha3 _ _ h) (by decide) Y_RX6_64 rfl (rest := []) rfl (Nat.le_of_ble_eq_true rfl) dX6_drawPair_50 rfl (fun r8 M7 H locs h hW => ?_)
    refine q_pop (n := 54) E.1 dX6_drawPair_53 rfl rfl ?_
    refine q_iinc (n := 57) (q := 4) [(4, .int (jI (x4 + (-1)))), (0, .ref (xA X 47)), (1, .int (jI a1)), (2, .int (jI a2)), (3, .ref (xA X a3))] E.1 hl rfl dX6_drawPair_54 (by decide) rfl rfl (fun ls hl => ?_)
    refine q_goto (n := 3) E.1 dX6_drawPair_57 (by decide) ?_
    exact Hk3 _ _ _ _ _ h hW (lv_sub hl [1, 2, 3, 4, 0] rfl)
  · have h := h5 c6
    refine q_aload_n (n := 43) (q := 0) E.1 hl rfl dX6_drawPair_42 rfl rfl ?_
    refine q_get (n := 46) (k := 4) (fs := (fs47 X)) (v := .int (jI (M1 47 4))) E hW (by decide) (fun _ => rfl) K6 (by decide) w147 rfl rfl dX6_drawPair_43 rfl ?_
    refine q_goto (n := 50) E.1 dX6_drawPair_46 (by decide) ?_
    refine q_callVi (n := 53) (fs := (fsRow X a3)) [.int (jI (M1 47 4))] E hW hl.1 (isRow_lt ha3) (ent_row X ha3) K4 (c_X4_add l X E.2.2.1.1 a3 (M1 47 4) ha3 _ _ h) (by decide) Y_RX6_64 rfl (rest := []) rfl (Nat.le_of_ble_eq_true rfl) dX6_drawPair_50 rfl (fun r10 M9 H locs h hW => ?_)
    refine q_pop (n := 54) E.1 dX6_drawPair_53 rfl rfl ?_
    refine q_iinc (n := 57) (q := 4) [(4, .int (jI (x4 + (-1)))), (0, .ref (xA X 47)), (1, .int (jI a1)), (2, .int (jI a2)), (3, .ref (xA X a3))] E.1 hl rfl dX6_drawPair_54 (by decide) rfl rfl (fun ls hl => ?_)
    refine q_goto (n := 3) E.1 dX6_drawPair_57 (by decide) ?_
    exact Hk3 _ _ _ _ _ h hW (lv_sub hl [1, 2, 3, 4, 0] rfl)
def wp_X6_drawPair_3 (a1 : Int) (a2 : Int) (a3 : Nat) (Q : Mem → Prop) : Nat → Int → Mem → Prop
  | 0, _, _ => False
  | n + 1, x4, M => (Rg x4 ∧ (x4 < 0 → Q M) ∧ (¬ (x4 < 0) → (Rg (bAnd (bShr a1 x4) 1) ∧ ((bAnd (bShr a1 x4) 1) ≠ 1 → wp_X6_drawPair_27 a1 a2 a3 (fun x4 M => wp_X6_drawPair_3 a1 a2 a3 Q n x4 M) Q x4 1 M) ∧ (¬ ((bAnd (bShr a1 x4) 1) ≠ 1) → wp_X6_drawPair_27 a1 a2 a3 (fun x4 M => wp_X6_drawPair_3 a1 a2 a3 Q n x4 M) Q x4 (M 47 4) M))))
set_option maxHeartbeats 4000000 in
set_option maxRecDepth 100000 in
theorem v_X6_drawPair_3 (a1 : Int) (a2 : Int) (a3 : Nat) (ha3 : isRow a3) (E : En X (AW X) 1 p R s m args meth c cX6_drawPair RX6 5 none 0 0) (Q : Mem → Prop) : ∀ n : Nat, ∀ (x4 : Int) (M : Mem) (H : Heap) (locs : List Loc) (ls : Array Slot), wp_X6_drawPair_3 a1 a2 a3 Q n x4 M → Wd X (AW X) s M H locs → lv_has ls 5 [(0, .ref (xA X 47)), (1, .int (jI a1)), (2, .int (jI a2)), (3, .ref (xA X a3)), (4, .int (jI x4))] → W p l e R s m args below meth c H locs 0 0 (MQ below (QV X Q) args s 0 0 (AW X)) (F0 m 3 ls []) := by
  intro n
  induction n with
  | zero => intro x4 M H locs ls h; exact absurd h (by simp [wp_X6_drawPair_3])
  | succ n ih =>
    intro x4 M H locs ls h hW hl
    rw [wp_X6_drawPair_3] at h
    refine q_iload (n := 5) (q := 4) E.1 hl rfl dX6_drawPair_3 rfl ?_
    obtain ⟨g1, h2, h3⟩ := h
    refine q_if_lt (t := 60) (n := 8) E.1 g1 dX6_drawPair_5 (by decide) rfl (fun c4 => ?_) (fun c4 => ?_)
    · have h := h2 c4
      exact q_vret E hW h dX6_drawPair_60
    · have h := h3 c4
      refine q_aload_n (n := 9) (q := 3) E.1 hl rfl dX6_drawPair_8 rfl rfl ?_
      refine q_iload_n (n := 10) (q := 1) E.1 hl rfl dX6_drawPair_9 rfl rfl ?_
      refine q_iload (n := 12) (q := 4) E.1 hl rfl dX6_drawPair_10 rfl ?_
      refine q_ishr (n := 13) E.1 dX6_drawPair_12 rfl ?_
      refine q_iconst (n := 14) E.1 dX6_drawPair_13 rfl ?_
      refine q_iand (n := 15) E.1 dX6_drawPair_14 rfl ?_
      refine q_iconst (n := 16) E.1 dX6_drawPair_15 rfl ?_
      obtain ⟨g5, h6, h7⟩ := h
      refine q_icmp_ne (t := 26) (n := 19) E.1 g5 (by decide) dX6_drawPair_16 (by decide) rfl (fun c8 => ?_) (fun c8 => ?_)
      · have h := h6 c8
        refine q_iconst (n := 27) E.1 dX6_drawPair_26 rfl ?_
        exact v_X6_drawPair_27 a1 a2 a3 ha3 E Q _ ih _ _ _ _ _ _ h hW (lv_sub hl [0, 1, 2, 3, 4] rfl)
      · have h := h7 c8
        refine q_aload_n (n := 20) (q := 0) E.1 hl rfl dX6_drawPair_19 rfl rfl ?_
        refine q_get (n := 23) (k := 4) (fs := (fs47 X)) (v := .int (jI (M 47 4))) E hW (by decide) (fun _ => rfl) K6 (by decide) w147 rfl rfl dX6_drawPair_20 rfl ?_
        refine q_goto (n := 27) E.1 dX6_drawPair_23 (by decide) ?_
        exact v_X6_drawPair_27 a1 a2 a3 ha3 E Q _ ih _ _ _ _ _ _ h hW (lv_sub hl [0, 1, 2, 3, 4] rfl)
def wp_X6_drawPair (a1 : Int) (a2 : Int) (a3 : Nat) (M : Mem) (Q : Mem → Prop) : Prop := (∃ n : Nat, wp_X6_drawPair_3 a1 a2 a3 Q n 4 M)
set_option maxHeartbeats 4000000 in
set_option maxRecDepth 100000 in
theorem c_X6_drawPair (l : Launch) (X : Cx) (hI : Inj X) (a1 : Int) (a2 : Int) (a3 : Nat) (ha3 : isRow a3) (M : Mem) (Q : Mem → Prop) (h : wp_X6_drawPair a1 a2 a3 M Q) : MV X l yX6_drawPair cX6_drawPair 5 1 [.ref (xA X 47), .int (jI a1), .int (jI a2), .ref (xA X a3)] M Q := by
  refine MV.of hI (by decide) (Nat.le_of_ble_eq_true rfl) ?_
  intro p e R s m args below meth c ls E hW hl
  have E : En X (AW X) 1 p R s m args meth c cX6_drawPair RX6 5 none 0 0 := E
  have hl : lv_has ls 5 [(0, .ref (xA X 47)), (1, .int (jI a1)), (2, .int (jI a2)), (3, .ref (xA X a3))] := hl
  unfold wp_X6_drawPair at h
  refine q_iconst (n := 1) E.1 dX6_drawPair_0 rfl ?_
  refine q_istore (n := 3) [(4, .int (jI 4)), (0, .ref (xA X 47)), (1, .int (jI a1)), (2, .int (jI a2)), (3, .ref (xA X a3))] E.1 hl dX6_drawPair_1 (by decide) rfl rfl (fun ls hl => ?_)
  obtain ⟨n1, h⟩ := h
  exact v_X6_drawPair_3 a1 a2 a3 ha3 E Q n1 _ _ _ _ _ h hW (lv_sub hl [1, 2, 3, 4, 0] rfl)
/-! StickerPress$Stripes.takeDigits(LStickerPress$Row;)V -/
theorem dX6_takeDigits_0 : decode cX6_takeDigits 0 = .ok (.aload_n 0, 1) := by decide +kernel
theorem dX6_takeDigits_1 : decode cX6_takeDigits 1 = .ok (.getfield 14, 3) := by decide +kernel
theorem dX6_takeDigits_4 : decode cX6_takeDigits 4 = .ok (.invokevirtual 61, 3) := by decide +kernel
theorem dX6_takeDigits_7 : decode cX6_takeDigits 7 = .ok (.aload_n 1, 1) := by decide +kernel
theorem dX6_takeDigits_8 : decode cX6_takeDigits 8 = .ok (.invokevirtual 49, 3) := by decide +kernel
theorem dX6_takeDigits_11 : decode cX6_takeDigits 11 = .ok (.iconst 2, 1) := by decide +kernel
theorem dX6_takeDigits_12 : decode cX6_takeDigits 12 = .ok (.irem, 1) := by decide +kernel
theorem dX6_takeDigits_13 : decode cX6_takeDigits 13 = .ok (.ifCond .ne 12, 3) := by decide +kernel
theorem dX6_takeDigits_16 : decode cX6_takeDigits 16 = .ok (.aload_n 0, 1) := by decide +kernel
theorem dX6_takeDigits_17 : decode cX6_takeDigits 17 = .ok (.getfield 14, 3) := by decide +kernel
theorem dX6_takeDigits_20 : decode cX6_takeDigits 20 = .ok (.iconst 0, 1) := by decide +kernel
theorem dX6_takeDigits_21 : decode cX6_takeDigits 21 = .ok (.invokevirtual 64, 3) := by decide +kernel
theorem dX6_takeDigits_24 : decode cX6_takeDigits 24 = .ok (.pop, 1) := by decide +kernel
theorem dX6_takeDigits_25 : decode cX6_takeDigits 25 = .ok (.iconst 0, 1) := by decide +kernel
theorem dX6_takeDigits_26 : decode cX6_takeDigits 26 = .ok (.istore_n 2, 1) := by decide +kernel
theorem dX6_takeDigits_27 : decode cX6_takeDigits 27 = .ok (.iload_n 2, 1) := by decide +kernel
theorem dX6_takeDigits_28 : decode cX6_takeDigits 28 = .ok (.aload_n 1, 1) := by decide +kernel
theorem dX6_takeDigits_29 : decode cX6_takeDigits 29 = .ok (.invokevirtual 49, 3) := by decide +kernel
theorem dX6_takeDigits_32 : decode cX6_takeDigits 32 = .ok (.if_icmp .ge 25, 3) := by decide +kernel
theorem dX6_takeDigits_35 : decode cX6_takeDigits 35 = .ok (.aload_n 0, 1) := by decide +kernel
theorem dX6_takeDigits_36 : decode cX6_takeDigits 36 = .ok (.getfield 14, 3) := by decide +kernel
theorem dX6_takeDigits_39 : decode cX6_takeDigits 39 = .ok (.aload_n 1, 1) := by decide +kernel
theorem dX6_takeDigits_40 : decode cX6_takeDigits 40 = .ok (.iload_n 2, 1) := by decide +kernel
theorem dX6_takeDigits_41 : decode cX6_takeDigits 41 = .ok (.invokevirtual 68, 3) := by decide +kernel
theorem dX6_takeDigits_44 : decode cX6_takeDigits 44 = .ok (.bipush 48, 2) := by decide +kernel
theorem dX6_takeDigits_46 : decode cX6_takeDigits 46 = .ok (.isub, 1) := by decide +kernel
theorem dX6_takeDigits_47 : decode cX6_takeDigits 47 = .ok (.invokevirtual 64, 3) := by decide +kernel
theorem dX6_takeDigits_50 : decode cX6_takeDigits 50 = .ok (.pop, 1) := by decide +kernel
theorem dX6_takeDigits_51 : decode cX6_takeDigits 51 = .ok (.iinc 2 1, 3) := by decide +kernel
theorem dX6_takeDigits_54 : decode cX6_takeDigits 54 = .ok (.goto (-27), 3) := by decide +kernel
theorem dX6_takeDigits_57 : decode cX6_takeDigits 57 = .ok (.aload_n 0, 1) := by decide +kernel
theorem dX6_takeDigits_58 : decode cX6_takeDigits 58 = .ok (.getfield 14, 3) := by decide +kernel
theorem dX6_takeDigits_61 : decode cX6_takeDigits 61 = .ok (.aload_n 0, 1) := by decide +kernel
theorem dX6_takeDigits_62 : decode cX6_takeDigits 62 = .ok (.getfield 14, 3) := by decide +kernel
theorem dX6_takeDigits_65 : decode cX6_takeDigits 65 = .ok (.aload_n 0, 1) := by decide +kernel
theorem dX6_takeDigits_66 : decode cX6_takeDigits 66 = .ok (.getfield 14, 3) := by decide +kernel
theorem dX6_takeDigits_69 : decode cX6_takeDigits 69 = .ok (.invokevirtual 49, 3) := by decide +kernel
theorem dX6_takeDigits_72 : decode cX6_takeDigits 72 = .ok (.invokestatic 99, 3) := by decide +kernel
theorem dX6_takeDigits_75 : decode cX6_takeDigits 75 = .ok (.invokevirtual 64, 3) := by decide +kernel
theorem dX6_takeDigits_78 : decode cX6_takeDigits 78 = .ok (.pop, 1) := by decide +kernel
theorem dX6_takeDigits_79 : decode cX6_takeDigits 79 = .ok (.return_, 1) := by decide +kernel
theorem Y_RX6_49 : YV RX6 49 RX4 yX4_size cX4_size 1 (some .int) 0 := ⟨w283, w404, w281, w282, w44, by decide +kernel, by decide⟩
theorem Y_RX6_61 : YV RX6 61 RX4 yX4_clear cX4_clear 1 none 0 := ⟨w326, w410, w324, w325, w44, by decide +kernel, by decide⟩
theorem Y_RX6_99 : YS RX6 99 yX6_checkOf cX6_checkOf 5 (some .int) 2 := ⟨w415, w413, w414, w47, by decide +kernel, by decide⟩
def wp_X6_takeDigits_27 (a1 : Nat) (Q : Mem → Prop) : Nat → Int → Mem → Prop
  | 0, _, _ => False
  | n + 1, x2, M => wp_X4_size a1 M (fun r2 M1 => (Rg x2 ∧ Rg r2 ∧ (r2 ≤ x2 → wp_X4_size 32 M1 (fun r9 M8 => wp_X6_checkOf 32 r9 M8 (fun r11 M10 => wp_X4_add 32 r11 M10 (fun r13 M12 => Q M12)))) ∧ (¬ (r2 ≤ x2) → wp_X4_at a1 x2 M1 (fun r15 M14 => wp_X4_add 32 (r15 - 48) M14 (fun r17 M16 => wp_X6_takeDigits_27 a1 Q n (x2 + 1) M16)))))
set_option maxHeartbeats 4000000 in
set_option maxRecDepth 100000 in
theorem v_X6_takeDigits_27 (a1 : Nat) (ha1 : isRow a1) (E : En X (AW X) 2 p R s m args meth c cX6_takeDigits RX6 3 none 0 0) (Q : Mem → Prop) : ∀ n : Nat, ∀ (x2 : Int) (M : Mem) (H : Heap) (locs : List Loc) (ls : Array Slot), wp_X6_takeDigits_27 a1 Q n x2 M → Wd X (AW X) s M H locs → lv_has ls 3 [(0, .ref (xA X 47)), (1, .ref (xA X a1)), (2, .int (jI x2))] → W p l e R s m args below meth c H locs 0 0 (MQ below (QV X Q) args s 0 0 (AW X)) (F0 m 27 ls []) := by
  intro n
  induction n with
  | zero => intro x2 M H locs ls h; exact absurd h (by simp [wp_X6_takeDigits_27])
  | succ n ih =>
    intro x2 M H locs ls h hW hl
    rw [wp_X6_takeDigits_27] at h
    refine q_iload_n (n := 28) (q := 2) E.1 hl rfl dX6_takeDigits_27 rfl rfl ?_
    refine q_aload_n (n := 29) (q := 1) E.1 hl rfl dX6_takeDigits_28 rfl rfl ?_
    refine q_callVi (n := 32) (fs := (fsRow X a1)) [] E hW hl.1 (isRow_lt ha1) (ent_row X ha1) K4 (c_X4_size l X E.2.2.1.1 a1 ha1 _ _ h) (by decide) Y_RX6_49 rfl (rest := [.int (jI x2)]) rfl (Nat.le_of_ble_eq_true rfl) dX6_takeDigits_29 rfl (fun r2 M1 H locs h hW => ?_)
    obtain ⟨g3, g4, h5, h6⟩ := h
    refine q_icmp_ge (t := 57) (n := 35) E.1 g3 g4 dX6_takeDigits_32 (by decide) rfl (fun c7 => ?_) (fun c7 => ?_)
    · have h := h5 c7
      refine q_aload_n (n := 58) (q := 0) E.1 hl rfl dX6_takeDigits_57 rfl rfl ?_
      refine q_get (n := 61) (k := 0) (fs := (fs47 X)) (v := .ref (xA X 32)) E hW (by decide) (fun _ => rfl) K6 (by decide) w143 rfl rfl dX6_takeDigits_58 rfl ?_
      refine q_aload_n (n := 62) (q := 0) E.1 hl rfl dX6_takeDigits_61 rfl rfl ?_
      refine q_get (n := 65) (k := 0) (fs := (fs47 X)) (v := .ref (xA X 32)) E hW (by decide) (fun _ => rfl) K6 (by decide) w143 rfl rfl dX6_takeDigits_62 rfl ?_
      refine q_aload_n (n := 66) (q := 0) E.1 hl rfl dX6_takeDigits_65 rfl rfl ?_
      refine q_get (n := 69) (k := 0) (fs := (fs47 X)) (v := .ref (xA X 32)) E hW (by decide) (fun _ => rfl) K6 (by decide) w143 rfl rfl dX6_takeDigits_66 rfl ?_
      refine q_callVi (n := 72) (fs := (fsRow X 32)) [] E hW hl.1 (isRow_lt (by decide)) (ent_row X (by decide)) K4 (c_X4_size l X E.2.2.1.1 32 (by decide) _ _ h) (by decide) Y_RX6_49 rfl (rest := [.ref (xA X 32), .ref (xA X 32)]) rfl (Nat.le_of_ble_eq_true rfl) dX6_takeDigits_69 rfl (fun r9 M8 H locs h hW => ?_)
      refine q_callSi (n := 75) [.ref (xA X 32), .int (jI r9)] E hW hl.1 (c_X6_checkOf l X E.2.2.1.1 32 r9 (by decide) _ _ h) (by decide) Y_RX6_99 rfl (rest := [.ref (xA X 32)]) rfl (Nat.le_of_ble_eq_true rfl) dX6_takeDigits_72 rfl (fun r11 M10 H locs h hW => ?_)
      refine q_callVi (n := 78) (fs := (fsRow X 32)) [.int (jI r11)] E hW hl.1 (isRow_lt (by decide)) (ent_row X (by decide)) K4 (c_X4_add l X E.2.2.1.1 32 r11 (by decide) _ _ h) (by decide) Y_RX6_64 rfl (rest := []) rfl (Nat.le_of_ble_eq_true rfl) dX6_takeDigits_75 rfl (fun r13 M12 H locs h hW => ?_)
      refine q_pop (n := 79) E.1 dX6_takeDigits_78 rfl rfl ?_
      exact q_vret E hW h dX6_takeDigits_79
    · have h := h6 c7
      refine q_aload_n (n := 36) (q := 0) E.1 hl rfl dX6_takeDigits_35 rfl rfl ?_
      refine q_get (n := 39) (k := 0) (fs := (fs47 X)) (v := .ref (xA X 32)) E hW (by decide) (fun _ => rfl) K6 (by decide) w143 rfl rfl dX6_takeDigits_36 rfl ?_
      refine q_aload_n (n := 40) (q := 1) E.1 hl rfl dX6_takeDigits_39 rfl rfl ?_
      refine q_iload_n (n := 41) (q := 2) E.1 hl rfl dX6_takeDigits_40 rfl rfl ?_
      refine q_callVi (n := 44) (fs := (fsRow X a1)) [.int (jI x2)] E hW hl.1 (isRow_lt ha1) (ent_row X ha1) K4 (c_X4_at l X E.2.2.1.1 a1 x2 ha1 _ _ h) (by decide) Y_RX6_68 rfl (rest := [.ref (xA X 32)]) rfl (Nat.le_of_ble_eq_true rfl) dX6_takeDigits_41 rfl (fun r15 M14 H locs h hW => ?_)
      refine q_bipush (n := 46) E.1 dX6_takeDigits_44 (by decide) rfl ?_
      refine q_isub (n := 47) E.1 dX6_takeDigits_46 rfl ?_
      refine q_callVi (n := 50) (fs := (fsRow X 32)) [.int (jI (r15 - 48))] E hW hl.1 (isRow_lt (by decide)) (ent_row X (by decide)) K4 (c_X4_add l X E.2.2.1.1 32 (r15 - 48) (by decide) _ _ h) (by decide) Y_RX6_64 rfl (rest := []) rfl (Nat.le_of_ble_eq_true rfl) dX6_takeDigits_47 rfl (fun r17 M16 H locs h hW => ?_)
      refine q_pop (n := 51) E.1 dX6_takeDigits_50 rfl rfl ?_
      refine q_iinc (n := 54) (q := 2) [(2, .int (jI (x2 + 1))), (0, .ref (xA X 47)), (1, .ref (xA X a1))] E.1 hl rfl dX6_takeDigits_51 (by decide) rfl rfl (fun ls hl => ?_)
      refine q_goto (n := 27) E.1 dX6_takeDigits_54 (by decide) ?_
      exact ih _ _ _ _ _ h hW (lv_sub hl [1, 2, 0] rfl)
def wp_X6_takeDigits (a1 : Nat) (M : Mem) (Q : Mem → Prop) : Prop := wp_X4_clear 32 M (fun M1 => wp_X4_size a1 M1 (fun r3 M2 => (Rg r3 ∧ 0 ≤ r3) ∧ (Rg (r3 % 2) ∧ ((r3 % 2) ≠ 0 → (∃ n : Nat, wp_X6_takeDigits_27 a1 Q n 0 M2)) ∧ (¬ ((r3 % 2) ≠ 0) → wp_X4_add 32 0 M2 (fun r11 M10 => (∃ n : Nat, wp_X6_takeDigits_27 a1 Q n 0 M10))))))
set_option maxHeartbeats 4000000 in
set_option maxRecDepth 100000 in
theorem c_X6_takeDigits (l : Launch) (X : Cx) (hI : Inj X) (a1 : Nat) (ha1 : isRow a1) (M : Mem) (Q : Mem → Prop) (h : wp_X6_takeDigits a1 M Q) : MV X l yX6_takeDigits cX6_takeDigits 3 2 [.ref (xA X 47), .ref (xA X a1)] M Q := by
  refine MV.of hI (by decide) (Nat.le_of_ble_eq_true rfl) ?_
  intro p e R s m args below meth c ls E hW hl
  have E : En X (AW X) 2 p R s m args meth c cX6_takeDigits RX6 3 none 0 0 := E
  have hl : lv_has ls 3 [(0, .ref (xA X 47)), (1, .ref (xA X a1))] := hl
  unfold wp_X6_takeDigits at h
  refine q_aload_n (n := 1) (q := 0) E.1 hl rfl dX6_takeDigits_0 rfl rfl ?_
  refine q_get (n := 4) (k := 0) (fs := (fs47 X)) (v := .ref (xA X 32)) E hW (by decide) (fun _ => rfl) K6 (by decide) w143 rfl rfl dX6_takeDigits_1 rfl ?_
  refine q_callVv (n := 7) (fs := (fsRow X 32)) [] E hW hl.1 (isRow_lt (by decide)) (ent_row X (by decide)) K4 (c_X4_clear l X E.2.2.1.1 32 (by decide) _ _ h) (by decide) Y_RX6_61 rfl (rest := []) rfl (Nat.le_of_ble_eq_true rfl) dX6_takeDigits_4 rfl (fun M1 H locs h hW => ?_)
  refine q_aload_n (n := 8) (q := 1) E.1 hl rfl dX6_takeDigits_7 rfl rfl ?_
  refine q_callVi (n := 11) (fs := (fsRow X a1)) [] E hW hl.1 (isRow_lt ha1) (ent_row X ha1) K4 (c_X4_size l X E.2.2.1.1 a1 ha1 _ _ h) (by decide) Y_RX6_49 rfl (rest := []) rfl (Nat.le_of_ble_eq_true rfl) dX6_takeDigits_8 rfl (fun r3 M2 H locs h hW => ?_)
  refine q_iconst (n := 12) E.1 dX6_takeDigits_11 rfl ?_
  obtain ⟨g4, h⟩ := h
  refine q_irem (n := 13) E.1 g4 (by decide) dX6_takeDigits_12 rfl ?_
  obtain ⟨g5, h6, h7⟩ := h
  refine q_if_ne (t := 25) (n := 16) E.1 g5 dX6_takeDigits_13 (by decide) rfl (fun c8 => ?_) (fun c8 => ?_)
  · have h := h6 c8
    refine q_iconst (n := 26) E.1 dX6_takeDigits_25 rfl ?_
    refine q_istore_n (n := 27) [(2, .int (jI 0)), (0, .ref (xA X 47)), (1, .ref (xA X a1))] E.1 hl dX6_takeDigits_26 rfl (by decide) rfl rfl (fun ls hl => ?_)
    obtain ⟨n9, h⟩ := h
    exact v_X6_takeDigits_27 a1 ha1 E Q n9 _ _ _ _ _ h hW (lv_sub hl [1, 2, 0] rfl)
  · have h := h7 c8
    refine q_aload_n (n := 17) (q := 0) E.1 hl rfl dX6_takeDigits_16 rfl rfl ?_
    refine q_get (n := 20) (k := 0) (fs := (fs47 X)) (v := .ref (xA X 32)) E hW (by decide) (fun _ => rfl) K6 (by decide) w143 rfl rfl dX6_takeDigits_17 rfl ?_
    refine q_iconst (n := 21) E.1 dX6_takeDigits_20 rfl ?_
    refine q_callVi (n := 24) (fs := (fsRow X 32)) [.int (jI 0)] E hW hl.1 (isRow_lt (by decide)) (ent_row X (by decide)) K4 (c_X4_add l X E.2.2.1.1 32 0 (by decide) _ _ h) (by decide) Y_RX6_64 rfl (rest := []) rfl (Nat.le_of_ble_eq_true rfl) dX6_takeDigits_21 rfl (fun r11 M10 H locs h hW => ?_)
    refine q_pop (n := 25) E.1 dX6_takeDigits_24 rfl rfl ?_
    refine q_iconst (n := 26) E.1 dX6_takeDigits_25 rfl ?_
    refine q_istore_n (n := 27) [(2, .int (jI 0)), (0, .ref (xA X 47)), (1, .ref (xA X a1))] E.1 hl dX6_takeDigits_26 rfl (by decide) rfl rfl (fun ls hl => ?_)
    obtain ⟨n12, h⟩ := h
    exact v_X6_takeDigits_27 a1 ha1 E Q n12 _ _ _ _ _ h hW (lv_sub hl [1, 2, 0] rfl)
/-! StickerPress$Stripes.drawBars(LStickerPress$Row;LStickerPress$Row;)I -/
theorem dX6_drawBars_0 : decode cX6_drawBars 0 = .ok (.aload_n 1, 1) := by decide +kernel
theorem dX6_drawBars_1 : decode cX6_drawBars 1 = .ok (.invokevirtual 49, 3) := by decide +kernel
theorem dX6_drawBars_4 : decode cX6_drawBars 4 = .ok (.iconst 1, 1) := by decide +kernel
theorem dX6_drawBars_5 : decode cX6_drawBars 5 = .ok (.if_icmp .lt 23, 3) := by decide +kernel
theorem dX6_drawBars_8 : decode cX6_drawBars 8 = .ok (.aload_n 1, 1) := by decide +kernel
theorem dX6_drawBars_9 : decode cX6_drawBars 9 = .ok (.invokevirtual 49, 3) := by decide +kernel
theorem dX6_drawBars_12 : decode cX6_drawBars 12 = .ok (.bipush 11, 2) := by decide +kernel
theorem dX6_drawBars_14 : decode cX6_drawBars 14 = .ok (.if_icmp .gt 14, 3) := by decide +kernel
theorem dX6_drawBars_17 : decode cX6_drawBars 17 = .ok (.aload_n 1, 1) := by decide +kernel
theorem dX6_drawBars_18 : decode cX6_drawBars 18 = .ok (.bipush 48, 2) := by decide +kernel
theorem dX6_drawBars_20 : decode cX6_drawBars 20 = .ok (.bipush 57, 2) := by decide +kernel
theorem dX6_drawBars_22 : decode cX6_drawBars 22 = .ok (.invokevirtual 53, 3) := by decide +kernel
theorem dX6_drawBars_25 : decode cX6_drawBars 25 = .ok (.ifCond .ne 5, 3) := by decide +kernel
theorem dX6_drawBars_28 : decode cX6_drawBars 28 = .ok (.iconst (-1), 1) := by decide +kernel
theorem dX6_drawBars_29 : decode cX6_drawBars 29 = .ok (.ireturn, 1) := by decide +kernel
theorem dX6_drawBars_30 : decode cX6_drawBars 30 = .ok (.aload_n 0, 1) := by decide +kernel
theorem dX6_drawBars_31 : decode cX6_drawBars 31 = .ok (.aload_n 1, 1) := by decide +kernel
theorem dX6_drawBars_32 : decode cX6_drawBars 32 = .ok (.invokevirtual 57, 3) := by decide +kernel
theorem dX6_drawBars_35 : decode cX6_drawBars 35 = .ok (.aload_n 2, 1) := by decide +kernel
theorem dX6_drawBars_36 : decode cX6_drawBars 36 = .ok (.invokevirtual 61, 3) := by decide +kernel
theorem dX6_drawBars_39 : decode cX6_drawBars 39 = .ok (.iconst 0, 1) := by decide +kernel
theorem dX6_drawBars_40 : decode cX6_drawBars 40 = .ok (.istore_n 3, 1) := by decide +kernel
theorem dX6_drawBars_41 : decode cX6_drawBars 41 = .ok (.iload_n 3, 1) := by decide +kernel
theorem dX6_drawBars_42 : decode cX6_drawBars 42 = .ok (.iconst 4, 1) := by decide +kernel
theorem dX6_drawBars_43 : decode cX6_drawBars 43 = .ok (.if_icmp .ge 15, 3) := by decide +kernel
theorem dX6_drawBars_46 : decode cX6_drawBars 46 = .ok (.aload_n 2, 1) := by decide +kernel
theorem dX6_drawBars_47 : decode cX6_drawBars 47 = .ok (.iconst 1, 1) := by decide +kernel
theorem dX6_drawBars_48 : decode cX6_drawBars 48 = .ok (.invokevirtual 64, 3) := by decide +kernel
theorem dX6_drawBars_51 : decode cX6_drawBars 51 = .ok (.pop, 1) := by decide +kernel
theorem dX6_drawBars_52 : decode cX6_drawBars 52 = .ok (.iinc 3 1, 3) := by decide +kernel
theorem dX6_drawBars_55 : decode cX6_drawBars 55 = .ok (.goto (-14), 3) := by decide +kernel
theorem dX6_drawBars_58 : decode cX6_drawBars 58 = .ok (.iconst 0, 1) := by decide +kernel
theorem dX6_drawBars_59 : decode cX6_drawBars 59 = .ok (.istore_n 3, 1) := by decide +kernel
theorem dX6_drawBars_60 : decode cX6_drawBars 60 = .ok (.iload_n 3, 1) := by decide +kernel
theorem dX6_drawBars_61 : decode cX6_drawBars 61 = .ok (.aload_n 0, 1) := by decide +kernel
theorem dX6_drawBars_62 : decode cX6_drawBars 62 = .ok (.getfield 14, 3) := by decide +kernel
theorem dX6_drawBars_65 : decode cX6_drawBars 65 = .ok (.invokevirtual 49, 3) := by decide +kernel
theorem dX6_drawBars_68 : decode cX6_drawBars 68 = .ok (.if_icmp .ge 38, 3) := by decide +kernel
theorem dX6_drawBars_71 : decode cX6_drawBars 71 = .ok (.aload_n 0, 1) := by decide +kernel
theorem dX6_drawBars_72 : decode cX6_drawBars 72 = .ok (.aload_n 0, 1) := by decide +kernel
theorem dX6_drawBars_73 : decode cX6_drawBars 73 = .ok (.getfield 14, 3) := by decide +kernel
theorem dX6_drawBars_76 : decode cX6_drawBars 76 = .ok (.iload_n 3, 1) := by decide +kernel
theorem dX6_drawBars_77 : decode cX6_drawBars 77 = .ok (.invokevirtual 68, 3) := by decide +kernel
theorem dX6_drawBars_80 : decode cX6_drawBars 80 = .ok (.invokestatic 72, 3) := by decide +kernel
theorem dX6_drawBars_83 : decode cX6_drawBars 83 = .ok (.aload_n 0, 1) := by decide +kernel
theorem dX6_drawBars_84 : decode cX6_drawBars 84 = .ok (.getfield 14, 3) := by decide +kernel
theorem dX6_drawBars_87 : decode cX6_drawBars 87 = .ok (.iload_n 3, 1) := by decide +kernel
theorem dX6_drawBars_88 : decode cX6_drawBars 88 = .ok (.iconst 1, 1) := by decide +kernel
theorem dX6_drawBars_89 : decode cX6_drawBars 89 = .ok (.iadd, 1) := by decide +kernel
theorem dX6_drawBars_90 : decode cX6_drawBars 90 = .ok (.invokevirtual 68, 3) := by decide +kernel
theorem dX6_drawBars_93 : decode cX6_drawBars 93 = .ok (.invokestatic 72, 3) := by decide +kernel
theorem dX6_drawBars_96 : decode cX6_drawBars 96 = .ok (.aload_n 2, 1) := by decide +kernel
theorem dX6_drawBars_97 : decode cX6_drawBars 97 = .ok (.invokevirtual 75, 3) := by decide +kernel
theorem dX6_drawBars_100 : decode cX6_drawBars 100 = .ok (.iinc 3 2, 3) := by decide +kernel
theorem dX6_drawBars_103 : decode cX6_drawBars 103 = .ok (.goto (-43), 3) := by decide +kernel
theorem dX6_drawBars_106 : decode cX6_drawBars 106 = .ok (.aload_n 2, 1) := by decide +kernel
theorem dX6_drawBars_107 : decode cX6_drawBars 107 = .ok (.aload_n 0, 1) := by decide +kernel
theorem dX6_drawBars_108 : decode cX6_drawBars 108 = .ok (.getfield 35, 3) := by decide +kernel
theorem dX6_drawBars_111 : decode cX6_drawBars 111 = .ok (.invokevirtual 64, 3) := by decide +kernel
theorem dX6_drawBars_114 : decode cX6_drawBars 114 = .ok (.pop, 1) := by decide +kernel
theorem dX6_drawBars_115 : decode cX6_drawBars 115 = .ok (.aload_n 2, 1) := by decide +kernel
theorem dX6_drawBars_116 : decode cX6_drawBars 116 = .ok (.iconst 1, 1) := by decide +kernel
theorem dX6_drawBars_117 : decode cX6_drawBars 117 = .ok (.invokevirtual 64, 3) := by decide +kernel
theorem dX6_drawBars_120 : decode cX6_drawBars 120 = .ok (.pop, 1) := by decide +kernel
theorem dX6_drawBars_121 : decode cX6_drawBars 121 = .ok (.aload_n 2, 1) := by decide +kernel
theorem dX6_drawBars_122 : decode cX6_drawBars 122 = .ok (.iconst 1, 1) := by decide +kernel
theorem dX6_drawBars_123 : decode cX6_drawBars 123 = .ok (.invokevirtual 64, 3) := by decide +kernel
theorem dX6_drawBars_126 : decode cX6_drawBars 126 = .ok (.pop, 1) := by decide +kernel
theorem dX6_drawBars_127 : decode cX6_drawBars 127 = .ok (.aload_n 2, 1) := by decide +kernel
theorem dX6_drawBars_128 : decode cX6_drawBars 128 = .ok (.invokevirtual 49, 3) := by decide +kernel
theorem dX6_drawBars_131 : decode cX6_drawBars 131 = .ok (.ireturn, 1) := by decide +kernel
theorem Y_RX6_53 : YV RX6 53 RX4 yX4_allWithin cX4_allWithin 4 (some .boolean) 2 := ⟨w318, w405, w316, w317, w44, by decide +kernel, by decide⟩
theorem Y_RX6_57 : YV RX6 57 RX6 yX6_takeDigits cX6_takeDigits 3 none 1 := ⟨w409, w406, w408, w5, w47, by decide +kernel, by decide⟩
theorem Y_RX6_72 : YS RX6 72 yX6_codeOf cX6_codeOf 1 (some .int) 1 := ⟨w418, w416, w417, w47, by decide +kernel, by decide⟩
theorem Y_RX6_75 : YV RX6 75 RX6 yX6_drawPair cX6_drawPair 5 none 3 := ⟨w424, w421, w423, w6, w47, by decide +kernel, by decide⟩
def wp_X6_drawBars_60 (a1 : Nat) (a2 : Nat) (Q : Int → Mem → Prop) : Nat → Int → Mem → Prop
  | 0, _, _ => False
  | n + 1, x3, M => wp_X4_size 32 M (fun r2 M1 => (Rg x3 ∧ Rg r2 ∧ (r2 ≤ x3 → wp_X4_add a2 (M1 47 4) M1 (fun r9 M8 => wp_X4_add a2 1 M8 (fun r11 M10 => wp_X4_add a2 1 M10 (fun r13 M12 => wp_X4_size a2 M12 (fun r15 M14 => Q r15 M14))))) ∧ (¬ (r2 ≤ x3) → wp_X4_at 32 x3 M1 (fun r17 M16 => wp_X6_codeOf r17 M16 (fun r19 M18 => wp_X4_at 32 (x3 + 1) M18 (fun r21 M20 => wp_X6_codeOf r21 M20 (fun r23 M22 => wp_X6_drawPair r19 r23 a2 M22 (fun M24 => wp_X6_drawBars_60 a1 a2 Q n (x3 + 2) M24))))))))
set_option maxHeartbeats 4000000 in
set_option maxRecDepth 100000 in
theorem v_X6_drawBars_60 (a1 : Nat) (a2 : Nat) (ha1 : isRow a1) (ha2 : isRow a2) (E : En X (AW X) 3 p R s m args meth c cX6_drawBars RX6 4 (some .int) 0 0) (Q : Int → Mem → Prop) : ∀ n : Nat, ∀ (x3 : Int) (M : Mem) (H : Heap) (locs : List Loc) (ls : Array Slot), wp_X6_drawBars_60 a1 a2 Q n x3 M → Wd X (AW X) s M H locs → lv_has ls 4 [(0, .ref (xA X 47)), (2, .ref (xA X a2)), (3, .int (jI x3))] → W p l e R s m args below meth c H locs 0 0 (MQ below (QI X Q) args s 0 0 (AW X)) (F0 m 60 ls []) := by
  intro n
  induction n with
  | zero => intro x3 M H locs ls h; exact absurd h (by simp [wp_X6_drawBars_60])
  | succ n ih =>
    intro x3 M H locs ls h hW hl
    rw [wp_X6_drawBars_60] at h
    refine q_iload_n (n := 61) (q := 2) E.1 hl rfl dX6_drawBars_60 rfl rfl ?_
    refine q_aload_n (n := 62) (q := 0) E.1 hl rfl dX6_drawBars_61 rfl rfl ?_
    refine q_get (n := 65) (k := 0) (fs := (fs47 X)) (v := .ref (xA X 32)) E hW (by decide) (fun _ => rfl) K6 (by decide) w143 rfl rfl dX6_drawBars_62 rfl ?_
    refine q_callVi (n := 68) (fs := (fsRow X 32)) [] E hW hl.1 (isRow_lt (by decide)) (ent_row X (by decide)) K4 (c_X4_size l X E.2.2.1.1 32 (by decide) _ _ h) (by decide) Y_RX6_49 rfl (rest := [.int (jI x3)]) rfl (Nat.le_of_ble_eq_true rfl) dX6_drawBars_65 rfl (fun r2 M1 H locs h hW => ?_)
    obtain ⟨g3, g4, h5, h6⟩ := h
    refine q_icmp_ge (t := 106) (n := 71) E.1 g3 g4 dX6_drawBars_68 (by decide) rfl (fun c7 => ?_) (fun c7 => ?_)
    · have h := h5 c7
      refine q_aload_n (n := 107) (q := 1) E.1 hl rfl dX6_drawBars_106 rfl rfl ?_
      refine q_aload_n (n := 108) (q := 0) E.1 hl rfl dX6_drawBars_107 rfl rfl ?_
      refine q_get (n := 111) (k := 4) (fs := (fs47 X)) (v := .int (jI (M1 47 4))) E hW (by decide) (fun _ => rfl) K6 (by decide) w147 rfl rfl dX6_drawBars_108 rfl ?_
      refine q_callVi (n := 114) (fs := (fsRow X a2)) [.int (jI (M1 47 4))] E hW hl.1 (isRow_lt ha2) (ent_row X ha2) K4 (c_X4_add l X E.2.2.1.1 a2 (M1 47 4) ha2 _ _ h) (by decide) Y_RX6_64 rfl (rest := []) rfl (Nat.le_of_ble_eq_true rfl) dX6_drawBars_111 rfl (fun r9 M8 H locs h hW => ?_)
      refine q_pop (n := 115) E.1 dX6_drawBars_114 rfl rfl ?_
      refine q_aload_n (n := 116) (q := 1) E.1 hl rfl dX6_drawBars_115 rfl rfl ?_
      refine q_iconst (n := 117) E.1 dX6_drawBars_116 rfl ?_
      refine q_callVi (n := 120) (fs := (fsRow X a2)) [.int (jI 1)] E hW hl.1 (isRow_lt ha2) (ent_row X ha2) K4 (c_X4_add l X E.2.2.1.1 a2 1 ha2 _ _ h) (by decide) Y_RX6_64 rfl (rest := []) rfl (Nat.le_of_ble_eq_true rfl) dX6_drawBars_117 rfl (fun r11 M10 H locs h hW => ?_)
      refine q_pop (n := 121) E.1 dX6_drawBars_120 rfl rfl ?_
      refine q_aload_n (n := 122) (q := 1) E.1 hl rfl dX6_drawBars_121 rfl rfl ?_
      refine q_iconst (n := 123) E.1 dX6_drawBars_122 rfl ?_
      refine q_callVi (n := 126) (fs := (fsRow X a2)) [.int (jI 1)] E hW hl.1 (isRow_lt ha2) (ent_row X ha2) K4 (c_X4_add l X E.2.2.1.1 a2 1 ha2 _ _ h) (by decide) Y_RX6_64 rfl (rest := []) rfl (Nat.le_of_ble_eq_true rfl) dX6_drawBars_123 rfl (fun r13 M12 H locs h hW => ?_)
      refine q_pop (n := 127) E.1 dX6_drawBars_126 rfl rfl ?_
      refine q_aload_n (n := 128) (q := 1) E.1 hl rfl dX6_drawBars_127 rfl rfl ?_
      refine q_callVi (n := 131) (fs := (fsRow X a2)) [] E hW hl.1 (isRow_lt ha2) (ent_row X ha2) K4 (c_X4_size l X E.2.2.1.1 a2 ha2 _ _ h) (by decide) Y_RX6_49 rfl (rest := []) rfl (Nat.le_of_ble_eq_true rfl) dX6_drawBars_128 rfl (fun r15 M14 H locs h hW => ?_)
      exact q_iret E hW h dX6_drawBars_131
    · have h := h6 c7
      refine q_aload_n (n := 72) (q := 0) E.1 hl rfl dX6_drawBars_71 rfl rfl ?_
      refine q_aload_n (n := 73) (q := 0) E.1 hl rfl dX6_drawBars_72 rfl rfl ?_
      refine q_get (n := 76) (k := 0) (fs := (fs47 X)) (v := .ref (xA X 32)) E hW (by decide) (fun _ => rfl) K6 (by decide) w143 rfl rfl dX6_drawBars_73 rfl ?_
      refine q_iload_n (n := 77) (q := 2) E.1 hl rfl dX6_drawBars_76 rfl rfl ?_
      refine q_callVi (n := 80) (fs := (fsRow X 32)) [.int (jI x3)] E hW hl.1 (isRow_lt (by decide)) (ent_row X (by decide)) K4 (c_X4_at l X E.2.2.1.1 32 x3 (by decide) _ _ h) (by decide) Y_RX6_68 rfl (rest := [.ref (xA X 47)]) rfl (Nat.le_of_ble_eq_true rfl) dX6_drawBars_77 rfl (fun r17 M16 H locs h hW => ?_)
      refine q_callSi (n := 83) [.int (jI r17)] E hW hl.1 (c_X6_codeOf l X E.2.2.1.1 r17  _ _ h) (by decide) Y_RX6_72 rfl (rest := [.ref (xA X 47)]) rfl (Nat.le_of_ble_eq_true rfl) dX6_drawBars_80 rfl (fun r19 M18 H locs h hW => ?_)
      refine q_aload_n (n := 84) (q := 0) E.1 hl rfl dX6_drawBars_83 rfl rfl ?_
      refine q_get (n := 87) (k := 0) (fs := (fs47 X)) (v := .ref (xA X 32)) E hW (by decide) (fun _ => rfl) K6 (by decide) w143 rfl rfl dX6_drawBars_84 rfl ?_
      refine q_iload_n (n := 88) (q := 2) E.1 hl rfl dX6_drawBars_87 rfl rfl ?_
      refine q_iconst (n := 89) E.1 dX6_drawBars_88 rfl ?_
      refine q_iadd (n := 90) E.1 dX6_drawBars_89 rfl ?_
      refine q_callVi (n := 93) (fs := (fsRow X 32)) [.int (jI (x3 + 1))] E hW hl.1 (isRow_lt (by decide)) (ent_row X (by decide)) K4 (c_X4_at l X E.2.2.1.1 32 (x3 + 1) (by decide) _ _ h) (by decide) Y_RX6_68 rfl (rest := [.int (jI r19), .ref (xA X 47)]) rfl (Nat.le_of_ble_eq_true rfl) dX6_drawBars_90 rfl (fun r21 M20 H locs h hW => ?_)
      refine q_callSi (n := 96) [.int (jI r21)] E hW hl.1 (c_X6_codeOf l X E.2.2.1.1 r21  _ _ h) (by decide) Y_RX6_72 rfl (rest := [.int (jI r19), .ref (xA X 47)]) rfl (Nat.le_of_ble_eq_true rfl) dX6_drawBars_93 rfl (fun r23 M22 H locs h hW => ?_)
      refine q_aload_n (n := 97) (q := 1) E.1 hl rfl dX6_drawBars_96 rfl rfl ?_
      refine q_callVv (n := 100) (fs := (fs47 X)) [.int (jI r19), .int (jI r23), .ref (xA X a2)] E hW hl.1 (by decide) (fun _ => rfl) K6 (c_X6_drawPair l X E.2.2.1.1 r19 r23 a2 ha2 _ _ h) (by decide) Y_RX6_75 rfl (rest := []) rfl (Nat.le_of_ble_eq_true rfl) dX6_drawBars_97 rfl (fun M24 H locs h hW => ?_)
      refine q_iinc (n := 103) (q := 2) [(3, .int (jI (x3 + 2))), (0, .ref (xA X 47)), (2, .ref (xA X a2))] E.1 hl rfl dX6_drawBars_100 (by decide) rfl rfl (fun ls hl => ?_)
      refine q_goto (n := 60) E.1 dX6_drawBars_103 (by decide) ?_
      exact ih _ _ _ _ _ h hW (lv_sub hl [1, 2, 0] rfl)
def wp_X6_drawBars_41 (a1 : Nat) (a2 : Nat) (Q : Int → Mem → Prop) : Nat → Int → Mem → Prop
  | 0, _, _ => False
  | n + 1, x3, M => (Rg x3 ∧ (4 ≤ x3 → (∃ n2 : Nat, wp_X6_drawBars_60 a1 a2 Q n2 0 M)) ∧ (¬ (4 ≤ x3) → wp_X4_add a2 1 M (fun r7 M6 => wp_X6_drawBars_41 a1 a2 Q n (x3 + 1) M6)))
set_option maxHeartbeats 4000000 in
set_option maxRecDepth 100000 in
theorem v_X6_drawBars_41 (a1 : Nat) (a2 : Nat) (ha1 : isRow a1) (ha2 : isRow a2) (E : En X (AW X) 3 p R s m args meth c cX6_drawBars RX6 4 (some .int) 0 0) (Q : Int → Mem → Prop) : ∀ n : Nat, ∀ (x3 : Int) (M : Mem) (H : Heap) (locs : List Loc) (ls : Array Slot), wp_X6_drawBars_41 a1 a2 Q n x3 M → Wd X (AW X) s M H locs → lv_has ls 4 [(0, .ref (xA X 47)), (2, .ref (xA X a2)), (3, .int (jI x3))] → W p l e R s m args below meth c H locs 0 0 (MQ below (QI X Q) args s 0 0 (AW X)) (F0 m 41 ls []) := by
  intro n
  induction n with
  | zero => intro x3 M H locs ls h; exact absurd h (by simp [wp_X6_drawBars_41])
  | succ n ih =>
    intro x3 M H locs ls h hW hl
    rw [wp_X6_drawBars_41] at h
    refine q_iload_n (n := 42) (q := 2) E.1 hl rfl dX6_drawBars_41 rfl rfl ?_
    refine q_iconst (n := 43) E.1 dX6_drawBars_42 rfl ?_
    obtain ⟨g1, h2, h3⟩ := h
    refine q_icmp_ge (t := 58) (n := 46) E.1 g1 (by decide) dX6_drawBars_43 (by decide) rfl (fun c4 => ?_) (fun c4 => ?_)
    · have h := h2 c4
      refine q_iconst (n := 59) E.1 dX6_drawBars_58 rfl ?_
      refine q_istore_n (n := 60) [(3, .int (jI 0)), (0, .ref (xA X 47)), (2, .ref (xA X a2))] E.1 hl dX6_drawBars_59 rfl (by decide) rfl rfl (fun ls hl => ?_)
      obtain ⟨n5, h⟩ := h
      exact v_X6_drawBars_60 a1 a2 ha1 ha2 E Q n5 _ _ _ _ _ h hW (lv_sub hl [1, 2, 0] rfl)
    · have h := h3 c4
      refine q_aload_n (n := 47) (q := 1) E.1 hl rfl dX6_drawBars_46 rfl rfl ?_
      refine q_iconst (n := 48) E.1 dX6_drawBars_47 rfl ?_
      refine q_callVi (n := 51) (fs := (fsRow X a2)) [.int (jI 1)] E hW hl.1 (isRow_lt ha2) (ent_row X ha2) K4 (c_X4_add l X E.2.2.1.1 a2 1 ha2 _ _ h) (by decide) Y_RX6_64 rfl (rest := []) rfl (Nat.le_of_ble_eq_true rfl) dX6_drawBars_48 rfl (fun r7 M6 H locs h hW => ?_)
      refine q_pop (n := 52) E.1 dX6_drawBars_51 rfl rfl ?_
      refine q_iinc (n := 55) (q := 2) [(3, .int (jI (x3 + 1))), (0, .ref (xA X 47)), (2, .ref (xA X a2))] E.1 hl rfl dX6_drawBars_52 (by decide) rfl rfl (fun ls hl => ?_)
      refine q_goto (n := 41) E.1 dX6_drawBars_55 (by decide) ?_
      exact ih _ _ _ _ _ h hW (lv_sub hl [1, 2, 0] rfl)
def wp_X6_drawBars (a1 : Nat) (a2 : Nat) (M : Mem) (Q : Int → Mem → Prop) : Prop := wp_X4_size a1 M (fun r2 M1 => (Rg r2 ∧ (r2 < 1 → Q (-1) M1) ∧ (¬ (r2 < 1) → wp_X4_size a1 M1 (fun r8 M7 => (Rg r8 ∧ (11 < r8 → Q (-1) M7) ∧ (¬ (11 < r8) → wp_X4_allWithin a1 48 57 M7 (fun r14 M13 => (Rg r14 ∧ (r14 ≠ 0 → wp_X6_takeDigits a1 M13 (fun M19 => wp_X4_clear a2 M19 (fun M20 => (∃ n : Nat, wp_X6_drawBars_41 a1 a2 Q n 0 M20)))) ∧ (¬ (r14 ≠ 0) → Q (-1) M13)))))))))
set_option maxHeartbeats 4000000 in
set_option maxRecDepth 100000 in
theorem c_X6_drawBars (l : Launch) (X : Cx) (hI : Inj X) (a1 : Nat) (a2 : Nat) (ha1 : isRow a1) (ha2 : isRow a2) (M : Mem) (Q : Int → Mem → Prop) (h : wp_X6_drawBars a1 a2 M Q) : MI X l yX6_drawBars cX6_drawBars 4 (some .int) 3 [.ref (xA X 47), .ref (xA X a1), .ref (xA X a2)] M Q := by
  refine MI.of hI (by decide) (Nat.le_of_ble_eq_true rfl) ?_
  intro p e R s m args below meth c ls E hW hl
  have E : En X (AW X) 3 p R s m args meth c cX6_drawBars RX6 4 (some .int) 0 0 := E
  have hl : lv_has ls 4 [(0, .ref (xA X 47)), (1, .ref (xA X a1)), (2, .ref (xA X a2))] := hl
  unfold wp_X6_drawBars at h
  refine q_aload_n (n := 1) (q := 1) E.1 hl rfl dX6_drawBars_0 rfl rfl ?_
  refine q_callVi (n := 4) (fs := (fsRow X a1)) [] E hW hl.1 (isRow_lt ha1) (ent_row X ha1) K4 (c_X4_size l X E.2.2.1.1 a1 ha1 _ _ h) (by decide) Y_RX6_49 rfl (rest := []) rfl (Nat.le_of_ble_eq_true rfl) dX6_drawBars_1 rfl (fun r2 M1 H locs h hW => ?_)
  refine q_iconst (n := 5) E.1 dX6_drawBars_4 rfl ?_
  obtain ⟨g3, h4, h5⟩ := h
  refine q_icmp_lt (t := 28) (n := 8) E.1 g3 (by decide) dX6_drawBars_5 (by decide) rfl (fun c6 => ?_) (fun c6 => ?_)
  · have h := h4 c6
    refine q_iconst (n := 29) E.1 dX6_drawBars_28 rfl ?_
    exact q_iret E hW h dX6_drawBars_29
  · have h := h5 c6
    refine q_aload_n (n := 9) (q := 1) E.1 hl rfl dX6_drawBars_8 rfl rfl ?_
    refine q_callVi (n := 12) (fs := (fsRow X a1)) [] E hW hl.1 (isRow_lt ha1) (ent_row X ha1) K4 (c_X4_size l X E.2.2.1.1 a1 ha1 _ _ h) (by decide) Y_RX6_49 rfl (rest := []) rfl (Nat.le_of_ble_eq_true rfl) dX6_drawBars_9 rfl (fun r8 M7 H locs h hW => ?_)
    refine q_bipush (n := 14) E.1 dX6_drawBars_12 (by decide) rfl ?_
    obtain ⟨g9, h10, h11⟩ := h
    refine q_icmp_gt (t := 28) (n := 17) E.1 g9 (by decide) dX6_drawBars_14 (by decide) rfl (fun c12 => ?_) (fun c12 => ?_)
    · have h := h10 c12
      refine q_iconst (n := 29) E.1 dX6_drawBars_28 rfl ?_
      exact q_iret E hW h dX6_drawBars_29
    · have h := h11 c12
      refine q_aload_n (n := 18) (q := 1) E.1 hl rfl dX6_drawBars_17 rfl rfl ?_
      refine q_bipush (n := 20) E.1 dX6_drawBars_18 (by decide) rfl ?_
      refine q_bipush (n := 22) E.1 dX6_drawBars_20 (by decide) rfl ?_
      refine q_callVi (n := 25) (fs := (fsRow X a1)) [.int (jI 48), .int (jI 57)] E hW hl.1 (isRow_lt ha1) (ent_row X ha1) K4 (c_X4_allWithin l X E.2.2.1.1 a1 48 57 ha1 _ _ h) (by decide) Y_RX6_53 rfl (rest := []) rfl (Nat.le_of_ble_eq_true rfl) dX6_drawBars_22 rfl (fun r14 M13 H locs h hW => ?_)
      obtain ⟨g15, h16, h17⟩ := h
      refine q_if_ne (t := 30) (n := 28) E.1 g15 dX6_drawBars_25 (by decide) rfl (fun c18 => ?_) (fun c18 => ?_)
      · have h := h16 c18
        refine q_aload_n (n := 31) (q := 0) E.1 hl rfl dX6_drawBars_30 rfl rfl ?_
        refine q_aload_n (n := 32) (q := 1) E.1 hl rfl dX6_drawBars_31 rfl rfl ?_
        refine q_callVv (n := 35) (fs := (fs47 X)) [.ref (xA X a1)] E hW hl.1 (by decide) (fun _ => rfl) K6 (c_X6_takeDigits l X E.2.2.1.1 a1 ha1 _ _ h) (by decide) Y_RX6_57 rfl (rest := []) rfl (Nat.le_of_ble_eq_true rfl) dX6_drawBars_32 rfl (fun M19 H locs h hW => ?_)
        refine q_aload_n (n := 36) (q := 2) E.1 hl rfl dX6_drawBars_35 rfl rfl ?_
        refine q_callVv (n := 39) (fs := (fsRow X a2)) [] E hW hl.1 (isRow_lt ha2) (ent_row X ha2) K4 (c_X4_clear l X E.2.2.1.1 a2 ha2 _ _ h) (by decide) Y_RX6_61 rfl (rest := []) rfl (Nat.le_of_ble_eq_true rfl) dX6_drawBars_36 rfl (fun M20 H locs h hW => ?_)
        refine q_iconst (n := 40) E.1 dX6_drawBars_39 rfl ?_
        refine q_istore_n (n := 41) [(3, .int (jI 0)), (0, .ref (xA X 47)), (1, .ref (xA X a1)), (2, .ref (xA X a2))] E.1 hl dX6_drawBars_40 rfl (by decide) rfl rfl (fun ls hl => ?_)
        obtain ⟨n21, h⟩ := h
        exact v_X6_drawBars_41 a1 a2 ha1 ha2 E Q n21 _ _ _ _ _ h hW (lv_sub hl [1, 3, 0] rfl)
      · have h := h17 c18
        refine q_iconst (n := 29) E.1 dX6_drawBars_28 rfl ?_
        exact q_iret E hW h dX6_drawBars_29
/-! StickerPress$Stripes.canBeBars(LStickerPress$Row;)Z -/
theorem dX6_canBeBars_0 : decode cX6_canBeBars 0 = .ok (.aload_n 0, 1) := by decide +kernel
theorem dX6_canBeBars_1 : decode cX6_canBeBars 1 = .ok (.invokevirtual 49, 3) := by decide +kernel
theorem dX6_canBeBars_4 : decode cX6_canBeBars 4 = .ok (.iconst 4, 1) := by decide +kernel
theorem dX6_canBeBars_5 : decode cX6_canBeBars 5 = .ok (.isub, 1) := by decide +kernel
theorem dX6_canBeBars_6 : decode cX6_canBeBars 6 = .ok (.iconst 3, 1) := by decide +kernel
theorem dX6_canBeBars_7 : decode cX6_canBeBars 7 = .ok (.isub, 1) := by decide +kernel
theorem dX6_canBeBars_8 : decode cX6_canBeBars 8 = .ok (.istore_n 1, 1) := by decide +kernel
theorem dX6_canBeBars_9 : decode cX6_canBeBars 9 = .ok (.iload_n 1, 1) := by decide +kernel
theorem dX6_canBeBars_10 : decode cX6_canBeBars 10 = .ok (.bipush 10, 2) := by decide +kernel
theorem dX6_canBeBars_12 : decode cX6_canBeBars 12 = .ok (.if_icmp .lt 30, 3) := by decide +kernel
theorem dX6_canBeBars_15 : decode cX6_canBeBars 15 = .ok (.iload_n 1, 1) := by decide +kernel
theorem dX6_canBeBars_16 : decode cX6_canBeBars 16 = .ok (.bipush 60, 2) := by decide +kernel
theorem dX6_canBeBars_18 : decode cX6_canBeBars 18 = .ok (.if_icmp .gt 24, 3) := by decide +kernel
theorem dX6_canBeBars_21 : decode cX6_canBeBars 21 = .ok (.iload_n 1, 1) := by decide +kernel
theorem dX6_canBeBars_22 : decode cX6_canBeBars 22 = .ok (.bipush 10, 2) := by decide +kernel
theorem dX6_canBeBars_24 : decode cX6_canBeBars 24 = .ok (.irem, 1) := by decide +kernel
theorem dX6_canBeBars_25 : decode cX6_canBeBars 25 = .ok (.ifCond .ne 17, 3) := by decide +kernel
theorem dX6_canBeBars_28 : decode cX6_canBeBars 28 = .ok (.aload_n 0, 1) := by decide +kernel
theorem dX6_canBeBars_29 : decode cX6_canBeBars 29 = .ok (.iconst 1, 1) := by decide +kernel
theorem dX6_canBeBars_30 : decode cX6_canBeBars 30 = .ok (.bipush 99, 2) := by decide +kernel
theorem dX6_canBeBars_32 : decode cX6_canBeBars 32 = .ok (.invokevirtual 53, 3) := by decide +kernel
theorem dX6_canBeBars_35 : decode cX6_canBeBars 35 = .ok (.ifCond .eq 7, 3) := by decide +kernel
theorem dX6_canBeBars_38 : decode cX6_canBeBars 38 = .ok (.iconst 1, 1) := by decide +kernel
theorem dX6_canBeBars_39 : decode cX6_canBeBars 39 = .ok (.goto 4, 3) := by decide +kernel
theorem dX6_canBeBars_42 : decode cX6_canBeBars 42 = .ok (.iconst 0, 1) := by decide +kernel
theorem dX6_canBeBars_43 : decode cX6_canBeBars 43 = .ok (.ireturn, 1) := by decide +kernel
def wp_X6_canBeBars (a0 : Nat) (M : Mem) (Q : Int → Mem → Prop) : Prop := wp_X4_size a0 M (fun r2 M1 => (Rg ((r2 - 4) - 3) ∧ (((r2 - 4) - 3) < 10 → Q 0 M1) ∧ (¬ (((r2 - 4) - 3) < 10) → (Rg ((r2 - 4) - 3) ∧ (60 < ((r2 - 4) - 3) → Q 0 M1) ∧ (¬ (60 < ((r2 - 4) - 3)) → (Rg ((r2 - 4) - 3) ∧ 0 ≤ ((r2 - 4) - 3)) ∧ (Rg (((r2 - 4) - 3) % 10) ∧ ((((r2 - 4) - 3) % 10) ≠ 0 → Q 0 M1) ∧ (¬ ((((r2 - 4) - 3) % 10) ≠ 0) → wp_X4_allWithin a0 1 99 M1 (fun r17 M16 => (Rg r17 ∧ (r17 = 0 → Q 0 M16) ∧ (¬ (r17 = 0) → Q 1 M16))))))))))
set_option maxHeartbeats 4000000 in
set_option maxRecDepth 100000 in
theorem c_X6_canBeBars (l : Launch) (X : Cx) (hI : Inj X) (a0 : Nat) (ha0 : isRow a0) (M : Mem) (Q : Int → Mem → Prop) (h : wp_X6_canBeBars a0 M Q) : MI X l yX6_canBeBars cX6_canBeBars 2 (some .boolean) 2 [.ref (xA X a0)] M Q := by
  refine MI.of hI (by decide) (Nat.le_of_ble_eq_true rfl) ?_
  intro p e R s m args below meth c ls E hW hl
  have E : En X (AW X) 2 p R s m args meth c cX6_canBeBars RX6 2 (some .boolean) 0 0 := E
  have hl : lv_has ls 2 [(0, .ref (xA X a0))] := hl
  unfold wp_X6_canBeBars at h
  refine q_aload_n (n := 1) (q := 0) E.1 hl rfl dX6_canBeBars_0 rfl rfl ?_
  refine q_callVi (n := 4) (fs := (fsRow X a0)) [] E hW hl.1 (isRow_lt ha0) (ent_row X ha0) K4 (c_X4_size l X E.2.2.1.1 a0 ha0 _ _ h) (by decide) Y_RX6_49 rfl (rest := []) rfl (Nat.le_of_ble_eq_true rfl) dX6_canBeBars_1 rfl (fun r2 M1 H locs h hW => ?_)
  refine q_iconst (n := 5) E.1 dX6_canBeBars_4 rfl ?_
  refine q_isub (n := 6) E.1 dX6_canBeBars_5 rfl ?_
  refine q_iconst (n := 7) E.1 dX6_canBeBars_6 rfl ?_
  refine q_isub (n := 8) E.1 dX6_canBeBars_7 rfl ?_
  refine q_istore_n (n := 9) [(1, .int (jI ((r2 - 4) - 3))), (0, .ref (xA X a0))] E.1 hl dX6_canBeBars_8 rfl (by decide) rfl rfl (fun ls hl => ?_)
  refine q_iload_n (n := 10) (q := 0) E.1 hl rfl dX6_canBeBars_9 rfl rfl ?_
  refine q_bipush (n := 12) E.1 dX6_canBeBars_10 (by decide) rfl ?_
  obtain ⟨g3, h4, h5⟩ := h
  refine q_icmp_lt (t := 42) (n := 15) E.1 g3 (by decide) dX6_canBeBars_12 (by decide) rfl (fun c6 => ?_) (fun c6 => ?_)
  · have h := h4 c6
    refine q_iconst (n := 43) E.1 dX6_canBeBars_42 rfl ?_
    exact q_zret E hW (Or.inl rfl) h dX6_canBeBars_43
  · have h := h5 c6
    refine q_iload_n (n := 16) (q := 0) E.1 hl rfl dX6_canBeBars_15 rfl rfl ?_
    refine q_bipush (n := 18) E.1 dX6_canBeBars_16 (by decide) rfl ?_
    obtain ⟨g7, h8, h9⟩ := h
    refine q_icmp_gt (t := 42) (n := 21) E.1 g7 (by decide) dX6_canBeBars_18 (by decide) rfl (fun c10 => ?_) (fun c10 => ?_)
    · have h := h8 c10
      refine q_iconst (n := 43) E.1 dX6_canBeBars_42 rfl ?_
      exact q_zret E hW (Or.inl rfl) h dX6_canBeBars_43
    · have h := h9 c10
      refine q_iload_n (n := 22) (q := 0) E.1 hl rfl dX6_canBeBars_21 rfl rfl ?_
      refine q_bipush (n := 24) E.1 dX6_canBeBars_22 (by decide) rfl ?_
      obtain ⟨g11, h⟩ := h
      refine q_irem (n := 25) E.1 g11 (by decide) dX6_canBeBars_24 rfl ?_
      obtain ⟨g12, h13, h14⟩ := h
      refine q_if_ne (t := 42) (n := 28) E.1 g12 dX6_canBeBars_25 (by decide) rfl (fun c15 => ?_) (fun c15 => ?_)
      · have h := h13 c15
        refine q_iconst (n := 43) E.1 dX6_canBeBars_42 rfl ?_
        exact q_zret E hW (Or.inl rfl) h dX6_canBeBars_43
      · have h := h14 c15
        refine q_aload_n (n := 29) (q := 1) E.1 hl rfl dX6_canBeBars_28 rfl rfl ?_
        refine q_iconst (n := 30) E.1 dX6_canBeBars_29 rfl ?_
        refine q_bipush (n := 32) E.1 dX6_canBeBars_30 (by decide) rfl ?_
        refine q_callVi (n := 35) (fs := (fsRow X a0)) [.int (jI 1), .int (jI 99)] E hW hl.1 (isRow_lt ha0) (ent_row X ha0) K4 (c_X4_allWithin l X E.2.2.1.1 a0 1 99 ha0 _ _ h) (by decide) Y_RX6_53 rfl (rest := []) rfl (Nat.le_of_ble_eq_true rfl) dX6_canBeBars_32 rfl (fun r17 M16 H locs h hW => ?_)
        obtain ⟨g18, h19, h20⟩ := h
        refine q_if_eq (t := 42) (n := 38) E.1 g18 dX6_canBeBars_35 (by decide) rfl (fun c21 => ?_) (fun c21 => ?_)
        · have h := h19 c21
          refine q_iconst (n := 43) E.1 dX6_canBeBars_42 rfl ?_
          exact q_zret E hW (Or.inl rfl) h dX6_canBeBars_43
        · have h := h20 c21
          refine q_iconst (n := 39) E.1 dX6_canBeBars_38 rfl ?_
          refine q_goto (n := 43) E.1 dX6_canBeBars_39 (by decide) ?_
          exact q_zret E hW (Or.inr rfl) h dX6_canBeBars_43
/-! StickerPress$Stripes.findWides(LStickerPress$Row;)V -/
theorem dX6_findWides_0 : decode cX6_findWides 0 = .ok (.bipush 99, 2) := by decide +kernel
theorem dX6_findWides_2 : decode cX6_findWides 2 = .ok (.istore_n 2, 1) := by decide +kernel
theorem dX6_findWides_3 : decode cX6_findWides 3 = .ok (.iconst 1, 1) := by decide +kernel
theorem dX6_findWides_4 : decode cX6_findWides 4 = .ok (.istore_n 3, 1) := by decide +kernel
theorem dX6_findWides_5 : decode cX6_findWides 5 = .ok (.iconst 0, 1) := by decide +kernel
theorem dX6_findWides_6 : decode cX6_findWides 6 = .ok (.istore 4, 2) := by decide +kernel
theorem dX6_findWides_8 : decode cX6_findWides 8 = .ok (.iload 4, 2) := by decide +kernel
theorem dX6_findWides_10 : decode cX6_findWides 10 = .ok (.aload_n 1, 1) := by decide +kernel
theorem dX6_findWides_11 : decode cX6_findWides 11 = .ok (.invokevirtual 49, 3) := by decide +kernel
theorem dX6_findWides_14 : decode cX6_findWides 14 = .ok (.if_icmp .ge 31, 3) := by decide +kernel
theorem dX6_findWides_17 : decode cX6_findWides 17 = .ok (.iload_n 2, 1) := by decide +kernel
theorem dX6_findWides_18 : decode cX6_findWides 18 = .ok (.aload_n 1, 1) := by decide +kernel
theorem dX6_findWides_19 : decode cX6_findWides 19 = .ok (.iload 4, 2) := by decide +kernel
theorem dX6_findWides_21 : decode cX6_findWides 21 = .ok (.invokevirtual 68, 3) := by decide +kernel
theorem dX6_findWides_24 : decode cX6_findWides 24 = .ok (.invokestatic 103, 3) := by decide +kernel
theorem dX6_findWides_27 : decode cX6_findWides 27 = .ok (.istore_n 2, 1) := by decide +kernel
theorem dX6_findWides_28 : decode cX6_findWides 28 = .ok (.iload_n 3, 1) := by decide +kernel
theorem dX6_findWides_29 : decode cX6_findWides 29 = .ok (.aload_n 1, 1) := by decide +kernel
theorem dX6_findWides_30 : decode cX6_findWides 30 = .ok (.iload 4, 2) := by decide +kernel
theorem dX6_findWides_32 : decode cX6_findWides 32 = .ok (.invokevirtual 68, 3) := by decide +kernel
theorem dX6_findWides_35 : decode cX6_findWides 35 = .ok (.invokestatic 109, 3) := by decide +kernel
theorem dX6_findWides_38 : decode cX6_findWides 38 = .ok (.istore_n 3, 1) := by decide +kernel
theorem dX6_findWides_39 : decode cX6_findWides 39 = .ok (.iinc 4 1, 3) := by decide +kernel
theorem dX6_findWides_42 : decode cX6_findWides 42 = .ok (.goto (-34), 3) := by decide +kernel
theorem dX6_findWides_45 : decode cX6_findWides 45 = .ok (.aload_n 0, 1) := by decide +kernel
theorem dX6_findWides_46 : decode cX6_findWides 46 = .ok (.getfield 20, 3) := by decide +kernel
theorem dX6_findWides_49 : decode cX6_findWides 49 = .ok (.invokevirtual 61, 3) := by decide +kernel
theorem dX6_findWides_52 : decode cX6_findWides 52 = .ok (.iconst 0, 1) := by decide +kernel
theorem dX6_findWides_53 : decode cX6_findWides 53 = .ok (.istore 4, 2) := by decide +kernel
theorem dX6_findWides_55 : decode cX6_findWides 55 = .ok (.iload 4, 2) := by decide +kernel
theorem dX6_findWides_57 : decode cX6_findWides 57 = .ok (.aload_n 1, 1) := by decide +kernel
theorem dX6_findWides_58 : decode cX6_findWides 58 = .ok (.invokevirtual 49, 3) := by decide +kernel
theorem dX6_findWides_61 : decode cX6_findWides 61 = .ok (.if_icmp .ge 36, 3) := by decide +kernel
theorem dX6_findWides_64 : decode cX6_findWides 64 = .ok (.aload_n 0, 1) := by decide +kernel
theorem dX6_findWides_65 : decode cX6_findWides 65 = .ok (.getfield 20, 3) := by decide +kernel
theorem dX6_findWides_68 : decode cX6_findWides 68 = .ok (.iconst 2, 1) := by decide +kernel
theorem dX6_findWides_69 : decode cX6_findWides 69 = .ok (.aload_n 1, 1) := by decide +kernel
theorem dX6_findWides_70 : decode cX6_findWides 70 = .ok (.iload 4, 2) := by decide +kernel
theorem dX6_findWides_72 : decode cX6_findWides 72 = .ok (.invokevirtual 68, 3) := by decide +kernel
theorem dX6_findWides_75 : decode cX6_findWides 75 = .ok (.imul, 1) := by decide +kernel
theorem dX6_findWides_76 : decode cX6_findWides 76 = .ok (.iload_n 2, 1) := by decide +kernel
theorem dX6_findWides_77 : decode cX6_findWides 77 = .ok (.iload_n 3, 1) := by decide +kernel
theorem dX6_findWides_78 : decode cX6_findWides 78 = .ok (.iadd, 1) := by decide +kernel
theorem dX6_findWides_79 : decode cX6_findWides 79 = .ok (.if_icmp .le 7, 3) := by decide +kernel
theorem dX6_findWides_82 : decode cX6_findWides 82 = .ok (.iconst 1, 1) := by decide +kernel
theorem dX6_findWides_83 : decode cX6_findWides 83 = .ok (.goto 4, 3) := by decide +kernel
theorem dX6_findWides_86 : decode cX6_findWides 86 = .ok (.iconst 0, 1) := by decide +kernel
theorem dX6_findWides_87 : decode cX6_findWides 87 = .ok (.invokevirtual 64, 3) := by decide +kernel
theorem dX6_findWides_90 : decode cX6_findWides 90 = .ok (.pop, 1) := by decide +kernel
theorem dX6_findWides_91 : decode cX6_findWides 91 = .ok (.iinc 4 1, 3) := by decide +kernel
theorem dX6_findWides_94 : decode cX6_findWides 94 = .ok (.goto (-39), 3) := by decide +kernel
theorem dX6_findWides_97 : decode cX6_findWides 97 = .ok (.return_, 1) := by decide +kernel
def wp_X6_findWides_55 (a1 : Nat) (Q : Mem → Prop) : Nat → Int → Int → Int → Mem → Prop
  | 0, _, _, _, _ => False
  | n + 1, x2, x3, x4, M => wp_X4_size a1 M (fun r2 M1 => (Rg x4 ∧ Rg r2 ∧ (r2 ≤ x4 → Q M1) ∧ (¬ (r2 ≤ x4) → wp_X4_at a1 x4 M1 (fun r9 M8 => (Rg (2 * r9) ∧ Rg (x2 + x3) ∧ ((2 * r9) ≤ (x2 + x3) → wp_X4_add 34 0 M8 (fun r16 M15 => wp_X6_findWides_55 a1 Q n x2 x3 (x4 + 1) M15)) ∧ (¬ ((2 * r9) ≤ (x2 + x3)) → wp_X4_add 34 1 M8 (fun r18 M17 => wp_X6_findWides_55 a1 Q n x2 x3 (x4 + 1) M17)))))))
set_option maxHeartbeats 4000000 in
set_option maxRecDepth 100000 in
theorem v_X6_findWides_55 (a1 : Nat) (ha1 : isRow a1) (E : En X (AW X) 1 p R s m args meth c cX6_findWides RX6 5 none 0 0) (Q : Mem → Prop) : ∀ n : Nat, ∀ (x2 x3 x4 : Int) (M : Mem) (H : Heap) (locs : List Loc) (ls : Array Slot), wp_X6_findWides_55 a1 Q n x2 x3 x4 M → Wd X (AW X) s M H locs → lv_has ls 5 [(0, .ref (xA X 47)), (1, .ref (xA X a1)), (2, .int (jI x2)), (3, .int (jI x3)), (4, .int (jI x4))] → W p l e R s m args below meth c H locs 0 0 (MQ below (QV X Q) args s 0 0 (AW X)) (F0 m 55 ls []) := by
  intro n
  induction n with
  | zero => intro x2 x3 x4 M H locs ls h; exact absurd h (by simp [wp_X6_findWides_55])
  | succ n ih =>
    intro x2 x3 x4 M H locs ls h hW hl
    rw [wp_X6_findWides_55] at h
    refine q_iload (n := 57) (q := 4) E.1 hl rfl dX6_findWides_55 rfl ?_
    refine q_aload_n (n := 58) (q := 1) E.1 hl rfl dX6_findWides_57 rfl rfl ?_
    refine q_callVi (n := 61) (fs := (fsRow X a1)) [] E hW hl.1 (isRow_lt ha1) (ent_row X ha1) K4 (c_X4_size l X E.2.2.1.1 a1 ha1 _ _ h) (by decide) Y_RX6_49 rfl (rest := [.int (jI x4)]) rfl (Nat.le_of_ble_eq_true rfl) dX6_findWides_58 rfl (fun r2 M1 H locs h hW => ?_)
    obtain ⟨g3, g4, h5, h6⟩ := h
    refine q_icmp_ge (t := 97) (n := 64) E.1 g3 g4 dX6_findWides_61 (by decide) rfl (fun c7 => ?_) (fun c7 => ?_)
    · have h := h5 c7
      exact q_vret E hW h dX6_findWides_97
    · have h := h6 c7
      refine q_aload_n (n := 65) (q := 0) E.1 hl rfl dX6_findWides_64 rfl rfl ?_
      refine q_get (n := 68) (k := 1) (fs := (fs47 X)) (v := .ref (xA X 34)) E hW (by decide) (fun _ => rfl) K6 (by decide) w144 rfl rfl dX6_findWides_65 rfl ?_
      refine q_iconst (n := 69) E.1 dX6_findWides_68 rfl ?_
      refine q_aload_n (n := 70) (q := 1) E.1 hl rfl dX6_findWides_69 rfl rfl ?_
      refine q_iload (n := 72) (q := 4) E.1 hl rfl dX6_findWides_70 rfl ?_
      refine q_callVi (n := 75) (fs := (fsRow X a1)) [.int (jI x4)] E hW hl.1 (isRow_lt ha1) (ent_row X ha1) K4 (c_X4_at l X E.2.2.1.1 a1 x4 ha1 _ _ h) (by decide) Y_RX6_68 rfl (rest := [.int (jI 2), .ref (xA X 34)]) rfl (Nat.le_of_ble_eq_true rfl) dX6_findWides_72 rfl (fun r9 M8 H locs h hW => ?_)
      refine q_imul (n := 76) E.1 dX6_findWides_75 rfl ?_
      refine q_iload_n (n := 77) (q := 2) E.1 hl rfl dX6_findWides_76 rfl rfl ?_
      refine q_iload_n (n := 78) (q := 3) E.1 hl rfl dX6_findWides_77 rfl rfl ?_
      refine q_iadd (n := 79) E.1 dX6_findWides_78 rfl ?_
      obtain ⟨g10, g11, h12, h13⟩ := h
      refine q_icmp_le (t := 86) (n := 82) E.1 g10 g11 dX6_findWides_79 (by decide) rfl (fun c14 => ?_) (fun c14 => ?_)
      · have h := h12 c14
        refine q_iconst (n := 87) E.1 dX6_findWides_86 rfl ?_
        refine q_callVi (n := 90) (fs := (fsRow X 34)) [.int (jI 0)] E hW hl.1 (isRow_lt (by decide)) (ent_row X (by decide)) K4 (c_X4_add l X E.2.2.1.1 34 0 (by decide) _ _ h) (by decide) Y_RX6_64 rfl (rest := []) rfl (Nat.le_of_ble_eq_true rfl) dX6_findWides_87 rfl (fun r16 M15 H locs h hW => ?_)
        refine q_pop (n := 91) E.1 dX6_findWides_90 rfl rfl ?_
        refine q_iinc (n := 94) (q := 4) [(4, .int (jI (x4 + 1))), (0, .ref (xA X 47)), (1, .ref (xA X a1)), (2, .int (jI x2)), (3, .int (jI x3))] E.1 hl rfl dX6_findWides_91 (by decide) rfl rfl (fun ls hl => ?_)
        refine q_goto (n := 55) E.1 dX6_findWides_94 (by decide) ?_
        exact ih _ _ _ _ _ _ _ h hW (lv_sub hl [1, 2, 3, 4, 0] rfl)
      · have h := h13 c14
        refine q_iconst (n := 83) E.1 dX6_findWides_82 rfl ?_
        refine q_goto (n := 87) E.1 dX6_findWides_83 (by decide) ?_
        refine q_callVi (n := 90) (fs := (fsRow X 34)) [.int (jI 1)] E hW hl.1 (isRow_lt (by decide)) (ent_row X (by decide)) K4 (c_X4_add l X E.2.2.1.1 34 1 (by decide) _ _ h) (by decide) Y_RX6_64 rfl (rest := []) rfl (Nat.le_of_ble_eq_true rfl) dX6_findWides_87 rfl (fun r18 M17 H locs h hW => ?_)
        refine q_pop (n := 91) E.1 dX6_findWides_90 rfl rfl ?_
        refine q_iinc (n := 94) (q := 4) [(4, .int (jI (x4 + 1))), (0, .ref (xA X 47)), (1, .ref (xA X a1)), (2, .int (jI x2)), (3, .int (jI x3))] E.1 hl rfl dX6_findWides_91 (by decide) rfl rfl (fun ls hl => ?_)
        refine q_goto (n := 55) E.1 dX6_findWides_94 (by decide) ?_
        exact ih _ _ _ _ _ _ _ h hW (lv_sub hl [1, 2, 3, 4, 0] rfl)
def wp_X6_findWides_8 (a1 : Nat) (Q : Mem → Prop) : Nat → Int → Int → Int → Mem → Prop
  | 0, _, _, _, _ => False
  | n + 1, x2, x3, x4, M => wp_X4_size a1 M (fun r2 M1 => (Rg x4 ∧ Rg r2 ∧ (r2 ≤ x4 → wp_X4_clear 34 M1 (fun M8 => (∃ n2 : Nat, wp_X6_findWides_55 a1 Q n2 x2 x3 0 M8))) ∧ (¬ (r2 ≤ x4) → wp_X4_at a1 x4 M1 (fun r11 M10 => Rg x2 ∧ Rg r11 ∧ wp_X4_at a1 x4 M10 (fun r15 M14 => Rg x3 ∧ Rg r15 ∧ wp_X6_findWides_8 a1 Q n (min x2 r11) (max x3 r15) (x4 + 1) M14)))))
set_option maxHeartbeats 4000000 in
set_option maxRecDepth 100000 in
theorem v_X6_findWides_8 (a1 : Nat) (ha1 : isRow a1) (E : En X (AW X) 1 p R s m args meth c cX6_findWides RX6 5 none 0 0) (Q : Mem → Prop) : ∀ n : Nat, ∀ (x2 x3 x4 : Int) (M : Mem) (H : Heap) (locs : List Loc) (ls : Array Slot), wp_X6_findWides_8 a1 Q n x2 x3 x4 M → Wd X (AW X) s M H locs → lv_has ls 5 [(0, .ref (xA X 47)), (1, .ref (xA X a1)), (2, .int (jI x2)), (3, .int (jI x3)), (4, .int (jI x4))] → W p l e R s m args below meth c H locs 0 0 (MQ below (QV X Q) args s 0 0 (AW X)) (F0 m 8 ls []) := by
  intro n
  induction n with
  | zero => intro x2 x3 x4 M H locs ls h; exact absurd h (by simp [wp_X6_findWides_8])
  | succ n ih =>
    intro x2 x3 x4 M H locs ls h hW hl
    rw [wp_X6_findWides_8] at h
    refine q_iload (n := 10) (q := 4) E.1 hl rfl dX6_findWides_8 rfl ?_
    refine q_aload_n (n := 11) (q := 1) E.1 hl rfl dX6_findWides_10 rfl rfl ?_
    refine q_callVi (n := 14) (fs := (fsRow X a1)) [] E hW hl.1 (isRow_lt ha1) (ent_row X ha1) K4 (c_X4_size l X E.2.2.1.1 a1 ha1 _ _ h) (by decide) Y_RX6_49 rfl (rest := [.int (jI x4)]) rfl (Nat.le_of_ble_eq_true rfl) dX6_findWides_11 rfl (fun r2 M1 H locs h hW => ?_)
    obtain ⟨g3, g4, h5, h6⟩ := h
    refine q_icmp_ge (t := 45) (n := 17) E.1 g3 g4 dX6_findWides_14 (by decide) rfl (fun c7 => ?_) (fun c7 => ?_)
    · have h := h5 c7
      refine q_aload_n (n := 46) (q := 0) E.1 hl rfl dX6_findWides_45 rfl rfl ?_
      refine q_get (n := 49) (k := 1) (fs := (fs47 X)) (v := .ref (xA X 34)) E hW (by decide) (fun _ => rfl) K6 (by decide) w144 rfl rfl dX6_findWides_46 rfl ?_
      refine q_callVv (n := 52) (fs := (fsRow X 34)) [] E hW hl.1 (isRow_lt (by decide)) (ent_row X (by decide)) K4 (c_X4_clear l X E.2.2.1.1 34 (by decide) _ _ h) (by decide) Y_RX6_61 rfl (rest := []) rfl (Nat.le_of_ble_eq_true rfl) dX6_findWides_49 rfl (fun M8 H locs h hW => ?_)
      refine q_iconst (n := 53) E.1 dX6_findWides_52 rfl ?_
      refine q_istore (n := 55) [(4, .int (jI 0)), (0, .ref (xA X 47)), (1, .ref (xA X a1)), (2, .int (jI x2)), (3, .int (jI x3))] E.1 hl dX6_findWides_53 (by decide) rfl rfl (fun ls hl => ?_)
      obtain ⟨n9, h⟩ := h
      exact v_X6_findWides_55 a1 ha1 E Q n9 _ _ _ _ _ _ _ h hW (lv_sub hl [1, 2, 3, 4, 0] rfl)
    · have h := h6 c7
      refine q_iload_n (n := 18) (q := 2) E.1 hl rfl dX6_findWides_17 rfl rfl ?_
      refine q_aload_n (n := 19) (q := 1) E.1 hl rfl dX6_findWides_18 rfl rfl ?_
      refine q_iload (n := 21) (q := 4) E.1 hl rfl dX6_findWides_19 rfl ?_
      refine q_callVi (n := 24) (fs := (fsRow X a1)) [.int (jI x4)] E hW hl.1 (isRow_lt ha1) (ent_row X ha1) K4 (c_X4_at l X E.2.2.1.1 a1 x4 ha1 _ _ h) (by decide) Y_RX6_68 rfl (rest := [.int (jI x2)]) rfl (Nat.le_of_ble_eq_true rfl) dX6_findWides_21 rfl (fun r11 M10 H locs h hW => ?_)
      obtain ⟨g12, g13, h⟩ := h
      refine q_mmin (n := 27) E hl.1 g12 g13 (by decide) w444 (Nat.le_of_ble_eq_true rfl) dX6_findWides_24 rfl ?_
      refine q_istore_n (n := 28) [(2, .int (jI (min x2 r11))), (0, .ref (xA X 47)), (1, .ref (xA X a1)), (3, .int (jI x3)), (4, .int (jI x4))] E.1 hl dX6_findWides_27 rfl (by decide) rfl rfl (fun ls hl => ?_)
      refine q_iload_n (n := 29) (q := 3) E.1 hl rfl dX6_findWides_28 rfl rfl ?_
      refine q_aload_n (n := 30) (q := 2) E.1 hl rfl dX6_findWides_29 rfl rfl ?_
      refine q_iload (n := 32) (q := 4) E.1 hl rfl dX6_findWides_30 rfl ?_
      refine q_callVi (n := 35) (fs := (fsRow X a1)) [.int (jI x4)] E hW hl.1 (isRow_lt ha1) (ent_row X ha1) K4 (c_X4_at l X E.2.2.1.1 a1 x4 ha1 _ _ h) (by decide) Y_RX6_68 rfl (rest := [.int (jI x3)]) rfl (Nat.le_of_ble_eq_true rfl) dX6_findWides_32 rfl (fun r15 M14 H locs h hW => ?_)
      obtain ⟨g16, g17, h⟩ := h
      refine q_mmax (n := 38) E hl.1 g16 g17 (by decide) w447 (Nat.le_of_ble_eq_true rfl) dX6_findWides_35 rfl ?_
      refine q_istore_n (n := 39) [(3, .int (jI (max x3 r15))), (2, .int (jI (min x2 r11))), (0, .ref (xA X 47)), (1, .ref (xA X a1)), (4, .int (jI x4))] E.1 hl dX6_findWides_38 rfl (by decide) rfl rfl (fun ls hl => ?_)
      refine q_iinc (n := 42) (q := 4) [(4, .int (jI (x4 + 1))), (3, .int (jI (max x3 r15))), (2, .int (jI (min x2 r11))), (0, .ref (xA X 47)), (1, .ref (xA X a1))] E.1 hl rfl dX6_findWides_39 (by decide) rfl rfl (fun ls hl => ?_)
      refine q_goto (n := 8) E.1 dX6_findWides_42 (by decide) ?_
      exact ih _ _ _ _ _ _ _ h hW (lv_sub hl [3, 4, 2, 1, 0] rfl)
def wp_X6_findWides (a1 : Nat) (M : Mem) (Q : Mem → Prop) : Prop := (∃ n : Nat, wp_X6_findWides_8 a1 Q n 99 1 0 M)
set_option maxHeartbeats 4000000 in
set_option maxRecDepth 100000 in
theorem c_X6_findWides (l : Launch) (X : Cx) (hI : Inj X) (a1 : Nat) (ha1 : isRow a1) (M : Mem) (Q : Mem → Prop) (h : wp_X6_findWides a1 M Q) : MV X l yX6_findWides cX6_findWides 5 1 [.ref (xA X 47), .ref (xA X a1)] M Q := by
  refine MV.of hI (by decide) (Nat.le_of_ble_eq_true rfl) ?_
  intro p e R s m args below meth c ls E hW hl
  have E : En X (AW X) 1 p R s m args meth c cX6_findWides RX6 5 none 0 0 := E
  have hl : lv_has ls 5 [(0, .ref (xA X 47)), (1, .ref (xA X a1))] := hl
  unfold wp_X6_findWides at h
  refine q_bipush (n := 2) E.1 dX6_findWides_0 (by decide) rfl ?_
  refine q_istore_n (n := 3) [(2, .int (jI 99)), (0, .ref (xA X 47)), (1, .ref (xA X a1))] E.1 hl dX6_findWides_2 rfl (by decide) rfl rfl (fun ls hl => ?_)
  refine q_iconst (n := 4) E.1 dX6_findWides_3 rfl ?_
  refine q_istore_n (n := 5) [(3, .int (jI 1)), (2, .int (jI 99)), (0, .ref (xA X 47)), (1, .ref (xA X a1))] E.1 hl dX6_findWides_4 rfl (by decide) rfl rfl (fun ls hl => ?_)
  refine q_iconst (n := 6) E.1 dX6_findWides_5 rfl ?_
  refine q_istore (n := 8) [(4, .int (jI 0)), (3, .int (jI 1)), (2, .int (jI 99)), (0, .ref (xA X 47)), (1, .ref (xA X a1))] E.1 hl dX6_findWides_6 (by decide) rfl rfl (fun ls hl => ?_)
  obtain ⟨n1, h⟩ := h
  exact v_X6_findWides_8 a1 ha1 E Q n1 _ _ _ _ _ _ _ h hW (lv_sub hl [3, 4, 2, 1, 0] rfl)
/-! StickerPress$Stripes.keepDigits(LStickerPress$Reading;ZLStickerPress$Row;)I -/
theorem dX6_keepDigits_0 : decode cX6_keepDigits 0 = .ok (.aload_n 0, 1) := by decide +kernel
theorem dX6_keepDigits_1 : decode cX6_keepDigits 1 = .ok (.iconst 0, 1) := by decide +kernel
theorem dX6_keepDigits_2 : decode cX6_keepDigits 2 = .ok (.putfield 39, 3) := by decide +kernel
theorem dX6_keepDigits_5 : decode cX6_keepDigits 5 = .ok (.aload_n 0, 1) := by decide +kernel
theorem dX6_keepDigits_6 : decode cX6_keepDigits 6 = .ok (.iconst (-1), 1) := by decide +kernel
theorem dX6_keepDigits_7 : decode cX6_keepDigits 7 = .ok (.putfield 42, 3) := by decide +kernel
theorem dX6_keepDigits_10 : decode cX6_keepDigits 10 = .ok (.aload_n 0, 1) := by decide +kernel
theorem dX6_keepDigits_11 : decode cX6_keepDigits 11 = .ok (.iload_n 2, 1) := by decide +kernel
theorem dX6_keepDigits_12 : decode cX6_keepDigits 12 = .ok (.putfield 45, 3) := by decide +kernel
theorem dX6_keepDigits_15 : decode cX6_keepDigits 15 = .ok (.aload_n 3, 1) := by decide +kernel
theorem dX6_keepDigits_16 : decode cX6_keepDigits 16 = .ok (.invokevirtual 61, 3) := by decide +kernel
theorem dX6_keepDigits_19 : decode cX6_keepDigits 19 = .ok (.iconst 0, 1) := by decide +kernel
theorem dX6_keepDigits_20 : decode cX6_keepDigits 20 = .ok (.istore 4, 2) := by decide +kernel
theorem dX6_keepDigits_22 : decode cX6_keepDigits 22 = .ok (.iload 4, 2) := by decide +kernel
theorem dX6_keepDigits_24 : decode cX6_keepDigits 24 = .ok (.aload_n 1, 1) := by decide +kernel
theorem dX6_keepDigits_25 : decode cX6_keepDigits 25 = .ok (.getfield 112, 3) := by decide +kernel
theorem dX6_keepDigits_28 : decode cX6_keepDigits 28 = .ok (.invokevirtual 49, 3) := by decide +kernel
theorem dX6_keepDigits_31 : decode cX6_keepDigits 31 = .ok (.if_icmp .ge 26, 3) := by decide +kernel
theorem dX6_keepDigits_34 : decode cX6_keepDigits 34 = .ok (.aload_n 3, 1) := by decide +kernel
theorem dX6_keepDigits_35 : decode cX6_keepDigits 35 = .ok (.bipush 48, 2) := by decide +kernel
theorem dX6_keepDigits_37 : decode cX6_keepDigits 37 = .ok (.aload_n 1, 1) := by decide +kernel
theorem dX6_keepDigits_38 : decode cX6_keepDigits 38 = .ok (.getfield 112, 3) := by decide +kernel
theorem dX6_keepDigits_41 : decode cX6_keepDigits 41 = .ok (.iload 4, 2) := by decide +kernel
theorem dX6_keepDigits_43 : decode cX6_keepDigits 43 = .ok (.invokevirtual 68, 3) := by decide +kernel
theorem dX6_keepDigits_46 : decode cX6_keepDigits 46 = .ok (.iadd, 1) := by decide +kernel
theorem dX6_keepDigits_47 : decode cX6_keepDigits 47 = .ok (.invokevirtual 64, 3) := by decide +kernel
theorem dX6_keepDigits_50 : decode cX6_keepDigits 50 = .ok (.pop, 1) := by decide +kernel
theorem dX6_keepDigits_51 : decode cX6_keepDigits 51 = .ok (.iinc 4 1, 3) := by decide +kernel
theorem dX6_keepDigits_54 : decode cX6_keepDigits 54 = .ok (.goto (-32), 3) := by decide +kernel
theorem dX6_keepDigits_57 : decode cX6_keepDigits 57 = .ok (.aload_n 3, 1) := by decide +kernel
theorem dX6_keepDigits_58 : decode cX6_keepDigits 58 = .ok (.invokevirtual 49, 3) := by decide +kernel
theorem dX6_keepDigits_61 : decode cX6_keepDigits 61 = .ok (.ireturn, 1) := by decide +kernel
def wp_X6_keepDigits_22 (a1 : Nat) (a2 : Int) (a3 : Nat) (Q : Int → Mem → Prop) : Nat → Int → Mem → Prop
  | 0, _, _ => False
  | n + 1, x4, M => wp_X4_size (2 * a1 - 44) M (fun r2 M1 => (Rg x4 ∧ Rg r2 ∧ (r2 ≤ x4 → wp_X4_size a3 M1 (fun r9 M8 => Q r9 M8)) ∧ (¬ (r2 ≤ x4) → wp_X4_at (2 * a1 - 44) x4 M1 (fun r11 M10 => wp_X4_add a3 (48 + r11) M10 (fun r13 M12 => wp_X6_keepDigits_22 a1 a2 a3 Q n (x4 + 1) M12)))))
set_option maxHeartbeats 4000000 in
set_option maxRecDepth 100000 in
theorem v_X6_keepDigits_22 (a1 : Nat) (a2 : Int) (a3 : Nat) (ha1 : isRd a1) (ha3 : isRow a3) (E : En X (AW X) 1 p R s m args meth c cX6_keepDigits RX6 5 (some .int) 0 0) (Q : Int → Mem → Prop) : ∀ n : Nat, ∀ (x4 : Int) (M : Mem) (H : Heap) (locs : List Loc) (ls : Array Slot), wp_X6_keepDigits_22 a1 a2 a3 Q n x4 M → Wd X (AW X) s M H locs → lv_has ls 5 [(1, .ref (xA X a1)), (3, .ref (xA X a3)), (4, .int (jI x4))] → W p l e R s m args below meth c H locs 0 0 (MQ below (QI X Q) args s 0 0 (AW X)) (F0 m 22 ls []) := by
  intro n
  induction n with
  | zero => intro x4 M H locs ls h; exact absurd h (by simp [wp_X6_keepDigits_22])
  | succ n ih =>
    intro x4 M H locs ls h hW hl
    rw [wp_X6_keepDigits_22] at h
    refine q_iload (n := 24) (q := 2) E.1 hl rfl dX6_keepDigits_22 rfl ?_
    refine q_aload_n (n := 25) (q := 0) E.1 hl rfl dX6_keepDigits_24 rfl rfl ?_
    refine q_getN (n := 28) (k := 1) (fs := (fsRd X a1)) (v := .ref (xA X (2 * a1 - 44))) E hW (isRd_lt ha1) (ent_rd X ha1) K3 (by decide) 0 rfl rfl rfl dX6_keepDigits_25 rfl ?_
    refine q_callVi (n := 31) (fs := (fsRow X (2 * a1 - 44))) [] E hW hl.1 (isRow_lt (isRd_row ha1)) (ent_row X (isRd_row ha1)) K4 (c_X4_size l X E.2.2.1.1 (2 * a1 - 44) (isRd_row ha1) _ _ h) (by decide) Y_RX6_49 rfl (rest := [.int (jI x4)]) rfl (Nat.le_of_ble_eq_true rfl) dX6_keepDigits_28 rfl (fun r2 M1 H locs h hW => ?_)
    obtain ⟨g3, g4, h5, h6⟩ := h
    refine q_icmp_ge (t := 57) (n := 34) E.1 g3 g4 dX6_keepDigits_31 (by decide) rfl (fun c7 => ?_) (fun c7 => ?_)
    · have h := h5 c7
      refine q_aload_n (n := 58) (q := 1) E.1 hl rfl dX6_keepDigits_57 rfl rfl ?_
      refine q_callVi (n := 61) (fs := (fsRow X a3)) [] E hW hl.1 (isRow_lt ha3) (ent_row X ha3) K4 (c_X4_size l X E.2.2.1.1 a3 ha3 _ _ h) (by decide) Y_RX6_49 rfl (rest := []) rfl (Nat.le_of_ble_eq_true rfl) dX6_keepDigits_58 rfl (fun r9 M8 H locs h hW => ?_)
      exact q_iret E hW h dX6_keepDigits_61
    · have h := h6 c7
      refine q_aload_n (n := 35) (q := 1) E.1 hl rfl dX6_keepDigits_34 rfl rfl ?_
      refine q_bipush (n := 37) E.1 dX6_keepDigits_35 (by decide) rfl ?_
      refine q_aload_n (n := 38) (q := 0) E.1 hl rfl dX6_keepDigits_37 rfl rfl ?_
      refine q_getN (n := 41) (k := 1) (fs := (fsRd X a1)) (v := .ref (xA X (2 * a1 - 44))) E hW (isRd_lt ha1) (ent_rd X ha1) K3 (by decide) 0 rfl rfl rfl dX6_keepDigits_38 rfl ?_
      refine q_iload (n := 43) (q := 2) E.1 hl rfl dX6_keepDigits_41 rfl ?_
      refine q_callVi (n := 46) (fs := (fsRow X (2 * a1 - 44))) [.int (jI x4)] E hW hl.1 (isRow_lt (isRd_row ha1)) (ent_row X (isRd_row ha1)) K4 (c_X4_at l X E.2.2.1.1 (2 * a1 - 44) x4 (isRd_row ha1) _ _ h) (by decide) Y_RX6_68 rfl (rest := [.int (jI 48), .ref (xA X a3)]) rfl (Nat.le_of_ble_eq_true rfl) dX6_keepDigits_43 rfl (fun r11 M10 H locs h hW => ?_)
      refine q_iadd (n := 47) E.1 dX6_keepDigits_46 rfl ?_
      refine q_callVi (n := 50) (fs := (fsRow X a3)) [.int (jI (48 + r11))] E hW hl.1 (isRow_lt ha3) (ent_row X ha3) K4 (c_X4_add l X E.2.2.1.1 a3 (48 + r11) ha3 _ _ h) (by decide) Y_RX6_64 rfl (rest := []) rfl (Nat.le_of_ble_eq_true rfl) dX6_keepDigits_47 rfl (fun r13 M12 H locs h hW => ?_)
      refine q_pop (n := 51) E.1 dX6_keepDigits_50 rfl rfl ?_
      refine q_iinc (n := 54) (q := 2) [(4, .int (jI (x4 + 1))), (1, .ref (xA X a1)), (3, .ref (xA X a3))] E.1 hl rfl dX6_keepDigits_51 (by decide) rfl rfl (fun ls hl => ?_)
      refine q_goto (n := 22) E.1 dX6_keepDigits_54 (by decide) ?_
      exact ih _ _ _ _ _ h hW (lv_sub hl [1, 2, 0] rfl)
def wp_X6_keepDigits (a1 : Nat) (a2 : Int) (a3 : Nat) (M : Mem) (Q : Int → Mem → Prop) : Prop := (a2 = 0 ∨ a2 = 1) ∧ wp_X4_clear a3 (up (up (up M 47 5 0) 47 6 (-1)) 47 7 a2) (fun M2 => (∃ n : Nat, wp_X6_keepDigits_22 a1 a2 a3 Q n 0 M2))
set_option maxHeartbeats 4000000 in
set_option maxRecDepth 100000 in
theorem c_X6_keepDigits (l : Launch) (X : Cx) (hI : Inj X) (a1 : Nat) (a2 : Int) (a3 : Nat) (ha1 : isRd a1) (ha3 : isRow a3) (M : Mem) (Q : Int → Mem → Prop) (h : wp_X6_keepDigits a1 a2 a3 M Q) : MI X l yX6_keepDigits cX6_keepDigits 5 (some .int) 1 [.ref (xA X 47), .ref (xA X a1), .int (jI a2), .ref (xA X a3)] M Q := by
  refine MI.of hI (by decide) (Nat.le_of_ble_eq_true rfl) ?_
  intro p e R s m args below meth c ls E hW hl
  have E : En X (AW X) 1 p R s m args meth c cX6_keepDigits RX6 5 (some .int) 0 0 := E
  have hl : lv_has ls 5 [(0, .ref (xA X 47)), (1, .ref (xA X a1)), (2, .int (jI a2)), (3, .ref (xA X a3))] := hl
  unfold wp_X6_keepDigits at h
  refine q_aload_n (n := 1) (q := 0) E.1 hl rfl dX6_keepDigits_0 rfl rfl ?_
  refine q_iconst (n := 2) E.1 dX6_keepDigits_1 rfl ?_
  refine q_put (n := 5) (k := 5) (fs := (fs47 X)) E hW (by decide) (fun _ => rfl) K6 (by decide) w148 rfl rfl ⟨rfl, rfl⟩ (Nat.le_of_ble_eq_true rfl) (fun _ => rfl) dX6_keepDigits_2 rfl (fun H locs hW => ?_)
  refine q_aload_n (n := 6) (q := 0) E.1 hl rfl dX6_keepDigits_5 rfl rfl ?_
  refine q_iconst (n := 7) E.1 dX6_keepDigits_6 rfl ?_
  refine q_put (n := 10) (k := 6) (fs := (fs47 X)) E hW (by decide) (fun _ => rfl) K6 (by decide) w149 rfl rfl ⟨rfl, rfl⟩ (Nat.le_of_ble_eq_true rfl) (fun _ => rfl) dX6_keepDigits_7 rfl (fun H locs hW => ?_)
  refine q_aload_n (n := 11) (q := 0) E.1 hl rfl dX6_keepDigits_10 rfl rfl ?_
  refine q_iload_n (n := 12) (q := 2) E.1 hl rfl dX6_keepDigits_11 rfl rfl ?_
  obtain ⟨g1, h⟩ := h
  refine q_put (n := 15) (k := 7) (fs := (fs47 X)) E hW (by decide) (fun _ => rfl) K6 (by decide) w150 rfl rfl ⟨nar_bool g1, fit_bool g1⟩ (Nat.le_of_ble_eq_true rfl) (fun _ => rfl) dX6_keepDigits_12 rfl (fun H locs hW => ?_)
  refine q_aload_n (n := 16) (q := 3) E.1 hl rfl dX6_keepDigits_15 rfl rfl ?_
  refine q_callVv (n := 19) (fs := (fsRow X a3)) [] E hW hl.1 (isRow_lt ha3) (ent_row X ha3) K4 (c_X4_clear l X E.2.2.1.1 a3 ha3 _ _ h) (by decide) Y_RX6_61 rfl (rest := []) rfl (Nat.le_of_ble_eq_true rfl) dX6_keepDigits_16 rfl (fun M2 H locs h hW => ?_)
  refine q_iconst (n := 20) E.1 dX6_keepDigits_19 rfl ?_
  refine q_istore (n := 22) [(4, .int (jI 0)), (0, .ref (xA X 47)), (1, .ref (xA X a1)), (2, .int (jI a2)), (3, .ref (xA X a3))] E.1 hl dX6_keepDigits_20 (by decide) rfl rfl (fun ls hl => ?_)
  obtain ⟨n3, h⟩ := h
  exact v_X6_keepDigits_22 a1 a2 a3 ha1 ha3 E Q n3 _ _ _ _ _ h hW (lv_sub hl [2, 4, 0] rfl)
/-! StickerPress$Stripes.keepFault(II)V -/
theorem dX6_keepFault_0 : decode cX6_keepFault 0 = .ok (.aload_n 0, 1) := by decide +kernel
theorem dX6_keepFault_1 : decode cX6_keepFault 1 = .ok (.iload_n 1, 1) := by decide +kernel
theorem dX6_keepFault_2 : decode cX6_keepFault 2 = .ok (.putfield 39, 3) := by decide +kernel
theorem dX6_keepFault_5 : decode cX6_keepFault 5 = .ok (.aload_n 0, 1) := by decide +kernel
theorem dX6_keepFault_6 : decode cX6_keepFault 6 = .ok (.iload_n 2, 1) := by decide +kernel
theorem dX6_keepFault_7 : decode cX6_keepFault 7 = .ok (.putfield 42, 3) := by decide +kernel
theorem dX6_keepFault_10 : decode cX6_keepFault 10 = .ok (.aload_n 0, 1) := by decide +kernel
theorem dX6_keepFault_11 : decode cX6_keepFault 11 = .ok (.iconst 0, 1) := by decide +kernel
theorem dX6_keepFault_12 : decode cX6_keepFault 12 = .ok (.putfield 45, 3) := by decide +kernel
theorem dX6_keepFault_15 : decode cX6_keepFault 15 = .ok (.return_, 1) := by decide +kernel
def wp_X6_keepFault (a1 : Int) (a2 : Int) (M : Mem) (Q : Mem → Prop) : Prop := Q (up (up (up M 47 5 a1) 47 6 a2) 47 7 0)
set_option maxHeartbeats 4000000 in
set_option maxRecDepth 100000 in
theorem c_X6_keepFault (l : Launch) (X : Cx) (hI : Inj X) (a1 : Int) (a2 : Int) (M : Mem) (Q : Mem → Prop) (h : wp_X6_keepFault a1 a2 M Q) : MV X l yX6_keepFault cX6_keepFault 3 0 [.ref (xA X 47), .int (jI a1), .int (jI a2)] M Q := by
  refine MV.of hI (by decide) (Nat.le_of_ble_eq_true rfl) ?_
  intro p e R s m args below meth c ls E hW hl
  have E : En X (AW X) 0 p R s m args meth c cX6_keepFault RX6 3 none 0 0 := E
  have hl : lv_has ls 3 [(0, .ref (xA X 47)), (1, .int (jI a1)), (2, .int (jI a2))] := hl
  unfold wp_X6_keepFault at h
  refine q_aload_n (n := 1) (q := 0) E.1 hl rfl dX6_keepFault_0 rfl rfl ?_
  refine q_iload_n (n := 2) (q := 1) E.1 hl rfl dX6_keepFault_1 rfl rfl ?_
  refine q_put (n := 5) (k := 5) (fs := (fs47 X)) E hW (by decide) (fun _ => rfl) K6 (by decide) w148 rfl rfl ⟨rfl, rfl⟩ (Nat.le_of_ble_eq_true rfl) (fun _ => rfl) dX6_keepFault_2 rfl (fun H locs hW => ?_)
  refine q_aload_n (n := 6) (q := 0) E.1 hl rfl dX6_keepFault_5 rfl rfl ?_
  refine q_iload_n (n := 7) (q := 2) E.1 hl rfl dX6_keepFault_6 rfl rfl ?_
  refine q_put (n := 10) (k := 6) (fs := (fs47 X)) E hW (by decide) (fun _ => rfl) K6 (by decide) w149 rfl rfl ⟨rfl, rfl⟩ (Nat.le_of_ble_eq_true rfl) (fun _ => rfl) dX6_keepFault_7 rfl (fun H locs hW => ?_)
  refine q_aload_n (n := 11) (q := 0) E.1 hl rfl dX6_keepFault_10 rfl rfl ?_
  refine q_iconst (n := 12) E.1 dX6_keepFault_11 rfl ?_
  refine q_put (n := 15) (k := 7) (fs := (fs47 X)) E hW (by decide) (fun _ => rfl) K6 (by decide) w150 rfl rfl ⟨nar_bool (Or.inl rfl), fit_bool (Or.inl rfl)⟩ (Nat.le_of_ble_eq_true rfl) (fun _ => rfl) dX6_keepFault_12 rfl (fun H locs hW => ?_)
  exact q_vret E hW h dX6_keepFault_15
/-! StickerPress$Stripes.readBars(LStickerPress$Row;LStickerPress$Row;)I -/
theorem dX6_readBars_0 : decode cX6_readBars 0 = .ok (.aload_n 1, 1) := by decide +kernel
theorem dX6_readBars_1 : decode cX6_readBars 1 = .ok (.invokestatic 79, 3) := by decide +kernel
theorem dX6_readBars_4 : decode cX6_readBars 4 = .ok (.ifCond .ne 11, 3) := by decide +kernel
theorem dX6_readBars_7 : decode cX6_readBars 7 = .ok (.aload_n 0, 1) := by decide +kernel
theorem dX6_readBars_8 : decode cX6_readBars 8 = .ok (.iconst 1, 1) := by decide +kernel
theorem dX6_readBars_9 : decode cX6_readBars 9 = .ok (.iconst 0, 1) := by decide +kernel
theorem dX6_readBars_10 : decode cX6_readBars 10 = .ok (.invokevirtual 83, 3) := by decide +kernel
theorem dX6_readBars_13 : decode cX6_readBars 13 = .ok (.iconst (-1), 1) := by decide +kernel
theorem dX6_readBars_14 : decode cX6_readBars 14 = .ok (.ireturn, 1) := by decide +kernel
theorem dX6_readBars_15 : decode cX6_readBars 15 = .ok (.aload_n 0, 1) := by decide +kernel
theorem dX6_readBars_16 : decode cX6_readBars 16 = .ok (.aload_n 1, 1) := by decide +kernel
theorem dX6_readBars_17 : decode cX6_readBars 17 = .ok (.invokevirtual 87, 3) := by decide +kernel
theorem dX6_readBars_20 : decode cX6_readBars 20 = .ok (.aload_n 0, 1) := by decide +kernel
theorem dX6_readBars_21 : decode cX6_readBars 21 = .ok (.getfield 28, 3) := by decide +kernel
theorem dX6_readBars_24 : decode cX6_readBars 24 = .ok (.aload_n 0, 1) := by decide +kernel
theorem dX6_readBars_25 : decode cX6_readBars 25 = .ok (.getfield 20, 3) := by decide +kernel
theorem dX6_readBars_28 : decode cX6_readBars 28 = .ok (.invokevirtual 90, 3) := by decide +kernel
theorem dX6_readBars_31 : decode cX6_readBars 31 = .ok (.ifCond .eq 14, 3) := by decide +kernel
theorem dX6_readBars_34 : decode cX6_readBars 34 = .ok (.aload_n 0, 1) := by decide +kernel
theorem dX6_readBars_35 : decode cX6_readBars 35 = .ok (.aload_n 0, 1) := by decide +kernel
theorem dX6_readBars_36 : decode cX6_readBars 36 = .ok (.getfield 28, 3) := by decide +kernel
theorem dX6_readBars_39 : decode cX6_readBars 39 = .ok (.iconst 0, 1) := by decide +kernel
theorem dX6_readBars_40 : decode cX6_readBars 40 = .ok (.aload_n 2, 1) := by decide +kernel
theorem dX6_readBars_41 : decode cX6_readBars 41 = .ok (.invokevirtual 93, 3) := by decide +kernel
theorem dX6_readBars_44 : decode cX6_readBars 44 = .ok (.ireturn, 1) := by decide +kernel
theorem dX6_readBars_45 : decode cX6_readBars 45 = .ok (.aload_n 0, 1) := by decide +kernel
theorem dX6_readBars_46 : decode cX6_readBars 46 = .ok (.getfield 32, 3) := by decide +kernel
theorem dX6_readBars_49 : decode cX6_readBars 49 = .ok (.aload_n 0, 1) := by decide +kernel
theorem dX6_readBars_50 : decode cX6_readBars 50 = .ok (.getfield 20, 3) := by decide +kernel
theorem dX6_readBars_53 : decode cX6_readBars 53 = .ok (.invokevirtual 90, 3) := by decide +kernel
theorem dX6_readBars_56 : decode cX6_readBars 56 = .ok (.ifCond .eq 14, 3) := by decide +kernel
theorem dX6_readBars_59 : decode cX6_readBars 59 = .ok (.aload_n 0, 1) := by decide +kernel
theorem dX6_readBars_60 : decode cX6_readBars 60 = .ok (.aload_n 0, 1) := by decide +kernel
theorem dX6_readBars_61 : decode cX6_readBars 61 = .ok (.getfield 32, 3) := by decide +kernel
theorem dX6_readBars_64 : decode cX6_readBars 64 = .ok (.iconst 1, 1) := by decide +kernel
theorem dX6_readBars_65 : decode cX6_readBars 65 = .ok (.aload_n 2, 1) := by decide +kernel
theorem dX6_readBars_66 : decode cX6_readBars 66 = .ok (.invokevirtual 93, 3) := by decide +kernel
theorem dX6_readBars_69 : decode cX6_readBars 69 = .ok (.ireturn, 1) := by decide +kernel
theorem dX6_readBars_70 : decode cX6_readBars 70 = .ok (.aload_n 0, 1) := by decide +kernel
theorem dX6_readBars_71 : decode cX6_readBars 71 = .ok (.aload_n 0, 1) := by decide +kernel
theorem dX6_readBars_72 : decode cX6_readBars 72 = .ok (.getfield 28, 3) := by decide +kernel
theorem dX6_readBars_75 : decode cX6_readBars 75 = .ok (.getfield 97, 3) := by decide +kernel
theorem dX6_readBars_78 : decode cX6_readBars 78 = .ok (.aload_n 0, 1) := by decide +kernel
theorem dX6_readBars_79 : decode cX6_readBars 79 = .ok (.getfield 28, 3) := by decide +kernel
theorem dX6_readBars_82 : decode cX6_readBars 82 = .ok (.getfield 98, 3) := by decide +kernel
theorem dX6_readBars_85 : decode cX6_readBars 85 = .ok (.invokevirtual 83, 3) := by decide +kernel
theorem dX6_readBars_88 : decode cX6_readBars 88 = .ok (.iconst (-1), 1) := by decide +kernel
theorem dX6_readBars_89 : decode cX6_readBars 89 = .ok (.ireturn, 1) := by decide +kernel
theorem Y_RX6_79 : YS RX6 79 yX6_canBeBars cX6_canBeBars 2 (some .boolean) 1 := ⟨w435, w433, w434, w47, by decide +kernel, by decide⟩
theorem Y_RX6_83 : YV RX6 83 RX6 yX6_keepFault cX6_keepFault 3 none 2 := ⟨w439, w436, w438, w7, w47, by decide +kernel, by decide⟩
theorem Y_RX6_87 : YV RX6 87 RX6 yX6_findWides cX6_findWides 5 none 1 := ⟨w443, w440, w442, w8, w47, by decide +kernel, by decide⟩
theorem Y_RX6_90 : YV RX6 90 RX3 yX3_decode cX3_decode 5 (some .boolean) 1 := ⟨w451, w448, w449, w450, w48, by decide +kernel, by decide⟩
theorem Y_RX6_93 : YV RX6 93 RX6 yX6_keepDigits cX6_keepDigits 5 (some .int) 3 := ⟨w477, w474, w476, w13, w47, by decide +kernel, by decide⟩
def wp_X6_readBars (a1 : Nat) (a2 : Nat) (M : Mem) (Q : Int → Mem → Prop) : Prop := wp_X6_canBeBars a1 M (fun r2 M1 => (Rg r2 ∧ (r2 ≠ 0 → wp_X6_findWides a1 M1 (fun M7 => wp_X3_decode 40 M7 (fun r9 M8 => (Rg r9 ∧ (r9 = 0 → wp_X3_decode 41 M8 (fun r15 M14 => (Rg r15 ∧ (r15 = 0 → wp_X6_keepFault (M14 40 2) (M14 40 3) M14 (fun M20 => Q (-1) M20)) ∧ (¬ (r15 = 0) → wp_X6_keepDigits 41 1 a2 M14 (fun r22 M21 => Q r22 M21))))) ∧ (¬ (r9 = 0) → wp_X6_keepDigits 40 0 a2 M8 (fun r24 M23 => Q r24 M23)))))) ∧ (¬ (r2 ≠ 0) → wp_X6_keepFault 1 0 M1 (fun M25 => Q (-1) M25))))
set_option maxHeartbeats 4000000 in
set_option maxRecDepth 100000 in
theorem c_X6_readBars (l : Launch) (X : Cx) (hI : Inj X) (a1 : Nat) (a2 : Nat) (ha1 : isRow a1) (ha2 : isRow a2) (M : Mem) (Q : Int → Mem → Prop) (h : wp_X6_readBars a1 a2 M Q) : MI X l yX6_readBars cX6_readBars 3 (some .int) 4 [.ref (xA X 47), .ref (xA X a1), .ref (xA X a2)] M Q := by
  refine MI.of hI (by decide) (Nat.le_of_ble_eq_true rfl) ?_
  intro p e R s m args below meth c ls E hW hl
  have E : En X (AW X) 4 p R s m args meth c cX6_readBars RX6 3 (some .int) 0 0 := E
  have hl : lv_has ls 3 [(0, .ref (xA X 47)), (1, .ref (xA X a1)), (2, .ref (xA X a2))] := hl
  unfold wp_X6_readBars at h
  refine q_aload_n (n := 1) (q := 1) E.1 hl rfl dX6_readBars_0 rfl rfl ?_
  refine q_callSi (n := 4) [.ref (xA X a1)] E hW hl.1 (c_X6_canBeBars l X E.2.2.1.1 a1 ha1 _ _ h) (by decide) Y_RX6_79 rfl (rest := []) rfl (Nat.le_of_ble_eq_true rfl) dX6_readBars_1 rfl (fun r2 M1 H locs h hW => ?_)
  obtain ⟨g3, h4, h5⟩ := h
  refine q_if_ne (t := 15) (n := 7) E.1 g3 dX6_readBars_4 (by decide) rfl (fun c6 => ?_) (fun c6 => ?_)
  · have h := h4 c6
    refine q_aload_n (n := 16) (q := 0) E.1 hl rfl dX6_readBars_15 rfl rfl ?_
    refine q_aload_n (n := 17) (q := 1) E.1 hl rfl dX6_readBars_16 rfl rfl ?_
    refine q_callVv (n := 20) (fs := (fs47 X)) [.ref (xA X a1)] E hW hl.1 (by decide) (fun _ => rfl) K6 (c_X6_findWides l X E.2.2.1.1 a1 ha1 _ _ h) (by decide) Y_RX6_87 rfl (rest := []) rfl (Nat.le_of_ble_eq_true rfl) dX6_readBars_17 rfl (fun M7 H locs h hW => ?_)
    refine q_aload_n (n := 21) (q := 0) E.1 hl rfl dX6_readBars_20 rfl rfl ?_
    refine q_get (n := 24) (k := 2) (fs := (fs47 X)) (v := .ref (xA X 40)) E hW (by decide) (fun _ => rfl) K6 (by decide) w145 rfl rfl dX6_readBars_21 rfl ?_
    refine q_aload_n (n := 25) (q := 0) E.1 hl rfl dX6_readBars_24 rfl rfl ?_
    refine q_get (n := 28) (k := 1) (fs := (fs47 X)) (v := .ref (xA X 34)) E hW (by decide) (fun _ => rfl) K6 (by decide) w144 rfl rfl dX6_readBars_25 rfl ?_
    refine q_callVi (n := 31) (fs := (fsRd X 40)) [.ref (xA X 34)] E hW hl.1 (isRd_lt (by decide)) (ent_rd X (by decide)) K3 (c_X3_decode l X E.2.2.1.1 40 (by decide) _ _ h) (by decide) Y_RX6_90 rfl (rest := []) rfl (Nat.le_of_ble_eq_true rfl) dX6_readBars_28 rfl (fun r9 M8 H locs h hW => ?_)
    obtain ⟨g10, h11, h12⟩ := h
    refine q_if_eq (t := 45) (n := 34) E.1 g10 dX6_readBars_31 (by decide) rfl (fun c13 => ?_) (fun c13 => ?_)
    · have h := h11 c13
      refine q_aload_n (n := 46) (q := 0) E.1 hl rfl dX6_readBars_45 rfl rfl ?_
      refine q_get (n := 49) (k := 3) (fs := (fs47 X)) (v := .ref (xA X 41)) E hW (by decide) (fun _ => rfl) K6 (by decide) w146 rfl rfl dX6_readBars_46 rfl ?_
      refine q_aload_n (n := 50) (q := 0) E.1 hl rfl dX6_readBars_49 rfl rfl ?_
      refine q_get (n := 53) (k := 1) (fs := (fs47 X)) (v := .ref (xA X 34)) E hW (by decide) (fun _ => rfl) K6 (by decide) w144 rfl rfl dX6_readBars_50 rfl ?_
      refine q_callVi (n := 56) (fs := (fsRd X 41)) [.ref (xA X 34)] E hW hl.1 (isRd_lt (by decide)) (ent_rd X (by decide)) K3 (c_X3_decode l X E.2.2.1.1 41 (by decide) _ _ h) (by decide) Y_RX6_90 rfl (rest := []) rfl (Nat.le_of_ble_eq_true rfl) dX6_readBars_53 rfl (fun r15 M14 H locs h hW => ?_)
      obtain ⟨g16, h17, h18⟩ := h
      refine q_if_eq (t := 70) (n := 59) E.1 g16 dX6_readBars_56 (by decide) rfl (fun c19 => ?_) (fun c19 => ?_)
      · have h := h17 c19
        refine q_aload_n (n := 71) (q := 0) E.1 hl rfl dX6_readBars_70 rfl rfl ?_
        refine q_aload_n (n := 72) (q := 0) E.1 hl rfl dX6_readBars_71 rfl rfl ?_
        refine q_get (n := 75) (k := 2) (fs := (fs47 X)) (v := .ref (xA X 40)) E hW (by decide) (fun _ => rfl) K6 (by decide) w145 rfl rfl dX6_readBars_72 rfl ?_
        refine q_getN (n := 78) (k := 2) (fs := (fsRd X 40)) (v := .int (jI (M14 40 2))) E hW (isRd_lt (by decide)) (ent_rd X (by decide)) K3 (by decide) 1 rfl rfl rfl dX6_readBars_75 rfl ?_
        refine q_aload_n (n := 79) (q := 0) E.1 hl rfl dX6_readBars_78 rfl rfl ?_
        refine q_get (n := 82) (k := 2) (fs := (fs47 X)) (v := .ref (xA X 40)) E hW (by decide) (fun _ => rfl) K6 (by decide) w145 rfl rfl dX6_readBars_79 rfl ?_
        refine q_getN (n := 85) (k := 3) (fs := (fsRd X 40)) (v := .int (jI (M14 40 3))) E hW (isRd_lt (by decide)) (ent_rd X (by decide)) K3 (by decide) 2 rfl rfl rfl dX6_readBars_82 rfl ?_
        refine q_callVv (n := 88) (fs := (fs47 X)) [.int (jI (M14 40 2)), .int (jI (M14 40 3))] E hW hl.1 (by decide) (fun _ => rfl) K6 (c_X6_keepFault l X E.2.2.1.1 (M14 40 2) (M14 40 3)  _ _ h) (by decide) Y_RX6_83 rfl (rest := []) rfl (Nat.le_of_ble_eq_true rfl) dX6_readBars_85 rfl (fun M20 H locs h hW => ?_)
        refine q_iconst (n := 89) E.1 dX6_readBars_88 rfl ?_
        exact q_iret E hW h dX6_readBars_89
      · have h := h18 c19
        refine q_aload_n (n := 60) (q := 0) E.1 hl rfl dX6_readBars_59 rfl rfl ?_
        refine q_aload_n (n := 61) (q := 0) E.1 hl rfl dX6_readBars_60 rfl rfl ?_
        refine q_get (n := 64) (k := 3) (fs := (fs47 X)) (v := .ref (xA X 41)) E hW (by decide) (fun _ => rfl) K6 (by decide) w146 rfl rfl dX6_readBars_61 rfl ?_
        refine q_iconst (n := 65) E.1 dX6_readBars_64 rfl ?_
        refine q_aload_n (n := 66) (q := 2) E.1 hl rfl dX6_readBars_65 rfl rfl ?_
        refine q_callVi (n := 69) (fs := (fs47 X)) [.ref (xA X 41), .int (jI 1), .ref (xA X a2)] E hW hl.1 (by decide) (fun _ => rfl) K6 (c_X6_keepDigits l X E.2.2.1.1 41 1 a2 (by decide) ha2 _ _ h) (by decide) Y_RX6_93 rfl (rest := []) rfl (Nat.le_of_ble_eq_true rfl) dX6_readBars_66 rfl (fun r22 M21 H locs h hW => ?_)
        exact q_iret E hW h dX6_readBars_69
    · have h := h12 c13
      refine q_aload_n (n := 35) (q := 0) E.1 hl rfl dX6_readBars_34 rfl rfl ?_
      refine q_aload_n (n := 36) (q := 0) E.1 hl rfl dX6_readBars_35 rfl rfl ?_
      refine q_get (n := 39) (k := 2) (fs := (fs47 X)) (v := .ref (xA X 40)) E hW (by decide) (fun _ => rfl) K6 (by decide) w145 rfl rfl dX6_readBars_36 rfl ?_
      refine q_iconst (n := 40) E.1 dX6_readBars_39 rfl ?_
      refine q_aload_n (n := 41) (q := 2) E.1 hl rfl dX6_readBars_40 rfl rfl ?_
      refine q_callVi (n := 44) (fs := (fs47 X)) [.ref (xA X 40), .int (jI 0), .ref (xA X a2)] E hW hl.1 (by decide) (fun _ => rfl) K6 (c_X6_keepDigits l X E.2.2.1.1 40 0 a2 (by decide) ha2 _ _ h) (by decide) Y_RX6_93 rfl (rest := []) rfl (Nat.le_of_ble_eq_true rfl) dX6_readBars_41 rfl (fun r24 M23 H locs h hW => ?_)
      exact q_iret E hW h dX6_readBars_44
  · have h := h5 c6
    refine q_aload_n (n := 8) (q := 0) E.1 hl rfl dX6_readBars_7 rfl rfl ?_
    refine q_iconst (n := 9) E.1 dX6_readBars_8 rfl ?_
    refine q_iconst (n := 10) E.1 dX6_readBars_9 rfl ?_
    refine q_callVv (n := 13) (fs := (fs47 X)) [.int (jI 1), .int (jI 0)] E hW hl.1 (by decide) (fun _ => rfl) K6 (c_X6_keepFault l X E.2.2.1.1 1 0  _ _ h) (by decide) Y_RX6_83 rfl (rest := []) rfl (Nat.le_of_ble_eq_true rfl) dX6_readBars_10 rfl (fun M25 H locs h hW => ?_)
    refine q_iconst (n := 14) E.1 dX6_readBars_13 rfl ?_
    exact q_iret E hW h dX6_readBars_14
/-! StickerPress$Stripes.latestFault(I)I -/
theorem dX6_latestFault_0 : decode cX6_latestFault 0 = .ok (.iload_n 1, 1) := by decide +kernel
theorem dX6_latestFault_1 : decode cX6_latestFault 1 = .ok (.tableswitch 50 0 2 #[27, 32, 37], 27) := by decide +kernel
theorem dX6_latestFault_28 : decode cX6_latestFault 28 = .ok (.aload_n 0, 1) := by decide +kernel
theorem dX6_latestFault_29 : decode cX6_latestFault 29 = .ok (.getfield 39, 3) := by decide +kernel
theorem dX6_latestFault_32 : decode cX6_latestFault 32 = .ok (.ireturn, 1) := by decide +kernel
theorem dX6_latestFault_33 : decode cX6_latestFault 33 = .ok (.aload_n 0, 1) := by decide +kernel
theorem dX6_latestFault_34 : decode cX6_latestFault 34 = .ok (.getfield 42, 3) := by decide +kernel
theorem dX6_latestFault_37 : decode cX6_latestFault 37 = .ok (.ireturn, 1) := by decide +kernel
theorem dX6_latestFault_38 : decode cX6_latestFault 38 = .ok (.aload_n 0, 1) := by decide +kernel
theorem dX6_latestFault_39 : decode cX6_latestFault 39 = .ok (.getfield 45, 3) := by decide +kernel
theorem dX6_latestFault_42 : decode cX6_latestFault 42 = .ok (.ifCond .eq 7, 3) := by decide +kernel
theorem dX6_latestFault_45 : decode cX6_latestFault 45 = .ok (.iconst 1, 1) := by decide +kernel
theorem dX6_latestFault_46 : decode cX6_latestFault 46 = .ok (.goto 4, 3) := by decide +kernel
theorem dX6_latestFault_49 : decode cX6_latestFault 49 = .ok (.iconst 0, 1) := by decide +kernel
theorem dX6_latestFault_50 : decode cX6_latestFault 50 = .ok (.ireturn, 1) := by decide +kernel
theorem dX6_latestFault_51 : decode cX6_latestFault 51 = .ok (.iconst (-1), 1) := by decide +kernel
theorem dX6_latestFault_52 : decode cX6_latestFault 52 = .ok (.ireturn, 1) := by decide +kernel
def wp_X6_latestFault (a1 : Int) (M : Mem) (Q : Int → Mem → Prop) : Prop := (Rg a1 ∧ (a1 = 0 → Q (M 47 5) M) ∧ (a1 = 1 → Q (M 47 6) M) ∧ (a1 = 2 → (Rg (M 47 7) ∧ ((M 47 7) = 0 → Q 0 M) ∧ (¬ ((M 47 7) = 0) → Q 1 M))) ∧ ((a1 < 0 ∨ 2 < a1) → Q (-1) M))
set_option maxHeartbeats 4000000 in
set_option maxRecDepth 100000 in
theorem c_X6_latestFault (l : Launch) (X : Cx) (hI : Inj X) (a1 : Int) (M : Mem) (Q : Int → Mem → Prop) (h : wp_X6_latestFault a1 M Q) : MI X l yX6_latestFault cX6_latestFault 2 (some .int) 0 [.ref (xA X 47), .int (jI a1)] M Q := by
  refine MI.of hI (by decide) (Nat.le_of_ble_eq_true rfl) ?_
  intro p e R s m args below meth c ls E hW hl
  have E : En X (AW X) 0 p R s m args meth c cX6_latestFault RX6 2 (some .int) 0 0 := E
  have hl : lv_has ls 2 [(0, .ref (xA X 47)), (1, .int (jI a1))] := hl
  unfold wp_X6_latestFault at h
  refine q_iload_n (n := 1) (q := 1) E.1 hl rfl dX6_latestFault_0 rfl rfl ?_
  obtain ⟨g1, h2, h3, h4, h5⟩ := h
  by_cases c6 : a1 = 0
  · have h := h2 c6
    refine q_tin (t := 28) 0 E c6 (by decide) dX6_latestFault_1 (by decide) rfl (by decide) ?_
    refine q_aload_n (n := 29) (q := 0) E.1 hl rfl dX6_latestFault_28 rfl rfl ?_
    refine q_get (n := 32) (k := 5) (fs := (fs47 X)) (v := .int (jI (M 47 5))) E hW (by decide) (fun _ => rfl) K6 (by decide) w148 rfl rfl dX6_latestFault_29 rfl ?_
    exact q_iret E hW h dX6_latestFault_32
  by_cases c7 : a1 = 1
  · have h := h3 c7
    refine q_tin (t := 33) 1 E c7 (by decide) dX6_latestFault_1 (by decide) rfl (by decide) ?_
    refine q_aload_n (n := 34) (q := 0) E.1 hl rfl dX6_latestFault_33 rfl rfl ?_
    refine q_get (n := 37) (k := 6) (fs := (fs47 X)) (v := .int (jI (M 47 6))) E hW (by decide) (fun _ => rfl) K6 (by decide) w149 rfl rfl dX6_latestFault_34 rfl ?_
    exact q_iret E hW h dX6_latestFault_37
  by_cases c12 : a1 = 2
  · have h := h4 c12
    refine q_tin (t := 38) 2 E c12 (by decide) dX6_latestFault_1 (by decide) rfl (by decide) ?_
    refine q_aload_n (n := 39) (q := 0) E.1 hl rfl dX6_latestFault_38 rfl rfl ?_
    refine q_get (n := 42) (k := 7) (fs := (fs47 X)) (v := .int (jI (M 47 7))) E hW (by decide) (fun _ => rfl) K6 (by decide) w150 rfl rfl dX6_latestFault_39 rfl ?_
    obtain ⟨g8, h9, h10⟩ := h
    refine q_if_eq (t := 49) (n := 45) E.1 g8 dX6_latestFault_42 (by decide) rfl (fun c11 => ?_) (fun c11 => ?_)
    · have h := h9 c11
      refine q_iconst (n := 50) E.1 dX6_latestFault_49 rfl ?_
      exact q_iret E hW h dX6_latestFault_50
    · have h := h10 c11
      refine q_iconst (n := 46) E.1 dX6_latestFault_45 rfl ?_
      refine q_goto (n := 50) E.1 dX6_latestFault_46 (by decide) ?_
      exact q_iret E hW h dX6_latestFault_50
  have c13 : a1 < 0 ∨ 2 < a1 := by omega
  have h := h5 c13
  refine q_tout (t := 51) E g1 c13 dX6_latestFault_1 (by decide) ?_
  refine q_iconst (n := 52) E.1 dX6_latestFault_51 rfl ?_
  exact q_iret E hW h dX6_latestFault_52
end
