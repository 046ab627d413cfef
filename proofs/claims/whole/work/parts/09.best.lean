/-! Best -/
section
variable {X : Cx} {p : Program} {l : Launch} {e : Env} {R : Room} {s : State} {m : MethodId} {args : Array Value} {below : List Frame} {meth : Method} {c : Code}
/-! StickerPress$Best.forget()V -/
theorem dX0_forget_0 : decode cX0_forget 0 = .ok (.aload_n 0, 1) := by decide +kernel
theorem dX0_forget_1 : decode cX0_forget 1 = .ok (.iconst 0, 1) := by decide +kernel
theorem dX0_forget_2 : decode cX0_forget 2 = .ok (.putfield 31, 3) := by decide +kernel
theorem dX0_forget_5 : decode cX0_forget 5 = .ok (.return_, 1) := by decide +kernel
def wp_X0_forget (M : Mem) (Q : Mem → Prop) : Prop := Q (up M 57 6 0)
set_option maxHeartbeats 4000000 in
set_option maxRecDepth 100000 in
theorem c_X0_forget (l : Launch) (X : Cx) (hI : Inj X) (M : Mem) (Q : Mem → Prop) (h : wp_X0_forget M Q) : MV X l yX0_forget cX0_forget 1 0 [.ref (xA X 57)] M Q := by
  refine MV.of hI (by decide) (Nat.le_of_ble_eq_true rfl) ?_
  intro p e R s m args below meth c ls E hW hl
  have E : En X (AW X) 0 p R s m args meth c cX0_forget RX0 1 none 0 0 := E
  have hl : lv_has ls 1 [(0, .ref (xA X 57))] := hl
  unfold wp_X0_forget at h
  refine q_aload_n (n := 1) (q := 0) E.1 hl rfl dX0_forget_0 rfl rfl ?_
  refine q_iconst (n := 2) E.1 dX0_forget_1 rfl ?_
  refine q_put (n := 5) (k := 6) (fs := (fs57 X)) E hW (by decide) (fun _ => rfl) K0 (by decide) w221 rfl rfl ⟨nar_bool (Or.inl rfl), fit_bool (Or.inl rfl)⟩ (Nat.le_of_ble_eq_true rfl) (fun _ => rfl) dX0_forget_2 rfl (fun H locs hW => ?_)
  exact q_vret E hW h dX0_forget_5
/-! StickerPress$Best.countAll(LStickerPress$Labels;LStickerPress$Sheets;)V -/
theorem dX0_countAll_0 : decode cX0_countAll 0 = .ok (.iconst 0, 1) := by decide +kernel
theorem dX0_countAll_1 : decode cX0_countAll 1 = .ok (.istore_n 3, 1) := by decide +kernel
theorem dX0_countAll_2 : decode cX0_countAll 2 = .ok (.iload_n 3, 1) := by decide +kernel
theorem dX0_countAll_3 : decode cX0_countAll 3 = .ok (.bipush 6, 2) := by decide +kernel
theorem dX0_countAll_5 : decode cX0_countAll 5 = .ok (.if_icmp .ge 20, 3) := by decide +kernel
theorem dX0_countAll_8 : decode cX0_countAll 8 = .ok (.aload_n 0, 1) := by decide +kernel
theorem dX0_countAll_9 : decode cX0_countAll 9 = .ok (.getfield 9, 3) := by decide +kernel
theorem dX0_countAll_12 : decode cX0_countAll 12 = .ok (.iload_n 3, 1) := by decide +kernel
theorem dX0_countAll_13 : decode cX0_countAll 13 = .ok (.aload_n 1, 1) := by decide +kernel
theorem dX0_countAll_14 : decode cX0_countAll 14 = .ok (.iload_n 3, 1) := by decide +kernel
theorem dX0_countAll_15 : decode cX0_countAll 15 = .ok (.invokevirtual 76, 3) := by decide +kernel
theorem dX0_countAll_18 : decode cX0_countAll 18 = .ok (.iastore, 1) := by decide +kernel
theorem dX0_countAll_19 : decode cX0_countAll 19 = .ok (.iinc 3 1, 3) := by decide +kernel
theorem dX0_countAll_22 : decode cX0_countAll 22 = .ok (.goto (-20), 3) := by decide +kernel
theorem dX0_countAll_25 : decode cX0_countAll 25 = .ok (.iconst 0, 1) := by decide +kernel
theorem dX0_countAll_26 : decode cX0_countAll 26 = .ok (.istore_n 3, 1) := by decide +kernel
theorem dX0_countAll_27 : decode cX0_countAll 27 = .ok (.iload_n 3, 1) := by decide +kernel
theorem dX0_countAll_28 : decode cX0_countAll 28 = .ok (.iconst 3, 1) := by decide +kernel
theorem dX0_countAll_29 : decode cX0_countAll 29 = .ok (.if_icmp .ge 20, 3) := by decide +kernel
theorem dX0_countAll_32 : decode cX0_countAll 32 = .ok (.aload_n 0, 1) := by decide +kernel
theorem dX0_countAll_33 : decode cX0_countAll 33 = .ok (.getfield 15, 3) := by decide +kernel
theorem dX0_countAll_36 : decode cX0_countAll 36 = .ok (.iload_n 3, 1) := by decide +kernel
theorem dX0_countAll_37 : decode cX0_countAll 37 = .ok (.aload_n 2, 1) := by decide +kernel
theorem dX0_countAll_38 : decode cX0_countAll 38 = .ok (.iload_n 3, 1) := by decide +kernel
theorem dX0_countAll_39 : decode cX0_countAll 39 = .ok (.invokevirtual 82, 3) := by decide +kernel
theorem dX0_countAll_42 : decode cX0_countAll 42 = .ok (.iastore, 1) := by decide +kernel
theorem dX0_countAll_43 : decode cX0_countAll 43 = .ok (.iinc 3 1, 3) := by decide +kernel
theorem dX0_countAll_46 : decode cX0_countAll 46 = .ok (.goto (-19), 3) := by decide +kernel
theorem dX0_countAll_49 : decode cX0_countAll 49 = .ok (.aload_n 0, 1) := by decide +kernel
theorem dX0_countAll_50 : decode cX0_countAll 50 = .ok (.aload_n 1, 1) := by decide +kernel
theorem dX0_countAll_51 : decode cX0_countAll 51 = .ok (.invokevirtual 87, 3) := by decide +kernel
theorem dX0_countAll_54 : decode cX0_countAll 54 = .ok (.putfield 27, 3) := by decide +kernel
theorem dX0_countAll_57 : decode cX0_countAll 57 = .ok (.return_, 1) := by decide +kernel
theorem Y_RX0_76 : YV RX0 76 RX1 yX1_waitingIn cX1_waitingIn 2 (some .int) 1 := ⟨w520, w559, w518, w519, w49, by decide +kernel, by decide⟩
theorem Y_RX0_82 : YV RX0 82 RX5 yX5_freeIn cX5_freeIn 2 (some .int) 1 := ⟨w544, w560, w542, w543, w50, by decide +kernel, by decide⟩
theorem Y_RX0_87 : YV RX0 87 RX1 yX1_allWaiting cX1_allWaiting 3 (some .int) 0 := ⟨w536, w561, w534, w535, w49, by decide +kernel, by decide⟩
def wp_X0_countAll_27 (Q : Mem → Prop) : Nat → Int → Mem → Prop
  | 0, _, _ => False
  | n + 1, x3, M => (Rg x3 ∧ (3 ≤ x3 → wp_X1_allWaiting  M (fun r6 M5 => Q (up M5 57 5 r6))) ∧ (¬ (3 ≤ x3) → wp_X5_freeIn x3 M (fun r8 M7 => (0 ≤ x3 ∧ x3 < 3) ∧ wp_X0_countAll_27 Q n (x3 + 1) (up M7 90 x3.toNat r8))))
set_option maxHeartbeats 4000000 in
set_option maxRecDepth 100000 in
theorem v_X0_countAll_27 (E : En X (AW X) 2 p R s m args meth c cX0_countAll RX0 4 none 0 0) (Q : Mem → Prop) : ∀ n : Nat, ∀ (x3 : Int) (M : Mem) (H : Heap) (locs : List Loc) (ls : Array Slot), wp_X0_countAll_27 Q n x3 M → Wd X (AW X) s M H locs → lv_has ls 4 [(0, .ref (xA X 57)), (1, .ref (xA X 48)), (2, .ref (xA X 53)), (3, .int (jI x3))] → W p l e R s m args below meth c H locs 0 0 (MQ below (QV X Q) args s 0 0 (AW X)) (F0 m 27 ls []) := by
  intro n
  induction n with
  | zero => intro x3 M H locs ls h; exact absurd h (by simp [wp_X0_countAll_27])
  | succ n ih =>
    intro x3 M H locs ls h hW hl
    rw [wp_X0_countAll_27] at h
    refine q_iload_n (n := 28) (q := 3) E.1 hl rfl dX0_countAll_27 rfl rfl ?_
    refine q_iconst (n := 29) E.1 dX0_countAll_28 rfl ?_
    obtain ⟨g1, h2, h3⟩ := h
    refine q_icmp_ge (t := 49) (n := 32) E.1 g1 (by decide) dX0_countAll_29 (by decide) rfl (fun c4 => ?_) (fun c4 => ?_)
    · have h := h2 c4
      refine q_aload_n (n := 50) (q := 0) E.1 hl rfl dX0_countAll_49 rfl rfl ?_
      refine q_aload_n (n := 51) (q := 1) E.1 hl rfl dX0_countAll_50 rfl rfl ?_
      refine q_callVi (n := 54) (fs := (fs48 X)) [] E hW hl.1 (by decide) (fun _ => rfl) K1 (c_X1_allWaiting l X E.2.2.1.1   _ _ h) (by decide) Y_RX0_87 rfl (rest := [.ref (xA X 57)]) rfl (Nat.le_of_ble_eq_true rfl) dX0_countAll_51 rfl (fun r6 M5 H locs h hW => ?_)
      refine q_put (n := 57) (k := 5) (fs := (fs57 X)) E hW (by decide) (fun _ => rfl) K0 (by decide) w220 rfl rfl ⟨rfl, rfl⟩ (Nat.le_of_ble_eq_true rfl) (fun _ => rfl) dX0_countAll_54 rfl (fun H locs hW => ?_)
      exact q_vret E hW h dX0_countAll_57
    · have h := h3 c4
      refine q_aload_n (n := 33) (q := 0) E.1 hl rfl dX0_countAll_32 rfl rfl ?_
      refine q_get (n := 36) (k := 1) (fs := (fs57 X)) (v := .ref (xA X 90)) E hW (by decide) (fun _ => rfl) K0 (by decide) w216 rfl rfl dX0_countAll_33 rfl ?_
      refine q_iload_n (n := 37) (q := 3) E.1 hl rfl dX0_countAll_36 rfl rfl ?_
      refine q_aload_n (n := 38) (q := 2) E.1 hl rfl dX0_countAll_37 rfl rfl ?_
      refine q_iload_n (n := 39) (q := 3) E.1 hl rfl dX0_countAll_38 rfl rfl ?_
      refine q_callVi (n := 42) (fs := (fs53 X)) [.int (jI x3)] E hW hl.1 (by decide) (fun _ => rfl) K5 (c_X5_freeIn l X E.2.2.1.1 x3  _ _ h) (by decide) Y_RX0_82 rfl (rest := [.int (jI x3), .ref (xA X 90)]) rfl (Nat.le_of_ble_eq_true rfl) dX0_countAll_39 rfl (fun r8 M7 H locs h hW => ?_)
      obtain ⟨g9, h⟩ := h
      refine q_iast (n := 43) E hW (by decide) (fun _ => rfl) (by decide) g9 dX0_countAll_42 rfl (fun H locs hW => ?_)
      refine q_iinc (n := 46) (q := 3) [(3, .int (jI (x3 + 1))), (0, .ref (xA X 57)), (1, .ref (xA X 48)), (2, .ref (xA X 53))] E.1 hl rfl dX0_countAll_43 (by decide) rfl rfl (fun ls hl => ?_)
      refine q_goto (n := 27) E.1 dX0_countAll_46 (by decide) ?_
      exact ih _ _ _ _ _ h hW (lv_sub hl [1, 2, 3, 0] rfl)
def wp_X0_countAll_2 (Q : Mem → Prop) : Nat → Int → Mem → Prop
  | 0, _, _ => False
  | n + 1, x3, M => (Rg x3 ∧ (6 ≤ x3 → (∃ n2 : Nat, wp_X0_countAll_27 Q n2 0 M)) ∧ (¬ (6 ≤ x3) → wp_X1_waitingIn x3 M (fun r7 M6 => (0 ≤ x3 ∧ x3 < 6) ∧ wp_X0_countAll_2 Q n (x3 + 1) (up M6 58 x3.toNat r7))))
set_option maxHeartbeats 4000000 in
set_option maxRecDepth 100000 in
theorem v_X0_countAll_2 (E : En X (AW X) 2 p R s m args meth c cX0_countAll RX0 4 none 0 0) (Q : Mem → Prop) : ∀ n : Nat, ∀ (x3 : Int) (M : Mem) (H : Heap) (locs : List Loc) (ls : Array Slot), wp_X0_countAll_2 Q n x3 M → Wd X (AW X) s M H locs → lv_has ls 4 [(0, .ref (xA X 57)), (1, .ref (xA X 48)), (2, .ref (xA X 53)), (3, .int (jI x3))] → W p l e R s m args below meth c H locs 0 0 (MQ below (QV X Q) args s 0 0 (AW X)) (F0 m 2 ls []) := by
  intro n
  induction n with
  | zero => intro x3 M H locs ls h; exact absurd h (by simp [wp_X0_countAll_2])
  | succ n ih =>
    intro x3 M H locs ls h hW hl
    rw [wp_X0_countAll_2] at h
    refine q_iload_n (n := 3) (q := 3) E.1 hl rfl dX0_countAll_2 rfl rfl ?_
    refine q_bipush (n := 5) E.1 dX0_countAll_3 (by decide) rfl ?_
    obtain ⟨g1, h2, h3⟩ := h
    refine q_icmp_ge (t := 25) (n := 8) E.1 g1 (by decide) dX0_countAll_5 (by decide) rfl (fun c4 => ?_) (fun c4 => ?_)
    · have h := h2 c4
      refine q_iconst (n := 26) E.1 dX0_countAll_25 rfl ?_
      refine q_istore_n (n := 27) [(3, .int (jI 0)), (0, .ref (xA X 57)), (1, .ref (xA X 48)), (2, .ref (xA X 53))] E.1 hl dX0_countAll_26 rfl (by decide) rfl rfl (fun ls hl => ?_)
      obtain ⟨n5, h⟩ := h
      exact v_X0_countAll_27 E Q n5 _ _ _ _ _ h hW (lv_sub hl [1, 2, 3, 0] rfl)
    · have h := h3 c4
      refine q_aload_n (n := 9) (q := 0) E.1 hl rfl dX0_countAll_8 rfl rfl ?_
      refine q_get (n := 12) (k := 0) (fs := (fs57 X)) (v := .ref (xA X 58)) E hW (by decide) (fun _ => rfl) K0 (by decide) w215 rfl rfl dX0_countAll_9 rfl ?_
      refine q_iload_n (n := 13) (q := 3) E.1 hl rfl dX0_countAll_12 rfl rfl ?_
      refine q_aload_n (n := 14) (q := 1) E.1 hl rfl dX0_countAll_13 rfl rfl ?_
      refine q_iload_n (n := 15) (q := 3) E.1 hl rfl dX0_countAll_14 rfl rfl ?_
      refine q_callVi (n := 18) (fs := (fs48 X)) [.int (jI x3)] E hW hl.1 (by decide) (fun _ => rfl) K1 (c_X1_waitingIn l X E.2.2.1.1 x3  _ _ h) (by decide) Y_RX0_76 rfl (rest := [.int (jI x3), .ref (xA X 58)]) rfl (Nat.le_of_ble_eq_true rfl) dX0_countAll_15 rfl (fun r7 M6 H locs h hW => ?_)
      obtain ⟨g8, h⟩ := h
      refine q_iast (n := 19) E hW (by decide) (fun _ => rfl) (by decide) g8 dX0_countAll_18 rfl (fun H locs hW => ?_)
      refine q_iinc (n := 22) (q := 3) [(3, .int (jI (x3 + 1))), (0, .ref (xA X 57)), (1, .ref (xA X 48)), (2, .ref (xA X 53))] E.1 hl rfl dX0_countAll_19 (by decide) rfl rfl (fun ls hl => ?_)
      refine q_goto (n := 2) E.1 dX0_countAll_22 (by decide) ?_
      exact ih _ _ _ _ _ h hW (lv_sub hl [1, 2, 3, 0] rfl)
def wp_X0_countAll (M : Mem) (Q : Mem → Prop) : Prop := (∃ n : Nat, wp_X0_countAll_2 Q n 0 M)
set_option maxHeartbeats 4000000 in
set_option maxRecDepth 100000 in
theorem c_X0_countAll (l : Launch) (X : Cx) (hI : Inj X) (M : Mem) (Q : Mem → Prop) (h : wp_X0_countAll M Q) : MV X l yX0_countAll cX0_countAll 4 2 [.ref (xA X 57), .ref (xA X 48), .ref (xA X 53)] M Q := by
  refine MV.of hI (by decide) (Nat.le_of_ble_eq_true rfl) ?_
  intro p e R s m args below meth c ls E hW hl
  have E : En X (AW X) 2 p R s m args meth c cX0_countAll RX0 4 none 0 0 := E
  have hl : lv_has ls 4 [(0, .ref (xA X 57)), (1, .ref (xA X 48)), (2, .ref (xA X 53))] := hl
  unfold wp_X0_countAll at h
  refine q_iconst (n := 1) E.1 dX0_countAll_0 rfl ?_
  refine q_istore_n (n := 2) [(3, .int (jI 0)), (0, .ref (xA X 57)), (1, .ref (xA X 48)), (2, .ref (xA X 53))] E.1 hl dX0_countAll_1 rfl (by decide) rfl rfl (fun ls hl => ?_)
  obtain ⟨n1, h⟩ := h
  exact v_X0_countAll_2 E Q n1 _ _ _ _ _ h hW (lv_sub hl [1, 2, 3, 0] rfl)
/-! StickerPress$Best.exists()Z -/
theorem dX0_exists_0 : decode cX0_exists 0 = .ok (.aload_n 0, 1) := by decide +kernel
theorem dX0_exists_1 : decode cX0_exists 1 = .ok (.getfield 36, 3) := by decide +kernel
theorem dX0_exists_4 : decode cX0_exists 4 = .ok (.ldc 35, 2) := by decide +kernel
theorem dX0_exists_6 : decode cX0_exists 6 = .ok (.if_icmp .eq 7, 3) := by decide +kernel
theorem dX0_exists_9 : decode cX0_exists 9 = .ok (.iconst 1, 1) := by decide +kernel
theorem dX0_exists_10 : decode cX0_exists 10 = .ok (.goto 4, 3) := by decide +kernel
theorem dX0_exists_13 : decode cX0_exists 13 = .ok (.iconst 0, 1) := by decide +kernel
theorem dX0_exists_14 : decode cX0_exists 14 = .ok (.ireturn, 1) := by decide +kernel
def wp_X0_exists (M : Mem) (Q : Int → Mem → Prop) : Prop := (Rg (M 57 7) ∧ ((M 57 7) = 1048576 → Q 0 M) ∧ (¬ ((M 57 7) = 1048576) → Q 1 M))
set_option maxHeartbeats 4000000 in
set_option maxRecDepth 100000 in
theorem c_X0_exists (l : Launch) (X : Cx) (hI : Inj X) (M : Mem) (Q : Int → Mem → Prop) (h : wp_X0_exists M Q) : MI X l yX0_exists cX0_exists 1 (some .boolean) 0 [.ref (xA X 57)] M Q := by
  refine MI.of hI (by decide) (Nat.le_of_ble_eq_true rfl) ?_
  intro p e R s m args below meth c ls E hW hl
  have E : En X (AW X) 0 p R s m args meth c cX0_exists RX0 1 (some .boolean) 0 0 := E
  have hl : lv_has ls 1 [(0, .ref (xA X 57))] := hl
  unfold wp_X0_exists at h
  refine q_aload_n (n := 1) (q := 0) E.1 hl rfl dX0_exists_0 rfl rfl ?_
  refine q_get (n := 4) (k := 7) (fs := (fs57 X)) (v := .int (jI (M 57 7))) E hW (by decide) (fun _ => rfl) K0 (by decide) w222 rfl rfl dX0_exists_1 rfl ?_
  refine q_ldc (n := 6) (z := 1048576) E.1 w214 (by decide) dX0_exists_4 rfl ?_
  obtain ⟨g1, h2, h3⟩ := h
  refine q_icmp_eq (t := 13) (n := 9) E.1 g1 (by decide) dX0_exists_6 (by decide) rfl (fun c4 => ?_) (fun c4 => ?_)
  · have h := h2 c4
    refine q_iconst (n := 14) E.1 dX0_exists_13 rfl ?_
    exact q_zret E hW (Or.inl rfl) h dX0_exists_14
  · have h := h3 c4
    refine q_iconst (n := 10) E.1 dX0_exists_9 rfl ?_
    refine q_goto (n := 14) E.1 dX0_exists_10 (by decide) ?_
    exact q_zret E hW (Or.inr rfl) h dX0_exists_14
/-! StickerPress$Best.groupShift(I)I -/
theorem dX0_groupShift_0 : decode cX0_groupShift 0 = .ok (.iconst 2, 1) := by decide +kernel
theorem dX0_groupShift_1 : decode cX0_groupShift 1 = .ok (.iconst 5, 1) := by decide +kernel
theorem dX0_groupShift_2 : decode cX0_groupShift 2 = .ok (.iload_n 0, 1) := by decide +kernel
theorem dX0_groupShift_3 : decode cX0_groupShift 3 = .ok (.isub, 1) := by decide +kernel
theorem dX0_groupShift_4 : decode cX0_groupShift 4 = .ok (.imul, 1) := by decide +kernel
theorem dX0_groupShift_5 : decode cX0_groupShift 5 = .ok (.ireturn, 1) := by decide +kernel
def wp_X0_groupShift (a0 : Int) (M : Mem) (Q : Int → Mem → Prop) : Prop := Q (2 * (5 - a0)) M
set_option maxHeartbeats 4000000 in
set_option maxRecDepth 100000 in
theorem c_X0_groupShift (l : Launch) (X : Cx) (hI : Inj X) (a0 : Int) (M : Mem) (Q : Int → Mem → Prop) (h : wp_X0_groupShift a0 M Q) : MI X l yX0_groupShift cX0_groupShift 1 (some .int) 0 [.int (jI a0)] M Q := by
  refine MI.of hI (by decide) (Nat.le_of_ble_eq_true rfl) ?_
  intro p e R s m args below meth c ls E hW hl
  have E : En X (AW X) 0 p R s m args meth c cX0_groupShift RX0 1 (some .int) 0 0 := E
  have hl : lv_has ls 1 [(0, .int (jI a0))] := hl
  unfold wp_X0_groupShift at h
  refine q_iconst (n := 1) E.1 dX0_groupShift_0 rfl ?_
  refine q_iconst (n := 2) E.1 dX0_groupShift_1 rfl ?_
  refine q_iload_n (n := 3) (q := 0) E.1 hl rfl dX0_groupShift_2 rfl rfl ?_
  refine q_isub (n := 4) E.1 dX0_groupShift_3 rfl ?_
  refine q_imul (n := 5) E.1 dX0_groupShift_4 rfl ?_
  exact q_iret E hW h dX0_groupShift_5
/-! StickerPress$Best.groupHeap(II)I -/
theorem dX0_groupHeap_0 : decode cX0_groupHeap 0 = .ok (.iload_n 0, 1) := by decide +kernel
theorem dX0_groupHeap_1 : decode cX0_groupHeap 1 = .ok (.iload_n 1, 1) := by decide +kernel
theorem dX0_groupHeap_2 : decode cX0_groupHeap 2 = .ok (.invokestatic 133, 3) := by decide +kernel
theorem dX0_groupHeap_5 : decode cX0_groupHeap 5 = .ok (.ishr, 1) := by decide +kernel
theorem dX0_groupHeap_6 : decode cX0_groupHeap 6 = .ok (.iconst 3, 1) := by decide +kernel
theorem dX0_groupHeap_7 : decode cX0_groupHeap 7 = .ok (.iand, 1) := by decide +kernel
theorem dX0_groupHeap_8 : decode cX0_groupHeap 8 = .ok (.ireturn, 1) := by decide +kernel
theorem Y_RX0_133 : YS RX0 133 yX0_groupShift cX0_groupShift 1 (some .int) 1 := ⟨w587, w585, w586, w51, by decide +kernel, by decide⟩
def wp_X0_groupHeap (a0 : Int) (a1 : Int) (M : Mem) (Q : Int → Mem → Prop) : Prop := wp_X0_groupShift a1 M (fun r2 M1 => Q (bAnd (bShr a0 r2) 3) M1)
set_option maxHeartbeats 4000000 in
set_option maxRecDepth 100000 in
theorem c_X0_groupHeap (l : Launch) (X : Cx) (hI : Inj X) (a0 : Int) (a1 : Int) (M : Mem) (Q : Int → Mem → Prop) (h : wp_X0_groupHeap a0 a1 M Q) : MI X l yX0_groupHeap cX0_groupHeap 2 (some .int) 1 [.int (jI a0), .int (jI a1)] M Q := by
  refine MI.of hI (by decide) (Nat.le_of_ble_eq_true rfl) ?_
  intro p e R s m args below meth c ls E hW hl
  have E : En X (AW X) 1 p R s m args meth c cX0_groupHeap RX0 2 (some .int) 0 0 := E
  have hl : lv_has ls 2 [(0, .int (jI a0)), (1, .int (jI a1))] := hl
  unfold wp_X0_groupHeap at h
  refine q_iload_n (n := 1) (q := 0) E.1 hl rfl dX0_groupHeap_0 rfl rfl ?_
  refine q_iload_n (n := 2) (q := 1) E.1 hl rfl dX0_groupHeap_1 rfl rfl ?_
  refine q_callSi (n := 5) [.int (jI a1)] E hW hl.1 (c_X0_groupShift l X E.2.2.1.1 a1  _ _ h) (by decide) Y_RX0_133 rfl (rest := [.int (jI a0)]) rfl (Nat.le_of_ble_eq_true rfl) dX0_groupHeap_2 rfl (fun r2 M1 H locs h hW => ?_)
  refine q_ishr (n := 6) E.1 dX0_groupHeap_5 rfl ?_
  refine q_iconst (n := 7) E.1 dX0_groupHeap_6 rfl ?_
  refine q_iand (n := 8) E.1 dX0_groupHeap_7 rfl ?_
  exact q_iret E hW h dX0_groupHeap_8
/-! StickerPress$Best.sheetHeap(II)I -/
theorem dX0_sheetHeap_0 : decode cX0_sheetHeap 0 = .ok (.iload_n 0, 1) := by decide +kernel
theorem dX0_sheetHeap_1 : decode cX0_sheetHeap 1 = .ok (.iconst 2, 1) := by decide +kernel
theorem dX0_sheetHeap_2 : decode cX0_sheetHeap 2 = .ok (.iconst 2, 1) := by decide +kernel
theorem dX0_sheetHeap_3 : decode cX0_sheetHeap 3 = .ok (.iload_n 1, 1) := by decide +kernel
theorem dX0_sheetHeap_4 : decode cX0_sheetHeap 4 = .ok (.isub, 1) := by decide +kernel
theorem dX0_sheetHeap_5 : decode cX0_sheetHeap 5 = .ok (.imul, 1) := by decide +kernel
theorem dX0_sheetHeap_6 : decode cX0_sheetHeap 6 = .ok (.ishr, 1) := by decide +kernel
theorem dX0_sheetHeap_7 : decode cX0_sheetHeap 7 = .ok (.iconst 3, 1) := by decide +kernel
theorem dX0_sheetHeap_8 : decode cX0_sheetHeap 8 = .ok (.iand, 1) := by decide +kernel
theorem dX0_sheetHeap_9 : decode cX0_sheetHeap 9 = .ok (.ireturn, 1) := by decide +kernel
def wp_X0_sheetHeap (a0 : Int) (a1 : Int) (M : Mem) (Q : Int → Mem → Prop) : Prop := Q (bAnd (bShr a0 (2 * (2 - a1))) 3) M
set_option maxHeartbeats 4000000 in
set_option maxRecDepth 100000 in
theorem c_X0_sheetHeap (l : Launch) (X : Cx) (hI : Inj X) (a0 : Int) (a1 : Int) (M : Mem) (Q : Int → Mem → Prop) (h : wp_X0_sheetHeap a0 a1 M Q) : MI X l yX0_sheetHeap cX0_sheetHeap 2 (some .int) 0 [.int (jI a0), .int (jI a1)] M Q := by
  refine MI.of hI (by decide) (Nat.le_of_ble_eq_true rfl) ?_
  intro p e R s m args below meth c ls E hW hl
  have E : En X (AW X) 0 p R s m args meth c cX0_sheetHeap RX0 2 (some .int) 0 0 := E
  have hl : lv_has ls 2 [(0, .int (jI a0)), (1, .int (jI a1))] := hl
  unfold wp_X0_sheetHeap at h
  refine q_iload_n (n := 1) (q := 0) E.1 hl rfl dX0_sheetHeap_0 rfl rfl ?_
  refine q_iconst (n := 2) E.1 dX0_sheetHeap_1 rfl ?_
  refine q_iconst (n := 3) E.1 dX0_sheetHeap_2 rfl ?_
  refine q_iload_n (n := 4) (q := 1) E.1 hl rfl dX0_sheetHeap_3 rfl rfl ?_
  refine q_isub (n := 5) E.1 dX0_sheetHeap_4 rfl ?_
  refine q_imul (n := 6) E.1 dX0_sheetHeap_5 rfl ?_
  refine q_ishr (n := 7) E.1 dX0_sheetHeap_6 rfl ?_
  refine q_iconst (n := 8) E.1 dX0_sheetHeap_7 rfl ?_
  refine q_iand (n := 9) E.1 dX0_sheetHeap_8 rfl ?_
  exact q_iret E hW h dX0_sheetHeap_9
/-! StickerPress$Best.layLabel(IILStickerPress$Sheets;)V -/
theorem dX0_layLabel_0 : decode cX0_layLabel 0 = .ok (.iload_n 2, 1) := by decide +kernel
theorem dX0_layLabel_1 : decode cX0_layLabel 1 = .ok (.iconst 3, 1) := by decide +kernel
theorem dX0_layLabel_2 : decode cX0_layLabel 2 = .ok (.if_icmp .lt 4, 3) := by decide +kernel
theorem dX0_layLabel_5 : decode cX0_layLabel 5 = .ok (.return_, 1) := by decide +kernel
theorem dX0_layLabel_6 : decode cX0_layLabel 6 = .ok (.aload_n 0, 1) := by decide +kernel
theorem dX0_layLabel_7 : decode cX0_layLabel 7 = .ok (.getfield 21, 3) := by decide +kernel
theorem dX0_layLabel_10 : decode cX0_layLabel 10 = .ok (.iload_n 2, 1) := by decide +kernel
theorem dX0_layLabel_11 : decode cX0_layLabel 11 = .ok (.iaload, 1) := by decide +kernel
theorem dX0_layLabel_12 : decode cX0_layLabel 12 = .ok (.istore 4, 2) := by decide +kernel
theorem dX0_layLabel_14 : decode cX0_layLabel 14 = .ok (.iload 4, 2) := by decide +kernel
theorem dX0_layLabel_16 : decode cX0_layLabel 16 = .ok (.bipush 120, 2) := by decide +kernel
theorem dX0_layLabel_18 : decode cX0_layLabel 18 = .ok (.if_icmp .ge 53, 3) := by decide +kernel
theorem dX0_layLabel_21 : decode cX0_layLabel 21 = .ok (.aload_n 0, 1) := by decide +kernel
theorem dX0_layLabel_22 : decode cX0_layLabel 22 = .ok (.getfield 42, 3) := by decide +kernel
theorem dX0_layLabel_25 : decode cX0_layLabel 25 = .ok (.iload 4, 2) := by decide +kernel
theorem dX0_layLabel_27 : decode cX0_layLabel 27 = .ok (.bipush 40, 2) := by decide +kernel
theorem dX0_layLabel_29 : decode cX0_layLabel 29 = .ok (.idiv, 1) := by decide +kernel
theorem dX0_layLabel_30 : decode cX0_layLabel 30 = .ok (.invokestatic 70, 3) := by decide +kernel
theorem dX0_layLabel_33 : decode cX0_layLabel 33 = .ok (.iload_n 2, 1) := by decide +kernel
theorem dX0_layLabel_34 : decode cX0_layLabel 34 = .ok (.if_icmp .ne 31, 3) := by decide +kernel
theorem dX0_layLabel_37 : decode cX0_layLabel 37 = .ok (.aload_n 3, 1) := by decide +kernel
theorem dX0_layLabel_38 : decode cX0_layLabel 38 = .ok (.iload 4, 2) := by decide +kernel
theorem dX0_layLabel_40 : decode cX0_layLabel 40 = .ok (.invokevirtual 120, 3) := by decide +kernel
theorem dX0_layLabel_43 : decode cX0_layLabel 43 = .ok (.ifCond .eq 22, 3) := by decide +kernel
theorem dX0_layLabel_46 : decode cX0_layLabel 46 = .ok (.aload_n 0, 1) := by decide +kernel
theorem dX0_layLabel_47 : decode cX0_layLabel 47 = .ok (.getfield 24, 3) := by decide +kernel
theorem dX0_layLabel_50 : decode cX0_layLabel 50 = .ok (.iload 4, 2) := by decide +kernel
theorem dX0_layLabel_52 : decode cX0_layLabel 52 = .ok (.iload_n 1, 1) := by decide +kernel
theorem dX0_layLabel_53 : decode cX0_layLabel 53 = .ok (.iastore, 1) := by decide +kernel
theorem dX0_layLabel_54 : decode cX0_layLabel 54 = .ok (.aload_n 0, 1) := by decide +kernel
theorem dX0_layLabel_55 : decode cX0_layLabel 55 = .ok (.getfield 21, 3) := by decide +kernel
theorem dX0_layLabel_58 : decode cX0_layLabel 58 = .ok (.iload_n 2, 1) := by decide +kernel
theorem dX0_layLabel_59 : decode cX0_layLabel 59 = .ok (.iload 4, 2) := by decide +kernel
theorem dX0_layLabel_61 : decode cX0_layLabel 61 = .ok (.iconst 1, 1) := by decide +kernel
theorem dX0_layLabel_62 : decode cX0_layLabel 62 = .ok (.iadd, 1) := by decide +kernel
theorem dX0_layLabel_63 : decode cX0_layLabel 63 = .ok (.iastore, 1) := by decide +kernel
theorem dX0_layLabel_64 : decode cX0_layLabel 64 = .ok (.return_, 1) := by decide +kernel
theorem dX0_layLabel_65 : decode cX0_layLabel 65 = .ok (.iinc 4 1, 3) := by decide +kernel
theorem dX0_layLabel_68 : decode cX0_layLabel 68 = .ok (.goto (-54), 3) := by decide +kernel
theorem dX0_layLabel_71 : decode cX0_layLabel 71 = .ok (.return_, 1) := by decide +kernel
theorem Y_RX0_120 : YV RX0 120 RX5 yX5_isFree cX5_isFree 2 (some .boolean) 1 := ⟨w619, w616, w617, w618, w50, by decide +kernel, by decide⟩
theorem Y_RX0_70 : YS RX0 70 yX0_sheetHeap cX0_sheetHeap 2 (some .int) 2 := ⟨w575, w573, w574, w51, by decide +kernel, by decide⟩
def wp_X0_layLabel_14 (a1 : Int) (a2 : Int) (Q : Mem → Prop) : Nat → Int → Mem → Prop
  | 0, _, _ => False
  | n + 1, x4, M => (Rg x4 ∧ (120 ≤ x4 → Q M) ∧ (¬ (120 ≤ x4) → (Rg x4 ∧ 0 ≤ x4) ∧ wp_X0_sheetHeap (M 57 9) (x4 / 40) M (fun r7 M6 => (Rg r7 ∧ Rg a2 ∧ (r7 ≠ a2 → wp_X0_layLabel_14 a1 a2 Q n (x4 + 1) M6) ∧ (¬ (r7 ≠ a2) → wp_X5_isFree x4 M6 (fun r14 M13 => (Rg r14 ∧ (r14 = 0 → wp_X0_layLabel_14 a1 a2 Q n (x4 + 1) M13) ∧ (¬ (r14 = 0) → (0 ≤ x4 ∧ x4 < 120) ∧ (0 ≤ a2 ∧ a2 < 3) ∧ Q (up (up M13 61 x4.toNat a1) 60 a2.toNat (x4 + 1))))))))))
set_option maxHeartbeats 4000000 in
set_option maxRecDepth 100000 in
theorem v_X0_layLabel_14 (a1 : Int) (a2 : Int) (E : En X (AW X) 2 p R s m args meth c cX0_layLabel RX0 5 none 0 0) (Q : Mem → Prop) : ∀ n : Nat, ∀ (x4 : Int) (M : Mem) (H : Heap) (locs : List Loc) (ls : Array Slot), wp_X0_layLabel_14 a1 a2 Q n x4 M → Wd X (AW X) s M H locs → lv_has ls 5 [(0, .ref (xA X 57)), (1, .int (jI a1)), (2, .int (jI a2)), (3, .ref (xA X 53)), (4, .int (jI x4))] → W p l e R s m args below meth c H locs 0 0 (MQ below (QV X Q) args s 0 0 (AW X)) (F0 m 14 ls []) := by
  intro n
  induction n with
  | zero => intro x4 M H locs ls h; exact absurd h (by simp [wp_X0_layLabel_14])
  | succ n ih =>
    intro x4 M H locs ls h hW hl
    rw [wp_X0_layLabel_14] at h
    refine q_iload (n := 16) (q := 4) E.1 hl rfl dX0_layLabel_14 rfl ?_
    refine q_bipush (n := 18) E.1 dX0_layLabel_16 (by decide) rfl ?_
    obtain ⟨g1, h2, h3⟩ := h
    refine q_icmp_ge (t := 71) (n := 21) E.1 g1 (by decide) dX0_layLabel_18 (by decide) rfl (fun c4 => ?_) (fun c4 => ?_)
    · have h := h2 c4
      exact q_vret E hW h dX0_layLabel_71
    · have h := h3 c4
      refine q_aload_n (n := 22) (q := 0) E.1 hl rfl dX0_layLabel_21 rfl rfl ?_
      refine q_get (n := 25) (k := 9) (fs := (fs57 X)) (v := .int (jI (M 57 9))) E hW (by decide) (fun _ => rfl) K0 (by decide) w224 rfl rfl dX0_layLabel_22 rfl ?_
      refine q_iload (n := 27) (q := 4) E.1 hl rfl dX0_layLabel_25 rfl ?_
      refine q_bipush (n := 29) E.1 dX0_layLabel_27 (by decide) rfl ?_
      obtain ⟨g5, h⟩ := h
      refine q_idiv (n := 30) E.1 g5 (by decide) dX0_layLabel_29 rfl ?_
      refine q_callSi (n := 33) [.int (jI (M 57 9)), .int (jI (x4 / 40))] E hW hl.1 (c_X0_sheetHeap l X E.2.2.1.1 (M 57 9) (x4 / 40)  _ _ h) (by decide) Y_RX0_70 rfl (rest := []) rfl (Nat.le_of_ble_eq_true rfl) dX0_layLabel_30 rfl (fun r7 M6 H locs h hW => ?_)
      refine q_iload_n (n := 34) (q := 2) E.1 hl rfl dX0_layLabel_33 rfl rfl ?_
      obtain ⟨g8, g9, h10, h11⟩ := h
      refine q_icmp_ne (t := 65) (n := 37) E.1 g8 g9 dX0_layLabel_34 (by decide) rfl (fun c12 => ?_) (fun c12 => ?_)
      · have h := h10 c12
        refine q_iinc (n := 68) (q := 4) [(4, .int (jI (x4 + 1))), (0, .ref (xA X 57)), (1, .int (jI a1)), (2, .int (jI a2)), (3, .ref (xA X 53))] E.1 hl rfl dX0_layLabel_65 (by decide) rfl rfl (fun ls hl => ?_)
        refine q_goto (n := 14) E.1 dX0_layLabel_68 (by decide) ?_
        exact ih _ _ _ _ _ h hW (lv_sub hl [1, 2, 3, 4, 0] rfl)
      · have h := h11 c12
        refine q_aload_n (n := 38) (q := 3) E.1 hl rfl dX0_layLabel_37 rfl rfl ?_
        refine q_iload (n := 40) (q := 4) E.1 hl rfl dX0_layLabel_38 rfl ?_
        refine q_callVi (n := 43) (fs := (fs53 X)) [.int (jI x4)] E hW hl.1 (by decide) (fun _ => rfl) K5 (c_X5_isFree l X E.2.2.1.1 x4  _ _ h) (by decide) Y_RX0_120 rfl (rest := []) rfl (Nat.le_of_ble_eq_true rfl) dX0_layLabel_40 rfl (fun r14 M13 H locs h hW => ?_)
        obtain ⟨g15, h16, h17⟩ := h
        refine q_if_eq (t := 65) (n := 46) E.1 g15 dX0_layLabel_43 (by decide) rfl (fun c18 => ?_) (fun c18 => ?_)
        · have h := h16 c18
          refine q_iinc (n := 68) (q := 4) [(4, .int (jI (x4 + 1))), (0, .ref (xA X 57)), (1, .int (jI a1)), (2, .int (jI a2)), (3, .ref (xA X 53))] E.1 hl rfl dX0_layLabel_65 (by decide) rfl rfl (fun ls hl => ?_)
          refine q_goto (n := 14) E.1 dX0_layLabel_68 (by decide) ?_
          exact ih _ _ _ _ _ h hW (lv_sub hl [1, 2, 3, 4, 0] rfl)
        · have h := h17 c18
          refine q_aload_n (n := 47) (q := 0) E.1 hl rfl dX0_layLabel_46 rfl rfl ?_
          refine q_get (n := 50) (k := 4) (fs := (fs57 X)) (v := .ref (xA X 61)) E hW (by decide) (fun _ => rfl) K0 (by decide) w219 rfl rfl dX0_layLabel_47 rfl ?_
          refine q_iload (n := 52) (q := 4) E.1 hl rfl dX0_layLabel_50 rfl ?_
          refine q_iload_n (n := 53) (q := 1) E.1 hl rfl dX0_layLabel_52 rfl rfl ?_
          obtain ⟨g19, h⟩ := h
          refine q_iast (n := 54) E hW (by decide) (fun _ => rfl) (by decide) g19 dX0_layLabel_53 rfl (fun H locs hW => ?_)
          refine q_aload_n (n := 55) (q := 0) E.1 hl rfl dX0_layLabel_54 rfl rfl ?_
          refine q_get (n := 58) (k := 3) (fs := (fs57 X)) (v := .ref (xA X 60)) E hW (by decide) (fun _ => rfl) K0 (by decide) w218 rfl rfl dX0_layLabel_55 rfl ?_
          refine q_iload_n (n := 59) (q := 2) E.1 hl rfl dX0_layLabel_58 rfl rfl ?_
          refine q_iload (n := 61) (q := 4) E.1 hl rfl dX0_layLabel_59 rfl ?_
          refine q_iconst (n := 62) E.1 dX0_layLabel_61 rfl ?_
          refine q_iadd (n := 63) E.1 dX0_layLabel_62 rfl ?_
          obtain ⟨g20, h⟩ := h
          refine q_iast (n := 64) E hW (by decide) (fun _ => rfl) (by decide) g20 dX0_layLabel_63 rfl (fun H locs hW => ?_)
          exact q_vret E hW h dX0_layLabel_64
def wp_X0_layLabel (a1 : Int) (a2 : Int) (M : Mem) (Q : Mem → Prop) : Prop := (Rg a2 ∧ (a2 < 3 → (0 ≤ a2 ∧ a2 < 3) ∧ (∃ n : Nat, wp_X0_layLabel_14 a1 a2 Q n (M 60 a2.toNat) M)) ∧ (¬ (a2 < 3) → Q M))
set_option maxHeartbeats 4000000 in
set_option maxRecDepth 100000 in
theorem c_X0_layLabel (l : Launch) (X : Cx) (hI : Inj X) (a1 : Int) (a2 : Int) (M : Mem) (Q : Mem → Prop) (h : wp_X0_layLabel a1 a2 M Q) : MV X l yX0_layLabel cX0_layLabel 5 2 [.ref (xA X 57), .int (jI a1), .int (jI a2), .ref (xA X 53)] M Q := by
  refine MV.of hI (by decide) (Nat.le_of_ble_eq_true rfl) ?_
  intro p e R s m args below meth c ls E hW hl
  have E : En X (AW X) 2 p R s m args meth c cX0_layLabel RX0 5 none 0 0 := E
  have hl : lv_has ls 5 [(0, .ref (xA X 57)), (1, .int (jI a1)), (2, .int (jI a2)), (3, .ref (xA X 53))] := hl
  unfold wp_X0_layLabel at h
  refine q_iload_n (n := 1) (q := 2) E.1 hl rfl dX0_layLabel_0 rfl rfl ?_
  refine q_iconst (n := 2) E.1 dX0_layLabel_1 rfl ?_
  obtain ⟨g1, h2, h3⟩ := h
  refine q_icmp_lt (t := 6) (n := 5) E.1 g1 (by decide) dX0_layLabel_2 (by decide) rfl (fun c4 => ?_) (fun c4 => ?_)
  · have h := h2 c4
    refine q_aload_n (n := 7) (q := 0) E.1 hl rfl dX0_layLabel_6 rfl rfl ?_
    refine q_get (n := 10) (k := 3) (fs := (fs57 X)) (v := .ref (xA X 60)) E hW (by decide) (fun _ => rfl) K0 (by decide) w218 rfl rfl dX0_layLabel_7 rfl ?_
    refine q_iload_n (n := 11) (q := 2) E.1 hl rfl dX0_layLabel_10 rfl rfl ?_
    obtain ⟨g5, h⟩ := h
    refine q_iald (n := 12) E hW (by decide) (fun _ => rfl) (by decide) g5 dX0_layLabel_11 rfl ?_
    refine q_istore (n := 14) [(4, .int (jI (M 60 a2.toNat))), (0, .ref (xA X 57)), (1, .int (jI a1)), (2, .int (jI a2)), (3, .ref (xA X 53))] E.1 hl dX0_layLabel_12 (by decide) rfl rfl (fun ls hl => ?_)
    obtain ⟨n6, h⟩ := h
    exact v_X0_layLabel_14 a1 a2 E Q n6 _ _ _ _ _ h hW (lv_sub hl [1, 2, 3, 4, 0] rfl)
  · have h := h3 c4
    exact q_vret E hW h dX0_layLabel_5
/-! StickerPress$Best.layGroup(ILStickerPress$Labels;LStickerPress$Sheets;)V -/
theorem dX0_layGroup_0 : decode cX0_layGroup 0 = .ok (.aload_n 0, 1) := by decide +kernel
theorem dX0_layGroup_1 : decode cX0_layGroup 1 = .ok (.getfield 9, 3) := by decide +kernel
theorem dX0_layGroup_4 : decode cX0_layGroup 4 = .ok (.iload_n 1, 1) := by decide +kernel
theorem dX0_layGroup_5 : decode cX0_layGroup 5 = .ok (.iaload, 1) := by decide +kernel
theorem dX0_layGroup_6 : decode cX0_layGroup 6 = .ok (.ifCond .ne 4, 3) := by decide +kernel
theorem dX0_layGroup_9 : decode cX0_layGroup 9 = .ok (.return_, 1) := by decide +kernel
theorem dX0_layGroup_10 : decode cX0_layGroup 10 = .ok (.aload_n 0, 1) := by decide +kernel
theorem dX0_layGroup_11 : decode cX0_layGroup 11 = .ok (.getfield 39, 3) := by decide +kernel
theorem dX0_layGroup_14 : decode cX0_layGroup 14 = .ok (.iload_n 1, 1) := by decide +kernel
theorem dX0_layGroup_15 : decode cX0_layGroup 15 = .ok (.invokestatic 63, 3) := by decide +kernel
theorem dX0_layGroup_18 : decode cX0_layGroup 18 = .ok (.istore 4, 2) := by decide +kernel
theorem dX0_layGroup_20 : decode cX0_layGroup 20 = .ok (.iconst 0, 1) := by decide +kernel
theorem dX0_layGroup_21 : decode cX0_layGroup 21 = .ok (.istore 5, 2) := by decide +kernel
theorem dX0_layGroup_23 : decode cX0_layGroup 23 = .ok (.iload 5, 2) := by decide +kernel
theorem dX0_layGroup_25 : decode cX0_layGroup 25 = .ok (.aload_n 2, 1) := by decide +kernel
theorem dX0_layGroup_26 : decode cX0_layGroup 26 = .ok (.invokevirtual 109, 3) := by decide +kernel
theorem dX0_layGroup_29 : decode cX0_layGroup 29 = .ok (.if_icmp .ge 28, 3) := by decide +kernel
theorem dX0_layGroup_32 : decode cX0_layGroup 32 = .ok (.aload_n 2, 1) := by decide +kernel
theorem dX0_layGroup_33 : decode cX0_layGroup 33 = .ok (.iload 5, 2) := by decide +kernel
theorem dX0_layGroup_35 : decode cX0_layGroup 35 = .ok (.iload_n 1, 1) := by decide +kernel
theorem dX0_layGroup_36 : decode cX0_layGroup 36 = .ok (.invokevirtual 112, 3) := by decide +kernel
theorem dX0_layGroup_39 : decode cX0_layGroup 39 = .ok (.ifCond .eq 12, 3) := by decide +kernel
theorem dX0_layGroup_42 : decode cX0_layGroup 42 = .ok (.aload_n 0, 1) := by decide +kernel
theorem dX0_layGroup_43 : decode cX0_layGroup 43 = .ok (.iload 5, 2) := by decide +kernel
theorem dX0_layGroup_45 : decode cX0_layGroup 45 = .ok (.iload 4, 2) := by decide +kernel
theorem dX0_layGroup_47 : decode cX0_layGroup 47 = .ok (.aload_n 3, 1) := by decide +kernel
theorem dX0_layGroup_48 : decode cX0_layGroup 48 = .ok (.invokevirtual 116, 3) := by decide +kernel
theorem dX0_layGroup_51 : decode cX0_layGroup 51 = .ok (.iinc 5 1, 3) := by decide +kernel
theorem dX0_layGroup_54 : decode cX0_layGroup 54 = .ok (.goto (-31), 3) := by decide +kernel
theorem dX0_layGroup_57 : decode cX0_layGroup 57 = .ok (.return_, 1) := by decide +kernel
theorem Y_RX0_109 : YV RX0 109 RX1 yX1_count cX1_count 1 (some .int) 0 := ⟨w532, w603, w530, w531, w49, by decide +kernel, by decide⟩
theorem Y_RX0_112 : YV RX0 112 RX1 yX1_waitsIn cX1_waitsIn 3 (some .boolean) 2 := ⟨w607, w604, w605, w606, w49, by decide +kernel, by decide⟩
theorem Y_RX0_116 : YV RX0 116 RX0 yX0_layLabel cX0_layLabel 5 none 3 := ⟨w615, w612, w614, w22, w51, by decide +kernel, by decide⟩
theorem Y_RX0_63 : YS RX0 63 yX0_groupHeap cX0_groupHeap 2 (some .int) 2 := ⟨w602, w600, w601, w51, by decide +kernel, by decide⟩
def wp_X0_layGroup_23 (a1 : Int) (Q : Mem → Prop) : Nat → Int → Int → Mem → Prop
  | 0, _, _, _ => False
  | n + 1, x4, x5, M => wp_X1_count  M (fun r2 M1 => (Rg x5 ∧ Rg r2 ∧ (r2 ≤ x5 → Q M1) ∧ (¬ (r2 ≤ x5) → wp_X1_waitsIn x5 a1 M1 (fun r9 M8 => (Rg r9 ∧ (r9 = 0 → wp_X0_layGroup_23 a1 Q n x4 (x5 + 1) M8) ∧ (¬ (r9 = 0) → wp_X0_layLabel x5 x4 M8 (fun M14 => wp_X0_layGroup_23 a1 Q n x4 (x5 + 1) M14)))))))
set_option maxHeartbeats 4000000 in
set_option maxRecDepth 100000 in
theorem v_X0_layGroup_23 (a1 : Int) (E : En X (AW X) 3 p R s m args meth c cX0_layGroup RX0 6 none 0 0) (Q : Mem → Prop) : ∀ n : Nat, ∀ (x4 x5 : Int) (M : Mem) (H : Heap) (locs : List Loc) (ls : Array Slot), wp_X0_layGroup_23 a1 Q n x4 x5 M → Wd X (AW X) s M H locs → lv_has ls 6 [(0, .ref (xA X 57)), (1, .int (jI a1)), (2, .ref (xA X 48)), (3, .ref (xA X 53)), (4, .int (jI x4)), (5, .int (jI x5))] → W p l e R s m args below meth c H locs 0 0 (MQ below (QV X Q) args s 0 0 (AW X)) (F0 m 23 ls []) := by
  intro n
  induction n with
  | zero => intro x4 x5 M H locs ls h; exact absurd h (by simp [wp_X0_layGroup_23])
  | succ n ih =>
    intro x4 x5 M H locs ls h hW hl
    rw [wp_X0_layGroup_23] at h
    refine q_iload (n := 25) (q := 5) E.1 hl rfl dX0_layGroup_23 rfl ?_
    refine q_aload_n (n := 26) (q := 2) E.1 hl rfl dX0_layGroup_25 rfl rfl ?_
    refine q_callVi (n := 29) (fs := (fs48 X)) [] E hW hl.1 (by decide) (fun _ => rfl) K1 (c_X1_count l X E.2.2.1.1   _ _ h) (by decide) Y_RX0_109 rfl (rest := [.int (jI x5)]) rfl (Nat.le_of_ble_eq_true rfl) dX0_layGroup_26 rfl (fun r2 M1 H locs h hW => ?_)
    obtain ⟨g3, g4, h5, h6⟩ := h
    refine q_icmp_ge (t := 57) (n := 32) E.1 g3 g4 dX0_layGroup_29 (by decide) rfl (fun c7 => ?_) (fun c7 => ?_)
    · have h := h5 c7
      exact q_vret E hW h dX0_layGroup_57
    · have h := h6 c7
      refine q_aload_n (n := 33) (q := 2) E.1 hl rfl dX0_layGroup_32 rfl rfl ?_
      refine q_iload (n := 35) (q := 5) E.1 hl rfl dX0_layGroup_33 rfl ?_
      refine q_iload_n (n := 36) (q := 1) E.1 hl rfl dX0_layGroup_35 rfl rfl ?_
      refine q_callVi (n := 39) (fs := (fs48 X)) [.int (jI x5), .int (jI a1)] E hW hl.1 (by decide) (fun _ => rfl) K1 (c_X1_waitsIn l X E.2.2.1.1 x5 a1  _ _ h) (by decide) Y_RX0_112 rfl (rest := []) rfl (Nat.le_of_ble_eq_true rfl) dX0_layGroup_36 rfl (fun r9 M8 H locs h hW => ?_)
      obtain ⟨g10, h11, h12⟩ := h
      refine q_if_eq (t := 51) (n := 42) E.1 g10 dX0_layGroup_39 (by decide) rfl (fun c13 => ?_) (fun c13 => ?_)
      · have h := h11 c13
        refine q_iinc (n := 54) (q := 5) [(5, .int (jI (x5 + 1))), (0, .ref (xA X 57)), (1, .int (jI a1)), (2, .ref (xA X 48)), (3, .ref (xA X 53)), (4, .int (jI x4))] E.1 hl rfl dX0_layGroup_51 (by decide) rfl rfl (fun ls hl => ?_)
        refine q_goto (n := 23) E.1 dX0_layGroup_54 (by decide) ?_
        exact ih _ _ _ _ _ _ h hW (lv_sub hl [1, 2, 3, 4, 5, 0] rfl)
      · have h := h12 c13
        refine q_aload_n (n := 43) (q := 0) E.1 hl rfl dX0_layGroup_42 rfl rfl ?_
        refine q_iload (n := 45) (q := 5) E.1 hl rfl dX0_layGroup_43 rfl ?_
        refine q_iload (n := 47) (q := 4) E.1 hl rfl dX0_layGroup_45 rfl ?_
        refine q_aload_n (n := 48) (q := 3) E.1 hl rfl dX0_layGroup_47 rfl rfl ?_
        refine q_callVv (n := 51) (fs := (fs57 X)) [.int (jI x5), .int (jI x4), .ref (xA X 53)] E hW hl.1 (by decide) (fun _ => rfl) K0 (c_X0_layLabel l X E.2.2.1.1 x5 x4  _ _ h) (by decide) Y_RX0_116 rfl (rest := []) rfl (Nat.le_of_ble_eq_true rfl) dX0_layGroup_48 rfl (fun M14 H locs h hW => ?_)
        refine q_iinc (n := 54) (q := 5) [(5, .int (jI (x5 + 1))), (0, .ref (xA X 57)), (1, .int (jI a1)), (2, .ref (xA X 48)), (3, .ref (xA X 53)), (4, .int (jI x4))] E.1 hl rfl dX0_layGroup_51 (by decide) rfl rfl (fun ls hl => ?_)
        refine q_goto (n := 23) E.1 dX0_layGroup_54 (by decide) ?_
        exact ih _ _ _ _ _ _ h hW (lv_sub hl [1, 2, 3, 4, 5, 0] rfl)
def wp_X0_layGroup (a1 : Int) (M : Mem) (Q : Mem → Prop) : Prop := (0 ≤ a1 ∧ a1 < 6) ∧ (Rg (M 58 a1.toNat) ∧ ((M 58 a1.toNat) ≠ 0 → wp_X0_groupHeap (M 57 8) a1 M (fun r7 M6 => (∃ n : Nat, wp_X0_layGroup_23 a1 Q n r7 0 M6))) ∧ (¬ ((M 58 a1.toNat) ≠ 0) → Q M))
set_option maxHeartbeats 4000000 in
set_option maxRecDepth 100000 in
theorem c_X0_layGroup (l : Launch) (X : Cx) (hI : Inj X) (a1 : Int) (M : Mem) (Q : Mem → Prop) (h : wp_X0_layGroup a1 M Q) : MV X l yX0_layGroup cX0_layGroup 6 3 [.ref (xA X 57), .int (jI a1), .ref (xA X 48), .ref (xA X 53)] M Q := by
  refine MV.of hI (by decide) (Nat.le_of_ble_eq_true rfl) ?_
  intro p e R s m args below meth c ls E hW hl
  have E : En X (AW X) 3 p R s m args meth c cX0_layGroup RX0 6 none 0 0 := E
  have hl : lv_has ls 6 [(0, .ref (xA X 57)), (1, .int (jI a1)), (2, .ref (xA X 48)), (3, .ref (xA X 53))] := hl
  unfold wp_X0_layGroup at h
  refine q_aload_n (n := 1) (q := 0) E.1 hl rfl dX0_layGroup_0 rfl rfl ?_
  refine q_get (n := 4) (k := 0) (fs := (fs57 X)) (v := .ref (xA X 58)) E hW (by decide) (fun _ => rfl) K0 (by decide) w215 rfl rfl dX0_layGroup_1 rfl ?_
  refine q_iload_n (n := 5) (q := 1) E.1 hl rfl dX0_layGroup_4 rfl rfl ?_
  obtain ⟨g1, h⟩ := h
  refine q_iald (n := 6) E hW (by decide) (fun _ => rfl) (by decide) g1 dX0_layGroup_5 rfl ?_
  obtain ⟨g2, h3, h4⟩ := h
  refine q_if_ne (t := 10) (n := 9) E.1 g2 dX0_layGroup_6 (by decide) rfl (fun c5 => ?_) (fun c5 => ?_)
  · have h := h3 c5
    refine q_aload_n (n := 11) (q := 0) E.1 hl rfl dX0_layGroup_10 rfl rfl ?_
    refine q_get (n := 14) (k := 8) (fs := (fs57 X)) (v := .int (jI (M 57 8))) E hW (by decide) (fun _ => rfl) K0 (by decide) w223 rfl rfl dX0_layGroup_11 rfl ?_
    refine q_iload_n (n := 15) (q := 1) E.1 hl rfl dX0_layGroup_14 rfl rfl ?_
    refine q_callSi (n := 18) [.int (jI (M 57 8)), .int (jI a1)] E hW hl.1 (c_X0_groupHeap l X E.2.2.1.1 (M 57 8) a1  _ _ h) (by decide) Y_RX0_63 rfl (rest := []) rfl (Nat.le_of_ble_eq_true rfl) dX0_layGroup_15 rfl (fun r7 M6 H locs h hW => ?_)
    refine q_istore (n := 20) [(4, .int (jI r7)), (0, .ref (xA X 57)), (1, .int (jI a1)), (2, .ref (xA X 48)), (3, .ref (xA X 53))] E.1 hl dX0_layGroup_18 (by decide) rfl rfl (fun ls hl => ?_)
    refine q_iconst (n := 21) E.1 dX0_layGroup_20 rfl ?_
    refine q_istore (n := 23) [(5, .int (jI 0)), (4, .int (jI r7)), (0, .ref (xA X 57)), (1, .int (jI a1)), (2, .ref (xA X 48)), (3, .ref (xA X 53))] E.1 hl dX0_layGroup_21 (by decide) rfl rfl (fun ls hl => ?_)
    obtain ⟨n8, h⟩ := h
    exact v_X0_layGroup_23 a1 E Q n8 _ _ _ _ _ _ h hW (lv_sub hl [2, 3, 4, 5, 1, 0] rfl)
  · have h := h4 c5
    exact q_vret E hW h dX0_layGroup_9
/-! StickerPress$Best.layAll(LStickerPress$Labels;LStickerPress$Sheets;)V -/
theorem dX0_layAll_0 : decode cX0_layAll 0 = .ok (.iconst 0, 1) := by decide +kernel
theorem dX0_layAll_1 : decode cX0_layAll 1 = .ok (.istore_n 3, 1) := by decide +kernel
theorem dX0_layAll_2 : decode cX0_layAll 2 = .ok (.iload_n 3, 1) := by decide +kernel
theorem dX0_layAll_3 : decode cX0_layAll 3 = .ok (.bipush 120, 2) := by decide +kernel
theorem dX0_layAll_5 : decode cX0_layAll 5 = .ok (.if_icmp .ge 16, 3) := by decide +kernel
theorem dX0_layAll_8 : decode cX0_layAll 8 = .ok (.aload_n 0, 1) := by decide +kernel
theorem dX0_layAll_9 : decode cX0_layAll 9 = .ok (.getfield 24, 3) := by decide +kernel
theorem dX0_layAll_12 : decode cX0_layAll 12 = .ok (.iload_n 3, 1) := by decide +kernel
theorem dX0_layAll_13 : decode cX0_layAll 13 = .ok (.iconst (-1), 1) := by decide +kernel
theorem dX0_layAll_14 : decode cX0_layAll 14 = .ok (.iastore, 1) := by decide +kernel
theorem dX0_layAll_15 : decode cX0_layAll 15 = .ok (.iinc 3 1, 3) := by decide +kernel
theorem dX0_layAll_18 : decode cX0_layAll 18 = .ok (.goto (-16), 3) := by decide +kernel
theorem dX0_layAll_21 : decode cX0_layAll 21 = .ok (.aload_n 0, 1) := by decide +kernel
theorem dX0_layAll_22 : decode cX0_layAll 22 = .ok (.invokevirtual 55, 3) := by decide +kernel
theorem dX0_layAll_25 : decode cX0_layAll 25 = .ok (.ifCond .ne 4, 3) := by decide +kernel
theorem dX0_layAll_28 : decode cX0_layAll 28 = .ok (.return_, 1) := by decide +kernel
theorem dX0_layAll_29 : decode cX0_layAll 29 = .ok (.iconst 0, 1) := by decide +kernel
theorem dX0_layAll_30 : decode cX0_layAll 30 = .ok (.istore_n 3, 1) := by decide +kernel
theorem dX0_layAll_31 : decode cX0_layAll 31 = .ok (.iload_n 3, 1) := by decide +kernel
theorem dX0_layAll_32 : decode cX0_layAll 32 = .ok (.iconst 3, 1) := by decide +kernel
theorem dX0_layAll_33 : decode cX0_layAll 33 = .ok (.if_icmp .ge 16, 3) := by decide +kernel
theorem dX0_layAll_36 : decode cX0_layAll 36 = .ok (.aload_n 0, 1) := by decide +kernel
theorem dX0_layAll_37 : decode cX0_layAll 37 = .ok (.getfield 21, 3) := by decide +kernel
theorem dX0_layAll_40 : decode cX0_layAll 40 = .ok (.iload_n 3, 1) := by decide +kernel
theorem dX0_layAll_41 : decode cX0_layAll 41 = .ok (.iconst 0, 1) := by decide +kernel
theorem dX0_layAll_42 : decode cX0_layAll 42 = .ok (.iastore, 1) := by decide +kernel
theorem dX0_layAll_43 : decode cX0_layAll 43 = .ok (.iinc 3 1, 3) := by decide +kernel
theorem dX0_layAll_46 : decode cX0_layAll 46 = .ok (.goto (-15), 3) := by decide +kernel
theorem dX0_layAll_49 : decode cX0_layAll 49 = .ok (.iconst 0, 1) := by decide +kernel
theorem dX0_layAll_50 : decode cX0_layAll 50 = .ok (.istore_n 3, 1) := by decide +kernel
theorem dX0_layAll_51 : decode cX0_layAll 51 = .ok (.iload_n 3, 1) := by decide +kernel
theorem dX0_layAll_52 : decode cX0_layAll 52 = .ok (.bipush 6, 2) := by decide +kernel
theorem dX0_layAll_54 : decode cX0_layAll 54 = .ok (.if_icmp .ge 16, 3) := by decide +kernel
theorem dX0_layAll_57 : decode cX0_layAll 57 = .ok (.aload_n 0, 1) := by decide +kernel
theorem dX0_layAll_58 : decode cX0_layAll 58 = .ok (.iload_n 3, 1) := by decide +kernel
theorem dX0_layAll_59 : decode cX0_layAll 59 = .ok (.aload_n 1, 1) := by decide +kernel
theorem dX0_layAll_60 : decode cX0_layAll 60 = .ok (.aload_n 2, 1) := by decide +kernel
theorem dX0_layAll_61 : decode cX0_layAll 61 = .ok (.invokevirtual 105, 3) := by decide +kernel
theorem dX0_layAll_64 : decode cX0_layAll 64 = .ok (.iinc 3 1, 3) := by decide +kernel
theorem dX0_layAll_67 : decode cX0_layAll 67 = .ok (.goto (-16), 3) := by decide +kernel
theorem dX0_layAll_70 : decode cX0_layAll 70 = .ok (.return_, 1) := by decide +kernel
theorem Y_RX0_105 : YV RX0 105 RX0 yX0_layGroup cX0_layGroup 6 none 3 := ⟨w599, w596, w598, w20, w51, by decide +kernel, by decide⟩
theorem Y_RX0_55 : YV RX0 55 RX0 yX0_exists cX0_exists 1 (some .boolean) 0 := ⟨w595, w592, w593, w594, w51, by decide +kernel, by decide⟩
def wp_X0_layAll_51 (Q : Mem → Prop) : Nat → Int → Mem → Prop
  | 0, _, _ => False
  | n + 1, x3, M => (Rg x3 ∧ (6 ≤ x3 → Q M) ∧ (¬ (6 ≤ x3) → wp_X0_layGroup x3 M (fun M5 => wp_X0_layAll_51 Q n (x3 + 1) M5)))
set_option maxHeartbeats 4000000 in
set_option maxRecDepth 100000 in
theorem v_X0_layAll_51 (E : En X (AW X) 4 p R s m args meth c cX0_layAll RX0 4 none 0 0) (Q : Mem → Prop) : ∀ n : Nat, ∀ (x3 : Int) (M : Mem) (H : Heap) (locs : List Loc) (ls : Array Slot), wp_X0_layAll_51 Q n x3 M → Wd X (AW X) s M H locs → lv_has ls 4 [(0, .ref (xA X 57)), (1, .ref (xA X 48)), (2, .ref (xA X 53)), (3, .int (jI x3))] → W p l e R s m args below meth c H locs 0 0 (MQ below (QV X Q) args s 0 0 (AW X)) (F0 m 51 ls []) := by
  intro n
  induction n with
  | zero => intro x3 M H locs ls h; exact absurd h (by simp [wp_X0_layAll_51])
  | succ n ih =>
    intro x3 M H locs ls h hW hl
    rw [wp_X0_layAll_51] at h
    refine q_iload_n (n := 52) (q := 3) E.1 hl rfl dX0_layAll_51 rfl rfl ?_
    refine q_bipush (n := 54) E.1 dX0_layAll_52 (by decide) rfl ?_
    obtain ⟨g1, h2, h3⟩ := h
    refine q_icmp_ge (t := 70) (n := 57) E.1 g1 (by decide) dX0_layAll_54 (by decide) rfl (fun c4 => ?_) (fun c4 => ?_)
    · have h := h2 c4
      exact q_vret E hW h dX0_layAll_70
    · have h := h3 c4
      refine q_aload_n (n := 58) (q := 0) E.1 hl rfl dX0_layAll_57 rfl rfl ?_
      refine q_iload_n (n := 59) (q := 3) E.1 hl rfl dX0_layAll_58 rfl rfl ?_
      refine q_aload_n (n := 60) (q := 1) E.1 hl rfl dX0_layAll_59 rfl rfl ?_
      refine q_aload_n (n := 61) (q := 2) E.1 hl rfl dX0_layAll_60 rfl rfl ?_
      refine q_callVv (n := 64) (fs := (fs57 X)) [.int (jI x3), .ref (xA X 48), .ref (xA X 53)] E hW hl.1 (by decide) (fun _ => rfl) K0 (c_X0_layGroup l X E.2.2.1.1 x3  _ _ h) (by decide) Y_RX0_105 rfl (rest := []) rfl (Nat.le_of_ble_eq_true rfl) dX0_layAll_61 rfl (fun M5 H locs h hW => ?_)
      refine q_iinc (n := 67) (q := 3) [(3, .int (jI (x3 + 1))), (0, .ref (xA X 57)), (1, .ref (xA X 48)), (2, .ref (xA X 53))] E.1 hl rfl dX0_layAll_64 (by decide) rfl rfl (fun ls hl => ?_)
      refine q_goto (n := 51) E.1 dX0_layAll_67 (by decide) ?_
      exact ih _ _ _ _ _ h hW (lv_sub hl [1, 2, 3, 0] rfl)
def wp_X0_layAll_31 (Q : Mem → Prop) : Nat → Int → Mem → Prop
  | 0, _, _ => False
  | n + 1, x3, M => (Rg x3 ∧ (3 ≤ x3 → (∃ n2 : Nat, wp_X0_layAll_51 Q n2 0 M)) ∧ (¬ (3 ≤ x3) → (0 ≤ x3 ∧ x3 < 3) ∧ wp_X0_layAll_31 Q n (x3 + 1) (up M 60 x3.toNat 0)))
set_option maxHeartbeats 4000000 in
set_option maxRecDepth 100000 in
theorem v_X0_layAll_31 (E : En X (AW X) 4 p R s m args meth c cX0_layAll RX0 4 none 0 0) (Q : Mem → Prop) : ∀ n : Nat, ∀ (x3 : Int) (M : Mem) (H : Heap) (locs : List Loc) (ls : Array Slot), wp_X0_layAll_31 Q n x3 M → Wd X (AW X) s M H locs → lv_has ls 4 [(0, .ref (xA X 57)), (1, .ref (xA X 48)), (2, .ref (xA X 53)), (3, .int (jI x3))] → W p l e R s m args below meth c H locs 0 0 (MQ below (QV X Q) args s 0 0 (AW X)) (F0 m 31 ls []) := by
  intro n
  induction n with
  | zero => intro x3 M H locs ls h; exact absurd h (by simp [wp_X0_layAll_31])
  | succ n ih =>
    intro x3 M H locs ls h hW hl
    rw [wp_X0_layAll_31] at h
    refine q_iload_n (n := 32) (q := 3) E.1 hl rfl dX0_layAll_31 rfl rfl ?_
    refine q_iconst (n := 33) E.1 dX0_layAll_32 rfl ?_
    obtain ⟨g1, h2, h3⟩ := h
    refine q_icmp_ge (t := 49) (n := 36) E.1 g1 (by decide) dX0_layAll_33 (by decide) rfl (fun c4 => ?_) (fun c4 => ?_)
    · have h := h2 c4
      refine q_iconst (n := 50) E.1 dX0_layAll_49 rfl ?_
      refine q_istore_n (n := 51) [(3, .int (jI 0)), (0, .ref (xA X 57)), (1, .ref (xA X 48)), (2, .ref (xA X 53))] E.1 hl dX0_layAll_50 rfl (by decide) rfl rfl (fun ls hl => ?_)
      obtain ⟨n5, h⟩ := h
      exact v_X0_layAll_51 E Q n5 _ _ _ _ _ h hW (lv_sub hl [1, 2, 3, 0] rfl)
    · have h := h3 c4
      refine q_aload_n (n := 37) (q := 0) E.1 hl rfl dX0_layAll_36 rfl rfl ?_
      refine q_get (n := 40) (k := 3) (fs := (fs57 X)) (v := .ref (xA X 60)) E hW (by decide) (fun _ => rfl) K0 (by decide) w218 rfl rfl dX0_layAll_37 rfl ?_
      refine q_iload_n (n := 41) (q := 3) E.1 hl rfl dX0_layAll_40 rfl rfl ?_
      refine q_iconst (n := 42) E.1 dX0_layAll_41 rfl ?_
      obtain ⟨g6, h⟩ := h
      refine q_iast (n := 43) E hW (by decide) (fun _ => rfl) (by decide) g6 dX0_layAll_42 rfl (fun H locs hW => ?_)
      refine q_iinc (n := 46) (q := 3) [(3, .int (jI (x3 + 1))), (0, .ref (xA X 57)), (1, .ref (xA X 48)), (2, .ref (xA X 53))] E.1 hl rfl dX0_layAll_43 (by decide) rfl rfl (fun ls hl => ?_)
      refine q_goto (n := 31) E.1 dX0_layAll_46 (by decide) ?_
      exact ih _ _ _ _ _ h hW (lv_sub hl [1, 2, 3, 0] rfl)
def wp_X0_layAll_2 (Q : Mem → Prop) : Nat → Int → Mem → Prop
  | 0, _, _ => False
  | n + 1, x3, M => (Rg x3 ∧ (120 ≤ x3 → wp_X0_exists  M (fun r6 M5 => (Rg r6 ∧ (r6 ≠ 0 → (∃ n2 : Nat, wp_X0_layAll_31 Q n2 0 M5)) ∧ (¬ (r6 ≠ 0) → Q M5)))) ∧ (¬ (120 ≤ x3) → (0 ≤ x3 ∧ x3 < 120) ∧ wp_X0_layAll_2 Q n (x3 + 1) (up M 61 x3.toNat (-1))))
set_option maxHeartbeats 4000000 in
set_option maxRecDepth 100000 in
theorem v_X0_layAll_2 (E : En X (AW X) 4 p R s m args meth c cX0_layAll RX0 4 none 0 0) (Q : Mem → Prop) : ∀ n : Nat, ∀ (x3 : Int) (M : Mem) (H : Heap) (locs : List Loc) (ls : Array Slot), wp_X0_layAll_2 Q n x3 M → Wd X (AW X) s M H locs → lv_has ls 4 [(0, .ref (xA X 57)), (1, .ref (xA X 48)), (2, .ref (xA X 53)), (3, .int (jI x3))] → W p l e R s m args below meth c H locs 0 0 (MQ below (QV X Q) args s 0 0 (AW X)) (F0 m 2 ls []) := by
  intro n
  induction n with
  | zero => intro x3 M H locs ls h; exact absurd h (by simp [wp_X0_layAll_2])
  | succ n ih =>
    intro x3 M H locs ls h hW hl
    rw [wp_X0_layAll_2] at h
    refine q_iload_n (n := 3) (q := 3) E.1 hl rfl dX0_layAll_2 rfl rfl ?_
    refine q_bipush (n := 5) E.1 dX0_layAll_3 (by decide) rfl ?_
    obtain ⟨g1, h2, h3⟩ := h
    refine q_icmp_ge (t := 21) (n := 8) E.1 g1 (by decide) dX0_layAll_5 (by decide) rfl (fun c4 => ?_) (fun c4 => ?_)
    · have h := h2 c4
      refine q_aload_n (n := 22) (q := 0) E.1 hl rfl dX0_layAll_21 rfl rfl ?_
      refine q_callVi (n := 25) (fs := (fs57 X)) [] E hW hl.1 (by decide) (fun _ => rfl) K0 (c_X0_exists l X E.2.2.1.1   _ _ h) (by decide) Y_RX0_55 rfl (rest := []) rfl (Nat.le_of_ble_eq_true rfl) dX0_layAll_22 rfl (fun r6 M5 H locs h hW => ?_)
      obtain ⟨g7, h8, h9⟩ := h
      refine q_if_ne (t := 29) (n := 28) E.1 g7 dX0_layAll_25 (by decide) rfl (fun c10 => ?_) (fun c10 => ?_)
      · have h := h8 c10
        refine q_iconst (n := 30) E.1 dX0_layAll_29 rfl ?_
        refine q_istore_n (n := 31) [(3, .int (jI 0)), (0, .ref (xA X 57)), (1, .ref (xA X 48)), (2, .ref (xA X 53))] E.1 hl dX0_layAll_30 rfl (by decide) rfl rfl (fun ls hl => ?_)
        obtain ⟨n11, h⟩ := h
        exact v_X0_layAll_31 E Q n11 _ _ _ _ _ h hW (lv_sub hl [1, 2, 3, 0] rfl)
      · have h := h9 c10
        exact q_vret E hW h dX0_layAll_28
    · have h := h3 c4
      refine q_aload_n (n := 9) (q := 0) E.1 hl rfl dX0_layAll_8 rfl rfl ?_
      refine q_get (n := 12) (k := 4) (fs := (fs57 X)) (v := .ref (xA X 61)) E hW (by decide) (fun _ => rfl) K0 (by decide) w219 rfl rfl dX0_layAll_9 rfl ?_
      refine q_iload_n (n := 13) (q := 3) E.1 hl rfl dX0_layAll_12 rfl rfl ?_
      refine q_iconst (n := 14) E.1 dX0_layAll_13 rfl ?_
      obtain ⟨g12, h⟩ := h
      refine q_iast (n := 15) E hW (by decide) (fun _ => rfl) (by decide) g12 dX0_layAll_14 rfl (fun H locs hW => ?_)
      refine q_iinc (n := 18) (q := 3) [(3, .int (jI (x3 + 1))), (0, .ref (xA X 57)), (1, .ref (xA X 48)), (2, .ref (xA X 53))] E.1 hl rfl dX0_layAll_15 (by decide) rfl rfl (fun ls hl => ?_)
      refine q_goto (n := 2) E.1 dX0_layAll_18 (by decide) ?_
      exact ih _ _ _ _ _ h hW (lv_sub hl [1, 2, 3, 0] rfl)
def wp_X0_layAll (M : Mem) (Q : Mem → Prop) : Prop := (∃ n : Nat, wp_X0_layAll_2 Q n 0 M)
set_option maxHeartbeats 4000000 in
set_option maxRecDepth 100000 in
theorem c_X0_layAll (l : Launch) (X : Cx) (hI : Inj X) (M : Mem) (Q : Mem → Prop) (h : wp_X0_layAll M Q) : MV X l yX0_layAll cX0_layAll 4 4 [.ref (xA X 57), .ref (xA X 48), .ref (xA X 53)] M Q := by
  refine MV.of hI (by decide) (Nat.le_of_ble_eq_true rfl) ?_
  intro p e R s m args below meth c ls E hW hl
  have E : En X (AW X) 4 p R s m args meth c cX0_layAll RX0 4 none 0 0 := E
  have hl : lv_has ls 4 [(0, .ref (xA X 57)), (1, .ref (xA X 48)), (2, .ref (xA X 53))] := hl
  unfold wp_X0_layAll at h
  refine q_iconst (n := 1) E.1 dX0_layAll_0 rfl ?_
  refine q_istore_n (n := 2) [(3, .int (jI 0)), (0, .ref (xA X 57)), (1, .ref (xA X 48)), (2, .ref (xA X 53))] E.1 hl dX0_layAll_1 rfl (by decide) rfl rfl (fun ls hl => ?_)
  obtain ⟨n1, h⟩ := h
  exact v_X0_layAll_2 E Q n1 _ _ _ _ _ h hW (lv_sub hl [1, 2, 3, 0] rfl)
/-! StickerPress$Best.leastHeaps([I[III)I -/
theorem dX0_leastHeaps_0 : decode cX0_leastHeaps 0 = .ok (.iload_n 2, 1) := by decide +kernel
theorem dX0_leastHeaps_1 : decode cX0_leastHeaps 1 = .ok (.bipush 6, 2) := by decide +kernel
theorem dX0_leastHeaps_3 : decode cX0_leastHeaps 3 = .ok (.if_icmp .lt 5, 3) := by decide +kernel
theorem dX0_leastHeaps_6 : decode cX0_leastHeaps 6 = .ok (.iconst 0, 1) := by decide +kernel
theorem dX0_leastHeaps_7 : decode cX0_leastHeaps 7 = .ok (.ireturn, 1) := by decide +kernel
theorem dX0_leastHeaps_8 : decode cX0_leastHeaps 8 = .ok (.aload_n 0, 1) := by decide +kernel
theorem dX0_leastHeaps_9 : decode cX0_leastHeaps 9 = .ok (.iload_n 2, 1) := by decide +kernel
theorem dX0_leastHeaps_10 : decode cX0_leastHeaps 10 = .ok (.iaload, 1) := by decide +kernel
theorem dX0_leastHeaps_11 : decode cX0_leastHeaps 11 = .ok (.ifCond .ne 13, 3) := by decide +kernel
theorem dX0_leastHeaps_14 : decode cX0_leastHeaps 14 = .ok (.aload_n 0, 1) := by decide +kernel
theorem dX0_leastHeaps_15 : decode cX0_leastHeaps 15 = .ok (.aload_n 1, 1) := by decide +kernel
theorem dX0_leastHeaps_16 : decode cX0_leastHeaps 16 = .ok (.iload_n 2, 1) := by decide +kernel
theorem dX0_leastHeaps_17 : decode cX0_leastHeaps 17 = .ok (.iconst 1, 1) := by decide +kernel
theorem dX0_leastHeaps_18 : decode cX0_leastHeaps 18 = .ok (.iadd, 1) := by decide +kernel
theorem dX0_leastHeaps_19 : decode cX0_leastHeaps 19 = .ok (.iload_n 3, 1) := by decide +kernel
theorem dX0_leastHeaps_20 : decode cX0_leastHeaps 20 = .ok (.invokestatic 101, 3) := by decide +kernel
theorem dX0_leastHeaps_23 : decode cX0_leastHeaps 23 = .ok (.ireturn, 1) := by decide +kernel
theorem dX0_leastHeaps_24 : decode cX0_leastHeaps 24 = .ok (.iconst 0, 1) := by decide +kernel
theorem dX0_leastHeaps_25 : decode cX0_leastHeaps 25 = .ok (.istore 4, 2) := by decide +kernel
theorem dX0_leastHeaps_27 : decode cX0_leastHeaps 27 = .ok (.iload 4, 2) := by decide +kernel
theorem dX0_leastHeaps_29 : decode cX0_leastHeaps 29 = .ok (.iconst 3, 1) := by decide +kernel
theorem dX0_leastHeaps_30 : decode cX0_leastHeaps 30 = .ok (.if_icmp .ge 83, 3) := by decide +kernel
theorem dX0_leastHeaps_33 : decode cX0_leastHeaps 33 = .ok (.iload 4, 2) := by decide +kernel
theorem dX0_leastHeaps_35 : decode cX0_leastHeaps 35 = .ok (.iload_n 3, 1) := by decide +kernel
theorem dX0_leastHeaps_36 : decode cX0_leastHeaps 36 = .ok (.if_icmp .gt 77, 3) := by decide +kernel
theorem dX0_leastHeaps_39 : decode cX0_leastHeaps 39 = .ok (.aload_n 1, 1) := by decide +kernel
theorem dX0_leastHeaps_40 : decode cX0_leastHeaps 40 = .ok (.iload 4, 2) := by decide +kernel
theorem dX0_leastHeaps_42 : decode cX0_leastHeaps 42 = .ok (.iaload, 1) := by decide +kernel
theorem dX0_leastHeaps_43 : decode cX0_leastHeaps 43 = .ok (.aload_n 0, 1) := by decide +kernel
theorem dX0_leastHeaps_44 : decode cX0_leastHeaps 44 = .ok (.iload_n 2, 1) := by decide +kernel
theorem dX0_leastHeaps_45 : decode cX0_leastHeaps 45 = .ok (.iaload, 1) := by decide +kernel
theorem dX0_leastHeaps_46 : decode cX0_leastHeaps 46 = .ok (.if_icmp .ge 6, 3) := by decide +kernel
theorem dX0_leastHeaps_49 : decode cX0_leastHeaps 49 = .ok (.goto 58, 3) := by decide +kernel
theorem dX0_leastHeaps_52 : decode cX0_leastHeaps 52 = .ok (.aload_n 1, 1) := by decide +kernel
theorem dX0_leastHeaps_53 : decode cX0_leastHeaps 53 = .ok (.iload 4, 2) := by decide +kernel
theorem dX0_leastHeaps_55 : decode cX0_leastHeaps 55 = .ok (.dup2, 1) := by decide +kernel
theorem dX0_leastHeaps_56 : decode cX0_leastHeaps 56 = .ok (.iaload, 1) := by decide +kernel
theorem dX0_leastHeaps_57 : decode cX0_leastHeaps 57 = .ok (.aload_n 0, 1) := by decide +kernel
theorem dX0_leastHeaps_58 : decode cX0_leastHeaps 58 = .ok (.iload_n 2, 1) := by decide +kernel
theorem dX0_leastHeaps_59 : decode cX0_leastHeaps 59 = .ok (.iaload, 1) := by decide +kernel
theorem dX0_leastHeaps_60 : decode cX0_leastHeaps 60 = .ok (.isub, 1) := by decide +kernel
theorem dX0_leastHeaps_61 : decode cX0_leastHeaps 61 = .ok (.iastore, 1) := by decide +kernel
theorem dX0_leastHeaps_62 : decode cX0_leastHeaps 62 = .ok (.aload_n 0, 1) := by decide +kernel
theorem dX0_leastHeaps_63 : decode cX0_leastHeaps 63 = .ok (.aload_n 1, 1) := by decide +kernel
theorem dX0_leastHeaps_64 : decode cX0_leastHeaps 64 = .ok (.iload_n 2, 1) := by decide +kernel
theorem dX0_leastHeaps_65 : decode cX0_leastHeaps 65 = .ok (.iconst 1, 1) := by decide +kernel
theorem dX0_leastHeaps_66 : decode cX0_leastHeaps 66 = .ok (.iadd, 1) := by decide +kernel
theorem dX0_leastHeaps_67 : decode cX0_leastHeaps 67 = .ok (.iload_n 3, 1) := by decide +kernel
theorem dX0_leastHeaps_68 : decode cX0_leastHeaps 68 = .ok (.iload 4, 2) := by decide +kernel
theorem dX0_leastHeaps_70 : decode cX0_leastHeaps 70 = .ok (.iconst 1, 1) := by decide +kernel
theorem dX0_leastHeaps_71 : decode cX0_leastHeaps 71 = .ok (.iadd, 1) := by decide +kernel
theorem dX0_leastHeaps_72 : decode cX0_leastHeaps 72 = .ok (.invokestatic 128, 3) := by decide +kernel
theorem dX0_leastHeaps_75 : decode cX0_leastHeaps 75 = .ok (.invokestatic 101, 3) := by decide +kernel
theorem dX0_leastHeaps_78 : decode cX0_leastHeaps 78 = .ok (.istore 5, 2) := by decide +kernel
theorem dX0_leastHeaps_80 : decode cX0_leastHeaps 80 = .ok (.aload_n 1, 1) := by decide +kernel
theorem dX0_leastHeaps_81 : decode cX0_leastHeaps 81 = .ok (.iload 4, 2) := by decide +kernel
theorem dX0_leastHeaps_83 : decode cX0_leastHeaps 83 = .ok (.dup2, 1) := by decide +kernel
theorem dX0_leastHeaps_84 : decode cX0_leastHeaps 84 = .ok (.iaload, 1) := by decide +kernel
theorem dX0_leastHeaps_85 : decode cX0_leastHeaps 85 = .ok (.aload_n 0, 1) := by decide +kernel
theorem dX0_leastHeaps_86 : decode cX0_leastHeaps 86 = .ok (.iload_n 2, 1) := by decide +kernel
theorem dX0_leastHeaps_87 : decode cX0_leastHeaps 87 = .ok (.iaload, 1) := by decide +kernel
theorem dX0_leastHeaps_88 : decode cX0_leastHeaps 88 = .ok (.iadd, 1) := by decide +kernel
theorem dX0_leastHeaps_89 : decode cX0_leastHeaps 89 = .ok (.iastore, 1) := by decide +kernel
theorem dX0_leastHeaps_90 : decode cX0_leastHeaps 90 = .ok (.iload 5, 2) := by decide +kernel
theorem dX0_leastHeaps_92 : decode cX0_leastHeaps 92 = .ok (.iconst (-1), 1) := by decide +kernel
theorem dX0_leastHeaps_93 : decode cX0_leastHeaps 93 = .ok (.if_icmp .eq 14, 3) := by decide +kernel
theorem dX0_leastHeaps_96 : decode cX0_leastHeaps 96 = .ok (.iload 4, 2) := by decide +kernel
theorem dX0_leastHeaps_98 : decode cX0_leastHeaps 98 = .ok (.iload_n 2, 1) := by decide +kernel
theorem dX0_leastHeaps_99 : decode cX0_leastHeaps 99 = .ok (.invokestatic 133, 3) := by decide +kernel
theorem dX0_leastHeaps_102 : decode cX0_leastHeaps 102 = .ok (.ishl, 1) := by decide +kernel
theorem dX0_leastHeaps_103 : decode cX0_leastHeaps 103 = .ok (.iload 5, 2) := by decide +kernel
theorem dX0_leastHeaps_105 : decode cX0_leastHeaps 105 = .ok (.ior, 1) := by decide +kernel
theorem dX0_leastHeaps_106 : decode cX0_leastHeaps 106 = .ok (.ireturn, 1) := by decide +kernel
theorem dX0_leastHeaps_107 : decode cX0_leastHeaps 107 = .ok (.iinc 4 1, 3) := by decide +kernel
theorem dX0_leastHeaps_110 : decode cX0_leastHeaps 110 = .ok (.goto (-83), 3) := by decide +kernel
theorem dX0_leastHeaps_113 : decode cX0_leastHeaps 113 = .ok (.iconst (-1), 1) := by decide +kernel
theorem dX0_leastHeaps_114 : decode cX0_leastHeaps 114 = .ok (.ireturn, 1) := by decide +kernel
theorem Y_RX0_101 : YS RX0 101 yX0_leastHeaps cX0_leastHeaps 6 (some .int) 4 := ⟨w583, w581, w582, w51, by decide +kernel, by decide⟩
def wp_X0_leastHeaps_27 (a2 : Int) (a3 : Int) (self : Int → Int → Mem → (Int → Mem → Prop) → Prop) (Q : Int → Mem → Prop) : Nat → Int → Mem → Prop
  | 0, _, _ => False
  | n + 1, x4, M => (Rg x4 ∧ (3 ≤ x4 → Q (-1) M) ∧ (¬ (3 ≤ x4) → (Rg x4 ∧ Rg a3 ∧ (a3 < x4 → Q (-1) M) ∧ (¬ (a3 < x4) → (0 ≤ x4 ∧ x4 < 3) ∧ (0 ≤ a2 ∧ a2 < 6) ∧ (Rg (M 59 x4.toNat) ∧ Rg (M 58 a2.toNat) ∧ ((M 58 a2.toNat) ≤ (M 59 x4.toNat) → (0 ≤ x4 ∧ x4 < 3) ∧ (0 ≤ a2 ∧ a2 < 6) ∧ (0 ≤ x4 ∧ x4 < 3) ∧ Rg a3 ∧ Rg (x4 + 1) ∧ self (a2 + 1) (max a3 (x4 + 1)) (up M 59 x4.toNat ((M 59 x4.toNat) - (M 58 a2.toNat))) (fun r23 M22 => (0 ≤ x4 ∧ x4 < 3) ∧ (0 ≤ a2 ∧ a2 < 6) ∧ (0 ≤ x4 ∧ x4 < 3) ∧ (Rg r23 ∧ (r23 = (-1) → wp_X0_leastHeaps_27 a2 a3 self Q n (x4 + 1) (up M22 59 x4.toNat ((M22 59 x4.toNat) + (M22 58 a2.toNat)))) ∧ (¬ (r23 = (-1)) → wp_X0_groupShift a2 (up M22 59 x4.toNat ((M22 59 x4.toNat) + (M22 58 a2.toNat))) (fun r32 M31 => Q (bOr (bShl x4 r32) r23) M31))))) ∧ (¬ ((M 58 a2.toNat) ≤ (M 59 x4.toNat)) → wp_X0_leastHeaps_27 a2 a3 self Q n (x4 + 1) M))))))
set_option maxHeartbeats 4000000 in
set_option maxRecDepth 100000 in
theorem v_X0_leastHeaps_27 (a2 : Int) (a3 : Int) (n0 : Nat) (self : Int → Int → Mem → (Int → Mem → Prop) → Prop) (Hself : ∀ (a2 : Int) (a3 : Int) (M : Mem) (Q : Int → Mem → Prop), self a2 a3 M Q → MI X l yX0_leastHeaps cX0_leastHeaps 6 (some .int) (n0 + 1) [.ref (xA X 58), .ref (xA X 59), .int (jI a2), .int (jI a3)] M Q) (E : En X (AW X) (n0 + 1 + 1) p R s m args meth c cX0_leastHeaps RX0 6 (some .int) 0 0) (Q : Int → Mem → Prop) : ∀ n : Nat, ∀ (x4 : Int) (M : Mem) (H : Heap) (locs : List Loc) (ls : Array Slot), wp_X0_leastHeaps_27 a2 a3 self Q n x4 M → Wd X (AW X) s M H locs → lv_has ls 6 [(0, .ref (xA X 58)), (1, .ref (xA X 59)), (2, .int (jI a2)), (3, .int (jI a3)), (4, .int (jI x4))] → W p l e R s m args below meth c H locs 0 0 (MQ below (QI X Q) args s 0 0 (AW X)) (F0 m 27 ls []) := by
  intro n
  induction n with
  | zero => intro x4 M H locs ls h; exact absurd h (by simp [wp_X0_leastHeaps_27])
  | succ n ih =>
    intro x4 M H locs ls h hW hl
    rw [wp_X0_leastHeaps_27] at h
    refine q_iload (n := 29) (q := 4) E.1 hl rfl dX0_leastHeaps_27 rfl ?_
    refine q_iconst (n := 30) E.1 dX0_leastHeaps_29 rfl ?_
    obtain ⟨g1, h2, h3⟩ := h
    refine q_icmp_ge (t := 113) (n := 33) E.1 g1 (by decide) dX0_leastHeaps_30 (by decide) rfl (fun c4 => ?_) (fun c4 => ?_)
    · have h := h2 c4
      refine q_iconst (n := 114) E.1 dX0_leastHeaps_113 rfl ?_
      exact q_iret E hW h dX0_leastHeaps_114
    · have h := h3 c4
      refine q_iload (n := 35) (q := 4) E.1 hl rfl dX0_leastHeaps_33 rfl ?_
      refine q_iload_n (n := 36) (q := 3) E.1 hl rfl dX0_leastHeaps_35 rfl rfl ?_
      obtain ⟨g5, g6, h7, h8⟩ := h
      refine q_icmp_gt (t := 113) (n := 39) E.1 g5 g6 dX0_leastHeaps_36 (by decide) rfl (fun c9 => ?_) (fun c9 => ?_)
      · have h := h7 c9
        refine q_iconst (n := 114) E.1 dX0_leastHeaps_113 rfl ?_
        exact q_iret E hW h dX0_leastHeaps_114
      · have h := h8 c9
        refine q_aload_n (n := 40) (q := 1) E.1 hl rfl dX0_leastHeaps_39 rfl rfl ?_
        refine q_iload (n := 42) (q := 4) E.1 hl rfl dX0_leastHeaps_40 rfl ?_
        obtain ⟨g10, h⟩ := h
        refine q_iald (n := 43) E hW (by decide) (fun _ => rfl) (by decide) g10 dX0_leastHeaps_42 rfl ?_
        refine q_aload_n (n := 44) (q := 0) E.1 hl rfl dX0_leastHeaps_43 rfl rfl ?_
        refine q_iload_n (n := 45) (q := 2) E.1 hl rfl dX0_leastHeaps_44 rfl rfl ?_
        obtain ⟨g11, h⟩ := h
        refine q_iald (n := 46) E hW (by decide) (fun _ => rfl) (by decide) g11 dX0_leastHeaps_45 rfl ?_
        obtain ⟨g12, g13, h14, h15⟩ := h
        refine q_icmp_ge (t := 52) (n := 49) E.1 g12 g13 dX0_leastHeaps_46 (by decide) rfl (fun c16 => ?_) (fun c16 => ?_)
        · have h := h14 c16
          refine q_aload_n (n := 53) (q := 1) E.1 hl rfl dX0_leastHeaps_52 rfl rfl ?_
          refine q_iload (n := 55) (q := 4) E.1 hl rfl dX0_leastHeaps_53 rfl ?_
          refine q_dup2 (n := 56) E.1 dX0_leastHeaps_55 rfl rfl rfl ?_
          obtain ⟨g17, h⟩ := h
          refine q_iald (n := 57) E hW (by decide) (fun _ => rfl) (by decide) g17 dX0_leastHeaps_56 rfl ?_
          refine q_aload_n (n := 58) (q := 0) E.1 hl rfl dX0_leastHeaps_57 rfl rfl ?_
          refine q_iload_n (n := 59) (q := 2) E.1 hl rfl dX0_leastHeaps_58 rfl rfl ?_
          obtain ⟨g18, h⟩ := h
          refine q_iald (n := 60) E hW (by decide) (fun _ => rfl) (by decide) g18 dX0_leastHeaps_59 rfl ?_
          refine q_isub (n := 61) E.1 dX0_leastHeaps_60 rfl ?_
          obtain ⟨g19, h⟩ := h
          refine q_iast (n := 62) E hW (by decide) (fun _ => rfl) (by decide) g19 dX0_leastHeaps_61 rfl (fun H locs hW => ?_)
          refine q_aload_n (n := 63) (q := 0) E.1 hl rfl dX0_leastHeaps_62 rfl rfl ?_
          refine q_aload_n (n := 64) (q := 1) E.1 hl rfl dX0_leastHeaps_63 rfl rfl ?_
          refine q_iload_n (n := 65) (q := 2) E.1 hl rfl dX0_leastHeaps_64 rfl rfl ?_
          refine q_iconst (n := 66) E.1 dX0_leastHeaps_65 rfl ?_
          refine q_iadd (n := 67) E.1 dX0_leastHeaps_66 rfl ?_
          refine q_iload_n (n := 68) (q := 3) E.1 hl rfl dX0_leastHeaps_67 rfl rfl ?_
          refine q_iload (n := 70) (q := 4) E.1 hl rfl dX0_leastHeaps_68 rfl ?_
          refine q_iconst (n := 71) E.1 dX0_leastHeaps_70 rfl ?_
          refine q_iadd (n := 72) E.1 dX0_leastHeaps_71 rfl ?_
          obtain ⟨g20, g21, h⟩ := h
          refine q_mmax (n := 75) E hl.1 g20 g21 (by omega) w584 (Nat.le_of_ble_eq_true rfl) dX0_leastHeaps_72 rfl ?_
          refine q_callSi (n := 78) [.ref (xA X 58), .ref (xA X 59), .int (jI (a2 + 1)), .int (jI (max a3 (x4 + 1)))] E hW hl.1 (Hself (a2 + 1) (max a3 (x4 + 1)) _ _ h) (Nat.le_refl _) Y_RX0_101 rfl (rest := []) rfl (Nat.le_of_ble_eq_true rfl) dX0_leastHeaps_75 rfl (fun r23 M22 H locs h hW => ?_)
          refine q_istore (n := 80) [(5, .int (jI r23)), (0, .ref (xA X 58)), (1, .ref (xA X 59)), (2, .int (jI a2)), (3, .int (jI a3)), (4, .int (jI x4))] E.1 hl dX0_leastHeaps_78 (by decide) rfl rfl (fun ls hl => ?_)
          refine q_aload_n (n := 81) (q := 2) E.1 hl rfl dX0_leastHeaps_80 rfl rfl ?_
          refine q_iload (n := 83) (q := 5) E.1 hl rfl dX0_leastHeaps_81 rfl ?_
          refine q_dup2 (n := 84) E.1 dX0_leastHeaps_83 rfl rfl rfl ?_
          obtain ⟨g24, h⟩ := h
          refine q_iald (n := 85) E hW (by decide) (fun _ => rfl) (by decide) g24 dX0_leastHeaps_84 rfl ?_
          refine q_aload_n (n := 86) (q := 1) E.1 hl rfl dX0_leastHeaps_85 rfl rfl ?_
          refine q_iload_n (n := 87) (q := 3) E.1 hl rfl dX0_leastHeaps_86 rfl rfl ?_
          obtain ⟨g25, h⟩ := h
          refine q_iald (n := 88) E hW (by decide) (fun _ => rfl) (by decide) g25 dX0_leastHeaps_87 rfl ?_
          refine q_iadd (n := 89) E.1 dX0_leastHeaps_88 rfl ?_
          obtain ⟨g26, h⟩ := h
          refine q_iast (n := 90) E hW (by decide) (fun _ => rfl) (by decide) g26 dX0_leastHeaps_89 rfl (fun H locs hW => ?_)
          refine q_iload (n := 92) (q := 0) E.1 hl rfl dX0_leastHeaps_90 rfl ?_
          refine q_iconst (n := 93) E.1 dX0_leastHeaps_92 rfl ?_
          obtain ⟨g27, h28, h29⟩ := h
          refine q_icmp_eq (t := 107) (n := 96) E.1 g27 (by decide) dX0_leastHeaps_93 (by decide) rfl (fun c30 => ?_) (fun c30 => ?_)
          · have h := h28 c30
            refine q_iinc (n := 110) (q := 5) [(4, .int (jI (x4 + 1))), (5, .int (jI r23)), (0, .ref (xA X 58)), (1, .ref (xA X 59)), (2, .int (jI a2)), (3, .int (jI a3))] E.1 hl rfl dX0_leastHeaps_107 (by decide) rfl rfl (fun ls hl => ?_)
            refine q_goto (n := 27) E.1 dX0_leastHeaps_110 (by decide) ?_
            exact ih _ _ _ _ _ h hW (lv_sub hl [2, 3, 4, 5, 0] rfl)
          · have h := h29 c30
            refine q_iload (n := 98) (q := 5) E.1 hl rfl dX0_leastHeaps_96 rfl ?_
            refine q_iload_n (n := 99) (q := 3) E.1 hl rfl dX0_leastHeaps_98 rfl rfl ?_
            refine q_callSi (n := 102) [.int (jI a2)] E hW hl.1 (c_X0_groupShift l X E.2.2.1.1 a2  _ _ h) (by omega) Y_RX0_133 rfl (rest := [.int (jI x4)]) rfl (Nat.le_of_ble_eq_true rfl) dX0_leastHeaps_99 rfl (fun r32 M31 H locs h hW => ?_)
            refine q_ishl (n := 103) E.1 dX0_leastHeaps_102 rfl ?_
            refine q_iload (n := 105) (q := 0) E.1 hl rfl dX0_leastHeaps_103 rfl ?_
            refine q_ior (n := 106) E.1 dX0_leastHeaps_105 rfl ?_
            exact q_iret E hW h dX0_leastHeaps_106
        · have h := h15 c16
          refine q_goto (n := 107) E.1 dX0_leastHeaps_49 (by decide) ?_
          refine q_iinc (n := 110) (q := 4) [(4, .int (jI (x4 + 1))), (0, .ref (xA X 58)), (1, .ref (xA X 59)), (2, .int (jI a2)), (3, .int (jI a3))] E.1 hl rfl dX0_leastHeaps_107 (by decide) rfl rfl (fun ls hl => ?_)
          refine q_goto (n := 27) E.1 dX0_leastHeaps_110 (by decide) ?_
          exact ih _ _ _ _ _ h hW (lv_sub hl [1, 2, 3, 4, 0] rfl)
def wp_X0_leastHeaps : Nat → Int → Int → Mem → (Int → Mem → Prop) → Prop
  | 0, _, _, _, _ => False
  | n0 + 1, a2, a3, M, Q => (Rg a2 ∧ (a2 < 6 → (0 ≤ a2 ∧ a2 < 6) ∧ (Rg (M 58 a2.toNat) ∧ ((M 58 a2.toNat) ≠ 0 → (∃ n : Nat, wp_X0_leastHeaps_27 a2 a3 (wp_X0_leastHeaps n0) Q n 0 M)) ∧ (¬ ((M 58 a2.toNat) ≠ 0) → (wp_X0_leastHeaps n0) (a2 + 1) a3 M (fun r12 M11 => Q r12 M11)))) ∧ (¬ (a2 < 6) → Q 0 M))
set_option maxHeartbeats 4000000 in
set_option maxRecDepth 100000 in
theorem c_X0_leastHeaps (l : Launch) (X : Cx) (hI : Inj X) : ∀ (nn : Nat) (a2 : Int) (a3 : Int) (M : Mem) (Q : Int → Mem → Prop) (h : wp_X0_leastHeaps nn a2 a3 M Q), MI X l yX0_leastHeaps cX0_leastHeaps 6 (some .int) (nn + 1) [.ref (xA X 58), .ref (xA X 59), .int (jI a2), .int (jI a3)] M Q := by
  intro nn
  induction nn with
  | zero => intro a2 a3 M Q h; exact absurd h (by simp [wp_X0_leastHeaps])
  | succ n0 ihr =>
    intro a2 a3 M Q h
    have Hself : ∀ (a2 : Int) (a3 : Int) (M : Mem) (Q : Int → Mem → Prop), wp_X0_leastHeaps n0 a2 a3 M Q → MI X l yX0_leastHeaps cX0_leastHeaps 6 (some .int) (n0 + 1) [.ref (xA X 58), .ref (xA X 59), .int (jI a2), .int (jI a3)] M Q := ihr
    refine MI.of hI (by decide) (Nat.le_of_ble_eq_true rfl) ?_
    intro p e R s m args below meth c ls E hW hl
    have E : En X (AW X) (n0 + 1 + 1) p R s m args meth c cX0_leastHeaps RX0 6 (some .int) 0 0 := E
    have hl : lv_has ls 6 [(0, .ref (xA X 58)), (1, .ref (xA X 59)), (2, .int (jI a2)), (3, .int (jI a3))] := hl
    rw [wp_X0_leastHeaps] at h
    generalize hself : wp_X0_leastHeaps n0 = self at h Hself
    refine q_iload_n (n := 1) (q := 2) E.1 hl rfl dX0_leastHeaps_0 rfl rfl ?_
    refine q_bipush (n := 3) E.1 dX0_leastHeaps_1 (by decide) rfl ?_
    obtain ⟨g1, h2, h3⟩ := h
    refine q_icmp_lt (t := 8) (n := 6) E.1 g1 (by decide) dX0_leastHeaps_3 (by decide) rfl (fun c4 => ?_) (fun c4 => ?_)
    · have h := h2 c4
      refine q_aload_n (n := 9) (q := 0) E.1 hl rfl dX0_leastHeaps_8 rfl rfl ?_
      refine q_iload_n (n := 10) (q := 2) E.1 hl rfl dX0_leastHeaps_9 rfl rfl ?_
      obtain ⟨g5, h⟩ := h
      refine q_iald (n := 11) E hW (by decide) (fun _ => rfl) (by decide) g5 dX0_leastHeaps_10 rfl ?_
      obtain ⟨g6, h7, h8⟩ := h
      refine q_if_ne (t := 24) (n := 14) E.1 g6 dX0_leastHeaps_11 (by decide) rfl (fun c9 => ?_) (fun c9 => ?_)
      · have h := h7 c9
        refine q_iconst (n := 25) E.1 dX0_leastHeaps_24 rfl ?_
        refine q_istore (n := 27) [(4, .int (jI 0)), (0, .ref (xA X 58)), (1, .ref (xA X 59)), (2, .int (jI a2)), (3, .int (jI a3))] E.1 hl dX0_leastHeaps_25 (by decide) rfl rfl (fun ls hl => ?_)
        obtain ⟨n10, h⟩ := h
        exact v_X0_leastHeaps_27 a2 a3 n0 self Hself E Q n10 _ _ _ _ _ h hW (lv_sub hl [1, 2, 3, 4, 0] rfl)
      · have h := h8 c9
        refine q_aload_n (n := 15) (q := 0) E.1 hl rfl dX0_leastHeaps_14 rfl rfl ?_
        refine q_aload_n (n := 16) (q := 1) E.1 hl rfl dX0_leastHeaps_15 rfl rfl ?_
        refine q_iload_n (n := 17) (q := 2) E.1 hl rfl dX0_leastHeaps_16 rfl rfl ?_
        refine q_iconst (n := 18) E.1 dX0_leastHeaps_17 rfl ?_
        refine q_iadd (n := 19) E.1 dX0_leastHeaps_18 rfl ?_
        refine q_iload_n (n := 20) (q := 3) E.1 hl rfl dX0_leastHeaps_19 rfl rfl ?_
        refine q_callSi (n := 23) [.ref (xA X 58), .ref (xA X 59), .int (jI (a2 + 1)), .int (jI a3)] E hW hl.1 (Hself (a2 + 1) a3 _ _ h) (Nat.le_refl _) Y_RX0_101 rfl (rest := []) rfl (Nat.le_of_ble_eq_true rfl) dX0_leastHeaps_20 rfl (fun r12 M11 H locs h hW => ?_)
        exact q_iret E hW h dX0_leastHeaps_23
    · have h := h3 c4
      refine q_iconst (n := 7) E.1 dX0_leastHeaps_6 rfl ?_
      exact q_iret E hW h dX0_leastHeaps_7
/-! StickerPress$Best.makeRoom(I)Z -/
theorem dX0_makeRoom_0 : decode cX0_makeRoom 0 = .ok (.iconst 0, 1) := by decide +kernel
theorem dX0_makeRoom_1 : decode cX0_makeRoom 1 = .ok (.istore_n 2, 1) := by decide +kernel
theorem dX0_makeRoom_2 : decode cX0_makeRoom 2 = .ok (.iload_n 2, 1) := by decide +kernel
theorem dX0_makeRoom_3 : decode cX0_makeRoom 3 = .ok (.iconst 3, 1) := by decide +kernel
theorem dX0_makeRoom_4 : decode cX0_makeRoom 4 = .ok (.if_icmp .ge 16, 3) := by decide +kernel
theorem dX0_makeRoom_7 : decode cX0_makeRoom 7 = .ok (.aload_n 0, 1) := by decide +kernel
theorem dX0_makeRoom_8 : decode cX0_makeRoom 8 = .ok (.getfield 18, 3) := by decide +kernel
theorem dX0_makeRoom_11 : decode cX0_makeRoom 11 = .ok (.iload_n 2, 1) := by decide +kernel
theorem dX0_makeRoom_12 : decode cX0_makeRoom 12 = .ok (.iconst 0, 1) := by decide +kernel
theorem dX0_makeRoom_13 : decode cX0_makeRoom 13 = .ok (.iastore, 1) := by decide +kernel
theorem dX0_makeRoom_14 : decode cX0_makeRoom 14 = .ok (.iinc 2 1, 3) := by decide +kernel
theorem dX0_makeRoom_17 : decode cX0_makeRoom 17 = .ok (.goto (-15), 3) := by decide +kernel
theorem dX0_makeRoom_20 : decode cX0_makeRoom 20 = .ok (.iconst 0, 1) := by decide +kernel
theorem dX0_makeRoom_21 : decode cX0_makeRoom 21 = .ok (.istore_n 2, 1) := by decide +kernel
theorem dX0_makeRoom_22 : decode cX0_makeRoom 22 = .ok (.iconst 0, 1) := by decide +kernel
theorem dX0_makeRoom_23 : decode cX0_makeRoom 23 = .ok (.istore_n 3, 1) := by decide +kernel
theorem dX0_makeRoom_24 : decode cX0_makeRoom 24 = .ok (.iload_n 3, 1) := by decide +kernel
theorem dX0_makeRoom_25 : decode cX0_makeRoom 25 = .ok (.iconst 3, 1) := by decide +kernel
theorem dX0_makeRoom_26 : decode cX0_makeRoom 26 = .ok (.if_icmp .ge 47, 3) := by decide +kernel
theorem dX0_makeRoom_29 : decode cX0_makeRoom 29 = .ok (.iload_n 1, 1) := by decide +kernel
theorem dX0_makeRoom_30 : decode cX0_makeRoom 30 = .ok (.iload_n 3, 1) := by decide +kernel
theorem dX0_makeRoom_31 : decode cX0_makeRoom 31 = .ok (.invokestatic 70, 3) := by decide +kernel
theorem dX0_makeRoom_34 : decode cX0_makeRoom 34 = .ok (.istore 4, 2) := by decide +kernel
theorem dX0_makeRoom_36 : decode cX0_makeRoom 36 = .ok (.iload 4, 2) := by decide +kernel
theorem dX0_makeRoom_38 : decode cX0_makeRoom 38 = .ok (.iconst 3, 1) := by decide +kernel
theorem dX0_makeRoom_39 : decode cX0_makeRoom 39 = .ok (.if_icmp .ge 28, 3) := by decide +kernel
theorem dX0_makeRoom_42 : decode cX0_makeRoom 42 = .ok (.aload_n 0, 1) := by decide +kernel
theorem dX0_makeRoom_43 : decode cX0_makeRoom 43 = .ok (.getfield 18, 3) := by decide +kernel
theorem dX0_makeRoom_46 : decode cX0_makeRoom 46 = .ok (.iload 4, 2) := by decide +kernel
theorem dX0_makeRoom_48 : decode cX0_makeRoom 48 = .ok (.dup2, 1) := by decide +kernel
theorem dX0_makeRoom_49 : decode cX0_makeRoom 49 = .ok (.iaload, 1) := by decide +kernel
theorem dX0_makeRoom_50 : decode cX0_makeRoom 50 = .ok (.aload_n 0, 1) := by decide +kernel
theorem dX0_makeRoom_51 : decode cX0_makeRoom 51 = .ok (.getfield 15, 3) := by decide +kernel
theorem dX0_makeRoom_54 : decode cX0_makeRoom 54 = .ok (.iload_n 3, 1) := by decide +kernel
theorem dX0_makeRoom_55 : decode cX0_makeRoom 55 = .ok (.iaload, 1) := by decide +kernel
theorem dX0_makeRoom_56 : decode cX0_makeRoom 56 = .ok (.iadd, 1) := by decide +kernel
theorem dX0_makeRoom_57 : decode cX0_makeRoom 57 = .ok (.iastore, 1) := by decide +kernel
theorem dX0_makeRoom_58 : decode cX0_makeRoom 58 = .ok (.iload_n 2, 1) := by decide +kernel
theorem dX0_makeRoom_59 : decode cX0_makeRoom 59 = .ok (.aload_n 0, 1) := by decide +kernel
theorem dX0_makeRoom_60 : decode cX0_makeRoom 60 = .ok (.getfield 15, 3) := by decide +kernel
theorem dX0_makeRoom_63 : decode cX0_makeRoom 63 = .ok (.iload_n 3, 1) := by decide +kernel
theorem dX0_makeRoom_64 : decode cX0_makeRoom 64 = .ok (.iaload, 1) := by decide +kernel
theorem dX0_makeRoom_65 : decode cX0_makeRoom 65 = .ok (.iadd, 1) := by decide +kernel
theorem dX0_makeRoom_66 : decode cX0_makeRoom 66 = .ok (.istore_n 2, 1) := by decide +kernel
theorem dX0_makeRoom_67 : decode cX0_makeRoom 67 = .ok (.iinc 3 1, 3) := by decide +kernel
theorem dX0_makeRoom_70 : decode cX0_makeRoom 70 = .ok (.goto (-46), 3) := by decide +kernel
theorem dX0_makeRoom_73 : decode cX0_makeRoom 73 = .ok (.iload_n 2, 1) := by decide +kernel
theorem dX0_makeRoom_74 : decode cX0_makeRoom 74 = .ok (.aload_n 0, 1) := by decide +kernel
theorem dX0_makeRoom_75 : decode cX0_makeRoom 75 = .ok (.getfield 27, 3) := by decide +kernel
theorem dX0_makeRoom_78 : decode cX0_makeRoom 78 = .ok (.if_icmp .lt 7, 3) := by decide +kernel
theorem dX0_makeRoom_81 : decode cX0_makeRoom 81 = .ok (.iconst 1, 1) := by decide +kernel
theorem dX0_makeRoom_82 : decode cX0_makeRoom 82 = .ok (.goto 4, 3) := by decide +kernel
theorem dX0_makeRoom_85 : decode cX0_makeRoom 85 = .ok (.iconst 0, 1) := by decide +kernel
theorem dX0_makeRoom_86 : decode cX0_makeRoom 86 = .ok (.ireturn, 1) := by decide +kernel
def wp_X0_makeRoom_24 (a1 : Int) (Q : Int → Mem → Prop) : Nat → Int → Int → Mem → Prop
  | 0, _, _, _ => False
  | n + 1, x2, x3, M => (Rg x3 ∧ (3 ≤ x3 → (Rg x2 ∧ Rg (M 57 5) ∧ (x2 < (M 57 5) → Q 0 M) ∧ (¬ (x2 < (M 57 5)) → Q 1 M))) ∧ (¬ (3 ≤ x3) → wp_X0_sheetHeap a1 x3 M (fun r11 M10 => (Rg r11 ∧ (3 ≤ r11 → wp_X0_makeRoom_24 a1 Q n x2 (x3 + 1) M10) ∧ (¬ (3 ≤ r11) → (0 ≤ r11 ∧ r11 < 3) ∧ (0 ≤ x3 ∧ x3 < 3) ∧ (0 ≤ r11 ∧ r11 < 3) ∧ (0 ≤ x3 ∧ x3 < 3) ∧ wp_X0_makeRoom_24 a1 Q n (x2 + ((up M10 59 r11.toNat ((M10 59 r11.toNat) + (M10 90 x3.toNat))) 90 x3.toNat)) (x3 + 1) (up M10 59 r11.toNat ((M10 59 r11.toNat) + (M10 90 x3.toNat))))))))
set_option maxHeartbeats 4000000 in
set_option maxRecDepth 100000 in
theorem v_X0_makeRoom_24 (a1 : Int) (E : En X (AW X) 1 p R s m args meth c cX0_makeRoom RX0 5 (some .boolean) 0 0) (Q : Int → Mem → Prop) : ∀ n : Nat, ∀ (x2 x3 : Int) (M : Mem) (H : Heap) (locs : List Loc) (ls : Array Slot), wp_X0_makeRoom_24 a1 Q n x2 x3 M → Wd X (AW X) s M H locs → lv_has ls 5 [(0, .ref (xA X 57)), (1, .int (jI a1)), (2, .int (jI x2)), (3, .int (jI x3))] → W p l e R s m args below meth c H locs 0 0 (MQ below (QI X Q) args s 0 0 (AW X)) (F0 m 24 ls []) := by
  intro n
  induction n with
  | zero => intro x2 x3 M H locs ls h; exact absurd h (by simp [wp_X0_makeRoom_24])
  | succ n ih =>
    intro x2 x3 M H locs ls h hW hl
    rw [wp_X0_makeRoom_24] at h
    refine q_iload_n (n := 25) (q := 3) E.1 hl rfl dX0_makeRoom_24 rfl rfl ?_
    refine q_iconst (n := 26) E.1 dX0_makeRoom_25 rfl ?_
    obtain ⟨g1, h2, h3⟩ := h
    refine q_icmp_ge (t := 73) (n := 29) E.1 g1 (by decide) dX0_makeRoom_26 (by decide) rfl (fun c4 => ?_) (fun c4 => ?_)
    · have h := h2 c4
      refine q_iload_n (n := 74) (q := 2) E.1 hl rfl dX0_makeRoom_73 rfl rfl ?_
      refine q_aload_n (n := 75) (q := 0) E.1 hl rfl dX0_makeRoom_74 rfl rfl ?_
      refine q_get (n := 78) (k := 5) (fs := (fs57 X)) (v := .int (jI (M 57 5))) E hW (by decide) (fun _ => rfl) K0 (by decide) w220 rfl rfl dX0_makeRoom_75 rfl ?_
      obtain ⟨g5, g6, h7, h8⟩ := h
      refine q_icmp_lt (t := 85) (n := 81) E.1 g5 g6 dX0_makeRoom_78 (by decide) rfl (fun c9 => ?_) (fun c9 => ?_)
      · have h := h7 c9
        refine q_iconst (n := 86) E.1 dX0_makeRoom_85 rfl ?_
        exact q_zret E hW (Or.inl rfl) h dX0_makeRoom_86
      · have h := h8 c9
        refine q_iconst (n := 82) E.1 dX0_makeRoom_81 rfl ?_
        refine q_goto (n := 86) E.1 dX0_makeRoom_82 (by decide) ?_
        exact q_zret E hW (Or.inr rfl) h dX0_makeRoom_86
    · have h := h3 c4
      refine q_iload_n (n := 30) (q := 1) E.1 hl rfl dX0_makeRoom_29 rfl rfl ?_
      refine q_iload_n (n := 31) (q := 3) E.1 hl rfl dX0_makeRoom_30 rfl rfl ?_
      refine q_callSi (n := 34) [.int (jI a1), .int (jI x3)] E hW hl.1 (c_X0_sheetHeap l X E.2.2.1.1 a1 x3  _ _ h) (by decide) Y_RX0_70 rfl (rest := []) rfl (Nat.le_of_ble_eq_true rfl) dX0_makeRoom_31 rfl (fun r11 M10 H locs h hW => ?_)
      refine q_istore (n := 36) [(4, .int (jI r11)), (0, .ref (xA X 57)), (1, .int (jI a1)), (2, .int (jI x2)), (3, .int (jI x3))] E.1 hl dX0_makeRoom_34 (by decide) rfl rfl (fun ls hl => ?_)
      refine q_iload (n := 38) (q := 0) E.1 hl rfl dX0_makeRoom_36 rfl ?_
      refine q_iconst (n := 39) E.1 dX0_makeRoom_38 rfl ?_
      obtain ⟨g12, h13, h14⟩ := h
      refine q_icmp_ge (t := 67) (n := 42) E.1 g12 (by decide) dX0_makeRoom_39 (by decide) rfl (fun c15 => ?_) (fun c15 => ?_)
      · have h := h13 c15
        refine q_iinc (n := 70) (q := 4) [(3, .int (jI (x3 + 1))), (4, .int (jI r11)), (0, .ref (xA X 57)), (1, .int (jI a1)), (2, .int (jI x2))] E.1 hl rfl dX0_makeRoom_67 (by decide) rfl rfl (fun ls hl => ?_)
        refine q_goto (n := 24) E.1 dX0_makeRoom_70 (by decide) ?_
        exact ih _ _ _ _ _ _ h hW (lv_sub hl [2, 3, 4, 0] rfl)
      · have h := h14 c15
        refine q_aload_n (n := 43) (q := 1) E.1 hl rfl dX0_makeRoom_42 rfl rfl ?_
        refine q_get (n := 46) (k := 2) (fs := (fs57 X)) (v := .ref (xA X 59)) E hW (by decide) (fun _ => rfl) K0 (by decide) w217 rfl rfl dX0_makeRoom_43 rfl ?_
        refine q_iload (n := 48) (q := 0) E.1 hl rfl dX0_makeRoom_46 rfl ?_
        refine q_dup2 (n := 49) E.1 dX0_makeRoom_48 rfl rfl rfl ?_
        obtain ⟨g16, h⟩ := h
        refine q_iald (n := 50) E hW (by decide) (fun _ => rfl) (by decide) g16 dX0_makeRoom_49 rfl ?_
        refine q_aload_n (n := 51) (q := 1) E.1 hl rfl dX0_makeRoom_50 rfl rfl ?_
        refine q_get (n := 54) (k := 1) (fs := (fs57 X)) (v := .ref (xA X 90)) E hW (by decide) (fun _ => rfl) K0 (by decide) w216 rfl rfl dX0_makeRoom_51 rfl ?_
        refine q_iload_n (n := 55) (q := 4) E.1 hl rfl dX0_makeRoom_54 rfl rfl ?_
        obtain ⟨g17, h⟩ := h
        refine q_iald (n := 56) E hW (by decide) (fun _ => rfl) (by decide) g17 dX0_makeRoom_55 rfl ?_
        refine q_iadd (n := 57) E.1 dX0_makeRoom_56 rfl ?_
        obtain ⟨g18, h⟩ := h
        refine q_iast (n := 58) E hW (by decide) (fun _ => rfl) (by decide) g18 dX0_makeRoom_57 rfl (fun H locs hW => ?_)
        refine q_iload_n (n := 59) (q := 3) E.1 hl rfl dX0_makeRoom_58 rfl rfl ?_
        refine q_aload_n (n := 60) (q := 1) E.1 hl rfl dX0_makeRoom_59 rfl rfl ?_
        refine q_get (n := 63) (k := 1) (fs := (fs57 X)) (v := .ref (xA X 90)) E hW (by decide) (fun _ => rfl) K0 (by decide) w216 rfl rfl dX0_makeRoom_60 rfl ?_
        refine q_iload_n (n := 64) (q := 4) E.1 hl rfl dX0_makeRoom_63 rfl rfl ?_
        obtain ⟨g19, h⟩ := h
        refine q_iald (n := 65) E hW (by decide) (fun _ => rfl) (by decide) g19 dX0_makeRoom_64 rfl ?_
        refine q_iadd (n := 66) E.1 dX0_makeRoom_65 rfl ?_
        refine q_istore_n (n := 67) [(2, .int (jI (x2 + ((up M10 59 r11.toNat ((M10 59 r11.toNat) + (M10 90 x3.toNat))) 90 x3.toNat)))), (4, .int (jI r11)), (0, .ref (xA X 57)), (1, .int (jI a1)), (3, .int (jI x3))] E.1 hl dX0_makeRoom_66 rfl (by decide) rfl rfl (fun ls hl => ?_)
        refine q_iinc (n := 70) (q := 4) [(3, .int (jI (x3 + 1))), (2, .int (jI (x2 + ((up M10 59 r11.toNat ((M10 59 r11.toNat) + (M10 90 x3.toNat))) 90 x3.toNat)))), (4, .int (jI r11)), (0, .ref (xA X 57)), (1, .int (jI a1))] E.1 hl rfl dX0_makeRoom_67 (by decide) rfl rfl (fun ls hl => ?_)
        refine q_goto (n := 24) E.1 dX0_makeRoom_70 (by decide) ?_
        exact ih _ _ _ _ _ _ h hW (lv_sub hl [3, 4, 1, 0] rfl)
def wp_X0_makeRoom_2 (a1 : Int) (Q : Int → Mem → Prop) : Nat → Int → Mem → Prop
  | 0, _, _ => False
  | n + 1, x2, M => (Rg x2 ∧ (3 ≤ x2 → (∃ n2 : Nat, wp_X0_makeRoom_24 a1 Q n2 0 0 M)) ∧ (¬ (3 ≤ x2) → (0 ≤ x2 ∧ x2 < 3) ∧ wp_X0_makeRoom_2 a1 Q n (x2 + 1) (up M 59 x2.toNat 0)))
set_option maxHeartbeats 4000000 in
set_option maxRecDepth 100000 in
theorem v_X0_makeRoom_2 (a1 : Int) (E : En X (AW X) 1 p R s m args meth c cX0_makeRoom RX0 5 (some .boolean) 0 0) (Q : Int → Mem → Prop) : ∀ n : Nat, ∀ (x2 : Int) (M : Mem) (H : Heap) (locs : List Loc) (ls : Array Slot), wp_X0_makeRoom_2 a1 Q n x2 M → Wd X (AW X) s M H locs → lv_has ls 5 [(0, .ref (xA X 57)), (1, .int (jI a1)), (2, .int (jI x2))] → W p l e R s m args below meth c H locs 0 0 (MQ below (QI X Q) args s 0 0 (AW X)) (F0 m 2 ls []) := by
  intro n
  induction n with
  | zero => intro x2 M H locs ls h; exact absurd h (by simp [wp_X0_makeRoom_2])
  | succ n ih =>
    intro x2 M H locs ls h hW hl
    rw [wp_X0_makeRoom_2] at h
    refine q_iload_n (n := 3) (q := 2) E.1 hl rfl dX0_makeRoom_2 rfl rfl ?_
    refine q_iconst (n := 4) E.1 dX0_makeRoom_3 rfl ?_
    obtain ⟨g1, h2, h3⟩ := h
    refine q_icmp_ge (t := 20) (n := 7) E.1 g1 (by decide) dX0_makeRoom_4 (by decide) rfl (fun c4 => ?_) (fun c4 => ?_)
    · have h := h2 c4
      refine q_iconst (n := 21) E.1 dX0_makeRoom_20 rfl ?_
      refine q_istore_n (n := 22) [(2, .int (jI 0)), (0, .ref (xA X 57)), (1, .int (jI a1))] E.1 hl dX0_makeRoom_21 rfl (by decide) rfl rfl (fun ls hl => ?_)
      refine q_iconst (n := 23) E.1 dX0_makeRoom_22 rfl ?_
      refine q_istore_n (n := 24) [(3, .int (jI 0)), (2, .int (jI 0)), (0, .ref (xA X 57)), (1, .int (jI a1))] E.1 hl dX0_makeRoom_23 rfl (by decide) rfl rfl (fun ls hl => ?_)
      obtain ⟨n5, h⟩ := h
      exact v_X0_makeRoom_24 a1 E Q n5 _ _ _ _ _ _ h hW (lv_sub hl [2, 3, 1, 0] rfl)
    · have h := h3 c4
      refine q_aload_n (n := 8) (q := 0) E.1 hl rfl dX0_makeRoom_7 rfl rfl ?_
      refine q_get (n := 11) (k := 2) (fs := (fs57 X)) (v := .ref (xA X 59)) E hW (by decide) (fun _ => rfl) K0 (by decide) w217 rfl rfl dX0_makeRoom_8 rfl ?_
      refine q_iload_n (n := 12) (q := 2) E.1 hl rfl dX0_makeRoom_11 rfl rfl ?_
      refine q_iconst (n := 13) E.1 dX0_makeRoom_12 rfl ?_
      obtain ⟨g6, h⟩ := h
      refine q_iast (n := 14) E hW (by decide) (fun _ => rfl) (by decide) g6 dX0_makeRoom_13 rfl (fun H locs hW => ?_)
      refine q_iinc (n := 17) (q := 2) [(2, .int (jI (x2 + 1))), (0, .ref (xA X 57)), (1, .int (jI a1))] E.1 hl rfl dX0_makeRoom_14 (by decide) rfl rfl (fun ls hl => ?_)
      refine q_goto (n := 2) E.1 dX0_makeRoom_17 (by decide) ?_
      exact ih _ _ _ _ _ h hW (lv_sub hl [1, 2, 0] rfl)
def wp_X0_makeRoom (a1 : Int) (M : Mem) (Q : Int → Mem → Prop) : Prop := (∃ n : Nat, wp_X0_makeRoom_2 a1 Q n 0 M)
set_option maxHeartbeats 4000000 in
set_option maxRecDepth 100000 in
theorem c_X0_makeRoom (l : Launch) (X : Cx) (hI : Inj X) (a1 : Int) (M : Mem) (Q : Int → Mem → Prop) (h : wp_X0_makeRoom a1 M Q) : MI X l yX0_makeRoom cX0_makeRoom 5 (some .boolean) 1 [.ref (xA X 57), .int (jI a1)] M Q := by
  refine MI.of hI (by decide) (Nat.le_of_ble_eq_true rfl) ?_
  intro p e R s m args below meth c ls E hW hl
  have E : En X (AW X) 1 p R s m args meth c cX0_makeRoom RX0 5 (some .boolean) 0 0 := E
  have hl : lv_has ls 5 [(0, .ref (xA X 57)), (1, .int (jI a1))] := hl
  unfold wp_X0_makeRoom at h
  refine q_iconst (n := 1) E.1 dX0_makeRoom_0 rfl ?_
  refine q_istore_n (n := 2) [(2, .int (jI 0)), (0, .ref (xA X 57)), (1, .int (jI a1))] E.1 hl dX0_makeRoom_1 rfl (by decide) rfl rfl (fun ls hl => ?_)
  obtain ⟨n1, h⟩ := h
  exact v_X0_makeRoom_2 a1 E Q n1 _ _ _ _ _ h hW (lv_sub hl [1, 2, 0] rfl)
/-! StickerPress$Best.rankOf(I)I -/
theorem dX0_rankOf_0 : decode cX0_rankOf 0 = .ok (.iconst 0, 1) := by decide +kernel
theorem dX0_rankOf_1 : decode cX0_rankOf 1 = .ok (.istore_n 1, 1) := by decide +kernel
theorem dX0_rankOf_2 : decode cX0_rankOf 2 = .ok (.iconst 0, 1) := by decide +kernel
theorem dX0_rankOf_3 : decode cX0_rankOf 3 = .ok (.istore_n 2, 1) := by decide +kernel
theorem dX0_rankOf_4 : decode cX0_rankOf 4 = .ok (.iconst 0, 1) := by decide +kernel
theorem dX0_rankOf_5 : decode cX0_rankOf 5 = .ok (.istore_n 3, 1) := by decide +kernel
theorem dX0_rankOf_6 : decode cX0_rankOf 6 = .ok (.iload_n 3, 1) := by decide +kernel
theorem dX0_rankOf_7 : decode cX0_rankOf 7 = .ok (.iconst 3, 1) := by decide +kernel
theorem dX0_rankOf_8 : decode cX0_rankOf 8 = .ok (.if_icmp .ge 32, 3) := by decide +kernel
theorem dX0_rankOf_11 : decode cX0_rankOf 11 = .ok (.iload_n 0, 1) := by decide +kernel
theorem dX0_rankOf_12 : decode cX0_rankOf 12 = .ok (.iload_n 3, 1) := by decide +kernel
theorem dX0_rankOf_13 : decode cX0_rankOf 13 = .ok (.invokestatic 70, 3) := by decide +kernel
theorem dX0_rankOf_16 : decode cX0_rankOf 16 = .ok (.istore 4, 2) := by decide +kernel
theorem dX0_rankOf_18 : decode cX0_rankOf 18 = .ok (.iload 4, 2) := by decide +kernel
theorem dX0_rankOf_20 : decode cX0_rankOf 20 = .ok (.iconst 3, 1) := by decide +kernel
theorem dX0_rankOf_21 : decode cX0_rankOf 21 = .ok (.if_icmp .eq 13, 3) := by decide +kernel
theorem dX0_rankOf_24 : decode cX0_rankOf 24 = .ok (.iinc 1 1, 3) := by decide +kernel
theorem dX0_rankOf_27 : decode cX0_rankOf 27 = .ok (.iload_n 2, 1) := by decide +kernel
theorem dX0_rankOf_28 : decode cX0_rankOf 28 = .ok (.iconst 1, 1) := by decide +kernel
theorem dX0_rankOf_29 : decode cX0_rankOf 29 = .ok (.iload 4, 2) := by decide +kernel
theorem dX0_rankOf_31 : decode cX0_rankOf 31 = .ok (.ishl, 1) := by decide +kernel
theorem dX0_rankOf_32 : decode cX0_rankOf 32 = .ok (.ior, 1) := by decide +kernel
theorem dX0_rankOf_33 : decode cX0_rankOf 33 = .ok (.istore_n 2, 1) := by decide +kernel
theorem dX0_rankOf_34 : decode cX0_rankOf 34 = .ok (.iinc 3 1, 3) := by decide +kernel
theorem dX0_rankOf_37 : decode cX0_rankOf 37 = .ok (.goto (-31), 3) := by decide +kernel
theorem dX0_rankOf_40 : decode cX0_rankOf 40 = .ok (.iload_n 1, 1) := by decide +kernel
theorem dX0_rankOf_41 : decode cX0_rankOf 41 = .ok (.iload_n 2, 1) := by decide +kernel
theorem dX0_rankOf_42 : decode cX0_rankOf 42 = .ok (.invokestatic 123, 3) := by decide +kernel
theorem dX0_rankOf_45 : decode cX0_rankOf 45 = .ok (.isub, 1) := by decide +kernel
theorem dX0_rankOf_46 : decode cX0_rankOf 46 = .ok (.iconst 4, 1) := by decide +kernel
theorem dX0_rankOf_47 : decode cX0_rankOf 47 = .ok (.imul, 1) := by decide +kernel
theorem dX0_rankOf_48 : decode cX0_rankOf 48 = .ok (.iload_n 1, 1) := by decide +kernel
theorem dX0_rankOf_49 : decode cX0_rankOf 49 = .ok (.iadd, 1) := by decide +kernel
theorem dX0_rankOf_50 : decode cX0_rankOf 50 = .ok (.ireturn, 1) := by decide +kernel
theorem Y_RX0_123 : YS RX0 123 yJ6_bitCount_0f7a4 cJ6_bitCount_0f7a4 1 (some .int) 1 := ⟨w347, w576, w346, w53, by decide +kernel, by decide⟩
def wp_X0_rankOf_6 (a0 : Int) (Q : Int → Mem → Prop) : Nat → Int → Int → Int → Mem → Prop
  | 0, _, _, _, _ => False
  | n + 1, x1, x2, x3, M => (Rg x3 ∧ (3 ≤ x3 → wp_J6_bitCount_0f7a4 x2 M (fun r6 M5 => Q (((x1 - r6) * 4) + x1) M5)) ∧ (¬ (3 ≤ x3) → wp_X0_sheetHeap a0 x3 M (fun r8 M7 => (Rg r8 ∧ (r8 = 3 → wp_X0_rankOf_6 a0 Q n x1 x2 (x3 + 1) M7) ∧ (¬ (r8 = 3) → wp_X0_rankOf_6 a0 Q n (x1 + 1) (bOr x2 (bShl 1 r8)) (x3 + 1) M7)))))
set_option maxHeartbeats 4000000 in
set_option maxRecDepth 100000 in
theorem v_X0_rankOf_6 (a0 : Int) (E : En X (AW X) 1 p R s m args meth c cX0_rankOf RX0 5 (some .int) 0 0) (Q : Int → Mem → Prop) : ∀ n : Nat, ∀ (x1 x2 x3 : Int) (M : Mem) (H : Heap) (locs : List Loc) (ls : Array Slot), wp_X0_rankOf_6 a0 Q n x1 x2 x3 M → Wd X (AW X) s M H locs → lv_has ls 5 [(0, .int (jI a0)), (1, .int (jI x1)), (2, .int (jI x2)), (3, .int (jI x3))] → W p l e R s m args below meth c H locs 0 0 (MQ below (QI X Q) args s 0 0 (AW X)) (F0 m 6 ls []) := by
  intro n
  induction n with
  | zero => intro x1 x2 x3 M H locs ls h; exact absurd h (by simp [wp_X0_rankOf_6])
  | succ n ih =>
    intro x1 x2 x3 M H locs ls h hW hl
    rw [wp_X0_rankOf_6] at h
    refine q_iload_n (n := 7) (q := 3) E.1 hl rfl dX0_rankOf_6 rfl rfl ?_
    refine q_iconst (n := 8) E.1 dX0_rankOf_7 rfl ?_
    obtain ⟨g1, h2, h3⟩ := h
    refine q_icmp_ge (t := 40) (n := 11) E.1 g1 (by decide) dX0_rankOf_8 (by decide) rfl (fun c4 => ?_) (fun c4 => ?_)
    · have h := h2 c4
      refine q_iload_n (n := 41) (q := 1) E.1 hl rfl dX0_rankOf_40 rfl rfl ?_
      refine q_iload_n (n := 42) (q := 2) E.1 hl rfl dX0_rankOf_41 rfl rfl ?_
      refine q_callSi (n := 45) [.int (jI x2)] E hW hl.1 (c_J6_bitCount_0f7a4 l X E.2.2.1.1 x2  _ _ h) (by decide) Y_RX0_123 rfl (rest := [.int (jI x1)]) rfl (Nat.le_of_ble_eq_true rfl) dX0_rankOf_42 rfl (fun r6 M5 H locs h hW => ?_)
      refine q_isub (n := 46) E.1 dX0_rankOf_45 rfl ?_
      refine q_iconst (n := 47) E.1 dX0_rankOf_46 rfl ?_
      refine q_imul (n := 48) E.1 dX0_rankOf_47 rfl ?_
      refine q_iload_n (n := 49) (q := 1) E.1 hl rfl dX0_rankOf_48 rfl rfl ?_
      refine q_iadd (n := 50) E.1 dX0_rankOf_49 rfl ?_
      exact q_iret E hW h dX0_rankOf_50
    · have h := h3 c4
      refine q_iload_n (n := 12) (q := 0) E.1 hl rfl dX0_rankOf_11 rfl rfl ?_
      refine q_iload_n (n := 13) (q := 3) E.1 hl rfl dX0_rankOf_12 rfl rfl ?_
      refine q_callSi (n := 16) [.int (jI a0), .int (jI x3)] E hW hl.1 (c_X0_sheetHeap l X E.2.2.1.1 a0 x3  _ _ h) (by decide) Y_RX0_70 rfl (rest := []) rfl (Nat.le_of_ble_eq_true rfl) dX0_rankOf_13 rfl (fun r8 M7 H locs h hW => ?_)
      refine q_istore (n := 18) [(4, .int (jI r8)), (0, .int (jI a0)), (1, .int (jI x1)), (2, .int (jI x2)), (3, .int (jI x3))] E.1 hl dX0_rankOf_16 (by decide) rfl rfl (fun ls hl => ?_)
      refine q_iload (n := 20) (q := 0) E.1 hl rfl dX0_rankOf_18 rfl ?_
      refine q_iconst (n := 21) E.1 dX0_rankOf_20 rfl ?_
      obtain ⟨g9, h10, h11⟩ := h
      refine q_icmp_eq (t := 34) (n := 24) E.1 g9 (by decide) dX0_rankOf_21 (by decide) rfl (fun c12 => ?_) (fun c12 => ?_)
      · have h := h10 c12
        refine q_iinc (n := 37) (q := 4) [(3, .int (jI (x3 + 1))), (4, .int (jI r8)), (0, .int (jI a0)), (1, .int (jI x1)), (2, .int (jI x2))] E.1 hl rfl dX0_rankOf_34 (by decide) rfl rfl (fun ls hl => ?_)
        refine q_goto (n := 6) E.1 dX0_rankOf_37 (by decide) ?_
        exact ih _ _ _ _ _ _ _ h hW (lv_sub hl [2, 3, 4, 0] rfl)
      · have h := h11 c12
        refine q_iinc (n := 27) (q := 2) [(1, .int (jI (x1 + 1))), (4, .int (jI r8)), (0, .int (jI a0)), (2, .int (jI x2)), (3, .int (jI x3))] E.1 hl rfl dX0_rankOf_24 (by decide) rfl rfl (fun ls hl => ?_)
        refine q_iload_n (n := 28) (q := 3) E.1 hl rfl dX0_rankOf_27 rfl rfl ?_
        refine q_iconst (n := 29) E.1 dX0_rankOf_28 rfl ?_
        refine q_iload (n := 31) (q := 1) E.1 hl rfl dX0_rankOf_29 rfl ?_
        refine q_ishl (n := 32) E.1 dX0_rankOf_31 rfl ?_
        refine q_ior (n := 33) E.1 dX0_rankOf_32 rfl ?_
        refine q_istore_n (n := 34) [(2, .int (jI (bOr x2 (bShl 1 r8)))), (1, .int (jI (x1 + 1))), (4, .int (jI r8)), (0, .int (jI a0)), (3, .int (jI x3))] E.1 hl dX0_rankOf_33 rfl (by decide) rfl rfl (fun ls hl => ?_)
        refine q_iinc (n := 37) (q := 4) [(3, .int (jI (x3 + 1))), (2, .int (jI (bOr x2 (bShl 1 r8)))), (1, .int (jI (x1 + 1))), (4, .int (jI r8)), (0, .int (jI a0))] E.1 hl rfl dX0_rankOf_34 (by decide) rfl rfl (fun ls hl => ?_)
        refine q_goto (n := 6) E.1 dX0_rankOf_37 (by decide) ?_
        exact ih _ _ _ _ _ _ _ h hW (lv_sub hl [4, 2, 1, 0] rfl)
def wp_X0_rankOf (a0 : Int) (M : Mem) (Q : Int → Mem → Prop) : Prop := (∃ n : Nat, wp_X0_rankOf_6 a0 Q n 0 0 0 M)
set_option maxHeartbeats 4000000 in
set_option maxRecDepth 100000 in
theorem c_X0_rankOf (l : Launch) (X : Cx) (hI : Inj X) (a0 : Int) (M : Mem) (Q : Int → Mem → Prop) (h : wp_X0_rankOf a0 M Q) : MI X l yX0_rankOf cX0_rankOf 5 (some .int) 1 [.int (jI a0)] M Q := by
  refine MI.of hI (by decide) (Nat.le_of_ble_eq_true rfl) ?_
  intro p e R s m args below meth c ls E hW hl
  have E : En X (AW X) 1 p R s m args meth c cX0_rankOf RX0 5 (some .int) 0 0 := E
  have hl : lv_has ls 5 [(0, .int (jI a0))] := hl
  unfold wp_X0_rankOf at h
  refine q_iconst (n := 1) E.1 dX0_rankOf_0 rfl ?_
  refine q_istore_n (n := 2) [(1, .int (jI 0)), (0, .int (jI a0))] E.1 hl dX0_rankOf_1 rfl (by decide) rfl rfl (fun ls hl => ?_)
  refine q_iconst (n := 3) E.1 dX0_rankOf_2 rfl ?_
  refine q_istore_n (n := 4) [(2, .int (jI 0)), (1, .int (jI 0)), (0, .int (jI a0))] E.1 hl dX0_rankOf_3 rfl (by decide) rfl rfl (fun ls hl => ?_)
  refine q_iconst (n := 5) E.1 dX0_rankOf_4 rfl ?_
  refine q_istore_n (n := 6) [(3, .int (jI 0)), (2, .int (jI 0)), (1, .int (jI 0)), (0, .int (jI a0))] E.1 hl dX0_rankOf_5 rfl (by decide) rfl rfl (fun ls hl => ?_)
  obtain ⟨n1, h⟩ := h
  exact v_X0_rankOf_6 a0 E Q n1 _ _ _ _ _ _ _ h hW (lv_sub hl [3, 2, 1, 0] rfl)
/-! StickerPress$Best.trySheets(I)V -/
theorem dX0_trySheets_0 : decode cX0_trySheets 0 = .ok (.iload_n 1, 1) := by decide +kernel
theorem dX0_trySheets_1 : decode cX0_trySheets 1 = .ok (.invokestatic 95, 3) := by decide +kernel
theorem dX0_trySheets_4 : decode cX0_trySheets 4 = .ok (.istore_n 2, 1) := by decide +kernel
theorem dX0_trySheets_5 : decode cX0_trySheets 5 = .ok (.iload_n 2, 1) := by decide +kernel
theorem dX0_trySheets_6 : decode cX0_trySheets 6 = .ok (.aload_n 0, 1) := by decide +kernel
theorem dX0_trySheets_7 : decode cX0_trySheets 7 = .ok (.getfield 36, 3) := by decide +kernel
theorem dX0_trySheets_10 : decode cX0_trySheets 10 = .ok (.if_icmp .gt 11, 3) := by decide +kernel
theorem dX0_trySheets_13 : decode cX0_trySheets 13 = .ok (.aload_n 0, 1) := by decide +kernel
theorem dX0_trySheets_14 : decode cX0_trySheets 14 = .ok (.iload_n 1, 1) := by decide +kernel
theorem dX0_trySheets_15 : decode cX0_trySheets 15 = .ok (.invokevirtual 98, 3) := by decide +kernel
theorem dX0_trySheets_18 : decode cX0_trySheets 18 = .ok (.ifCond .ne 4, 3) := by decide +kernel
theorem dX0_trySheets_21 : decode cX0_trySheets 21 = .ok (.return_, 1) := by decide +kernel
theorem dX0_trySheets_22 : decode cX0_trySheets 22 = .ok (.aload_n 0, 1) := by decide +kernel
theorem dX0_trySheets_23 : decode cX0_trySheets 23 = .ok (.getfield 9, 3) := by decide +kernel
theorem dX0_trySheets_26 : decode cX0_trySheets 26 = .ok (.aload_n 0, 1) := by decide +kernel
theorem dX0_trySheets_27 : decode cX0_trySheets 27 = .ok (.getfield 18, 3) := by decide +kernel
theorem dX0_trySheets_30 : decode cX0_trySheets 30 = .ok (.iconst 0, 1) := by decide +kernel
theorem dX0_trySheets_31 : decode cX0_trySheets 31 = .ok (.iconst 0, 1) := by decide +kernel
theorem dX0_trySheets_32 : decode cX0_trySheets 32 = .ok (.invokestatic 101, 3) := by decide +kernel
theorem dX0_trySheets_35 : decode cX0_trySheets 35 = .ok (.istore_n 3, 1) := by decide +kernel
theorem dX0_trySheets_36 : decode cX0_trySheets 36 = .ok (.iload_n 3, 1) := by decide +kernel
theorem dX0_trySheets_37 : decode cX0_trySheets 37 = .ok (.iconst (-1), 1) := by decide +kernel
theorem dX0_trySheets_38 : decode cX0_trySheets 38 = .ok (.if_icmp .eq 34, 3) := by decide +kernel
theorem dX0_trySheets_41 : decode cX0_trySheets 41 = .ok (.iload_n 2, 1) := by decide +kernel
theorem dX0_trySheets_42 : decode cX0_trySheets 42 = .ok (.aload_n 0, 1) := by decide +kernel
theorem dX0_trySheets_43 : decode cX0_trySheets 43 = .ok (.getfield 36, 3) := by decide +kernel
theorem dX0_trySheets_46 : decode cX0_trySheets 46 = .ok (.if_icmp .lt 11, 3) := by decide +kernel
theorem dX0_trySheets_49 : decode cX0_trySheets 49 = .ok (.iload_n 3, 1) := by decide +kernel
theorem dX0_trySheets_50 : decode cX0_trySheets 50 = .ok (.aload_n 0, 1) := by decide +kernel
theorem dX0_trySheets_51 : decode cX0_trySheets 51 = .ok (.getfield 39, 3) := by decide +kernel
theorem dX0_trySheets_54 : decode cX0_trySheets 54 = .ok (.if_icmp .ge 18, 3) := by decide +kernel
theorem dX0_trySheets_57 : decode cX0_trySheets 57 = .ok (.aload_n 0, 1) := by decide +kernel
theorem dX0_trySheets_58 : decode cX0_trySheets 58 = .ok (.iload_n 2, 1) := by decide +kernel
theorem dX0_trySheets_59 : decode cX0_trySheets 59 = .ok (.putfield 36, 3) := by decide +kernel
theorem dX0_trySheets_62 : decode cX0_trySheets 62 = .ok (.aload_n 0, 1) := by decide +kernel
theorem dX0_trySheets_63 : decode cX0_trySheets 63 = .ok (.iload_n 3, 1) := by decide +kernel
theorem dX0_trySheets_64 : decode cX0_trySheets 64 = .ok (.putfield 39, 3) := by decide +kernel
theorem dX0_trySheets_67 : decode cX0_trySheets 67 = .ok (.aload_n 0, 1) := by decide +kernel
theorem dX0_trySheets_68 : decode cX0_trySheets 68 = .ok (.iload_n 1, 1) := by decide +kernel
theorem dX0_trySheets_69 : decode cX0_trySheets 69 = .ok (.putfield 42, 3) := by decide +kernel
theorem dX0_trySheets_72 : decode cX0_trySheets 72 = .ok (.return_, 1) := by decide +kernel
theorem Y_RX0_95 : YS RX0 95 yX0_rankOf cX0_rankOf 5 (some .int) 1 := ⟨w572, w570, w571, w51, by decide +kernel, by decide⟩
theorem Y_RX0_98 : YV RX0 98 RX0 yX0_makeRoom cX0_makeRoom 5 (some .boolean) 1 := ⟨w580, w577, w579, w18, w51, by decide +kernel, by decide⟩
def wp_X0_trySheets (a1 : Int) (M : Mem) (Q : Mem → Prop) : Prop := wp_X0_rankOf a1 M (fun r2 M1 => (Rg r2 ∧ Rg (M1 57 7) ∧ ((M1 57 7) < r2 → Q M1) ∧ (¬ ((M1 57 7) < r2) → wp_X0_makeRoom a1 M1 (fun r9 M8 => (Rg r9 ∧ (r9 ≠ 0 → wp_X0_leastHeaps 8 0 0 M8 (fun r15 M14 => (Rg r15 ∧ (r15 = (-1) → Q M14) ∧ (¬ (r15 = (-1)) → (Rg r2 ∧ Rg (M14 57 7) ∧ (r2 < (M14 57 7) → Q (up (up (up M14 57 7 r2) 57 8 r15) 57 9 a1)) ∧ (¬ (r2 < (M14 57 7)) → (Rg r15 ∧ Rg (M14 57 8) ∧ ((M14 57 8) ≤ r15 → Q M14) ∧ (¬ ((M14 57 8) ≤ r15) → Q (up (up (up M14 57 7 r2) 57 8 r15) 57 9 a1))))))))) ∧ (¬ (r9 ≠ 0) → Q M8))))))
set_option maxHeartbeats 4000000 in
set_option maxRecDepth 100000 in
theorem c_X0_trySheets (l : Launch) (X : Cx) (hI : Inj X) (a1 : Int) (M : Mem) (Q : Mem → Prop) (h : wp_X0_trySheets a1 M Q) : MV X l yX0_trySheets cX0_trySheets 4 10 [.ref (xA X 57), .int (jI a1)] M Q := by
  refine MV.of hI (by decide) (Nat.le_of_ble_eq_true rfl) ?_
  intro p e R s m args below meth c ls E hW hl
  have E : En X (AW X) 10 p R s m args meth c cX0_trySheets RX0 4 none 0 0 := E
  have hl : lv_has ls 4 [(0, .ref (xA X 57)), (1, .int (jI a1))] := hl
  unfold wp_X0_trySheets at h
  refine q_iload_n (n := 1) (q := 1) E.1 hl rfl dX0_trySheets_0 rfl rfl ?_
  refine q_callSi (n := 4) [.int (jI a1)] E hW hl.1 (c_X0_rankOf l X E.2.2.1.1 a1  _ _ h) (by decide) Y_RX0_95 rfl (rest := []) rfl (Nat.le_of_ble_eq_true rfl) dX0_trySheets_1 rfl (fun r2 M1 H locs h hW => ?_)
  refine q_istore_n (n := 5) [(2, .int (jI r2)), (0, .ref (xA X 57)), (1, .int (jI a1))] E.1 hl dX0_trySheets_4 rfl (by decide) rfl rfl (fun ls hl => ?_)
  refine q_iload_n (n := 6) (q := 0) E.1 hl rfl dX0_trySheets_5 rfl rfl ?_
  refine q_aload_n (n := 7) (q := 1) E.1 hl rfl dX0_trySheets_6 rfl rfl ?_
  refine q_get (n := 10) (k := 7) (fs := (fs57 X)) (v := .int (jI (M1 57 7))) E hW (by decide) (fun _ => rfl) K0 (by decide) w222 rfl rfl dX0_trySheets_7 rfl ?_
  obtain ⟨g3, g4, h5, h6⟩ := h
  refine q_icmp_gt (t := 21) (n := 13) E.1 g3 g4 dX0_trySheets_10 (by decide) rfl (fun c7 => ?_) (fun c7 => ?_)
  · have h := h5 c7
    exact q_vret E hW h dX0_trySheets_21
  · have h := h6 c7
    refine q_aload_n (n := 14) (q := 1) E.1 hl rfl dX0_trySheets_13 rfl rfl ?_
    refine q_iload_n (n := 15) (q := 2) E.1 hl rfl dX0_trySheets_14 rfl rfl ?_
    refine q_callVi (n := 18) (fs := (fs57 X)) [.int (jI a1)] E hW hl.1 (by decide) (fun _ => rfl) K0 (c_X0_makeRoom l X E.2.2.1.1 a1  _ _ h) (by decide) Y_RX0_98 rfl (rest := []) rfl (Nat.le_of_ble_eq_true rfl) dX0_trySheets_15 rfl (fun r9 M8 H locs h hW => ?_)
    obtain ⟨g10, h11, h12⟩ := h
    refine q_if_ne (t := 22) (n := 21) E.1 g10 dX0_trySheets_18 (by decide) rfl (fun c13 => ?_) (fun c13 => ?_)
    · have h := h11 c13
      refine q_aload_n (n := 23) (q := 1) E.1 hl rfl dX0_trySheets_22 rfl rfl ?_
      refine q_get (n := 26) (k := 0) (fs := (fs57 X)) (v := .ref (xA X 58)) E hW (by decide) (fun _ => rfl) K0 (by decide) w215 rfl rfl dX0_trySheets_23 rfl ?_
      refine q_aload_n (n := 27) (q := 1) E.1 hl rfl dX0_trySheets_26 rfl rfl ?_
      refine q_get (n := 30) (k := 2) (fs := (fs57 X)) (v := .ref (xA X 59)) E hW (by decide) (fun _ => rfl) K0 (by decide) w217 rfl rfl dX0_trySheets_27 rfl ?_
      refine q_iconst (n := 31) E.1 dX0_trySheets_30 rfl ?_
      refine q_iconst (n := 32) E.1 dX0_trySheets_31 rfl ?_
      refine q_callSi (n := 35) [.ref (xA X 58), .ref (xA X 59), .int (jI 0), .int (jI 0)] E hW hl.1 (c_X0_leastHeaps l X E.2.2.1.1 8 0 0  _ _ h) (by decide) Y_RX0_101 rfl (rest := []) rfl (Nat.le_of_ble_eq_true rfl) dX0_trySheets_32 rfl (fun r15 M14 H locs h hW => ?_)
      refine q_istore_n (n := 36) [(3, .int (jI r15)), (2, .int (jI r2)), (0, .ref (xA X 57)), (1, .int (jI a1))] E.1 hl dX0_trySheets_35 rfl (by decide) rfl rfl (fun ls hl => ?_)
      refine q_iload_n (n := 37) (q := 0) E.1 hl rfl dX0_trySheets_36 rfl rfl ?_
      refine q_iconst (n := 38) E.1 dX0_trySheets_37 rfl ?_
      obtain ⟨g16, h17, h18⟩ := h
      refine q_icmp_eq (t := 72) (n := 41) E.1 g16 (by decide) dX0_trySheets_38 (by decide) rfl (fun c19 => ?_) (fun c19 => ?_)
      · have h := h17 c19
        exact q_vret E hW h dX0_trySheets_72
      · have h := h18 c19
        refine q_iload_n (n := 42) (q := 1) E.1 hl rfl dX0_trySheets_41 rfl rfl ?_
        refine q_aload_n (n := 43) (q := 2) E.1 hl rfl dX0_trySheets_42 rfl rfl ?_
        refine q_get (n := 46) (k := 7) (fs := (fs57 X)) (v := .int (jI (M14 57 7))) E hW (by decide) (fun _ => rfl) K0 (by decide) w222 rfl rfl dX0_trySheets_43 rfl ?_
        obtain ⟨g20, g21, h22, h23⟩ := h
        refine q_icmp_lt (t := 57) (n := 49) E.1 g20 g21 dX0_trySheets_46 (by decide) rfl (fun c24 => ?_) (fun c24 => ?_)
        · have h := h22 c24
          refine q_aload_n (n := 58) (q := 2) E.1 hl rfl dX0_trySheets_57 rfl rfl ?_
          refine q_iload_n (n := 59) (q := 1) E.1 hl rfl dX0_trySheets_58 rfl rfl ?_
          refine q_put (n := 62) (k := 7) (fs := (fs57 X)) E hW (by decide) (fun _ => rfl) K0 (by decide) w222 rfl rfl ⟨rfl, rfl⟩ (Nat.le_of_ble_eq_true rfl) (fun _ => rfl) dX0_trySheets_59 rfl (fun H locs hW => ?_)
          refine q_aload_n (n := 63) (q := 2) E.1 hl rfl dX0_trySheets_62 rfl rfl ?_
          refine q_iload_n (n := 64) (q := 0) E.1 hl rfl dX0_trySheets_63 rfl rfl ?_
          refine q_put (n := 67) (k := 8) (fs := (fs57 X)) E hW (by decide) (fun _ => rfl) K0 (by decide) w223 rfl rfl ⟨rfl, rfl⟩ (Nat.le_of_ble_eq_true rfl) (fun _ => rfl) dX0_trySheets_64 rfl (fun H locs hW => ?_)
          refine q_aload_n (n := 68) (q := 2) E.1 hl rfl dX0_trySheets_67 rfl rfl ?_
          refine q_iload_n (n := 69) (q := 3) E.1 hl rfl dX0_trySheets_68 rfl rfl ?_
          refine q_put (n := 72) (k := 9) (fs := (fs57 X)) E hW (by decide) (fun _ => rfl) K0 (by decide) w224 rfl rfl ⟨rfl, rfl⟩ (Nat.le_of_ble_eq_true rfl) (fun _ => rfl) dX0_trySheets_69 rfl (fun H locs hW => ?_)
          exact q_vret E hW h dX0_trySheets_72
        · have h := h23 c24
          refine q_iload_n (n := 50) (q := 0) E.1 hl rfl dX0_trySheets_49 rfl rfl ?_
          refine q_aload_n (n := 51) (q := 2) E.1 hl rfl dX0_trySheets_50 rfl rfl ?_
          refine q_get (n := 54) (k := 8) (fs := (fs57 X)) (v := .int (jI (M14 57 8))) E hW (by decide) (fun _ => rfl) K0 (by decide) w223 rfl rfl dX0_trySheets_51 rfl ?_
          obtain ⟨g25, g26, h27, h28⟩ := h
          refine q_icmp_ge (t := 72) (n := 57) E.1 g25 g26 dX0_trySheets_54 (by decide) rfl (fun c29 => ?_) (fun c29 => ?_)
          · have h := h27 c29
            exact q_vret E hW h dX0_trySheets_72
          · have h := h28 c29
            refine q_aload_n (n := 58) (q := 2) E.1 hl rfl dX0_trySheets_57 rfl rfl ?_
            refine q_iload_n (n := 59) (q := 1) E.1 hl rfl dX0_trySheets_58 rfl rfl ?_
            refine q_put (n := 62) (k := 7) (fs := (fs57 X)) E hW (by decide) (fun _ => rfl) K0 (by decide) w222 rfl rfl ⟨rfl, rfl⟩ (Nat.le_of_ble_eq_true rfl) (fun _ => rfl) dX0_trySheets_59 rfl (fun H locs hW => ?_)
            refine q_aload_n (n := 63) (q := 2) E.1 hl rfl dX0_trySheets_62 rfl rfl ?_
            refine q_iload_n (n := 64) (q := 0) E.1 hl rfl dX0_trySheets_63 rfl rfl ?_
            refine q_put (n := 67) (k := 8) (fs := (fs57 X)) E hW (by decide) (fun _ => rfl) K0 (by decide) w223 rfl rfl ⟨rfl, rfl⟩ (Nat.le_of_ble_eq_true rfl) (fun _ => rfl) dX0_trySheets_64 rfl (fun H locs hW => ?_)
            refine q_aload_n (n := 68) (q := 2) E.1 hl rfl dX0_trySheets_67 rfl rfl ?_
            refine q_iload_n (n := 69) (q := 3) E.1 hl rfl dX0_trySheets_68 rfl rfl ?_
            refine q_put (n := 72) (k := 9) (fs := (fs57 X)) E hW (by decide) (fun _ => rfl) K0 (by decide) w224 rfl rfl ⟨rfl, rfl⟩ (Nat.le_of_ble_eq_true rfl) (fun _ => rfl) dX0_trySheets_69 rfl (fun H locs hW => ?_)
            exact q_vret E hW h dX0_trySheets_72
    · have h := h12 c13
      exact q_vret E hW h dX0_trySheets_21
/-! StickerPress$Best.seek()V -/
theorem dX0_seek_0 : decode cX0_seek 0 = .ok (.aload_n 0, 1) := by decide +kernel
theorem dX0_seek_1 : decode cX0_seek 1 = .ok (.ldc 35, 2) := by decide +kernel
theorem dX0_seek_3 : decode cX0_seek 3 = .ok (.putfield 36, 3) := by decide +kernel
theorem dX0_seek_6 : decode cX0_seek 6 = .ok (.aload_n 0, 1) := by decide +kernel
theorem dX0_seek_7 : decode cX0_seek 7 = .ok (.sipush 4096, 3) := by decide +kernel
theorem dX0_seek_10 : decode cX0_seek 10 = .ok (.putfield 39, 3) := by decide +kernel
theorem dX0_seek_13 : decode cX0_seek 13 = .ok (.aload_n 0, 1) := by decide +kernel
theorem dX0_seek_14 : decode cX0_seek 14 = .ok (.bipush 64, 2) := by decide +kernel
theorem dX0_seek_16 : decode cX0_seek 16 = .ok (.putfield 42, 3) := by decide +kernel
theorem dX0_seek_19 : decode cX0_seek 19 = .ok (.iconst 0, 1) := by decide +kernel
theorem dX0_seek_20 : decode cX0_seek 20 = .ok (.istore_n 1, 1) := by decide +kernel
theorem dX0_seek_21 : decode cX0_seek 21 = .ok (.iload_n 1, 1) := by decide +kernel
theorem dX0_seek_22 : decode cX0_seek 22 = .ok (.bipush 64, 2) := by decide +kernel
theorem dX0_seek_24 : decode cX0_seek 24 = .ok (.if_icmp .ge 14, 3) := by decide +kernel
theorem dX0_seek_27 : decode cX0_seek 27 = .ok (.aload_n 0, 1) := by decide +kernel
theorem dX0_seek_28 : decode cX0_seek 28 = .ok (.iload_n 1, 1) := by decide +kernel
theorem dX0_seek_29 : decode cX0_seek 29 = .ok (.invokevirtual 91, 3) := by decide +kernel
theorem dX0_seek_32 : decode cX0_seek 32 = .ok (.iinc 1 1, 3) := by decide +kernel
theorem dX0_seek_35 : decode cX0_seek 35 = .ok (.goto (-14), 3) := by decide +kernel
theorem dX0_seek_38 : decode cX0_seek 38 = .ok (.return_, 1) := by decide +kernel
theorem Y_RX0_91 : YV RX0 91 RX0 yX0_trySheets cX0_trySheets 4 none 1 := ⟨w569, w566, w568, w17, w51, by decide +kernel, by decide⟩
def wp_X0_seek_21 (Q : Mem → Prop) : Nat → Int → Mem → Prop
  | 0, _, _ => False
  | n + 1, x1, M => (Rg x1 ∧ (64 ≤ x1 → Q M) ∧ (¬ (64 ≤ x1) → wp_X0_trySheets x1 M (fun M5 => wp_X0_seek_21 Q n (x1 + 1) M5)))
set_option maxHeartbeats 4000000 in
set_option maxRecDepth 100000 in
theorem v_X0_seek_21 (E : En X (AW X) 11 p R s m args meth c cX0_seek RX0 2 none 0 0) (Q : Mem → Prop) : ∀ n : Nat, ∀ (x1 : Int) (M : Mem) (H : Heap) (locs : List Loc) (ls : Array Slot), wp_X0_seek_21 Q n x1 M → Wd X (AW X) s M H locs → lv_has ls 2 [(0, .ref (xA X 57)), (1, .int (jI x1))] → W p l e R s m args below meth c H locs 0 0 (MQ below (QV X Q) args s 0 0 (AW X)) (F0 m 21 ls []) := by
  intro n
  induction n with
  | zero => intro x1 M H locs ls h; exact absurd h (by simp [wp_X0_seek_21])
  | succ n ih =>
    intro x1 M H locs ls h hW hl
    rw [wp_X0_seek_21] at h
    refine q_iload_n (n := 22) (q := 1) E.1 hl rfl dX0_seek_21 rfl rfl ?_
    refine q_bipush (n := 24) E.1 dX0_seek_22 (by decide) rfl ?_
    obtain ⟨g1, h2, h3⟩ := h
    refine q_icmp_ge (t := 38) (n := 27) E.1 g1 (by decide) dX0_seek_24 (by decide) rfl (fun c4 => ?_) (fun c4 => ?_)
    · have h := h2 c4
      exact q_vret E hW h dX0_seek_38
    · have h := h3 c4
      refine q_aload_n (n := 28) (q := 0) E.1 hl rfl dX0_seek_27 rfl rfl ?_
      refine q_iload_n (n := 29) (q := 1) E.1 hl rfl dX0_seek_28 rfl rfl ?_
      refine q_callVv (n := 32) (fs := (fs57 X)) [.int (jI x1)] E hW hl.1 (by decide) (fun _ => rfl) K0 (c_X0_trySheets l X E.2.2.1.1 x1  _ _ h) (by decide) Y_RX0_91 rfl (rest := []) rfl (Nat.le_of_ble_eq_true rfl) dX0_seek_29 rfl (fun M5 H locs h hW => ?_)
      refine q_iinc (n := 35) (q := 1) [(1, .int (jI (x1 + 1))), (0, .ref (xA X 57))] E.1 hl rfl dX0_seek_32 (by decide) rfl rfl (fun ls hl => ?_)
      refine q_goto (n := 21) E.1 dX0_seek_35 (by decide) ?_
      exact ih _ _ _ _ _ h hW (lv_sub hl [1, 0] rfl)
def wp_X0_seek (M : Mem) (Q : Mem → Prop) : Prop := (∃ n : Nat, wp_X0_seek_21 Q n 0 (up (up (up M 57 7 1048576) 57 8 4096) 57 9 64))
set_option maxHeartbeats 4000000 in
set_option maxRecDepth 100000 in
theorem c_X0_seek (l : Launch) (X : Cx) (hI : Inj X) (M : Mem) (Q : Mem → Prop) (h : wp_X0_seek M Q) : MV X l yX0_seek cX0_seek 2 11 [.ref (xA X 57)] M Q := by
  refine MV.of hI (by decide) (Nat.le_of_ble_eq_true rfl) ?_
  intro p e R s m args below meth c ls E hW hl
  have E : En X (AW X) 11 p R s m args meth c cX0_seek RX0 2 none 0 0 := E
  have hl : lv_has ls 2 [(0, .ref (xA X 57))] := hl
  unfold wp_X0_seek at h
  refine q_aload_n (n := 1) (q := 0) E.1 hl rfl dX0_seek_0 rfl rfl ?_
  refine q_ldc (n := 3) (z := 1048576) E.1 w214 (by decide) dX0_seek_1 rfl ?_
  refine q_put (n := 6) (k := 7) (fs := (fs57 X)) E hW (by decide) (fun _ => rfl) K0 (by decide) w222 rfl rfl ⟨rfl, rfl⟩ (Nat.le_of_ble_eq_true rfl) (fun _ => rfl) dX0_seek_3 rfl (fun H locs hW => ?_)
  refine q_aload_n (n := 7) (q := 0) E.1 hl rfl dX0_seek_6 rfl rfl ?_
  refine q_sipush (n := 10) E.1 dX0_seek_7 (by decide) rfl ?_
  refine q_put (n := 13) (k := 8) (fs := (fs57 X)) E hW (by decide) (fun _ => rfl) K0 (by decide) w223 rfl rfl ⟨rfl, rfl⟩ (Nat.le_of_ble_eq_true rfl) (fun _ => rfl) dX0_seek_10 rfl (fun H locs hW => ?_)
  refine q_aload_n (n := 14) (q := 0) E.1 hl rfl dX0_seek_13 rfl rfl ?_
  refine q_bipush (n := 16) E.1 dX0_seek_14 (by decide) rfl ?_
  refine q_put (n := 19) (k := 9) (fs := (fs57 X)) E hW (by decide) (fun _ => rfl) K0 (by decide) w224 rfl rfl ⟨rfl, rfl⟩ (Nat.le_of_ble_eq_true rfl) (fun _ => rfl) dX0_seek_16 rfl (fun H locs hW => ?_)
  refine q_iconst (n := 20) E.1 dX0_seek_19 rfl ?_
  refine q_istore_n (n := 21) [(1, .int (jI 0)), (0, .ref (xA X 57))] E.1 hl dX0_seek_20 rfl (by decide) rfl rfl (fun ls hl => ?_)
  obtain ⟨n1, h⟩ := h
  exact v_X0_seek_21 E Q n1 _ _ _ _ _ h hW (lv_sub hl [1, 0] rfl)
/-! StickerPress$Best.refresh(LStickerPress$Labels;LStickerPress$Sheets;)V -/
theorem dX0_refresh_0 : decode cX0_refresh 0 = .ok (.aload_n 0, 1) := by decide +kernel
theorem dX0_refresh_1 : decode cX0_refresh 1 = .ok (.getfield 31, 3) := by decide +kernel
theorem dX0_refresh_4 : decode cX0_refresh 4 = .ok (.ifCond .ne 24, 3) := by decide +kernel
theorem dX0_refresh_7 : decode cX0_refresh 7 = .ok (.aload_n 0, 1) := by decide +kernel
theorem dX0_refresh_8 : decode cX0_refresh 8 = .ok (.aload_n 1, 1) := by decide +kernel
theorem dX0_refresh_9 : decode cX0_refresh 9 = .ok (.aload_n 2, 1) := by decide +kernel
theorem dX0_refresh_10 : decode cX0_refresh 10 = .ok (.invokevirtual 45, 3) := by decide +kernel
theorem dX0_refresh_13 : decode cX0_refresh 13 = .ok (.aload_n 0, 1) := by decide +kernel
theorem dX0_refresh_14 : decode cX0_refresh 14 = .ok (.invokevirtual 49, 3) := by decide +kernel
theorem dX0_refresh_17 : decode cX0_refresh 17 = .ok (.aload_n 0, 1) := by decide +kernel
theorem dX0_refresh_18 : decode cX0_refresh 18 = .ok (.aload_n 1, 1) := by decide +kernel
theorem dX0_refresh_19 : decode cX0_refresh 19 = .ok (.aload_n 2, 1) := by decide +kernel
theorem dX0_refresh_20 : decode cX0_refresh 20 = .ok (.invokevirtual 52, 3) := by decide +kernel
theorem dX0_refresh_23 : decode cX0_refresh 23 = .ok (.aload_n 0, 1) := by decide +kernel
theorem dX0_refresh_24 : decode cX0_refresh 24 = .ok (.iconst 1, 1) := by decide +kernel
theorem dX0_refresh_25 : decode cX0_refresh 25 = .ok (.putfield 31, 3) := by decide +kernel
theorem dX0_refresh_28 : decode cX0_refresh 28 = .ok (.return_, 1) := by decide +kernel
theorem Y_RX0_45 : YV RX0 45 RX0 yX0_countAll cX0_countAll 4 none 2 := ⟨w558, w555, w557, w15, w51, by decide +kernel, by decide⟩
theorem Y_RX0_49 : YV RX0 49 RX0 yX0_seek cX0_seek 2 none 0 := ⟨w565, w562, w564, w16, w51, by decide +kernel, by decide⟩
theorem Y_RX0_52 : YV RX0 52 RX0 yX0_layAll cX0_layAll 4 none 2 := ⟨w591, w588, w590, w19, w51, by decide +kernel, by decide⟩
def wp_X0_refresh (M : Mem) (Q : Mem → Prop) : Prop := (Rg (M 57 6) ∧ ((M 57 6) ≠ 0 → Q M) ∧ (¬ ((M 57 6) ≠ 0) → wp_X0_countAll  M (fun M5 => wp_X0_seek  M5 (fun M6 => wp_X0_layAll  M6 (fun M7 => Q (up M7 57 6 1))))))
set_option maxHeartbeats 4000000 in
set_option maxRecDepth 100000 in
theorem c_X0_refresh (l : Launch) (X : Cx) (hI : Inj X) (M : Mem) (Q : Mem → Prop) (h : wp_X0_refresh M Q) : MV X l yX0_refresh cX0_refresh 3 12 [.ref (xA X 57), .ref (xA X 48), .ref (xA X 53)] M Q := by
  refine MV.of hI (by decide) (Nat.le_of_ble_eq_true rfl) ?_
  intro p e R s m args below meth c ls E hW hl
  have E : En X (AW X) 12 p R s m args meth c cX0_refresh RX0 3 none 0 0 := E
  have hl : lv_has ls 3 [(0, .ref (xA X 57)), (1, .ref (xA X 48)), (2, .ref (xA X 53))] := hl
  unfold wp_X0_refresh at h
  refine q_aload_n (n := 1) (q := 0) E.1 hl rfl dX0_refresh_0 rfl rfl ?_
  refine q_get (n := 4) (k := 6) (fs := (fs57 X)) (v := .int (jI (M 57 6))) E hW (by decide) (fun _ => rfl) K0 (by decide) w221 rfl rfl dX0_refresh_1 rfl ?_
  obtain ⟨g1, h2, h3⟩ := h
  refine q_if_ne (t := 28) (n := 7) E.1 g1 dX0_refresh_4 (by decide) rfl (fun c4 => ?_) (fun c4 => ?_)
  · have h := h2 c4
    exact q_vret E hW h dX0_refresh_28
  · have h := h3 c4
    refine q_aload_n (n := 8) (q := 0) E.1 hl rfl dX0_refresh_7 rfl rfl ?_
    refine q_aload_n (n := 9) (q := 1) E.1 hl rfl dX0_refresh_8 rfl rfl ?_
    refine q_aload_n (n := 10) (q := 2) E.1 hl rfl dX0_refresh_9 rfl rfl ?_
    refine q_callVv (n := 13) (fs := (fs57 X)) [.ref (xA X 48), .ref (xA X 53)] E hW hl.1 (by decide) (fun _ => rfl) K0 (c_X0_countAll l X E.2.2.1.1   _ _ h) (by decide) Y_RX0_45 rfl (rest := []) rfl (Nat.le_of_ble_eq_true rfl) dX0_refresh_10 rfl (fun M5 H locs h hW => ?_)
    refine q_aload_n (n := 14) (q := 0) E.1 hl rfl dX0_refresh_13 rfl rfl ?_
    refine q_callVv (n := 17) (fs := (fs57 X)) [] E hW hl.1 (by decide) (fun _ => rfl) K0 (c_X0_seek l X E.2.2.1.1   _ _ h) (by decide) Y_RX0_49 rfl (rest := []) rfl (Nat.le_of_ble_eq_true rfl) dX0_refresh_14 rfl (fun M6 H locs h hW => ?_)
    refine q_aload_n (n := 18) (q := 0) E.1 hl rfl dX0_refresh_17 rfl rfl ?_
    refine q_aload_n (n := 19) (q := 1) E.1 hl rfl dX0_refresh_18 rfl rfl ?_
    refine q_aload_n (n := 20) (q := 2) E.1 hl rfl dX0_refresh_19 rfl rfl ?_
    refine q_callVv (n := 23) (fs := (fs57 X)) [.ref (xA X 48), .ref (xA X 53)] E hW hl.1 (by decide) (fun _ => rfl) K0 (c_X0_layAll l X E.2.2.1.1   _ _ h) (by decide) Y_RX0_52 rfl (rest := []) rfl (Nat.le_of_ble_eq_true rfl) dX0_refresh_20 rfl (fun M7 H locs h hW => ?_)
    refine q_aload_n (n := 24) (q := 0) E.1 hl rfl dX0_refresh_23 rfl rfl ?_
    refine q_iconst (n := 25) E.1 dX0_refresh_24 rfl ?_
    refine q_put (n := 28) (k := 6) (fs := (fs57 X)) E hW (by decide) (fun _ => rfl) K0 (by decide) w221 rfl rfl ⟨nar_bool (Or.inr rfl), fit_bool (Or.inr rfl)⟩ (Nat.le_of_ble_eq_true rfl) (fun _ => rfl) dX0_refresh_25 rfl (fun H locs hW => ?_)
    exact q_vret E hW h dX0_refresh_28
/-! StickerPress$Best.pieces()I -/
theorem dX0_pieces_0 : decode cX0_pieces 0 = .ok (.aload_n 0, 1) := by decide +kernel
theorem dX0_pieces_1 : decode cX0_pieces 1 = .ok (.invokevirtual 55, 3) := by decide +kernel
theorem dX0_pieces_4 : decode cX0_pieces 4 = .ok (.ifCond .ne 5, 3) := by decide +kernel
theorem dX0_pieces_7 : decode cX0_pieces 7 = .ok (.iconst (-1), 1) := by decide +kernel
theorem dX0_pieces_8 : decode cX0_pieces 8 = .ok (.ireturn, 1) := by decide +kernel
theorem dX0_pieces_9 : decode cX0_pieces 9 = .ok (.aload_n 0, 1) := by decide +kernel
theorem dX0_pieces_10 : decode cX0_pieces 10 = .ok (.getfield 36, 3) := by decide +kernel
theorem dX0_pieces_13 : decode cX0_pieces 13 = .ok (.iconst 4, 1) := by decide +kernel
theorem dX0_pieces_14 : decode cX0_pieces 14 = .ok (.idiv, 1) := by decide +kernel
theorem dX0_pieces_15 : decode cX0_pieces 15 = .ok (.istore_n 1, 1) := by decide +kernel
theorem dX0_pieces_16 : decode cX0_pieces 16 = .ok (.iconst 0, 1) := by decide +kernel
theorem dX0_pieces_17 : decode cX0_pieces 17 = .ok (.istore_n 2, 1) := by decide +kernel
theorem dX0_pieces_18 : decode cX0_pieces 18 = .ok (.iload_n 2, 1) := by decide +kernel
theorem dX0_pieces_19 : decode cX0_pieces 19 = .ok (.bipush 6, 2) := by decide +kernel
theorem dX0_pieces_21 : decode cX0_pieces 21 = .ok (.if_icmp .ge 21, 3) := by decide +kernel
theorem dX0_pieces_24 : decode cX0_pieces 24 = .ok (.aload_n 0, 1) := by decide +kernel
theorem dX0_pieces_25 : decode cX0_pieces 25 = .ok (.getfield 9, 3) := by decide +kernel
theorem dX0_pieces_28 : decode cX0_pieces 28 = .ok (.iload_n 2, 1) := by decide +kernel
theorem dX0_pieces_29 : decode cX0_pieces 29 = .ok (.iaload, 1) := by decide +kernel
theorem dX0_pieces_30 : decode cX0_pieces 30 = .ok (.ifCond .le 6, 3) := by decide +kernel
theorem dX0_pieces_33 : decode cX0_pieces 33 = .ok (.iinc 1 1, 3) := by decide +kernel
theorem dX0_pieces_36 : decode cX0_pieces 36 = .ok (.iinc 2 1, 3) := by decide +kernel
theorem dX0_pieces_39 : decode cX0_pieces 39 = .ok (.goto (-21), 3) := by decide +kernel
theorem dX0_pieces_42 : decode cX0_pieces 42 = .ok (.iload_n 1, 1) := by decide +kernel
theorem dX0_pieces_43 : decode cX0_pieces 43 = .ok (.ireturn, 1) := by decide +kernel
def wp_X0_pieces_18 (Q : Int → Mem → Prop) : Nat → Int → Int → Mem → Prop
  | 0, _, _, _ => False
  | n + 1, x1, x2, M => (Rg x2 ∧ (6 ≤ x2 → Q x1 M) ∧ (¬ (6 ≤ x2) → (0 ≤ x2 ∧ x2 < 6) ∧ (Rg (M 58 x2.toNat) ∧ ((M 58 x2.toNat) ≤ 0 → wp_X0_pieces_18 Q n x1 (x2 + 1) M) ∧ (¬ ((M 58 x2.toNat) ≤ 0) → wp_X0_pieces_18 Q n (x1 + 1) (x2 + 1) M))))
set_option maxHeartbeats 4000000 in
set_option maxRecDepth 100000 in
theorem v_X0_pieces_18 (E : En X (AW X) 1 p R s m args meth c cX0_pieces RX0 3 (some .int) 0 0) (Q : Int → Mem → Prop) : ∀ n : Nat, ∀ (x1 x2 : Int) (M : Mem) (H : Heap) (locs : List Loc) (ls : Array Slot), wp_X0_pieces_18 Q n x1 x2 M → Wd X (AW X) s M H locs → lv_has ls 3 [(0, .ref (xA X 57)), (1, .int (jI x1)), (2, .int (jI x2))] → W p l e R s m args below meth c H locs 0 0 (MQ below (QI X Q) args s 0 0 (AW X)) (F0 m 18 ls []) := by
  intro n
  induction n with
  | zero => intro x1 x2 M H locs ls h; exact absurd h (by simp [wp_X0_pieces_18])
  | succ n ih =>
    intro x1 x2 M H locs ls h hW hl
    rw [wp_X0_pieces_18] at h
    refine q_iload_n (n := 19) (q := 2) E.1 hl rfl dX0_pieces_18 rfl rfl ?_
    refine q_bipush (n := 21) E.1 dX0_pieces_19 (by decide) rfl ?_
    obtain ⟨g1, h2, h3⟩ := h
    refine q_icmp_ge (t := 42) (n := 24) E.1 g1 (by decide) dX0_pieces_21 (by decide) rfl (fun c4 => ?_) (fun c4 => ?_)
    · have h := h2 c4
      refine q_iload_n (n := 43) (q := 1) E.1 hl rfl dX0_pieces_42 rfl rfl ?_
      exact q_iret E hW h dX0_pieces_43
    · have h := h3 c4
      refine q_aload_n (n := 25) (q := 0) E.1 hl rfl dX0_pieces_24 rfl rfl ?_
      refine q_get (n := 28) (k := 0) (fs := (fs57 X)) (v := .ref (xA X 58)) E hW (by decide) (fun _ => rfl) K0 (by decide) w215 rfl rfl dX0_pieces_25 rfl ?_
      refine q_iload_n (n := 29) (q := 2) E.1 hl rfl dX0_pieces_28 rfl rfl ?_
      obtain ⟨g5, h⟩ := h
      refine q_iald (n := 30) E hW (by decide) (fun _ => rfl) (by decide) g5 dX0_pieces_29 rfl ?_
      obtain ⟨g6, h7, h8⟩ := h
      refine q_if_le (t := 36) (n := 33) E.1 g6 dX0_pieces_30 (by decide) rfl (fun c9 => ?_) (fun c9 => ?_)
      · have h := h7 c9
        refine q_iinc (n := 39) (q := 2) [(2, .int (jI (x2 + 1))), (0, .ref (xA X 57)), (1, .int (jI x1))] E.1 hl rfl dX0_pieces_36 (by decide) rfl rfl (fun ls hl => ?_)
        refine q_goto (n := 18) E.1 dX0_pieces_39 (by decide) ?_
        exact ih _ _ _ _ _ _ h hW (lv_sub hl [1, 2, 0] rfl)
      · have h := h8 c9
        refine q_iinc (n := 36) (q := 1) [(1, .int (jI (x1 + 1))), (0, .ref (xA X 57)), (2, .int (jI x2))] E.1 hl rfl dX0_pieces_33 (by decide) rfl rfl (fun ls hl => ?_)
        refine q_iinc (n := 39) (q := 2) [(2, .int (jI (x2 + 1))), (1, .int (jI (x1 + 1))), (0, .ref (xA X 57))] E.1 hl rfl dX0_pieces_36 (by decide) rfl rfl (fun ls hl => ?_)
        refine q_goto (n := 18) E.1 dX0_pieces_39 (by decide) ?_
        exact ih _ _ _ _ _ _ h hW (lv_sub hl [2, 1, 0] rfl)
def wp_X0_pieces (M : Mem) (Q : Int → Mem → Prop) : Prop := wp_X0_exists  M (fun r2 M1 => (Rg r2 ∧ (r2 ≠ 0 → (Rg (M1 57 7) ∧ 0 ≤ (M1 57 7)) ∧ (∃ n : Nat, wp_X0_pieces_18 Q n ((M1 57 7) / 4) 0 M1)) ∧ (¬ (r2 ≠ 0) → Q (-1) M1)))
set_option maxHeartbeats 4000000 in
set_option maxRecDepth 100000 in
theorem c_X0_pieces (l : Launch) (X : Cx) (hI : Inj X) (M : Mem) (Q : Int → Mem → Prop) (h : wp_X0_pieces M Q) : MI X l yX0_pieces cX0_pieces 3 (some .int) 1 [.ref (xA X 57)] M Q := by
  refine MI.of hI (by decide) (Nat.le_of_ble_eq_true rfl) ?_
  intro p e R s m args below meth c ls E hW hl
  have E : En X (AW X) 1 p R s m args meth c cX0_pieces RX0 3 (some .int) 0 0 := E
  have hl : lv_has ls 3 [(0, .ref (xA X 57))] := hl
  unfold wp_X0_pieces at h
  refine q_aload_n (n := 1) (q := 0) E.1 hl rfl dX0_pieces_0 rfl rfl ?_
  refine q_callVi (n := 4) (fs := (fs57 X)) [] E hW hl.1 (by decide) (fun _ => rfl) K0 (c_X0_exists l X E.2.2.1.1   _ _ h) (by decide) Y_RX0_55 rfl (rest := []) rfl (Nat.le_of_ble_eq_true rfl) dX0_pieces_1 rfl (fun r2 M1 H locs h hW => ?_)
  obtain ⟨g3, h4, h5⟩ := h
  refine q_if_ne (t := 9) (n := 7) E.1 g3 dX0_pieces_4 (by decide) rfl (fun c6 => ?_) (fun c6 => ?_)
  · have h := h4 c6
    refine q_aload_n (n := 10) (q := 0) E.1 hl rfl dX0_pieces_9 rfl rfl ?_
    refine q_get (n := 13) (k := 7) (fs := (fs57 X)) (v := .int (jI (M1 57 7))) E hW (by decide) (fun _ => rfl) K0 (by decide) w222 rfl rfl dX0_pieces_10 rfl ?_
    refine q_iconst (n := 14) E.1 dX0_pieces_13 rfl ?_
    obtain ⟨g7, h⟩ := h
    refine q_idiv (n := 15) E.1 g7 (by decide) dX0_pieces_14 rfl ?_
    refine q_istore_n (n := 16) [(1, .int (jI ((M1 57 7) / 4))), (0, .ref (xA X 57))] E.1 hl dX0_pieces_15 rfl (by decide) rfl rfl (fun ls hl => ?_)
    refine q_iconst (n := 17) E.1 dX0_pieces_16 rfl ?_
    refine q_istore_n (n := 18) [(2, .int (jI 0)), (1, .int (jI ((M1 57 7) / 4))), (0, .ref (xA X 57))] E.1 hl dX0_pieces_17 rfl (by decide) rfl rfl (fun ls hl => ?_)
    obtain ⟨n8, h⟩ := h
    exact v_X0_pieces_18 E Q n8 _ _ _ _ _ _ h hW (lv_sub hl [2, 1, 0] rfl)
  · have h := h5 c6
    refine q_iconst (n := 8) E.1 dX0_pieces_7 rfl ?_
    exact q_iret E hW h dX0_pieces_8
/-! StickerPress$Best.sheetsInHeaps()I -/
theorem dX0_sheetsInHeaps_0 : decode cX0_sheetsInHeaps 0 = .ok (.aload_n 0, 1) := by decide +kernel
theorem dX0_sheetsInHeaps_1 : decode cX0_sheetsInHeaps 1 = .ok (.invokevirtual 55, 3) := by decide +kernel
theorem dX0_sheetsInHeaps_4 : decode cX0_sheetsInHeaps 4 = .ok (.ifCond .eq 12, 3) := by decide +kernel
theorem dX0_sheetsInHeaps_7 : decode cX0_sheetsInHeaps 7 = .ok (.aload_n 0, 1) := by decide +kernel
theorem dX0_sheetsInHeaps_8 : decode cX0_sheetsInHeaps 8 = .ok (.getfield 36, 3) := by decide +kernel
theorem dX0_sheetsInHeaps_11 : decode cX0_sheetsInHeaps 11 = .ok (.iconst 4, 1) := by decide +kernel
theorem dX0_sheetsInHeaps_12 : decode cX0_sheetsInHeaps 12 = .ok (.irem, 1) := by decide +kernel
theorem dX0_sheetsInHeaps_13 : decode cX0_sheetsInHeaps 13 = .ok (.goto 4, 3) := by decide +kernel
theorem dX0_sheetsInHeaps_16 : decode cX0_sheetsInHeaps 16 = .ok (.iconst (-1), 1) := by decide +kernel
theorem dX0_sheetsInHeaps_17 : decode cX0_sheetsInHeaps 17 = .ok (.ireturn, 1) := by decide +kernel
def wp_X0_sheetsInHeaps (M : Mem) (Q : Int → Mem → Prop) : Prop := wp_X0_exists  M (fun r2 M1 => (Rg r2 ∧ (r2 = 0 → Q (-1) M1) ∧ (¬ (r2 = 0) → (Rg (M1 57 7) ∧ 0 ≤ (M1 57 7)) ∧ Q ((M1 57 7) % 4) M1)))
set_option maxHeartbeats 4000000 in
set_option maxRecDepth 100000 in
theorem c_X0_sheetsInHeaps (l : Launch) (X : Cx) (hI : Inj X) (M : Mem) (Q : Int → Mem → Prop) (h : wp_X0_sheetsInHeaps M Q) : MI X l yX0_sheetsInHeaps cX0_sheetsInHeaps 1 (some .int) 1 [.ref (xA X 57)] M Q := by
  refine MI.of hI (by decide) (Nat.le_of_ble_eq_true rfl) ?_
  intro p e R s m args below meth c ls E hW hl
  have E : En X (AW X) 1 p R s m args meth c cX0_sheetsInHeaps RX0 1 (some .int) 0 0 := E
  have hl : lv_has ls 1 [(0, .ref (xA X 57))] := hl
  unfold wp_X0_sheetsInHeaps at h
  refine q_aload_n (n := 1) (q := 0) E.1 hl rfl dX0_sheetsInHeaps_0 rfl rfl ?_
  refine q_callVi (n := 4) (fs := (fs57 X)) [] E hW hl.1 (by decide) (fun _ => rfl) K0 (c_X0_exists l X E.2.2.1.1   _ _ h) (by decide) Y_RX0_55 rfl (rest := []) rfl (Nat.le_of_ble_eq_true rfl) dX0_sheetsInHeaps_1 rfl (fun r2 M1 H locs h hW => ?_)
  obtain ⟨g3, h4, h5⟩ := h
  refine q_if_eq (t := 16) (n := 7) E.1 g3 dX0_sheetsInHeaps_4 (by decide) rfl (fun c6 => ?_) (fun c6 => ?_)
  · have h := h4 c6
    refine q_iconst (n := 17) E.1 dX0_sheetsInHeaps_16 rfl ?_
    exact q_iret E hW h dX0_sheetsInHeaps_17
  · have h := h5 c6
    refine q_aload_n (n := 8) (q := 0) E.1 hl rfl dX0_sheetsInHeaps_7 rfl rfl ?_
    refine q_get (n := 11) (k := 7) (fs := (fs57 X)) (v := .int (jI (M1 57 7))) E hW (by decide) (fun _ => rfl) K0 (by decide) w222 rfl rfl dX0_sheetsInHeaps_8 rfl ?_
    refine q_iconst (n := 12) E.1 dX0_sheetsInHeaps_11 rfl ?_
    obtain ⟨g7, h⟩ := h
    refine q_irem (n := 13) E.1 g7 (by decide) dX0_sheetsInHeaps_12 rfl ?_
    refine q_goto (n := 17) E.1 dX0_sheetsInHeaps_13 (by decide) ?_
    exact q_iret E hW h dX0_sheetsInHeaps_17
/-! StickerPress$Best.heapOfGroup(I)I -/
theorem dX0_heapOfGroup_0 : decode cX0_heapOfGroup 0 = .ok (.iload_n 1, 1) := by decide +kernel
theorem dX0_heapOfGroup_1 : decode cX0_heapOfGroup 1 = .ok (.invokestatic 59, 3) := by decide +kernel
theorem dX0_heapOfGroup_4 : decode cX0_heapOfGroup 4 = .ok (.ifCond .eq 21, 3) := by decide +kernel
theorem dX0_heapOfGroup_7 : decode cX0_heapOfGroup 7 = .ok (.aload_n 0, 1) := by decide +kernel
theorem dX0_heapOfGroup_8 : decode cX0_heapOfGroup 8 = .ok (.invokevirtual 55, 3) := by decide +kernel
theorem dX0_heapOfGroup_11 : decode cX0_heapOfGroup 11 = .ok (.ifCond .eq 14, 3) := by decide +kernel
theorem dX0_heapOfGroup_14 : decode cX0_heapOfGroup 14 = .ok (.aload_n 0, 1) := by decide +kernel
theorem dX0_heapOfGroup_15 : decode cX0_heapOfGroup 15 = .ok (.getfield 39, 3) := by decide +kernel
theorem dX0_heapOfGroup_18 : decode cX0_heapOfGroup 18 = .ok (.iload_n 1, 1) := by decide +kernel
theorem dX0_heapOfGroup_19 : decode cX0_heapOfGroup 19 = .ok (.invokestatic 63, 3) := by decide +kernel
theorem dX0_heapOfGroup_22 : decode cX0_heapOfGroup 22 = .ok (.goto 4, 3) := by decide +kernel
theorem dX0_heapOfGroup_25 : decode cX0_heapOfGroup 25 = .ok (.iconst (-1), 1) := by decide +kernel
theorem dX0_heapOfGroup_26 : decode cX0_heapOfGroup 26 = .ok (.ireturn, 1) := by decide +kernel
theorem Y_RX0_59 : YN RX0 59 yX7_isGroup cX7_isGroup 1 (some .boolean) 1 "StickerPress" := ⟨w516, List.mem_of_getElem? (i := 9) rfl, w515, w43, by decide +kernel, by decide⟩
def wp_X0_heapOfGroup (a1 : Int) (M : Mem) (Q : Int → Mem → Prop) : Prop := wp_X7_isGroup a1 M (fun r2 M1 => (Rg r2 ∧ (r2 = 0 → Q (-1) M1) ∧ (¬ (r2 = 0) → wp_X0_exists  M1 (fun r8 M7 => (Rg r8 ∧ (r8 = 0 → Q (-1) M7) ∧ (¬ (r8 = 0) → wp_X0_groupHeap (M7 57 8) a1 M7 (fun r14 M13 => Q r14 M13)))))))
set_option maxHeartbeats 4000000 in
set_option maxRecDepth 100000 in
theorem c_X0_heapOfGroup (l : Launch) (X : Cx) (hI : Inj X) (a1 : Int) (M : Mem) (Q : Int → Mem → Prop) (h : wp_X0_heapOfGroup a1 M Q) : MI X l yX0_heapOfGroup cX0_heapOfGroup 2 (some .int) 2 [.ref (xA X 57), .int (jI a1)] M Q := by
  refine MI.of hI (by decide) (Nat.le_of_ble_eq_true rfl) ?_
  intro p e R s m args below meth c ls E hW hl
  have E : En X (AW X) 2 p R s m args meth c cX0_heapOfGroup RX0 2 (some .int) 0 0 := E
  have hl : lv_has ls 2 [(0, .ref (xA X 57)), (1, .int (jI a1))] := hl
  unfold wp_X0_heapOfGroup at h
  refine q_iload_n (n := 1) (q := 1) E.1 hl rfl dX0_heapOfGroup_0 rfl rfl ?_
  refine q_callNi (n := 4) [.int (jI a1)] E hW hl.1 (c_X7_isGroup l X E.2.2.1.1 a1  _ _ h) (by decide) Y_RX0_59 rfl (rest := []) rfl (Nat.le_of_ble_eq_true rfl) dX0_heapOfGroup_1 rfl (fun r2 M1 H locs h hW => ?_)
  obtain ⟨g3, h4, h5⟩ := h
  refine q_if_eq (t := 25) (n := 7) E.1 g3 dX0_heapOfGroup_4 (by decide) rfl (fun c6 => ?_) (fun c6 => ?_)
  · have h := h4 c6
    refine q_iconst (n := 26) E.1 dX0_heapOfGroup_25 rfl ?_
    exact q_iret E hW h dX0_heapOfGroup_26
  · have h := h5 c6
    refine q_aload_n (n := 8) (q := 0) E.1 hl rfl dX0_heapOfGroup_7 rfl rfl ?_
    refine q_callVi (n := 11) (fs := (fs57 X)) [] E hW hl.1 (by decide) (fun _ => rfl) K0 (c_X0_exists l X E.2.2.1.1   _ _ h) (by decide) Y_RX0_55 rfl (rest := []) rfl (Nat.le_of_ble_eq_true rfl) dX0_heapOfGroup_8 rfl (fun r8 M7 H locs h hW => ?_)
    obtain ⟨g9, h10, h11⟩ := h
    refine q_if_eq (t := 25) (n := 14) E.1 g9 dX0_heapOfGroup_11 (by decide) rfl (fun c12 => ?_) (fun c12 => ?_)
    · have h := h10 c12
      refine q_iconst (n := 26) E.1 dX0_heapOfGroup_25 rfl ?_
      exact q_iret E hW h dX0_heapOfGroup_26
    · have h := h11 c12
      refine q_aload_n (n := 15) (q := 0) E.1 hl rfl dX0_heapOfGroup_14 rfl rfl ?_
      refine q_get (n := 18) (k := 8) (fs := (fs57 X)) (v := .int (jI (M7 57 8))) E hW (by decide) (fun _ => rfl) K0 (by decide) w223 rfl rfl dX0_heapOfGroup_15 rfl ?_
      refine q_iload_n (n := 19) (q := 1) E.1 hl rfl dX0_heapOfGroup_18 rfl rfl ?_
      refine q_callSi (n := 22) [.int (jI (M7 57 8)), .int (jI a1)] E hW hl.1 (c_X0_groupHeap l X E.2.2.1.1 (M7 57 8) a1  _ _ h) (by decide) Y_RX0_63 rfl (rest := []) rfl (Nat.le_of_ble_eq_true rfl) dX0_heapOfGroup_19 rfl (fun r14 M13 H locs h hW => ?_)
      refine q_goto (n := 26) E.1 dX0_heapOfGroup_22 (by decide) ?_
      exact q_iret E hW h dX0_heapOfGroup_26
/-! StickerPress$Best.heapOfSheet(I)I -/
theorem dX0_heapOfSheet_0 : decode cX0_heapOfSheet 0 = .ok (.iload_n 1, 1) := by decide +kernel
theorem dX0_heapOfSheet_1 : decode cX0_heapOfSheet 1 = .ok (.invokestatic 67, 3) := by decide +kernel
theorem dX0_heapOfSheet_4 : decode cX0_heapOfSheet 4 = .ok (.ifCond .eq 10, 3) := by decide +kernel
theorem dX0_heapOfSheet_7 : decode cX0_heapOfSheet 7 = .ok (.aload_n 0, 1) := by decide +kernel
theorem dX0_heapOfSheet_8 : decode cX0_heapOfSheet 8 = .ok (.invokevirtual 55, 3) := by decide +kernel
theorem dX0_heapOfSheet_11 : decode cX0_heapOfSheet 11 = .ok (.ifCond .ne 5, 3) := by decide +kernel
theorem dX0_heapOfSheet_14 : decode cX0_heapOfSheet 14 = .ok (.iconst (-1), 1) := by decide +kernel
theorem dX0_heapOfSheet_15 : decode cX0_heapOfSheet 15 = .ok (.ireturn, 1) := by decide +kernel
theorem dX0_heapOfSheet_16 : decode cX0_heapOfSheet 16 = .ok (.aload_n 0, 1) := by decide +kernel
theorem dX0_heapOfSheet_17 : decode cX0_heapOfSheet 17 = .ok (.getfield 42, 3) := by decide +kernel
theorem dX0_heapOfSheet_20 : decode cX0_heapOfSheet 20 = .ok (.iload_n 1, 1) := by decide +kernel
theorem dX0_heapOfSheet_21 : decode cX0_heapOfSheet 21 = .ok (.invokestatic 70, 3) := by decide +kernel
theorem dX0_heapOfSheet_24 : decode cX0_heapOfSheet 24 = .ok (.istore_n 2, 1) := by decide +kernel
theorem dX0_heapOfSheet_25 : decode cX0_heapOfSheet 25 = .ok (.iload_n 2, 1) := by decide +kernel
theorem dX0_heapOfSheet_26 : decode cX0_heapOfSheet 26 = .ok (.iconst 3, 1) := by decide +kernel
theorem dX0_heapOfSheet_27 : decode cX0_heapOfSheet 27 = .ok (.if_icmp .ne 7, 3) := by decide +kernel
theorem dX0_heapOfSheet_30 : decode cX0_heapOfSheet 30 = .ok (.iconst (-1), 1) := by decide +kernel
theorem dX0_heapOfSheet_31 : decode cX0_heapOfSheet 31 = .ok (.goto 4, 3) := by decide +kernel
theorem dX0_heapOfSheet_34 : decode cX0_heapOfSheet 34 = .ok (.iload_n 2, 1) := by decide +kernel
theorem dX0_heapOfSheet_35 : decode cX0_heapOfSheet 35 = .ok (.ireturn, 1) := by decide +kernel
theorem Y_RX0_67 : YN RX0 67 yX7_isSheet cX7_isSheet 1 (some .boolean) 1 "StickerPress" := ⟨w501, List.mem_of_getElem? (i := 10) rfl, w500, w43, by decide +kernel, by decide⟩
def wp_X0_heapOfSheet (a1 : Int) (M : Mem) (Q : Int → Mem → Prop) : Prop := wp_X7_isSheet a1 M (fun r2 M1 => (Rg r2 ∧ (r2 = 0 → Q (-1) M1) ∧ (¬ (r2 = 0) → wp_X0_exists  M1 (fun r8 M7 => (Rg r8 ∧ (r8 ≠ 0 → wp_X0_sheetHeap (M7 57 9) a1 M7 (fun r14 M13 => (Rg r14 ∧ (r14 ≠ 3 → Q r14 M13) ∧ (¬ (r14 ≠ 3) → Q (-1) M13)))) ∧ (¬ (r8 ≠ 0) → Q (-1) M7))))))
set_option maxHeartbeats 4000000 in
set_option maxRecDepth 100000 in
theorem c_X0_heapOfSheet (l : Launch) (X : Cx) (hI : Inj X) (a1 : Int) (M : Mem) (Q : Int → Mem → Prop) (h : wp_X0_heapOfSheet a1 M Q) : MI X l yX0_heapOfSheet cX0_heapOfSheet 3 (some .int) 1 [.ref (xA X 57), .int (jI a1)] M Q := by
  refine MI.of hI (by decide) (Nat.le_of_ble_eq_true rfl) ?_
  intro p e R s m args below meth c ls E hW hl
  have E : En X (AW X) 1 p R s m args meth c cX0_heapOfSheet RX0 3 (some .int) 0 0 := E
  have hl : lv_has ls 3 [(0, .ref (xA X 57)), (1, .int (jI a1))] := hl
  unfold wp_X0_heapOfSheet at h
  refine q_iload_n (n := 1) (q := 1) E.1 hl rfl dX0_heapOfSheet_0 rfl rfl ?_
  refine q_callNi (n := 4) [.int (jI a1)] E hW hl.1 (c_X7_isSheet l X E.2.2.1.1 a1  _ _ h) (by decide) Y_RX0_67 rfl (rest := []) rfl (Nat.le_of_ble_eq_true rfl) dX0_heapOfSheet_1 rfl (fun r2 M1 H locs h hW => ?_)
  obtain ⟨g3, h4, h5⟩ := h
  refine q_if_eq (t := 14) (n := 7) E.1 g3 dX0_heapOfSheet_4 (by decide) rfl (fun c6 => ?_) (fun c6 => ?_)
  · have h := h4 c6
    refine q_iconst (n := 15) E.1 dX0_heapOfSheet_14 rfl ?_
    exact q_iret E hW h dX0_heapOfSheet_15
  · have h := h5 c6
    refine q_aload_n (n := 8) (q := 0) E.1 hl rfl dX0_heapOfSheet_7 rfl rfl ?_
    refine q_callVi (n := 11) (fs := (fs57 X)) [] E hW hl.1 (by decide) (fun _ => rfl) K0 (c_X0_exists l X E.2.2.1.1   _ _ h) (by decide) Y_RX0_55 rfl (rest := []) rfl (Nat.le_of_ble_eq_true rfl) dX0_heapOfSheet_8 rfl (fun r8 M7 H locs h hW => ?_)
    obtain ⟨g9, h10, h11⟩ := h
    refine q_if_ne (t := 16) (n := 14) E.1 g9 dX0_heapOfSheet_11 (by decide) rfl (fun c12 => ?_) (fun c12 => ?_)
    · have h := h10 c12
      refine q_aload_n (n := 17) (q := 0) E.1 hl rfl dX0_heapOfSheet_16 rfl rfl ?_
      refine q_get (n := 20) (k := 9) (fs := (fs57 X)) (v := .int (jI (M7 57 9))) E hW (by decide) (fun _ => rfl) K0 (by decide) w224 rfl rfl dX0_heapOfSheet_17 rfl ?_
      refine q_iload_n (n := 21) (q := 1) E.1 hl rfl dX0_heapOfSheet_20 rfl rfl ?_
      refine q_callSi (n := 24) [.int (jI (M7 57 9)), .int (jI a1)] E hW hl.1 (c_X0_sheetHeap l X E.2.2.1.1 (M7 57 9) a1  _ _ h) (by decide) Y_RX0_70 rfl (rest := []) rfl (Nat.le_of_ble_eq_true rfl) dX0_heapOfSheet_21 rfl (fun r14 M13 H locs h hW => ?_)
      refine q_istore_n (n := 25) [(2, .int (jI r14)), (0, .ref (xA X 57)), (1, .int (jI a1))] E.1 hl dX0_heapOfSheet_24 rfl (by decide) rfl rfl (fun ls hl => ?_)
      refine q_iload_n (n := 26) (q := 0) E.1 hl rfl dX0_heapOfSheet_25 rfl rfl ?_
      refine q_iconst (n := 27) E.1 dX0_heapOfSheet_26 rfl ?_
      obtain ⟨g15, h16, h17⟩ := h
      refine q_icmp_ne (t := 34) (n := 30) E.1 g15 (by decide) dX0_heapOfSheet_27 (by decide) rfl (fun c18 => ?_) (fun c18 => ?_)
      · have h := h16 c18
        refine q_iload_n (n := 35) (q := 0) E.1 hl rfl dX0_heapOfSheet_34 rfl rfl ?_
        exact q_iret E hW h dX0_heapOfSheet_35
      · have h := h17 c18
        refine q_iconst (n := 31) E.1 dX0_heapOfSheet_30 rfl ?_
        refine q_goto (n := 35) E.1 dX0_heapOfSheet_31 (by decide) ?_
        exact q_iret E hW h dX0_heapOfSheet_35
    · have h := h11 c12
      refine q_iconst (n := 15) E.1 dX0_heapOfSheet_14 rfl ?_
      exact q_iret E hW h dX0_heapOfSheet_15
/-! StickerPress$Best.labelFor(I)I -/
theorem dX0_labelFor_0 : decode cX0_labelFor 0 = .ok (.iload_n 1, 1) := by decide +kernel
theorem dX0_labelFor_1 : decode cX0_labelFor 1 = .ok (.invokestatic 73, 3) := by decide +kernel
theorem dX0_labelFor_4 : decode cX0_labelFor 4 = .ok (.ifCond .eq 19, 3) := by decide +kernel
theorem dX0_labelFor_7 : decode cX0_labelFor 7 = .ok (.aload_n 0, 1) := by decide +kernel
theorem dX0_labelFor_8 : decode cX0_labelFor 8 = .ok (.invokevirtual 55, 3) := by decide +kernel
theorem dX0_labelFor_11 : decode cX0_labelFor 11 = .ok (.ifCond .eq 12, 3) := by decide +kernel
theorem dX0_labelFor_14 : decode cX0_labelFor 14 = .ok (.aload_n 0, 1) := by decide +kernel
theorem dX0_labelFor_15 : decode cX0_labelFor 15 = .ok (.getfield 24, 3) := by decide +kernel
theorem dX0_labelFor_18 : decode cX0_labelFor 18 = .ok (.iload_n 1, 1) := by decide +kernel
theorem dX0_labelFor_19 : decode cX0_labelFor 19 = .ok (.iaload, 1) := by decide +kernel
theorem dX0_labelFor_20 : decode cX0_labelFor 20 = .ok (.goto 4, 3) := by decide +kernel
theorem dX0_labelFor_23 : decode cX0_labelFor 23 = .ok (.iconst (-1), 1) := by decide +kernel
theorem dX0_labelFor_24 : decode cX0_labelFor 24 = .ok (.ireturn, 1) := by decide +kernel
theorem Y_RX0_73 : YN RX0 73 yX7_isPlace cX7_isPlace 1 (some .boolean) 1 "StickerPress" := ⟨w622, List.mem_of_getElem? (i := 11) rfl, w621, w43, by decide +kernel, by decide⟩
def wp_X0_labelFor (a1 : Int) (M : Mem) (Q : Int → Mem → Prop) : Prop := wp_X7_isPlace a1 M (fun r2 M1 => (Rg r2 ∧ (r2 = 0 → Q (-1) M1) ∧ (¬ (r2 = 0) → wp_X0_exists  M1 (fun r8 M7 => (Rg r8 ∧ (r8 = 0 → Q (-1) M7) ∧ (¬ (r8 = 0) → (0 ≤ a1 ∧ a1 < 120) ∧ Q (M7 61 a1.toNat) M7))))))
set_option maxHeartbeats 4000000 in
set_option maxRecDepth 100000 in
theorem c_X0_labelFor (l : Launch) (X : Cx) (hI : Inj X) (a1 : Int) (M : Mem) (Q : Int → Mem → Prop) (h : wp_X0_labelFor a1 M Q) : MI X l yX0_labelFor cX0_labelFor 2 (some .int) 1 [.ref (xA X 57), .int (jI a1)] M Q := by
  refine MI.of hI (by decide) (Nat.le_of_ble_eq_true rfl) ?_
  intro p e R s m args below meth c ls E hW hl
  have E : En X (AW X) 1 p R s m args meth c cX0_labelFor RX0 2 (some .int) 0 0 := E
  have hl : lv_has ls 2 [(0, .ref (xA X 57)), (1, .int (jI a1))] := hl
  unfold wp_X0_labelFor at h
  refine q_iload_n (n := 1) (q := 1) E.1 hl rfl dX0_labelFor_0 rfl rfl ?_
  refine q_callNi (n := 4) [.int (jI a1)] E hW hl.1 (c_X7_isPlace l X E.2.2.1.1 a1  _ _ h) (by decide) Y_RX0_73 rfl (rest := []) rfl (Nat.le_of_ble_eq_true rfl) dX0_labelFor_1 rfl (fun r2 M1 H locs h hW => ?_)
  obtain ⟨g3, h4, h5⟩ := h
  refine q_if_eq (t := 23) (n := 7) E.1 g3 dX0_labelFor_4 (by decide) rfl (fun c6 => ?_) (fun c6 => ?_)
  · have h := h4 c6
    refine q_iconst (n := 24) E.1 dX0_labelFor_23 rfl ?_
    exact q_iret E hW h dX0_labelFor_24
  · have h := h5 c6
    refine q_aload_n (n := 8) (q := 0) E.1 hl rfl dX0_labelFor_7 rfl rfl ?_
    refine q_callVi (n := 11) (fs := (fs57 X)) [] E hW hl.1 (by decide) (fun _ => rfl) K0 (c_X0_exists l X E.2.2.1.1   _ _ h) (by decide) Y_RX0_55 rfl (rest := []) rfl (Nat.le_of_ble_eq_true rfl) dX0_labelFor_8 rfl (fun r8 M7 H locs h hW => ?_)
    obtain ⟨g9, h10, h11⟩ := h
    refine q_if_eq (t := 23) (n := 14) E.1 g9 dX0_labelFor_11 (by decide) rfl (fun c12 => ?_) (fun c12 => ?_)
    · have h := h10 c12
      refine q_iconst (n := 24) E.1 dX0_labelFor_23 rfl ?_
      exact q_iret E hW h dX0_labelFor_24
    · have h := h11 c12
      refine q_aload_n (n := 15) (q := 0) E.1 hl rfl dX0_labelFor_14 rfl rfl ?_
      refine q_get (n := 18) (k := 4) (fs := (fs57 X)) (v := .ref (xA X 61)) E hW (by decide) (fun _ => rfl) K0 (by decide) w219 rfl rfl dX0_labelFor_15 rfl ?_
      refine q_iload_n (n := 19) (q := 1) E.1 hl rfl dX0_labelFor_18 rfl rfl ?_
      obtain ⟨g13, h⟩ := h
      refine q_iald (n := 20) E hW (by decide) (fun _ => rfl) (by decide) g13 dX0_labelFor_19 rfl ?_
      refine q_goto (n := 24) E.1 dX0_labelFor_20 (by decide) ?_
      exact q_iret E hW h dX0_labelFor_24
end
