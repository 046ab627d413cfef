/-! the reference: bars -/
section
variable {X : Cx} {p : Program} {l : Launch} {e : Env} {R : Room} {s : State} {m : MethodId} {args : Array Value} {below : List Frame} {meth : Method} {c : Code}
/-! StickerPressModel.ratio(I)Z -/
theorem dX8_ratio_0 : decode cX8_ratio 0 = .ok (.iload_n 1, 1) := by decide +kernel
theorem dX8_ratio_1 : decode cX8_ratio 1 = .ok (.iconst 2, 1) := by decide +kernel
theorem dX8_ratio_2 : decode cX8_ratio 2 = .ok (.if_icmp .eq 10, 3) := by decide +kernel
theorem dX8_ratio_5 : decode cX8_ratio 5 = .ok (.iload_n 1, 1) := by decide +kernel
theorem dX8_ratio_6 : decode cX8_ratio 6 = .ok (.iconst 3, 1) := by decide +kernel
theorem dX8_ratio_7 : decode cX8_ratio 7 = .ok (.if_icmp .eq 5, 3) := by decide +kernel
theorem dX8_ratio_10 : decode cX8_ratio 10 = .ok (.iconst 0, 1) := by decide +kernel
theorem dX8_ratio_11 : decode cX8_ratio 11 = .ok (.ireturn, 1) := by decide +kernel
theorem dX8_ratio_12 : decode cX8_ratio 12 = .ok (.aload_n 0, 1) := by decide +kernel
theorem dX8_ratio_13 : decode cX8_ratio 13 = .ok (.iload_n 1, 1) := by decide +kernel
theorem dX8_ratio_14 : decode cX8_ratio 14 = .ok (.putfield 44, 3) := by decide +kernel
theorem dX8_ratio_17 : decode cX8_ratio 17 = .ok (.iconst 1, 1) := by decide +kernel
theorem dX8_ratio_18 : decode cX8_ratio 18 = .ok (.ireturn, 1) := by decide +kernel
def wp_X8_ratio (a1 : Int) (M : Mem) (Q : Int → Mem → Prop) : Prop := (Rg a1 ∧ (a1 = 2 → Q 1 (up M 62 18 a1)) ∧ (¬ (a1 = 2) → (Rg a1 ∧ (a1 = 3 → Q 1 (up M 62 18 a1)) ∧ (¬ (a1 = 3) → Q 0 M))))
set_option maxHeartbeats 4000000 in
set_option maxRecDepth 100000 in
theorem c_X8_ratio (l : Launch) (X : Cx) (hI : Inj X) (a1 : Int) (M : Mem) (Q : Int → Mem → Prop) (h : wp_X8_ratio a1 M Q) : MI X l yX8_ratio cX8_ratio 2 (some .boolean) 0 [.ref (xA X 62), .int (jI a1)] M Q := by
  refine MI.of hI (by decide) (Nat.le_of_ble_eq_true rfl) ?_
  intro p e R s m args below meth c ls E hW hl
  have E : En X (AW X) 0 p R s m args meth c cX8_ratio RX8 2 (some .boolean) 0 0 := E
  have hl : lv_has ls 2 [(0, .ref (xA X 62)), (1, .int (jI a1))] := hl
  unfold wp_X8_ratio at h
  refine q_iload_n (n := 1) (q := 1) E.1 hl rfl dX8_ratio_0 rfl rfl ?_
  refine q_iconst (n := 2) E.1 dX8_ratio_1 rfl ?_
  obtain ⟨g1, h2, h3⟩ := h
  refine q_icmp_eq (t := 12) (n := 5) E.1 g1 (by decide) dX8_ratio_2 (by decide) rfl (fun c4 => ?_) (fun c4 => ?_)
  · have h := h2 c4
    refine q_aload_n (n := 13) (q := 0) E.1 hl rfl dX8_ratio_12 rfl rfl ?_
    refine q_iload_n (n := 14) (q := 1) E.1 hl rfl dX8_ratio_13 rfl rfl ?_
    refine q_put (n := 17) (k := 18) (fs := (fs62 X)) E hW (by decide) (fun _ => rfl) K8 (by decide) w733 rfl rfl ⟨rfl, rfl⟩ (Nat.le_of_ble_eq_true rfl) (fun _ => rfl) dX8_ratio_14 rfl (fun H locs hW => ?_)
    refine q_iconst (n := 18) E.1 dX8_ratio_17 rfl ?_
    exact q_zret E hW (Or.inr rfl) h dX8_ratio_18
  · have h := h3 c4
    refine q_iload_n (n := 6) (q := 1) E.1 hl rfl dX8_ratio_5 rfl rfl ?_
    refine q_iconst (n := 7) E.1 dX8_ratio_6 rfl ?_
    obtain ⟨g5, h6, h7⟩ := h
    refine q_icmp_eq (t := 12) (n := 10) E.1 g5 (by decide) dX8_ratio_7 (by decide) rfl (fun c8 => ?_) (fun c8 => ?_)
    · have h := h6 c8
      refine q_aload_n (n := 13) (q := 0) E.1 hl rfl dX8_ratio_12 rfl rfl ?_
      refine q_iload_n (n := 14) (q := 1) E.1 hl rfl dX8_ratio_13 rfl rfl ?_
      refine q_put (n := 17) (k := 18) (fs := (fs62 X)) E hW (by decide) (fun _ => rfl) K8 (by decide) w733 rfl rfl ⟨rfl, rfl⟩ (Nat.le_of_ble_eq_true rfl) (fun _ => rfl) dX8_ratio_14 rfl (fun H locs hW => ?_)
      refine q_iconst (n := 18) E.1 dX8_ratio_17 rfl ?_
      exact q_zret E hW (Or.inr rfl) h dX8_ratio_18
    · have h := h7 c8
      refine q_iconst (n := 11) E.1 dX8_ratio_10 rfl ?_
      exact q_zret E hW (Or.inl rfl) h dX8_ratio_11
/-! StickerPressModel.five(I)I -/
theorem dX8_five_0 : decode cX8_five 0 = .ok (.iload_n 0, 1) := by decide +kernel
theorem dX8_five_1 : decode cX8_five 1 = .ok (.tableswitch 76 0 8 #[51, 54, 57, 60, 63, 65, 68, 71, 73], 51) := by decide +kernel
theorem dX8_five_52 : decode cX8_five 52 = .ok (.bipush 6, 2) := by decide +kernel
theorem dX8_five_54 : decode cX8_five 54 = .ok (.ireturn, 1) := by decide +kernel
theorem dX8_five_55 : decode cX8_five 55 = .ok (.bipush 17, 2) := by decide +kernel
theorem dX8_five_57 : decode cX8_five 57 = .ok (.ireturn, 1) := by decide +kernel
theorem dX8_five_58 : decode cX8_five 58 = .ok (.bipush 9, 2) := by decide +kernel
theorem dX8_five_60 : decode cX8_five 60 = .ok (.ireturn, 1) := by decide +kernel
theorem dX8_five_61 : decode cX8_five 61 = .ok (.bipush 24, 2) := by decide +kernel
theorem dX8_five_63 : decode cX8_five 63 = .ok (.ireturn, 1) := by decide +kernel
theorem dX8_five_64 : decode cX8_five 64 = .ok (.iconst 5, 1) := by decide +kernel
theorem dX8_five_65 : decode cX8_five 65 = .ok (.ireturn, 1) := by decide +kernel
theorem dX8_five_66 : decode cX8_five 66 = .ok (.bipush 20, 2) := by decide +kernel
theorem dX8_five_68 : decode cX8_five 68 = .ok (.ireturn, 1) := by decide +kernel
theorem dX8_five_69 : decode cX8_five 69 = .ok (.bipush 12, 2) := by decide +kernel
theorem dX8_five_71 : decode cX8_five 71 = .ok (.ireturn, 1) := by decide +kernel
theorem dX8_five_72 : decode cX8_five 72 = .ok (.iconst 3, 1) := by decide +kernel
theorem dX8_five_73 : decode cX8_five 73 = .ok (.ireturn, 1) := by decide +kernel
theorem dX8_five_74 : decode cX8_five 74 = .ok (.bipush 18, 2) := by decide +kernel
theorem dX8_five_76 : decode cX8_five 76 = .ok (.ireturn, 1) := by decide +kernel
theorem dX8_five_77 : decode cX8_five 77 = .ok (.bipush 10, 2) := by decide +kernel
theorem dX8_five_79 : decode cX8_five 79 = .ok (.ireturn, 1) := by decide +kernel
def wp_X8_five (a0 : Int) (M : Mem) (Q : Int → Mem → Prop) : Prop := (Rg a0 ∧ (a0 = 0 → Q 6 M) ∧ (a0 = 1 → Q 17 M) ∧ (a0 = 2 → Q 9 M) ∧ (a0 = 3 → Q 24 M) ∧ (a0 = 4 → Q 5 M) ∧ (a0 = 5 → Q 20 M) ∧ (a0 = 6 → Q 12 M) ∧ (a0 = 7 → Q 3 M) ∧ (a0 = 8 → Q 18 M) ∧ ((a0 < 0 ∨ 8 < a0) → Q 10 M))
set_option maxHeartbeats 4000000 in
set_option maxRecDepth 100000 in
theorem c_X8_five (l : Launch) (X : Cx) (hI : Inj X) (a0 : Int) (M : Mem) (Q : Int → Mem → Prop) (h : wp_X8_five a0 M Q) : MI X l yX8_five cX8_five 1 (some .int) 0 [.int (jI a0)] M Q := by
  refine MI.of hI (by decide) (Nat.le_of_ble_eq_true rfl) ?_
  intro p e R s m args below meth c ls E hW hl
  have E : En X (AW X) 0 p R s m args meth c cX8_five RX8 1 (some .int) 0 0 := E
  have hl : lv_has ls 1 [(0, .int (jI a0))] := hl
  unfold wp_X8_five at h
  refine q_iload_n (n := 1) (q := 0) E.1 hl rfl dX8_five_0 rfl rfl ?_
  obtain ⟨g1, h2, h3, h4, h5, h6, h7, h8, h9, h10, h11⟩ := h
  by_cases c12 : a0 = 0
  · have h := h2 c12
    refine q_tin (t := 52) 0 E c12 (by decide) dX8_five_1 (by decide) rfl (by decide) ?_
    refine q_bipush (n := 54) E.1 dX8_five_52 (by decide) rfl ?_
    exact q_iret E hW h dX8_five_54
  by_cases c13 : a0 = 1
  · have h := h3 c13
    refine q_tin (t := 55) 1 E c13 (by decide) dX8_five_1 (by decide) rfl (by decide) ?_
    refine q_bipush (n := 57) E.1 dX8_five_55 (by decide) rfl ?_
    exact q_iret E hW h dX8_five_57
  by_cases c14 : a0 = 2
  · have h := h4 c14
    refine q_tin (t := 58) 2 E c14 (by decide) dX8_five_1 (by decide) rfl (by decide) ?_
    refine q_bipush (n := 60) E.1 dX8_five_58 (by decide) rfl ?_
    exact q_iret E hW h dX8_five_60
  by_cases c15 : a0 = 3
  · have h := h5 c15
    refine q_tin (t := 61) 3 E c15 (by decide) dX8_five_1 (by decide) rfl (by decide) ?_
    refine q_bipush (n := 63) E.1 dX8_five_61 (by decide) rfl ?_
    exact q_iret E hW h dX8_five_63
  by_cases c16 : a0 = 4
  · have h := h6 c16
    refine q_tin (t := 64) 4 E c16 (by decide) dX8_five_1 (by decide) rfl (by decide) ?_
    refine q_iconst (n := 65) E.1 dX8_five_64 rfl ?_
    exact q_iret E hW h dX8_five_65
  by_cases c17 : a0 = 5
  · have h := h7 c17
    refine q_tin (t := 66) 5 E c17 (by decide) dX8_five_1 (by decide) rfl (by decide) ?_
    refine q_bipush (n := 68) E.1 dX8_five_66 (by decide) rfl ?_
    exact q_iret E hW h dX8_five_68
  by_cases c18 : a0 = 6
  · have h := h8 c18
    refine q_tin (t := 69) 6 E c18 (by decide) dX8_five_1 (by decide) rfl (by decide) ?_
    refine q_bipush (n := 71) E.1 dX8_five_69 (by decide) rfl ?_
    exact q_iret E hW h dX8_five_71
  by_cases c19 : a0 = 7
  · have h := h9 c19
    refine q_tin (t := 72) 7 E c19 (by decide) dX8_five_1 (by decide) rfl (by decide) ?_
    refine q_iconst (n := 73) E.1 dX8_five_72 rfl ?_
    exact q_iret E hW h dX8_five_73
  by_cases c20 : a0 = 8
  · have h := h10 c20
    refine q_tin (t := 74) 8 E c20 (by decide) dX8_five_1 (by decide) rfl (by decide) ?_
    refine q_bipush (n := 76) E.1 dX8_five_74 (by decide) rfl ?_
    exact q_iret E hW h dX8_five_76
  have c21 : a0 < 0 ∨ 8 < a0 := by omega
  have h := h11 c21
  refine q_tout (t := 77) E g1 c21 dX8_five_1 (by decide) ?_
  refine q_bipush (n := 79) E.1 dX8_five_77 (by decide) rfl ?_
  exact q_iret E hW h dX8_five_79
/-! StickerPressModel.check(I)I -/
theorem dX8_check_0 : decode cX8_check 0 = .ok (.iconst 0, 1) := by decide +kernel
theorem dX8_check_1 : decode cX8_check 1 = .ok (.istore_n 2, 1) := by decide +kernel
theorem dX8_check_2 : decode cX8_check 2 = .ok (.iconst 0, 1) := by decide +kernel
theorem dX8_check_3 : decode cX8_check 3 = .ok (.istore_n 3, 1) := by decide +kernel
theorem dX8_check_4 : decode cX8_check 4 = .ok (.iload_n 3, 1) := by decide +kernel
theorem dX8_check_5 : decode cX8_check 5 = .ok (.iload_n 1, 1) := by decide +kernel
theorem dX8_check_6 : decode cX8_check 6 = .ok (.if_icmp .ge 39, 3) := by decide +kernel
theorem dX8_check_9 : decode cX8_check 9 = .ok (.iload_n 2, 1) := by decide +kernel
theorem dX8_check_10 : decode cX8_check 10 = .ok (.iload_n 1, 1) := by decide +kernel
theorem dX8_check_11 : decode cX8_check 11 = .ok (.iconst 1, 1) := by decide +kernel
theorem dX8_check_12 : decode cX8_check 12 = .ok (.isub, 1) := by decide +kernel
theorem dX8_check_13 : decode cX8_check 13 = .ok (.iload_n 3, 1) := by decide +kernel
theorem dX8_check_14 : decode cX8_check 14 = .ok (.isub, 1) := by decide +kernel
theorem dX8_check_15 : decode cX8_check 15 = .ok (.iconst 2, 1) := by decide +kernel
theorem dX8_check_16 : decode cX8_check 16 = .ok (.irem, 1) := by decide +kernel
theorem dX8_check_17 : decode cX8_check 17 = .ok (.ifCond .ne 14, 3) := by decide +kernel
theorem dX8_check_20 : decode cX8_check 20 = .ok (.iconst 3, 1) := by decide +kernel
theorem dX8_check_21 : decode cX8_check 21 = .ok (.aload_n 0, 1) := by decide +kernel
theorem dX8_check_22 : decode cX8_check 22 = .ok (.getfield 47, 3) := by decide +kernel
theorem dX8_check_25 : decode cX8_check 25 = .ok (.iload_n 3, 1) := by decide +kernel
theorem dX8_check_26 : decode cX8_check 26 = .ok (.iaload, 1) := by decide +kernel
theorem dX8_check_27 : decode cX8_check 27 = .ok (.imul, 1) := by decide +kernel
theorem dX8_check_28 : decode cX8_check 28 = .ok (.goto 9, 3) := by decide +kernel
theorem dX8_check_31 : decode cX8_check 31 = .ok (.aload_n 0, 1) := by decide +kernel
theorem dX8_check_32 : decode cX8_check 32 = .ok (.getfield 47, 3) := by decide +kernel
theorem dX8_check_35 : decode cX8_check 35 = .ok (.iload_n 3, 1) := by decide +kernel
theorem dX8_check_36 : decode cX8_check 36 = .ok (.iaload, 1) := by decide +kernel
theorem dX8_check_37 : decode cX8_check 37 = .ok (.iadd, 1) := by decide +kernel
theorem dX8_check_38 : decode cX8_check 38 = .ok (.istore_n 2, 1) := by decide +kernel
theorem dX8_check_39 : decode cX8_check 39 = .ok (.iinc 3 1, 3) := by decide +kernel
theorem dX8_check_42 : decode cX8_check 42 = .ok (.goto (-38), 3) := by decide +kernel
theorem dX8_check_45 : decode cX8_check 45 = .ok (.bipush 10, 2) := by decide +kernel
theorem dX8_check_47 : decode cX8_check 47 = .ok (.iload_n 2, 1) := by decide +kernel
theorem dX8_check_48 : decode cX8_check 48 = .ok (.bipush 10, 2) := by decide +kernel
theorem dX8_check_50 : decode cX8_check 50 = .ok (.irem, 1) := by decide +kernel
theorem dX8_check_51 : decode cX8_check 51 = .ok (.isub, 1) := by decide +kernel
theorem dX8_check_52 : decode cX8_check 52 = .ok (.bipush 10, 2) := by decide +kernel
theorem dX8_check_54 : decode cX8_check 54 = .ok (.irem, 1) := by decide +kernel
theorem dX8_check_55 : decode cX8_check 55 = .ok (.ireturn, 1) := by decide +kernel
def wp_X8_check_4 (a1 : Int) (Q : Int → Mem → Prop) : Nat → Int → Int → Mem → Prop
  | 0, _, _, _ => False
  | n + 1, x2, x3, M => (Rg x3 ∧ Rg a1 ∧ (a1 ≤ x3 → (Rg x2 ∧ 0 ≤ x2) ∧ (Rg (10 - (x2 % 10)) ∧ 0 ≤ (10 - (x2 % 10))) ∧ Q ((10 - (x2 % 10)) % 10) M) ∧ (¬ (a1 ≤ x3) → (Rg ((a1 - 1) - x3) ∧ 0 ≤ ((a1 - 1) - x3)) ∧ (Rg (((a1 - 1) - x3) % 2) ∧ ((((a1 - 1) - x3) % 2) ≠ 0 → (0 ≤ x3 ∧ x3 < 12) ∧ wp_X8_check_4 a1 Q n (x2 + (M 73 x3.toNat)) (x3 + 1) M) ∧ (¬ ((((a1 - 1) - x3) % 2) ≠ 0) → (0 ≤ x3 ∧ x3 < 12) ∧ wp_X8_check_4 a1 Q n (x2 + (3 * (M 73 x3.toNat))) (x3 + 1) M))))
set_option maxHeartbeats 4000000 in
set_option maxRecDepth 100000 in
theorem v_X8_check_4 (a1 : Int) (E : En X (AW X) 0 p R s m args meth c cX8_check RX8 4 (some .int) 0 0) (Q : Int → Mem → Prop) : ∀ n : Nat, ∀ (x2 x3 : Int) (M : Mem) (H : Heap) (locs : List Loc) (ls : Array Slot), wp_X8_check_4 a1 Q n x2 x3 M → Wd X (AW X) s M H locs → lv_has ls 4 [(0, .ref (xA X 62)), (1, .int (jI a1)), (2, .int (jI x2)), (3, .int (jI x3))] → W p l e R s m args below meth c H locs 0 0 (MQ below (QI X Q) args s 0 0 (AW X)) (F0 m 4 ls []) := by
  intro n
  induction n with
  | zero => intro x2 x3 M H locs ls h; exact absurd h (by simp [wp_X8_check_4])
  | succ n ih =>
    intro x2 x3 M H locs ls h hW hl
    rw [wp_X8_check_4] at h
    refine q_iload_n (n := 5) (q := 3) E.1 hl rfl dX8_check_4 rfl rfl ?_
    refine q_iload_n (n := 6) (q := 1) E.1 hl rfl dX8_check_5 rfl rfl ?_
    obtain ⟨g1, g2, h3, h4⟩ := h
    refine q_icmp_ge (t := 45) (n := 9) E.1 g1 g2 dX8_check_6 (by decide) rfl (fun c5 => ?_) (fun c5 => ?_)
    · have h := h3 c5
      refine q_bipush (n := 47) E.1 dX8_check_45 (by decide) rfl ?_
      refine q_iload_n (n := 48) (q := 2) E.1 hl rfl dX8_check_47 rfl rfl ?_
      refine q_bipush (n := 50) E.1 dX8_check_48 (by decide) rfl ?_
      obtain ⟨g6, h⟩ := h
      refine q_irem (n := 51) E.1 g6 (by decide) dX8_check_50 rfl ?_
      refine q_isub (n := 52) E.1 dX8_check_51 rfl ?_
      refine q_bipush (n := 54) E.1 dX8_check_52 (by decide) rfl ?_
      obtain ⟨g7, h⟩ := h
      refine q_irem (n := 55) E.1 g7 (by decide) dX8_check_54 rfl ?_
      exact q_iret E hW h dX8_check_55
    · have h := h4 c5
      refine q_iload_n (n := 10) (q := 2) E.1 hl rfl dX8_check_9 rfl rfl ?_
      refine q_iload_n (n := 11) (q := 1) E.1 hl rfl dX8_check_10 rfl rfl ?_
      refine q_iconst (n := 12) E.1 dX8_check_11 rfl ?_
      refine q_isub (n := 13) E.1 dX8_check_12 rfl ?_
      refine q_iload_n (n := 14) (q := 3) E.1 hl rfl dX8_check_13 rfl rfl ?_
      refine q_isub (n := 15) E.1 dX8_check_14 rfl ?_
      refine q_iconst (n := 16) E.1 dX8_check_15 rfl ?_
      obtain ⟨g8, h⟩ := h
      refine q_irem (n := 17) E.1 g8 (by decide) dX8_check_16 rfl ?_
      obtain ⟨g9, h10, h11⟩ := h
      refine q_if_ne (t := 31) (n := 20) E.1 g9 dX8_check_17 (by decide) rfl (fun c12 => ?_) (fun c12 => ?_)
      · have h := h10 c12
        refine q_aload_n (n := 32) (q := 0) E.1 hl rfl dX8_check_31 rfl rfl ?_
        refine q_get (n := 35) (k := 19) (fs := (fs62 X)) (v := .ref (xA X 73)) E hW (by decide) (fun _ => rfl) K8 (by decide) w734 rfl rfl dX8_check_32 rfl ?_
        refine q_iload_n (n := 36) (q := 3) E.1 hl rfl dX8_check_35 rfl rfl ?_
        obtain ⟨g13, h⟩ := h
        refine q_iald (n := 37) E hW (by decide) (fun _ => rfl) (by decide) g13 dX8_check_36 rfl ?_
        refine q_iadd (n := 38) E.1 dX8_check_37 rfl ?_
        refine q_istore_n (n := 39) [(2, .int (jI (x2 + (M 73 x3.toNat)))), (0, .ref (xA X 62)), (1, .int (jI a1)), (3, .int (jI x3))] E.1 hl dX8_check_38 rfl (by decide) rfl rfl (fun ls hl => ?_)
        refine q_iinc (n := 42) (q := 3) [(3, .int (jI (x3 + 1))), (2, .int (jI (x2 + (M 73 x3.toNat)))), (0, .ref (xA X 62)), (1, .int (jI a1))] E.1 hl rfl dX8_check_39 (by decide) rfl rfl (fun ls hl => ?_)
        refine q_goto (n := 4) E.1 dX8_check_42 (by decide) ?_
        exact ih _ _ _ _ _ _ h hW (lv_sub hl [2, 3, 1, 0] rfl)
      · have h := h11 c12
        refine q_iconst (n := 21) E.1 dX8_check_20 rfl ?_
        refine q_aload_n (n := 22) (q := 0) E.1 hl rfl dX8_check_21 rfl rfl ?_
        refine q_get (n := 25) (k := 19) (fs := (fs62 X)) (v := .ref (xA X 73)) E hW (by decide) (fun _ => rfl) K8 (by decide) w734 rfl rfl dX8_check_22 rfl ?_
        refine q_iload_n (n := 26) (q := 3) E.1 hl rfl dX8_check_25 rfl rfl ?_
        obtain ⟨g14, h⟩ := h
        refine q_iald (n := 27) E hW (by decide) (fun _ => rfl) (by decide) g14 dX8_check_26 rfl ?_
        refine q_imul (n := 28) E.1 dX8_check_27 rfl ?_
        refine q_goto (n := 37) E.1 dX8_check_28 (by decide) ?_
        refine q_iadd (n := 38) E.1 dX8_check_37 rfl ?_
        refine q_istore_n (n := 39) [(2, .int (jI (x2 + (3 * (M 73 x3.toNat))))), (0, .ref (xA X 62)), (1, .int (jI a1)), (3, .int (jI x3))] E.1 hl dX8_check_38 rfl (by decide) rfl rfl (fun ls hl => ?_)
        refine q_iinc (n := 42) (q := 3) [(3, .int (jI (x3 + 1))), (2, .int (jI (x2 + (3 * (M 73 x3.toNat))))), (0, .ref (xA X 62)), (1, .int (jI a1))] E.1 hl rfl dX8_check_39 (by decide) rfl rfl (fun ls hl => ?_)
        refine q_goto (n := 4) E.1 dX8_check_42 (by decide) ?_
        exact ih _ _ _ _ _ _ h hW (lv_sub hl [2, 3, 1, 0] rfl)
def wp_X8_check (a1 : Int) (M : Mem) (Q : Int → Mem → Prop) : Prop := (∃ n : Nat, wp_X8_check_4 a1 Q n 0 0 M)
set_option maxHeartbeats 4000000 in
set_option maxRecDepth 100000 in
theorem c_X8_check (l : Launch) (X : Cx) (hI : Inj X) (a1 : Int) (M : Mem) (Q : Int → Mem → Prop) (h : wp_X8_check a1 M Q) : MI X l yX8_check cX8_check 4 (some .int) 0 [.ref (xA X 62), .int (jI a1)] M Q := by
  refine MI.of hI (by decide) (Nat.le_of_ble_eq_true rfl) ?_
  intro p e R s m args below meth c ls E hW hl
  have E : En X (AW X) 0 p R s m args meth c cX8_check RX8 4 (some .int) 0 0 := E
  have hl : lv_has ls 4 [(0, .ref (xA X 62)), (1, .int (jI a1))] := hl
  unfold wp_X8_check at h
  refine q_iconst (n := 1) E.1 dX8_check_0 rfl ?_
  refine q_istore_n (n := 2) [(2, .int (jI 0)), (0, .ref (xA X 62)), (1, .int (jI a1))] E.1 hl dX8_check_1 rfl (by decide) rfl rfl (fun ls hl => ?_)
  refine q_iconst (n := 3) E.1 dX8_check_2 rfl ?_
  refine q_istore_n (n := 4) [(3, .int (jI 0)), (2, .int (jI 0)), (0, .ref (xA X 62)), (1, .int (jI a1))] E.1 hl dX8_check_3 rfl (by decide) rfl rfl (fun ls hl => ?_)
  obtain ⟨n1, h⟩ := h
  exact v_X8_check_4 a1 E Q n1 _ _ _ _ _ _ h hW (lv_sub hl [2, 3, 1, 0] rfl)
/-! StickerPressModel.draws(Z)V -/
theorem dX8_draws_0 : decode cX8_draws 0 = .ok (.aload_n 0, 1) := by decide +kernel
theorem dX8_draws_1 : decode cX8_draws 1 = .ok (.getfield 16, 3) := by decide +kernel
theorem dX8_draws_4 : decode cX8_draws 4 = .ok (.aload_n 0, 1) := by decide +kernel
theorem dX8_draws_5 : decode cX8_draws 5 = .ok (.getfield 153, 3) := by decide +kernel
theorem dX8_draws_8 : decode cX8_draws 8 = .ok (.iload_n 1, 1) := by decide +kernel
theorem dX8_draws_9 : decode cX8_draws 9 = .ok (.ifCond .eq 10, 3) := by decide +kernel
theorem dX8_draws_12 : decode cX8_draws 12 = .ok (.aload_n 0, 1) := by decide +kernel
theorem dX8_draws_13 : decode cX8_draws 13 = .ok (.getfield 44, 3) := by decide +kernel
theorem dX8_draws_16 : decode cX8_draws 16 = .ok (.goto 4, 3) := by decide +kernel
theorem dX8_draws_19 : decode cX8_draws 19 = .ok (.iconst 1, 1) := by decide +kernel
theorem dX8_draws_20 : decode cX8_draws 20 = .ok (.iastore, 1) := by decide +kernel
theorem dX8_draws_21 : decode cX8_draws 21 = .ok (.aload_n 0, 1) := by decide +kernel
theorem dX8_draws_22 : decode cX8_draws 22 = .ok (.dup, 1) := by decide +kernel
theorem dX8_draws_23 : decode cX8_draws 23 = .ok (.getfield 153, 3) := by decide +kernel
theorem dX8_draws_26 : decode cX8_draws 26 = .ok (.iconst 1, 1) := by decide +kernel
theorem dX8_draws_27 : decode cX8_draws 27 = .ok (.iadd, 1) := by decide +kernel
theorem dX8_draws_28 : decode cX8_draws 28 = .ok (.putfield 153, 3) := by decide +kernel
theorem dX8_draws_31 : decode cX8_draws 31 = .ok (.return_, 1) := by decide +kernel
def wp_X8_draws (a1 : Int) (M : Mem) (Q : Mem → Prop) : Prop := (Rg a1 ∧ (a1 = 0 → (0 ≤ (M 62 4) ∧ (M 62 4) < 200) ∧ Q (up (up M 65 (M 62 4).toNat 1) 62 4 (((up M 65 (M 62 4).toNat 1) 62 4) + 1))) ∧ (¬ (a1 = 0) → (0 ≤ (M 62 4) ∧ (M 62 4) < 200) ∧ Q (up (up M 65 (M 62 4).toNat (M 62 18)) 62 4 (((up M 65 (M 62 4).toNat (M 62 18)) 62 4) + 1))))
set_option maxHeartbeats 4000000 in
set_option maxRecDepth 100000 in
theorem c_X8_draws (l : Launch) (X : Cx) (hI : Inj X) (a1 : Int) (M : Mem) (Q : Mem → Prop) (h : wp_X8_draws a1 M Q) : MV X l yX8_draws cX8_draws 2 0 [.ref (xA X 62), .int (jI a1)] M Q := by
  refine MV.of hI (by decide) (Nat.le_of_ble_eq_true rfl) ?_
  intro p e R s m args below meth c ls E hW hl
  have E : En X (AW X) 0 p R s m args meth c cX8_draws RX8 2 none 0 0 := E
  have hl : lv_has ls 2 [(0, .ref (xA X 62)), (1, .int (jI a1))] := hl
  unfold wp_X8_draws at h
  refine q_aload_n (n := 1) (q := 0) E.1 hl rfl dX8_draws_0 rfl rfl ?_
  refine q_get (n := 4) (k := 2) (fs := (fs62 X)) (v := .ref (xA X 65)) E hW (by decide) (fun _ => rfl) K8 (by decide) w717 rfl rfl dX8_draws_1 rfl ?_
  refine q_aload_n (n := 5) (q := 0) E.1 hl rfl dX8_draws_4 rfl rfl ?_
  refine q_get (n := 8) (k := 4) (fs := (fs62 X)) (v := .int (jI (M 62 4))) E hW (by decide) (fun _ => rfl) K8 (by decide) w719 rfl rfl dX8_draws_5 rfl ?_
  refine q_iload_n (n := 9) (q := 1) E.1 hl rfl dX8_draws_8 rfl rfl ?_
  obtain ⟨g1, h2, h3⟩ := h
  refine q_if_eq (t := 19) (n := 12) E.1 g1 dX8_draws_9 (by decide) rfl (fun c4 => ?_) (fun c4 => ?_)
  · have h := h2 c4
    refine q_iconst (n := 20) E.1 dX8_draws_19 rfl ?_
    obtain ⟨g5, h⟩ := h
    refine q_iast (n := 21) E hW (by decide) (fun _ => rfl) (by decide) g5 dX8_draws_20 rfl (fun H locs hW => ?_)
    refine q_aload_n (n := 22) (q := 0) E.1 hl rfl dX8_draws_21 rfl rfl ?_
    refine q_dup (n := 23) E.1 dX8_draws_22 rfl rfl ?_
    refine q_get (n := 26) (k := 4) (fs := (fs62 X)) (v := .int (jI ((up M 65 (M 62 4).toNat 1) 62 4))) E hW (by decide) (fun _ => rfl) K8 (by decide) w719 rfl rfl dX8_draws_23 rfl ?_
    refine q_iconst (n := 27) E.1 dX8_draws_26 rfl ?_
    refine q_iadd (n := 28) E.1 dX8_draws_27 rfl ?_
    refine q_put (n := 31) (k := 4) (fs := (fs62 X)) E hW (by decide) (fun _ => rfl) K8 (by decide) w719 rfl rfl ⟨rfl, rfl⟩ (Nat.le_of_ble_eq_true rfl) (fun _ => rfl) dX8_draws_28 rfl (fun H locs hW => ?_)
    exact q_vret E hW h dX8_draws_31
  · have h := h3 c4
    refine q_aload_n (n := 13) (q := 0) E.1 hl rfl dX8_draws_12 rfl rfl ?_
    refine q_get (n := 16) (k := 18) (fs := (fs62 X)) (v := .int (jI (M 62 18))) E hW (by decide) (fun _ => rfl) K8 (by decide) w733 rfl rfl dX8_draws_13 rfl ?_
    refine q_goto (n := 20) E.1 dX8_draws_16 (by decide) ?_
    obtain ⟨g6, h⟩ := h
    refine q_iast (n := 21) E hW (by decide) (fun _ => rfl) (by decide) g6 dX8_draws_20 rfl (fun H locs hW => ?_)
    refine q_aload_n (n := 22) (q := 0) E.1 hl rfl dX8_draws_21 rfl rfl ?_
    refine q_dup (n := 23) E.1 dX8_draws_22 rfl rfl ?_
    refine q_get (n := 26) (k := 4) (fs := (fs62 X)) (v := .int (jI ((up M 65 (M 62 4).toNat (M 62 18)) 62 4))) E hW (by decide) (fun _ => rfl) K8 (by decide) w719 rfl rfl dX8_draws_23 rfl ?_
    refine q_iconst (n := 27) E.1 dX8_draws_26 rfl ?_
    refine q_iadd (n := 28) E.1 dX8_draws_27 rfl ?_
    refine q_put (n := 31) (k := 4) (fs := (fs62 X)) E hW (by decide) (fun _ => rfl) K8 (by decide) w719 rfl rfl ⟨rfl, rfl⟩ (Nat.le_of_ble_eq_true rfl) (fun _ => rfl) dX8_draws_28 rfl (fun H locs hW => ?_)
    exact q_vret E hW h dX8_draws_31
/-! StickerPressModel.bars()I -/
theorem dX8_bars_0 : decode cX8_bars 0 = .ok (.aload_n 0, 1) := by decide +kernel
theorem dX8_bars_1 : decode cX8_bars 1 = .ok (.getfield 111, 3) := by decide +kernel
theorem dX8_bars_4 : decode cX8_bars 4 = .ok (.istore_n 1, 1) := by decide +kernel
theorem dX8_bars_5 : decode cX8_bars 5 = .ok (.aload_n 0, 1) := by decide +kernel
theorem dX8_bars_6 : decode cX8_bars 6 = .ok (.iconst 0, 1) := by decide +kernel
theorem dX8_bars_7 : decode cX8_bars 7 = .ok (.putfield 111, 3) := by decide +kernel
theorem dX8_bars_10 : decode cX8_bars 10 = .ok (.iload_n 1, 1) := by decide +kernel
theorem dX8_bars_11 : decode cX8_bars 11 = .ok (.iconst 1, 1) := by decide +kernel
theorem dX8_bars_12 : decode cX8_bars 12 = .ok (.bipush 11, 2) := by decide +kernel
theorem dX8_bars_14 : decode cX8_bars 14 = .ok (.invokestatic 103, 3) := by decide +kernel
theorem dX8_bars_17 : decode cX8_bars 17 = .ok (.ifCond .ne 5, 3) := by decide +kernel
theorem dX8_bars_20 : decode cX8_bars 20 = .ok (.iconst (-1), 1) := by decide +kernel
theorem dX8_bars_21 : decode cX8_bars 21 = .ok (.ireturn, 1) := by decide +kernel
theorem dX8_bars_22 : decode cX8_bars 22 = .ok (.iconst 0, 1) := by decide +kernel
theorem dX8_bars_23 : decode cX8_bars 23 = .ok (.istore_n 2, 1) := by decide +kernel
theorem dX8_bars_24 : decode cX8_bars 24 = .ok (.iload_n 2, 1) := by decide +kernel
theorem dX8_bars_25 : decode cX8_bars 25 = .ok (.iload_n 1, 1) := by decide +kernel
theorem dX8_bars_26 : decode cX8_bars 26 = .ok (.if_icmp .ge 27, 3) := by decide +kernel
theorem dX8_bars_29 : decode cX8_bars 29 = .ok (.aload_n 0, 1) := by decide +kernel
theorem dX8_bars_30 : decode cX8_bars 30 = .ok (.getfield 13, 3) := by decide +kernel
theorem dX8_bars_33 : decode cX8_bars 33 = .ok (.iload_n 2, 1) := by decide +kernel
theorem dX8_bars_34 : decode cX8_bars 34 = .ok (.iaload, 1) := by decide +kernel
theorem dX8_bars_35 : decode cX8_bars 35 = .ok (.bipush 48, 2) := by decide +kernel
theorem dX8_bars_37 : decode cX8_bars 37 = .ok (.bipush 57, 2) := by decide +kernel
theorem dX8_bars_39 : decode cX8_bars 39 = .ok (.invokestatic 103, 3) := by decide +kernel
theorem dX8_bars_42 : decode cX8_bars 42 = .ok (.ifCond .ne 5, 3) := by decide +kernel
theorem dX8_bars_45 : decode cX8_bars 45 = .ok (.iconst (-1), 1) := by decide +kernel
theorem dX8_bars_46 : decode cX8_bars 46 = .ok (.ireturn, 1) := by decide +kernel
theorem dX8_bars_47 : decode cX8_bars 47 = .ok (.iinc 2 1, 3) := by decide +kernel
theorem dX8_bars_50 : decode cX8_bars 50 = .ok (.goto (-26), 3) := by decide +kernel
theorem dX8_bars_53 : decode cX8_bars 53 = .ok (.iload_n 1, 1) := by decide +kernel
theorem dX8_bars_54 : decode cX8_bars 54 = .ok (.iconst 2, 1) := by decide +kernel
theorem dX8_bars_55 : decode cX8_bars 55 = .ok (.irem, 1) := by decide +kernel
theorem dX8_bars_56 : decode cX8_bars 56 = .ok (.ifCond .ne 7, 3) := by decide +kernel
theorem dX8_bars_59 : decode cX8_bars 59 = .ok (.iconst 1, 1) := by decide +kernel
theorem dX8_bars_60 : decode cX8_bars 60 = .ok (.goto 4, 3) := by decide +kernel
theorem dX8_bars_63 : decode cX8_bars 63 = .ok (.iconst 0, 1) := by decide +kernel
theorem dX8_bars_64 : decode cX8_bars 64 = .ok (.istore_n 2, 1) := by decide +kernel
theorem dX8_bars_65 : decode cX8_bars 65 = .ok (.aload_n 0, 1) := by decide +kernel
theorem dX8_bars_66 : decode cX8_bars 66 = .ok (.getfield 47, 3) := by decide +kernel
theorem dX8_bars_69 : decode cX8_bars 69 = .ok (.iconst 0, 1) := by decide +kernel
theorem dX8_bars_70 : decode cX8_bars 70 = .ok (.iconst 0, 1) := by decide +kernel
theorem dX8_bars_71 : decode cX8_bars 71 = .ok (.iastore, 1) := by decide +kernel
theorem dX8_bars_72 : decode cX8_bars 72 = .ok (.iconst 0, 1) := by decide +kernel
theorem dX8_bars_73 : decode cX8_bars 73 = .ok (.istore_n 3, 1) := by decide +kernel
theorem dX8_bars_74 : decode cX8_bars 74 = .ok (.iload_n 3, 1) := by decide +kernel
theorem dX8_bars_75 : decode cX8_bars 75 = .ok (.iload_n 1, 1) := by decide +kernel
theorem dX8_bars_76 : decode cX8_bars 76 = .ok (.if_icmp .ge 26, 3) := by decide +kernel
theorem dX8_bars_79 : decode cX8_bars 79 = .ok (.aload_n 0, 1) := by decide +kernel
theorem dX8_bars_80 : decode cX8_bars 80 = .ok (.getfield 47, 3) := by decide +kernel
theorem dX8_bars_83 : decode cX8_bars 83 = .ok (.iload_n 3, 1) := by decide +kernel
theorem dX8_bars_84 : decode cX8_bars 84 = .ok (.iload_n 2, 1) := by decide +kernel
theorem dX8_bars_85 : decode cX8_bars 85 = .ok (.iadd, 1) := by decide +kernel
theorem dX8_bars_86 : decode cX8_bars 86 = .ok (.aload_n 0, 1) := by decide +kernel
theorem dX8_bars_87 : decode cX8_bars 87 = .ok (.getfield 13, 3) := by decide +kernel
theorem dX8_bars_90 : decode cX8_bars 90 = .ok (.iload_n 3, 1) := by decide +kernel
theorem dX8_bars_91 : decode cX8_bars 91 = .ok (.iaload, 1) := by decide +kernel
theorem dX8_bars_92 : decode cX8_bars 92 = .ok (.bipush 48, 2) := by decide +kernel
theorem dX8_bars_94 : decode cX8_bars 94 = .ok (.isub, 1) := by decide +kernel
theorem dX8_bars_95 : decode cX8_bars 95 = .ok (.iastore, 1) := by decide +kernel
theorem dX8_bars_96 : decode cX8_bars 96 = .ok (.iinc 3 1, 3) := by decide +kernel
theorem dX8_bars_99 : decode cX8_bars 99 = .ok (.goto (-25), 3) := by decide +kernel
theorem dX8_bars_102 : decode cX8_bars 102 = .ok (.aload_n 0, 1) := by decide +kernel
theorem dX8_bars_103 : decode cX8_bars 103 = .ok (.getfield 47, 3) := by decide +kernel
theorem dX8_bars_106 : decode cX8_bars 106 = .ok (.iload_n 1, 1) := by decide +kernel
theorem dX8_bars_107 : decode cX8_bars 107 = .ok (.iload_n 2, 1) := by decide +kernel
theorem dX8_bars_108 : decode cX8_bars 108 = .ok (.iadd, 1) := by decide +kernel
theorem dX8_bars_109 : decode cX8_bars 109 = .ok (.aload_n 0, 1) := by decide +kernel
theorem dX8_bars_110 : decode cX8_bars 110 = .ok (.iload_n 1, 1) := by decide +kernel
theorem dX8_bars_111 : decode cX8_bars 111 = .ok (.iload_n 2, 1) := by decide +kernel
theorem dX8_bars_112 : decode cX8_bars 112 = .ok (.iadd, 1) := by decide +kernel
theorem dX8_bars_113 : decode cX8_bars 113 = .ok (.invokevirtual 156, 3) := by decide +kernel
theorem dX8_bars_116 : decode cX8_bars 116 = .ok (.iastore, 1) := by decide +kernel
theorem dX8_bars_117 : decode cX8_bars 117 = .ok (.aload_n 0, 1) := by decide +kernel
theorem dX8_bars_118 : decode cX8_bars 118 = .ok (.iload_n 1, 1) := by decide +kernel
theorem dX8_bars_119 : decode cX8_bars 119 = .ok (.iload_n 2, 1) := by decide +kernel
theorem dX8_bars_120 : decode cX8_bars 120 = .ok (.iadd, 1) := by decide +kernel
theorem dX8_bars_121 : decode cX8_bars 121 = .ok (.iconst 1, 1) := by decide +kernel
theorem dX8_bars_122 : decode cX8_bars 122 = .ok (.iadd, 1) := by decide +kernel
theorem dX8_bars_123 : decode cX8_bars 123 = .ok (.putfield 159, 3) := by decide +kernel
theorem dX8_bars_126 : decode cX8_bars 126 = .ok (.aload_n 0, 1) := by decide +kernel
theorem dX8_bars_127 : decode cX8_bars 127 = .ok (.iconst 0, 1) := by decide +kernel
theorem dX8_bars_128 : decode cX8_bars 128 = .ok (.putfield 153, 3) := by decide +kernel
theorem dX8_bars_131 : decode cX8_bars 131 = .ok (.iconst 0, 1) := by decide +kernel
theorem dX8_bars_132 : decode cX8_bars 132 = .ok (.istore_n 3, 1) := by decide +kernel
theorem dX8_bars_133 : decode cX8_bars 133 = .ok (.iload_n 3, 1) := by decide +kernel
theorem dX8_bars_134 : decode cX8_bars 134 = .ok (.iconst 4, 1) := by decide +kernel
theorem dX8_bars_135 : decode cX8_bars 135 = .ok (.if_icmp .ge 14, 3) := by decide +kernel
theorem dX8_bars_138 : decode cX8_bars 138 = .ok (.aload_n 0, 1) := by decide +kernel
theorem dX8_bars_139 : decode cX8_bars 139 = .ok (.iconst 0, 1) := by decide +kernel
theorem dX8_bars_140 : decode cX8_bars 140 = .ok (.invokevirtual 162, 3) := by decide +kernel
theorem dX8_bars_143 : decode cX8_bars 143 = .ok (.iinc 3 1, 3) := by decide +kernel
theorem dX8_bars_146 : decode cX8_bars 146 = .ok (.goto (-13), 3) := by decide +kernel
theorem dX8_bars_149 : decode cX8_bars 149 = .ok (.iconst 0, 1) := by decide +kernel
theorem dX8_bars_150 : decode cX8_bars 150 = .ok (.istore_n 3, 1) := by decide +kernel
theorem dX8_bars_151 : decode cX8_bars 151 = .ok (.iload_n 3, 1) := by decide +kernel
theorem dX8_bars_152 : decode cX8_bars 152 = .ok (.aload_n 0, 1) := by decide +kernel
theorem dX8_bars_153 : decode cX8_bars 153 = .ok (.getfield 159, 3) := by decide +kernel
theorem dX8_bars_156 : decode cX8_bars 156 = .ok (.if_icmp .ge 79, 3) := by decide +kernel
theorem dX8_bars_159 : decode cX8_bars 159 = .ok (.iconst 4, 1) := by decide +kernel
theorem dX8_bars_160 : decode cX8_bars 160 = .ok (.istore 4, 2) := by decide +kernel
theorem dX8_bars_162 : decode cX8_bars 162 = .ok (.iload 4, 2) := by decide +kernel
theorem dX8_bars_164 : decode cX8_bars 164 = .ok (.ifCond .lt 65, 3) := by decide +kernel
theorem dX8_bars_167 : decode cX8_bars 167 = .ok (.aload_n 0, 1) := by decide +kernel
theorem dX8_bars_168 : decode cX8_bars 168 = .ok (.aload_n 0, 1) := by decide +kernel
theorem dX8_bars_169 : decode cX8_bars 169 = .ok (.getfield 47, 3) := by decide +kernel
theorem dX8_bars_172 : decode cX8_bars 172 = .ok (.iload_n 3, 1) := by decide +kernel
theorem dX8_bars_173 : decode cX8_bars 173 = .ok (.iaload, 1) := by decide +kernel
theorem dX8_bars_174 : decode cX8_bars 174 = .ok (.invokestatic 166, 3) := by decide +kernel
theorem dX8_bars_177 : decode cX8_bars 177 = .ok (.iload 4, 2) := by decide +kernel
theorem dX8_bars_179 : decode cX8_bars 179 = .ok (.ishr, 1) := by decide +kernel
theorem dX8_bars_180 : decode cX8_bars 180 = .ok (.iconst 1, 1) := by decide +kernel
theorem dX8_bars_181 : decode cX8_bars 181 = .ok (.iand, 1) := by decide +kernel
theorem dX8_bars_182 : decode cX8_bars 182 = .ok (.iconst 1, 1) := by decide +kernel
theorem dX8_bars_183 : decode cX8_bars 183 = .ok (.if_icmp .ne 7, 3) := by decide +kernel
theorem dX8_bars_186 : decode cX8_bars 186 = .ok (.iconst 1, 1) := by decide +kernel
theorem dX8_bars_187 : decode cX8_bars 187 = .ok (.goto 4, 3) := by decide +kernel
theorem dX8_bars_190 : decode cX8_bars 190 = .ok (.iconst 0, 1) := by decide +kernel
theorem dX8_bars_191 : decode cX8_bars 191 = .ok (.invokevirtual 162, 3) := by decide +kernel
theorem dX8_bars_194 : decode cX8_bars 194 = .ok (.aload_n 0, 1) := by decide +kernel
theorem dX8_bars_195 : decode cX8_bars 195 = .ok (.aload_n 0, 1) := by decide +kernel
theorem dX8_bars_196 : decode cX8_bars 196 = .ok (.getfield 47, 3) := by decide +kernel
theorem dX8_bars_199 : decode cX8_bars 199 = .ok (.iload_n 3, 1) := by decide +kernel
theorem dX8_bars_200 : decode cX8_bars 200 = .ok (.iconst 1, 1) := by decide +kernel
theorem dX8_bars_201 : decode cX8_bars 201 = .ok (.iadd, 1) := by decide +kernel
theorem dX8_bars_202 : decode cX8_bars 202 = .ok (.iaload, 1) := by decide +kernel
theorem dX8_bars_203 : decode cX8_bars 203 = .ok (.invokestatic 166, 3) := by decide +kernel
theorem dX8_bars_206 : decode cX8_bars 206 = .ok (.iload 4, 2) := by decide +kernel
theorem dX8_bars_208 : decode cX8_bars 208 = .ok (.ishr, 1) := by decide +kernel
theorem dX8_bars_209 : decode cX8_bars 209 = .ok (.iconst 1, 1) := by decide +kernel
theorem dX8_bars_210 : decode cX8_bars 210 = .ok (.iand, 1) := by decide +kernel
theorem dX8_bars_211 : decode cX8_bars 211 = .ok (.iconst 1, 1) := by decide +kernel
theorem dX8_bars_212 : decode cX8_bars 212 = .ok (.if_icmp .ne 7, 3) := by decide +kernel
theorem dX8_bars_215 : decode cX8_bars 215 = .ok (.iconst 1, 1) := by decide +kernel
theorem dX8_bars_216 : decode cX8_bars 216 = .ok (.goto 4, 3) := by decide +kernel
theorem dX8_bars_219 : decode cX8_bars 219 = .ok (.iconst 0, 1) := by decide +kernel
theorem dX8_bars_220 : decode cX8_bars 220 = .ok (.invokevirtual 162, 3) := by decide +kernel
theorem dX8_bars_223 : decode cX8_bars 223 = .ok (.iinc 4 (-1), 3) := by decide +kernel
theorem dX8_bars_226 : decode cX8_bars 226 = .ok (.goto (-64), 3) := by decide +kernel
theorem dX8_bars_229 : decode cX8_bars 229 = .ok (.iinc 3 2, 3) := by decide +kernel
theorem dX8_bars_232 : decode cX8_bars 232 = .ok (.goto (-81), 3) := by decide +kernel
theorem dX8_bars_235 : decode cX8_bars 235 = .ok (.aload_n 0, 1) := by decide +kernel
theorem dX8_bars_236 : decode cX8_bars 236 = .ok (.iconst 1, 1) := by decide +kernel
theorem dX8_bars_237 : decode cX8_bars 237 = .ok (.invokevirtual 162, 3) := by decide +kernel
theorem dX8_bars_240 : decode cX8_bars 240 = .ok (.aload_n 0, 1) := by decide +kernel
theorem dX8_bars_241 : decode cX8_bars 241 = .ok (.iconst 0, 1) := by decide +kernel
theorem dX8_bars_242 : decode cX8_bars 242 = .ok (.invokevirtual 162, 3) := by decide +kernel
theorem dX8_bars_245 : decode cX8_bars 245 = .ok (.aload_n 0, 1) := by decide +kernel
theorem dX8_bars_246 : decode cX8_bars 246 = .ok (.iconst 0, 1) := by decide +kernel
theorem dX8_bars_247 : decode cX8_bars 247 = .ok (.invokevirtual 162, 3) := by decide +kernel
theorem dX8_bars_250 : decode cX8_bars 250 = .ok (.aload_n 0, 1) := by decide +kernel
theorem dX8_bars_251 : decode cX8_bars 251 = .ok (.getfield 153, 3) := by decide +kernel
theorem dX8_bars_254 : decode cX8_bars 254 = .ok (.ireturn, 1) := by decide +kernel
theorem Y_RX8_156 : YV RX8 156 RX8 yX8_check cX8_check 4 (some .int) 1 := ⟨w930, w927, w929, w30, w52, by decide +kernel, by decide⟩
theorem Y_RX8_162 : YV RX8 162 RX8 yX8_draws cX8_draws 2 none 1 := ⟨w934, w931, w933, w31, w52, by decide +kernel, by decide⟩
theorem Y_RX8_166 : YS RX8 166 yX8_five cX8_five 1 (some .int) 1 := ⟨w937, w935, w936, w52, by decide +kernel, by decide⟩
def wp_X8_bars_191 (k162 : Int → Int → Mem → Prop) (Q : Int → Mem → Prop) (x3 x4 s0 : Int) (M : Mem) : Prop := wp_X8_draws s0 M (fun M1 => (0 ≤ (x3 + 1) ∧ (x3 + 1) < 12) ∧ wp_X8_five (M1 73 (x3 + 1).toNat) M1 (fun r4 M3 => (Rg (bAnd (bShr r4 x4) 1) ∧ ((bAnd (bShr r4 x4) 1) ≠ 1 → wp_X8_draws 0 M3 (fun M9 => k162 x3 (x4 + (-1)) M9)) ∧ (¬ ((bAnd (bShr r4 x4) 1) ≠ 1) → wp_X8_draws 1 M3 (fun M10 => k162 x3 (x4 + (-1)) M10)))))
set_option maxHeartbeats 4000000 in
set_option maxRecDepth 100000 in
theorem v_X8_bars_191 (E : En X (AW X) 1 p R s m args meth c cX8_bars RX8 5 (some .int) 0 0) (Q : Int → Mem → Prop) (k162 : Int → Int → Mem → Prop) (Hk162 : ∀ (x3 x4 : Int) (M : Mem) (H : Heap) (locs : List Loc) (ls : Array Slot), k162 x3 x4 M → Wd X (AW X) s M H locs → lv_has ls 5 [(0, .ref (xA X 62)), (3, .int (jI x3)), (4, .int (jI x4))] → W p l e R s m args below meth c H locs 0 0 (MQ below (QI X Q) args s 0 0 (AW X)) (F0 m 162 ls [])) : ∀ (x3 x4 s0 : Int) (M : Mem) (H : Heap) (locs : List Loc) (ls : Array Slot), wp_X8_bars_191 k162 Q x3 x4 s0 M → Wd X (AW X) s M H locs → lv_has ls 5 [(0, .ref (xA X 62)), (3, .int (jI x3)), (4, .int (jI x4))] → W p l e R s m args below meth c H locs 0 0 (MQ below (QI X Q) args s 0 0 (AW X)) (F0 m 191 ls [.int (jI s0), .ref (xA X 62)]) := by
  intro x3 x4 s0 M H locs ls h hW hl
  unfold wp_X8_bars_191 at h
  refine q_callVv (n := 194) (fs := (fs62 X)) [.int (jI s0)] E hW hl.1 (by decide) (fun _ => rfl) K8 (c_X8_draws l X E.2.2.1.1 s0  _ _ h) (by decide) Y_RX8_162 rfl (rest := []) rfl (Nat.le_of_ble_eq_true rfl) dX8_bars_191 rfl (fun M1 H locs h hW => ?_)
  refine q_aload_n (n := 195) (q := 0) E.1 hl rfl dX8_bars_194 rfl rfl ?_
  refine q_aload_n (n := 196) (q := 0) E.1 hl rfl dX8_bars_195 rfl rfl ?_
  refine q_get (n := 199) (k := 19) (fs := (fs62 X)) (v := .ref (xA X 73)) E hW (by decide) (fun _ => rfl) K8 (by decide) w734 rfl rfl dX8_bars_196 rfl ?_
  refine q_iload_n (n := 200) (q := 1) E.1 hl rfl dX8_bars_199 rfl rfl ?_
  refine q_iconst (n := 201) E.1 dX8_bars_200 rfl ?_
  refine q_iadd (n := 202) E.1 dX8_bars_201 rfl ?_
  obtain ⟨g2, h⟩ := h
  refine q_iald (n := 203) E hW (by decide) (fun _ => rfl) (by decide) g2 dX8_bars_202 rfl ?_
  refine q_callSi (n := 206) [.int (jI (M1 73 (x3 + 1).toNat))] E hW hl.1 (c_X8_five l X E.2.2.1.1 (M1 73 (x3 + 1).toNat)  _ _ h) (by decide) Y_RX8_166 rfl (rest := [.ref (xA X 62)]) rfl (Nat.le_of_ble_eq_true rfl) dX8_bars_203 rfl (fun r4 M3 H locs h hW => ?_)
  refine q_iload (n := 208) (q := 2) E.1 hl rfl dX8_bars_206 rfl ?_
  refine q_ishr (n := 209) E.1 dX8_bars_208 rfl ?_
  refine q_iconst (n := 210) E.1 dX8_bars_209 rfl ?_
  refine q_iand (n := 211) E.1 dX8_bars_210 rfl ?_
  refine q_iconst (n := 212) E.1 dX8_bars_211 rfl ?_
  obtain ⟨g5, h6, h7⟩ := h
  refine q_icmp_ne (t := 219) (n := 215) E.1 g5 (by decide) dX8_bars_212 (by decide) rfl (fun c8 => ?_) (fun c8 => ?_)
  · have h := h6 c8
    refine q_iconst (n := 220) E.1 dX8_bars_219 rfl ?_
    refine q_callVv (n := 223) (fs := (fs62 X)) [.int (jI 0)] E hW hl.1 (by decide) (fun _ => rfl) K8 (c_X8_draws l X E.2.2.1.1 0  _ _ h) (by decide) Y_RX8_162 rfl (rest := []) rfl (Nat.le_of_ble_eq_true rfl) dX8_bars_220 rfl (fun M9 H locs h hW => ?_)
    refine q_iinc (n := 226) (q := 2) [(4, .int (jI (x4 + (-1)))), (0, .ref (xA X 62)), (3, .int (jI x3))] E.1 hl rfl dX8_bars_223 (by decide) rfl rfl (fun ls hl => ?_)
    refine q_goto (n := 162) E.1 dX8_bars_226 (by decide) ?_
    exact Hk162 _ _ _ _ _ _ h hW (lv_sub hl [1, 2, 0] rfl)
  · have h := h7 c8
    refine q_iconst (n := 216) E.1 dX8_bars_215 rfl ?_
    refine q_goto (n := 220) E.1 dX8_bars_216 (by decide) ?_
    refine q_callVv (n := 223) (fs := (fs62 X)) [.int (jI 1)] E hW hl.1 (by decide) (fun _ => rfl) K8 (c_X8_draws l X E.2.2.1.1 1  _ _ h) (by decide) Y_RX8_162 rfl (rest := []) rfl (Nat.le_of_ble_eq_true rfl) dX8_bars_220 rfl (fun M10 H locs h hW => ?_)
    refine q_iinc (n := 226) (q := 2) [(4, .int (jI (x4 + (-1)))), (0, .ref (xA X 62)), (3, .int (jI x3))] E.1 hl rfl dX8_bars_223 (by decide) rfl rfl (fun ls hl => ?_)
    refine q_goto (n := 162) E.1 dX8_bars_226 (by decide) ?_
    exact Hk162 _ _ _ _ _ _ h hW (lv_sub hl [1, 2, 0] rfl)
def wp_X8_bars_162 (k151 : Int → Mem → Prop) (Q : Int → Mem → Prop) : Nat → Int → Int → Mem → Prop
  | 0, _, _, _ => False
  | n + 1, x3, x4, M => (Rg x4 ∧ (x4 < 0 → k151 (x3 + 2) M) ∧ (¬ (x4 < 0) → (0 ≤ x3 ∧ x3 < 12) ∧ wp_X8_five (M 73 x3.toNat) M (fun r7 M6 => (Rg (bAnd (bShr r7 x4) 1) ∧ ((bAnd (bShr r7 x4) 1) ≠ 1 → wp_X8_bars_191 (fun x3 x4 M => wp_X8_bars_162 k151 Q n x3 x4 M) Q x3 x4 0 M6) ∧ (¬ ((bAnd (bShr r7 x4) 1) ≠ 1) → wp_X8_bars_191 (fun x3 x4 M => wp_X8_bars_162 k151 Q n x3 x4 M) Q x3 x4 1 M6)))))
set_option maxHeartbeats 4000000 in
set_option maxRecDepth 100000 in
theorem v_X8_bars_162 (E : En X (AW X) 1 p R s m args meth c cX8_bars RX8 5 (some .int) 0 0) (Q : Int → Mem → Prop) (k151 : Int → Mem → Prop) (Hk151 : ∀ (x3 : Int) (M : Mem) (H : Heap) (locs : List Loc) (ls : Array Slot), k151 x3 M → Wd X (AW X) s M H locs → lv_has ls 5 [(0, .ref (xA X 62)), (3, .int (jI x3))] → W p l e R s m args below meth c H locs 0 0 (MQ below (QI X Q) args s 0 0 (AW X)) (F0 m 151 ls [])) : ∀ n : Nat, ∀ (x3 x4 : Int) (M : Mem) (H : Heap) (locs : List Loc) (ls : Array Slot), wp_X8_bars_162 k151 Q n x3 x4 M → Wd X (AW X) s M H locs → lv_has ls 5 [(0, .ref (xA X 62)), (3, .int (jI x3)), (4, .int (jI x4))] → W p l e R s m args below meth c H locs 0 0 (MQ below (QI X Q) args s 0 0 (AW X)) (F0 m 162 ls []) := by
  intro n
  induction n with
  | zero => intro x3 x4 M H locs ls h; exact absurd h (by simp [wp_X8_bars_162])
  | succ n ih =>
    intro x3 x4 M H locs ls h hW hl
    rw [wp_X8_bars_162] at h
    refine q_iload (n := 164) (q := 2) E.1 hl rfl dX8_bars_162 rfl ?_
    obtain ⟨g1, h2, h3⟩ := h
    refine q_if_lt (t := 229) (n := 167) E.1 g1 dX8_bars_164 (by decide) rfl (fun c4 => ?_) (fun c4 => ?_)
    · have h := h2 c4
      refine q_iinc (n := 232) (q := 1) [(3, .int (jI (x3 + 2))), (0, .ref (xA X 62)), (4, .int (jI x4))] E.1 hl rfl dX8_bars_229 (by decide) rfl rfl (fun ls hl => ?_)
      refine q_goto (n := 151) E.1 dX8_bars_232 (by decide) ?_
      exact Hk151 _ _ _ _ _ h hW (lv_sub hl [1, 0] rfl)
    · have h := h3 c4
      refine q_aload_n (n := 168) (q := 0) E.1 hl rfl dX8_bars_167 rfl rfl ?_
      refine q_aload_n (n := 169) (q := 0) E.1 hl rfl dX8_bars_168 rfl rfl ?_
      refine q_get (n := 172) (k := 19) (fs := (fs62 X)) (v := .ref (xA X 73)) E hW (by decide) (fun _ => rfl) K8 (by decide) w734 rfl rfl dX8_bars_169 rfl ?_
      refine q_iload_n (n := 173) (q := 1) E.1 hl rfl dX8_bars_172 rfl rfl ?_
      obtain ⟨g5, h⟩ := h
      refine q_iald (n := 174) E hW (by decide) (fun _ => rfl) (by decide) g5 dX8_bars_173 rfl ?_
      refine q_callSi (n := 177) [.int (jI (M 73 x3.toNat))] E hW hl.1 (c_X8_five l X E.2.2.1.1 (M 73 x3.toNat)  _ _ h) (by decide) Y_RX8_166 rfl (rest := [.ref (xA X 62)]) rfl (Nat.le_of_ble_eq_true rfl) dX8_bars_174 rfl (fun r7 M6 H locs h hW => ?_)
      refine q_iload (n := 179) (q := 2) E.1 hl rfl dX8_bars_177 rfl ?_
      refine q_ishr (n := 180) E.1 dX8_bars_179 rfl ?_
      refine q_iconst (n := 181) E.1 dX8_bars_180 rfl ?_
      refine q_iand (n := 182) E.1 dX8_bars_181 rfl ?_
      refine q_iconst (n := 183) E.1 dX8_bars_182 rfl ?_
      obtain ⟨g8, h9, h10⟩ := h
      refine q_icmp_ne (t := 190) (n := 186) E.1 g8 (by decide) dX8_bars_183 (by decide) rfl (fun c11 => ?_) (fun c11 => ?_)
      · have h := h9 c11
        refine q_iconst (n := 191) E.1 dX8_bars_190 rfl ?_
        exact v_X8_bars_191 E Q _ ih _ _ _ _ _ _ _ h hW (lv_sub hl [0, 1, 2] rfl)
      · have h := h10 c11
        refine q_iconst (n := 187) E.1 dX8_bars_186 rfl ?_
        refine q_goto (n := 191) E.1 dX8_bars_187 (by decide) ?_
        exact v_X8_bars_191 E Q _ ih _ _ _ _ _ _ _ h hW (lv_sub hl [0, 1, 2] rfl)
def wp_X8_bars_151 (Q : Int → Mem → Prop) : Nat → Int → Mem → Prop
  | 0, _, _ => False
  | n + 1, x3, M => (Rg x3 ∧ Rg (M 62 21) ∧ ((M 62 21) ≤ x3 → wp_X8_draws 1 M (fun M6 => wp_X8_draws 0 M6 (fun M7 => wp_X8_draws 0 M7 (fun M8 => Q (M8 62 4) M8)))) ∧ (¬ ((M 62 21) ≤ x3) → (∃ n2 : Nat, wp_X8_bars_162 (fun x3 M => wp_X8_bars_151 Q n x3 M) Q n2 x3 4 M)))
set_option maxHeartbeats 4000000 in
set_option maxRecDepth 100000 in
theorem v_X8_bars_151 (E : En X (AW X) 1 p R s m args meth c cX8_bars RX8 5 (some .int) 0 0) (Q : Int → Mem → Prop) : ∀ n : Nat, ∀ (x3 : Int) (M : Mem) (H : Heap) (locs : List Loc) (ls : Array Slot), wp_X8_bars_151 Q n x3 M → Wd X (AW X) s M H locs → lv_has ls 5 [(0, .ref (xA X 62)), (3, .int (jI x3))] → W p l e R s m args below meth c H locs 0 0 (MQ below (QI X Q) args s 0 0 (AW X)) (F0 m 151 ls []) := by
  intro n
  induction n with
  | zero => intro x3 M H locs ls h; exact absurd h (by simp [wp_X8_bars_151])
  | succ n ih =>
    intro x3 M H locs ls h hW hl
    rw [wp_X8_bars_151] at h
    refine q_iload_n (n := 152) (q := 1) E.1 hl rfl dX8_bars_151 rfl rfl ?_
    refine q_aload_n (n := 153) (q := 0) E.1 hl rfl dX8_bars_152 rfl rfl ?_
    refine q_get (n := 156) (k := 21) (fs := (fs62 X)) (v := .int (jI (M 62 21))) E hW (by decide) (fun _ => rfl) K8 (by decide) w736 rfl rfl dX8_bars_153 rfl ?_
    obtain ⟨g1, g2, h3, h4⟩ := h
    refine q_icmp_ge (t := 235) (n := 159) E.1 g1 g2 dX8_bars_156 (by decide) rfl (fun c5 => ?_) (fun c5 => ?_)
    · have h := h3 c5
      refine q_aload_n (n := 236) (q := 0) E.1 hl rfl dX8_bars_235 rfl rfl ?_
      refine q_iconst (n := 237) E.1 dX8_bars_236 rfl ?_
      refine q_callVv (n := 240) (fs := (fs62 X)) [.int (jI 1)] E hW hl.1 (by decide) (fun _ => rfl) K8 (c_X8_draws l X E.2.2.1.1 1  _ _ h) (by decide) Y_RX8_162 rfl (rest := []) rfl (Nat.le_of_ble_eq_true rfl) dX8_bars_237 rfl (fun M6 H locs h hW => ?_)
      refine q_aload_n (n := 241) (q := 0) E.1 hl rfl dX8_bars_240 rfl rfl ?_
      refine q_iconst (n := 242) E.1 dX8_bars_241 rfl ?_
      refine q_callVv (n := 245) (fs := (fs62 X)) [.int (jI 0)] E hW hl.1 (by decide) (fun _ => rfl) K8 (c_X8_draws l X E.2.2.1.1 0  _ _ h) (by decide) Y_RX8_162 rfl (rest := []) rfl (Nat.le_of_ble_eq_true rfl) dX8_bars_242 rfl (fun M7 H locs h hW => ?_)
      refine q_aload_n (n := 246) (q := 0) E.1 hl rfl dX8_bars_245 rfl rfl ?_
      refine q_iconst (n := 247) E.1 dX8_bars_246 rfl ?_
      refine q_callVv (n := 250) (fs := (fs62 X)) [.int (jI 0)] E hW hl.1 (by decide) (fun _ => rfl) K8 (c_X8_draws l X E.2.2.1.1 0  _ _ h) (by decide) Y_RX8_162 rfl (rest := []) rfl (Nat.le_of_ble_eq_true rfl) dX8_bars_247 rfl (fun M8 H locs h hW => ?_)
      refine q_aload_n (n := 251) (q := 0) E.1 hl rfl dX8_bars_250 rfl rfl ?_
      refine q_get (n := 254) (k := 4) (fs := (fs62 X)) (v := .int (jI (M8 62 4))) E hW (by decide) (fun _ => rfl) K8 (by decide) w719 rfl rfl dX8_bars_251 rfl ?_
      exact q_iret E hW h dX8_bars_254
    · have h := h4 c5
      refine q_iconst (n := 160) E.1 dX8_bars_159 rfl ?_
      refine q_istore (n := 162) [(4, .int (jI 4)), (0, .ref (xA X 62)), (3, .int (jI x3))] E.1 hl dX8_bars_160 (by decide) rfl rfl (fun ls hl => ?_)
      obtain ⟨n9, h⟩ := h
      exact v_X8_bars_162 E Q _ ih n9 _ _ _ _ _ _ h hW (lv_sub hl [1, 2, 0] rfl)
def wp_X8_bars_133 (Q : Int → Mem → Prop) : Nat → Int → Mem → Prop
  | 0, _, _ => False
  | n + 1, x3, M => (Rg x3 ∧ (4 ≤ x3 → (∃ n2 : Nat, wp_X8_bars_151 Q n2 0 M)) ∧ (¬ (4 ≤ x3) → wp_X8_draws 0 M (fun M6 => wp_X8_bars_133 Q n (x3 + 1) M6)))
set_option maxHeartbeats 4000000 in
set_option maxRecDepth 100000 in
theorem v_X8_bars_133 (E : En X (AW X) 1 p R s m args meth c cX8_bars RX8 5 (some .int) 0 0) (Q : Int → Mem → Prop) : ∀ n : Nat, ∀ (x3 : Int) (M : Mem) (H : Heap) (locs : List Loc) (ls : Array Slot), wp_X8_bars_133 Q n x3 M → Wd X (AW X) s M H locs → lv_has ls 5 [(0, .ref (xA X 62)), (3, .int (jI x3))] → W p l e R s m args below meth c H locs 0 0 (MQ below (QI X Q) args s 0 0 (AW X)) (F0 m 133 ls []) := by
  intro n
  induction n with
  | zero => intro x3 M H locs ls h; exact absurd h (by simp [wp_X8_bars_133])
  | succ n ih =>
    intro x3 M H locs ls h hW hl
    rw [wp_X8_bars_133] at h
    refine q_iload_n (n := 134) (q := 1) E.1 hl rfl dX8_bars_133 rfl rfl ?_
    refine q_iconst (n := 135) E.1 dX8_bars_134 rfl ?_
    obtain ⟨g1, h2, h3⟩ := h
    refine q_icmp_ge (t := 149) (n := 138) E.1 g1 (by decide) dX8_bars_135 (by decide) rfl (fun c4 => ?_) (fun c4 => ?_)
    · have h := h2 c4
      refine q_iconst (n := 150) E.1 dX8_bars_149 rfl ?_
      refine q_istore_n (n := 151) [(3, .int (jI 0)), (0, .ref (xA X 62))] E.1 hl dX8_bars_150 rfl (by decide) rfl rfl (fun ls hl => ?_)
      obtain ⟨n5, h⟩ := h
      exact v_X8_bars_151 E Q n5 _ _ _ _ _ h hW (lv_sub hl [1, 0] rfl)
    · have h := h3 c4
      refine q_aload_n (n := 139) (q := 0) E.1 hl rfl dX8_bars_138 rfl rfl ?_
      refine q_iconst (n := 140) E.1 dX8_bars_139 rfl ?_
      refine q_callVv (n := 143) (fs := (fs62 X)) [.int (jI 0)] E hW hl.1 (by decide) (fun _ => rfl) K8 (c_X8_draws l X E.2.2.1.1 0  _ _ h) (by decide) Y_RX8_162 rfl (rest := []) rfl (Nat.le_of_ble_eq_true rfl) dX8_bars_140 rfl (fun M6 H locs h hW => ?_)
      refine q_iinc (n := 146) (q := 1) [(3, .int (jI (x3 + 1))), (0, .ref (xA X 62))] E.1 hl rfl dX8_bars_143 (by decide) rfl rfl (fun ls hl => ?_)
      refine q_goto (n := 133) E.1 dX8_bars_146 (by decide) ?_
      exact ih _ _ _ _ _ h hW (lv_sub hl [1, 0] rfl)
def wp_X8_bars_74 (Q : Int → Mem → Prop) : Nat → Int → Int → Int → Mem → Prop
  | 0, _, _, _, _ => False
  | n + 1, x1, x2, x3, M => (Rg x3 ∧ Rg x1 ∧ (x1 ≤ x3 → wp_X8_check (x1 + x2) M (fun r7 M6 => (0 ≤ (x1 + x2) ∧ (x1 + x2) < 12) ∧ (∃ n2 : Nat, wp_X8_bars_133 Q n2 0 (up (up (up M6 73 (x1 + x2).toNat r7) 62 21 ((x1 + x2) + 1)) 62 4 0)))) ∧ (¬ (x1 ≤ x3) → (0 ≤ x3 ∧ x3 < 200) ∧ (0 ≤ (x3 + x2) ∧ (x3 + x2) < 12) ∧ wp_X8_bars_74 Q n x1 x2 (x3 + 1) (up M 73 (x3 + x2).toNat ((M 64 x3.toNat) - 48))))
set_option maxHeartbeats 4000000 in
set_option maxRecDepth 100000 in
theorem v_X8_bars_74 (E : En X (AW X) 1 p R s m args meth c cX8_bars RX8 5 (some .int) 0 0) (Q : Int → Mem → Prop) : ∀ n : Nat, ∀ (x1 x2 x3 : Int) (M : Mem) (H : Heap) (locs : List Loc) (ls : Array Slot), wp_X8_bars_74 Q n x1 x2 x3 M → Wd X (AW X) s M H locs → lv_has ls 5 [(0, .ref (xA X 62)), (1, .int (jI x1)), (2, .int (jI x2)), (3, .int (jI x3))] → W p l e R s m args below meth c H locs 0 0 (MQ below (QI X Q) args s 0 0 (AW X)) (F0 m 74 ls []) := by
  intro n
  induction n with
  | zero => intro x1 x2 x3 M H locs ls h; exact absurd h (by simp [wp_X8_bars_74])
  | succ n ih =>
    intro x1 x2 x3 M H locs ls h hW hl
    rw [wp_X8_bars_74] at h
    refine q_iload_n (n := 75) (q := 3) E.1 hl rfl dX8_bars_74 rfl rfl ?_
    refine q_iload_n (n := 76) (q := 1) E.1 hl rfl dX8_bars_75 rfl rfl ?_
    obtain ⟨g1, g2, h3, h4⟩ := h
    refine q_icmp_ge (t := 102) (n := 79) E.1 g1 g2 dX8_bars_76 (by decide) rfl (fun c5 => ?_) (fun c5 => ?_)
    · have h := h3 c5
      refine q_aload_n (n := 103) (q := 0) E.1 hl rfl dX8_bars_102 rfl rfl ?_
      refine q_get (n := 106) (k := 19) (fs := (fs62 X)) (v := .ref (xA X 73)) E hW (by decide) (fun _ => rfl) K8 (by decide) w734 rfl rfl dX8_bars_103 rfl ?_
      refine q_iload_n (n := 107) (q := 1) E.1 hl rfl dX8_bars_106 rfl rfl ?_
      refine q_iload_n (n := 108) (q := 2) E.1 hl rfl dX8_bars_107 rfl rfl ?_
      refine q_iadd (n := 109) E.1 dX8_bars_108 rfl ?_
      refine q_aload_n (n := 110) (q := 0) E.1 hl rfl dX8_bars_109 rfl rfl ?_
      refine q_iload_n (n := 111) (q := 1) E.1 hl rfl dX8_bars_110 rfl rfl ?_
      refine q_iload_n (n := 112) (q := 2) E.1 hl rfl dX8_bars_111 rfl rfl ?_
      refine q_iadd (n := 113) E.1 dX8_bars_112 rfl ?_
      refine q_callVi (n := 116) (fs := (fs62 X)) [.int (jI (x1 + x2))] E hW hl.1 (by decide) (fun _ => rfl) K8 (c_X8_check l X E.2.2.1.1 (x1 + x2)  _ _ h) (by decide) Y_RX8_156 rfl (rest := [.int (jI (x1 + x2)), .ref (xA X 73)]) rfl (Nat.le_of_ble_eq_true rfl) dX8_bars_113 rfl (fun r7 M6 H locs h hW => ?_)
      obtain ⟨g8, h⟩ := h
      refine q_iast (n := 117) E hW (by decide) (fun _ => rfl) (by decide) g8 dX8_bars_116 rfl (fun H locs hW => ?_)
      refine q_aload_n (n := 118) (q := 0) E.1 hl rfl dX8_bars_117 rfl rfl ?_
      refine q_iload_n (n := 119) (q := 1) E.1 hl rfl dX8_bars_118 rfl rfl ?_
      refine q_iload_n (n := 120) (q := 2) E.1 hl rfl dX8_bars_119 rfl rfl ?_
      refine q_iadd (n := 121) E.1 dX8_bars_120 rfl ?_
      refine q_iconst (n := 122) E.1 dX8_bars_121 rfl ?_
      refine q_iadd (n := 123) E.1 dX8_bars_122 rfl ?_
      refine q_put (n := 126) (k := 21) (fs := (fs62 X)) E hW (by decide) (fun _ => rfl) K8 (by decide) w736 rfl rfl ⟨rfl, rfl⟩ (Nat.le_of_ble_eq_true rfl) (fun _ => rfl) dX8_bars_123 rfl (fun H locs hW => ?_)
      refine q_aload_n (n := 127) (q := 0) E.1 hl rfl dX8_bars_126 rfl rfl ?_
      refine q_iconst (n := 128) E.1 dX8_bars_127 rfl ?_
      refine q_put (n := 131) (k := 4) (fs := (fs62 X)) E hW (by decide) (fun _ => rfl) K8 (by decide) w719 rfl rfl ⟨rfl, rfl⟩ (Nat.le_of_ble_eq_true rfl) (fun _ => rfl) dX8_bars_128 rfl (fun H locs hW => ?_)
      refine q_iconst (n := 132) E.1 dX8_bars_131 rfl ?_
      refine q_istore_n (n := 133) [(3, .int (jI 0)), (0, .ref (xA X 62)), (1, .int (jI x1)), (2, .int (jI x2))] E.1 hl dX8_bars_132 rfl (by decide) rfl rfl (fun ls hl => ?_)
      obtain ⟨n9, h⟩ := h
      exact v_X8_bars_133 E Q n9 _ _ _ _ _ h hW (lv_sub hl [1, 0] rfl)
    · have h := h4 c5
      refine q_aload_n (n := 80) (q := 0) E.1 hl rfl dX8_bars_79 rfl rfl ?_
      refine q_get (n := 83) (k := 19) (fs := (fs62 X)) (v := .ref (xA X 73)) E hW (by decide) (fun _ => rfl) K8 (by decide) w734 rfl rfl dX8_bars_80 rfl ?_
      refine q_iload_n (n := 84) (q := 3) E.1 hl rfl dX8_bars_83 rfl rfl ?_
      refine q_iload_n (n := 85) (q := 2) E.1 hl rfl dX8_bars_84 rfl rfl ?_
      refine q_iadd (n := 86) E.1 dX8_bars_85 rfl ?_
      refine q_aload_n (n := 87) (q := 0) E.1 hl rfl dX8_bars_86 rfl rfl ?_
      refine q_get (n := 90) (k := 1) (fs := (fs62 X)) (v := .ref (xA X 64)) E hW (by decide) (fun _ => rfl) K8 (by decide) w716 rfl rfl dX8_bars_87 rfl ?_
      refine q_iload_n (n := 91) (q := 3) E.1 hl rfl dX8_bars_90 rfl rfl ?_
      obtain ⟨g10, h⟩ := h
      refine q_iald (n := 92) E hW (by decide) (fun _ => rfl) (by decide) g10 dX8_bars_91 rfl ?_
      refine q_bipush (n := 94) E.1 dX8_bars_92 (by decide) rfl ?_
      refine q_isub (n := 95) E.1 dX8_bars_94 rfl ?_
      obtain ⟨g11, h⟩ := h
      refine q_iast (n := 96) E hW (by decide) (fun _ => rfl) (by decide) g11 dX8_bars_95 rfl (fun H locs hW => ?_)
      refine q_iinc (n := 99) (q := 3) [(3, .int (jI (x3 + 1))), (0, .ref (xA X 62)), (1, .int (jI x1)), (2, .int (jI x2))] E.1 hl rfl dX8_bars_96 (by decide) rfl rfl (fun ls hl => ?_)
      refine q_goto (n := 74) E.1 dX8_bars_99 (by decide) ?_
      exact ih _ _ _ _ _ _ _ h hW (lv_sub hl [1, 2, 3, 0] rfl)
def wp_X8_bars_24 (Q : Int → Mem → Prop) : Nat → Int → Int → Mem → Prop
  | 0, _, _, _ => False
  | n + 1, x1, x2, M => (Rg x2 ∧ Rg x1 ∧ (x1 ≤ x2 → (Rg x1 ∧ 0 ≤ x1) ∧ (Rg (x1 % 2) ∧ ((x1 % 2) ≠ 0 → (∃ n2 : Nat, wp_X8_bars_74 Q n2 x1 0 0 (up M 73 0 0))) ∧ (¬ ((x1 % 2) ≠ 0) → (∃ n2 : Nat, wp_X8_bars_74 Q n2 x1 1 0 (up M 73 0 0))))) ∧ (¬ (x1 ≤ x2) → (0 ≤ x2 ∧ x2 < 200) ∧ wp_X8_isIn (M 64 x2.toNat) 48 57 M (fun r15 M14 => (Rg r15 ∧ (r15 ≠ 0 → wp_X8_bars_24 Q n x1 (x2 + 1) M14) ∧ (¬ (r15 ≠ 0) → Q (-1) M14)))))
set_option maxHeartbeats 4000000 in
set_option maxRecDepth 100000 in
theorem v_X8_bars_24 (E : En X (AW X) 1 p R s m args meth c cX8_bars RX8 5 (some .int) 0 0) (Q : Int → Mem → Prop) : ∀ n : Nat, ∀ (x1 x2 : Int) (M : Mem) (H : Heap) (locs : List Loc) (ls : Array Slot), wp_X8_bars_24 Q n x1 x2 M → Wd X (AW X) s M H locs → lv_has ls 5 [(0, .ref (xA X 62)), (1, .int (jI x1)), (2, .int (jI x2))] → W p l e R s m args below meth c H locs 0 0 (MQ below (QI X Q) args s 0 0 (AW X)) (F0 m 24 ls []) := by
  intro n
  induction n with
  | zero => intro x1 x2 M H locs ls h; exact absurd h (by simp [wp_X8_bars_24])
  | succ n ih =>
    intro x1 x2 M H locs ls h hW hl
    rw [wp_X8_bars_24] at h
    refine q_iload_n (n := 25) (q := 2) E.1 hl rfl dX8_bars_24 rfl rfl ?_
    refine q_iload_n (n := 26) (q := 1) E.1 hl rfl dX8_bars_25 rfl rfl ?_
    obtain ⟨g1, g2, h3, h4⟩ := h
    refine q_icmp_ge (t := 53) (n := 29) E.1 g1 g2 dX8_bars_26 (by decide) rfl (fun c5 => ?_) (fun c5 => ?_)
    · have h := h3 c5
      refine q_iload_n (n := 54) (q := 1) E.1 hl rfl dX8_bars_53 rfl rfl ?_
      refine q_iconst (n := 55) E.1 dX8_bars_54 rfl ?_
      obtain ⟨g6, h⟩ := h
      refine q_irem (n := 56) E.1 g6 (by decide) dX8_bars_55 rfl ?_
      obtain ⟨g7, h8, h9⟩ := h
      refine q_if_ne (t := 63) (n := 59) E.1 g7 dX8_bars_56 (by decide) rfl (fun c10 => ?_) (fun c10 => ?_)
      · have h := h8 c10
        refine q_iconst (n := 64) E.1 dX8_bars_63 rfl ?_
        refine q_istore_n (n := 65) [(2, .int (jI 0)), (0, .ref (xA X 62)), (1, .int (jI x1))] E.1 hl dX8_bars_64 rfl (by decide) rfl rfl (fun ls hl => ?_)
        refine q_aload_n (n := 66) (q := 1) E.1 hl rfl dX8_bars_65 rfl rfl ?_
        refine q_get (n := 69) (k := 19) (fs := (fs62 X)) (v := .ref (xA X 73)) E hW (by decide) (fun _ => rfl) K8 (by decide) w734 rfl rfl dX8_bars_66 rfl ?_
        refine q_iconst (n := 70) E.1 dX8_bars_69 rfl ?_
        refine q_iconst (n := 71) E.1 dX8_bars_70 rfl ?_
        refine q_iast (n := 72) E hW (by decide) (fun _ => rfl) (by decide) (by decide) dX8_bars_71 rfl (fun H locs hW => ?_)
        refine q_iconst (n := 73) E.1 dX8_bars_72 rfl ?_
        refine q_istore_n (n := 74) [(3, .int (jI 0)), (2, .int (jI 0)), (0, .ref (xA X 62)), (1, .int (jI x1))] E.1 hl dX8_bars_73 rfl (by decide) rfl rfl (fun ls hl => ?_)
        obtain ⟨n11, h⟩ := h
        exact v_X8_bars_74 E Q n11 _ _ _ _ _ _ _ h hW (lv_sub hl [2, 3, 1, 0] rfl)
      · have h := h9 c10
        refine q_iconst (n := 60) E.1 dX8_bars_59 rfl ?_
        refine q_goto (n := 64) E.1 dX8_bars_60 (by decide) ?_
        refine q_istore_n (n := 65) [(2, .int (jI 1)), (0, .ref (xA X 62)), (1, .int (jI x1))] E.1 hl dX8_bars_64 rfl (by decide) rfl rfl (fun ls hl => ?_)
        refine q_aload_n (n := 66) (q := 1) E.1 hl rfl dX8_bars_65 rfl rfl ?_
        refine q_get (n := 69) (k := 19) (fs := (fs62 X)) (v := .ref (xA X 73)) E hW (by decide) (fun _ => rfl) K8 (by decide) w734 rfl rfl dX8_bars_66 rfl ?_
        refine q_iconst (n := 70) E.1 dX8_bars_69 rfl ?_
        refine q_iconst (n := 71) E.1 dX8_bars_70 rfl ?_
        refine q_iast (n := 72) E hW (by decide) (fun _ => rfl) (by decide) (by decide) dX8_bars_71 rfl (fun H locs hW => ?_)
        refine q_iconst (n := 73) E.1 dX8_bars_72 rfl ?_
        refine q_istore_n (n := 74) [(3, .int (jI 0)), (2, .int (jI 1)), (0, .ref (xA X 62)), (1, .int (jI x1))] E.1 hl dX8_bars_73 rfl (by decide) rfl rfl (fun ls hl => ?_)
        obtain ⟨n12, h⟩ := h
        exact v_X8_bars_74 E Q n12 _ _ _ _ _ _ _ h hW (lv_sub hl [2, 3, 1, 0] rfl)
    · have h := h4 c5
      refine q_aload_n (n := 30) (q := 0) E.1 hl rfl dX8_bars_29 rfl rfl ?_
      refine q_get (n := 33) (k := 1) (fs := (fs62 X)) (v := .ref (xA X 64)) E hW (by decide) (fun _ => rfl) K8 (by decide) w716 rfl rfl dX8_bars_30 rfl ?_
      refine q_iload_n (n := 34) (q := 2) E.1 hl rfl dX8_bars_33 rfl rfl ?_
      obtain ⟨g13, h⟩ := h
      refine q_iald (n := 35) E hW (by decide) (fun _ => rfl) (by decide) g13 dX8_bars_34 rfl ?_
      refine q_bipush (n := 37) E.1 dX8_bars_35 (by decide) rfl ?_
      refine q_bipush (n := 39) E.1 dX8_bars_37 (by decide) rfl ?_
      refine q_callSi (n := 42) [.int (jI (M 64 x2.toNat)), .int (jI 48), .int (jI 57)] E hW hl.1 (c_X8_isIn l X E.2.2.1.1 (M 64 x2.toNat) 48 57  _ _ h) (by decide) Y_RX8_103 rfl (rest := []) rfl (Nat.le_of_ble_eq_true rfl) dX8_bars_39 rfl (fun r15 M14 H locs h hW => ?_)
      obtain ⟨g16, h17, h18⟩ := h
      refine q_if_ne (t := 47) (n := 45) E.1 g16 dX8_bars_42 (by decide) rfl (fun c19 => ?_) (fun c19 => ?_)
      · have h := h17 c19
        refine q_iinc (n := 50) (q := 2) [(2, .int (jI (x2 + 1))), (0, .ref (xA X 62)), (1, .int (jI x1))] E.1 hl rfl dX8_bars_47 (by decide) rfl rfl (fun ls hl => ?_)
        refine q_goto (n := 24) E.1 dX8_bars_50 (by decide) ?_
        exact ih _ _ _ _ _ _ h hW (lv_sub hl [1, 2, 0] rfl)
      · have h := h18 c19
        refine q_iconst (n := 46) E.1 dX8_bars_45 rfl ?_
        exact q_iret E hW h dX8_bars_46
def wp_X8_bars (M : Mem) (Q : Int → Mem → Prop) : Prop := wp_X8_isIn (M 62 3) 1 11 (up M 62 3 0) (fun r2 M1 => (Rg r2 ∧ (r2 ≠ 0 → (∃ n : Nat, wp_X8_bars_24 Q n (M 62 3) 0 M1)) ∧ (¬ (r2 ≠ 0) → Q (-1) M1)))
set_option maxHeartbeats 4000000 in
set_option maxRecDepth 100000 in
theorem c_X8_bars (l : Launch) (X : Cx) (hI : Inj X) (M : Mem) (Q : Int → Mem → Prop) (h : wp_X8_bars M Q) : MI X l yX8_bars cX8_bars 5 (some .int) 1 [.ref (xA X 62)] M Q := by
  refine MI.of hI (by decide) (Nat.le_of_ble_eq_true rfl) ?_
  intro p e R s m args below meth c ls E hW hl
  have E : En X (AW X) 1 p R s m args meth c cX8_bars RX8 5 (some .int) 0 0 := E
  have hl : lv_has ls 5 [(0, .ref (xA X 62))] := hl
  unfold wp_X8_bars at h
  refine q_aload_n (n := 1) (q := 0) E.1 hl rfl dX8_bars_0 rfl rfl ?_
  refine q_get (n := 4) (k := 3) (fs := (fs62 X)) (v := .int (jI (M 62 3))) E hW (by decide) (fun _ => rfl) K8 (by decide) w718 rfl rfl dX8_bars_1 rfl ?_
  refine q_istore_n (n := 5) [(1, .int (jI (M 62 3))), (0, .ref (xA X 62))] E.1 hl dX8_bars_4 rfl (by decide) rfl rfl (fun ls hl => ?_)
  refine q_aload_n (n := 6) (q := 1) E.1 hl rfl dX8_bars_5 rfl rfl ?_
  refine q_iconst (n := 7) E.1 dX8_bars_6 rfl ?_
  refine q_put (n := 10) (k := 3) (fs := (fs62 X)) E hW (by decide) (fun _ => rfl) K8 (by decide) w718 rfl rfl ⟨rfl, rfl⟩ (Nat.le_of_ble_eq_true rfl) (fun _ => rfl) dX8_bars_7 rfl (fun H locs hW => ?_)
  refine q_iload_n (n := 11) (q := 0) E.1 hl rfl dX8_bars_10 rfl rfl ?_
  refine q_iconst (n := 12) E.1 dX8_bars_11 rfl ?_
  refine q_bipush (n := 14) E.1 dX8_bars_12 (by decide) rfl ?_
  refine q_callSi (n := 17) [.int (jI (M 62 3)), .int (jI 1), .int (jI 11)] E hW hl.1 (c_X8_isIn l X E.2.2.1.1 (M 62 3) 1 11  _ _ h) (by decide) Y_RX8_103 rfl (rest := []) rfl (Nat.le_of_ble_eq_true rfl) dX8_bars_14 rfl (fun r2 M1 H locs h hW => ?_)
  obtain ⟨g3, h4, h5⟩ := h
  refine q_if_ne (t := 22) (n := 20) E.1 g3 dX8_bars_17 (by decide) rfl (fun c6 => ?_) (fun c6 => ?_)
  · have h := h4 c6
    refine q_iconst (n := 23) E.1 dX8_bars_22 rfl ?_
    refine q_istore_n (n := 24) [(2, .int (jI 0)), (1, .int (jI (M 62 3))), (0, .ref (xA X 62))] E.1 hl dX8_bars_23 rfl (by decide) rfl rfl (fun ls hl => ?_)
    obtain ⟨n7, h⟩ := h
    exact v_X8_bars_24 E Q n7 _ _ _ _ _ _ h hW (lv_sub hl [2, 1, 0] rfl)
  · have h := h5 c6
    refine q_iconst (n := 21) E.1 dX8_bars_20 rfl ?_
    exact q_iret E hW h dX8_bars_21
/-! StickerPressModel.isWide(IZI)Z -/
theorem dX8_isWide_0 : decode cX8_isWide 0 = .ok (.iconst 2, 1) := by decide +kernel
theorem dX8_isWide_1 : decode cX8_isWide 1 = .ok (.aload_n 0, 1) := by decide +kernel
theorem dX8_isWide_2 : decode cX8_isWide 2 = .ok (.getfield 50, 3) := by decide +kernel
theorem dX8_isWide_5 : decode cX8_isWide 5 = .ok (.iload_n 2, 1) := by decide +kernel
theorem dX8_isWide_6 : decode cX8_isWide 6 = .ok (.ifCond .eq 14, 3) := by decide +kernel
theorem dX8_isWide_9 : decode cX8_isWide 9 = .ok (.aload_n 0, 1) := by decide +kernel
theorem dX8_isWide_10 : decode cX8_isWide 10 = .ok (.getfield 169, 3) := by decide +kernel
theorem dX8_isWide_13 : decode cX8_isWide 13 = .ok (.iconst 1, 1) := by decide +kernel
theorem dX8_isWide_14 : decode cX8_isWide 14 = .ok (.isub, 1) := by decide +kernel
theorem dX8_isWide_15 : decode cX8_isWide 15 = .ok (.iload_n 1, 1) := by decide +kernel
theorem dX8_isWide_16 : decode cX8_isWide 16 = .ok (.isub, 1) := by decide +kernel
theorem dX8_isWide_17 : decode cX8_isWide 17 = .ok (.goto 4, 3) := by decide +kernel
theorem dX8_isWide_20 : decode cX8_isWide 20 = .ok (.iload_n 1, 1) := by decide +kernel
theorem dX8_isWide_21 : decode cX8_isWide 21 = .ok (.iaload, 1) := by decide +kernel
theorem dX8_isWide_22 : decode cX8_isWide 22 = .ok (.imul, 1) := by decide +kernel
theorem dX8_isWide_23 : decode cX8_isWide 23 = .ok (.iload_n 3, 1) := by decide +kernel
theorem dX8_isWide_24 : decode cX8_isWide 24 = .ok (.if_icmp .le 7, 3) := by decide +kernel
theorem dX8_isWide_27 : decode cX8_isWide 27 = .ok (.iconst 1, 1) := by decide +kernel
theorem dX8_isWide_28 : decode cX8_isWide 28 = .ok (.goto 4, 3) := by decide +kernel
theorem dX8_isWide_31 : decode cX8_isWide 31 = .ok (.iconst 0, 1) := by decide +kernel
theorem dX8_isWide_32 : decode cX8_isWide 32 = .ok (.ireturn, 1) := by decide +kernel
def wp_X8_isWide (a1 : Int) (a2 : Int) (a3 : Int) (M : Mem) (Q : Int → Mem → Prop) : Prop := (Rg a2 ∧ (a2 = 0 → (0 ≤ a1 ∧ a1 < 130) ∧ (Rg (2 * (M 74 a1.toNat)) ∧ Rg a3 ∧ ((2 * (M 74 a1.toNat)) ≤ a3 → Q 0 M) ∧ (¬ ((2 * (M 74 a1.toNat)) ≤ a3) → Q 1 M))) ∧ (¬ (a2 = 0) → (0 ≤ (((M 62 22) - 1) - a1) ∧ (((M 62 22) - 1) - a1) < 130) ∧ (Rg (2 * (M 74 (((M 62 22) - 1) - a1).toNat)) ∧ Rg a3 ∧ ((2 * (M 74 (((M 62 22) - 1) - a1).toNat)) ≤ a3 → Q 0 M) ∧ (¬ ((2 * (M 74 (((M 62 22) - 1) - a1).toNat)) ≤ a3) → Q 1 M))))
set_option maxHeartbeats 4000000 in
set_option maxRecDepth 100000 in
theorem c_X8_isWide (l : Launch) (X : Cx) (hI : Inj X) (a1 : Int) (a2 : Int) (a3 : Int) (M : Mem) (Q : Int → Mem → Prop) (h : wp_X8_isWide a1 a2 a3 M Q) : MI X l yX8_isWide cX8_isWide 4 (some .boolean) 0 [.ref (xA X 62), .int (jI a1), .int (jI a2), .int (jI a3)] M Q := by
  refine MI.of hI (by decide) (Nat.le_of_ble_eq_true rfl) ?_
  intro p e R s m args below meth c ls E hW hl
  have E : En X (AW X) 0 p R s m args meth c cX8_isWide RX8 4 (some .boolean) 0 0 := E
  have hl : lv_has ls 4 [(0, .ref (xA X 62)), (1, .int (jI a1)), (2, .int (jI a2)), (3, .int (jI a3))] := hl
  unfold wp_X8_isWide at h
  refine q_iconst (n := 1) E.1 dX8_isWide_0 rfl ?_
  refine q_aload_n (n := 2) (q := 0) E.1 hl rfl dX8_isWide_1 rfl rfl ?_
  refine q_get (n := 5) (k := 20) (fs := (fs62 X)) (v := .ref (xA X 74)) E hW (by decide) (fun _ => rfl) K8 (by decide) w735 rfl rfl dX8_isWide_2 rfl ?_
  refine q_iload_n (n := 6) (q := 2) E.1 hl rfl dX8_isWide_5 rfl rfl ?_
  obtain ⟨g1, h2, h3⟩ := h
  refine q_if_eq (t := 20) (n := 9) E.1 g1 dX8_isWide_6 (by decide) rfl (fun c4 => ?_) (fun c4 => ?_)
  · have h := h2 c4
    refine q_iload_n (n := 21) (q := 1) E.1 hl rfl dX8_isWide_20 rfl rfl ?_
    obtain ⟨g5, h⟩ := h
    refine q_iald (n := 22) E hW (by decide) (fun _ => rfl) (by decide) g5 dX8_isWide_21 rfl ?_
    refine q_imul (n := 23) E.1 dX8_isWide_22 rfl ?_
    refine q_iload_n (n := 24) (q := 3) E.1 hl rfl dX8_isWide_23 rfl rfl ?_
    obtain ⟨g6, g7, h8, h9⟩ := h
    refine q_icmp_le (t := 31) (n := 27) E.1 g6 g7 dX8_isWide_24 (by decide) rfl (fun c10 => ?_) (fun c10 => ?_)
    · have h := h8 c10
      refine q_iconst (n := 32) E.1 dX8_isWide_31 rfl ?_
      exact q_zret E hW (Or.inl rfl) h dX8_isWide_32
    · have h := h9 c10
      refine q_iconst (n := 28) E.1 dX8_isWide_27 rfl ?_
      refine q_goto (n := 32) E.1 dX8_isWide_28 (by decide) ?_
      exact q_zret E hW (Or.inr rfl) h dX8_isWide_32
  · have h := h3 c4
    refine q_aload_n (n := 10) (q := 0) E.1 hl rfl dX8_isWide_9 rfl rfl ?_
    refine q_get (n := 13) (k := 22) (fs := (fs62 X)) (v := .int (jI (M 62 22))) E hW (by decide) (fun _ => rfl) K8 (by decide) w737 rfl rfl dX8_isWide_10 rfl ?_
    refine q_iconst (n := 14) E.1 dX8_isWide_13 rfl ?_
    refine q_isub (n := 15) E.1 dX8_isWide_14 rfl ?_
    refine q_iload_n (n := 16) (q := 1) E.1 hl rfl dX8_isWide_15 rfl rfl ?_
    refine q_isub (n := 17) E.1 dX8_isWide_16 rfl ?_
    refine q_goto (n := 21) E.1 dX8_isWide_17 (by decide) ?_
    obtain ⟨g11, h⟩ := h
    refine q_iald (n := 22) E hW (by decide) (fun _ => rfl) (by decide) g11 dX8_isWide_21 rfl ?_
    refine q_imul (n := 23) E.1 dX8_isWide_22 rfl ?_
    refine q_iload_n (n := 24) (q := 3) E.1 hl rfl dX8_isWide_23 rfl rfl ?_
    obtain ⟨g12, g13, h14, h15⟩ := h
    refine q_icmp_le (t := 31) (n := 27) E.1 g12 g13 dX8_isWide_24 (by decide) rfl (fun c16 => ?_) (fun c16 => ?_)
    · have h := h14 c16
      refine q_iconst (n := 32) E.1 dX8_isWide_31 rfl ?_
      exact q_zret E hW (Or.inl rfl) h dX8_isWide_32
    · have h := h15 c16
      refine q_iconst (n := 28) E.1 dX8_isWide_27 rfl ?_
      refine q_goto (n := 32) E.1 dX8_isWide_28 (by decide) ?_
      exact q_zret E hW (Or.inr rfl) h dX8_isWide_32
/-! StickerPressModel.bad(II)Z -/
theorem dX8_bad_0 : decode cX8_bad 0 = .ok (.aload_n 0, 1) := by decide +kernel
theorem dX8_bad_1 : decode cX8_bad 1 = .ok (.iload_n 1, 1) := by decide +kernel
theorem dX8_bad_2 : decode cX8_bad 2 = .ok (.putfield 172, 3) := by decide +kernel
theorem dX8_bad_5 : decode cX8_bad 5 = .ok (.aload_n 0, 1) := by decide +kernel
theorem dX8_bad_6 : decode cX8_bad 6 = .ok (.iload_n 2, 1) := by decide +kernel
theorem dX8_bad_7 : decode cX8_bad 7 = .ok (.putfield 175, 3) := by decide +kernel
theorem dX8_bad_10 : decode cX8_bad 10 = .ok (.iconst 0, 1) := by decide +kernel
theorem dX8_bad_11 : decode cX8_bad 11 = .ok (.ireturn, 1) := by decide +kernel
def wp_X8_bad (a1 : Int) (a2 : Int) (M : Mem) (Q : Int → Mem → Prop) : Prop := Q 0 (up (up M 62 26 a1) 62 27 a2)
set_option maxHeartbeats 4000000 in
set_option maxRecDepth 100000 in
theorem c_X8_bad (l : Launch) (X : Cx) (hI : Inj X) (a1 : Int) (a2 : Int) (M : Mem) (Q : Int → Mem → Prop) (h : wp_X8_bad a1 a2 M Q) : MI X l yX8_bad cX8_bad 3 (some .boolean) 0 [.ref (xA X 62), .int (jI a1), .int (jI a2)] M Q := by
  refine MI.of hI (by decide) (Nat.le_of_ble_eq_true rfl) ?_
  intro p e R s m args below meth c ls E hW hl
  have E : En X (AW X) 0 p R s m args meth c cX8_bad RX8 3 (some .boolean) 0 0 := E
  have hl : lv_has ls 3 [(0, .ref (xA X 62)), (1, .int (jI a1)), (2, .int (jI a2))] := hl
  unfold wp_X8_bad at h
  refine q_aload_n (n := 1) (q := 0) E.1 hl rfl dX8_bad_0 rfl rfl ?_
  refine q_iload_n (n := 2) (q := 1) E.1 hl rfl dX8_bad_1 rfl rfl ?_
  refine q_put (n := 5) (k := 26) (fs := (fs62 X)) E hW (by decide) (fun _ => rfl) K8 (by decide) w741 rfl rfl ⟨rfl, rfl⟩ (Nat.le_of_ble_eq_true rfl) (fun _ => rfl) dX8_bad_2 rfl (fun H locs hW => ?_)
  refine q_aload_n (n := 6) (q := 0) E.1 hl rfl dX8_bad_5 rfl rfl ?_
  refine q_iload_n (n := 7) (q := 2) E.1 hl rfl dX8_bad_6 rfl rfl ?_
  refine q_put (n := 10) (k := 27) (fs := (fs62 X)) E hW (by decide) (fun _ => rfl) K8 (by decide) w742 rfl rfl ⟨rfl, rfl⟩ (Nat.le_of_ble_eq_true rfl) (fun _ => rfl) dX8_bad_7 rfl (fun H locs hW => ?_)
  refine q_iconst (n := 11) E.1 dX8_bad_10 rfl ?_
  exact q_zret E hW (Or.inl rfl) h dX8_bad_11
/-! StickerPressModel.reads(Z)Z -/
theorem dX8_reads_0 : decode cX8_reads 0 = .ok (.aload_n 0, 1) := by decide +kernel
theorem dX8_reads_1 : decode cX8_reads 1 = .ok (.getfield 169, 3) := by decide +kernel
theorem dX8_reads_4 : decode cX8_reads 4 = .ok (.bipush 7, 2) := by decide +kernel
theorem dX8_reads_6 : decode cX8_reads 6 = .ok (.isub, 1) := by decide +kernel
theorem dX8_reads_7 : decode cX8_reads 7 = .ok (.bipush 10, 2) := by decide +kernel
theorem dX8_reads_9 : decode cX8_reads 9 = .ok (.idiv, 1) := by decide +kernel
theorem dX8_reads_10 : decode cX8_reads 10 = .ok (.istore_n 2, 1) := by decide +kernel
theorem dX8_reads_11 : decode cX8_reads 11 = .ok (.aload_n 0, 1) := by decide +kernel
theorem dX8_reads_12 : decode cX8_reads 12 = .ok (.getfield 50, 3) := by decide +kernel
theorem dX8_reads_15 : decode cX8_reads 15 = .ok (.iconst 0, 1) := by decide +kernel
theorem dX8_reads_16 : decode cX8_reads 16 = .ok (.iaload, 1) := by decide +kernel
theorem dX8_reads_17 : decode cX8_reads 17 = .ok (.istore_n 3, 1) := by decide +kernel
theorem dX8_reads_18 : decode cX8_reads 18 = .ok (.aload_n 0, 1) := by decide +kernel
theorem dX8_reads_19 : decode cX8_reads 19 = .ok (.getfield 50, 3) := by decide +kernel
theorem dX8_reads_22 : decode cX8_reads 22 = .ok (.iconst 0, 1) := by decide +kernel
theorem dX8_reads_23 : decode cX8_reads 23 = .ok (.iaload, 1) := by decide +kernel
theorem dX8_reads_24 : decode cX8_reads 24 = .ok (.istore 4, 2) := by decide +kernel
theorem dX8_reads_26 : decode cX8_reads 26 = .ok (.iconst 0, 1) := by decide +kernel
theorem dX8_reads_27 : decode cX8_reads 27 = .ok (.istore 5, 2) := by decide +kernel
theorem dX8_reads_29 : decode cX8_reads 29 = .ok (.iload 5, 2) := by decide +kernel
theorem dX8_reads_31 : decode cX8_reads 31 = .ok (.aload_n 0, 1) := by decide +kernel
theorem dX8_reads_32 : decode cX8_reads 32 = .ok (.getfield 169, 3) := by decide +kernel
theorem dX8_reads_35 : decode cX8_reads 35 = .ok (.if_icmp .ge 58, 3) := by decide +kernel
theorem dX8_reads_38 : decode cX8_reads 38 = .ok (.aload_n 0, 1) := by decide +kernel
theorem dX8_reads_39 : decode cX8_reads 39 = .ok (.getfield 50, 3) := by decide +kernel
theorem dX8_reads_42 : decode cX8_reads 42 = .ok (.iload 5, 2) := by decide +kernel
theorem dX8_reads_44 : decode cX8_reads 44 = .ok (.iaload, 1) := by decide +kernel
theorem dX8_reads_45 : decode cX8_reads 45 = .ok (.iload_n 3, 1) := by decide +kernel
theorem dX8_reads_46 : decode cX8_reads 46 = .ok (.if_icmp .ge 13, 3) := by decide +kernel
theorem dX8_reads_49 : decode cX8_reads 49 = .ok (.aload_n 0, 1) := by decide +kernel
theorem dX8_reads_50 : decode cX8_reads 50 = .ok (.getfield 50, 3) := by decide +kernel
theorem dX8_reads_53 : decode cX8_reads 53 = .ok (.iload 5, 2) := by decide +kernel
theorem dX8_reads_55 : decode cX8_reads 55 = .ok (.iaload, 1) := by decide +kernel
theorem dX8_reads_56 : decode cX8_reads 56 = .ok (.goto 4, 3) := by decide +kernel
theorem dX8_reads_59 : decode cX8_reads 59 = .ok (.iload_n 3, 1) := by decide +kernel
theorem dX8_reads_60 : decode cX8_reads 60 = .ok (.istore_n 3, 1) := by decide +kernel
theorem dX8_reads_61 : decode cX8_reads 61 = .ok (.aload_n 0, 1) := by decide +kernel
theorem dX8_reads_62 : decode cX8_reads 62 = .ok (.getfield 50, 3) := by decide +kernel
theorem dX8_reads_65 : decode cX8_reads 65 = .ok (.iload 5, 2) := by decide +kernel
theorem dX8_reads_67 : decode cX8_reads 67 = .ok (.iaload, 1) := by decide +kernel
theorem dX8_reads_68 : decode cX8_reads 68 = .ok (.iload 4, 2) := by decide +kernel
theorem dX8_reads_70 : decode cX8_reads 70 = .ok (.if_icmp .le 13, 3) := by decide +kernel
theorem dX8_reads_73 : decode cX8_reads 73 = .ok (.aload_n 0, 1) := by decide +kernel
theorem dX8_reads_74 : decode cX8_reads 74 = .ok (.getfield 50, 3) := by decide +kernel
theorem dX8_reads_77 : decode cX8_reads 77 = .ok (.iload 5, 2) := by decide +kernel
theorem dX8_reads_79 : decode cX8_reads 79 = .ok (.iaload, 1) := by decide +kernel
theorem dX8_reads_80 : decode cX8_reads 80 = .ok (.goto 5, 3) := by decide +kernel
theorem dX8_reads_83 : decode cX8_reads 83 = .ok (.iload 4, 2) := by decide +kernel
theorem dX8_reads_85 : decode cX8_reads 85 = .ok (.istore 4, 2) := by decide +kernel
theorem dX8_reads_87 : decode cX8_reads 87 = .ok (.iinc 5 1, 3) := by decide +kernel
theorem dX8_reads_90 : decode cX8_reads 90 = .ok (.goto (-61), 3) := by decide +kernel
theorem dX8_reads_93 : decode cX8_reads 93 = .ok (.iload_n 3, 1) := by decide +kernel
theorem dX8_reads_94 : decode cX8_reads 94 = .ok (.iload 4, 2) := by decide +kernel
theorem dX8_reads_96 : decode cX8_reads 96 = .ok (.iadd, 1) := by decide +kernel
theorem dX8_reads_97 : decode cX8_reads 97 = .ok (.istore 5, 2) := by decide +kernel
theorem dX8_reads_99 : decode cX8_reads 99 = .ok (.iconst 1, 1) := by decide +kernel
theorem dX8_reads_100 : decode cX8_reads 100 = .ok (.istore 6, 2) := by decide +kernel
theorem dX8_reads_102 : decode cX8_reads 102 = .ok (.iconst 0, 1) := by decide +kernel
theorem dX8_reads_103 : decode cX8_reads 103 = .ok (.istore 7, 2) := by decide +kernel
theorem dX8_reads_105 : decode cX8_reads 105 = .ok (.iload 7, 2) := by decide +kernel
theorem dX8_reads_107 : decode cX8_reads 107 = .ok (.iconst 4, 1) := by decide +kernel
theorem dX8_reads_108 : decode cX8_reads 108 = .ok (.if_icmp .ge 33, 3) := by decide +kernel
theorem dX8_reads_111 : decode cX8_reads 111 = .ok (.iload 6, 2) := by decide +kernel
theorem dX8_reads_113 : decode cX8_reads 113 = .ok (.ifCond .eq 19, 3) := by decide +kernel
theorem dX8_reads_116 : decode cX8_reads 116 = .ok (.aload_n 0, 1) := by decide +kernel
theorem dX8_reads_117 : decode cX8_reads 117 = .ok (.iload 7, 2) := by decide +kernel
theorem dX8_reads_119 : decode cX8_reads 119 = .ok (.iload_n 1, 1) := by decide +kernel
theorem dX8_reads_120 : decode cX8_reads 120 = .ok (.iload 5, 2) := by decide +kernel
theorem dX8_reads_122 : decode cX8_reads 122 = .ok (.invokevirtual 178, 3) := by decide +kernel
theorem dX8_reads_125 : decode cX8_reads 125 = .ok (.ifCond .ne 7, 3) := by decide +kernel
theorem dX8_reads_128 : decode cX8_reads 128 = .ok (.iconst 1, 1) := by decide +kernel
theorem dX8_reads_129 : decode cX8_reads 129 = .ok (.goto 4, 3) := by decide +kernel
theorem dX8_reads_132 : decode cX8_reads 132 = .ok (.iconst 0, 1) := by decide +kernel
theorem dX8_reads_133 : decode cX8_reads 133 = .ok (.istore 6, 2) := by decide +kernel
theorem dX8_reads_135 : decode cX8_reads 135 = .ok (.iinc 7 1, 3) := by decide +kernel
theorem dX8_reads_138 : decode cX8_reads 138 = .ok (.goto (-33), 3) := by decide +kernel
theorem dX8_reads_141 : decode cX8_reads 141 = .ok (.iload 6, 2) := by decide +kernel
theorem dX8_reads_143 : decode cX8_reads 143 = .ok (.ifCond .eq 55, 3) := by decide +kernel
theorem dX8_reads_146 : decode cX8_reads 146 = .ok (.aload_n 0, 1) := by decide +kernel
theorem dX8_reads_147 : decode cX8_reads 147 = .ok (.aload_n 0, 1) := by decide +kernel
theorem dX8_reads_148 : decode cX8_reads 148 = .ok (.getfield 169, 3) := by decide +kernel
theorem dX8_reads_151 : decode cX8_reads 151 = .ok (.iconst 3, 1) := by decide +kernel
theorem dX8_reads_152 : decode cX8_reads 152 = .ok (.isub, 1) := by decide +kernel
theorem dX8_reads_153 : decode cX8_reads 153 = .ok (.iload_n 1, 1) := by decide +kernel
theorem dX8_reads_154 : decode cX8_reads 154 = .ok (.iload 5, 2) := by decide +kernel
theorem dX8_reads_156 : decode cX8_reads 156 = .ok (.invokevirtual 178, 3) := by decide +kernel
theorem dX8_reads_159 : decode cX8_reads 159 = .ok (.ifCond .eq 39, 3) := by decide +kernel
theorem dX8_reads_162 : decode cX8_reads 162 = .ok (.aload_n 0, 1) := by decide +kernel
theorem dX8_reads_163 : decode cX8_reads 163 = .ok (.aload_n 0, 1) := by decide +kernel
theorem dX8_reads_164 : decode cX8_reads 164 = .ok (.getfield 169, 3) := by decide +kernel
theorem dX8_reads_167 : decode cX8_reads 167 = .ok (.iconst 2, 1) := by decide +kernel
theorem dX8_reads_168 : decode cX8_reads 168 = .ok (.isub, 1) := by decide +kernel
theorem dX8_reads_169 : decode cX8_reads 169 = .ok (.iload_n 1, 1) := by decide +kernel
theorem dX8_reads_170 : decode cX8_reads 170 = .ok (.iload 5, 2) := by decide +kernel
theorem dX8_reads_172 : decode cX8_reads 172 = .ok (.invokevirtual 178, 3) := by decide +kernel
theorem dX8_reads_175 : decode cX8_reads 175 = .ok (.ifCond .ne 23, 3) := by decide +kernel
theorem dX8_reads_178 : decode cX8_reads 178 = .ok (.aload_n 0, 1) := by decide +kernel
theorem dX8_reads_179 : decode cX8_reads 179 = .ok (.aload_n 0, 1) := by decide +kernel
theorem dX8_reads_180 : decode cX8_reads 180 = .ok (.getfield 169, 3) := by decide +kernel
theorem dX8_reads_183 : decode cX8_reads 183 = .ok (.iconst 1, 1) := by decide +kernel
theorem dX8_reads_184 : decode cX8_reads 184 = .ok (.isub, 1) := by decide +kernel
theorem dX8_reads_185 : decode cX8_reads 185 = .ok (.iload_n 1, 1) := by decide +kernel
theorem dX8_reads_186 : decode cX8_reads 186 = .ok (.iload 5, 2) := by decide +kernel
theorem dX8_reads_188 : decode cX8_reads 188 = .ok (.invokevirtual 178, 3) := by decide +kernel
theorem dX8_reads_191 : decode cX8_reads 191 = .ok (.ifCond .ne 7, 3) := by decide +kernel
theorem dX8_reads_194 : decode cX8_reads 194 = .ok (.iconst 1, 1) := by decide +kernel
theorem dX8_reads_195 : decode cX8_reads 195 = .ok (.goto 4, 3) := by decide +kernel
theorem dX8_reads_198 : decode cX8_reads 198 = .ok (.iconst 0, 1) := by decide +kernel
theorem dX8_reads_199 : decode cX8_reads 199 = .ok (.istore 6, 2) := by decide +kernel
theorem dX8_reads_201 : decode cX8_reads 201 = .ok (.iload 6, 2) := by decide +kernel
theorem dX8_reads_203 : decode cX8_reads 203 = .ok (.ifCond .ne 10, 3) := by decide +kernel
theorem dX8_reads_206 : decode cX8_reads 206 = .ok (.aload_n 0, 1) := by decide +kernel
theorem dX8_reads_207 : decode cX8_reads 207 = .ok (.iconst 2, 1) := by decide +kernel
theorem dX8_reads_208 : decode cX8_reads 208 = .ok (.iconst 0, 1) := by decide +kernel
theorem dX8_reads_209 : decode cX8_reads 209 = .ok (.invokevirtual 182, 3) := by decide +kernel
theorem dX8_reads_212 : decode cX8_reads 212 = .ok (.ireturn, 1) := by decide +kernel
theorem dX8_reads_213 : decode cX8_reads 213 = .ok (.aload_n 0, 1) := by decide +kernel
theorem dX8_reads_214 : decode cX8_reads 214 = .ok (.iconst 0, 1) := by decide +kernel
theorem dX8_reads_215 : decode cX8_reads 215 = .ok (.putfield 159, 3) := by decide +kernel
theorem dX8_reads_218 : decode cX8_reads 218 = .ok (.iconst 0, 1) := by decide +kernel
theorem dX8_reads_219 : decode cX8_reads 219 = .ok (.istore 7, 2) := by decide +kernel
theorem dX8_reads_221 : decode cX8_reads 221 = .ok (.iload 7, 2) := by decide +kernel
theorem dX8_reads_223 : decode cX8_reads 223 = .ok (.iload_n 2, 1) := by decide +kernel
theorem dX8_reads_224 : decode cX8_reads 224 = .ok (.if_icmp .ge 143, 3) := by decide +kernel
theorem dX8_reads_227 : decode cX8_reads 227 = .ok (.iconst 0, 1) := by decide +kernel
theorem dX8_reads_228 : decode cX8_reads 228 = .ok (.istore 8, 2) := by decide +kernel
theorem dX8_reads_230 : decode cX8_reads 230 = .ok (.iload 8, 2) := by decide +kernel
theorem dX8_reads_232 : decode cX8_reads 232 = .ok (.iconst 2, 1) := by decide +kernel
theorem dX8_reads_233 : decode cX8_reads 233 = .ok (.if_icmp .ge 128, 3) := by decide +kernel
theorem dX8_reads_236 : decode cX8_reads 236 = .ok (.iconst 0, 1) := by decide +kernel
theorem dX8_reads_237 : decode cX8_reads 237 = .ok (.istore 9, 2) := by decide +kernel
theorem dX8_reads_239 : decode cX8_reads 239 = .ok (.iconst 0, 1) := by decide +kernel
theorem dX8_reads_240 : decode cX8_reads 240 = .ok (.istore 10, 2) := by decide +kernel
theorem dX8_reads_242 : decode cX8_reads 242 = .ok (.iload 10, 2) := by decide +kernel
theorem dX8_reads_244 : decode cX8_reads 244 = .ok (.iconst 5, 1) := by decide +kernel
theorem dX8_reads_245 : decode cX8_reads 245 = .ok (.if_icmp .ge 46, 3) := by decide +kernel
theorem dX8_reads_248 : decode cX8_reads 248 = .ok (.iconst 2, 1) := by decide +kernel
theorem dX8_reads_249 : decode cX8_reads 249 = .ok (.iload 9, 2) := by decide +kernel
theorem dX8_reads_251 : decode cX8_reads 251 = .ok (.imul, 1) := by decide +kernel
theorem dX8_reads_252 : decode cX8_reads 252 = .ok (.aload_n 0, 1) := by decide +kernel
theorem dX8_reads_253 : decode cX8_reads 253 = .ok (.iconst 4, 1) := by decide +kernel
theorem dX8_reads_254 : decode cX8_reads 254 = .ok (.bipush 10, 2) := by decide +kernel
theorem dX8_reads_256 : decode cX8_reads 256 = .ok (.iload 7, 2) := by decide +kernel
theorem dX8_reads_258 : decode cX8_reads 258 = .ok (.imul, 1) := by decide +kernel
theorem dX8_reads_259 : decode cX8_reads 259 = .ok (.iadd, 1) := by decide +kernel
theorem dX8_reads_260 : decode cX8_reads 260 = .ok (.iconst 2, 1) := by decide +kernel
theorem dX8_reads_261 : decode cX8_reads 261 = .ok (.iload 10, 2) := by decide +kernel
theorem dX8_reads_263 : decode cX8_reads 263 = .ok (.imul, 1) := by decide +kernel
theorem dX8_reads_264 : decode cX8_reads 264 = .ok (.iadd, 1) := by decide +kernel
theorem dX8_reads_265 : decode cX8_reads 265 = .ok (.iload 8, 2) := by decide +kernel
theorem dX8_reads_267 : decode cX8_reads 267 = .ok (.iadd, 1) := by decide +kernel
theorem dX8_reads_268 : decode cX8_reads 268 = .ok (.iload_n 1, 1) := by decide +kernel
theorem dX8_reads_269 : decode cX8_reads 269 = .ok (.iload 5, 2) := by decide +kernel
theorem dX8_reads_271 : decode cX8_reads 271 = .ok (.invokevirtual 178, 3) := by decide +kernel
theorem dX8_reads_274 : decode cX8_reads 274 = .ok (.ifCond .eq 7, 3) := by decide +kernel
theorem dX8_reads_277 : decode cX8_reads 277 = .ok (.iconst 1, 1) := by decide +kernel
theorem dX8_reads_278 : decode cX8_reads 278 = .ok (.goto 4, 3) := by decide +kernel
theorem dX8_reads_281 : decode cX8_reads 281 = .ok (.iconst 0, 1) := by decide +kernel
theorem dX8_reads_282 : decode cX8_reads 282 = .ok (.iadd, 1) := by decide +kernel
theorem dX8_reads_283 : decode cX8_reads 283 = .ok (.istore 9, 2) := by decide +kernel
theorem dX8_reads_285 : decode cX8_reads 285 = .ok (.iinc 10 1, 3) := by decide +kernel
theorem dX8_reads_288 : decode cX8_reads 288 = .ok (.goto (-46), 3) := by decide +kernel
theorem dX8_reads_291 : decode cX8_reads 291 = .ok (.iconst 0, 1) := by decide +kernel
theorem dX8_reads_292 : decode cX8_reads 292 = .ok (.istore 10, 2) := by decide +kernel
theorem dX8_reads_294 : decode cX8_reads 294 = .ok (.iload 10, 2) := by decide +kernel
theorem dX8_reads_296 : decode cX8_reads 296 = .ok (.bipush 10, 2) := by decide +kernel
theorem dX8_reads_298 : decode cX8_reads 298 = .ok (.if_icmp .ge 19, 3) := by decide +kernel
theorem dX8_reads_301 : decode cX8_reads 301 = .ok (.iload 10, 2) := by decide +kernel
theorem dX8_reads_303 : decode cX8_reads 303 = .ok (.invokestatic 166, 3) := by decide +kernel
theorem dX8_reads_306 : decode cX8_reads 306 = .ok (.iload 9, 2) := by decide +kernel
theorem dX8_reads_308 : decode cX8_reads 308 = .ok (.if_icmp .eq 9, 3) := by decide +kernel
theorem dX8_reads_311 : decode cX8_reads 311 = .ok (.iinc 10 1, 3) := by decide +kernel
theorem dX8_reads_314 : decode cX8_reads 314 = .ok (.goto (-20), 3) := by decide +kernel
theorem dX8_reads_317 : decode cX8_reads 317 = .ok (.iload 10, 2) := by decide +kernel
theorem dX8_reads_319 : decode cX8_reads 319 = .ok (.bipush 10, 2) := by decide +kernel
theorem dX8_reads_321 : decode cX8_reads 321 = .ok (.if_icmp .ne 13, 3) := by decide +kernel
theorem dX8_reads_324 : decode cX8_reads 324 = .ok (.aload_n 0, 1) := by decide +kernel
theorem dX8_reads_325 : decode cX8_reads 325 = .ok (.iconst 3, 1) := by decide +kernel
theorem dX8_reads_326 : decode cX8_reads 326 = .ok (.iconst 2, 1) := by decide +kernel
theorem dX8_reads_327 : decode cX8_reads 327 = .ok (.iload 7, 2) := by decide +kernel
theorem dX8_reads_329 : decode cX8_reads 329 = .ok (.imul, 1) := by decide +kernel
theorem dX8_reads_330 : decode cX8_reads 330 = .ok (.invokevirtual 182, 3) := by decide +kernel
theorem dX8_reads_333 : decode cX8_reads 333 = .ok (.ireturn, 1) := by decide +kernel
theorem dX8_reads_334 : decode cX8_reads 334 = .ok (.aload_n 0, 1) := by decide +kernel
theorem dX8_reads_335 : decode cX8_reads 335 = .ok (.getfield 47, 3) := by decide +kernel
theorem dX8_reads_338 : decode cX8_reads 338 = .ok (.aload_n 0, 1) := by decide +kernel
theorem dX8_reads_339 : decode cX8_reads 339 = .ok (.getfield 159, 3) := by decide +kernel
theorem dX8_reads_342 : decode cX8_reads 342 = .ok (.iload 10, 2) := by decide +kernel
theorem dX8_reads_344 : decode cX8_reads 344 = .ok (.iastore, 1) := by decide +kernel
theorem dX8_reads_345 : decode cX8_reads 345 = .ok (.aload_n 0, 1) := by decide +kernel
theorem dX8_reads_346 : decode cX8_reads 346 = .ok (.dup, 1) := by decide +kernel
theorem dX8_reads_347 : decode cX8_reads 347 = .ok (.getfield 159, 3) := by decide +kernel
theorem dX8_reads_350 : decode cX8_reads 350 = .ok (.iconst 1, 1) := by decide +kernel
theorem dX8_reads_351 : decode cX8_reads 351 = .ok (.iadd, 1) := by decide +kernel
theorem dX8_reads_352 : decode cX8_reads 352 = .ok (.putfield 159, 3) := by decide +kernel
theorem dX8_reads_355 : decode cX8_reads 355 = .ok (.iinc 8 1, 3) := by decide +kernel
theorem dX8_reads_358 : decode cX8_reads 358 = .ok (.goto (-128), 3) := by decide +kernel
theorem dX8_reads_361 : decode cX8_reads 361 = .ok (.iinc 7 1, 3) := by decide +kernel
theorem dX8_reads_364 : decode cX8_reads 364 = .ok (.goto (-143), 3) := by decide +kernel
theorem dX8_reads_367 : decode cX8_reads 367 = .ok (.aload_n 0, 1) := by decide +kernel
theorem dX8_reads_368 : decode cX8_reads 368 = .ok (.aload_n 0, 1) := by decide +kernel
theorem dX8_reads_369 : decode cX8_reads 369 = .ok (.getfield 159, 3) := by decide +kernel
theorem dX8_reads_372 : decode cX8_reads 372 = .ok (.iconst 1, 1) := by decide +kernel
theorem dX8_reads_373 : decode cX8_reads 373 = .ok (.isub, 1) := by decide +kernel
theorem dX8_reads_374 : decode cX8_reads 374 = .ok (.invokevirtual 156, 3) := by decide +kernel
theorem dX8_reads_377 : decode cX8_reads 377 = .ok (.aload_n 0, 1) := by decide +kernel
theorem dX8_reads_378 : decode cX8_reads 378 = .ok (.getfield 47, 3) := by decide +kernel
theorem dX8_reads_381 : decode cX8_reads 381 = .ok (.aload_n 0, 1) := by decide +kernel
theorem dX8_reads_382 : decode cX8_reads 382 = .ok (.getfield 159, 3) := by decide +kernel
theorem dX8_reads_385 : decode cX8_reads 385 = .ok (.iconst 1, 1) := by decide +kernel
theorem dX8_reads_386 : decode cX8_reads 386 = .ok (.isub, 1) := by decide +kernel
theorem dX8_reads_387 : decode cX8_reads 387 = .ok (.iaload, 1) := by decide +kernel
theorem dX8_reads_388 : decode cX8_reads 388 = .ok (.if_icmp .eq 10, 3) := by decide +kernel
theorem dX8_reads_391 : decode cX8_reads 391 = .ok (.aload_n 0, 1) := by decide +kernel
theorem dX8_reads_392 : decode cX8_reads 392 = .ok (.iconst 4, 1) := by decide +kernel
theorem dX8_reads_393 : decode cX8_reads 393 = .ok (.iconst 0, 1) := by decide +kernel
theorem dX8_reads_394 : decode cX8_reads 394 = .ok (.invokevirtual 182, 3) := by decide +kernel
theorem dX8_reads_397 : decode cX8_reads 397 = .ok (.ireturn, 1) := by decide +kernel
theorem dX8_reads_398 : decode cX8_reads 398 = .ok (.iconst 1, 1) := by decide +kernel
theorem dX8_reads_399 : decode cX8_reads 399 = .ok (.ireturn, 1) := by decide +kernel
theorem Y_RX8_178 : YV RX8 178 RX8 yX8_isWide cX8_isWide 4 (some .boolean) 3 := ⟨w949, w946, w948, w33, w52, by decide +kernel, by decide⟩
theorem Y_RX8_182 : YV RX8 182 RX8 yX8_bad cX8_bad 3 (some .boolean) 2 := ⟨w953, w950, w952, w34, w52, by decide +kernel, by decide⟩
def wp_X8_reads_317 (a1 : Int) (k230 : Int → Int → Int → Int → Mem → Prop) (Q : Int → Mem → Prop) (x2 x5 x7 x8 x10 : Int) (M : Mem) : Prop := (Rg x10 ∧ (x10 ≠ 10 → (0 ≤ (M 62 21) ∧ (M 62 21) < 12) ∧ k230 x2 x5 x7 (x8 + 1) (up (up M 73 (M 62 21).toNat x10) 62 21 (((up M 73 (M 62 21).toNat x10) 62 21) + 1))) ∧ (¬ (x10 ≠ 10) → wp_X8_bad 3 (2 * x7) M (fun r7 M6 => ((r7 = 0 ∨ r7 = 1) ∧ Q r7 M6))))
set_option maxHeartbeats 4000000 in
set_option maxRecDepth 100000 in
theorem v_X8_reads_317 (a1 : Int) (E : En X (AW X) 1 p R s m args meth c cX8_reads RX8 11 (some .boolean) 0 0) (Q : Int → Mem → Prop) (k230 : Int → Int → Int → Int → Mem → Prop) (Hk230 : ∀ (x2 x5 x7 x8 : Int) (M : Mem) (H : Heap) (locs : List Loc) (ls : Array Slot), k230 x2 x5 x7 x8 M → Wd X (AW X) s M H locs → lv_has ls 11 [(0, .ref (xA X 62)), (1, .int (jI a1)), (2, .int (jI x2)), (5, .int (jI x5)), (7, .int (jI x7)), (8, .int (jI x8))] → W p l e R s m args below meth c H locs 0 0 (MQ below (QI X Q) args s 0 0 (AW X)) (F0 m 230 ls [])) : ∀ (x2 x5 x7 x8 x10 : Int) (M : Mem) (H : Heap) (locs : List Loc) (ls : Array Slot), wp_X8_reads_317 a1 k230 Q x2 x5 x7 x8 x10 M → Wd X (AW X) s M H locs → lv_has ls 11 [(0, .ref (xA X 62)), (1, .int (jI a1)), (2, .int (jI x2)), (5, .int (jI x5)), (7, .int (jI x7)), (8, .int (jI x8)), (10, .int (jI x10))] → W p l e R s m args below meth c H locs 0 0 (MQ below (QI X Q) args s 0 0 (AW X)) (F0 m 317 ls []) := by
  intro x2 x5 x7 x8 x10 M H locs ls h hW hl
  unfold wp_X8_reads_317 at h
  refine q_iload (n := 319) (q := 6) E.1 hl rfl dX8_reads_317 rfl ?_
  refine q_bipush (n := 321) E.1 dX8_reads_319 (by decide) rfl ?_
  obtain ⟨g1, h2, h3⟩ := h
  refine q_icmp_ne (t := 334) (n := 324) E.1 g1 (by decide) dX8_reads_321 (by decide) rfl (fun c4 => ?_) (fun c4 => ?_)
  · have h := h2 c4
    refine q_aload_n (n := 335) (q := 0) E.1 hl rfl dX8_reads_334 rfl rfl ?_
    refine q_get (n := 338) (k := 19) (fs := (fs62 X)) (v := .ref (xA X 73)) E hW (by decide) (fun _ => rfl) K8 (by decide) w734 rfl rfl dX8_reads_335 rfl ?_
    refine q_aload_n (n := 339) (q := 0) E.1 hl rfl dX8_reads_338 rfl rfl ?_
    refine q_get (n := 342) (k := 21) (fs := (fs62 X)) (v := .int (jI (M 62 21))) E hW (by decide) (fun _ => rfl) K8 (by decide) w736 rfl rfl dX8_reads_339 rfl ?_
    refine q_iload (n := 344) (q := 6) E.1 hl rfl dX8_reads_342 rfl ?_
    obtain ⟨g5, h⟩ := h
    refine q_iast (n := 345) E hW (by decide) (fun _ => rfl) (by decide) g5 dX8_reads_344 rfl (fun H locs hW => ?_)
    refine q_aload_n (n := 346) (q := 0) E.1 hl rfl dX8_reads_345 rfl rfl ?_
    refine q_dup (n := 347) E.1 dX8_reads_346 rfl rfl ?_
    refine q_get (n := 350) (k := 21) (fs := (fs62 X)) (v := .int (jI ((up M 73 (M 62 21).toNat x10) 62 21))) E hW (by decide) (fun _ => rfl) K8 (by decide) w736 rfl rfl dX8_reads_347 rfl ?_
    refine q_iconst (n := 351) E.1 dX8_reads_350 rfl ?_
    refine q_iadd (n := 352) E.1 dX8_reads_351 rfl ?_
    refine q_put (n := 355) (k := 21) (fs := (fs62 X)) E hW (by decide) (fun _ => rfl) K8 (by decide) w736 rfl rfl ⟨rfl, rfl⟩ (Nat.le_of_ble_eq_true rfl) (fun _ => rfl) dX8_reads_352 rfl (fun H locs hW => ?_)
    refine q_iinc (n := 358) (q := 5) [(8, .int (jI (x8 + 1))), (0, .ref (xA X 62)), (1, .int (jI a1)), (2, .int (jI x2)), (5, .int (jI x5)), (7, .int (jI x7)), (10, .int (jI x10))] E.1 hl rfl dX8_reads_355 (by decide) rfl rfl (fun ls hl => ?_)
    refine q_goto (n := 230) E.1 dX8_reads_358 (by decide) ?_
    exact Hk230 _ _ _ _ _ _ _ _ h hW (lv_sub hl [1, 2, 3, 4, 5, 0] rfl)
  · have h := h3 c4
    refine q_aload_n (n := 325) (q := 0) E.1 hl rfl dX8_reads_324 rfl rfl ?_
    refine q_iconst (n := 326) E.1 dX8_reads_325 rfl ?_
    refine q_iconst (n := 327) E.1 dX8_reads_326 rfl ?_
    refine q_iload (n := 329) (q := 4) E.1 hl rfl dX8_reads_327 rfl ?_
    refine q_imul (n := 330) E.1 dX8_reads_329 rfl ?_
    refine q_callVi (n := 333) (fs := (fs62 X)) [.int (jI 3), .int (jI (2 * x7))] E hW hl.1 (by decide) (fun _ => rfl) K8 (c_X8_bad l X E.2.2.1.1 3 (2 * x7)  _ _ h) (by decide) Y_RX8_182 rfl (rest := []) rfl (Nat.le_of_ble_eq_true rfl) dX8_reads_330 rfl (fun r7 M6 H locs h hW => ?_)
    exact q_zret E hW h.1 h.2 dX8_reads_333
def wp_X8_reads_294 (a1 : Int) (k230 : Int → Int → Int → Int → Mem → Prop) (Q : Int → Mem → Prop) : Nat → Int → Int → Int → Int → Int → Int → Mem → Prop
  | 0, _, _, _, _, _, _, _ => False
  | n + 1, x2, x5, x7, x8, x9, x10, M => (Rg x10 ∧ (10 ≤ x10 → wp_X8_reads_317 a1 k230 Q x2 x5 x7 x8 x10 M) ∧ (¬ (10 ≤ x10) → wp_X8_five x10 M (fun r6 M5 => (Rg r6 ∧ Rg x9 ∧ (r6 = x9 → wp_X8_reads_317 a1 k230 Q x2 x5 x7 x8 x10 M5) ∧ (¬ (r6 = x9) → wp_X8_reads_294 a1 k230 Q n x2 x5 x7 x8 x9 (x10 + 1) M5)))))
set_option maxHeartbeats 4000000 in
set_option maxRecDepth 100000 in
theorem v_X8_reads_294 (a1 : Int) (E : En X (AW X) 1 p R s m args meth c cX8_reads RX8 11 (some .boolean) 0 0) (Q : Int → Mem → Prop) (k230 : Int → Int → Int → Int → Mem → Prop) (Hk230 : ∀ (x2 x5 x7 x8 : Int) (M : Mem) (H : Heap) (locs : List Loc) (ls : Array Slot), k230 x2 x5 x7 x8 M → Wd X (AW X) s M H locs → lv_has ls 11 [(0, .ref (xA X 62)), (1, .int (jI a1)), (2, .int (jI x2)), (5, .int (jI x5)), (7, .int (jI x7)), (8, .int (jI x8))] → W p l e R s m args below meth c H locs 0 0 (MQ below (QI X Q) args s 0 0 (AW X)) (F0 m 230 ls [])) : ∀ n : Nat, ∀ (x2 x5 x7 x8 x9 x10 : Int) (M : Mem) (H : Heap) (locs : List Loc) (ls : Array Slot), wp_X8_reads_294 a1 k230 Q n x2 x5 x7 x8 x9 x10 M → Wd X (AW X) s M H locs → lv_has ls 11 [(0, .ref (xA X 62)), (1, .int (jI a1)), (2, .int (jI x2)), (5, .int (jI x5)), (7, .int (jI x7)), (8, .int (jI x8)), (9, .int (jI x9)), (10, .int (jI x10))] → W p l e R s m args below meth c H locs 0 0 (MQ below (QI X Q) args s 0 0 (AW X)) (F0 m 294 ls []) := by
  intro n
  induction n with
  | zero => intro x2 x5 x7 x8 x9 x10 M H locs ls h; exact absurd h (by simp [wp_X8_reads_294])
  | succ n ih =>
    intro x2 x5 x7 x8 x9 x10 M H locs ls h hW hl
    rw [wp_X8_reads_294] at h
    refine q_iload (n := 296) (q := 7) E.1 hl rfl dX8_reads_294 rfl ?_
    refine q_bipush (n := 298) E.1 dX8_reads_296 (by decide) rfl ?_
    obtain ⟨g1, h2, h3⟩ := h
    refine q_icmp_ge (t := 317) (n := 301) E.1 g1 (by decide) dX8_reads_298 (by decide) rfl (fun c4 => ?_) (fun c4 => ?_)
    · have h := h2 c4
      exact v_X8_reads_317 a1 E Q _ Hk230 _ _ _ _ _ _ _ _ _ h hW (lv_sub hl [0, 1, 2, 3, 4, 5, 7] rfl)
    · have h := h3 c4
      refine q_iload (n := 303) (q := 7) E.1 hl rfl dX8_reads_301 rfl ?_
      refine q_callSi (n := 306) [.int (jI x10)] E hW hl.1 (c_X8_five l X E.2.2.1.1 x10  _ _ h) (by decide) Y_RX8_166 rfl (rest := []) rfl (Nat.le_of_ble_eq_true rfl) dX8_reads_303 rfl (fun r6 M5 H locs h hW => ?_)
      refine q_iload (n := 308) (q := 6) E.1 hl rfl dX8_reads_306 rfl ?_
      obtain ⟨g7, g8, h9, h10⟩ := h
      refine q_icmp_eq (t := 317) (n := 311) E.1 g7 g8 dX8_reads_308 (by decide) rfl (fun c11 => ?_) (fun c11 => ?_)
      · have h := h9 c11
        exact v_X8_reads_317 a1 E Q _ Hk230 _ _ _ _ _ _ _ _ _ h hW (lv_sub hl [0, 1, 2, 3, 4, 5, 7] rfl)
      · have h := h10 c11
        refine q_iinc (n := 314) (q := 7) [(10, .int (jI (x10 + 1))), (0, .ref (xA X 62)), (1, .int (jI a1)), (2, .int (jI x2)), (5, .int (jI x5)), (7, .int (jI x7)), (8, .int (jI x8)), (9, .int (jI x9))] E.1 hl rfl dX8_reads_311 (by decide) rfl rfl (fun ls hl => ?_)
        refine q_goto (n := 294) E.1 dX8_reads_314 (by decide) ?_
        exact ih _ _ _ _ _ _ _ _ _ _ h hW (lv_sub hl [1, 2, 3, 4, 5, 6, 7, 0] rfl)
def wp_X8_reads_242 (a1 : Int) (k230 : Int → Int → Int → Int → Mem → Prop) (Q : Int → Mem → Prop) : Nat → Int → Int → Int → Int → Int → Int → Mem → Prop
  | 0, _, _, _, _, _, _, _ => False
  | n + 1, x2, x5, x7, x8, x9, x10, M => (Rg x10 ∧ (5 ≤ x10 → (∃ n2 : Nat, wp_X8_reads_294 a1 k230 Q n2 x2 x5 x7 x8 x9 0 M)) ∧ (¬ (5 ≤ x10) → wp_X8_isWide (((4 + (10 * x7)) + (2 * x10)) + x8) a1 x5 M (fun r7 M6 => (Rg r7 ∧ (r7 = 0 → wp_X8_reads_242 a1 k230 Q n x2 x5 x7 x8 ((2 * x9) + 0) (x10 + 1) M6) ∧ (¬ (r7 = 0) → wp_X8_reads_242 a1 k230 Q n x2 x5 x7 x8 ((2 * x9) + 1) (x10 + 1) M6)))))
set_option maxHeartbeats 4000000 in
set_option maxRecDepth 100000 in
theorem v_X8_reads_242 (a1 : Int) (E : En X (AW X) 1 p R s m args meth c cX8_reads RX8 11 (some .boolean) 0 0) (Q : Int → Mem → Prop) (k230 : Int → Int → Int → Int → Mem → Prop) (Hk230 : ∀ (x2 x5 x7 x8 : Int) (M : Mem) (H : Heap) (locs : List Loc) (ls : Array Slot), k230 x2 x5 x7 x8 M → Wd X (AW X) s M H locs → lv_has ls 11 [(0, .ref (xA X 62)), (1, .int (jI a1)), (2, .int (jI x2)), (5, .int (jI x5)), (7, .int (jI x7)), (8, .int (jI x8))] → W p l e R s m args below meth c H locs 0 0 (MQ below (QI X Q) args s 0 0 (AW X)) (F0 m 230 ls [])) : ∀ n : Nat, ∀ (x2 x5 x7 x8 x9 x10 : Int) (M : Mem) (H : Heap) (locs : List Loc) (ls : Array Slot), wp_X8_reads_242 a1 k230 Q n x2 x5 x7 x8 x9 x10 M → Wd X (AW X) s M H locs → lv_has ls 11 [(0, .ref (xA X 62)), (1, .int (jI a1)), (2, .int (jI x2)), (5, .int (jI x5)), (7, .int (jI x7)), (8, .int (jI x8)), (9, .int (jI x9)), (10, .int (jI x10))] → W p l e R s m args below meth c H locs 0 0 (MQ below (QI X Q) args s 0 0 (AW X)) (F0 m 242 ls []) := by
  intro n
  induction n with
  | zero => intro x2 x5 x7 x8 x9 x10 M H locs ls h; exact absurd h (by simp [wp_X8_reads_242])
  | succ n ih =>
    intro x2 x5 x7 x8 x9 x10 M H locs ls h hW hl
    rw [wp_X8_reads_242] at h
    refine q_iload (n := 244) (q := 7) E.1 hl rfl dX8_reads_242 rfl ?_
    refine q_iconst (n := 245) E.1 dX8_reads_244 rfl ?_
    obtain ⟨g1, h2, h3⟩ := h
    refine q_icmp_ge (t := 291) (n := 248) E.1 g1 (by decide) dX8_reads_245 (by decide) rfl (fun c4 => ?_) (fun c4 => ?_)
    · have h := h2 c4
      refine q_iconst (n := 292) E.1 dX8_reads_291 rfl ?_
      refine q_istore (n := 294) [(10, .int (jI 0)), (0, .ref (xA X 62)), (1, .int (jI a1)), (2, .int (jI x2)), (5, .int (jI x5)), (7, .int (jI x7)), (8, .int (jI x8)), (9, .int (jI x9))] E.1 hl dX8_reads_292 (by decide) rfl rfl (fun ls hl => ?_)
      obtain ⟨n5, h⟩ := h
      exact v_X8_reads_294 a1 E Q _ Hk230 n5 _ _ _ _ _ _ _ _ _ _ h hW (lv_sub hl [1, 2, 3, 4, 5, 6, 7, 0] rfl)
    · have h := h3 c4
      refine q_iconst (n := 249) E.1 dX8_reads_248 rfl ?_
      refine q_iload (n := 251) (q := 6) E.1 hl rfl dX8_reads_249 rfl ?_
      refine q_imul (n := 252) E.1 dX8_reads_251 rfl ?_
      refine q_aload_n (n := 253) (q := 0) E.1 hl rfl dX8_reads_252 rfl rfl ?_
      refine q_iconst (n := 254) E.1 dX8_reads_253 rfl ?_
      refine q_bipush (n := 256) E.1 dX8_reads_254 (by decide) rfl ?_
      refine q_iload (n := 258) (q := 4) E.1 hl rfl dX8_reads_256 rfl ?_
      refine q_imul (n := 259) E.1 dX8_reads_258 rfl ?_
      refine q_iadd (n := 260) E.1 dX8_reads_259 rfl ?_
      refine q_iconst (n := 261) E.1 dX8_reads_260 rfl ?_
      refine q_iload (n := 263) (q := 7) E.1 hl rfl dX8_reads_261 rfl ?_
      refine q_imul (n := 264) E.1 dX8_reads_263 rfl ?_
      refine q_iadd (n := 265) E.1 dX8_reads_264 rfl ?_
      refine q_iload (n := 267) (q := 5) E.1 hl rfl dX8_reads_265 rfl ?_
      refine q_iadd (n := 268) E.1 dX8_reads_267 rfl ?_
      refine q_iload_n (n := 269) (q := 1) E.1 hl rfl dX8_reads_268 rfl rfl ?_
      refine q_iload (n := 271) (q := 3) E.1 hl rfl dX8_reads_269 rfl ?_
      refine q_callVi (n := 274) (fs := (fs62 X)) [.int (jI (((4 + (10 * x7)) + (2 * x10)) + x8)), .int (jI a1), .int (jI x5)] E hW hl.1 (by decide) (fun _ => rfl) K8 (c_X8_isWide l X E.2.2.1.1 (((4 + (10 * x7)) + (2 * x10)) + x8) a1 x5  _ _ h) (by decide) Y_RX8_178 rfl (rest := [.int (jI (2 * x9))]) rfl (Nat.le_of_ble_eq_true rfl) dX8_reads_271 rfl (fun r7 M6 H locs h hW => ?_)
      obtain ⟨g8, h9, h10⟩ := h
      refine q_if_eq (t := 281) (n := 277) E.1 g8 dX8_reads_274 (by decide) rfl (fun c11 => ?_) (fun c11 => ?_)
      · have h := h9 c11
        refine q_iconst (n := 282) E.1 dX8_reads_281 rfl ?_
        refine q_iadd (n := 283) E.1 dX8_reads_282 rfl ?_
        refine q_istore (n := 285) [(9, .int (jI ((2 * x9) + 0))), (0, .ref (xA X 62)), (1, .int (jI a1)), (2, .int (jI x2)), (5, .int (jI x5)), (7, .int (jI x7)), (8, .int (jI x8)), (10, .int (jI x10))] E.1 hl dX8_reads_283 (by decide) rfl rfl (fun ls hl => ?_)
        refine q_iinc (n := 288) (q := 7) [(10, .int (jI (x10 + 1))), (9, .int (jI ((2 * x9) + 0))), (0, .ref (xA X 62)), (1, .int (jI a1)), (2, .int (jI x2)), (5, .int (jI x5)), (7, .int (jI x7)), (8, .int (jI x8))] E.1 hl rfl dX8_reads_285 (by decide) rfl rfl (fun ls hl => ?_)
        refine q_goto (n := 242) E.1 dX8_reads_288 (by decide) ?_
        exact ih _ _ _ _ _ _ _ _ _ _ h hW (lv_sub hl [2, 3, 4, 5, 6, 7, 1, 0] rfl)
      · have h := h10 c11
        refine q_iconst (n := 278) E.1 dX8_reads_277 rfl ?_
        refine q_goto (n := 282) E.1 dX8_reads_278 (by decide) ?_
        refine q_iadd (n := 283) E.1 dX8_reads_282 rfl ?_
        refine q_istore (n := 285) [(9, .int (jI ((2 * x9) + 1))), (0, .ref (xA X 62)), (1, .int (jI a1)), (2, .int (jI x2)), (5, .int (jI x5)), (7, .int (jI x7)), (8, .int (jI x8)), (10, .int (jI x10))] E.1 hl dX8_reads_283 (by decide) rfl rfl (fun ls hl => ?_)
        refine q_iinc (n := 288) (q := 7) [(10, .int (jI (x10 + 1))), (9, .int (jI ((2 * x9) + 1))), (0, .ref (xA X 62)), (1, .int (jI a1)), (2, .int (jI x2)), (5, .int (jI x5)), (7, .int (jI x7)), (8, .int (jI x8))] E.1 hl rfl dX8_reads_285 (by decide) rfl rfl (fun ls hl => ?_)
        refine q_goto (n := 242) E.1 dX8_reads_288 (by decide) ?_
        exact ih _ _ _ _ _ _ _ _ _ _ h hW (lv_sub hl [2, 3, 4, 5, 6, 7, 1, 0] rfl)
def wp_X8_reads_230 (a1 : Int) (k221 : Int → Int → Int → Mem → Prop) (Q : Int → Mem → Prop) : Nat → Int → Int → Int → Int → Mem → Prop
  | 0, _, _, _, _, _ => False
  | n + 1, x2, x5, x7, x8, M => (Rg x8 ∧ (2 ≤ x8 → k221 x2 x5 (x7 + 1) M) ∧ (¬ (2 ≤ x8) → (∃ n2 : Nat, wp_X8_reads_242 a1 (fun x2 x5 x7 x8 M => wp_X8_reads_230 a1 k221 Q n x2 x5 x7 x8 M) Q n2 x2 x5 x7 x8 0 0 M)))
set_option maxHeartbeats 4000000 in
set_option maxRecDepth 100000 in
theorem v_X8_reads_230 (a1 : Int) (E : En X (AW X) 1 p R s m args meth c cX8_reads RX8 11 (some .boolean) 0 0) (Q : Int → Mem → Prop) (k221 : Int → Int → Int → Mem → Prop) (Hk221 : ∀ (x2 x5 x7 : Int) (M : Mem) (H : Heap) (locs : List Loc) (ls : Array Slot), k221 x2 x5 x7 M → Wd X (AW X) s M H locs → lv_has ls 11 [(0, .ref (xA X 62)), (1, .int (jI a1)), (2, .int (jI x2)), (5, .int (jI x5)), (7, .int (jI x7))] → W p l e R s m args below meth c H locs 0 0 (MQ below (QI X Q) args s 0 0 (AW X)) (F0 m 221 ls [])) : ∀ n : Nat, ∀ (x2 x5 x7 x8 : Int) (M : Mem) (H : Heap) (locs : List Loc) (ls : Array Slot), wp_X8_reads_230 a1 k221 Q n x2 x5 x7 x8 M → Wd X (AW X) s M H locs → lv_has ls 11 [(0, .ref (xA X 62)), (1, .int (jI a1)), (2, .int (jI x2)), (5, .int (jI x5)), (7, .int (jI x7)), (8, .int (jI x8))] → W p l e R s m args below meth c H locs 0 0 (MQ below (QI X Q) args s 0 0 (AW X)) (F0 m 230 ls []) := by
  intro n
  induction n with
  | zero => intro x2 x5 x7 x8 M H locs ls h; exact absurd h (by simp [wp_X8_reads_230])
  | succ n ih =>
    intro x2 x5 x7 x8 M H locs ls h hW hl
    rw [wp_X8_reads_230] at h
    refine q_iload (n := 232) (q := 5) E.1 hl rfl dX8_reads_230 rfl ?_
    refine q_iconst (n := 233) E.1 dX8_reads_232 rfl ?_
    obtain ⟨g1, h2, h3⟩ := h
    refine q_icmp_ge (t := 361) (n := 236) E.1 g1 (by decide) dX8_reads_233 (by decide) rfl (fun c4 => ?_) (fun c4 => ?_)
    · have h := h2 c4
      refine q_iinc (n := 364) (q := 4) [(7, .int (jI (x7 + 1))), (0, .ref (xA X 62)), (1, .int (jI a1)), (2, .int (jI x2)), (5, .int (jI x5)), (8, .int (jI x8))] E.1 hl rfl dX8_reads_361 (by decide) rfl rfl (fun ls hl => ?_)
      refine q_goto (n := 221) E.1 dX8_reads_364 (by decide) ?_
      exact Hk221 _ _ _ _ _ _ _ h hW (lv_sub hl [1, 2, 3, 4, 0] rfl)
    · have h := h3 c4
      refine q_iconst (n := 237) E.1 dX8_reads_236 rfl ?_
      refine q_istore (n := 239) [(9, .int (jI 0)), (0, .ref (xA X 62)), (1, .int (jI a1)), (2, .int (jI x2)), (5, .int (jI x5)), (7, .int (jI x7)), (8, .int (jI x8))] E.1 hl dX8_reads_237 (by decide) rfl rfl (fun ls hl => ?_)
      refine q_iconst (n := 240) E.1 dX8_reads_239 rfl ?_
      refine q_istore (n := 242) [(10, .int (jI 0)), (9, .int (jI 0)), (0, .ref (xA X 62)), (1, .int (jI a1)), (2, .int (jI x2)), (5, .int (jI x5)), (7, .int (jI x7)), (8, .int (jI x8))] E.1 hl dX8_reads_240 (by decide) rfl rfl (fun ls hl => ?_)
      obtain ⟨n5, h⟩ := h
      exact v_X8_reads_242 a1 E Q _ ih n5 _ _ _ _ _ _ _ _ _ _ h hW (lv_sub hl [2, 3, 4, 5, 6, 7, 1, 0] rfl)
def wp_X8_reads_221 (a1 : Int) (Q : Int → Mem → Prop) : Nat → Int → Int → Int → Mem → Prop
  | 0, _, _, _, _ => False
  | n + 1, x2, x5, x7, M => (Rg x7 ∧ Rg x2 ∧ (x2 ≤ x7 → wp_X8_check ((M 62 21) - 1) M (fun r7 M6 => (0 ≤ ((M6 62 21) - 1) ∧ ((M6 62 21) - 1) < 12) ∧ (Rg r7 ∧ Rg (M6 73 ((M6 62 21) - 1).toNat) ∧ (r7 = (M6 73 ((M6 62 21) - 1).toNat) → Q 1 M6) ∧ (¬ (r7 = (M6 73 ((M6 62 21) - 1).toNat)) → wp_X8_bad 4 0 M6 (fun r15 M14 => ((r15 = 0 ∨ r15 = 1) ∧ Q r15 M14)))))) ∧ (¬ (x2 ≤ x7) → (∃ n2 : Nat, wp_X8_reads_230 a1 (fun x2 x5 x7 M => wp_X8_reads_221 a1 Q n x2 x5 x7 M) Q n2 x2 x5 x7 0 M)))
set_option maxHeartbeats 4000000 in
set_option maxRecDepth 100000 in
theorem v_X8_reads_221 (a1 : Int) (E : En X (AW X) 1 p R s m args meth c cX8_reads RX8 11 (some .boolean) 0 0) (Q : Int → Mem → Prop) : ∀ n : Nat, ∀ (x2 x5 x7 : Int) (M : Mem) (H : Heap) (locs : List Loc) (ls : Array Slot), wp_X8_reads_221 a1 Q n x2 x5 x7 M → Wd X (AW X) s M H locs → lv_has ls 11 [(0, .ref (xA X 62)), (1, .int (jI a1)), (2, .int (jI x2)), (5, .int (jI x5)), (7, .int (jI x7))] → W p l e R s m args below meth c H locs 0 0 (MQ below (QI X Q) args s 0 0 (AW X)) (F0 m 221 ls []) := by
  intro n
  induction n with
  | zero => intro x2 x5 x7 M H locs ls h; exact absurd h (by simp [wp_X8_reads_221])
  | succ n ih =>
    intro x2 x5 x7 M H locs ls h hW hl
    rw [wp_X8_reads_221] at h
    refine q_iload (n := 223) (q := 4) E.1 hl rfl dX8_reads_221 rfl ?_
    refine q_iload_n (n := 224) (q := 2) E.1 hl rfl dX8_reads_223 rfl rfl ?_
    obtain ⟨g1, g2, h3, h4⟩ := h
    refine q_icmp_ge (t := 367) (n := 227) E.1 g1 g2 dX8_reads_224 (by decide) rfl (fun c5 => ?_) (fun c5 => ?_)
    · have h := h3 c5
      refine q_aload_n (n := 368) (q := 0) E.1 hl rfl dX8_reads_367 rfl rfl ?_
      refine q_aload_n (n := 369) (q := 0) E.1 hl rfl dX8_reads_368 rfl rfl ?_
      refine q_get (n := 372) (k := 21) (fs := (fs62 X)) (v := .int (jI (M 62 21))) E hW (by decide) (fun _ => rfl) K8 (by decide) w736 rfl rfl dX8_reads_369 rfl ?_
      refine q_iconst (n := 373) E.1 dX8_reads_372 rfl ?_
      refine q_isub (n := 374) E.1 dX8_reads_373 rfl ?_
      refine q_callVi (n := 377) (fs := (fs62 X)) [.int (jI ((M 62 21) - 1))] E hW hl.1 (by decide) (fun _ => rfl) K8 (c_X8_check l X E.2.2.1.1 ((M 62 21) - 1)  _ _ h) (by decide) Y_RX8_156 rfl (rest := []) rfl (Nat.le_of_ble_eq_true rfl) dX8_reads_374 rfl (fun r7 M6 H locs h hW => ?_)
      refine q_aload_n (n := 378) (q := 0) E.1 hl rfl dX8_reads_377 rfl rfl ?_
      refine q_get (n := 381) (k := 19) (fs := (fs62 X)) (v := .ref (xA X 73)) E hW (by decide) (fun _ => rfl) K8 (by decide) w734 rfl rfl dX8_reads_378 rfl ?_
      refine q_aload_n (n := 382) (q := 0) E.1 hl rfl dX8_reads_381 rfl rfl ?_
      refine q_get (n := 385) (k := 21) (fs := (fs62 X)) (v := .int (jI (M6 62 21))) E hW (by decide) (fun _ => rfl) K8 (by decide) w736 rfl rfl dX8_reads_382 rfl ?_
      refine q_iconst (n := 386) E.1 dX8_reads_385 rfl ?_
      refine q_isub (n := 387) E.1 dX8_reads_386 rfl ?_
      obtain ⟨g8, h⟩ := h
      refine q_iald (n := 388) E hW (by decide) (fun _ => rfl) (by decide) g8 dX8_reads_387 rfl ?_
      obtain ⟨g9, g10, h11, h12⟩ := h
      refine q_icmp_eq (t := 398) (n := 391) E.1 g9 g10 dX8_reads_388 (by decide) rfl (fun c13 => ?_) (fun c13 => ?_)
      · have h := h11 c13
        refine q_iconst (n := 399) E.1 dX8_reads_398 rfl ?_
        exact q_zret E hW (Or.inr rfl) h dX8_reads_399
      · have h := h12 c13
        refine q_aload_n (n := 392) (q := 0) E.1 hl rfl dX8_reads_391 rfl rfl ?_
        refine q_iconst (n := 393) E.1 dX8_reads_392 rfl ?_
        refine q_iconst (n := 394) E.1 dX8_reads_393 rfl ?_
        refine q_callVi (n := 397) (fs := (fs62 X)) [.int (jI 4), .int (jI 0)] E hW hl.1 (by decide) (fun _ => rfl) K8 (c_X8_bad l X E.2.2.1.1 4 0  _ _ h) (by decide) Y_RX8_182 rfl (rest := []) rfl (Nat.le_of_ble_eq_true rfl) dX8_reads_394 rfl (fun r15 M14 H locs h hW => ?_)
        exact q_zret E hW h.1 h.2 dX8_reads_397
    · have h := h4 c5
      refine q_iconst (n := 228) E.1 dX8_reads_227 rfl ?_
      refine q_istore (n := 230) [(8, .int (jI 0)), (0, .ref (xA X 62)), (1, .int (jI a1)), (2, .int (jI x2)), (5, .int (jI x5)), (7, .int (jI x7))] E.1 hl dX8_reads_228 (by decide) rfl rfl (fun ls hl => ?_)
      obtain ⟨n17, h⟩ := h
      exact v_X8_reads_230 a1 E Q _ ih n17 _ _ _ _ _ _ _ _ h hW (lv_sub hl [1, 2, 3, 4, 5, 0] rfl)
def wp_X8_reads_199 (a1 : Int) (Q : Int → Mem → Prop) (x2 x5 s0 : Int) (M : Mem) : Prop := (Rg s0 ∧ (s0 ≠ 0 → (∃ n : Nat, wp_X8_reads_221 a1 Q n x2 x5 0 (up M 62 21 0))) ∧ (¬ (s0 ≠ 0) → wp_X8_bad 2 0 M (fun r7 M6 => ((r7 = 0 ∨ r7 = 1) ∧ Q r7 M6))))
set_option maxHeartbeats 4000000 in
set_option maxRecDepth 100000 in
theorem v_X8_reads_199 (a1 : Int) (E : En X (AW X) 1 p R s m args meth c cX8_reads RX8 11 (some .boolean) 0 0) (Q : Int → Mem → Prop) : ∀ (x2 x5 s0 : Int) (M : Mem) (H : Heap) (locs : List Loc) (ls : Array Slot), wp_X8_reads_199 a1 Q x2 x5 s0 M → Wd X (AW X) s M H locs → lv_has ls 11 [(0, .ref (xA X 62)), (1, .int (jI a1)), (2, .int (jI x2)), (5, .int (jI x5))] → W p l e R s m args below meth c H locs 0 0 (MQ below (QI X Q) args s 0 0 (AW X)) (F0 m 199 ls [.int (jI s0)]) := by
  intro x2 x5 s0 M H locs ls h hW hl
  unfold wp_X8_reads_199 at h
  refine q_istore (n := 201) [(6, .int (jI s0)), (0, .ref (xA X 62)), (1, .int (jI a1)), (2, .int (jI x2)), (5, .int (jI x5))] E.1 hl dX8_reads_199 (by decide) rfl rfl (fun ls hl => ?_)
  refine q_iload (n := 203) (q := 0) E.1 hl rfl dX8_reads_201 rfl ?_
  obtain ⟨g1, h2, h3⟩ := h
  refine q_if_ne (t := 213) (n := 206) E.1 g1 dX8_reads_203 (by decide) rfl (fun c4 => ?_) (fun c4 => ?_)
  · have h := h2 c4
    refine q_aload_n (n := 214) (q := 1) E.1 hl rfl dX8_reads_213 rfl rfl ?_
    refine q_iconst (n := 215) E.1 dX8_reads_214 rfl ?_
    refine q_put (n := 218) (k := 21) (fs := (fs62 X)) E hW (by decide) (fun _ => rfl) K8 (by decide) w736 rfl rfl ⟨rfl, rfl⟩ (Nat.le_of_ble_eq_true rfl) (fun _ => rfl) dX8_reads_215 rfl (fun H locs hW => ?_)
    refine q_iconst (n := 219) E.1 dX8_reads_218 rfl ?_
    refine q_istore (n := 221) [(7, .int (jI 0)), (6, .int (jI s0)), (0, .ref (xA X 62)), (1, .int (jI a1)), (2, .int (jI x2)), (5, .int (jI x5))] E.1 hl dX8_reads_219 (by decide) rfl rfl (fun ls hl => ?_)
    obtain ⟨n5, h⟩ := h
    exact v_X8_reads_221 a1 E Q n5 _ _ _ _ _ _ _ h hW (lv_sub hl [2, 3, 4, 5, 0] rfl)
  · have h := h3 c4
    refine q_aload_n (n := 207) (q := 1) E.1 hl rfl dX8_reads_206 rfl rfl ?_
    refine q_iconst (n := 208) E.1 dX8_reads_207 rfl ?_
    refine q_iconst (n := 209) E.1 dX8_reads_208 rfl ?_
    refine q_callVi (n := 212) (fs := (fs62 X)) [.int (jI 2), .int (jI 0)] E hW hl.1 (by decide) (fun _ => rfl) K8 (c_X8_bad l X E.2.2.1.1 2 0  _ _ h) (by decide) Y_RX8_182 rfl (rest := []) rfl (Nat.le_of_ble_eq_true rfl) dX8_reads_209 rfl (fun r7 M6 H locs h hW => ?_)
    exact q_zret E hW h.1 h.2 dX8_reads_212
def wp_X8_reads_105 (a1 : Int) (Q : Int → Mem → Prop) : Nat → Int → Int → Int → Int → Mem → Prop
  | 0, _, _, _, _, _ => False
  | n + 1, x2, x5, x6, x7, M => (Rg x7 ∧ (4 ≤ x7 → (Rg x6 ∧ (x6 = 0 → wp_X8_reads_199 a1 Q x2 x5 0 M) ∧ (¬ (x6 = 0) → wp_X8_isWide ((M 62 22) - 3) a1 x5 M (fun r10 M9 => (Rg r10 ∧ (r10 = 0 → wp_X8_reads_199 a1 Q x2 x5 0 M9) ∧ (¬ (r10 = 0) → wp_X8_isWide ((M9 62 22) - 2) a1 x5 M9 (fun r16 M15 => (Rg r16 ∧ (r16 ≠ 0 → wp_X8_reads_199 a1 Q x2 x5 0 M15) ∧ (¬ (r16 ≠ 0) → wp_X8_isWide ((M15 62 22) - 1) a1 x5 M15 (fun r22 M21 => (Rg r22 ∧ (r22 ≠ 0 → wp_X8_reads_199 a1 Q x2 x5 0 M21) ∧ (¬ (r22 ≠ 0) → wp_X8_reads_199 a1 Q x2 x5 1 M21)))))))))))) ∧ (¬ (4 ≤ x7) → (Rg x6 ∧ (x6 = 0 → wp_X8_reads_105 a1 Q n x2 x5 0 (x7 + 1) M) ∧ (¬ (x6 = 0) → wp_X8_isWide x7 a1 x5 M (fun r32 M31 => (Rg r32 ∧ (r32 ≠ 0 → wp_X8_reads_105 a1 Q n x2 x5 0 (x7 + 1) M31) ∧ (¬ (r32 ≠ 0) → wp_X8_reads_105 a1 Q n x2 x5 1 (x7 + 1) M31)))))))
set_option maxHeartbeats 4000000 in
set_option maxRecDepth 100000 in
theorem v_X8_reads_105 (a1 : Int) (E : En X (AW X) 1 p R s m args meth c cX8_reads RX8 11 (some .boolean) 0 0) (Q : Int → Mem → Prop) : ∀ n : Nat, ∀ (x2 x5 x6 x7 : Int) (M : Mem) (H : Heap) (locs : List Loc) (ls : Array Slot), wp_X8_reads_105 a1 Q n x2 x5 x6 x7 M → Wd X (AW X) s M H locs → lv_has ls 11 [(0, .ref (xA X 62)), (1, .int (jI a1)), (2, .int (jI x2)), (5, .int (jI x5)), (6, .int (jI x6)), (7, .int (jI x7))] → W p l e R s m args below meth c H locs 0 0 (MQ below (QI X Q) args s 0 0 (AW X)) (F0 m 105 ls []) := by
  intro n
  induction n with
  | zero => intro x2 x5 x6 x7 M H locs ls h; exact absurd h (by simp [wp_X8_reads_105])
  | succ n ih =>
    intro x2 x5 x6 x7 M H locs ls h hW hl
    rw [wp_X8_reads_105] at h
    refine q_iload (n := 107) (q := 5) E.1 hl rfl dX8_reads_105 rfl ?_
    refine q_iconst (n := 108) E.1 dX8_reads_107 rfl ?_
    obtain ⟨g1, h2, h3⟩ := h
    refine q_icmp_ge (t := 141) (n := 111) E.1 g1 (by decide) dX8_reads_108 (by decide) rfl (fun c4 => ?_) (fun c4 => ?_)
    · have h := h2 c4
      refine q_iload (n := 143) (q := 4) E.1 hl rfl dX8_reads_141 rfl ?_
      obtain ⟨g5, h6, h7⟩ := h
      refine q_if_eq (t := 198) (n := 146) E.1 g5 dX8_reads_143 (by decide) rfl (fun c8 => ?_) (fun c8 => ?_)
      · have h := h6 c8
        refine q_iconst (n := 199) E.1 dX8_reads_198 rfl ?_
        exact v_X8_reads_199 a1 E Q _ _ _ _ _ _ _ h hW (lv_sub hl [0, 1, 2, 3] rfl)
      · have h := h7 c8
        refine q_aload_n (n := 147) (q := 0) E.1 hl rfl dX8_reads_146 rfl rfl ?_
        refine q_aload_n (n := 148) (q := 0) E.1 hl rfl dX8_reads_147 rfl rfl ?_
        refine q_get (n := 151) (k := 22) (fs := (fs62 X)) (v := .int (jI (M 62 22))) E hW (by decide) (fun _ => rfl) K8 (by decide) w737 rfl rfl dX8_reads_148 rfl ?_
        refine q_iconst (n := 152) E.1 dX8_reads_151 rfl ?_
        refine q_isub (n := 153) E.1 dX8_reads_152 rfl ?_
        refine q_iload_n (n := 154) (q := 1) E.1 hl rfl dX8_reads_153 rfl rfl ?_
        refine q_iload (n := 156) (q := 3) E.1 hl rfl dX8_reads_154 rfl ?_
        refine q_callVi (n := 159) (fs := (fs62 X)) [.int (jI ((M 62 22) - 3)), .int (jI a1), .int (jI x5)] E hW hl.1 (by decide) (fun _ => rfl) K8 (c_X8_isWide l X E.2.2.1.1 ((M 62 22) - 3) a1 x5  _ _ h) (by decide) Y_RX8_178 rfl (rest := []) rfl (Nat.le_of_ble_eq_true rfl) dX8_reads_156 rfl (fun r10 M9 H locs h hW => ?_)
        obtain ⟨g11, h12, h13⟩ := h
        refine q_if_eq (t := 198) (n := 162) E.1 g11 dX8_reads_159 (by decide) rfl (fun c14 => ?_) (fun c14 => ?_)
        · have h := h12 c14
          refine q_iconst (n := 199) E.1 dX8_reads_198 rfl ?_
          exact v_X8_reads_199 a1 E Q _ _ _ _ _ _ _ h hW (lv_sub hl [0, 1, 2, 3] rfl)
        · have h := h13 c14
          refine q_aload_n (n := 163) (q := 0) E.1 hl rfl dX8_reads_162 rfl rfl ?_
          refine q_aload_n (n := 164) (q := 0) E.1 hl rfl dX8_reads_163 rfl rfl ?_
          refine q_get (n := 167) (k := 22) (fs := (fs62 X)) (v := .int (jI (M9 62 22))) E hW (by decide) (fun _ => rfl) K8 (by decide) w737 rfl rfl dX8_reads_164 rfl ?_
          refine q_iconst (n := 168) E.1 dX8_reads_167 rfl ?_
          refine q_isub (n := 169) E.1 dX8_reads_168 rfl ?_
          refine q_iload_n (n := 170) (q := 1) E.1 hl rfl dX8_reads_169 rfl rfl ?_
          refine q_iload (n := 172) (q := 3) E.1 hl rfl dX8_reads_170 rfl ?_
          refine q_callVi (n := 175) (fs := (fs62 X)) [.int (jI ((M9 62 22) - 2)), .int (jI a1), .int (jI x5)] E hW hl.1 (by decide) (fun _ => rfl) K8 (c_X8_isWide l X E.2.2.1.1 ((M9 62 22) - 2) a1 x5  _ _ h) (by decide) Y_RX8_178 rfl (rest := []) rfl (Nat.le_of_ble_eq_true rfl) dX8_reads_172 rfl (fun r16 M15 H locs h hW => ?_)
          obtain ⟨g17, h18, h19⟩ := h
          refine q_if_ne (t := 198) (n := 178) E.1 g17 dX8_reads_175 (by decide) rfl (fun c20 => ?_) (fun c20 => ?_)
          · have h := h18 c20
            refine q_iconst (n := 199) E.1 dX8_reads_198 rfl ?_
            exact v_X8_reads_199 a1 E Q _ _ _ _ _ _ _ h hW (lv_sub hl [0, 1, 2, 3] rfl)
          · have h := h19 c20
            refine q_aload_n (n := 179) (q := 0) E.1 hl rfl dX8_reads_178 rfl rfl ?_
            refine q_aload_n (n := 180) (q := 0) E.1 hl rfl dX8_reads_179 rfl rfl ?_
            refine q_get (n := 183) (k := 22) (fs := (fs62 X)) (v := .int (jI (M15 62 22))) E hW (by decide) (fun _ => rfl) K8 (by decide) w737 rfl rfl dX8_reads_180 rfl ?_
            refine q_iconst (n := 184) E.1 dX8_reads_183 rfl ?_
            refine q_isub (n := 185) E.1 dX8_reads_184 rfl ?_
            refine q_iload_n (n := 186) (q := 1) E.1 hl rfl dX8_reads_185 rfl rfl ?_
            refine q_iload (n := 188) (q := 3) E.1 hl rfl dX8_reads_186 rfl ?_
            refine q_callVi (n := 191) (fs := (fs62 X)) [.int (jI ((M15 62 22) - 1)), .int (jI a1), .int (jI x5)] E hW hl.1 (by decide) (fun _ => rfl) K8 (c_X8_isWide l X E.2.2.1.1 ((M15 62 22) - 1) a1 x5  _ _ h) (by decide) Y_RX8_178 rfl (rest := []) rfl (Nat.le_of_ble_eq_true rfl) dX8_reads_188 rfl (fun r22 M21 H locs h hW => ?_)
            obtain ⟨g23, h24, h25⟩ := h
            refine q_if_ne (t := 198) (n := 194) E.1 g23 dX8_reads_191 (by decide) rfl (fun c26 => ?_) (fun c26 => ?_)
            · have h := h24 c26
              refine q_iconst (n := 199) E.1 dX8_reads_198 rfl ?_
              exact v_X8_reads_199 a1 E Q _ _ _ _ _ _ _ h hW (lv_sub hl [0, 1, 2, 3] rfl)
            · have h := h25 c26
              refine q_iconst (n := 195) E.1 dX8_reads_194 rfl ?_
              refine q_goto (n := 199) E.1 dX8_reads_195 (by decide) ?_
              exact v_X8_reads_199 a1 E Q _ _ _ _ _ _ _ h hW (lv_sub hl [0, 1, 2, 3] rfl)
    · have h := h3 c4
      refine q_iload (n := 113) (q := 4) E.1 hl rfl dX8_reads_111 rfl ?_
      obtain ⟨g27, h28, h29⟩ := h
      refine q_if_eq (t := 132) (n := 116) E.1 g27 dX8_reads_113 (by decide) rfl (fun c30 => ?_) (fun c30 => ?_)
      · have h := h28 c30
        refine q_iconst (n := 133) E.1 dX8_reads_132 rfl ?_
        refine q_istore (n := 135) [(6, .int (jI 0)), (0, .ref (xA X 62)), (1, .int (jI a1)), (2, .int (jI x2)), (5, .int (jI x5)), (7, .int (jI x7))] E.1 hl dX8_reads_133 (by decide) rfl rfl (fun ls hl => ?_)
        refine q_iinc (n := 138) (q := 5) [(7, .int (jI (x7 + 1))), (6, .int (jI 0)), (0, .ref (xA X 62)), (1, .int (jI a1)), (2, .int (jI x2)), (5, .int (jI x5))] E.1 hl rfl dX8_reads_135 (by decide) rfl rfl (fun ls hl => ?_)
        refine q_goto (n := 105) E.1 dX8_reads_138 (by decide) ?_
        exact ih _ _ _ _ _ _ _ _ h hW (lv_sub hl [2, 3, 4, 5, 1, 0] rfl)
      · have h := h29 c30
        refine q_aload_n (n := 117) (q := 0) E.1 hl rfl dX8_reads_116 rfl rfl ?_
        refine q_iload (n := 119) (q := 5) E.1 hl rfl dX8_reads_117 rfl ?_
        refine q_iload_n (n := 120) (q := 1) E.1 hl rfl dX8_reads_119 rfl rfl ?_
        refine q_iload (n := 122) (q := 3) E.1 hl rfl dX8_reads_120 rfl ?_
        refine q_callVi (n := 125) (fs := (fs62 X)) [.int (jI x7), .int (jI a1), .int (jI x5)] E hW hl.1 (by decide) (fun _ => rfl) K8 (c_X8_isWide l X E.2.2.1.1 x7 a1 x5  _ _ h) (by decide) Y_RX8_178 rfl (rest := []) rfl (Nat.le_of_ble_eq_true rfl) dX8_reads_122 rfl (fun r32 M31 H locs h hW => ?_)
        obtain ⟨g33, h34, h35⟩ := h
        refine q_if_ne (t := 132) (n := 128) E.1 g33 dX8_reads_125 (by decide) rfl (fun c36 => ?_) (fun c36 => ?_)
        · have h := h34 c36
          refine q_iconst (n := 133) E.1 dX8_reads_132 rfl ?_
          refine q_istore (n := 135) [(6, .int (jI 0)), (0, .ref (xA X 62)), (1, .int (jI a1)), (2, .int (jI x2)), (5, .int (jI x5)), (7, .int (jI x7))] E.1 hl dX8_reads_133 (by decide) rfl rfl (fun ls hl => ?_)
          refine q_iinc (n := 138) (q := 5) [(7, .int (jI (x7 + 1))), (6, .int (jI 0)), (0, .ref (xA X 62)), (1, .int (jI a1)), (2, .int (jI x2)), (5, .int (jI x5))] E.1 hl rfl dX8_reads_135 (by decide) rfl rfl (fun ls hl => ?_)
          refine q_goto (n := 105) E.1 dX8_reads_138 (by decide) ?_
          exact ih _ _ _ _ _ _ _ _ h hW (lv_sub hl [2, 3, 4, 5, 1, 0] rfl)
        · have h := h35 c36
          refine q_iconst (n := 129) E.1 dX8_reads_128 rfl ?_
          refine q_goto (n := 133) E.1 dX8_reads_129 (by decide) ?_
          refine q_istore (n := 135) [(6, .int (jI 1)), (0, .ref (xA X 62)), (1, .int (jI a1)), (2, .int (jI x2)), (5, .int (jI x5)), (7, .int (jI x7))] E.1 hl dX8_reads_133 (by decide) rfl rfl (fun ls hl => ?_)
          refine q_iinc (n := 138) (q := 5) [(7, .int (jI (x7 + 1))), (6, .int (jI 1)), (0, .ref (xA X 62)), (1, .int (jI a1)), (2, .int (jI x2)), (5, .int (jI x5))] E.1 hl rfl dX8_reads_135 (by decide) rfl rfl (fun ls hl => ?_)
          refine q_goto (n := 105) E.1 dX8_reads_138 (by decide) ?_
          exact ih _ _ _ _ _ _ _ _ h hW (lv_sub hl [2, 3, 4, 5, 1, 0] rfl)
def wp_X8_reads_60 (a1 : Int) (k29 : Int → Int → Int → Int → Mem → Prop) (Q : Int → Mem → Prop) (x2 x4 x5 s0 : Int) (M : Mem) : Prop := (0 ≤ x5 ∧ x5 < 130) ∧ (Rg (M 74 x5.toNat) ∧ Rg x4 ∧ ((M 74 x5.toNat) ≤ x4 → k29 x2 s0 x4 (x5 + 1) M) ∧ (¬ ((M 74 x5.toNat) ≤ x4) → (0 ≤ x5 ∧ x5 < 130) ∧ k29 x2 s0 (M 74 x5.toNat) (x5 + 1) M))
set_option maxHeartbeats 4000000 in
set_option maxRecDepth 100000 in
theorem v_X8_reads_60 (a1 : Int) (E : En X (AW X) 1 p R s m args meth c cX8_reads RX8 11 (some .boolean) 0 0) (Q : Int → Mem → Prop) (k29 : Int → Int → Int → Int → Mem → Prop) (Hk29 : ∀ (x2 x3 x4 x5 : Int) (M : Mem) (H : Heap) (locs : List Loc) (ls : Array Slot), k29 x2 x3 x4 x5 M → Wd X (AW X) s M H locs → lv_has ls 11 [(0, .ref (xA X 62)), (1, .int (jI a1)), (2, .int (jI x2)), (3, .int (jI x3)), (4, .int (jI x4)), (5, .int (jI x5))] → W p l e R s m args below meth c H locs 0 0 (MQ below (QI X Q) args s 0 0 (AW X)) (F0 m 29 ls [])) : ∀ (x2 x4 x5 s0 : Int) (M : Mem) (H : Heap) (locs : List Loc) (ls : Array Slot), wp_X8_reads_60 a1 k29 Q x2 x4 x5 s0 M → Wd X (AW X) s M H locs → lv_has ls 11 [(0, .ref (xA X 62)), (1, .int (jI a1)), (2, .int (jI x2)), (4, .int (jI x4)), (5, .int (jI x5))] → W p l e R s m args below meth c H locs 0 0 (MQ below (QI X Q) args s 0 0 (AW X)) (F0 m 60 ls [.int (jI s0)]) := by
  intro x2 x4 x5 s0 M H locs ls h hW hl
  unfold wp_X8_reads_60 at h
  refine q_istore_n (n := 61) [(3, .int (jI s0)), (0, .ref (xA X 62)), (1, .int (jI a1)), (2, .int (jI x2)), (4, .int (jI x4)), (5, .int (jI x5))] E.1 hl dX8_reads_60 rfl (by decide) rfl rfl (fun ls hl => ?_)
  refine q_aload_n (n := 62) (q := 1) E.1 hl rfl dX8_reads_61 rfl rfl ?_
  refine q_get (n := 65) (k := 20) (fs := (fs62 X)) (v := .ref (xA X 74)) E hW (by decide) (fun _ => rfl) K8 (by decide) w735 rfl rfl dX8_reads_62 rfl ?_
  refine q_iload (n := 67) (q := 5) E.1 hl rfl dX8_reads_65 rfl ?_
  obtain ⟨g1, h⟩ := h
  refine q_iald (n := 68) E hW (by decide) (fun _ => rfl) (by decide) g1 dX8_reads_67 rfl ?_
  refine q_iload (n := 70) (q := 4) E.1 hl rfl dX8_reads_68 rfl ?_
  obtain ⟨g2, g3, h4, h5⟩ := h
  refine q_icmp_le (t := 83) (n := 73) E.1 g2 g3 dX8_reads_70 (by decide) rfl (fun c6 => ?_) (fun c6 => ?_)
  · have h := h4 c6
    refine q_iload (n := 85) (q := 4) E.1 hl rfl dX8_reads_83 rfl ?_
    refine q_istore (n := 87) [(4, .int (jI x4)), (3, .int (jI s0)), (0, .ref (xA X 62)), (1, .int (jI a1)), (2, .int (jI x2)), (5, .int (jI x5))] E.1 hl dX8_reads_85 (by decide) rfl rfl (fun ls hl => ?_)
    refine q_iinc (n := 90) (q := 5) [(5, .int (jI (x5 + 1))), (4, .int (jI x4)), (3, .int (jI s0)), (0, .ref (xA X 62)), (1, .int (jI a1)), (2, .int (jI x2))] E.1 hl rfl dX8_reads_87 (by decide) rfl rfl (fun ls hl => ?_)
    refine q_goto (n := 29) E.1 dX8_reads_90 (by decide) ?_
    exact Hk29 _ _ _ _ _ _ _ _ h hW (lv_sub hl [3, 4, 5, 2, 1, 0] rfl)
  · have h := h5 c6
    refine q_aload_n (n := 74) (q := 1) E.1 hl rfl dX8_reads_73 rfl rfl ?_
    refine q_get (n := 77) (k := 20) (fs := (fs62 X)) (v := .ref (xA X 74)) E hW (by decide) (fun _ => rfl) K8 (by decide) w735 rfl rfl dX8_reads_74 rfl ?_
    refine q_iload (n := 79) (q := 5) E.1 hl rfl dX8_reads_77 rfl ?_
    obtain ⟨g7, h⟩ := h
    refine q_iald (n := 80) E hW (by decide) (fun _ => rfl) (by decide) g7 dX8_reads_79 rfl ?_
    refine q_goto (n := 85) E.1 dX8_reads_80 (by decide) ?_
    refine q_istore (n := 87) [(4, .int (jI (M 74 x5.toNat))), (3, .int (jI s0)), (0, .ref (xA X 62)), (1, .int (jI a1)), (2, .int (jI x2)), (5, .int (jI x5))] E.1 hl dX8_reads_85 (by decide) rfl rfl (fun ls hl => ?_)
    refine q_iinc (n := 90) (q := 5) [(5, .int (jI (x5 + 1))), (4, .int (jI (M 74 x5.toNat))), (3, .int (jI s0)), (0, .ref (xA X 62)), (1, .int (jI a1)), (2, .int (jI x2))] E.1 hl rfl dX8_reads_87 (by decide) rfl rfl (fun ls hl => ?_)
    refine q_goto (n := 29) E.1 dX8_reads_90 (by decide) ?_
    exact Hk29 _ _ _ _ _ _ _ _ h hW (lv_sub hl [3, 4, 5, 2, 1, 0] rfl)
def wp_X8_reads_29 (a1 : Int) (Q : Int → Mem → Prop) : Nat → Int → Int → Int → Int → Mem → Prop
  | 0, _, _, _, _, _ => False
  | n + 1, x2, x3, x4, x5, M => (Rg x5 ∧ Rg (M 62 22) ∧ ((M 62 22) ≤ x5 → (∃ n2 : Nat, wp_X8_reads_105 a1 Q n2 x2 (x3 + x4) 1 0 M)) ∧ (¬ ((M 62 22) ≤ x5) → (0 ≤ x5 ∧ x5 < 130) ∧ (Rg (M 74 x5.toNat) ∧ Rg x3 ∧ (x3 ≤ (M 74 x5.toNat) → wp_X8_reads_60 a1 (fun x2 x3 x4 x5 M => wp_X8_reads_29 a1 Q n x2 x3 x4 x5 M) Q x2 x4 x5 x3 M) ∧ (¬ (x3 ≤ (M 74 x5.toNat)) → (0 ≤ x5 ∧ x5 < 130) ∧ wp_X8_reads_60 a1 (fun x2 x3 x4 x5 M => wp_X8_reads_29 a1 Q n x2 x3 x4 x5 M) Q x2 x4 x5 (M 74 x5.toNat) M))))
set_option maxHeartbeats 4000000 in
set_option maxRecDepth 100000 in
theorem v_X8_reads_29 (a1 : Int) (E : En X (AW X) 1 p R s m args meth c cX8_reads RX8 11 (some .boolean) 0 0) (Q : Int → Mem → Prop) : ∀ n : Nat, ∀ (x2 x3 x4 x5 : Int) (M : Mem) (H : Heap) (locs : List Loc) (ls : Array Slot), wp_X8_reads_29 a1 Q n x2 x3 x4 x5 M → Wd X (AW X) s M H locs → lv_has ls 11 [(0, .ref (xA X 62)), (1, .int (jI a1)), (2, .int (jI x2)), (3, .int (jI x3)), (4, .int (jI x4)), (5, .int (jI x5))] → W p l e R s m args below meth c H locs 0 0 (MQ below (QI X Q) args s 0 0 (AW X)) (F0 m 29 ls []) := by
  intro n
  induction n with
  | zero => intro x2 x3 x4 x5 M H locs ls h; exact absurd h (by simp [wp_X8_reads_29])
  | succ n ih =>
    intro x2 x3 x4 x5 M H locs ls h hW hl
    rw [wp_X8_reads_29] at h
    refine q_iload (n := 31) (q := 5) E.1 hl rfl dX8_reads_29 rfl ?_
    refine q_aload_n (n := 32) (q := 0) E.1 hl rfl dX8_reads_31 rfl rfl ?_
    refine q_get (n := 35) (k := 22) (fs := (fs62 X)) (v := .int (jI (M 62 22))) E hW (by decide) (fun _ => rfl) K8 (by decide) w737 rfl rfl dX8_reads_32 rfl ?_
    obtain ⟨g1, g2, h3, h4⟩ := h
    refine q_icmp_ge (t := 93) (n := 38) E.1 g1 g2 dX8_reads_35 (by decide) rfl (fun c5 => ?_) (fun c5 => ?_)
    · have h := h3 c5
      refine q_iload_n (n := 94) (q := 3) E.1 hl rfl dX8_reads_93 rfl rfl ?_
      refine q_iload (n := 96) (q := 4) E.1 hl rfl dX8_reads_94 rfl ?_
      refine q_iadd (n := 97) E.1 dX8_reads_96 rfl ?_
      refine q_istore (n := 99) [(5, .int (jI (x3 + x4))), (0, .ref (xA X 62)), (1, .int (jI a1)), (2, .int (jI x2)), (3, .int (jI x3)), (4, .int (jI x4))] E.1 hl dX8_reads_97 (by decide) rfl rfl (fun ls hl => ?_)
      refine q_iconst (n := 100) E.1 dX8_reads_99 rfl ?_
      refine q_istore (n := 102) [(6, .int (jI 1)), (5, .int (jI (x3 + x4))), (0, .ref (xA X 62)), (1, .int (jI a1)), (2, .int (jI x2)), (3, .int (jI x3)), (4, .int (jI x4))] E.1 hl dX8_reads_100 (by decide) rfl rfl (fun ls hl => ?_)
      refine q_iconst (n := 103) E.1 dX8_reads_102 rfl ?_
      refine q_istore (n := 105) [(7, .int (jI 0)), (6, .int (jI 1)), (5, .int (jI (x3 + x4))), (0, .ref (xA X 62)), (1, .int (jI a1)), (2, .int (jI x2)), (3, .int (jI x3)), (4, .int (jI x4))] E.1 hl dX8_reads_103 (by decide) rfl rfl (fun ls hl => ?_)
      obtain ⟨n6, h⟩ := h
      exact v_X8_reads_105 a1 E Q n6 _ _ _ _ _ _ _ _ h hW (lv_sub hl [3, 4, 5, 2, 1, 0] rfl)
    · have h := h4 c5
      refine q_aload_n (n := 39) (q := 0) E.1 hl rfl dX8_reads_38 rfl rfl ?_
      refine q_get (n := 42) (k := 20) (fs := (fs62 X)) (v := .ref (xA X 74)) E hW (by decide) (fun _ => rfl) K8 (by decide) w735 rfl rfl dX8_reads_39 rfl ?_
      refine q_iload (n := 44) (q := 5) E.1 hl rfl dX8_reads_42 rfl ?_
      obtain ⟨g7, h⟩ := h
      refine q_iald (n := 45) E hW (by decide) (fun _ => rfl) (by decide) g7 dX8_reads_44 rfl ?_
      refine q_iload_n (n := 46) (q := 3) E.1 hl rfl dX8_reads_45 rfl rfl ?_
      obtain ⟨g8, g9, h10, h11⟩ := h
      refine q_icmp_ge (t := 59) (n := 49) E.1 g8 g9 dX8_reads_46 (by decide) rfl (fun c12 => ?_) (fun c12 => ?_)
      · have h := h10 c12
        refine q_iload_n (n := 60) (q := 3) E.1 hl rfl dX8_reads_59 rfl rfl ?_
        exact v_X8_reads_60 a1 E Q _ ih _ _ _ _ _ _ _ _ h hW (lv_sub hl [0, 1, 2, 4, 5] rfl)
      · have h := h11 c12
        refine q_aload_n (n := 50) (q := 0) E.1 hl rfl dX8_reads_49 rfl rfl ?_
        refine q_get (n := 53) (k := 20) (fs := (fs62 X)) (v := .ref (xA X 74)) E hW (by decide) (fun _ => rfl) K8 (by decide) w735 rfl rfl dX8_reads_50 rfl ?_
        refine q_iload (n := 55) (q := 5) E.1 hl rfl dX8_reads_53 rfl ?_
        obtain ⟨g13, h⟩ := h
        refine q_iald (n := 56) E hW (by decide) (fun _ => rfl) (by decide) g13 dX8_reads_55 rfl ?_
        refine q_goto (n := 60) E.1 dX8_reads_56 (by decide) ?_
        exact v_X8_reads_60 a1 E Q _ ih _ _ _ _ _ _ _ _ h hW (lv_sub hl [0, 1, 2, 4, 5] rfl)
def wp_X8_reads (a1 : Int) (M : Mem) (Q : Int → Mem → Prop) : Prop := (Rg ((M 62 22) - 7) ∧ 0 ≤ ((M 62 22) - 7)) ∧ (∃ n : Nat, wp_X8_reads_29 a1 Q n (((M 62 22) - 7) / 10) (M 74 0) (M 74 0) 0 M)
set_option maxHeartbeats 4000000 in
set_option maxRecDepth 100000 in
theorem c_X8_reads (l : Launch) (X : Cx) (hI : Inj X) (a1 : Int) (M : Mem) (Q : Int → Mem → Prop) (h : wp_X8_reads a1 M Q) : MI X l yX8_reads cX8_reads 11 (some .boolean) 1 [.ref (xA X 62), .int (jI a1)] M Q := by
  refine MI.of hI (by decide) (Nat.le_of_ble_eq_true rfl) ?_
  intro p e R s m args below meth c ls E hW hl
  have E : En X (AW X) 1 p R s m args meth c cX8_reads RX8 11 (some .boolean) 0 0 := E
  have hl : lv_has ls 11 [(0, .ref (xA X 62)), (1, .int (jI a1))] := hl
  unfold wp_X8_reads at h
  refine q_aload_n (n := 1) (q := 0) E.1 hl rfl dX8_reads_0 rfl rfl ?_
  refine q_get (n := 4) (k := 22) (fs := (fs62 X)) (v := .int (jI (M 62 22))) E hW (by decide) (fun _ => rfl) K8 (by decide) w737 rfl rfl dX8_reads_1 rfl ?_
  refine q_bipush (n := 6) E.1 dX8_reads_4 (by decide) rfl ?_
  refine q_isub (n := 7) E.1 dX8_reads_6 rfl ?_
  refine q_bipush (n := 9) E.1 dX8_reads_7 (by decide) rfl ?_
  obtain ⟨g1, h⟩ := h
  refine q_idiv (n := 10) E.1 g1 (by decide) dX8_reads_9 rfl ?_
  refine q_istore_n (n := 11) [(2, .int (jI (((M 62 22) - 7) / 10))), (0, .ref (xA X 62)), (1, .int (jI a1))] E.1 hl dX8_reads_10 rfl (by decide) rfl rfl (fun ls hl => ?_)
  refine q_aload_n (n := 12) (q := 1) E.1 hl rfl dX8_reads_11 rfl rfl ?_
  refine q_get (n := 15) (k := 20) (fs := (fs62 X)) (v := .ref (xA X 74)) E hW (by decide) (fun _ => rfl) K8 (by decide) w735 rfl rfl dX8_reads_12 rfl ?_
  refine q_iconst (n := 16) E.1 dX8_reads_15 rfl ?_
  refine q_iald (n := 17) E hW (by decide) (fun _ => rfl) (by decide) (by decide) dX8_reads_16 rfl ?_
  refine q_istore_n (n := 18) [(3, .int (jI (M 74 0))), (2, .int (jI (((M 62 22) - 7) / 10))), (0, .ref (xA X 62)), (1, .int (jI a1))] E.1 hl dX8_reads_17 rfl (by decide) rfl rfl (fun ls hl => ?_)
  refine q_aload_n (n := 19) (q := 2) E.1 hl rfl dX8_reads_18 rfl rfl ?_
  refine q_get (n := 22) (k := 20) (fs := (fs62 X)) (v := .ref (xA X 74)) E hW (by decide) (fun _ => rfl) K8 (by decide) w735 rfl rfl dX8_reads_19 rfl ?_
  refine q_iconst (n := 23) E.1 dX8_reads_22 rfl ?_
  refine q_iald (n := 24) E hW (by decide) (fun _ => rfl) (by decide) (by decide) dX8_reads_23 rfl ?_
  refine q_istore (n := 26) [(4, .int (jI (M 74 0))), (3, .int (jI (M 74 0))), (2, .int (jI (((M 62 22) - 7) / 10))), (0, .ref (xA X 62)), (1, .int (jI a1))] E.1 hl dX8_reads_24 (by decide) rfl rfl (fun ls hl => ?_)
  refine q_iconst (n := 27) E.1 dX8_reads_26 rfl ?_
  refine q_istore (n := 29) [(5, .int (jI 0)), (4, .int (jI (M 74 0))), (3, .int (jI (M 74 0))), (2, .int (jI (((M 62 22) - 7) / 10))), (0, .ref (xA X 62)), (1, .int (jI a1))] E.1 hl dX8_reads_27 (by decide) rfl rfl (fun ls hl => ?_)
  obtain ⟨n2, h⟩ := h
  exact v_X8_reads_29 a1 E Q n2 _ _ _ _ _ _ _ _ h hW (lv_sub hl [4, 5, 3, 2, 1, 0] rfl)
/-! StickerPressModel.read()I -/
theorem dX8_read_0 : decode cX8_read 0 = .ok (.aload_n 0, 1) := by decide +kernel
theorem dX8_read_1 : decode cX8_read 1 = .ok (.aload_n 0, 1) := by decide +kernel
theorem dX8_read_2 : decode cX8_read 2 = .ok (.getfield 111, 3) := by decide +kernel
theorem dX8_read_5 : decode cX8_read 5 = .ok (.putfield 169, 3) := by decide +kernel
theorem dX8_read_8 : decode cX8_read 8 = .ok (.aload_n 0, 1) := by decide +kernel
theorem dX8_read_9 : decode cX8_read 9 = .ok (.iconst 0, 1) := by decide +kernel
theorem dX8_read_10 : decode cX8_read 10 = .ok (.putfield 111, 3) := by decide +kernel
theorem dX8_read_13 : decode cX8_read 13 = .ok (.aload_n 0, 1) := by decide +kernel
theorem dX8_read_14 : decode cX8_read 14 = .ok (.iconst 0, 1) := by decide +kernel
theorem dX8_read_15 : decode cX8_read 15 = .ok (.putfield 185, 3) := by decide +kernel
theorem dX8_read_18 : decode cX8_read 18 = .ok (.aload_n 0, 1) := by decide +kernel
theorem dX8_read_19 : decode cX8_read 19 = .ok (.iconst (-1), 1) := by decide +kernel
theorem dX8_read_20 : decode cX8_read 20 = .ok (.putfield 53, 3) := by decide +kernel
theorem dX8_read_23 : decode cX8_read 23 = .ok (.aload_n 0, 1) := by decide +kernel
theorem dX8_read_24 : decode cX8_read 24 = .ok (.iconst 0, 1) := by decide +kernel
theorem dX8_read_25 : decode cX8_read 25 = .ok (.putfield 188, 3) := by decide +kernel
theorem dX8_read_28 : decode cX8_read 28 = .ok (.aload_n 0, 1) := by decide +kernel
theorem dX8_read_29 : decode cX8_read 29 = .ok (.getfield 169, 3) := by decide +kernel
theorem dX8_read_32 : decode cX8_read 32 = .ok (.bipush 17, 2) := by decide +kernel
theorem dX8_read_34 : decode cX8_read 34 = .ok (.if_icmp .lt 28, 3) := by decide +kernel
theorem dX8_read_37 : decode cX8_read 37 = .ok (.aload_n 0, 1) := by decide +kernel
theorem dX8_read_38 : decode cX8_read 38 = .ok (.getfield 169, 3) := by decide +kernel
theorem dX8_read_41 : decode cX8_read 41 = .ok (.bipush 67, 2) := by decide +kernel
theorem dX8_read_43 : decode cX8_read 43 = .ok (.if_icmp .gt 19, 3) := by decide +kernel
theorem dX8_read_46 : decode cX8_read 46 = .ok (.aload_n 0, 1) := by decide +kernel
theorem dX8_read_47 : decode cX8_read 47 = .ok (.getfield 169, 3) := by decide +kernel
theorem dX8_read_50 : decode cX8_read 50 = .ok (.bipush 10, 2) := by decide +kernel
theorem dX8_read_52 : decode cX8_read 52 = .ok (.irem, 1) := by decide +kernel
theorem dX8_read_53 : decode cX8_read 53 = .ok (.bipush 7, 2) := by decide +kernel
theorem dX8_read_55 : decode cX8_read 55 = .ok (.if_icmp .ne 7, 3) := by decide +kernel
theorem dX8_read_58 : decode cX8_read 58 = .ok (.iconst 1, 1) := by decide +kernel
theorem dX8_read_59 : decode cX8_read 59 = .ok (.goto 4, 3) := by decide +kernel
theorem dX8_read_62 : decode cX8_read 62 = .ok (.iconst 0, 1) := by decide +kernel
theorem dX8_read_63 : decode cX8_read 63 = .ok (.istore_n 1, 1) := by decide +kernel
theorem dX8_read_64 : decode cX8_read 64 = .ok (.iconst 0, 1) := by decide +kernel
theorem dX8_read_65 : decode cX8_read 65 = .ok (.istore_n 2, 1) := by decide +kernel
theorem dX8_read_66 : decode cX8_read 66 = .ok (.iload_n 2, 1) := by decide +kernel
theorem dX8_read_67 : decode cX8_read 67 = .ok (.aload_n 0, 1) := by decide +kernel
theorem dX8_read_68 : decode cX8_read 68 = .ok (.getfield 169, 3) := by decide +kernel
theorem dX8_read_71 : decode cX8_read 71 = .ok (.if_icmp .ge 38, 3) := by decide +kernel
theorem dX8_read_74 : decode cX8_read 74 = .ok (.iload_n 1, 1) := by decide +kernel
theorem dX8_read_75 : decode cX8_read 75 = .ok (.ifCond .eq 34, 3) := by decide +kernel
theorem dX8_read_78 : decode cX8_read 78 = .ok (.aload_n 0, 1) := by decide +kernel
theorem dX8_read_79 : decode cX8_read 79 = .ok (.getfield 50, 3) := by decide +kernel
theorem dX8_read_82 : decode cX8_read 82 = .ok (.iload_n 2, 1) := by decide +kernel
theorem dX8_read_83 : decode cX8_read 83 = .ok (.aload_n 0, 1) := by decide +kernel
theorem dX8_read_84 : decode cX8_read 84 = .ok (.getfield 13, 3) := by decide +kernel
theorem dX8_read_87 : decode cX8_read 87 = .ok (.iload_n 2, 1) := by decide +kernel
theorem dX8_read_88 : decode cX8_read 88 = .ok (.iaload, 1) := by decide +kernel
theorem dX8_read_89 : decode cX8_read 89 = .ok (.iastore, 1) := by decide +kernel
theorem dX8_read_90 : decode cX8_read 90 = .ok (.aload_n 0, 1) := by decide +kernel
theorem dX8_read_91 : decode cX8_read 91 = .ok (.getfield 13, 3) := by decide +kernel
theorem dX8_read_94 : decode cX8_read 94 = .ok (.iload_n 2, 1) := by decide +kernel
theorem dX8_read_95 : decode cX8_read 95 = .ok (.iaload, 1) := by decide +kernel
theorem dX8_read_96 : decode cX8_read 96 = .ok (.iconst 1, 1) := by decide +kernel
theorem dX8_read_97 : decode cX8_read 97 = .ok (.bipush 99, 2) := by decide +kernel
theorem dX8_read_99 : decode cX8_read 99 = .ok (.invokestatic 103, 3) := by decide +kernel
theorem dX8_read_102 : decode cX8_read 102 = .ok (.istore_n 1, 1) := by decide +kernel
theorem dX8_read_103 : decode cX8_read 103 = .ok (.iinc 2 1, 3) := by decide +kernel
theorem dX8_read_106 : decode cX8_read 106 = .ok (.goto (-40), 3) := by decide +kernel
theorem dX8_read_109 : decode cX8_read 109 = .ok (.iload_n 1, 1) := by decide +kernel
theorem dX8_read_110 : decode cX8_read 110 = .ok (.ifCond .ne 15, 3) := by decide +kernel
theorem dX8_read_113 : decode cX8_read 113 = .ok (.aload_n 0, 1) := by decide +kernel
theorem dX8_read_114 : decode cX8_read 114 = .ok (.iconst 1, 1) := by decide +kernel
theorem dX8_read_115 : decode cX8_read 115 = .ok (.putfield 185, 3) := by decide +kernel
theorem dX8_read_118 : decode cX8_read 118 = .ok (.aload_n 0, 1) := by decide +kernel
theorem dX8_read_119 : decode cX8_read 119 = .ok (.iconst 0, 1) := by decide +kernel
theorem dX8_read_120 : decode cX8_read 120 = .ok (.putfield 53, 3) := by decide +kernel
theorem dX8_read_123 : decode cX8_read 123 = .ok (.iconst (-1), 1) := by decide +kernel
theorem dX8_read_124 : decode cX8_read 124 = .ok (.ireturn, 1) := by decide +kernel
theorem dX8_read_125 : decode cX8_read 125 = .ok (.aload_n 0, 1) := by decide +kernel
theorem dX8_read_126 : decode cX8_read 126 = .ok (.iconst 0, 1) := by decide +kernel
theorem dX8_read_127 : decode cX8_read 127 = .ok (.invokevirtual 191, 3) := by decide +kernel
theorem dX8_read_130 : decode cX8_read 130 = .ok (.ifCond .ne 38, 3) := by decide +kernel
theorem dX8_read_133 : decode cX8_read 133 = .ok (.aload_n 0, 1) := by decide +kernel
theorem dX8_read_134 : decode cX8_read 134 = .ok (.getfield 172, 3) := by decide +kernel
theorem dX8_read_137 : decode cX8_read 137 = .ok (.istore_n 2, 1) := by decide +kernel
theorem dX8_read_138 : decode cX8_read 138 = .ok (.aload_n 0, 1) := by decide +kernel
theorem dX8_read_139 : decode cX8_read 139 = .ok (.getfield 175, 3) := by decide +kernel
theorem dX8_read_142 : decode cX8_read 142 = .ok (.istore_n 3, 1) := by decide +kernel
theorem dX8_read_143 : decode cX8_read 143 = .ok (.aload_n 0, 1) := by decide +kernel
theorem dX8_read_144 : decode cX8_read 144 = .ok (.iconst 1, 1) := by decide +kernel
theorem dX8_read_145 : decode cX8_read 145 = .ok (.invokevirtual 191, 3) := by decide +kernel
theorem dX8_read_148 : decode cX8_read 148 = .ok (.ifCond .ne 15, 3) := by decide +kernel
theorem dX8_read_151 : decode cX8_read 151 = .ok (.aload_n 0, 1) := by decide +kernel
theorem dX8_read_152 : decode cX8_read 152 = .ok (.iload_n 2, 1) := by decide +kernel
theorem dX8_read_153 : decode cX8_read 153 = .ok (.putfield 185, 3) := by decide +kernel
theorem dX8_read_156 : decode cX8_read 156 = .ok (.aload_n 0, 1) := by decide +kernel
theorem dX8_read_157 : decode cX8_read 157 = .ok (.iload_n 3, 1) := by decide +kernel
theorem dX8_read_158 : decode cX8_read 158 = .ok (.putfield 53, 3) := by decide +kernel
theorem dX8_read_161 : decode cX8_read 161 = .ok (.iconst (-1), 1) := by decide +kernel
theorem dX8_read_162 : decode cX8_read 162 = .ok (.ireturn, 1) := by decide +kernel
theorem dX8_read_163 : decode cX8_read 163 = .ok (.aload_n 0, 1) := by decide +kernel
theorem dX8_read_164 : decode cX8_read 164 = .ok (.iconst 1, 1) := by decide +kernel
theorem dX8_read_165 : decode cX8_read 165 = .ok (.putfield 188, 3) := by decide +kernel
theorem dX8_read_168 : decode cX8_read 168 = .ok (.aload_n 0, 1) := by decide +kernel
theorem dX8_read_169 : decode cX8_read 169 = .ok (.aload_n 0, 1) := by decide +kernel
theorem dX8_read_170 : decode cX8_read 170 = .ok (.getfield 159, 3) := by decide +kernel
theorem dX8_read_173 : decode cX8_read 173 = .ok (.putfield 153, 3) := by decide +kernel
theorem dX8_read_176 : decode cX8_read 176 = .ok (.iconst 0, 1) := by decide +kernel
theorem dX8_read_177 : decode cX8_read 177 = .ok (.istore_n 2, 1) := by decide +kernel
theorem dX8_read_178 : decode cX8_read 178 = .ok (.iload_n 2, 1) := by decide +kernel
theorem dX8_read_179 : decode cX8_read 179 = .ok (.aload_n 0, 1) := by decide +kernel
theorem dX8_read_180 : decode cX8_read 180 = .ok (.getfield 159, 3) := by decide +kernel
theorem dX8_read_183 : decode cX8_read 183 = .ok (.if_icmp .ge 24, 3) := by decide +kernel
theorem dX8_read_186 : decode cX8_read 186 = .ok (.aload_n 0, 1) := by decide +kernel
theorem dX8_read_187 : decode cX8_read 187 = .ok (.getfield 16, 3) := by decide +kernel
theorem dX8_read_190 : decode cX8_read 190 = .ok (.iload_n 2, 1) := by decide +kernel
theorem dX8_read_191 : decode cX8_read 191 = .ok (.bipush 48, 2) := by decide +kernel
theorem dX8_read_193 : decode cX8_read 193 = .ok (.aload_n 0, 1) := by decide +kernel
theorem dX8_read_194 : decode cX8_read 194 = .ok (.getfield 47, 3) := by decide +kernel
theorem dX8_read_197 : decode cX8_read 197 = .ok (.iload_n 2, 1) := by decide +kernel
theorem dX8_read_198 : decode cX8_read 198 = .ok (.iaload, 1) := by decide +kernel
theorem dX8_read_199 : decode cX8_read 199 = .ok (.iadd, 1) := by decide +kernel
theorem dX8_read_200 : decode cX8_read 200 = .ok (.iastore, 1) := by decide +kernel
theorem dX8_read_201 : decode cX8_read 201 = .ok (.iinc 2 1, 3) := by decide +kernel
theorem dX8_read_204 : decode cX8_read 204 = .ok (.goto (-26), 3) := by decide +kernel
theorem dX8_read_207 : decode cX8_read 207 = .ok (.aload_n 0, 1) := by decide +kernel
theorem dX8_read_208 : decode cX8_read 208 = .ok (.getfield 159, 3) := by decide +kernel
theorem dX8_read_211 : decode cX8_read 211 = .ok (.ireturn, 1) := by decide +kernel
theorem Y_RX8_191 : YV RX8 191 RX8 yX8_reads cX8_reads 11 (some .boolean) 1 := ⟨w945, w942, w944, w32, w52, by decide +kernel, by decide⟩
def wp_X8_read_178 (Q : Int → Mem → Prop) : Nat → Int → Mem → Prop
  | 0, _, _ => False
  | n + 1, x2, M => (Rg x2 ∧ Rg (M 62 21) ∧ ((M 62 21) ≤ x2 → Q (M 62 21) M) ∧ (¬ ((M 62 21) ≤ x2) → (0 ≤ x2 ∧ x2 < 12) ∧ (0 ≤ x2 ∧ x2 < 200) ∧ wp_X8_read_178 Q n (x2 + 1) (up M 65 x2.toNat (48 + (M 73 x2.toNat)))))
set_option maxHeartbeats 4000000 in
set_option maxRecDepth 100000 in
theorem v_X8_read_178 (E : En X (AW X) 2 p R s m args meth c cX8_read RX8 4 (some .int) 0 0) (Q : Int → Mem → Prop) : ∀ n : Nat, ∀ (x2 : Int) (M : Mem) (H : Heap) (locs : List Loc) (ls : Array Slot), wp_X8_read_178 Q n x2 M → Wd X (AW X) s M H locs → lv_has ls 4 [(0, .ref (xA X 62)), (2, .int (jI x2))] → W p l e R s m args below meth c H locs 0 0 (MQ below (QI X Q) args s 0 0 (AW X)) (F0 m 178 ls []) := by
  intro n
  induction n with
  | zero => intro x2 M H locs ls h; exact absurd h (by simp [wp_X8_read_178])
  | succ n ih =>
    intro x2 M H locs ls h hW hl
    rw [wp_X8_read_178] at h
    refine q_iload_n (n := 179) (q := 1) E.1 hl rfl dX8_read_178 rfl rfl ?_
    refine q_aload_n (n := 180) (q := 0) E.1 hl rfl dX8_read_179 rfl rfl ?_
    refine q_get (n := 183) (k := 21) (fs := (fs62 X)) (v := .int (jI (M 62 21))) E hW (by decide) (fun _ => rfl) K8 (by decide) w736 rfl rfl dX8_read_180 rfl ?_
    obtain ⟨g1, g2, h3, h4⟩ := h
    refine q_icmp_ge (t := 207) (n := 186) E.1 g1 g2 dX8_read_183 (by decide) rfl (fun c5 => ?_) (fun c5 => ?_)
    · have h := h3 c5
      refine q_aload_n (n := 208) (q := 0) E.1 hl rfl dX8_read_207 rfl rfl ?_
      refine q_get (n := 211) (k := 21) (fs := (fs62 X)) (v := .int (jI (M 62 21))) E hW (by decide) (fun _ => rfl) K8 (by decide) w736 rfl rfl dX8_read_208 rfl ?_
      exact q_iret E hW h dX8_read_211
    · have h := h4 c5
      refine q_aload_n (n := 187) (q := 0) E.1 hl rfl dX8_read_186 rfl rfl ?_
      refine q_get (n := 190) (k := 2) (fs := (fs62 X)) (v := .ref (xA X 65)) E hW (by decide) (fun _ => rfl) K8 (by decide) w717 rfl rfl dX8_read_187 rfl ?_
      refine q_iload_n (n := 191) (q := 1) E.1 hl rfl dX8_read_190 rfl rfl ?_
      refine q_bipush (n := 193) E.1 dX8_read_191 (by decide) rfl ?_
      refine q_aload_n (n := 194) (q := 0) E.1 hl rfl dX8_read_193 rfl rfl ?_
      refine q_get (n := 197) (k := 19) (fs := (fs62 X)) (v := .ref (xA X 73)) E hW (by decide) (fun _ => rfl) K8 (by decide) w734 rfl rfl dX8_read_194 rfl ?_
      refine q_iload_n (n := 198) (q := 1) E.1 hl rfl dX8_read_197 rfl rfl ?_
      obtain ⟨g6, h⟩ := h
      refine q_iald (n := 199) E hW (by decide) (fun _ => rfl) (by decide) g6 dX8_read_198 rfl ?_
      refine q_iadd (n := 200) E.1 dX8_read_199 rfl ?_
      obtain ⟨g7, h⟩ := h
      refine q_iast (n := 201) E hW (by decide) (fun _ => rfl) (by decide) g7 dX8_read_200 rfl (fun H locs hW => ?_)
      refine q_iinc (n := 204) (q := 1) [(2, .int (jI (x2 + 1))), (0, .ref (xA X 62))] E.1 hl rfl dX8_read_201 (by decide) rfl rfl (fun ls hl => ?_)
      refine q_goto (n := 178) E.1 dX8_read_204 (by decide) ?_
      exact ih _ _ _ _ _ h hW (lv_sub hl [1, 0] rfl)
def wp_X8_read_109 (Q : Int → Mem → Prop) (x1 : Int) (M : Mem) : Prop := (Rg x1 ∧ (x1 ≠ 0 → wp_X8_reads 0 M (fun r6 M5 => (Rg r6 ∧ (r6 ≠ 0 → (∃ n : Nat, wp_X8_read_178 Q n 0 (up M5 62 4 (M5 62 21)))) ∧ (¬ (r6 ≠ 0) → wp_X8_reads 1 M5 (fun r13 M12 => (Rg r13 ∧ (r13 ≠ 0 → (∃ n : Nat, wp_X8_read_178 Q n 0 (up (up M12 62 24 1) 62 4 ((up M12 62 24 1) 62 21)))) ∧ (¬ (r13 ≠ 0) → Q (-1) (up (up M12 62 23 (M5 62 26)) 62 25 (M5 62 27))))))))) ∧ (¬ (x1 ≠ 0) → Q (-1) (up (up M 62 23 1) 62 25 0)))
set_option maxHeartbeats 4000000 in
set_option maxRecDepth 100000 in
theorem v_X8_read_109 (E : En X (AW X) 2 p R s m args meth c cX8_read RX8 4 (some .int) 0 0) (Q : Int → Mem → Prop) : ∀ (x1 : Int) (M : Mem) (H : Heap) (locs : List Loc) (ls : Array Slot), wp_X8_read_109 Q x1 M → Wd X (AW X) s M H locs → lv_has ls 4 [(0, .ref (xA X 62)), (1, .int (jI x1))] → W p l e R s m args below meth c H locs 0 0 (MQ below (QI X Q) args s 0 0 (AW X)) (F0 m 109 ls []) := by
  intro x1 M H locs ls h hW hl
  unfold wp_X8_read_109 at h
  refine q_iload_n (n := 110) (q := 1) E.1 hl rfl dX8_read_109 rfl rfl ?_
  obtain ⟨g1, h2, h3⟩ := h
  refine q_if_ne (t := 125) (n := 113) E.1 g1 dX8_read_110 (by decide) rfl (fun c4 => ?_) (fun c4 => ?_)
  · have h := h2 c4
    refine q_aload_n (n := 126) (q := 0) E.1 hl rfl dX8_read_125 rfl rfl ?_
    refine q_iconst (n := 127) E.1 dX8_read_126 rfl ?_
    refine q_callVi (n := 130) (fs := (fs62 X)) [.int (jI 0)] E hW hl.1 (by decide) (fun _ => rfl) K8 (c_X8_reads l X E.2.2.1.1 0  _ _ h) (by decide) Y_RX8_191 rfl (rest := []) rfl (Nat.le_of_ble_eq_true rfl) dX8_read_127 rfl (fun r6 M5 H locs h hW => ?_)
    obtain ⟨g7, h8, h9⟩ := h
    refine q_if_ne (t := 168) (n := 133) E.1 g7 dX8_read_130 (by decide) rfl (fun c10 => ?_) (fun c10 => ?_)
    · have h := h8 c10
      refine q_aload_n (n := 169) (q := 0) E.1 hl rfl dX8_read_168 rfl rfl ?_
      refine q_aload_n (n := 170) (q := 0) E.1 hl rfl dX8_read_169 rfl rfl ?_
      refine q_get (n := 173) (k := 21) (fs := (fs62 X)) (v := .int (jI (M5 62 21))) E hW (by decide) (fun _ => rfl) K8 (by decide) w736 rfl rfl dX8_read_170 rfl ?_
      refine q_put (n := 176) (k := 4) (fs := (fs62 X)) E hW (by decide) (fun _ => rfl) K8 (by decide) w719 rfl rfl ⟨rfl, rfl⟩ (Nat.le_of_ble_eq_true rfl) (fun _ => rfl) dX8_read_173 rfl (fun H locs hW => ?_)
      refine q_iconst (n := 177) E.1 dX8_read_176 rfl ?_
      refine q_istore_n (n := 178) [(2, .int (jI 0)), (0, .ref (xA X 62)), (1, .int (jI x1))] E.1 hl dX8_read_177 rfl (by decide) rfl rfl (fun ls hl => ?_)
      obtain ⟨n11, h⟩ := h
      exact v_X8_read_178 E Q n11 _ _ _ _ _ h hW (lv_sub hl [1, 0] rfl)
    · have h := h9 c10
      refine q_aload_n (n := 134) (q := 0) E.1 hl rfl dX8_read_133 rfl rfl ?_
      refine q_get (n := 137) (k := 26) (fs := (fs62 X)) (v := .int (jI (M5 62 26))) E hW (by decide) (fun _ => rfl) K8 (by decide) w741 rfl rfl dX8_read_134 rfl ?_
      refine q_istore_n (n := 138) [(2, .int (jI (M5 62 26))), (0, .ref (xA X 62)), (1, .int (jI x1))] E.1 hl dX8_read_137 rfl (by decide) rfl rfl (fun ls hl => ?_)
      refine q_aload_n (n := 139) (q := 1) E.1 hl rfl dX8_read_138 rfl rfl ?_
      refine q_get (n := 142) (k := 27) (fs := (fs62 X)) (v := .int (jI (M5 62 27))) E hW (by decide) (fun _ => rfl) K8 (by decide) w742 rfl rfl dX8_read_139 rfl ?_
      refine q_istore_n (n := 143) [(3, .int (jI (M5 62 27))), (2, .int (jI (M5 62 26))), (0, .ref (xA X 62)), (1, .int (jI x1))] E.1 hl dX8_read_142 rfl (by decide) rfl rfl (fun ls hl => ?_)
      refine q_aload_n (n := 144) (q := 2) E.1 hl rfl dX8_read_143 rfl rfl ?_
      refine q_iconst (n := 145) E.1 dX8_read_144 rfl ?_
      refine q_callVi (n := 148) (fs := (fs62 X)) [.int (jI 1)] E hW hl.1 (by decide) (fun _ => rfl) K8 (c_X8_reads l X E.2.2.1.1 1  _ _ h) (by decide) Y_RX8_191 rfl (rest := []) rfl (Nat.le_of_ble_eq_true rfl) dX8_read_145 rfl (fun r13 M12 H locs h hW => ?_)
      obtain ⟨g14, h15, h16⟩ := h
      refine q_if_ne (t := 163) (n := 151) E.1 g14 dX8_read_148 (by decide) rfl (fun c17 => ?_) (fun c17 => ?_)
      · have h := h15 c17
        refine q_aload_n (n := 164) (q := 2) E.1 hl rfl dX8_read_163 rfl rfl ?_
        refine q_iconst (n := 165) E.1 dX8_read_164 rfl ?_
        refine q_put (n := 168) (k := 24) (fs := (fs62 X)) E hW (by decide) (fun _ => rfl) K8 (by decide) w739 rfl rfl ⟨rfl, rfl⟩ (Nat.le_of_ble_eq_true rfl) (fun _ => rfl) dX8_read_165 rfl (fun H locs hW => ?_)
        refine q_aload_n (n := 169) (q := 2) E.1 hl rfl dX8_read_168 rfl rfl ?_
        refine q_aload_n (n := 170) (q := 2) E.1 hl rfl dX8_read_169 rfl rfl ?_
        refine q_get (n := 173) (k := 21) (fs := (fs62 X)) (v := .int (jI ((up M12 62 24 1) 62 21))) E hW (by decide) (fun _ => rfl) K8 (by decide) w736 rfl rfl dX8_read_170 rfl ?_
        refine q_put (n := 176) (k := 4) (fs := (fs62 X)) E hW (by decide) (fun _ => rfl) K8 (by decide) w719 rfl rfl ⟨rfl, rfl⟩ (Nat.le_of_ble_eq_true rfl) (fun _ => rfl) dX8_read_173 rfl (fun H locs hW => ?_)
        refine q_iconst (n := 177) E.1 dX8_read_176 rfl ?_
        refine q_istore_n (n := 178) [(2, .int (jI 0)), (3, .int (jI (M5 62 27))), (0, .ref (xA X 62)), (1, .int (jI x1))] E.1 hl dX8_read_177 rfl (by decide) rfl rfl (fun ls hl => ?_)
        obtain ⟨n18, h⟩ := h
        exact v_X8_read_178 E Q n18 _ _ _ _ _ h hW (lv_sub hl [2, 0] rfl)
      · have h := h16 c17
        refine q_aload_n (n := 152) (q := 2) E.1 hl rfl dX8_read_151 rfl rfl ?_
        refine q_iload_n (n := 153) (q := 1) E.1 hl rfl dX8_read_152 rfl rfl ?_
        refine q_put (n := 156) (k := 23) (fs := (fs62 X)) E hW (by decide) (fun _ => rfl) K8 (by decide) w738 rfl rfl ⟨rfl, rfl⟩ (Nat.le_of_ble_eq_true rfl) (fun _ => rfl) dX8_read_153 rfl (fun H locs hW => ?_)
        refine q_aload_n (n := 157) (q := 2) E.1 hl rfl dX8_read_156 rfl rfl ?_
        refine q_iload_n (n := 158) (q := 0) E.1 hl rfl dX8_read_157 rfl rfl ?_
        refine q_put (n := 161) (k := 25) (fs := (fs62 X)) E hW (by decide) (fun _ => rfl) K8 (by decide) w740 rfl rfl ⟨rfl, rfl⟩ (Nat.le_of_ble_eq_true rfl) (fun _ => rfl) dX8_read_158 rfl (fun H locs hW => ?_)
        refine q_iconst (n := 162) E.1 dX8_read_161 rfl ?_
        exact q_iret E hW h dX8_read_162
  · have h := h3 c4
    refine q_aload_n (n := 114) (q := 0) E.1 hl rfl dX8_read_113 rfl rfl ?_
    refine q_iconst (n := 115) E.1 dX8_read_114 rfl ?_
    refine q_put (n := 118) (k := 23) (fs := (fs62 X)) E hW (by decide) (fun _ => rfl) K8 (by decide) w738 rfl rfl ⟨rfl, rfl⟩ (Nat.le_of_ble_eq_true rfl) (fun _ => rfl) dX8_read_115 rfl (fun H locs hW => ?_)
    refine q_aload_n (n := 119) (q := 0) E.1 hl rfl dX8_read_118 rfl rfl ?_
    refine q_iconst (n := 120) E.1 dX8_read_119 rfl ?_
    refine q_put (n := 123) (k := 25) (fs := (fs62 X)) E hW (by decide) (fun _ => rfl) K8 (by decide) w740 rfl rfl ⟨rfl, rfl⟩ (Nat.le_of_ble_eq_true rfl) (fun _ => rfl) dX8_read_120 rfl (fun H locs hW => ?_)
    refine q_iconst (n := 124) E.1 dX8_read_123 rfl ?_
    exact q_iret E hW h dX8_read_124
def wp_X8_read_66 (Q : Int → Mem → Prop) : Nat → Int → Int → Mem → Prop
  | 0, _, _, _ => False
  | n + 1, x1, x2, M => (Rg x2 ∧ Rg (M 62 22) ∧ ((M 62 22) ≤ x2 → wp_X8_read_109 Q x1 M) ∧ (¬ ((M 62 22) ≤ x2) → (Rg x1 ∧ (x1 = 0 → wp_X8_read_109 Q x1 M) ∧ (¬ (x1 = 0) → (0 ≤ x2 ∧ x2 < 200) ∧ (0 ≤ x2 ∧ x2 < 130) ∧ (0 ≤ x2 ∧ x2 < 200) ∧ wp_X8_isIn ((up M 74 x2.toNat (M 64 x2.toNat)) 64 x2.toNat) 1 99 (up M 74 x2.toNat (M 64 x2.toNat)) (fun r14 M13 => wp_X8_read_66 Q n r14 (x2 + 1) M13)))))
set_option maxHeartbeats 4000000 in
set_option maxRecDepth 100000 in
theorem v_X8_read_66 (E : En X (AW X) 2 p R s m args meth c cX8_read RX8 4 (some .int) 0 0) (Q : Int → Mem → Prop) : ∀ n : Nat, ∀ (x1 x2 : Int) (M : Mem) (H : Heap) (locs : List Loc) (ls : Array Slot), wp_X8_read_66 Q n x1 x2 M → Wd X (AW X) s M H locs → lv_has ls 4 [(0, .ref (xA X 62)), (1, .int (jI x1)), (2, .int (jI x2))] → W p l e R s m args below meth c H locs 0 0 (MQ below (QI X Q) args s 0 0 (AW X)) (F0 m 66 ls []) := by
  intro n
  induction n with
  | zero => intro x1 x2 M H locs ls h; exact absurd h (by simp [wp_X8_read_66])
  | succ n ih =>
    intro x1 x2 M H locs ls h hW hl
    rw [wp_X8_read_66] at h
    refine q_iload_n (n := 67) (q := 2) E.1 hl rfl dX8_read_66 rfl rfl ?_
    refine q_aload_n (n := 68) (q := 0) E.1 hl rfl dX8_read_67 rfl rfl ?_
    refine q_get (n := 71) (k := 22) (fs := (fs62 X)) (v := .int (jI (M 62 22))) E hW (by decide) (fun _ => rfl) K8 (by decide) w737 rfl rfl dX8_read_68 rfl ?_
    obtain ⟨g1, g2, h3, h4⟩ := h
    refine q_icmp_ge (t := 109) (n := 74) E.1 g1 g2 dX8_read_71 (by decide) rfl (fun c5 => ?_) (fun c5 => ?_)
    · have h := h3 c5
      exact v_X8_read_109 E Q _ _ _ _ _ h hW (lv_sub hl [0, 1] rfl)
    · have h := h4 c5
      refine q_iload_n (n := 75) (q := 1) E.1 hl rfl dX8_read_74 rfl rfl ?_
      obtain ⟨g6, h7, h8⟩ := h
      refine q_if_eq (t := 109) (n := 78) E.1 g6 dX8_read_75 (by decide) rfl (fun c9 => ?_) (fun c9 => ?_)
      · have h := h7 c9
        exact v_X8_read_109 E Q _ _ _ _ _ h hW (lv_sub hl [0, 1] rfl)
      · have h := h8 c9
        refine q_aload_n (n := 79) (q := 0) E.1 hl rfl dX8_read_78 rfl rfl ?_
        refine q_get (n := 82) (k := 20) (fs := (fs62 X)) (v := .ref (xA X 74)) E hW (by decide) (fun _ => rfl) K8 (by decide) w735 rfl rfl dX8_read_79 rfl ?_
        refine q_iload_n (n := 83) (q := 2) E.1 hl rfl dX8_read_82 rfl rfl ?_
        refine q_aload_n (n := 84) (q := 0) E.1 hl rfl dX8_read_83 rfl rfl ?_
        refine q_get (n := 87) (k := 1) (fs := (fs62 X)) (v := .ref (xA X 64)) E hW (by decide) (fun _ => rfl) K8 (by decide) w716 rfl rfl dX8_read_84 rfl ?_
        refine q_iload_n (n := 88) (q := 2) E.1 hl rfl dX8_read_87 rfl rfl ?_
        obtain ⟨g10, h⟩ := h
        refine q_iald (n := 89) E hW (by decide) (fun _ => rfl) (by decide) g10 dX8_read_88 rfl ?_
        obtain ⟨g11, h⟩ := h
        refine q_iast (n := 90) E hW (by decide) (fun _ => rfl) (by decide) g11 dX8_read_89 rfl (fun H locs hW => ?_)
        refine q_aload_n (n := 91) (q := 0) E.1 hl rfl dX8_read_90 rfl rfl ?_
        refine q_get (n := 94) (k := 1) (fs := (fs62 X)) (v := .ref (xA X 64)) E hW (by decide) (fun _ => rfl) K8 (by decide) w716 rfl rfl dX8_read_91 rfl ?_
        refine q_iload_n (n := 95) (q := 2) E.1 hl rfl dX8_read_94 rfl rfl ?_
        obtain ⟨g12, h⟩ := h
        refine q_iald (n := 96) E hW (by decide) (fun _ => rfl) (by decide) g12 dX8_read_95 rfl ?_
        refine q_iconst (n := 97) E.1 dX8_read_96 rfl ?_
        refine q_bipush (n := 99) E.1 dX8_read_97 (by decide) rfl ?_
        refine q_callSi (n := 102) [.int (jI ((up M 74 x2.toNat (M 64 x2.toNat)) 64 x2.toNat)), .int (jI 1), .int (jI 99)] E hW hl.1 (c_X8_isIn l X E.2.2.1.1 ((up M 74 x2.toNat (M 64 x2.toNat)) 64 x2.toNat) 1 99  _ _ h) (by decide) Y_RX8_103 rfl (rest := []) rfl (Nat.le_of_ble_eq_true rfl) dX8_read_99 rfl (fun r14 M13 H locs h hW => ?_)
        refine q_istore_n (n := 103) [(1, .int (jI r14)), (0, .ref (xA X 62)), (2, .int (jI x2))] E.1 hl dX8_read_102 rfl (by decide) rfl rfl (fun ls hl => ?_)
        refine q_iinc (n := 106) (q := 2) [(2, .int (jI (x2 + 1))), (1, .int (jI r14)), (0, .ref (xA X 62))] E.1 hl rfl dX8_read_103 (by decide) rfl rfl (fun ls hl => ?_)
        refine q_goto (n := 66) E.1 dX8_read_106 (by decide) ?_
        exact ih _ _ _ _ _ _ h hW (lv_sub hl [2, 1, 0] rfl)
def wp_X8_read (M : Mem) (Q : Int → Mem → Prop) : Prop := (Rg ((up (up (up (up (up M 62 22 (M 62 3)) 62 3 0) 62 23 0) 62 25 (-1)) 62 24 0) 62 22) ∧ (((up (up (up (up (up M 62 22 (M 62 3)) 62 3 0) 62 23 0) 62 25 (-1)) 62 24 0) 62 22) < 17 → (∃ n : Nat, wp_X8_read_66 Q n 0 0 (up (up (up (up (up M 62 22 (M 62 3)) 62 3 0) 62 23 0) 62 25 (-1)) 62 24 0))) ∧ (¬ (((up (up (up (up (up M 62 22 (M 62 3)) 62 3 0) 62 23 0) 62 25 (-1)) 62 24 0) 62 22) < 17) → (Rg ((up (up (up (up (up M 62 22 (M 62 3)) 62 3 0) 62 23 0) 62 25 (-1)) 62 24 0) 62 22) ∧ (67 < ((up (up (up (up (up M 62 22 (M 62 3)) 62 3 0) 62 23 0) 62 25 (-1)) 62 24 0) 62 22) → (∃ n : Nat, wp_X8_read_66 Q n 0 0 (up (up (up (up (up M 62 22 (M 62 3)) 62 3 0) 62 23 0) 62 25 (-1)) 62 24 0))) ∧ (¬ (67 < ((up (up (up (up (up M 62 22 (M 62 3)) 62 3 0) 62 23 0) 62 25 (-1)) 62 24 0) 62 22)) → (Rg ((up (up (up (up (up M 62 22 (M 62 3)) 62 3 0) 62 23 0) 62 25 (-1)) 62 24 0) 62 22) ∧ 0 ≤ ((up (up (up (up (up M 62 22 (M 62 3)) 62 3 0) 62 23 0) 62 25 (-1)) 62 24 0) 62 22)) ∧ (Rg (((up (up (up (up (up M 62 22 (M 62 3)) 62 3 0) 62 23 0) 62 25 (-1)) 62 24 0) 62 22) % 10) ∧ ((((up (up (up (up (up M 62 22 (M 62 3)) 62 3 0) 62 23 0) 62 25 (-1)) 62 24 0) 62 22) % 10) ≠ 7 → (∃ n : Nat, wp_X8_read_66 Q n 0 0 (up (up (up (up (up M 62 22 (M 62 3)) 62 3 0) 62 23 0) 62 25 (-1)) 62 24 0))) ∧ (¬ ((((up (up (up (up (up M 62 22 (M 62 3)) 62 3 0) 62 23 0) 62 25 (-1)) 62 24 0) 62 22) % 10) ≠ 7) → (∃ n : Nat, wp_X8_read_66 Q n 1 0 (up (up (up (up (up M 62 22 (M 62 3)) 62 3 0) 62 23 0) 62 25 (-1)) 62 24 0))))))))
set_option maxHeartbeats 4000000 in
set_option maxRecDepth 100000 in
theorem c_X8_read (l : Launch) (X : Cx) (hI : Inj X) (M : Mem) (Q : Int → Mem → Prop) (h : wp_X8_read M Q) : MI X l yX8_read cX8_read 4 (some .int) 2 [.ref (xA X 62)] M Q := by
  refine MI.of hI (by decide) (Nat.le_of_ble_eq_true rfl) ?_
  intro p e R s m args below meth c ls E hW hl
  have E : En X (AW X) 2 p R s m args meth c cX8_read RX8 4 (some .int) 0 0 := E
  have hl : lv_has ls 4 [(0, .ref (xA X 62))] := hl
  unfold wp_X8_read at h
  refine q_aload_n (n := 1) (q := 0) E.1 hl rfl dX8_read_0 rfl rfl ?_
  refine q_aload_n (n := 2) (q := 0) E.1 hl rfl dX8_read_1 rfl rfl ?_
  refine q_get (n := 5) (k := 3) (fs := (fs62 X)) (v := .int (jI (M 62 3))) E hW (by decide) (fun _ => rfl) K8 (by decide) w718 rfl rfl dX8_read_2 rfl ?_
  refine q_put (n := 8) (k := 22) (fs := (fs62 X)) E hW (by decide) (fun _ => rfl) K8 (by decide) w737 rfl rfl ⟨rfl, rfl⟩ (Nat.le_of_ble_eq_true rfl) (fun _ => rfl) dX8_read_5 rfl (fun H locs hW => ?_)
  refine q_aload_n (n := 9) (q := 0) E.1 hl rfl dX8_read_8 rfl rfl ?_
  refine q_iconst (n := 10) E.1 dX8_read_9 rfl ?_
  refine q_put (n := 13) (k := 3) (fs := (fs62 X)) E hW (by decide) (fun _ => rfl) K8 (by decide) w718 rfl rfl ⟨rfl, rfl⟩ (Nat.le_of_ble_eq_true rfl) (fun _ => rfl) dX8_read_10 rfl (fun H locs hW => ?_)
  refine q_aload_n (n := 14) (q := 0) E.1 hl rfl dX8_read_13 rfl rfl ?_
  refine q_iconst (n := 15) E.1 dX8_read_14 rfl ?_
  refine q_put (n := 18) (k := 23) (fs := (fs62 X)) E hW (by decide) (fun _ => rfl) K8 (by decide) w738 rfl rfl ⟨rfl, rfl⟩ (Nat.le_of_ble_eq_true rfl) (fun _ => rfl) dX8_read_15 rfl (fun H locs hW => ?_)
  refine q_aload_n (n := 19) (q := 0) E.1 hl rfl dX8_read_18 rfl rfl ?_
  refine q_iconst (n := 20) E.1 dX8_read_19 rfl ?_
  refine q_put (n := 23) (k := 25) (fs := (fs62 X)) E hW (by decide) (fun _ => rfl) K8 (by decide) w740 rfl rfl ⟨rfl, rfl⟩ (Nat.le_of_ble_eq_true rfl) (fun _ => rfl) dX8_read_20 rfl (fun H locs hW => ?_)
  refine q_aload_n (n := 24) (q := 0) E.1 hl rfl dX8_read_23 rfl rfl ?_
  refine q_iconst (n := 25) E.1 dX8_read_24 rfl ?_
  refine q_put (n := 28) (k := 24) (fs := (fs62 X)) E hW (by decide) (fun _ => rfl) K8 (by decide) w739 rfl rfl ⟨rfl, rfl⟩ (Nat.le_of_ble_eq_true rfl) (fun _ => rfl) dX8_read_25 rfl (fun H locs hW => ?_)
  refine q_aload_n (n := 29) (q := 0) E.1 hl rfl dX8_read_28 rfl rfl ?_
  refine q_get (n := 32) (k := 22) (fs := (fs62 X)) (v := .int (jI ((up (up (up (up (up M 62 22 (M 62 3)) 62 3 0) 62 23 0) 62 25 (-1)) 62 24 0) 62 22))) E hW (by decide) (fun _ => rfl) K8 (by decide) w737 rfl rfl dX8_read_29 rfl ?_
  refine q_bipush (n := 34) E.1 dX8_read_32 (by decide) rfl ?_
  obtain ⟨g1, h2, h3⟩ := h
  refine q_icmp_lt (t := 62) (n := 37) E.1 g1 (by decide) dX8_read_34 (by decide) rfl (fun c4 => ?_) (fun c4 => ?_)
  · have h := h2 c4
    refine q_iconst (n := 63) E.1 dX8_read_62 rfl ?_
    refine q_istore_n (n := 64) [(1, .int (jI 0)), (0, .ref (xA X 62))] E.1 hl dX8_read_63 rfl (by decide) rfl rfl (fun ls hl => ?_)
    refine q_iconst (n := 65) E.1 dX8_read_64 rfl ?_
    refine q_istore_n (n := 66) [(2, .int (jI 0)), (1, .int (jI 0)), (0, .ref (xA X 62))] E.1 hl dX8_read_65 rfl (by decide) rfl rfl (fun ls hl => ?_)
    obtain ⟨n5, h⟩ := h
    exact v_X8_read_66 E Q n5 _ _ _ _ _ _ h hW (lv_sub hl [2, 1, 0] rfl)
  · have h := h3 c4
    refine q_aload_n (n := 38) (q := 0) E.1 hl rfl dX8_read_37 rfl rfl ?_
    refine q_get (n := 41) (k := 22) (fs := (fs62 X)) (v := .int (jI ((up (up (up (up (up M 62 22 (M 62 3)) 62 3 0) 62 23 0) 62 25 (-1)) 62 24 0) 62 22))) E hW (by decide) (fun _ => rfl) K8 (by decide) w737 rfl rfl dX8_read_38 rfl ?_
    refine q_bipush (n := 43) E.1 dX8_read_41 (by decide) rfl ?_
    obtain ⟨g6, h7, h8⟩ := h
    refine q_icmp_gt (t := 62) (n := 46) E.1 g6 (by decide) dX8_read_43 (by decide) rfl (fun c9 => ?_) (fun c9 => ?_)
    · have h := h7 c9
      refine q_iconst (n := 63) E.1 dX8_read_62 rfl ?_
      refine q_istore_n (n := 64) [(1, .int (jI 0)), (0, .ref (xA X 62))] E.1 hl dX8_read_63 rfl (by decide) rfl rfl (fun ls hl => ?_)
      refine q_iconst (n := 65) E.1 dX8_read_64 rfl ?_
      refine q_istore_n (n := 66) [(2, .int (jI 0)), (1, .int (jI 0)), (0, .ref (xA X 62))] E.1 hl dX8_read_65 rfl (by decide) rfl rfl (fun ls hl => ?_)
      obtain ⟨n10, h⟩ := h
      exact v_X8_read_66 E Q n10 _ _ _ _ _ _ h hW (lv_sub hl [2, 1, 0] rfl)
    · have h := h8 c9
      refine q_aload_n (n := 47) (q := 0) E.1 hl rfl dX8_read_46 rfl rfl ?_
      refine q_get (n := 50) (k := 22) (fs := (fs62 X)) (v := .int (jI ((up (up (up (up (up M 62 22 (M 62 3)) 62 3 0) 62 23 0) 62 25 (-1)) 62 24 0) 62 22))) E hW (by decide) (fun _ => rfl) K8 (by decide) w737 rfl rfl dX8_read_47 rfl ?_
      refine q_bipush (n := 52) E.1 dX8_read_50 (by decide) rfl ?_
      obtain ⟨g11, h⟩ := h
      refine q_irem (n := 53) E.1 g11 (by decide) dX8_read_52 rfl ?_
      refine q_bipush (n := 55) E.1 dX8_read_53 (by decide) rfl ?_
      obtain ⟨g12, h13, h14⟩ := h
      refine q_icmp_ne (t := 62) (n := 58) E.1 g12 (by decide) dX8_read_55 (by decide) rfl (fun c15 => ?_) (fun c15 => ?_)
      · have h := h13 c15
        refine q_iconst (n := 63) E.1 dX8_read_62 rfl ?_
        refine q_istore_n (n := 64) [(1, .int (jI 0)), (0, .ref (xA X 62))] E.1 hl dX8_read_63 rfl (by decide) rfl rfl (fun ls hl => ?_)
        refine q_iconst (n := 65) E.1 dX8_read_64 rfl ?_
        refine q_istore_n (n := 66) [(2, .int (jI 0)), (1, .int (jI 0)), (0, .ref (xA X 62))] E.1 hl dX8_read_65 rfl (by decide) rfl rfl (fun ls hl => ?_)
        obtain ⟨n16, h⟩ := h
        exact v_X8_read_66 E Q n16 _ _ _ _ _ _ h hW (lv_sub hl [2, 1, 0] rfl)
      · have h := h14 c15
        refine q_iconst (n := 59) E.1 dX8_read_58 rfl ?_
        refine q_goto (n := 63) E.1 dX8_read_59 (by decide) ?_
        refine q_istore_n (n := 64) [(1, .int (jI 1)), (0, .ref (xA X 62))] E.1 hl dX8_read_63 rfl (by decide) rfl rfl (fun ls hl => ?_)
        refine q_iconst (n := 65) E.1 dX8_read_64 rfl ?_
        refine q_istore_n (n := 66) [(2, .int (jI 0)), (1, .int (jI 1)), (0, .ref (xA X 62))] E.1 hl dX8_read_65 rfl (by decide) rfl rfl (fun ls hl => ?_)
        obtain ⟨n17, h⟩ := h
        exact v_X8_read_66 E Q n17 _ _ _ _ _ _ h hW (lv_sub hl [2, 1, 0] rfl)
/-! StickerPressModel.fault(I)I -/
theorem dX8_fault_0 : decode cX8_fault 0 = .ok (.iload_n 1, 1) := by decide +kernel
theorem dX8_fault_1 : decode cX8_fault 1 = .ok (.ifCond .ne 10, 3) := by decide +kernel
theorem dX8_fault_4 : decode cX8_fault 4 = .ok (.aload_n 0, 1) := by decide +kernel
theorem dX8_fault_5 : decode cX8_fault 5 = .ok (.getfield 185, 3) := by decide +kernel
theorem dX8_fault_8 : decode cX8_fault 8 = .ok (.goto 28, 3) := by decide +kernel
theorem dX8_fault_11 : decode cX8_fault 11 = .ok (.iload_n 1, 1) := by decide +kernel
theorem dX8_fault_12 : decode cX8_fault 12 = .ok (.iconst 1, 1) := by decide +kernel
theorem dX8_fault_13 : decode cX8_fault 13 = .ok (.if_icmp .ne 10, 3) := by decide +kernel
theorem dX8_fault_16 : decode cX8_fault 16 = .ok (.aload_n 0, 1) := by decide +kernel
theorem dX8_fault_17 : decode cX8_fault 17 = .ok (.getfield 53, 3) := by decide +kernel
theorem dX8_fault_20 : decode cX8_fault 20 = .ok (.goto 16, 3) := by decide +kernel
theorem dX8_fault_23 : decode cX8_fault 23 = .ok (.iload_n 1, 1) := by decide +kernel
theorem dX8_fault_24 : decode cX8_fault 24 = .ok (.iconst 2, 1) := by decide +kernel
theorem dX8_fault_25 : decode cX8_fault 25 = .ok (.if_icmp .ne 10, 3) := by decide +kernel
theorem dX8_fault_28 : decode cX8_fault 28 = .ok (.aload_n 0, 1) := by decide +kernel
theorem dX8_fault_29 : decode cX8_fault 29 = .ok (.getfield 188, 3) := by decide +kernel
theorem dX8_fault_32 : decode cX8_fault 32 = .ok (.goto 4, 3) := by decide +kernel
theorem dX8_fault_35 : decode cX8_fault 35 = .ok (.iconst (-1), 1) := by decide +kernel
theorem dX8_fault_36 : decode cX8_fault 36 = .ok (.ireturn, 1) := by decide +kernel
def wp_X8_fault (a1 : Int) (M : Mem) (Q : Int → Mem → Prop) : Prop := (Rg a1 ∧ (a1 ≠ 0 → (Rg a1 ∧ (a1 ≠ 1 → (Rg a1 ∧ (a1 ≠ 2 → Q (-1) M) ∧ (¬ (a1 ≠ 2) → Q (M 62 24) M))) ∧ (¬ (a1 ≠ 1) → Q (M 62 25) M))) ∧ (¬ (a1 ≠ 0) → Q (M 62 23) M))
set_option maxHeartbeats 4000000 in
set_option maxRecDepth 100000 in
theorem c_X8_fault (l : Launch) (X : Cx) (hI : Inj X) (a1 : Int) (M : Mem) (Q : Int → Mem → Prop) (h : wp_X8_fault a1 M Q) : MI X l yX8_fault cX8_fault 2 (some .int) 0 [.ref (xA X 62), .int (jI a1)] M Q := by
  refine MI.of hI (by decide) (Nat.le_of_ble_eq_true rfl) ?_
  intro p e R s m args below meth c ls E hW hl
  have E : En X (AW X) 0 p R s m args meth c cX8_fault RX8 2 (some .int) 0 0 := E
  have hl : lv_has ls 2 [(0, .ref (xA X 62)), (1, .int (jI a1))] := hl
  unfold wp_X8_fault at h
  refine q_iload_n (n := 1) (q := 1) E.1 hl rfl dX8_fault_0 rfl rfl ?_
  obtain ⟨g1, h2, h3⟩ := h
  refine q_if_ne (t := 11) (n := 4) E.1 g1 dX8_fault_1 (by decide) rfl (fun c4 => ?_) (fun c4 => ?_)
  · have h := h2 c4
    refine q_iload_n (n := 12) (q := 1) E.1 hl rfl dX8_fault_11 rfl rfl ?_
    refine q_iconst (n := 13) E.1 dX8_fault_12 rfl ?_
    obtain ⟨g5, h6, h7⟩ := h
    refine q_icmp_ne (t := 23) (n := 16) E.1 g5 (by decide) dX8_fault_13 (by decide) rfl (fun c8 => ?_) (fun c8 => ?_)
    · have h := h6 c8
      refine q_iload_n (n := 24) (q := 1) E.1 hl rfl dX8_fault_23 rfl rfl ?_
      refine q_iconst (n := 25) E.1 dX8_fault_24 rfl ?_
      obtain ⟨g9, h10, h11⟩ := h
      refine q_icmp_ne (t := 35) (n := 28) E.1 g9 (by decide) dX8_fault_25 (by decide) rfl (fun c12 => ?_) (fun c12 => ?_)
      · have h := h10 c12
        refine q_iconst (n := 36) E.1 dX8_fault_35 rfl ?_
        exact q_iret E hW h dX8_fault_36
      · have h := h11 c12
        refine q_aload_n (n := 29) (q := 0) E.1 hl rfl dX8_fault_28 rfl rfl ?_
        refine q_get (n := 32) (k := 24) (fs := (fs62 X)) (v := .int (jI (M 62 24))) E hW (by decide) (fun _ => rfl) K8 (by decide) w739 rfl rfl dX8_fault_29 rfl ?_
        refine q_goto (n := 36) E.1 dX8_fault_32 (by decide) ?_
        exact q_iret E hW h dX8_fault_36
    · have h := h7 c8
      refine q_aload_n (n := 17) (q := 0) E.1 hl rfl dX8_fault_16 rfl rfl ?_
      refine q_get (n := 20) (k := 25) (fs := (fs62 X)) (v := .int (jI (M 62 25))) E hW (by decide) (fun _ => rfl) K8 (by decide) w740 rfl rfl dX8_fault_17 rfl ?_
      refine q_goto (n := 36) E.1 dX8_fault_20 (by decide) ?_
      exact q_iret E hW h dX8_fault_36
  · have h := h3 c4
    refine q_aload_n (n := 5) (q := 0) E.1 hl rfl dX8_fault_4 rfl rfl ?_
    refine q_get (n := 8) (k := 23) (fs := (fs62 X)) (v := .int (jI (M 62 23))) E hW (by decide) (fun _ => rfl) K8 (by decide) w738 rfl rfl dX8_fault_5 rfl ?_
    refine q_goto (n := 36) E.1 dX8_fault_8 (by decide) ?_
    exact q_iret E hW h dX8_fault_36
end
