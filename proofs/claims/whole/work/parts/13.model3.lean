/-! the reference: sheets -/
section
variable {X : Cx} {p : Program} {l : Launch} {e : Env} {R : Room} {s : State} {m : MethodId} {args : Array Value} {below : List Frame} {meth : Method} {c : Code}
/-! StickerPressModel.isSheet(I)Z -/
theorem dX8_isSheet_0 : decode cX8_isSheet 0 = .ok (.iload_n 0, 1) := by decide +kernel
theorem dX8_isSheet_1 : decode cX8_isSheet 1 = .ok (.iconst 0, 1) := by decide +kernel
theorem dX8_isSheet_2 : decode cX8_isSheet 2 = .ok (.iconst 2, 1) := by decide +kernel
theorem dX8_isSheet_3 : decode cX8_isSheet 3 = .ok (.invokestatic 103, 3) := by decide +kernel
theorem dX8_isSheet_6 : decode cX8_isSheet 6 = .ok (.ireturn, 1) := by decide +kernel
def wp_X8_isSheet (a0 : Int) (M : Mem) (Q : Int → Mem → Prop) : Prop := wp_X8_isIn a0 0 2 M (fun r2 M1 => ((r2 = 0 ∨ r2 = 1) ∧ Q r2 M1))
set_option maxHeartbeats 4000000 in
set_option maxRecDepth 100000 in
theorem c_X8_isSheet (l : Launch) (X : Cx) (hI : Inj X) (a0 : Int) (M : Mem) (Q : Int → Mem → Prop) (h : wp_X8_isSheet a0 M Q) : MI X l yX8_isSheet cX8_isSheet 1 (some .boolean) 1 [.int (jI a0)] M Q := by
  refine MI.of hI (by decide) (Nat.le_of_ble_eq_true rfl) ?_
  intro p e R s m args below meth c ls E hW hl
  have E : En X (AW X) 1 p R s m args meth c cX8_isSheet RX8 1 (some .boolean) 0 0 := E
  have hl : lv_has ls 1 [(0, .int (jI a0))] := hl
  unfold wp_X8_isSheet at h
  refine q_iload_n (n := 1) (q := 0) E.1 hl rfl dX8_isSheet_0 rfl rfl ?_
  refine q_iconst (n := 2) E.1 dX8_isSheet_1 rfl ?_
  refine q_iconst (n := 3) E.1 dX8_isSheet_2 rfl ?_
  refine q_callSi (n := 6) [.int (jI a0), .int (jI 0), .int (jI 2)] E hW hl.1 (c_X8_isIn l X E.2.2.1.1 a0 0 2  _ _ h) (by decide) Y_RX8_103 rfl (rest := []) rfl (Nat.le_of_ble_eq_true rfl) dX8_isSheet_3 rfl (fun r2 M1 H locs h hW => ?_)
  exact q_zret E hW h.1 h.2 dX8_isSheet_6
/-! StickerPressModel.sheet(IJ)Z -/
theorem dX8_sheet_0 : decode cX8_sheet 0 = .ok (.iload_n 1, 1) := by decide +kernel
theorem dX8_sheet_1 : decode cX8_sheet 1 = .ok (.invokestatic 195, 3) := by decide +kernel
theorem dX8_sheet_4 : decode cX8_sheet 4 = .ok (.ifCond .eq 18, 3) := by decide +kernel
theorem dX8_sheet_7 : decode cX8_sheet 7 = .ok (.lload_n 2, 1) := by decide +kernel
theorem dX8_sheet_8 : decode cX8_sheet 8 = .ok (.lconst 0, 1) := by decide +kernel
theorem dX8_sheet_9 : decode cX8_sheet 9 = .ok (.lcmp, 1) := by decide +kernel
theorem dX8_sheet_10 : decode cX8_sheet 10 = .ok (.ifCond .lt 12, 3) := by decide +kernel
theorem dX8_sheet_13 : decode cX8_sheet 13 = .ok (.lload_n 2, 1) := by decide +kernel
theorem dX8_sheet_14 : decode cX8_sheet 14 = .ok (.bipush 40, 2) := by decide +kernel
theorem dX8_sheet_16 : decode cX8_sheet 16 = .ok (.lshr, 1) := by decide +kernel
theorem dX8_sheet_17 : decode cX8_sheet 17 = .ok (.lconst 0, 1) := by decide +kernel
theorem dX8_sheet_18 : decode cX8_sheet 18 = .ok (.lcmp, 1) := by decide +kernel
theorem dX8_sheet_19 : decode cX8_sheet 19 = .ok (.ifCond .eq 5, 3) := by decide +kernel
theorem dX8_sheet_22 : decode cX8_sheet 22 = .ok (.iconst 0, 1) := by decide +kernel
theorem dX8_sheet_23 : decode cX8_sheet 23 = .ok (.ireturn, 1) := by decide +kernel
theorem dX8_sheet_24 : decode cX8_sheet 24 = .ok (.aload_n 0, 1) := by decide +kernel
theorem dX8_sheet_25 : decode cX8_sheet 25 = .ok (.getfield 56, 3) := by decide +kernel
theorem dX8_sheet_28 : decode cX8_sheet 28 = .ok (.iload_n 1, 1) := by decide +kernel
theorem dX8_sheet_29 : decode cX8_sheet 29 = .ok (.lload_n 2, 1) := by decide +kernel
theorem dX8_sheet_30 : decode cX8_sheet 30 = .ok (.lastore, 1) := by decide +kernel
theorem dX8_sheet_31 : decode cX8_sheet 31 = .ok (.iconst 0, 1) := by decide +kernel
theorem dX8_sheet_32 : decode cX8_sheet 32 = .ok (.istore 4, 2) := by decide +kernel
theorem dX8_sheet_34 : decode cX8_sheet 34 = .ok (.iload 4, 2) := by decide +kernel
theorem dX8_sheet_36 : decode cX8_sheet 36 = .ok (.bipush 40, 2) := by decide +kernel
theorem dX8_sheet_38 : decode cX8_sheet 38 = .ok (.if_icmp .ge 35, 3) := by decide +kernel
theorem dX8_sheet_41 : decode cX8_sheet 41 = .ok (.aload_n 0, 1) := by decide +kernel
theorem dX8_sheet_42 : decode cX8_sheet 42 = .ok (.getfield 60, 3) := by decide +kernel
theorem dX8_sheet_45 : decode cX8_sheet 45 = .ok (.bipush 40, 2) := by decide +kernel
theorem dX8_sheet_47 : decode cX8_sheet 47 = .ok (.iload_n 1, 1) := by decide +kernel
theorem dX8_sheet_48 : decode cX8_sheet 48 = .ok (.imul, 1) := by decide +kernel
theorem dX8_sheet_49 : decode cX8_sheet 49 = .ok (.iload 4, 2) := by decide +kernel
theorem dX8_sheet_51 : decode cX8_sheet 51 = .ok (.iadd, 1) := by decide +kernel
theorem dX8_sheet_52 : decode cX8_sheet 52 = .ok (.iconst (-1), 1) := by decide +kernel
theorem dX8_sheet_53 : decode cX8_sheet 53 = .ok (.iastore, 1) := by decide +kernel
theorem dX8_sheet_54 : decode cX8_sheet 54 = .ok (.aload_n 0, 1) := by decide +kernel
theorem dX8_sheet_55 : decode cX8_sheet 55 = .ok (.getfield 63, 3) := by decide +kernel
theorem dX8_sheet_58 : decode cX8_sheet 58 = .ok (.bipush 40, 2) := by decide +kernel
theorem dX8_sheet_60 : decode cX8_sheet 60 = .ok (.iload_n 1, 1) := by decide +kernel
theorem dX8_sheet_61 : decode cX8_sheet 61 = .ok (.imul, 1) := by decide +kernel
theorem dX8_sheet_62 : decode cX8_sheet 62 = .ok (.iload 4, 2) := by decide +kernel
theorem dX8_sheet_64 : decode cX8_sheet 64 = .ok (.iadd, 1) := by decide +kernel
theorem dX8_sheet_65 : decode cX8_sheet 65 = .ok (.iconst 0, 1) := by decide +kernel
theorem dX8_sheet_66 : decode cX8_sheet 66 = .ok (.bastore, 1) := by decide +kernel
theorem dX8_sheet_67 : decode cX8_sheet 67 = .ok (.iinc 4 1, 3) := by decide +kernel
theorem dX8_sheet_70 : decode cX8_sheet 70 = .ok (.goto (-36), 3) := by decide +kernel
theorem dX8_sheet_73 : decode cX8_sheet 73 = .ok (.iconst 1, 1) := by decide +kernel
theorem dX8_sheet_74 : decode cX8_sheet 74 = .ok (.ireturn, 1) := by decide +kernel
theorem Y_RX8_195 : YS RX8 195 yX8_isSheet cX8_isSheet 1 (some .boolean) 1 := ⟨w964, w962, w963, w52, by decide +kernel, by decide⟩
def wp_X8_sheet_34 (a1 : Int) (a2 : Int) (Q : Int → Mem → Prop) : Nat → Int → Mem → Prop
  | 0, _, _ => False
  | n + 1, x4, M => (Rg x4 ∧ (40 ≤ x4 → Q 1 M) ∧ (¬ (40 ≤ x4) → (0 ≤ ((40 * a1) + x4) ∧ ((40 * a1) + x4) < 120) ∧ (0 ≤ ((40 * a1) + x4) ∧ ((40 * a1) + x4) < 120) ∧ wp_X8_sheet_34 a1 a2 Q n (x4 + 1) (up (up M 76 ((40 * a1) + x4).toNat (-1)) 77 ((40 * a1) + x4).toNat 0)))
set_option maxHeartbeats 4000000 in
set_option maxRecDepth 100000 in
theorem v_X8_sheet_34 (a1 : Int) (a2 : Int) (E : En X (AW X) 2 p R s m args meth c cX8_sheet RX8 5 (some .boolean) 0 0) (Q : Int → Mem → Prop) : ∀ n : Nat, ∀ (x4 : Int) (M : Mem) (H : Heap) (locs : List Loc) (ls : Array Slot), wp_X8_sheet_34 a1 a2 Q n x4 M → Wd X (AW X) s M H locs → lv_has ls 5 [(0, .ref (xA X 62)), (1, .int (jI a1)), (4, .int (jI x4))] → W p l e R s m args below meth c H locs 0 0 (MQ below (QI X Q) args s 0 0 (AW X)) (F0 m 34 ls []) := by
  intro n
  induction n with
  | zero => intro x4 M H locs ls h; exact absurd h (by simp [wp_X8_sheet_34])
  | succ n ih =>
    intro x4 M H locs ls h hW hl
    rw [wp_X8_sheet_34] at h
    refine q_iload (n := 36) (q := 2) E.1 hl rfl dX8_sheet_34 rfl ?_
    refine q_bipush (n := 38) E.1 dX8_sheet_36 (by decide) rfl ?_
    obtain ⟨g1, h2, h3⟩ := h
    refine q_icmp_ge (t := 73) (n := 41) E.1 g1 (by decide) dX8_sheet_38 (by decide) rfl (fun c4 => ?_) (fun c4 => ?_)
    · have h := h2 c4
      refine q_iconst (n := 74) E.1 dX8_sheet_73 rfl ?_
      exact q_zret E hW (Or.inr rfl) h dX8_sheet_74
    · have h := h3 c4
      refine q_aload_n (n := 42) (q := 0) E.1 hl rfl dX8_sheet_41 rfl rfl ?_
      refine q_get (n := 45) (k := 29) (fs := (fs62 X)) (v := .ref (xA X 76)) E hW (by decide) (fun _ => rfl) K8 (by decide) w744 rfl rfl dX8_sheet_42 rfl ?_
      refine q_bipush (n := 47) E.1 dX8_sheet_45 (by decide) rfl ?_
      refine q_iload_n (n := 48) (q := 1) E.1 hl rfl dX8_sheet_47 rfl rfl ?_
      refine q_imul (n := 49) E.1 dX8_sheet_48 rfl ?_
      refine q_iload (n := 51) (q := 2) E.1 hl rfl dX8_sheet_49 rfl ?_
      refine q_iadd (n := 52) E.1 dX8_sheet_51 rfl ?_
      refine q_iconst (n := 53) E.1 dX8_sheet_52 rfl ?_
      obtain ⟨g5, h⟩ := h
      refine q_iast (n := 54) E hW (by decide) (fun _ => rfl) (by decide) g5 dX8_sheet_53 rfl (fun H locs hW => ?_)
      refine q_aload_n (n := 55) (q := 0) E.1 hl rfl dX8_sheet_54 rfl rfl ?_
      refine q_get (n := 58) (k := 30) (fs := (fs62 X)) (v := .ref (xA X 77)) E hW (by decide) (fun _ => rfl) K8 (by decide) w745 rfl rfl dX8_sheet_55 rfl ?_
      refine q_bipush (n := 60) E.1 dX8_sheet_58 (by decide) rfl ?_
      refine q_iload_n (n := 61) (q := 1) E.1 hl rfl dX8_sheet_60 rfl rfl ?_
      refine q_imul (n := 62) E.1 dX8_sheet_61 rfl ?_
      refine q_iload (n := 64) (q := 2) E.1 hl rfl dX8_sheet_62 rfl ?_
      refine q_iadd (n := 65) E.1 dX8_sheet_64 rfl ?_
      refine q_iconst (n := 66) E.1 dX8_sheet_65 rfl ?_
      obtain ⟨g6, h⟩ := h
      refine q_zast (n := 67) E hW (by decide) (fun _ => rfl) (by decide) g6 (Or.inl rfl) dX8_sheet_66 rfl (fun H locs hW => ?_)
      refine q_iinc (n := 70) (q := 2) [(4, .int (jI (x4 + 1))), (0, .ref (xA X 62)), (1, .int (jI a1))] E.1 hl rfl dX8_sheet_67 (by decide) rfl rfl (fun ls hl => ?_)
      refine q_goto (n := 34) E.1 dX8_sheet_70 (by decide) ?_
      exact ih _ _ _ _ _ h hW (lv_sub hl [1, 2, 0] rfl)
def wp_X8_sheet (a1 : Int) (a2 : Int) (M : Mem) (Q : Int → Mem → Prop) : Prop := wp_X8_isSheet a1 M (fun r2 M1 => (Rg r2 ∧ (r2 = 0 → Q 0 M1) ∧ (¬ (r2 = 0) → (Rg (lCmp a2 0) ∧ ((lCmp a2 0) < 0 → Q 0 M1) ∧ (¬ ((lCmp a2 0) < 0) → (Rg (lCmp (lShr a2 40) 0) ∧ ((lCmp (lShr a2 40) 0) = 0 → (0 ≤ a1 ∧ a1 < 3) ∧ (∃ n : Nat, wp_X8_sheet_34 a1 a2 Q n 0 (up M1 75 a1.toNat a2))) ∧ (¬ ((lCmp (lShr a2 40) 0) = 0) → Q 0 M1)))))))
set_option maxHeartbeats 4000000 in
set_option maxRecDepth 100000 in
theorem c_X8_sheet (l : Launch) (X : Cx) (hI : Inj X) (a1 : Int) (a2 : Int) (M : Mem) (Q : Int → Mem → Prop) (h : wp_X8_sheet a1 a2 M Q) : MI X l yX8_sheet cX8_sheet 5 (some .boolean) 2 [.ref (xA X 62), .int (jI a1), .long (jL a2)] M Q := by
  refine MI.of hI (by decide) (Nat.le_of_ble_eq_true rfl) ?_
  intro p e R s m args below meth c ls E hW hl
  have E : En X (AW X) 2 p R s m args meth c cX8_sheet RX8 5 (some .boolean) 0 0 := E
  have hl : lv_has ls 5 [(0, .ref (xA X 62)), (1, .int (jI a1)), (2, .long (jL a2))] := hl
  unfold wp_X8_sheet at h
  refine q_iload_n (n := 1) (q := 1) E.1 hl rfl dX8_sheet_0 rfl rfl ?_
  refine q_callSi (n := 4) [.int (jI a1)] E hW hl.1 (c_X8_isSheet l X E.2.2.1.1 a1  _ _ h) (by decide) Y_RX8_195 rfl (rest := []) rfl (Nat.le_of_ble_eq_true rfl) dX8_sheet_1 rfl (fun r2 M1 H locs h hW => ?_)
  obtain ⟨g3, h4, h5⟩ := h
  refine q_if_eq (t := 22) (n := 7) E.1 g3 dX8_sheet_4 (by decide) rfl (fun c6 => ?_) (fun c6 => ?_)
  · have h := h4 c6
    refine q_iconst (n := 23) E.1 dX8_sheet_22 rfl ?_
    exact q_zret E hW (Or.inl rfl) h dX8_sheet_23
  · have h := h5 c6
    refine q_lload_n (n := 8) (q := 2) E.1 hl rfl dX8_sheet_7 rfl rfl ?_
    refine q_lconst (n := 9) (w := 0) E.1 dX8_sheet_8 (by decide) rfl ?_
    refine q_lcmp (n := 10) E.1 dX8_sheet_9 rfl ?_
    obtain ⟨g7, h8, h9⟩ := h
    refine q_if_lt (t := 22) (n := 13) E.1 g7 dX8_sheet_10 (by decide) rfl (fun c10 => ?_) (fun c10 => ?_)
    · have h := h8 c10
      refine q_iconst (n := 23) E.1 dX8_sheet_22 rfl ?_
      exact q_zret E hW (Or.inl rfl) h dX8_sheet_23
    · have h := h9 c10
      refine q_lload_n (n := 14) (q := 2) E.1 hl rfl dX8_sheet_13 rfl rfl ?_
      refine q_bipush (n := 16) E.1 dX8_sheet_14 (by decide) rfl ?_
      refine q_lshr (n := 17) E.1 dX8_sheet_16 rfl ?_
      refine q_lconst (n := 18) (w := 0) E.1 dX8_sheet_17 (by decide) rfl ?_
      refine q_lcmp (n := 19) E.1 dX8_sheet_18 rfl ?_
      obtain ⟨g11, h12, h13⟩ := h
      refine q_if_eq (t := 24) (n := 22) E.1 g11 dX8_sheet_19 (by decide) rfl (fun c14 => ?_) (fun c14 => ?_)
      · have h := h12 c14
        refine q_aload_n (n := 25) (q := 0) E.1 hl rfl dX8_sheet_24 rfl rfl ?_
        refine q_get (n := 28) (k := 28) (fs := (fs62 X)) (v := .ref (xA X 75)) E hW (by decide) (fun _ => rfl) K8 (by decide) w743 rfl rfl dX8_sheet_25 rfl ?_
        refine q_iload_n (n := 29) (q := 1) E.1 hl rfl dX8_sheet_28 rfl rfl ?_
        refine q_lload_n (n := 30) (q := 2) E.1 hl rfl dX8_sheet_29 rfl rfl ?_
        obtain ⟨g15, h⟩ := h
        refine q_last (n := 31) E hW (by decide) (fun _ => rfl) (by decide) g15 dX8_sheet_30 rfl (fun H locs hW => ?_)
        refine q_iconst (n := 32) E.1 dX8_sheet_31 rfl ?_
        refine q_istore (n := 34) [(4, .int (jI 0)), (0, .ref (xA X 62)), (1, .int (jI a1)), (2, .long (jL a2))] E.1 hl dX8_sheet_32 (by decide) rfl rfl (fun ls hl => ?_)
        obtain ⟨n16, h⟩ := h
        exact v_X8_sheet_34 a1 a2 E Q n16 _ _ _ _ _ h hW (lv_sub hl [1, 2, 0] rfl)
      · have h := h13 c14
        refine q_iconst (n := 23) E.1 dX8_sheet_22 rfl ?_
        exact q_zret E hW (Or.inl rfl) h dX8_sheet_23
/-! StickerPressModel.waiting(I)I -/
theorem dX8_waiting_0 : decode cX8_waiting 0 = .ok (.iconst 0, 1) := by decide +kernel
theorem dX8_waiting_1 : decode cX8_waiting 1 = .ok (.istore_n 2, 1) := by decide +kernel
theorem dX8_waiting_2 : decode cX8_waiting 2 = .ok (.iconst 0, 1) := by decide +kernel
theorem dX8_waiting_3 : decode cX8_waiting 3 = .ok (.istore_n 3, 1) := by decide +kernel
theorem dX8_waiting_4 : decode cX8_waiting 4 = .ok (.iload_n 3, 1) := by decide +kernel
theorem dX8_waiting_5 : decode cX8_waiting 5 = .ok (.aload_n 0, 1) := by decide +kernel
theorem dX8_waiting_6 : decode cX8_waiting 6 = .ok (.getfield 198, 3) := by decide +kernel
theorem dX8_waiting_9 : decode cX8_waiting 9 = .ok (.if_icmp .ge 36, 3) := by decide +kernel
theorem dX8_waiting_12 : decode cX8_waiting 12 = .ok (.iload_n 2, 1) := by decide +kernel
theorem dX8_waiting_13 : decode cX8_waiting 13 = .ok (.aload_n 0, 1) := by decide +kernel
theorem dX8_waiting_14 : decode cX8_waiting 14 = .ok (.getfield 73, 3) := by decide +kernel
theorem dX8_waiting_17 : decode cX8_waiting 17 = .ok (.iload_n 3, 1) := by decide +kernel
theorem dX8_waiting_18 : decode cX8_waiting 18 = .ok (.baload, 1) := by decide +kernel
theorem dX8_waiting_19 : decode cX8_waiting 19 = .ok (.ifCond .eq 17, 3) := by decide +kernel
theorem dX8_waiting_22 : decode cX8_waiting 22 = .ok (.aload_n 0, 1) := by decide +kernel
theorem dX8_waiting_23 : decode cX8_waiting 23 = .ok (.getfield 67, 3) := by decide +kernel
theorem dX8_waiting_26 : decode cX8_waiting 26 = .ok (.iload_n 3, 1) := by decide +kernel
theorem dX8_waiting_27 : decode cX8_waiting 27 = .ok (.iaload, 1) := by decide +kernel
theorem dX8_waiting_28 : decode cX8_waiting 28 = .ok (.iload_n 1, 1) := by decide +kernel
theorem dX8_waiting_29 : decode cX8_waiting 29 = .ok (.if_icmp .ne 7, 3) := by decide +kernel
theorem dX8_waiting_32 : decode cX8_waiting 32 = .ok (.iconst 1, 1) := by decide +kernel
theorem dX8_waiting_33 : decode cX8_waiting 33 = .ok (.goto 4, 3) := by decide +kernel
theorem dX8_waiting_36 : decode cX8_waiting 36 = .ok (.iconst 0, 1) := by decide +kernel
theorem dX8_waiting_37 : decode cX8_waiting 37 = .ok (.iadd, 1) := by decide +kernel
theorem dX8_waiting_38 : decode cX8_waiting 38 = .ok (.istore_n 2, 1) := by decide +kernel
theorem dX8_waiting_39 : decode cX8_waiting 39 = .ok (.iinc 3 1, 3) := by decide +kernel
theorem dX8_waiting_42 : decode cX8_waiting 42 = .ok (.goto (-38), 3) := by decide +kernel
theorem dX8_waiting_45 : decode cX8_waiting 45 = .ok (.iload_n 2, 1) := by decide +kernel
theorem dX8_waiting_46 : decode cX8_waiting 46 = .ok (.ireturn, 1) := by decide +kernel
def wp_X8_waiting_4 (a1 : Int) (Q : Int → Mem → Prop) : Nat → Int → Int → Mem → Prop
  | 0, _, _, _ => False
  | n + 1, x2, x3, M => (Rg x3 ∧ Rg (M 62 31) ∧ ((M 62 31) ≤ x3 → Q x2 M) ∧ (¬ ((M 62 31) ≤ x3) → (0 ≤ x3 ∧ x3 < 200) ∧ (Rg (M 80 x3.toNat) ∧ ((M 80 x3.toNat) = 0 → wp_X8_waiting_4 a1 Q n (x2 + 0) (x3 + 1) M) ∧ (¬ ((M 80 x3.toNat) = 0) → (0 ≤ x3 ∧ x3 < 200) ∧ (Rg (M 78 x3.toNat) ∧ Rg a1 ∧ ((M 78 x3.toNat) ≠ a1 → wp_X8_waiting_4 a1 Q n (x2 + 0) (x3 + 1) M) ∧ (¬ ((M 78 x3.toNat) ≠ a1) → wp_X8_waiting_4 a1 Q n (x2 + 1) (x3 + 1) M))))))
set_option maxHeartbeats 4000000 in
set_option maxRecDepth 100000 in
theorem v_X8_waiting_4 (a1 : Int) (E : En X (AW X) 0 p R s m args meth c cX8_waiting RX8 4 (some .int) 0 0) (Q : Int → Mem → Prop) : ∀ n : Nat, ∀ (x2 x3 : Int) (M : Mem) (H : Heap) (locs : List Loc) (ls : Array Slot), wp_X8_waiting_4 a1 Q n x2 x3 M → Wd X (AW X) s M H locs → lv_has ls 4 [(0, .ref (xA X 62)), (1, .int (jI a1)), (2, .int (jI x2)), (3, .int (jI x3))] → W p l e R s m args below meth c H locs 0 0 (MQ below (QI X Q) args s 0 0 (AW X)) (F0 m 4 ls []) := by
  intro n
  induction n with
  | zero => intro x2 x3 M H locs ls h; exact absurd h (by simp [wp_X8_waiting_4])
  | succ n ih =>
    intro x2 x3 M H locs ls h hW hl
    rw [wp_X8_waiting_4] at h
    refine q_iload_n (n := 5) (q := 3) E.1 hl rfl dX8_waiting_4 rfl rfl ?_
    refine q_aload_n (n := 6) (q := 0) E.1 hl rfl dX8_waiting_5 rfl rfl ?_
    refine q_get (n := 9) (k := 31) (fs := (fs62 X)) (v := .int (jI (M 62 31))) E hW (by decide) (fun _ => rfl) K8 (by decide) w746 rfl rfl dX8_waiting_6 rfl ?_
    obtain ⟨g1, g2, h3, h4⟩ := h
    refine q_icmp_ge (t := 45) (n := 12) E.1 g1 g2 dX8_waiting_9 (by decide) rfl (fun c5 => ?_) (fun c5 => ?_)
    · have h := h3 c5
      refine q_iload_n (n := 46) (q := 2) E.1 hl rfl dX8_waiting_45 rfl rfl ?_
      exact q_iret E hW h dX8_waiting_46
    · have h := h4 c5
      refine q_iload_n (n := 13) (q := 2) E.1 hl rfl dX8_waiting_12 rfl rfl ?_
      refine q_aload_n (n := 14) (q := 0) E.1 hl rfl dX8_waiting_13 rfl rfl ?_
      refine q_get (n := 17) (k := 34) (fs := (fs62 X)) (v := .ref (xA X 80)) E hW (by decide) (fun _ => rfl) K8 (by decide) w749 rfl rfl dX8_waiting_14 rfl ?_
      refine q_iload_n (n := 18) (q := 3) E.1 hl rfl dX8_waiting_17 rfl rfl ?_
      obtain ⟨g6, h⟩ := h
      refine q_zald (n := 19) E hW (by decide) (fun _ => rfl) (by decide) g6 dX8_waiting_18 rfl ?_
      obtain ⟨g7, h8, h9⟩ := h
      refine q_if_eq (t := 36) (n := 22) E.1 g7 dX8_waiting_19 (by decide) rfl (fun c10 => ?_) (fun c10 => ?_)
      · have h := h8 c10
        refine q_iconst (n := 37) E.1 dX8_waiting_36 rfl ?_
        refine q_iadd (n := 38) E.1 dX8_waiting_37 rfl ?_
        refine q_istore_n (n := 39) [(2, .int (jI (x2 + 0))), (0, .ref (xA X 62)), (1, .int (jI a1)), (3, .int (jI x3))] E.1 hl dX8_waiting_38 rfl (by decide) rfl rfl (fun ls hl => ?_)
        refine q_iinc (n := 42) (q := 3) [(3, .int (jI (x3 + 1))), (2, .int (jI (x2 + 0))), (0, .ref (xA X 62)), (1, .int (jI a1))] E.1 hl rfl dX8_waiting_39 (by decide) rfl rfl (fun ls hl => ?_)
        refine q_goto (n := 4) E.1 dX8_waiting_42 (by decide) ?_
        exact ih _ _ _ _ _ _ h hW (lv_sub hl [2, 3, 1, 0] rfl)
      · have h := h9 c10
        refine q_aload_n (n := 23) (q := 0) E.1 hl rfl dX8_waiting_22 rfl rfl ?_
        refine q_get (n := 26) (k := 32) (fs := (fs62 X)) (v := .ref (xA X 78)) E hW (by decide) (fun _ => rfl) K8 (by decide) w747 rfl rfl dX8_waiting_23 rfl ?_
        refine q_iload_n (n := 27) (q := 3) E.1 hl rfl dX8_waiting_26 rfl rfl ?_
        obtain ⟨g11, h⟩ := h
        refine q_iald (n := 28) E hW (by decide) (fun _ => rfl) (by decide) g11 dX8_waiting_27 rfl ?_
        refine q_iload_n (n := 29) (q := 1) E.1 hl rfl dX8_waiting_28 rfl rfl ?_
        obtain ⟨g12, g13, h14, h15⟩ := h
        refine q_icmp_ne (t := 36) (n := 32) E.1 g12 g13 dX8_waiting_29 (by decide) rfl (fun c16 => ?_) (fun c16 => ?_)
        · have h := h14 c16
          refine q_iconst (n := 37) E.1 dX8_waiting_36 rfl ?_
          refine q_iadd (n := 38) E.1 dX8_waiting_37 rfl ?_
          refine q_istore_n (n := 39) [(2, .int (jI (x2 + 0))), (0, .ref (xA X 62)), (1, .int (jI a1)), (3, .int (jI x3))] E.1 hl dX8_waiting_38 rfl (by decide) rfl rfl (fun ls hl => ?_)
          refine q_iinc (n := 42) (q := 3) [(3, .int (jI (x3 + 1))), (2, .int (jI (x2 + 0))), (0, .ref (xA X 62)), (1, .int (jI a1))] E.1 hl rfl dX8_waiting_39 (by decide) rfl rfl (fun ls hl => ?_)
          refine q_goto (n := 4) E.1 dX8_waiting_42 (by decide) ?_
          exact ih _ _ _ _ _ _ h hW (lv_sub hl [2, 3, 1, 0] rfl)
        · have h := h15 c16
          refine q_iconst (n := 33) E.1 dX8_waiting_32 rfl ?_
          refine q_goto (n := 37) E.1 dX8_waiting_33 (by decide) ?_
          refine q_iadd (n := 38) E.1 dX8_waiting_37 rfl ?_
          refine q_istore_n (n := 39) [(2, .int (jI (x2 + 1))), (0, .ref (xA X 62)), (1, .int (jI a1)), (3, .int (jI x3))] E.1 hl dX8_waiting_38 rfl (by decide) rfl rfl (fun ls hl => ?_)
          refine q_iinc (n := 42) (q := 3) [(3, .int (jI (x3 + 1))), (2, .int (jI (x2 + 1))), (0, .ref (xA X 62)), (1, .int (jI a1))] E.1 hl rfl dX8_waiting_39 (by decide) rfl rfl (fun ls hl => ?_)
          refine q_goto (n := 4) E.1 dX8_waiting_42 (by decide) ?_
          exact ih _ _ _ _ _ _ h hW (lv_sub hl [2, 3, 1, 0] rfl)
def wp_X8_waiting (a1 : Int) (M : Mem) (Q : Int → Mem → Prop) : Prop := (∃ n : Nat, wp_X8_waiting_4 a1 Q n 0 0 M)
set_option maxHeartbeats 4000000 in
set_option maxRecDepth 100000 in
theorem c_X8_waiting (l : Launch) (X : Cx) (hI : Inj X) (a1 : Int) (M : Mem) (Q : Int → Mem → Prop) (h : wp_X8_waiting a1 M Q) : MI X l yX8_waiting cX8_waiting 4 (some .int) 0 [.ref (xA X 62), .int (jI a1)] M Q := by
  refine MI.of hI (by decide) (Nat.le_of_ble_eq_true rfl) ?_
  intro p e R s m args below meth c ls E hW hl
  have E : En X (AW X) 0 p R s m args meth c cX8_waiting RX8 4 (some .int) 0 0 := E
  have hl : lv_has ls 4 [(0, .ref (xA X 62)), (1, .int (jI a1))] := hl
  unfold wp_X8_waiting at h
  refine q_iconst (n := 1) E.1 dX8_waiting_0 rfl ?_
  refine q_istore_n (n := 2) [(2, .int (jI 0)), (0, .ref (xA X 62)), (1, .int (jI a1))] E.1 hl dX8_waiting_1 rfl (by decide) rfl rfl (fun ls hl => ?_)
  refine q_iconst (n := 3) E.1 dX8_waiting_2 rfl ?_
  refine q_istore_n (n := 4) [(3, .int (jI 0)), (2, .int (jI 0)), (0, .ref (xA X 62)), (1, .int (jI a1))] E.1 hl dX8_waiting_3 rfl (by decide) rfl rfl (fun ls hl => ?_)
  obtain ⟨n1, h⟩ := h
  exact v_X8_waiting_4 a1 E Q n1 _ _ _ _ _ _ h hW (lv_sub hl [2, 3, 1, 0] rfl)
/-! StickerPressModel.come(II)I -/
theorem dX8_come_0 : decode cX8_come 0 = .ok (.iload_n 1, 1) := by decide +kernel
theorem dX8_come_1 : decode cX8_come 1 = .ok (.iconst 0, 1) := by decide +kernel
theorem dX8_come_2 : decode cX8_come 2 = .ok (.iconst 5, 1) := by decide +kernel
theorem dX8_come_3 : decode cX8_come 3 = .ok (.invokestatic 103, 3) := by decide +kernel
theorem dX8_come_6 : decode cX8_come 6 = .ok (.ifCond .eq 37, 3) := by decide +kernel
theorem dX8_come_9 : decode cX8_come 9 = .ok (.iload_n 2, 1) := by decide +kernel
theorem dX8_come_10 : decode cX8_come 10 = .ok (.iconst 1, 1) := by decide +kernel
theorem dX8_come_11 : decode cX8_come 11 = .ok (.bipush 40, 2) := by decide +kernel
theorem dX8_come_13 : decode cX8_come 13 = .ok (.invokestatic 103, 3) := by decide +kernel
theorem dX8_come_16 : decode cX8_come 16 = .ok (.ifCond .eq 27, 3) := by decide +kernel
theorem dX8_come_19 : decode cX8_come 19 = .ok (.aload_n 0, 1) := by decide +kernel
theorem dX8_come_20 : decode cX8_come 20 = .ok (.iload_n 1, 1) := by decide +kernel
theorem dX8_come_21 : decode cX8_come 21 = .ok (.invokevirtual 201, 3) := by decide +kernel
theorem dX8_come_24 : decode cX8_come 24 = .ok (.iload_n 2, 1) := by decide +kernel
theorem dX8_come_25 : decode cX8_come 25 = .ok (.iadd, 1) := by decide +kernel
theorem dX8_come_26 : decode cX8_come 26 = .ok (.bipush 40, 2) := by decide +kernel
theorem dX8_come_28 : decode cX8_come 28 = .ok (.if_icmp .gt 15, 3) := by decide +kernel
theorem dX8_come_31 : decode cX8_come 31 = .ok (.aload_n 0, 1) := by decide +kernel
theorem dX8_come_32 : decode cX8_come 32 = .ok (.getfield 198, 3) := by decide +kernel
theorem dX8_come_35 : decode cX8_come 35 = .ok (.iload_n 2, 1) := by decide +kernel
theorem dX8_come_36 : decode cX8_come 36 = .ok (.iadd, 1) := by decide +kernel
theorem dX8_come_37 : decode cX8_come 37 = .ok (.sipush 200, 3) := by decide +kernel
theorem dX8_come_40 : decode cX8_come 40 = .ok (.if_icmp .le 5, 3) := by decide +kernel
theorem dX8_come_43 : decode cX8_come 43 = .ok (.iconst (-1), 1) := by decide +kernel
theorem dX8_come_44 : decode cX8_come 44 = .ok (.ireturn, 1) := by decide +kernel
theorem dX8_come_45 : decode cX8_come 45 = .ok (.aload_n 0, 1) := by decide +kernel
theorem dX8_come_46 : decode cX8_come 46 = .ok (.getfield 198, 3) := by decide +kernel
theorem dX8_come_49 : decode cX8_come 49 = .ok (.istore_n 3, 1) := by decide +kernel
theorem dX8_come_50 : decode cX8_come 50 = .ok (.iconst 0, 1) := by decide +kernel
theorem dX8_come_51 : decode cX8_come 51 = .ok (.istore 4, 2) := by decide +kernel
theorem dX8_come_53 : decode cX8_come 53 = .ok (.iload 4, 2) := by decide +kernel
theorem dX8_come_55 : decode cX8_come 55 = .ok (.iload_n 2, 1) := by decide +kernel
theorem dX8_come_56 : decode cX8_come 56 = .ok (.if_icmp .ge 39, 3) := by decide +kernel
theorem dX8_come_59 : decode cX8_come 59 = .ok (.aload_n 0, 1) := by decide +kernel
theorem dX8_come_60 : decode cX8_come 60 = .ok (.getfield 67, 3) := by decide +kernel
theorem dX8_come_63 : decode cX8_come 63 = .ok (.aload_n 0, 1) := by decide +kernel
theorem dX8_come_64 : decode cX8_come 64 = .ok (.getfield 198, 3) := by decide +kernel
theorem dX8_come_67 : decode cX8_come 67 = .ok (.iload_n 1, 1) := by decide +kernel
theorem dX8_come_68 : decode cX8_come 68 = .ok (.iastore, 1) := by decide +kernel
theorem dX8_come_69 : decode cX8_come 69 = .ok (.aload_n 0, 1) := by decide +kernel
theorem dX8_come_70 : decode cX8_come 70 = .ok (.getfield 73, 3) := by decide +kernel
theorem dX8_come_73 : decode cX8_come 73 = .ok (.aload_n 0, 1) := by decide +kernel
theorem dX8_come_74 : decode cX8_come 74 = .ok (.getfield 198, 3) := by decide +kernel
theorem dX8_come_77 : decode cX8_come 77 = .ok (.iconst 1, 1) := by decide +kernel
theorem dX8_come_78 : decode cX8_come 78 = .ok (.bastore, 1) := by decide +kernel
theorem dX8_come_79 : decode cX8_come 79 = .ok (.aload_n 0, 1) := by decide +kernel
theorem dX8_come_80 : decode cX8_come 80 = .ok (.dup, 1) := by decide +kernel
theorem dX8_come_81 : decode cX8_come 81 = .ok (.getfield 198, 3) := by decide +kernel
theorem dX8_come_84 : decode cX8_come 84 = .ok (.iconst 1, 1) := by decide +kernel
theorem dX8_come_85 : decode cX8_come 85 = .ok (.iadd, 1) := by decide +kernel
theorem dX8_come_86 : decode cX8_come 86 = .ok (.putfield 198, 3) := by decide +kernel
theorem dX8_come_89 : decode cX8_come 89 = .ok (.iinc 4 1, 3) := by decide +kernel
theorem dX8_come_92 : decode cX8_come 92 = .ok (.goto (-39), 3) := by decide +kernel
theorem dX8_come_95 : decode cX8_come 95 = .ok (.iload_n 3, 1) := by decide +kernel
theorem dX8_come_96 : decode cX8_come 96 = .ok (.ireturn, 1) := by decide +kernel
theorem Y_RX8_201 : YV RX8 201 RX8 yX8_waiting cX8_waiting 4 (some .int) 1 := ⟨w972, w969, w971, w35, w52, by decide +kernel, by decide⟩
def wp_X8_come_53 (a1 : Int) (a2 : Int) (Q : Int → Mem → Prop) : Nat → Int → Int → Mem → Prop
  | 0, _, _, _ => False
  | n + 1, x3, x4, M => (Rg x4 ∧ Rg a2 ∧ (a2 ≤ x4 → Q x3 M) ∧ (¬ (a2 ≤ x4) → (0 ≤ (M 62 31) ∧ (M 62 31) < 200) ∧ (0 ≤ ((up M 78 (M 62 31).toNat a1) 62 31) ∧ ((up M 78 (M 62 31).toNat a1) 62 31) < 200) ∧ wp_X8_come_53 a1 a2 Q n x3 (x4 + 1) (up (up (up M 78 (M 62 31).toNat a1) 80 ((up M 78 (M 62 31).toNat a1) 62 31).toNat 1) 62 31 (((up (up M 78 (M 62 31).toNat a1) 80 ((up M 78 (M 62 31).toNat a1) 62 31).toNat 1) 62 31) + 1))))
set_option maxHeartbeats 4000000 in
set_option maxRecDepth 100000 in
theorem v_X8_come_53 (a1 : Int) (a2 : Int) (E : En X (AW X) 1 p R s m args meth c cX8_come RX8 5 (some .int) 0 0) (Q : Int → Mem → Prop) : ∀ n : Nat, ∀ (x3 x4 : Int) (M : Mem) (H : Heap) (locs : List Loc) (ls : Array Slot), wp_X8_come_53 a1 a2 Q n x3 x4 M → Wd X (AW X) s M H locs → lv_has ls 5 [(0, .ref (xA X 62)), (1, .int (jI a1)), (2, .int (jI a2)), (3, .int (jI x3)), (4, .int (jI x4))] → W p l e R s m args below meth c H locs 0 0 (MQ below (QI X Q) args s 0 0 (AW X)) (F0 m 53 ls []) := by
  intro n
  induction n with
  | zero => intro x3 x4 M H locs ls h; exact absurd h (by simp [wp_X8_come_53])
  | succ n ih =>
    intro x3 x4 M H locs ls h hW hl
    rw [wp_X8_come_53] at h
    refine q_iload (n := 55) (q := 4) E.1 hl rfl dX8_come_53 rfl ?_
    refine q_iload_n (n := 56) (q := 2) E.1 hl rfl dX8_come_55 rfl rfl ?_
    obtain ⟨g1, g2, h3, h4⟩ := h
    refine q_icmp_ge (t := 95) (n := 59) E.1 g1 g2 dX8_come_56 (by decide) rfl (fun c5 => ?_) (fun c5 => ?_)
    · have h := h3 c5
      refine q_iload_n (n := 96) (q := 3) E.1 hl rfl dX8_come_95 rfl rfl ?_
      exact q_iret E hW h dX8_come_96
    · have h := h4 c5
      refine q_aload_n (n := 60) (q := 0) E.1 hl rfl dX8_come_59 rfl rfl ?_
      refine q_get (n := 63) (k := 32) (fs := (fs62 X)) (v := .ref (xA X 78)) E hW (by decide) (fun _ => rfl) K8 (by decide) w747 rfl rfl dX8_come_60 rfl ?_
      refine q_aload_n (n := 64) (q := 0) E.1 hl rfl dX8_come_63 rfl rfl ?_
      refine q_get (n := 67) (k := 31) (fs := (fs62 X)) (v := .int (jI (M 62 31))) E hW (by decide) (fun _ => rfl) K8 (by decide) w746 rfl rfl dX8_come_64 rfl ?_
      refine q_iload_n (n := 68) (q := 1) E.1 hl rfl dX8_come_67 rfl rfl ?_
      obtain ⟨g6, h⟩ := h
      refine q_iast (n := 69) E hW (by decide) (fun _ => rfl) (by decide) g6 dX8_come_68 rfl (fun H locs hW => ?_)
      refine q_aload_n (n := 70) (q := 0) E.1 hl rfl dX8_come_69 rfl rfl ?_
      refine q_get (n := 73) (k := 34) (fs := (fs62 X)) (v := .ref (xA X 80)) E hW (by decide) (fun _ => rfl) K8 (by decide) w749 rfl rfl dX8_come_70 rfl ?_
      refine q_aload_n (n := 74) (q := 0) E.1 hl rfl dX8_come_73 rfl rfl ?_
      refine q_get (n := 77) (k := 31) (fs := (fs62 X)) (v := .int (jI ((up M 78 (M 62 31).toNat a1) 62 31))) E hW (by decide) (fun _ => rfl) K8 (by decide) w746 rfl rfl dX8_come_74 rfl ?_
      refine q_iconst (n := 78) E.1 dX8_come_77 rfl ?_
      obtain ⟨g7, h⟩ := h
      refine q_zast (n := 79) E hW (by decide) (fun _ => rfl) (by decide) g7 (Or.inr rfl) dX8_come_78 rfl (fun H locs hW => ?_)
      refine q_aload_n (n := 80) (q := 0) E.1 hl rfl dX8_come_79 rfl rfl ?_
      refine q_dup (n := 81) E.1 dX8_come_80 rfl rfl ?_
      refine q_get (n := 84) (k := 31) (fs := (fs62 X)) (v := .int (jI ((up (up M 78 (M 62 31).toNat a1) 80 ((up M 78 (M 62 31).toNat a1) 62 31).toNat 1) 62 31))) E hW (by decide) (fun _ => rfl) K8 (by decide) w746 rfl rfl dX8_come_81 rfl ?_
      refine q_iconst (n := 85) E.1 dX8_come_84 rfl ?_
      refine q_iadd (n := 86) E.1 dX8_come_85 rfl ?_
      refine q_put (n := 89) (k := 31) (fs := (fs62 X)) E hW (by decide) (fun _ => rfl) K8 (by decide) w746 rfl rfl ⟨rfl, rfl⟩ (Nat.le_of_ble_eq_true rfl) (fun _ => rfl) dX8_come_86 rfl (fun H locs hW => ?_)
      refine q_iinc (n := 92) (q := 4) [(4, .int (jI (x4 + 1))), (0, .ref (xA X 62)), (1, .int (jI a1)), (2, .int (jI a2)), (3, .int (jI x3))] E.1 hl rfl dX8_come_89 (by decide) rfl rfl (fun ls hl => ?_)
      refine q_goto (n := 53) E.1 dX8_come_92 (by decide) ?_
      exact ih _ _ _ _ _ _ h hW (lv_sub hl [1, 2, 3, 4, 0] rfl)
def wp_X8_come (a1 : Int) (a2 : Int) (M : Mem) (Q : Int → Mem → Prop) : Prop := wp_X8_isIn a1 0 5 M (fun r2 M1 => (Rg r2 ∧ (r2 = 0 → Q (-1) M1) ∧ (¬ (r2 = 0) → wp_X8_isIn a2 1 40 M1 (fun r8 M7 => (Rg r8 ∧ (r8 = 0 → Q (-1) M7) ∧ (¬ (r8 = 0) → wp_X8_waiting a1 M7 (fun r14 M13 => (Rg (r14 + a2) ∧ (40 < (r14 + a2) → Q (-1) M13) ∧ (¬ (40 < (r14 + a2)) → (Rg ((M13 62 31) + a2) ∧ (((M13 62 31) + a2) ≤ 200 → (∃ n : Nat, wp_X8_come_53 a1 a2 Q n (M13 62 31) 0 M13)) ∧ (¬ (((M13 62 31) + a2) ≤ 200) → Q (-1) M13)))))))))))
set_option maxHeartbeats 4000000 in
set_option maxRecDepth 100000 in
theorem c_X8_come (l : Launch) (X : Cx) (hI : Inj X) (a1 : Int) (a2 : Int) (M : Mem) (Q : Int → Mem → Prop) (h : wp_X8_come a1 a2 M Q) : MI X l yX8_come cX8_come 5 (some .int) 1 [.ref (xA X 62), .int (jI a1), .int (jI a2)] M Q := by
  refine MI.of hI (by decide) (Nat.le_of_ble_eq_true rfl) ?_
  intro p e R s m args below meth c ls E hW hl
  have E : En X (AW X) 1 p R s m args meth c cX8_come RX8 5 (some .int) 0 0 := E
  have hl : lv_has ls 5 [(0, .ref (xA X 62)), (1, .int (jI a1)), (2, .int (jI a2))] := hl
  unfold wp_X8_come at h
  refine q_iload_n (n := 1) (q := 1) E.1 hl rfl dX8_come_0 rfl rfl ?_
  refine q_iconst (n := 2) E.1 dX8_come_1 rfl ?_
  refine q_iconst (n := 3) E.1 dX8_come_2 rfl ?_
  refine q_callSi (n := 6) [.int (jI a1), .int (jI 0), .int (jI 5)] E hW hl.1 (c_X8_isIn l X E.2.2.1.1 a1 0 5  _ _ h) (by decide) Y_RX8_103 rfl (rest := []) rfl (Nat.le_of_ble_eq_true rfl) dX8_come_3 rfl (fun r2 M1 H locs h hW => ?_)
  obtain ⟨g3, h4, h5⟩ := h
  refine q_if_eq (t := 43) (n := 9) E.1 g3 dX8_come_6 (by decide) rfl (fun c6 => ?_) (fun c6 => ?_)
  · have h := h4 c6
    refine q_iconst (n := 44) E.1 dX8_come_43 rfl ?_
    exact q_iret E hW h dX8_come_44
  · have h := h5 c6
    refine q_iload_n (n := 10) (q := 2) E.1 hl rfl dX8_come_9 rfl rfl ?_
    refine q_iconst (n := 11) E.1 dX8_come_10 rfl ?_
    refine q_bipush (n := 13) E.1 dX8_come_11 (by decide) rfl ?_
    refine q_callSi (n := 16) [.int (jI a2), .int (jI 1), .int (jI 40)] E hW hl.1 (c_X8_isIn l X E.2.2.1.1 a2 1 40  _ _ h) (by decide) Y_RX8_103 rfl (rest := []) rfl (Nat.le_of_ble_eq_true rfl) dX8_come_13 rfl (fun r8 M7 H locs h hW => ?_)
    obtain ⟨g9, h10, h11⟩ := h
    refine q_if_eq (t := 43) (n := 19) E.1 g9 dX8_come_16 (by decide) rfl (fun c12 => ?_) (fun c12 => ?_)
    · have h := h10 c12
      refine q_iconst (n := 44) E.1 dX8_come_43 rfl ?_
      exact q_iret E hW h dX8_come_44
    · have h := h11 c12
      refine q_aload_n (n := 20) (q := 0) E.1 hl rfl dX8_come_19 rfl rfl ?_
      refine q_iload_n (n := 21) (q := 1) E.1 hl rfl dX8_come_20 rfl rfl ?_
      refine q_callVi (n := 24) (fs := (fs62 X)) [.int (jI a1)] E hW hl.1 (by decide) (fun _ => rfl) K8 (c_X8_waiting l X E.2.2.1.1 a1  _ _ h) (by decide) Y_RX8_201 rfl (rest := []) rfl (Nat.le_of_ble_eq_true rfl) dX8_come_21 rfl (fun r14 M13 H locs h hW => ?_)
      refine q_iload_n (n := 25) (q := 2) E.1 hl rfl dX8_come_24 rfl rfl ?_
      refine q_iadd (n := 26) E.1 dX8_come_25 rfl ?_
      refine q_bipush (n := 28) E.1 dX8_come_26 (by decide) rfl ?_
      obtain ⟨g15, h16, h17⟩ := h
      refine q_icmp_gt (t := 43) (n := 31) E.1 g15 (by decide) dX8_come_28 (by decide) rfl (fun c18 => ?_) (fun c18 => ?_)
      · have h := h16 c18
        refine q_iconst (n := 44) E.1 dX8_come_43 rfl ?_
        exact q_iret E hW h dX8_come_44
      · have h := h17 c18
        refine q_aload_n (n := 32) (q := 0) E.1 hl rfl dX8_come_31 rfl rfl ?_
        refine q_get (n := 35) (k := 31) (fs := (fs62 X)) (v := .int (jI (M13 62 31))) E hW (by decide) (fun _ => rfl) K8 (by decide) w746 rfl rfl dX8_come_32 rfl ?_
        refine q_iload_n (n := 36) (q := 2) E.1 hl rfl dX8_come_35 rfl rfl ?_
        refine q_iadd (n := 37) E.1 dX8_come_36 rfl ?_
        refine q_sipush (n := 40) E.1 dX8_come_37 (by decide) rfl ?_
        obtain ⟨g19, h20, h21⟩ := h
        refine q_icmp_le (t := 45) (n := 43) E.1 g19 (by decide) dX8_come_40 (by decide) rfl (fun c22 => ?_) (fun c22 => ?_)
        · have h := h20 c22
          refine q_aload_n (n := 46) (q := 0) E.1 hl rfl dX8_come_45 rfl rfl ?_
          refine q_get (n := 49) (k := 31) (fs := (fs62 X)) (v := .int (jI (M13 62 31))) E hW (by decide) (fun _ => rfl) K8 (by decide) w746 rfl rfl dX8_come_46 rfl ?_
          refine q_istore_n (n := 50) [(3, .int (jI (M13 62 31))), (0, .ref (xA X 62)), (1, .int (jI a1)), (2, .int (jI a2))] E.1 hl dX8_come_49 rfl (by decide) rfl rfl (fun ls hl => ?_)
          refine q_iconst (n := 51) E.1 dX8_come_50 rfl ?_
          refine q_istore (n := 53) [(4, .int (jI 0)), (3, .int (jI (M13 62 31))), (0, .ref (xA X 62)), (1, .int (jI a1)), (2, .int (jI a2))] E.1 hl dX8_come_51 (by decide) rfl rfl (fun ls hl => ?_)
          obtain ⟨n23, h⟩ := h
          exact v_X8_come_53 a1 a2 E Q n23 _ _ _ _ _ _ h hW (lv_sub hl [2, 3, 4, 1, 0] rfl)
        · have h := h21 c22
          refine q_iconst (n := 44) E.1 dX8_come_43 rfl ?_
          exact q_iret E hW h dX8_come_44
/-! StickerPressModel.freeOn(I)I -/
theorem dX8_freeOn_0 : decode cX8_freeOn 0 = .ok (.iconst 0, 1) := by decide +kernel
theorem dX8_freeOn_1 : decode cX8_freeOn 1 = .ok (.istore_n 2, 1) := by decide +kernel
theorem dX8_freeOn_2 : decode cX8_freeOn 2 = .ok (.iconst 0, 1) := by decide +kernel
theorem dX8_freeOn_3 : decode cX8_freeOn 3 = .ok (.istore_n 3, 1) := by decide +kernel
theorem dX8_freeOn_4 : decode cX8_freeOn 4 = .ok (.iload_n 3, 1) := by decide +kernel
theorem dX8_freeOn_5 : decode cX8_freeOn 5 = .ok (.bipush 40, 2) := by decide +kernel
theorem dX8_freeOn_7 : decode cX8_freeOn 7 = .ok (.if_icmp .ge 23, 3) := by decide +kernel
theorem dX8_freeOn_10 : decode cX8_freeOn 10 = .ok (.iload_n 2, 1) := by decide +kernel
theorem dX8_freeOn_11 : decode cX8_freeOn 11 = .ok (.aload_n 0, 1) := by decide +kernel
theorem dX8_freeOn_12 : decode cX8_freeOn 12 = .ok (.getfield 56, 3) := by decide +kernel
theorem dX8_freeOn_15 : decode cX8_freeOn 15 = .ok (.iload_n 1, 1) := by decide +kernel
theorem dX8_freeOn_16 : decode cX8_freeOn 16 = .ok (.laload, 1) := by decide +kernel
theorem dX8_freeOn_17 : decode cX8_freeOn 17 = .ok (.iload_n 3, 1) := by decide +kernel
theorem dX8_freeOn_18 : decode cX8_freeOn 18 = .ok (.lshr, 1) := by decide +kernel
theorem dX8_freeOn_19 : decode cX8_freeOn 19 = .ok (.lconst 1, 1) := by decide +kernel
theorem dX8_freeOn_20 : decode cX8_freeOn 20 = .ok (.land, 1) := by decide +kernel
theorem dX8_freeOn_21 : decode cX8_freeOn 21 = .ok (.l2i, 1) := by decide +kernel
theorem dX8_freeOn_22 : decode cX8_freeOn 22 = .ok (.iadd, 1) := by decide +kernel
theorem dX8_freeOn_23 : decode cX8_freeOn 23 = .ok (.istore_n 2, 1) := by decide +kernel
theorem dX8_freeOn_24 : decode cX8_freeOn 24 = .ok (.iinc 3 1, 3) := by decide +kernel
theorem dX8_freeOn_27 : decode cX8_freeOn 27 = .ok (.goto (-23), 3) := by decide +kernel
theorem dX8_freeOn_30 : decode cX8_freeOn 30 = .ok (.iload_n 2, 1) := by decide +kernel
theorem dX8_freeOn_31 : decode cX8_freeOn 31 = .ok (.ireturn, 1) := by decide +kernel
def wp_X8_freeOn_4 (a1 : Int) (Q : Int → Mem → Prop) : Nat → Int → Int → Mem → Prop
  | 0, _, _, _ => False
  | n + 1, x2, x3, M => (Rg x3 ∧ (40 ≤ x3 → Q x2 M) ∧ (¬ (40 ≤ x3) → (0 ≤ a1 ∧ a1 < 3) ∧ wp_X8_freeOn_4 a1 Q n (x2 + (l2i (lAnd (lShr (M 75 a1.toNat) x3) 1))) (x3 + 1) M))
set_option maxHeartbeats 4000000 in
set_option maxRecDepth 100000 in
theorem v_X8_freeOn_4 (a1 : Int) (E : En X (AW X) 0 p R s m args meth c cX8_freeOn RX8 4 (some .int) 0 0) (Q : Int → Mem → Prop) : ∀ n : Nat, ∀ (x2 x3 : Int) (M : Mem) (H : Heap) (locs : List Loc) (ls : Array Slot), wp_X8_freeOn_4 a1 Q n x2 x3 M → Wd X (AW X) s M H locs → lv_has ls 4 [(0, .ref (xA X 62)), (1, .int (jI a1)), (2, .int (jI x2)), (3, .int (jI x3))] → W p l e R s m args below meth c H locs 0 0 (MQ below (QI X Q) args s 0 0 (AW X)) (F0 m 4 ls []) := by
  intro n
  induction n with
  | zero => intro x2 x3 M H locs ls h; exact absurd h (by simp [wp_X8_freeOn_4])
  | succ n ih =>
    intro x2 x3 M H locs ls h hW hl
    rw [wp_X8_freeOn_4] at h
    refine q_iload_n (n := 5) (q := 3) E.1 hl rfl dX8_freeOn_4 rfl rfl ?_
    refine q_bipush (n := 7) E.1 dX8_freeOn_5 (by decide) rfl ?_
    obtain ⟨g1, h2, h3⟩ := h
    refine q_icmp_ge (t := 30) (n := 10) E.1 g1 (by decide) dX8_freeOn_7 (by decide) rfl (fun c4 => ?_) (fun c4 => ?_)
    · have h := h2 c4
      refine q_iload_n (n := 31) (q := 2) E.1 hl rfl dX8_freeOn_30 rfl rfl ?_
      exact q_iret E hW h dX8_freeOn_31
    · have h := h3 c4
      refine q_iload_n (n := 11) (q := 2) E.1 hl rfl dX8_freeOn_10 rfl rfl ?_
      refine q_aload_n (n := 12) (q := 0) E.1 hl rfl dX8_freeOn_11 rfl rfl ?_
      refine q_get (n := 15) (k := 28) (fs := (fs62 X)) (v := .ref (xA X 75)) E hW (by decide) (fun _ => rfl) K8 (by decide) w743 rfl rfl dX8_freeOn_12 rfl ?_
      refine q_iload_n (n := 16) (q := 1) E.1 hl rfl dX8_freeOn_15 rfl rfl ?_
      obtain ⟨g5, h⟩ := h
      refine q_lald (n := 17) E hW (by decide) (fun _ => rfl) (by decide) g5 dX8_freeOn_16 rfl ?_
      refine q_iload_n (n := 18) (q := 3) E.1 hl rfl dX8_freeOn_17 rfl rfl ?_
      refine q_lshr (n := 19) E.1 dX8_freeOn_18 rfl ?_
      refine q_lconst (n := 20) (w := 1) E.1 dX8_freeOn_19 (by decide) rfl ?_
      refine q_land (n := 21) E.1 dX8_freeOn_20 rfl ?_
      refine q_l2i (n := 22) E.1 dX8_freeOn_21 rfl ?_
      refine q_iadd (n := 23) E.1 dX8_freeOn_22 rfl ?_
      refine q_istore_n (n := 24) [(2, .int (jI (x2 + (l2i (lAnd (lShr (M 75 a1.toNat) x3) 1))))), (0, .ref (xA X 62)), (1, .int (jI a1)), (3, .int (jI x3))] E.1 hl dX8_freeOn_23 rfl (by decide) rfl rfl (fun ls hl => ?_)
      refine q_iinc (n := 27) (q := 3) [(3, .int (jI (x3 + 1))), (2, .int (jI (x2 + (l2i (lAnd (lShr (M 75 a1.toNat) x3) 1))))), (0, .ref (xA X 62)), (1, .int (jI a1))] E.1 hl rfl dX8_freeOn_24 (by decide) rfl rfl (fun ls hl => ?_)
      refine q_goto (n := 4) E.1 dX8_freeOn_27 (by decide) ?_
      exact ih _ _ _ _ _ _ h hW (lv_sub hl [2, 3, 1, 0] rfl)
def wp_X8_freeOn (a1 : Int) (M : Mem) (Q : Int → Mem → Prop) : Prop := (∃ n : Nat, wp_X8_freeOn_4 a1 Q n 0 0 M)
set_option maxHeartbeats 4000000 in
set_option maxRecDepth 100000 in
theorem c_X8_freeOn (l : Launch) (X : Cx) (hI : Inj X) (a1 : Int) (M : Mem) (Q : Int → Mem → Prop) (h : wp_X8_freeOn a1 M Q) : MI X l yX8_freeOn cX8_freeOn 4 (some .int) 0 [.ref (xA X 62), .int (jI a1)] M Q := by
  refine MI.of hI (by decide) (Nat.le_of_ble_eq_true rfl) ?_
  intro p e R s m args below meth c ls E hW hl
  have E : En X (AW X) 0 p R s m args meth c cX8_freeOn RX8 4 (some .int) 0 0 := E
  have hl : lv_has ls 4 [(0, .ref (xA X 62)), (1, .int (jI a1))] := hl
  unfold wp_X8_freeOn at h
  refine q_iconst (n := 1) E.1 dX8_freeOn_0 rfl ?_
  refine q_istore_n (n := 2) [(2, .int (jI 0)), (0, .ref (xA X 62)), (1, .int (jI a1))] E.1 hl dX8_freeOn_1 rfl (by decide) rfl rfl (fun ls hl => ?_)
  refine q_iconst (n := 3) E.1 dX8_freeOn_2 rfl ?_
  refine q_istore_n (n := 4) [(3, .int (jI 0)), (2, .int (jI 0)), (0, .ref (xA X 62)), (1, .int (jI a1))] E.1 hl dX8_freeOn_3 rfl (by decide) rfl rfl (fun ls hl => ?_)
  obtain ⟨n1, h⟩ := h
  exact v_X8_freeOn_4 a1 E Q n1 _ _ _ _ _ _ h hW (lv_sub hl [2, 3, 1, 0] rfl)
/-! StickerPressModel.groups(I)Z -/
theorem dX8_groups_0 : decode cX8_groups 0 = .ok (.iload_n 1, 1) := by decide +kernel
theorem dX8_groups_1 : decode cX8_groups 1 = .ok (.istore_n 2, 1) := by decide +kernel
theorem dX8_groups_2 : decode cX8_groups 2 = .ok (.iconst 0, 1) := by decide +kernel
theorem dX8_groups_3 : decode cX8_groups 3 = .ok (.istore_n 3, 1) := by decide +kernel
theorem dX8_groups_4 : decode cX8_groups 4 = .ok (.iload_n 3, 1) := by decide +kernel
theorem dX8_groups_5 : decode cX8_groups 5 = .ok (.iconst 3, 1) := by decide +kernel
theorem dX8_groups_6 : decode cX8_groups 6 = .ok (.if_icmp .ge 16, 3) := by decide +kernel
theorem dX8_groups_9 : decode cX8_groups 9 = .ok (.aload_n 0, 1) := by decide +kernel
theorem dX8_groups_10 : decode cX8_groups 10 = .ok (.getfield 94, 3) := by decide +kernel
theorem dX8_groups_13 : decode cX8_groups 13 = .ok (.iload_n 3, 1) := by decide +kernel
theorem dX8_groups_14 : decode cX8_groups 14 = .ok (.iconst 0, 1) := by decide +kernel
theorem dX8_groups_15 : decode cX8_groups 15 = .ok (.iastore, 1) := by decide +kernel
theorem dX8_groups_16 : decode cX8_groups 16 = .ok (.iinc 3 1, 3) := by decide +kernel
theorem dX8_groups_19 : decode cX8_groups 19 = .ok (.goto (-15), 3) := by decide +kernel
theorem dX8_groups_22 : decode cX8_groups 22 = .ok (.iconst 5, 1) := by decide +kernel
theorem dX8_groups_23 : decode cX8_groups 23 = .ok (.istore_n 3, 1) := by decide +kernel
theorem dX8_groups_24 : decode cX8_groups 24 = .ok (.iload_n 3, 1) := by decide +kernel
theorem dX8_groups_25 : decode cX8_groups 25 = .ok (.ifCond .lt 62, 3) := by decide +kernel
theorem dX8_groups_28 : decode cX8_groups 28 = .ok (.aload_n 0, 1) := by decide +kernel
theorem dX8_groups_29 : decode cX8_groups 29 = .ok (.getfield 76, 3) := by decide +kernel
theorem dX8_groups_32 : decode cX8_groups 32 = .ok (.iload_n 3, 1) := by decide +kernel
theorem dX8_groups_33 : decode cX8_groups 33 = .ok (.iload_n 2, 1) := by decide +kernel
theorem dX8_groups_34 : decode cX8_groups 34 = .ok (.iconst 3, 1) := by decide +kernel
theorem dX8_groups_35 : decode cX8_groups 35 = .ok (.irem, 1) := by decide +kernel
theorem dX8_groups_36 : decode cX8_groups 36 = .ok (.iastore, 1) := by decide +kernel
theorem dX8_groups_37 : decode cX8_groups 37 = .ok (.iload_n 2, 1) := by decide +kernel
theorem dX8_groups_38 : decode cX8_groups 38 = .ok (.iconst 3, 1) := by decide +kernel
theorem dX8_groups_39 : decode cX8_groups 39 = .ok (.idiv, 1) := by decide +kernel
theorem dX8_groups_40 : decode cX8_groups 40 = .ok (.istore_n 2, 1) := by decide +kernel
theorem dX8_groups_41 : decode cX8_groups 41 = .ok (.aload_n 0, 1) := by decide +kernel
theorem dX8_groups_42 : decode cX8_groups 42 = .ok (.getfield 88, 3) := by decide +kernel
theorem dX8_groups_45 : decode cX8_groups 45 = .ok (.iload_n 3, 1) := by decide +kernel
theorem dX8_groups_46 : decode cX8_groups 46 = .ok (.iaload, 1) := by decide +kernel
theorem dX8_groups_47 : decode cX8_groups 47 = .ok (.ifCond .ne 14, 3) := by decide +kernel
theorem dX8_groups_50 : decode cX8_groups 50 = .ok (.aload_n 0, 1) := by decide +kernel
theorem dX8_groups_51 : decode cX8_groups 51 = .ok (.getfield 76, 3) := by decide +kernel
theorem dX8_groups_54 : decode cX8_groups 54 = .ok (.iload_n 3, 1) := by decide +kernel
theorem dX8_groups_55 : decode cX8_groups 55 = .ok (.iaload, 1) := by decide +kernel
theorem dX8_groups_56 : decode cX8_groups 56 = .ok (.ifCond .eq 5, 3) := by decide +kernel
theorem dX8_groups_59 : decode cX8_groups 59 = .ok (.iconst 0, 1) := by decide +kernel
theorem dX8_groups_60 : decode cX8_groups 60 = .ok (.ireturn, 1) := by decide +kernel
theorem dX8_groups_61 : decode cX8_groups 61 = .ok (.aload_n 0, 1) := by decide +kernel
theorem dX8_groups_62 : decode cX8_groups 62 = .ok (.getfield 94, 3) := by decide +kernel
theorem dX8_groups_65 : decode cX8_groups 65 = .ok (.aload_n 0, 1) := by decide +kernel
theorem dX8_groups_66 : decode cX8_groups 66 = .ok (.getfield 76, 3) := by decide +kernel
theorem dX8_groups_69 : decode cX8_groups 69 = .ok (.iload_n 3, 1) := by decide +kernel
theorem dX8_groups_70 : decode cX8_groups 70 = .ok (.iaload, 1) := by decide +kernel
theorem dX8_groups_71 : decode cX8_groups 71 = .ok (.dup2, 1) := by decide +kernel
theorem dX8_groups_72 : decode cX8_groups 72 = .ok (.iaload, 1) := by decide +kernel
theorem dX8_groups_73 : decode cX8_groups 73 = .ok (.aload_n 0, 1) := by decide +kernel
theorem dX8_groups_74 : decode cX8_groups 74 = .ok (.getfield 88, 3) := by decide +kernel
theorem dX8_groups_77 : decode cX8_groups 77 = .ok (.iload_n 3, 1) := by decide +kernel
theorem dX8_groups_78 : decode cX8_groups 78 = .ok (.iaload, 1) := by decide +kernel
theorem dX8_groups_79 : decode cX8_groups 79 = .ok (.iadd, 1) := by decide +kernel
theorem dX8_groups_80 : decode cX8_groups 80 = .ok (.iastore, 1) := by decide +kernel
theorem dX8_groups_81 : decode cX8_groups 81 = .ok (.iinc 3 (-1), 3) := by decide +kernel
theorem dX8_groups_84 : decode cX8_groups 84 = .ok (.goto (-60), 3) := by decide +kernel
theorem dX8_groups_87 : decode cX8_groups 87 = .ok (.iconst 1, 1) := by decide +kernel
theorem dX8_groups_88 : decode cX8_groups 88 = .ok (.ireturn, 1) := by decide +kernel
def wp_X8_groups_61 (a1 : Int) (k24 : Int → Int → Mem → Prop) (Q : Int → Mem → Prop) (x2 x3 : Int) (M : Mem) : Prop := (0 ≤ x3 ∧ x3 < 6) ∧ (0 ≤ (M 81 x3.toNat) ∧ (M 81 x3.toNat) < 3) ∧ (0 ≤ x3 ∧ x3 < 6) ∧ (0 ≤ (M 81 x3.toNat) ∧ (M 81 x3.toNat) < 3) ∧ k24 x2 (x3 + (-1)) (up M 87 (M 81 x3.toNat).toNat ((M 87 (M 81 x3.toNat).toNat) + (M 85 x3.toNat)))
set_option maxHeartbeats 4000000 in
set_option maxRecDepth 100000 in
theorem v_X8_groups_61 (a1 : Int) (E : En X (AW X) 0 p R s m args meth c cX8_groups RX8 4 (some .boolean) 0 0) (Q : Int → Mem → Prop) (k24 : Int → Int → Mem → Prop) (Hk24 : ∀ (x2 x3 : Int) (M : Mem) (H : Heap) (locs : List Loc) (ls : Array Slot), k24 x2 x3 M → Wd X (AW X) s M H locs → lv_has ls 4 [(0, .ref (xA X 62)), (2, .int (jI x2)), (3, .int (jI x3))] → W p l e R s m args below meth c H locs 0 0 (MQ below (QI X Q) args s 0 0 (AW X)) (F0 m 24 ls [])) : ∀ (x2 x3 : Int) (M : Mem) (H : Heap) (locs : List Loc) (ls : Array Slot), wp_X8_groups_61 a1 k24 Q x2 x3 M → Wd X (AW X) s M H locs → lv_has ls 4 [(0, .ref (xA X 62)), (2, .int (jI x2)), (3, .int (jI x3))] → W p l e R s m args below meth c H locs 0 0 (MQ below (QI X Q) args s 0 0 (AW X)) (F0 m 61 ls []) := by
  intro x2 x3 M H locs ls h hW hl
  unfold wp_X8_groups_61 at h
  refine q_aload_n (n := 62) (q := 0) E.1 hl rfl dX8_groups_61 rfl rfl ?_
  refine q_get (n := 65) (k := 43) (fs := (fs62 X)) (v := .ref (xA X 87)) E hW (by decide) (fun _ => rfl) K8 (by decide) w758 rfl rfl dX8_groups_62 rfl ?_
  refine q_aload_n (n := 66) (q := 0) E.1 hl rfl dX8_groups_65 rfl rfl ?_
  refine q_get (n := 69) (k := 35) (fs := (fs62 X)) (v := .ref (xA X 81)) E hW (by decide) (fun _ => rfl) K8 (by decide) w750 rfl rfl dX8_groups_66 rfl ?_
  refine q_iload_n (n := 70) (q := 2) E.1 hl rfl dX8_groups_69 rfl rfl ?_
  obtain ⟨g1, h⟩ := h
  refine q_iald (n := 71) E hW (by decide) (fun _ => rfl) (by decide) g1 dX8_groups_70 rfl ?_
  refine q_dup2 (n := 72) E.1 dX8_groups_71 rfl rfl rfl ?_
  obtain ⟨g2, h⟩ := h
  refine q_iald (n := 73) E hW (by decide) (fun _ => rfl) (by decide) g2 dX8_groups_72 rfl ?_
  refine q_aload_n (n := 74) (q := 0) E.1 hl rfl dX8_groups_73 rfl rfl ?_
  refine q_get (n := 77) (k := 39) (fs := (fs62 X)) (v := .ref (xA X 85)) E hW (by decide) (fun _ => rfl) K8 (by decide) w754 rfl rfl dX8_groups_74 rfl ?_
  refine q_iload_n (n := 78) (q := 2) E.1 hl rfl dX8_groups_77 rfl rfl ?_
  obtain ⟨g3, h⟩ := h
  refine q_iald (n := 79) E hW (by decide) (fun _ => rfl) (by decide) g3 dX8_groups_78 rfl ?_
  refine q_iadd (n := 80) E.1 dX8_groups_79 rfl ?_
  obtain ⟨g4, h⟩ := h
  refine q_iast (n := 81) E hW (by decide) (fun _ => rfl) (by decide) g4 dX8_groups_80 rfl (fun H locs hW => ?_)
  refine q_iinc (n := 84) (q := 2) [(3, .int (jI (x3 + (-1)))), (0, .ref (xA X 62)), (2, .int (jI x2))] E.1 hl rfl dX8_groups_81 (by decide) rfl rfl (fun ls hl => ?_)
  refine q_goto (n := 24) E.1 dX8_groups_84 (by decide) ?_
  exact Hk24 _ _ _ _ _ _ h hW (lv_sub hl [1, 2, 0] rfl)
def wp_X8_groups_24 (a1 : Int) (Q : Int → Mem → Prop) : Nat → Int → Int → Mem → Prop
  | 0, _, _, _ => False
  | n + 1, x2, x3, M => (Rg x3 ∧ (x3 < 0 → Q 1 M) ∧ (¬ (x3 < 0) → (Rg x2 ∧ 0 ≤ x2) ∧ (0 ≤ x3 ∧ x3 < 6) ∧ (Rg x2 ∧ 0 ≤ x2) ∧ (0 ≤ x3 ∧ x3 < 6) ∧ (Rg ((up M 81 x3.toNat (x2 % 3)) 85 x3.toNat) ∧ (((up M 81 x3.toNat (x2 % 3)) 85 x3.toNat) ≠ 0 → wp_X8_groups_61 a1 (fun x2 x3 M => wp_X8_groups_24 a1 Q n x2 x3 M) Q (x2 / 3) x3 (up M 81 x3.toNat (x2 % 3))) ∧ (¬ (((up M 81 x3.toNat (x2 % 3)) 85 x3.toNat) ≠ 0) → (0 ≤ x3 ∧ x3 < 6) ∧ (Rg ((up M 81 x3.toNat (x2 % 3)) 81 x3.toNat) ∧ (((up M 81 x3.toNat (x2 % 3)) 81 x3.toNat) = 0 → wp_X8_groups_61 a1 (fun x2 x3 M => wp_X8_groups_24 a1 Q n x2 x3 M) Q (x2 / 3) x3 (up M 81 x3.toNat (x2 % 3))) ∧ (¬ (((up M 81 x3.toNat (x2 % 3)) 81 x3.toNat) = 0) → Q 0 (up M 81 x3.toNat (x2 % 3))))))))
set_option maxHeartbeats 4000000 in
set_option maxRecDepth 100000 in
theorem v_X8_groups_24 (a1 : Int) (E : En X (AW X) 0 p R s m args meth c cX8_groups RX8 4 (some .boolean) 0 0) (Q : Int → Mem → Prop) : ∀ n : Nat, ∀ (x2 x3 : Int) (M : Mem) (H : Heap) (locs : List Loc) (ls : Array Slot), wp_X8_groups_24 a1 Q n x2 x3 M → Wd X (AW X) s M H locs → lv_has ls 4 [(0, .ref (xA X 62)), (2, .int (jI x2)), (3, .int (jI x3))] → W p l e R s m args below meth c H locs 0 0 (MQ below (QI X Q) args s 0 0 (AW X)) (F0 m 24 ls []) := by
  intro n
  induction n with
  | zero => intro x2 x3 M H locs ls h; exact absurd h (by simp [wp_X8_groups_24])
  | succ n ih =>
    intro x2 x3 M H locs ls h hW hl
    rw [wp_X8_groups_24] at h
    refine q_iload_n (n := 25) (q := 2) E.1 hl rfl dX8_groups_24 rfl rfl ?_
    obtain ⟨g1, h2, h3⟩ := h
    refine q_if_lt (t := 87) (n := 28) E.1 g1 dX8_groups_25 (by decide) rfl (fun c4 => ?_) (fun c4 => ?_)
    · have h := h2 c4
      refine q_iconst (n := 88) E.1 dX8_groups_87 rfl ?_
      exact q_zret E hW (Or.inr rfl) h dX8_groups_88
    · have h := h3 c4
      refine q_aload_n (n := 29) (q := 0) E.1 hl rfl dX8_groups_28 rfl rfl ?_
      refine q_get (n := 32) (k := 35) (fs := (fs62 X)) (v := .ref (xA X 81)) E hW (by decide) (fun _ => rfl) K8 (by decide) w750 rfl rfl dX8_groups_29 rfl ?_
      refine q_iload_n (n := 33) (q := 2) E.1 hl rfl dX8_groups_32 rfl rfl ?_
      refine q_iload_n (n := 34) (q := 1) E.1 hl rfl dX8_groups_33 rfl rfl ?_
      refine q_iconst (n := 35) E.1 dX8_groups_34 rfl ?_
      obtain ⟨g5, h⟩ := h
      refine q_irem (n := 36) E.1 g5 (by decide) dX8_groups_35 rfl ?_
      obtain ⟨g6, h⟩ := h
      refine q_iast (n := 37) E hW (by decide) (fun _ => rfl) (by decide) g6 dX8_groups_36 rfl (fun H locs hW => ?_)
      refine q_iload_n (n := 38) (q := 1) E.1 hl rfl dX8_groups_37 rfl rfl ?_
      refine q_iconst (n := 39) E.1 dX8_groups_38 rfl ?_
      obtain ⟨g7, h⟩ := h
      refine q_idiv (n := 40) E.1 g7 (by decide) dX8_groups_39 rfl ?_
      refine q_istore_n (n := 41) [(2, .int (jI (x2 / 3))), (0, .ref (xA X 62)), (3, .int (jI x3))] E.1 hl dX8_groups_40 rfl (by decide) rfl rfl (fun ls hl => ?_)
      refine q_aload_n (n := 42) (q := 1) E.1 hl rfl dX8_groups_41 rfl rfl ?_
      refine q_get (n := 45) (k := 39) (fs := (fs62 X)) (v := .ref (xA X 85)) E hW (by decide) (fun _ => rfl) K8 (by decide) w754 rfl rfl dX8_groups_42 rfl ?_
      refine q_iload_n (n := 46) (q := 2) E.1 hl rfl dX8_groups_45 rfl rfl ?_
      obtain ⟨g8, h⟩ := h
      refine q_iald (n := 47) E hW (by decide) (fun _ => rfl) (by decide) g8 dX8_groups_46 rfl ?_
      obtain ⟨g9, h10, h11⟩ := h
      refine q_if_ne (t := 61) (n := 50) E.1 g9 dX8_groups_47 (by decide) rfl (fun c12 => ?_) (fun c12 => ?_)
      · have h := h10 c12
        exact v_X8_groups_61 a1 E Q _ ih _ _ _ _ _ _ h hW (lv_sub hl [1, 0, 2] rfl)
      · have h := h11 c12
        refine q_aload_n (n := 51) (q := 1) E.1 hl rfl dX8_groups_50 rfl rfl ?_
        refine q_get (n := 54) (k := 35) (fs := (fs62 X)) (v := .ref (xA X 81)) E hW (by decide) (fun _ => rfl) K8 (by decide) w750 rfl rfl dX8_groups_51 rfl ?_
        refine q_iload_n (n := 55) (q := 2) E.1 hl rfl dX8_groups_54 rfl rfl ?_
        obtain ⟨g13, h⟩ := h
        refine q_iald (n := 56) E hW (by decide) (fun _ => rfl) (by decide) g13 dX8_groups_55 rfl ?_
        obtain ⟨g14, h15, h16⟩ := h
        refine q_if_eq (t := 61) (n := 59) E.1 g14 dX8_groups_56 (by decide) rfl (fun c17 => ?_) (fun c17 => ?_)
        · have h := h15 c17
          exact v_X8_groups_61 a1 E Q _ ih _ _ _ _ _ _ h hW (lv_sub hl [1, 0, 2] rfl)
        · have h := h16 c17
          refine q_iconst (n := 60) E.1 dX8_groups_59 rfl ?_
          exact q_zret E hW (Or.inl rfl) h dX8_groups_60
def wp_X8_groups_4 (a1 : Int) (Q : Int → Mem → Prop) : Nat → Int → Int → Mem → Prop
  | 0, _, _, _ => False
  | n + 1, x2, x3, M => (Rg x3 ∧ (3 ≤ x3 → (∃ n2 : Nat, wp_X8_groups_24 a1 Q n2 x2 5 M)) ∧ (¬ (3 ≤ x3) → (0 ≤ x3 ∧ x3 < 3) ∧ wp_X8_groups_4 a1 Q n x2 (x3 + 1) (up M 87 x3.toNat 0)))
set_option maxHeartbeats 4000000 in
set_option maxRecDepth 100000 in
theorem v_X8_groups_4 (a1 : Int) (E : En X (AW X) 0 p R s m args meth c cX8_groups RX8 4 (some .boolean) 0 0) (Q : Int → Mem → Prop) : ∀ n : Nat, ∀ (x2 x3 : Int) (M : Mem) (H : Heap) (locs : List Loc) (ls : Array Slot), wp_X8_groups_4 a1 Q n x2 x3 M → Wd X (AW X) s M H locs → lv_has ls 4 [(0, .ref (xA X 62)), (2, .int (jI x2)), (3, .int (jI x3))] → W p l e R s m args below meth c H locs 0 0 (MQ below (QI X Q) args s 0 0 (AW X)) (F0 m 4 ls []) := by
  intro n
  induction n with
  | zero => intro x2 x3 M H locs ls h; exact absurd h (by simp [wp_X8_groups_4])
  | succ n ih =>
    intro x2 x3 M H locs ls h hW hl
    rw [wp_X8_groups_4] at h
    refine q_iload_n (n := 5) (q := 2) E.1 hl rfl dX8_groups_4 rfl rfl ?_
    refine q_iconst (n := 6) E.1 dX8_groups_5 rfl ?_
    obtain ⟨g1, h2, h3⟩ := h
    refine q_icmp_ge (t := 22) (n := 9) E.1 g1 (by decide) dX8_groups_6 (by decide) rfl (fun c4 => ?_) (fun c4 => ?_)
    · have h := h2 c4
      refine q_iconst (n := 23) E.1 dX8_groups_22 rfl ?_
      refine q_istore_n (n := 24) [(3, .int (jI 5)), (0, .ref (xA X 62)), (2, .int (jI x2))] E.1 hl dX8_groups_23 rfl (by decide) rfl rfl (fun ls hl => ?_)
      obtain ⟨n5, h⟩ := h
      exact v_X8_groups_24 a1 E Q n5 _ _ _ _ _ _ h hW (lv_sub hl [1, 2, 0] rfl)
    · have h := h3 c4
      refine q_aload_n (n := 10) (q := 0) E.1 hl rfl dX8_groups_9 rfl rfl ?_
      refine q_get (n := 13) (k := 43) (fs := (fs62 X)) (v := .ref (xA X 87)) E hW (by decide) (fun _ => rfl) K8 (by decide) w758 rfl rfl dX8_groups_10 rfl ?_
      refine q_iload_n (n := 14) (q := 2) E.1 hl rfl dX8_groups_13 rfl rfl ?_
      refine q_iconst (n := 15) E.1 dX8_groups_14 rfl ?_
      obtain ⟨g6, h⟩ := h
      refine q_iast (n := 16) E hW (by decide) (fun _ => rfl) (by decide) g6 dX8_groups_15 rfl (fun H locs hW => ?_)
      refine q_iinc (n := 19) (q := 2) [(3, .int (jI (x3 + 1))), (0, .ref (xA X 62)), (2, .int (jI x2))] E.1 hl rfl dX8_groups_16 (by decide) rfl rfl (fun ls hl => ?_)
      refine q_goto (n := 4) E.1 dX8_groups_19 (by decide) ?_
      exact ih _ _ _ _ _ _ h hW (lv_sub hl [1, 2, 0] rfl)
def wp_X8_groups (a1 : Int) (M : Mem) (Q : Int → Mem → Prop) : Prop := (∃ n : Nat, wp_X8_groups_4 a1 Q n a1 0 M)
set_option maxHeartbeats 4000000 in
set_option maxRecDepth 100000 in
theorem c_X8_groups (l : Launch) (X : Cx) (hI : Inj X) (a1 : Int) (M : Mem) (Q : Int → Mem → Prop) (h : wp_X8_groups a1 M Q) : MI X l yX8_groups cX8_groups 4 (some .boolean) 0 [.ref (xA X 62), .int (jI a1)] M Q := by
  refine MI.of hI (by decide) (Nat.le_of_ble_eq_true rfl) ?_
  intro p e R s m args below meth c ls E hW hl
  have E : En X (AW X) 0 p R s m args meth c cX8_groups RX8 4 (some .boolean) 0 0 := E
  have hl : lv_has ls 4 [(0, .ref (xA X 62)), (1, .int (jI a1))] := hl
  unfold wp_X8_groups at h
  refine q_iload_n (n := 1) (q := 1) E.1 hl rfl dX8_groups_0 rfl rfl ?_
  refine q_istore_n (n := 2) [(2, .int (jI a1)), (0, .ref (xA X 62)), (1, .int (jI a1))] E.1 hl dX8_groups_1 rfl (by decide) rfl rfl (fun ls hl => ?_)
  refine q_iconst (n := 3) E.1 dX8_groups_2 rfl ?_
  refine q_istore_n (n := 4) [(3, .int (jI 0)), (2, .int (jI a1)), (0, .ref (xA X 62)), (1, .int (jI a1))] E.1 hl dX8_groups_3 rfl (by decide) rfl rfl (fun ls hl => ?_)
  obtain ⟨n1, h⟩ := h
  exact v_X8_groups_4 a1 E Q n1 _ _ _ _ _ _ h hW (lv_sub hl [2, 1, 0] rfl)
/-! StickerPressModel.sheets(I)Z -/
theorem dX8_sheets_0 : decode cX8_sheets 0 = .ok (.iload_n 1, 1) := by decide +kernel
theorem dX8_sheets_1 : decode cX8_sheets 1 = .ok (.istore_n 2, 1) := by decide +kernel
theorem dX8_sheets_2 : decode cX8_sheets 2 = .ok (.iconst 0, 1) := by decide +kernel
theorem dX8_sheets_3 : decode cX8_sheets 3 = .ok (.istore_n 3, 1) := by decide +kernel
theorem dX8_sheets_4 : decode cX8_sheets 4 = .ok (.iload_n 3, 1) := by decide +kernel
theorem dX8_sheets_5 : decode cX8_sheets 5 = .ok (.iconst 3, 1) := by decide +kernel
theorem dX8_sheets_6 : decode cX8_sheets 6 = .ok (.if_icmp .ge 16, 3) := by decide +kernel
theorem dX8_sheets_9 : decode cX8_sheets 9 = .ok (.aload_n 0, 1) := by decide +kernel
theorem dX8_sheets_10 : decode cX8_sheets 10 = .ok (.getfield 97, 3) := by decide +kernel
theorem dX8_sheets_13 : decode cX8_sheets 13 = .ok (.iload_n 3, 1) := by decide +kernel
theorem dX8_sheets_14 : decode cX8_sheets 14 = .ok (.iconst 0, 1) := by decide +kernel
theorem dX8_sheets_15 : decode cX8_sheets 15 = .ok (.iastore, 1) := by decide +kernel
theorem dX8_sheets_16 : decode cX8_sheets 16 = .ok (.iinc 3 1, 3) := by decide +kernel
theorem dX8_sheets_19 : decode cX8_sheets 19 = .ok (.goto (-15), 3) := by decide +kernel
theorem dX8_sheets_22 : decode cX8_sheets 22 = .ok (.iconst 2, 1) := by decide +kernel
theorem dX8_sheets_23 : decode cX8_sheets 23 = .ok (.istore_n 3, 1) := by decide +kernel
theorem dX8_sheets_24 : decode cX8_sheets 24 = .ok (.iload_n 3, 1) := by decide +kernel
theorem dX8_sheets_25 : decode cX8_sheets 25 = .ok (.ifCond .lt 52, 3) := by decide +kernel
theorem dX8_sheets_28 : decode cX8_sheets 28 = .ok (.aload_n 0, 1) := by decide +kernel
theorem dX8_sheets_29 : decode cX8_sheets 29 = .ok (.getfield 79, 3) := by decide +kernel
theorem dX8_sheets_32 : decode cX8_sheets 32 = .ok (.iload_n 3, 1) := by decide +kernel
theorem dX8_sheets_33 : decode cX8_sheets 33 = .ok (.iload_n 2, 1) := by decide +kernel
theorem dX8_sheets_34 : decode cX8_sheets 34 = .ok (.iconst 4, 1) := by decide +kernel
theorem dX8_sheets_35 : decode cX8_sheets 35 = .ok (.irem, 1) := by decide +kernel
theorem dX8_sheets_36 : decode cX8_sheets 36 = .ok (.iastore, 1) := by decide +kernel
theorem dX8_sheets_37 : decode cX8_sheets 37 = .ok (.iload_n 2, 1) := by decide +kernel
theorem dX8_sheets_38 : decode cX8_sheets 38 = .ok (.iconst 4, 1) := by decide +kernel
theorem dX8_sheets_39 : decode cX8_sheets 39 = .ok (.idiv, 1) := by decide +kernel
theorem dX8_sheets_40 : decode cX8_sheets 40 = .ok (.istore_n 2, 1) := by decide +kernel
theorem dX8_sheets_41 : decode cX8_sheets 41 = .ok (.aload_n 0, 1) := by decide +kernel
theorem dX8_sheets_42 : decode cX8_sheets 42 = .ok (.getfield 79, 3) := by decide +kernel
theorem dX8_sheets_45 : decode cX8_sheets 45 = .ok (.iload_n 3, 1) := by decide +kernel
theorem dX8_sheets_46 : decode cX8_sheets 46 = .ok (.iaload, 1) := by decide +kernel
theorem dX8_sheets_47 : decode cX8_sheets 47 = .ok (.iconst 3, 1) := by decide +kernel
theorem dX8_sheets_48 : decode cX8_sheets 48 = .ok (.if_icmp .ge 23, 3) := by decide +kernel
theorem dX8_sheets_51 : decode cX8_sheets 51 = .ok (.aload_n 0, 1) := by decide +kernel
theorem dX8_sheets_52 : decode cX8_sheets 52 = .ok (.getfield 97, 3) := by decide +kernel
theorem dX8_sheets_55 : decode cX8_sheets 55 = .ok (.aload_n 0, 1) := by decide +kernel
theorem dX8_sheets_56 : decode cX8_sheets 56 = .ok (.getfield 79, 3) := by decide +kernel
theorem dX8_sheets_59 : decode cX8_sheets 59 = .ok (.iload_n 3, 1) := by decide +kernel
theorem dX8_sheets_60 : decode cX8_sheets 60 = .ok (.iaload, 1) := by decide +kernel
theorem dX8_sheets_61 : decode cX8_sheets 61 = .ok (.dup2, 1) := by decide +kernel
theorem dX8_sheets_62 : decode cX8_sheets 62 = .ok (.iaload, 1) := by decide +kernel
theorem dX8_sheets_63 : decode cX8_sheets 63 = .ok (.aload_n 0, 1) := by decide +kernel
theorem dX8_sheets_64 : decode cX8_sheets 64 = .ok (.getfield 91, 3) := by decide +kernel
theorem dX8_sheets_67 : decode cX8_sheets 67 = .ok (.iload_n 3, 1) := by decide +kernel
theorem dX8_sheets_68 : decode cX8_sheets 68 = .ok (.iaload, 1) := by decide +kernel
theorem dX8_sheets_69 : decode cX8_sheets 69 = .ok (.iadd, 1) := by decide +kernel
theorem dX8_sheets_70 : decode cX8_sheets 70 = .ok (.iastore, 1) := by decide +kernel
theorem dX8_sheets_71 : decode cX8_sheets 71 = .ok (.iinc 3 (-1), 3) := by decide +kernel
theorem dX8_sheets_74 : decode cX8_sheets 74 = .ok (.goto (-50), 3) := by decide +kernel
theorem dX8_sheets_77 : decode cX8_sheets 77 = .ok (.aload_n 0, 1) := by decide +kernel
theorem dX8_sheets_78 : decode cX8_sheets 78 = .ok (.getfield 94, 3) := by decide +kernel
theorem dX8_sheets_81 : decode cX8_sheets 81 = .ok (.iconst 0, 1) := by decide +kernel
theorem dX8_sheets_82 : decode cX8_sheets 82 = .ok (.iaload, 1) := by decide +kernel
theorem dX8_sheets_83 : decode cX8_sheets 83 = .ok (.aload_n 0, 1) := by decide +kernel
theorem dX8_sheets_84 : decode cX8_sheets 84 = .ok (.getfield 97, 3) := by decide +kernel
theorem dX8_sheets_87 : decode cX8_sheets 87 = .ok (.iconst 0, 1) := by decide +kernel
theorem dX8_sheets_88 : decode cX8_sheets 88 = .ok (.iaload, 1) := by decide +kernel
theorem dX8_sheets_89 : decode cX8_sheets 89 = .ok (.if_icmp .gt 37, 3) := by decide +kernel
theorem dX8_sheets_92 : decode cX8_sheets 92 = .ok (.aload_n 0, 1) := by decide +kernel
theorem dX8_sheets_93 : decode cX8_sheets 93 = .ok (.getfield 94, 3) := by decide +kernel
theorem dX8_sheets_96 : decode cX8_sheets 96 = .ok (.iconst 1, 1) := by decide +kernel
theorem dX8_sheets_97 : decode cX8_sheets 97 = .ok (.iaload, 1) := by decide +kernel
theorem dX8_sheets_98 : decode cX8_sheets 98 = .ok (.aload_n 0, 1) := by decide +kernel
theorem dX8_sheets_99 : decode cX8_sheets 99 = .ok (.getfield 97, 3) := by decide +kernel
theorem dX8_sheets_102 : decode cX8_sheets 102 = .ok (.iconst 1, 1) := by decide +kernel
theorem dX8_sheets_103 : decode cX8_sheets 103 = .ok (.iaload, 1) := by decide +kernel
theorem dX8_sheets_104 : decode cX8_sheets 104 = .ok (.if_icmp .gt 22, 3) := by decide +kernel
theorem dX8_sheets_107 : decode cX8_sheets 107 = .ok (.aload_n 0, 1) := by decide +kernel
theorem dX8_sheets_108 : decode cX8_sheets 108 = .ok (.getfield 94, 3) := by decide +kernel
theorem dX8_sheets_111 : decode cX8_sheets 111 = .ok (.iconst 2, 1) := by decide +kernel
theorem dX8_sheets_112 : decode cX8_sheets 112 = .ok (.iaload, 1) := by decide +kernel
theorem dX8_sheets_113 : decode cX8_sheets 113 = .ok (.aload_n 0, 1) := by decide +kernel
theorem dX8_sheets_114 : decode cX8_sheets 114 = .ok (.getfield 97, 3) := by decide +kernel
theorem dX8_sheets_117 : decode cX8_sheets 117 = .ok (.iconst 2, 1) := by decide +kernel
theorem dX8_sheets_118 : decode cX8_sheets 118 = .ok (.iaload, 1) := by decide +kernel
theorem dX8_sheets_119 : decode cX8_sheets 119 = .ok (.if_icmp .gt 7, 3) := by decide +kernel
theorem dX8_sheets_122 : decode cX8_sheets 122 = .ok (.iconst 1, 1) := by decide +kernel
theorem dX8_sheets_123 : decode cX8_sheets 123 = .ok (.goto 4, 3) := by decide +kernel
theorem dX8_sheets_126 : decode cX8_sheets 126 = .ok (.iconst 0, 1) := by decide +kernel
theorem dX8_sheets_127 : decode cX8_sheets 127 = .ok (.ireturn, 1) := by decide +kernel
def wp_X8_sheets_24 (a1 : Int) (Q : Int → Mem → Prop) : Nat → Int → Int → Mem → Prop
  | 0, _, _, _ => False
  | n + 1, x2, x3, M => (Rg x3 ∧ (x3 < 0 → (Rg (M 87 0) ∧ Rg (M 88 0) ∧ ((M 88 0) < (M 87 0) → Q 0 M) ∧ (¬ ((M 88 0) < (M 87 0)) → (Rg (M 87 1) ∧ Rg (M 88 1) ∧ ((M 88 1) < (M 87 1) → Q 0 M) ∧ (¬ ((M 88 1) < (M 87 1)) → (Rg (M 87 2) ∧ Rg (M 88 2) ∧ ((M 88 2) < (M 87 2) → Q 0 M) ∧ (¬ ((M 88 2) < (M 87 2)) → Q 1 M))))))) ∧ (¬ (x3 < 0) → (Rg x2 ∧ 0 ≤ x2) ∧ (0 ≤ x3 ∧ x3 < 3) ∧ (Rg x2 ∧ 0 ≤ x2) ∧ (0 ≤ x3 ∧ x3 < 3) ∧ (Rg ((up M 82 x3.toNat (x2 % 4)) 82 x3.toNat) ∧ (3 ≤ ((up M 82 x3.toNat (x2 % 4)) 82 x3.toNat) → wp_X8_sheets_24 a1 Q n (x2 / 4) (x3 + (-1)) (up M 82 x3.toNat (x2 % 4))) ∧ (¬ (3 ≤ ((up M 82 x3.toNat (x2 % 4)) 82 x3.toNat)) → (0 ≤ x3 ∧ x3 < 3) ∧ (0 ≤ ((up M 82 x3.toNat (x2 % 4)) 82 x3.toNat) ∧ ((up M 82 x3.toNat (x2 % 4)) 82 x3.toNat) < 3) ∧ (0 ≤ x3 ∧ x3 < 3) ∧ (0 ≤ ((up M 82 x3.toNat (x2 % 4)) 82 x3.toNat) ∧ ((up M 82 x3.toNat (x2 % 4)) 82 x3.toNat) < 3) ∧ wp_X8_sheets_24 a1 Q n (x2 / 4) (x3 + (-1)) (up (up M 82 x3.toNat (x2 % 4)) 88 ((up M 82 x3.toNat (x2 % 4)) 82 x3.toNat).toNat (((up M 82 x3.toNat (x2 % 4)) 88 ((up M 82 x3.toNat (x2 % 4)) 82 x3.toNat).toNat) + ((up M 82 x3.toNat (x2 % 4)) 86 x3.toNat)))))))
set_option maxHeartbeats 4000000 in
set_option maxRecDepth 100000 in
theorem v_X8_sheets_24 (a1 : Int) (E : En X (AW X) 0 p R s m args meth c cX8_sheets RX8 4 (some .boolean) 0 0) (Q : Int → Mem → Prop) : ∀ n : Nat, ∀ (x2 x3 : Int) (M : Mem) (H : Heap) (locs : List Loc) (ls : Array Slot), wp_X8_sheets_24 a1 Q n x2 x3 M → Wd X (AW X) s M H locs → lv_has ls 4 [(0, .ref (xA X 62)), (2, .int (jI x2)), (3, .int (jI x3))] → W p l e R s m args below meth c H locs 0 0 (MQ below (QI X Q) args s 0 0 (AW X)) (F0 m 24 ls []) := by
  intro n
  induction n with
  | zero => intro x2 x3 M H locs ls h; exact absurd h (by simp [wp_X8_sheets_24])
  | succ n ih =>
    intro x2 x3 M H locs ls h hW hl
    rw [wp_X8_sheets_24] at h
    refine q_iload_n (n := 25) (q := 2) E.1 hl rfl dX8_sheets_24 rfl rfl ?_
    obtain ⟨g1, h2, h3⟩ := h
    refine q_if_lt (t := 77) (n := 28) E.1 g1 dX8_sheets_25 (by decide) rfl (fun c4 => ?_) (fun c4 => ?_)
    · have h := h2 c4
      refine q_aload_n (n := 78) (q := 0) E.1 hl rfl dX8_sheets_77 rfl rfl ?_
      refine q_get (n := 81) (k := 43) (fs := (fs62 X)) (v := .ref (xA X 87)) E hW (by decide) (fun _ => rfl) K8 (by decide) w758 rfl rfl dX8_sheets_78 rfl ?_
      refine q_iconst (n := 82) E.1 dX8_sheets_81 rfl ?_
      refine q_iald (n := 83) E hW (by decide) (fun _ => rfl) (by decide) (by decide) dX8_sheets_82 rfl ?_
      refine q_aload_n (n := 84) (q := 0) E.1 hl rfl dX8_sheets_83 rfl rfl ?_
      refine q_get (n := 87) (k := 44) (fs := (fs62 X)) (v := .ref (xA X 88)) E hW (by decide) (fun _ => rfl) K8 (by decide) w759 rfl rfl dX8_sheets_84 rfl ?_
      refine q_iconst (n := 88) E.1 dX8_sheets_87 rfl ?_
      refine q_iald (n := 89) E hW (by decide) (fun _ => rfl) (by decide) (by decide) dX8_sheets_88 rfl ?_
      obtain ⟨g5, g6, h7, h8⟩ := h
      refine q_icmp_gt (t := 126) (n := 92) E.1 g5 g6 dX8_sheets_89 (by decide) rfl (fun c9 => ?_) (fun c9 => ?_)
      · have h := h7 c9
        refine q_iconst (n := 127) E.1 dX8_sheets_126 rfl ?_
        exact q_zret E hW (Or.inl rfl) h dX8_sheets_127
      · have h := h8 c9
        refine q_aload_n (n := 93) (q := 0) E.1 hl rfl dX8_sheets_92 rfl rfl ?_
        refine q_get (n := 96) (k := 43) (fs := (fs62 X)) (v := .ref (xA X 87)) E hW (by decide) (fun _ => rfl) K8 (by decide) w758 rfl rfl dX8_sheets_93 rfl ?_
        refine q_iconst (n := 97) E.1 dX8_sheets_96 rfl ?_
        refine q_iald (n := 98) E hW (by decide) (fun _ => rfl) (by decide) (by decide) dX8_sheets_97 rfl ?_
        refine q_aload_n (n := 99) (q := 0) E.1 hl rfl dX8_sheets_98 rfl rfl ?_
        refine q_get (n := 102) (k := 44) (fs := (fs62 X)) (v := .ref (xA X 88)) E hW (by decide) (fun _ => rfl) K8 (by decide) w759 rfl rfl dX8_sheets_99 rfl ?_
        refine q_iconst (n := 103) E.1 dX8_sheets_102 rfl ?_
        refine q_iald (n := 104) E hW (by decide) (fun _ => rfl) (by decide) (by decide) dX8_sheets_103 rfl ?_
        obtain ⟨g10, g11, h12, h13⟩ := h
        refine q_icmp_gt (t := 126) (n := 107) E.1 g10 g11 dX8_sheets_104 (by decide) rfl (fun c14 => ?_) (fun c14 => ?_)
        · have h := h12 c14
          refine q_iconst (n := 127) E.1 dX8_sheets_126 rfl ?_
          exact q_zret E hW (Or.inl rfl) h dX8_sheets_127
        · have h := h13 c14
          refine q_aload_n (n := 108) (q := 0) E.1 hl rfl dX8_sheets_107 rfl rfl ?_
          refine q_get (n := 111) (k := 43) (fs := (fs62 X)) (v := .ref (xA X 87)) E hW (by decide) (fun _ => rfl) K8 (by decide) w758 rfl rfl dX8_sheets_108 rfl ?_
          refine q_iconst (n := 112) E.1 dX8_sheets_111 rfl ?_
          refine q_iald (n := 113) E hW (by decide) (fun _ => rfl) (by decide) (by decide) dX8_sheets_112 rfl ?_
          refine q_aload_n (n := 114) (q := 0) E.1 hl rfl dX8_sheets_113 rfl rfl ?_
          refine q_get (n := 117) (k := 44) (fs := (fs62 X)) (v := .ref (xA X 88)) E hW (by decide) (fun _ => rfl) K8 (by decide) w759 rfl rfl dX8_sheets_114 rfl ?_
          refine q_iconst (n := 118) E.1 dX8_sheets_117 rfl ?_
          refine q_iald (n := 119) E hW (by decide) (fun _ => rfl) (by decide) (by decide) dX8_sheets_118 rfl ?_
          obtain ⟨g15, g16, h17, h18⟩ := h
          refine q_icmp_gt (t := 126) (n := 122) E.1 g15 g16 dX8_sheets_119 (by decide) rfl (fun c19 => ?_) (fun c19 => ?_)
          · have h := h17 c19
            refine q_iconst (n := 127) E.1 dX8_sheets_126 rfl ?_
            exact q_zret E hW (Or.inl rfl) h dX8_sheets_127
          · have h := h18 c19
            refine q_iconst (n := 123) E.1 dX8_sheets_122 rfl ?_
            refine q_goto (n := 127) E.1 dX8_sheets_123 (by decide) ?_
            exact q_zret E hW (Or.inr rfl) h dX8_sheets_127
    · have h := h3 c4
      refine q_aload_n (n := 29) (q := 0) E.1 hl rfl dX8_sheets_28 rfl rfl ?_
      refine q_get (n := 32) (k := 36) (fs := (fs62 X)) (v := .ref (xA X 82)) E hW (by decide) (fun _ => rfl) K8 (by decide) w751 rfl rfl dX8_sheets_29 rfl ?_
      refine q_iload_n (n := 33) (q := 2) E.1 hl rfl dX8_sheets_32 rfl rfl ?_
      refine q_iload_n (n := 34) (q := 1) E.1 hl rfl dX8_sheets_33 rfl rfl ?_
      refine q_iconst (n := 35) E.1 dX8_sheets_34 rfl ?_
      obtain ⟨g20, h⟩ := h
      refine q_irem (n := 36) E.1 g20 (by decide) dX8_sheets_35 rfl ?_
      obtain ⟨g21, h⟩ := h
      refine q_iast (n := 37) E hW (by decide) (fun _ => rfl) (by decide) g21 dX8_sheets_36 rfl (fun H locs hW => ?_)
      refine q_iload_n (n := 38) (q := 1) E.1 hl rfl dX8_sheets_37 rfl rfl ?_
      refine q_iconst (n := 39) E.1 dX8_sheets_38 rfl ?_
      obtain ⟨g22, h⟩ := h
      refine q_idiv (n := 40) E.1 g22 (by decide) dX8_sheets_39 rfl ?_
      refine q_istore_n (n := 41) [(2, .int (jI (x2 / 4))), (0, .ref (xA X 62)), (3, .int (jI x3))] E.1 hl dX8_sheets_40 rfl (by decide) rfl rfl (fun ls hl => ?_)
      refine q_aload_n (n := 42) (q := 1) E.1 hl rfl dX8_sheets_41 rfl rfl ?_
      refine q_get (n := 45) (k := 36) (fs := (fs62 X)) (v := .ref (xA X 82)) E hW (by decide) (fun _ => rfl) K8 (by decide) w751 rfl rfl dX8_sheets_42 rfl ?_
      refine q_iload_n (n := 46) (q := 2) E.1 hl rfl dX8_sheets_45 rfl rfl ?_
      obtain ⟨g23, h⟩ := h
      refine q_iald (n := 47) E hW (by decide) (fun _ => rfl) (by decide) g23 dX8_sheets_46 rfl ?_
      refine q_iconst (n := 48) E.1 dX8_sheets_47 rfl ?_
      obtain ⟨g24, h25, h26⟩ := h
      refine q_icmp_ge (t := 71) (n := 51) E.1 g24 (by decide) dX8_sheets_48 (by decide) rfl (fun c27 => ?_) (fun c27 => ?_)
      · have h := h25 c27
        refine q_iinc (n := 74) (q := 2) [(3, .int (jI (x3 + (-1)))), (2, .int (jI (x2 / 4))), (0, .ref (xA X 62))] E.1 hl rfl dX8_sheets_71 (by decide) rfl rfl (fun ls hl => ?_)
        refine q_goto (n := 24) E.1 dX8_sheets_74 (by decide) ?_
        exact ih _ _ _ _ _ _ h hW (lv_sub hl [2, 1, 0] rfl)
      · have h := h26 c27
        refine q_aload_n (n := 52) (q := 1) E.1 hl rfl dX8_sheets_51 rfl rfl ?_
        refine q_get (n := 55) (k := 44) (fs := (fs62 X)) (v := .ref (xA X 88)) E hW (by decide) (fun _ => rfl) K8 (by decide) w759 rfl rfl dX8_sheets_52 rfl ?_
        refine q_aload_n (n := 56) (q := 1) E.1 hl rfl dX8_sheets_55 rfl rfl ?_
        refine q_get (n := 59) (k := 36) (fs := (fs62 X)) (v := .ref (xA X 82)) E hW (by decide) (fun _ => rfl) K8 (by decide) w751 rfl rfl dX8_sheets_56 rfl ?_
        refine q_iload_n (n := 60) (q := 2) E.1 hl rfl dX8_sheets_59 rfl rfl ?_
        obtain ⟨g28, h⟩ := h
        refine q_iald (n := 61) E hW (by decide) (fun _ => rfl) (by decide) g28 dX8_sheets_60 rfl ?_
        refine q_dup2 (n := 62) E.1 dX8_sheets_61 rfl rfl rfl ?_
        obtain ⟨g29, h⟩ := h
        refine q_iald (n := 63) E hW (by decide) (fun _ => rfl) (by decide) g29 dX8_sheets_62 rfl ?_
        refine q_aload_n (n := 64) (q := 1) E.1 hl rfl dX8_sheets_63 rfl rfl ?_
        refine q_get (n := 67) (k := 40) (fs := (fs62 X)) (v := .ref (xA X 86)) E hW (by decide) (fun _ => rfl) K8 (by decide) w755 rfl rfl dX8_sheets_64 rfl ?_
        refine q_iload_n (n := 68) (q := 2) E.1 hl rfl dX8_sheets_67 rfl rfl ?_
        obtain ⟨g30, h⟩ := h
        refine q_iald (n := 69) E hW (by decide) (fun _ => rfl) (by decide) g30 dX8_sheets_68 rfl ?_
        refine q_iadd (n := 70) E.1 dX8_sheets_69 rfl ?_
        obtain ⟨g31, h⟩ := h
        refine q_iast (n := 71) E hW (by decide) (fun _ => rfl) (by decide) g31 dX8_sheets_70 rfl (fun H locs hW => ?_)
        refine q_iinc (n := 74) (q := 2) [(3, .int (jI (x3 + (-1)))), (2, .int (jI (x2 / 4))), (0, .ref (xA X 62))] E.1 hl rfl dX8_sheets_71 (by decide) rfl rfl (fun ls hl => ?_)
        refine q_goto (n := 24) E.1 dX8_sheets_74 (by decide) ?_
        exact ih _ _ _ _ _ _ h hW (lv_sub hl [2, 1, 0] rfl)
def wp_X8_sheets_4 (a1 : Int) (Q : Int → Mem → Prop) : Nat → Int → Int → Mem → Prop
  | 0, _, _, _ => False
  | n + 1, x2, x3, M => (Rg x3 ∧ (3 ≤ x3 → (∃ n2 : Nat, wp_X8_sheets_24 a1 Q n2 x2 2 M)) ∧ (¬ (3 ≤ x3) → (0 ≤ x3 ∧ x3 < 3) ∧ wp_X8_sheets_4 a1 Q n x2 (x3 + 1) (up M 88 x3.toNat 0)))
set_option maxHeartbeats 4000000 in
set_option maxRecDepth 100000 in
theorem v_X8_sheets_4 (a1 : Int) (E : En X (AW X) 0 p R s m args meth c cX8_sheets RX8 4 (some .boolean) 0 0) (Q : Int → Mem → Prop) : ∀ n : Nat, ∀ (x2 x3 : Int) (M : Mem) (H : Heap) (locs : List Loc) (ls : Array Slot), wp_X8_sheets_4 a1 Q n x2 x3 M → Wd X (AW X) s M H locs → lv_has ls 4 [(0, .ref (xA X 62)), (2, .int (jI x2)), (3, .int (jI x3))] → W p l e R s m args below meth c H locs 0 0 (MQ below (QI X Q) args s 0 0 (AW X)) (F0 m 4 ls []) := by
  intro n
  induction n with
  | zero => intro x2 x3 M H locs ls h; exact absurd h (by simp [wp_X8_sheets_4])
  | succ n ih =>
    intro x2 x3 M H locs ls h hW hl
    rw [wp_X8_sheets_4] at h
    refine q_iload_n (n := 5) (q := 2) E.1 hl rfl dX8_sheets_4 rfl rfl ?_
    refine q_iconst (n := 6) E.1 dX8_sheets_5 rfl ?_
    obtain ⟨g1, h2, h3⟩ := h
    refine q_icmp_ge (t := 22) (n := 9) E.1 g1 (by decide) dX8_sheets_6 (by decide) rfl (fun c4 => ?_) (fun c4 => ?_)
    · have h := h2 c4
      refine q_iconst (n := 23) E.1 dX8_sheets_22 rfl ?_
      refine q_istore_n (n := 24) [(3, .int (jI 2)), (0, .ref (xA X 62)), (2, .int (jI x2))] E.1 hl dX8_sheets_23 rfl (by decide) rfl rfl (fun ls hl => ?_)
      obtain ⟨n5, h⟩ := h
      exact v_X8_sheets_24 a1 E Q n5 _ _ _ _ _ _ h hW (lv_sub hl [1, 2, 0] rfl)
    · have h := h3 c4
      refine q_aload_n (n := 10) (q := 0) E.1 hl rfl dX8_sheets_9 rfl rfl ?_
      refine q_get (n := 13) (k := 44) (fs := (fs62 X)) (v := .ref (xA X 88)) E hW (by decide) (fun _ => rfl) K8 (by decide) w759 rfl rfl dX8_sheets_10 rfl ?_
      refine q_iload_n (n := 14) (q := 2) E.1 hl rfl dX8_sheets_13 rfl rfl ?_
      refine q_iconst (n := 15) E.1 dX8_sheets_14 rfl ?_
      obtain ⟨g6, h⟩ := h
      refine q_iast (n := 16) E hW (by decide) (fun _ => rfl) (by decide) g6 dX8_sheets_15 rfl (fun H locs hW => ?_)
      refine q_iinc (n := 19) (q := 2) [(3, .int (jI (x3 + 1))), (0, .ref (xA X 62)), (2, .int (jI x2))] E.1 hl rfl dX8_sheets_16 (by decide) rfl rfl (fun ls hl => ?_)
      refine q_goto (n := 4) E.1 dX8_sheets_19 (by decide) ?_
      exact ih _ _ _ _ _ _ h hW (lv_sub hl [1, 2, 0] rfl)
def wp_X8_sheets (a1 : Int) (M : Mem) (Q : Int → Mem → Prop) : Prop := (∃ n : Nat, wp_X8_sheets_4 a1 Q n a1 0 M)
set_option maxHeartbeats 4000000 in
set_option maxRecDepth 100000 in
theorem c_X8_sheets (l : Launch) (X : Cx) (hI : Inj X) (a1 : Int) (M : Mem) (Q : Int → Mem → Prop) (h : wp_X8_sheets a1 M Q) : MI X l yX8_sheets cX8_sheets 4 (some .boolean) 0 [.ref (xA X 62), .int (jI a1)] M Q := by
  refine MI.of hI (by decide) (Nat.le_of_ble_eq_true rfl) ?_
  intro p e R s m args below meth c ls E hW hl
  have E : En X (AW X) 0 p R s m args meth c cX8_sheets RX8 4 (some .boolean) 0 0 := E
  have hl : lv_has ls 4 [(0, .ref (xA X 62)), (1, .int (jI a1))] := hl
  unfold wp_X8_sheets at h
  refine q_iload_n (n := 1) (q := 1) E.1 hl rfl dX8_sheets_0 rfl rfl ?_
  refine q_istore_n (n := 2) [(2, .int (jI a1)), (0, .ref (xA X 62)), (1, .int (jI a1))] E.1 hl dX8_sheets_1 rfl (by decide) rfl rfl (fun ls hl => ?_)
  refine q_iconst (n := 3) E.1 dX8_sheets_2 rfl ?_
  refine q_istore_n (n := 4) [(3, .int (jI 0)), (2, .int (jI a1)), (0, .ref (xA X 62)), (1, .int (jI a1))] E.1 hl dX8_sheets_3 rfl (by decide) rfl rfl (fun ls hl => ?_)
  obtain ⟨n1, h⟩ := h
  exact v_X8_sheets_4 a1 E Q n1 _ _ _ _ _ _ h hW (lv_sub hl [2, 1, 0] rfl)
/-! StickerPressModel.heaps()I -/
theorem dX8_heaps_0 : decode cX8_heaps 0 = .ok (.iconst 0, 1) := by decide +kernel
theorem dX8_heaps_1 : decode cX8_heaps 1 = .ok (.istore_n 1, 1) := by decide +kernel
theorem dX8_heaps_2 : decode cX8_heaps 2 = .ok (.iconst 0, 1) := by decide +kernel
theorem dX8_heaps_3 : decode cX8_heaps 3 = .ok (.istore_n 2, 1) := by decide +kernel
theorem dX8_heaps_4 : decode cX8_heaps 4 = .ok (.iload_n 2, 1) := by decide +kernel
theorem dX8_heaps_5 : decode cX8_heaps 5 = .ok (.iconst 3, 1) := by decide +kernel
theorem dX8_heaps_6 : decode cX8_heaps 6 = .ok (.if_icmp .ge 47, 3) := by decide +kernel
theorem dX8_heaps_9 : decode cX8_heaps 9 = .ok (.iload_n 1, 1) := by decide +kernel
theorem dX8_heaps_10 : decode cX8_heaps 10 = .ok (.aload_n 0, 1) := by decide +kernel
theorem dX8_heaps_11 : decode cX8_heaps 11 = .ok (.getfield 79, 3) := by decide +kernel
theorem dX8_heaps_14 : decode cX8_heaps 14 = .ok (.iconst 0, 1) := by decide +kernel
theorem dX8_heaps_15 : decode cX8_heaps 15 = .ok (.iaload, 1) := by decide +kernel
theorem dX8_heaps_16 : decode cX8_heaps 16 = .ok (.iload_n 2, 1) := by decide +kernel
theorem dX8_heaps_17 : decode cX8_heaps 17 = .ok (.if_icmp .eq 23, 3) := by decide +kernel
theorem dX8_heaps_20 : decode cX8_heaps 20 = .ok (.aload_n 0, 1) := by decide +kernel
theorem dX8_heaps_21 : decode cX8_heaps 21 = .ok (.getfield 79, 3) := by decide +kernel
theorem dX8_heaps_24 : decode cX8_heaps 24 = .ok (.iconst 1, 1) := by decide +kernel
theorem dX8_heaps_25 : decode cX8_heaps 25 = .ok (.iaload, 1) := by decide +kernel
theorem dX8_heaps_26 : decode cX8_heaps 26 = .ok (.iload_n 2, 1) := by decide +kernel
theorem dX8_heaps_27 : decode cX8_heaps 27 = .ok (.if_icmp .eq 13, 3) := by decide +kernel
theorem dX8_heaps_30 : decode cX8_heaps 30 = .ok (.aload_n 0, 1) := by decide +kernel
theorem dX8_heaps_31 : decode cX8_heaps 31 = .ok (.getfield 79, 3) := by decide +kernel
theorem dX8_heaps_34 : decode cX8_heaps 34 = .ok (.iconst 2, 1) := by decide +kernel
theorem dX8_heaps_35 : decode cX8_heaps 35 = .ok (.iaload, 1) := by decide +kernel
theorem dX8_heaps_36 : decode cX8_heaps 36 = .ok (.iload_n 2, 1) := by decide +kernel
theorem dX8_heaps_37 : decode cX8_heaps 37 = .ok (.if_icmp .ne 7, 3) := by decide +kernel
theorem dX8_heaps_40 : decode cX8_heaps 40 = .ok (.iconst 1, 1) := by decide +kernel
theorem dX8_heaps_41 : decode cX8_heaps 41 = .ok (.goto 4, 3) := by decide +kernel
theorem dX8_heaps_44 : decode cX8_heaps 44 = .ok (.iconst 0, 1) := by decide +kernel
theorem dX8_heaps_45 : decode cX8_heaps 45 = .ok (.iadd, 1) := by decide +kernel
theorem dX8_heaps_46 : decode cX8_heaps 46 = .ok (.istore_n 1, 1) := by decide +kernel
theorem dX8_heaps_47 : decode cX8_heaps 47 = .ok (.iinc 2 1, 3) := by decide +kernel
theorem dX8_heaps_50 : decode cX8_heaps 50 = .ok (.goto (-46), 3) := by decide +kernel
theorem dX8_heaps_53 : decode cX8_heaps 53 = .ok (.iload_n 1, 1) := by decide +kernel
theorem dX8_heaps_54 : decode cX8_heaps 54 = .ok (.ireturn, 1) := by decide +kernel
def wp_X8_heaps_4 (Q : Int → Mem → Prop) : Nat → Int → Int → Mem → Prop
  | 0, _, _, _ => False
  | n + 1, x1, x2, M => (Rg x2 ∧ (3 ≤ x2 → Q x1 M) ∧ (¬ (3 ≤ x2) → (Rg (M 82 0) ∧ Rg x2 ∧ ((M 82 0) = x2 → wp_X8_heaps_4 Q n (x1 + 1) (x2 + 1) M) ∧ (¬ ((M 82 0) = x2) → (Rg (M 82 1) ∧ Rg x2 ∧ ((M 82 1) = x2 → wp_X8_heaps_4 Q n (x1 + 1) (x2 + 1) M) ∧ (¬ ((M 82 1) = x2) → (Rg (M 82 2) ∧ Rg x2 ∧ ((M 82 2) ≠ x2 → wp_X8_heaps_4 Q n (x1 + 0) (x2 + 1) M) ∧ (¬ ((M 82 2) ≠ x2) → wp_X8_heaps_4 Q n (x1 + 1) (x2 + 1) M))))))))
set_option maxHeartbeats 4000000 in
set_option maxRecDepth 100000 in
theorem v_X8_heaps_4 (E : En X (AW X) 0 p R s m args meth c cX8_heaps RX8 3 (some .int) 0 0) (Q : Int → Mem → Prop) : ∀ n : Nat, ∀ (x1 x2 : Int) (M : Mem) (H : Heap) (locs : List Loc) (ls : Array Slot), wp_X8_heaps_4 Q n x1 x2 M → Wd X (AW X) s M H locs → lv_has ls 3 [(0, .ref (xA X 62)), (1, .int (jI x1)), (2, .int (jI x2))] → W p l e R s m args below meth c H locs 0 0 (MQ below (QI X Q) args s 0 0 (AW X)) (F0 m 4 ls []) := by
  intro n
  induction n with
  | zero => intro x1 x2 M H locs ls h; exact absurd h (by simp [wp_X8_heaps_4])
  | succ n ih =>
    intro x1 x2 M H locs ls h hW hl
    rw [wp_X8_heaps_4] at h
    refine q_iload_n (n := 5) (q := 2) E.1 hl rfl dX8_heaps_4 rfl rfl ?_
    refine q_iconst (n := 6) E.1 dX8_heaps_5 rfl ?_
    obtain ⟨g1, h2, h3⟩ := h
    refine q_icmp_ge (t := 53) (n := 9) E.1 g1 (by decide) dX8_heaps_6 (by decide) rfl (fun c4 => ?_) (fun c4 => ?_)
    · have h := h2 c4
      refine q_iload_n (n := 54) (q := 1) E.1 hl rfl dX8_heaps_53 rfl rfl ?_
      exact q_iret E hW h dX8_heaps_54
    · have h := h3 c4
      refine q_iload_n (n := 10) (q := 1) E.1 hl rfl dX8_heaps_9 rfl rfl ?_
      refine q_aload_n (n := 11) (q := 0) E.1 hl rfl dX8_heaps_10 rfl rfl ?_
      refine q_get (n := 14) (k := 36) (fs := (fs62 X)) (v := .ref (xA X 82)) E hW (by decide) (fun _ => rfl) K8 (by decide) w751 rfl rfl dX8_heaps_11 rfl ?_
      refine q_iconst (n := 15) E.1 dX8_heaps_14 rfl ?_
      refine q_iald (n := 16) E hW (by decide) (fun _ => rfl) (by decide) (by decide) dX8_heaps_15 rfl ?_
      refine q_iload_n (n := 17) (q := 2) E.1 hl rfl dX8_heaps_16 rfl rfl ?_
      obtain ⟨g5, g6, h7, h8⟩ := h
      refine q_icmp_eq (t := 40) (n := 20) E.1 g5 g6 dX8_heaps_17 (by decide) rfl (fun c9 => ?_) (fun c9 => ?_)
      · have h := h7 c9
        refine q_iconst (n := 41) E.1 dX8_heaps_40 rfl ?_
        refine q_goto (n := 45) E.1 dX8_heaps_41 (by decide) ?_
        refine q_iadd (n := 46) E.1 dX8_heaps_45 rfl ?_
        refine q_istore_n (n := 47) [(1, .int (jI (x1 + 1))), (0, .ref (xA X 62)), (2, .int (jI x2))] E.1 hl dX8_heaps_46 rfl (by decide) rfl rfl (fun ls hl => ?_)
        refine q_iinc (n := 50) (q := 2) [(2, .int (jI (x2 + 1))), (1, .int (jI (x1 + 1))), (0, .ref (xA X 62))] E.1 hl rfl dX8_heaps_47 (by decide) rfl rfl (fun ls hl => ?_)
        refine q_goto (n := 4) E.1 dX8_heaps_50 (by decide) ?_
        exact ih _ _ _ _ _ _ h hW (lv_sub hl [2, 1, 0] rfl)
      · have h := h8 c9
        refine q_aload_n (n := 21) (q := 0) E.1 hl rfl dX8_heaps_20 rfl rfl ?_
        refine q_get (n := 24) (k := 36) (fs := (fs62 X)) (v := .ref (xA X 82)) E hW (by decide) (fun _ => rfl) K8 (by decide) w751 rfl rfl dX8_heaps_21 rfl ?_
        refine q_iconst (n := 25) E.1 dX8_heaps_24 rfl ?_
        refine q_iald (n := 26) E hW (by decide) (fun _ => rfl) (by decide) (by decide) dX8_heaps_25 rfl ?_
        refine q_iload_n (n := 27) (q := 2) E.1 hl rfl dX8_heaps_26 rfl rfl ?_
        obtain ⟨g10, g11, h12, h13⟩ := h
        refine q_icmp_eq (t := 40) (n := 30) E.1 g10 g11 dX8_heaps_27 (by decide) rfl (fun c14 => ?_) (fun c14 => ?_)
        · have h := h12 c14
          refine q_iconst (n := 41) E.1 dX8_heaps_40 rfl ?_
          refine q_goto (n := 45) E.1 dX8_heaps_41 (by decide) ?_
          refine q_iadd (n := 46) E.1 dX8_heaps_45 rfl ?_
          refine q_istore_n (n := 47) [(1, .int (jI (x1 + 1))), (0, .ref (xA X 62)), (2, .int (jI x2))] E.1 hl dX8_heaps_46 rfl (by decide) rfl rfl (fun ls hl => ?_)
          refine q_iinc (n := 50) (q := 2) [(2, .int (jI (x2 + 1))), (1, .int (jI (x1 + 1))), (0, .ref (xA X 62))] E.1 hl rfl dX8_heaps_47 (by decide) rfl rfl (fun ls hl => ?_)
          refine q_goto (n := 4) E.1 dX8_heaps_50 (by decide) ?_
          exact ih _ _ _ _ _ _ h hW (lv_sub hl [2, 1, 0] rfl)
        · have h := h13 c14
          refine q_aload_n (n := 31) (q := 0) E.1 hl rfl dX8_heaps_30 rfl rfl ?_
          refine q_get (n := 34) (k := 36) (fs := (fs62 X)) (v := .ref (xA X 82)) E hW (by decide) (fun _ => rfl) K8 (by decide) w751 rfl rfl dX8_heaps_31 rfl ?_
          refine q_iconst (n := 35) E.1 dX8_heaps_34 rfl ?_
          refine q_iald (n := 36) E hW (by decide) (fun _ => rfl) (by decide) (by decide) dX8_heaps_35 rfl ?_
          refine q_iload_n (n := 37) (q := 2) E.1 hl rfl dX8_heaps_36 rfl rfl ?_
          obtain ⟨g15, g16, h17, h18⟩ := h
          refine q_icmp_ne (t := 44) (n := 40) E.1 g15 g16 dX8_heaps_37 (by decide) rfl (fun c19 => ?_) (fun c19 => ?_)
          · have h := h17 c19
            refine q_iconst (n := 45) E.1 dX8_heaps_44 rfl ?_
            refine q_iadd (n := 46) E.1 dX8_heaps_45 rfl ?_
            refine q_istore_n (n := 47) [(1, .int (jI (x1 + 0))), (0, .ref (xA X 62)), (2, .int (jI x2))] E.1 hl dX8_heaps_46 rfl (by decide) rfl rfl (fun ls hl => ?_)
            refine q_iinc (n := 50) (q := 2) [(2, .int (jI (x2 + 1))), (1, .int (jI (x1 + 0))), (0, .ref (xA X 62))] E.1 hl rfl dX8_heaps_47 (by decide) rfl rfl (fun ls hl => ?_)
            refine q_goto (n := 4) E.1 dX8_heaps_50 (by decide) ?_
            exact ih _ _ _ _ _ _ h hW (lv_sub hl [2, 1, 0] rfl)
          · have h := h18 c19
            refine q_iconst (n := 41) E.1 dX8_heaps_40 rfl ?_
            refine q_goto (n := 45) E.1 dX8_heaps_41 (by decide) ?_
            refine q_iadd (n := 46) E.1 dX8_heaps_45 rfl ?_
            refine q_istore_n (n := 47) [(1, .int (jI (x1 + 1))), (0, .ref (xA X 62)), (2, .int (jI x2))] E.1 hl dX8_heaps_46 rfl (by decide) rfl rfl (fun ls hl => ?_)
            refine q_iinc (n := 50) (q := 2) [(2, .int (jI (x2 + 1))), (1, .int (jI (x1 + 1))), (0, .ref (xA X 62))] E.1 hl rfl dX8_heaps_47 (by decide) rfl rfl (fun ls hl => ?_)
            refine q_goto (n := 4) E.1 dX8_heaps_50 (by decide) ?_
            exact ih _ _ _ _ _ _ h hW (lv_sub hl [2, 1, 0] rfl)
def wp_X8_heaps (M : Mem) (Q : Int → Mem → Prop) : Prop := (∃ n : Nat, wp_X8_heaps_4 Q n 0 0 M)
set_option maxHeartbeats 4000000 in
set_option maxRecDepth 100000 in
theorem c_X8_heaps (l : Launch) (X : Cx) (hI : Inj X) (M : Mem) (Q : Int → Mem → Prop) (h : wp_X8_heaps M Q) : MI X l yX8_heaps cX8_heaps 3 (some .int) 0 [.ref (xA X 62)] M Q := by
  refine MI.of hI (by decide) (Nat.le_of_ble_eq_true rfl) ?_
  intro p e R s m args below meth c ls E hW hl
  have E : En X (AW X) 0 p R s m args meth c cX8_heaps RX8 3 (some .int) 0 0 := E
  have hl : lv_has ls 3 [(0, .ref (xA X 62))] := hl
  unfold wp_X8_heaps at h
  refine q_iconst (n := 1) E.1 dX8_heaps_0 rfl ?_
  refine q_istore_n (n := 2) [(1, .int (jI 0)), (0, .ref (xA X 62))] E.1 hl dX8_heaps_1 rfl (by decide) rfl rfl (fun ls hl => ?_)
  refine q_iconst (n := 3) E.1 dX8_heaps_2 rfl ?_
  refine q_istore_n (n := 4) [(2, .int (jI 0)), (1, .int (jI 0)), (0, .ref (xA X 62))] E.1 hl dX8_heaps_3 rfl (by decide) rfl rfl (fun ls hl => ?_)
  obtain ⟨n1, h⟩ := h
  exact v_X8_heaps_4 E Q n1 _ _ _ _ _ _ h hW (lv_sub hl [2, 1, 0] rfl)
/-! StickerPressModel.lays()Z -/
theorem dX8_lays_0 : decode cX8_lays 0 = .ok (.iconst 0, 1) := by decide +kernel
theorem dX8_lays_1 : decode cX8_lays 1 = .ok (.istore_n 1, 1) := by decide +kernel
theorem dX8_lays_2 : decode cX8_lays 2 = .ok (.iconst 0, 1) := by decide +kernel
theorem dX8_lays_3 : decode cX8_lays 3 = .ok (.istore_n 2, 1) := by decide +kernel
theorem dX8_lays_4 : decode cX8_lays 4 = .ok (.iload_n 2, 1) := by decide +kernel
theorem dX8_lays_5 : decode cX8_lays 5 = .ok (.bipush 6, 2) := by decide +kernel
theorem dX8_lays_7 : decode cX8_lays 7 = .ok (.if_icmp .ge 37, 3) := by decide +kernel
theorem dX8_lays_10 : decode cX8_lays 10 = .ok (.aload_n 0, 1) := by decide +kernel
theorem dX8_lays_11 : decode cX8_lays 11 = .ok (.getfield 88, 3) := by decide +kernel
theorem dX8_lays_14 : decode cX8_lays 14 = .ok (.iload_n 2, 1) := by decide +kernel
theorem dX8_lays_15 : decode cX8_lays 15 = .ok (.aload_n 0, 1) := by decide +kernel
theorem dX8_lays_16 : decode cX8_lays 16 = .ok (.iload_n 2, 1) := by decide +kernel
theorem dX8_lays_17 : decode cX8_lays 17 = .ok (.invokevirtual 201, 3) := by decide +kernel
theorem dX8_lays_20 : decode cX8_lays 20 = .ok (.iastore, 1) := by decide +kernel
theorem dX8_lays_21 : decode cX8_lays 21 = .ok (.iload_n 1, 1) := by decide +kernel
theorem dX8_lays_22 : decode cX8_lays 22 = .ok (.aload_n 0, 1) := by decide +kernel
theorem dX8_lays_23 : decode cX8_lays 23 = .ok (.getfield 88, 3) := by decide +kernel
theorem dX8_lays_26 : decode cX8_lays 26 = .ok (.iload_n 2, 1) := by decide +kernel
theorem dX8_lays_27 : decode cX8_lays 27 = .ok (.iaload, 1) := by decide +kernel
theorem dX8_lays_28 : decode cX8_lays 28 = .ok (.ifCond .le 7, 3) := by decide +kernel
theorem dX8_lays_31 : decode cX8_lays 31 = .ok (.iconst 1, 1) := by decide +kernel
theorem dX8_lays_32 : decode cX8_lays 32 = .ok (.goto 4, 3) := by decide +kernel
theorem dX8_lays_35 : decode cX8_lays 35 = .ok (.iconst 0, 1) := by decide +kernel
theorem dX8_lays_36 : decode cX8_lays 36 = .ok (.iadd, 1) := by decide +kernel
theorem dX8_lays_37 : decode cX8_lays 37 = .ok (.istore_n 1, 1) := by decide +kernel
theorem dX8_lays_38 : decode cX8_lays 38 = .ok (.iinc 2 1, 3) := by decide +kernel
theorem dX8_lays_41 : decode cX8_lays 41 = .ok (.goto (-37), 3) := by decide +kernel
theorem dX8_lays_44 : decode cX8_lays 44 = .ok (.iconst 0, 1) := by decide +kernel
theorem dX8_lays_45 : decode cX8_lays 45 = .ok (.istore_n 2, 1) := by decide +kernel
theorem dX8_lays_46 : decode cX8_lays 46 = .ok (.iload_n 2, 1) := by decide +kernel
theorem dX8_lays_47 : decode cX8_lays 47 = .ok (.iconst 3, 1) := by decide +kernel
theorem dX8_lays_48 : decode cX8_lays 48 = .ok (.if_icmp .ge 20, 3) := by decide +kernel
theorem dX8_lays_51 : decode cX8_lays 51 = .ok (.aload_n 0, 1) := by decide +kernel
theorem dX8_lays_52 : decode cX8_lays 52 = .ok (.getfield 91, 3) := by decide +kernel
theorem dX8_lays_55 : decode cX8_lays 55 = .ok (.iload_n 2, 1) := by decide +kernel
theorem dX8_lays_56 : decode cX8_lays 56 = .ok (.aload_n 0, 1) := by decide +kernel
theorem dX8_lays_57 : decode cX8_lays 57 = .ok (.iload_n 2, 1) := by decide +kernel
theorem dX8_lays_58 : decode cX8_lays 58 = .ok (.invokevirtual 204, 3) := by decide +kernel
theorem dX8_lays_61 : decode cX8_lays 61 = .ok (.iastore, 1) := by decide +kernel
theorem dX8_lays_62 : decode cX8_lays 62 = .ok (.iinc 2 1, 3) := by decide +kernel
theorem dX8_lays_65 : decode cX8_lays 65 = .ok (.goto (-19), 3) := by decide +kernel
theorem dX8_lays_68 : decode cX8_lays 68 = .ok (.aload_n 0, 1) := by decide +kernel
theorem dX8_lays_69 : decode cX8_lays 69 = .ok (.iconst (-1), 1) := by decide +kernel
theorem dX8_lays_70 : decode cX8_lays 70 = .ok (.putfield 207, 3) := by decide +kernel
theorem dX8_lays_73 : decode cX8_lays 73 = .ok (.iconst 0, 1) := by decide +kernel
theorem dX8_lays_74 : decode cX8_lays 74 = .ok (.istore_n 2, 1) := by decide +kernel
theorem dX8_lays_75 : decode cX8_lays 75 = .ok (.iload_n 2, 1) := by decide +kernel
theorem dX8_lays_76 : decode cX8_lays 76 = .ok (.sipush 729, 3) := by decide +kernel
theorem dX8_lays_79 : decode cX8_lays 79 = .ok (.if_icmp .ge 204, 3) := by decide +kernel
theorem dX8_lays_82 : decode cX8_lays 82 = .ok (.aload_n 0, 1) := by decide +kernel
theorem dX8_lays_83 : decode cX8_lays 83 = .ok (.iload_n 2, 1) := by decide +kernel
theorem dX8_lays_84 : decode cX8_lays 84 = .ok (.invokevirtual 210, 3) := by decide +kernel
theorem dX8_lays_87 : decode cX8_lays 87 = .ok (.ifCond .ne 6, 3) := by decide +kernel
theorem dX8_lays_90 : decode cX8_lays 90 = .ok (.goto 187, 3) := by decide +kernel
theorem dX8_lays_93 : decode cX8_lays 93 = .ok (.iconst 0, 1) := by decide +kernel
theorem dX8_lays_94 : decode cX8_lays 94 = .ok (.istore_n 3, 1) := by decide +kernel
theorem dX8_lays_95 : decode cX8_lays 95 = .ok (.iload_n 3, 1) := by decide +kernel
theorem dX8_lays_96 : decode cX8_lays 96 = .ok (.bipush 64, 2) := by decide +kernel
theorem dX8_lays_98 : decode cX8_lays 98 = .ok (.if_icmp .ge 179, 3) := by decide +kernel
theorem dX8_lays_101 : decode cX8_lays 101 = .ok (.aload_n 0, 1) := by decide +kernel
theorem dX8_lays_102 : decode cX8_lays 102 = .ok (.iload_n 3, 1) := by decide +kernel
theorem dX8_lays_103 : decode cX8_lays 103 = .ok (.invokevirtual 213, 3) := by decide +kernel
theorem dX8_lays_106 : decode cX8_lays 106 = .ok (.ifCond .ne 6, 3) := by decide +kernel
theorem dX8_lays_109 : decode cX8_lays 109 = .ok (.goto 162, 3) := by decide +kernel
theorem dX8_lays_112 : decode cX8_lays 112 = .ok (.iconst 0, 1) := by decide +kernel
theorem dX8_lays_113 : decode cX8_lays 113 = .ok (.istore 4, 2) := by decide +kernel
theorem dX8_lays_115 : decode cX8_lays 115 = .ok (.iconst 0, 1) := by decide +kernel
theorem dX8_lays_116 : decode cX8_lays 116 = .ok (.istore 5, 2) := by decide +kernel
theorem dX8_lays_118 : decode cX8_lays 118 = .ok (.iload 5, 2) := by decide +kernel
theorem dX8_lays_120 : decode cX8_lays 120 = .ok (.iconst 3, 1) := by decide +kernel
theorem dX8_lays_121 : decode cX8_lays 121 = .ok (.if_icmp .ge 30, 3) := by decide +kernel
theorem dX8_lays_124 : decode cX8_lays 124 = .ok (.iload 4, 2) := by decide +kernel
theorem dX8_lays_126 : decode cX8_lays 126 = .ok (.aload_n 0, 1) := by decide +kernel
theorem dX8_lays_127 : decode cX8_lays 127 = .ok (.getfield 79, 3) := by decide +kernel
theorem dX8_lays_130 : decode cX8_lays 130 = .ok (.iload 5, 2) := by decide +kernel
theorem dX8_lays_132 : decode cX8_lays 132 = .ok (.iaload, 1) := by decide +kernel
theorem dX8_lays_133 : decode cX8_lays 133 = .ok (.iconst 3, 1) := by decide +kernel
theorem dX8_lays_134 : decode cX8_lays 134 = .ok (.if_icmp .ge 7, 3) := by decide +kernel
theorem dX8_lays_137 : decode cX8_lays 137 = .ok (.iconst 1, 1) := by decide +kernel
theorem dX8_lays_138 : decode cX8_lays 138 = .ok (.goto 4, 3) := by decide +kernel
theorem dX8_lays_141 : decode cX8_lays 141 = .ok (.iconst 0, 1) := by decide +kernel
theorem dX8_lays_142 : decode cX8_lays 142 = .ok (.iadd, 1) := by decide +kernel
theorem dX8_lays_143 : decode cX8_lays 143 = .ok (.istore 4, 2) := by decide +kernel
theorem dX8_lays_145 : decode cX8_lays 145 = .ok (.iinc 5 1, 3) := by decide +kernel
theorem dX8_lays_148 : decode cX8_lays 148 = .ok (.goto (-30), 3) := by decide +kernel
theorem dX8_lays_151 : decode cX8_lays 151 = .ok (.iload_n 1, 1) := by decide +kernel
theorem dX8_lays_152 : decode cX8_lays 152 = .ok (.iload 4, 2) := by decide +kernel
theorem dX8_lays_154 : decode cX8_lays 154 = .ok (.iadd, 1) := by decide +kernel
theorem dX8_lays_155 : decode cX8_lays 155 = .ok (.aload_n 0, 1) := by decide +kernel
theorem dX8_lays_156 : decode cX8_lays 156 = .ok (.invokevirtual 216, 3) := by decide +kernel
theorem dX8_lays_159 : decode cX8_lays 159 = .ok (.isub, 1) := by decide +kernel
theorem dX8_lays_160 : decode cX8_lays 160 = .ok (.istore 5, 2) := by decide +kernel
theorem dX8_lays_162 : decode cX8_lays 162 = .ok (.aload_n 0, 1) := by decide +kernel
theorem dX8_lays_163 : decode cX8_lays 163 = .ok (.getfield 207, 3) := by decide +kernel
theorem dX8_lays_166 : decode cX8_lays 166 = .ok (.iconst (-1), 1) := by decide +kernel
theorem dX8_lays_167 : decode cX8_lays 167 = .ok (.if_icmp .eq 33, 3) := by decide +kernel
theorem dX8_lays_170 : decode cX8_lays 170 = .ok (.iload 5, 2) := by decide +kernel
theorem dX8_lays_172 : decode cX8_lays 172 = .ok (.aload_n 0, 1) := by decide +kernel
theorem dX8_lays_173 : decode cX8_lays 173 = .ok (.getfield 207, 3) := by decide +kernel
theorem dX8_lays_176 : decode cX8_lays 176 = .ok (.if_icmp .gt 95, 3) := by decide +kernel
theorem dX8_lays_179 : decode cX8_lays 179 = .ok (.iload 5, 2) := by decide +kernel
theorem dX8_lays_181 : decode cX8_lays 181 = .ok (.aload_n 0, 1) := by decide +kernel
theorem dX8_lays_182 : decode cX8_lays 182 = .ok (.getfield 207, 3) := by decide +kernel
theorem dX8_lays_185 : decode cX8_lays 185 = .ok (.if_icmp .ne 15, 3) := by decide +kernel
theorem dX8_lays_188 : decode cX8_lays 188 = .ok (.iload 4, 2) := by decide +kernel
theorem dX8_lays_190 : decode cX8_lays 190 = .ok (.aload_n 0, 1) := by decide +kernel
theorem dX8_lays_191 : decode cX8_lays 191 = .ok (.getfield 219, 3) := by decide +kernel
theorem dX8_lays_194 : decode cX8_lays 194 = .ok (.if_icmp .lt 6, 3) := by decide +kernel
theorem dX8_lays_197 : decode cX8_lays 197 = .ok (.goto 74, 3) := by decide +kernel
theorem dX8_lays_200 : decode cX8_lays 200 = .ok (.aload_n 0, 1) := by decide +kernel
theorem dX8_lays_201 : decode cX8_lays 201 = .ok (.iload 5, 2) := by decide +kernel
theorem dX8_lays_203 : decode cX8_lays 203 = .ok (.putfield 207, 3) := by decide +kernel
theorem dX8_lays_206 : decode cX8_lays 206 = .ok (.aload_n 0, 1) := by decide +kernel
theorem dX8_lays_207 : decode cX8_lays 207 = .ok (.iload 4, 2) := by decide +kernel
theorem dX8_lays_209 : decode cX8_lays 209 = .ok (.putfield 219, 3) := by decide +kernel
theorem dX8_lays_212 : decode cX8_lays 212 = .ok (.iconst 0, 1) := by decide +kernel
theorem dX8_lays_213 : decode cX8_lays 213 = .ok (.istore 6, 2) := by decide +kernel
theorem dX8_lays_215 : decode cX8_lays 215 = .ok (.iload 6, 2) := by decide +kernel
theorem dX8_lays_217 : decode cX8_lays 217 = .ok (.bipush 6, 2) := by decide +kernel
theorem dX8_lays_219 : decode cX8_lays 219 = .ok (.if_icmp .ge 23, 3) := by decide +kernel
theorem dX8_lays_222 : decode cX8_lays 222 = .ok (.aload_n 0, 1) := by decide +kernel
theorem dX8_lays_223 : decode cX8_lays 223 = .ok (.getfield 82, 3) := by decide +kernel
theorem dX8_lays_226 : decode cX8_lays 226 = .ok (.iload 6, 2) := by decide +kernel
theorem dX8_lays_228 : decode cX8_lays 228 = .ok (.aload_n 0, 1) := by decide +kernel
theorem dX8_lays_229 : decode cX8_lays 229 = .ok (.getfield 76, 3) := by decide +kernel
theorem dX8_lays_232 : decode cX8_lays 232 = .ok (.iload 6, 2) := by decide +kernel
theorem dX8_lays_234 : decode cX8_lays 234 = .ok (.iaload, 1) := by decide +kernel
theorem dX8_lays_235 : decode cX8_lays 235 = .ok (.iastore, 1) := by decide +kernel
theorem dX8_lays_236 : decode cX8_lays 236 = .ok (.iinc 6 1, 3) := by decide +kernel
theorem dX8_lays_239 : decode cX8_lays 239 = .ok (.goto (-24), 3) := by decide +kernel
theorem dX8_lays_242 : decode cX8_lays 242 = .ok (.iconst 0, 1) := by decide +kernel
theorem dX8_lays_243 : decode cX8_lays 243 = .ok (.istore 6, 2) := by decide +kernel
theorem dX8_lays_245 : decode cX8_lays 245 = .ok (.iload 6, 2) := by decide +kernel
theorem dX8_lays_247 : decode cX8_lays 247 = .ok (.iconst 3, 1) := by decide +kernel
theorem dX8_lays_248 : decode cX8_lays 248 = .ok (.if_icmp .ge 23, 3) := by decide +kernel
theorem dX8_lays_251 : decode cX8_lays 251 = .ok (.aload_n 0, 1) := by decide +kernel
theorem dX8_lays_252 : decode cX8_lays 252 = .ok (.getfield 85, 3) := by decide +kernel
theorem dX8_lays_255 : decode cX8_lays 255 = .ok (.iload 6, 2) := by decide +kernel
theorem dX8_lays_257 : decode cX8_lays 257 = .ok (.aload_n 0, 1) := by decide +kernel
theorem dX8_lays_258 : decode cX8_lays 258 = .ok (.getfield 79, 3) := by decide +kernel
theorem dX8_lays_261 : decode cX8_lays 261 = .ok (.iload 6, 2) := by decide +kernel
theorem dX8_lays_263 : decode cX8_lays 263 = .ok (.iaload, 1) := by decide +kernel
theorem dX8_lays_264 : decode cX8_lays 264 = .ok (.iastore, 1) := by decide +kernel
theorem dX8_lays_265 : decode cX8_lays 265 = .ok (.iinc 6 1, 3) := by decide +kernel
theorem dX8_lays_268 : decode cX8_lays 268 = .ok (.goto (-23), 3) := by decide +kernel
theorem dX8_lays_271 : decode cX8_lays 271 = .ok (.iinc 3 1, 3) := by decide +kernel
theorem dX8_lays_274 : decode cX8_lays 274 = .ok (.goto (-179), 3) := by decide +kernel
theorem dX8_lays_277 : decode cX8_lays 277 = .ok (.iinc 2 1, 3) := by decide +kernel
theorem dX8_lays_280 : decode cX8_lays 280 = .ok (.goto (-205), 3) := by decide +kernel
theorem dX8_lays_283 : decode cX8_lays 283 = .ok (.aload_n 0, 1) := by decide +kernel
theorem dX8_lays_284 : decode cX8_lays 284 = .ok (.getfield 207, 3) := by decide +kernel
theorem dX8_lays_287 : decode cX8_lays 287 = .ok (.iconst (-1), 1) := by decide +kernel
theorem dX8_lays_288 : decode cX8_lays 288 = .ok (.if_icmp .eq 7, 3) := by decide +kernel
theorem dX8_lays_291 : decode cX8_lays 291 = .ok (.iconst 1, 1) := by decide +kernel
theorem dX8_lays_292 : decode cX8_lays 292 = .ok (.goto 4, 3) := by decide +kernel
theorem dX8_lays_295 : decode cX8_lays 295 = .ok (.iconst 0, 1) := by decide +kernel
theorem dX8_lays_296 : decode cX8_lays 296 = .ok (.ireturn, 1) := by decide +kernel
theorem Y_RX8_204 : YV RX8 204 RX8 yX8_freeOn cX8_freeOn 4 (some .int) 1 := ⟨w980, w977, w979, w36, w52, by decide +kernel, by decide⟩
theorem Y_RX8_210 : YV RX8 210 RX8 yX8_groups cX8_groups 4 (some .boolean) 1 := ⟨w988, w985, w987, w38, w52, by decide +kernel, by decide⟩
theorem Y_RX8_213 : YV RX8 213 RX8 yX8_sheets cX8_sheets 4 (some .boolean) 1 := ⟨w992, w989, w991, w39, w52, by decide +kernel, by decide⟩
theorem Y_RX8_216 : YV RX8 216 RX8 yX8_heaps cX8_heaps 3 (some .int) 0 := ⟨w996, w993, w995, w40, w52, by decide +kernel, by decide⟩
def wp_X8_lays_245 (k95 : Int → Int → Int → Mem → Prop) (Q : Int → Mem → Prop) : Nat → Int → Int → Int → Int → Mem → Prop
  | 0, _, _, _, _, _ => False
  | n + 1, x1, x2, x3, x6, M => (Rg x6 ∧ (3 ≤ x6 → k95 x1 x2 (x3 + 1) M) ∧ (¬ (3 ≤ x6) → (0 ≤ x6 ∧ x6 < 3) ∧ (0 ≤ x6 ∧ x6 < 3) ∧ wp_X8_lays_245 k95 Q n x1 x2 x3 (x6 + 1) (up M 84 x6.toNat (M 82 x6.toNat))))
set_option maxHeartbeats 4000000 in
set_option maxRecDepth 100000 in
theorem v_X8_lays_245 (E : En X (AW X) 1 p R s m args meth c cX8_lays RX8 7 (some .boolean) 0 0) (Q : Int → Mem → Prop) (k95 : Int → Int → Int → Mem → Prop) (Hk95 : ∀ (x1 x2 x3 : Int) (M : Mem) (H : Heap) (locs : List Loc) (ls : Array Slot), k95 x1 x2 x3 M → Wd X (AW X) s M H locs → lv_has ls 7 [(0, .ref (xA X 62)), (1, .int (jI x1)), (2, .int (jI x2)), (3, .int (jI x3))] → W p l e R s m args below meth c H locs 0 0 (MQ below (QI X Q) args s 0 0 (AW X)) (F0 m 95 ls [])) : ∀ n : Nat, ∀ (x1 x2 x3 x6 : Int) (M : Mem) (H : Heap) (locs : List Loc) (ls : Array Slot), wp_X8_lays_245 k95 Q n x1 x2 x3 x6 M → Wd X (AW X) s M H locs → lv_has ls 7 [(0, .ref (xA X 62)), (1, .int (jI x1)), (2, .int (jI x2)), (3, .int (jI x3)), (6, .int (jI x6))] → W p l e R s m args below meth c H locs 0 0 (MQ below (QI X Q) args s 0 0 (AW X)) (F0 m 245 ls []) := by
  intro n
  induction n with
  | zero => intro x1 x2 x3 x6 M H locs ls h; exact absurd h (by simp [wp_X8_lays_245])
  | succ n ih =>
    intro x1 x2 x3 x6 M H locs ls h hW hl
    rw [wp_X8_lays_245] at h
    refine q_iload (n := 247) (q := 4) E.1 hl rfl dX8_lays_245 rfl ?_
    refine q_iconst (n := 248) E.1 dX8_lays_247 rfl ?_
    obtain ⟨g1, h2, h3⟩ := h
    refine q_icmp_ge (t := 271) (n := 251) E.1 g1 (by decide) dX8_lays_248 (by decide) rfl (fun c4 => ?_) (fun c4 => ?_)
    · have h := h2 c4
      refine q_iinc (n := 274) (q := 3) [(3, .int (jI (x3 + 1))), (0, .ref (xA X 62)), (1, .int (jI x1)), (2, .int (jI x2)), (6, .int (jI x6))] E.1 hl rfl dX8_lays_271 (by decide) rfl rfl (fun ls hl => ?_)
      refine q_goto (n := 95) E.1 dX8_lays_274 (by decide) ?_
      exact Hk95 _ _ _ _ _ _ _ h hW (lv_sub hl [1, 2, 3, 0] rfl)
    · have h := h3 c4
      refine q_aload_n (n := 252) (q := 0) E.1 hl rfl dX8_lays_251 rfl rfl ?_
      refine q_get (n := 255) (k := 38) (fs := (fs62 X)) (v := .ref (xA X 84)) E hW (by decide) (fun _ => rfl) K8 (by decide) w753 rfl rfl dX8_lays_252 rfl ?_
      refine q_iload (n := 257) (q := 4) E.1 hl rfl dX8_lays_255 rfl ?_
      refine q_aload_n (n := 258) (q := 0) E.1 hl rfl dX8_lays_257 rfl rfl ?_
      refine q_get (n := 261) (k := 36) (fs := (fs62 X)) (v := .ref (xA X 82)) E hW (by decide) (fun _ => rfl) K8 (by decide) w751 rfl rfl dX8_lays_258 rfl ?_
      refine q_iload (n := 263) (q := 4) E.1 hl rfl dX8_lays_261 rfl ?_
      obtain ⟨g5, h⟩ := h
      refine q_iald (n := 264) E hW (by decide) (fun _ => rfl) (by decide) g5 dX8_lays_263 rfl ?_
      obtain ⟨g6, h⟩ := h
      refine q_iast (n := 265) E hW (by decide) (fun _ => rfl) (by decide) g6 dX8_lays_264 rfl (fun H locs hW => ?_)
      refine q_iinc (n := 268) (q := 4) [(6, .int (jI (x6 + 1))), (0, .ref (xA X 62)), (1, .int (jI x1)), (2, .int (jI x2)), (3, .int (jI x3))] E.1 hl rfl dX8_lays_265 (by decide) rfl rfl (fun ls hl => ?_)
      refine q_goto (n := 245) E.1 dX8_lays_268 (by decide) ?_
      exact ih _ _ _ _ _ _ _ _ h hW (lv_sub hl [1, 2, 3, 4, 0] rfl)
def wp_X8_lays_215 (k95 : Int → Int → Int → Mem → Prop) (Q : Int → Mem → Prop) : Nat → Int → Int → Int → Int → Mem → Prop
  | 0, _, _, _, _, _ => False
  | n + 1, x1, x2, x3, x6, M => (Rg x6 ∧ (6 ≤ x6 → (∃ n2 : Nat, wp_X8_lays_245 k95 Q n2 x1 x2 x3 0 M)) ∧ (¬ (6 ≤ x6) → (0 ≤ x6 ∧ x6 < 6) ∧ (0 ≤ x6 ∧ x6 < 6) ∧ wp_X8_lays_215 k95 Q n x1 x2 x3 (x6 + 1) (up M 83 x6.toNat (M 81 x6.toNat))))
set_option maxHeartbeats 4000000 in
set_option maxRecDepth 100000 in
theorem v_X8_lays_215 (E : En X (AW X) 1 p R s m args meth c cX8_lays RX8 7 (some .boolean) 0 0) (Q : Int → Mem → Prop) (k95 : Int → Int → Int → Mem → Prop) (Hk95 : ∀ (x1 x2 x3 : Int) (M : Mem) (H : Heap) (locs : List Loc) (ls : Array Slot), k95 x1 x2 x3 M → Wd X (AW X) s M H locs → lv_has ls 7 [(0, .ref (xA X 62)), (1, .int (jI x1)), (2, .int (jI x2)), (3, .int (jI x3))] → W p l e R s m args below meth c H locs 0 0 (MQ below (QI X Q) args s 0 0 (AW X)) (F0 m 95 ls [])) : ∀ n : Nat, ∀ (x1 x2 x3 x6 : Int) (M : Mem) (H : Heap) (locs : List Loc) (ls : Array Slot), wp_X8_lays_215 k95 Q n x1 x2 x3 x6 M → Wd X (AW X) s M H locs → lv_has ls 7 [(0, .ref (xA X 62)), (1, .int (jI x1)), (2, .int (jI x2)), (3, .int (jI x3)), (6, .int (jI x6))] → W p l e R s m args below meth c H locs 0 0 (MQ below (QI X Q) args s 0 0 (AW X)) (F0 m 215 ls []) := by
  intro n
  induction n with
  | zero => intro x1 x2 x3 x6 M H locs ls h; exact absurd h (by simp [wp_X8_lays_215])
  | succ n ih =>
    intro x1 x2 x3 x6 M H locs ls h hW hl
    rw [wp_X8_lays_215] at h
    refine q_iload (n := 217) (q := 4) E.1 hl rfl dX8_lays_215 rfl ?_
    refine q_bipush (n := 219) E.1 dX8_lays_217 (by decide) rfl ?_
    obtain ⟨g1, h2, h3⟩ := h
    refine q_icmp_ge (t := 242) (n := 222) E.1 g1 (by decide) dX8_lays_219 (by decide) rfl (fun c4 => ?_) (fun c4 => ?_)
    · have h := h2 c4
      refine q_iconst (n := 243) E.1 dX8_lays_242 rfl ?_
      refine q_istore (n := 245) [(6, .int (jI 0)), (0, .ref (xA X 62)), (1, .int (jI x1)), (2, .int (jI x2)), (3, .int (jI x3))] E.1 hl dX8_lays_243 (by decide) rfl rfl (fun ls hl => ?_)
      obtain ⟨n5, h⟩ := h
      exact v_X8_lays_245 E Q _ Hk95 n5 _ _ _ _ _ _ _ _ h hW (lv_sub hl [1, 2, 3, 4, 0] rfl)
    · have h := h3 c4
      refine q_aload_n (n := 223) (q := 0) E.1 hl rfl dX8_lays_222 rfl rfl ?_
      refine q_get (n := 226) (k := 37) (fs := (fs62 X)) (v := .ref (xA X 83)) E hW (by decide) (fun _ => rfl) K8 (by decide) w752 rfl rfl dX8_lays_223 rfl ?_
      refine q_iload (n := 228) (q := 4) E.1 hl rfl dX8_lays_226 rfl ?_
      refine q_aload_n (n := 229) (q := 0) E.1 hl rfl dX8_lays_228 rfl rfl ?_
      refine q_get (n := 232) (k := 35) (fs := (fs62 X)) (v := .ref (xA X 81)) E hW (by decide) (fun _ => rfl) K8 (by decide) w750 rfl rfl dX8_lays_229 rfl ?_
      refine q_iload (n := 234) (q := 4) E.1 hl rfl dX8_lays_232 rfl ?_
      obtain ⟨g6, h⟩ := h
      refine q_iald (n := 235) E hW (by decide) (fun _ => rfl) (by decide) g6 dX8_lays_234 rfl ?_
      obtain ⟨g7, h⟩ := h
      refine q_iast (n := 236) E hW (by decide) (fun _ => rfl) (by decide) g7 dX8_lays_235 rfl (fun H locs hW => ?_)
      refine q_iinc (n := 239) (q := 4) [(6, .int (jI (x6 + 1))), (0, .ref (xA X 62)), (1, .int (jI x1)), (2, .int (jI x2)), (3, .int (jI x3))] E.1 hl rfl dX8_lays_236 (by decide) rfl rfl (fun ls hl => ?_)
      refine q_goto (n := 215) E.1 dX8_lays_239 (by decide) ?_
      exact ih _ _ _ _ _ _ _ _ h hW (lv_sub hl [1, 2, 3, 4, 0] rfl)
def wp_X8_lays_118 (k95 : Int → Int → Int → Mem → Prop) (Q : Int → Mem → Prop) : Nat → Int → Int → Int → Int → Int → Mem → Prop
  | 0, _, _, _, _, _, _ => False
  | n + 1, x1, x2, x3, x4, x5, M => (Rg x5 ∧ (3 ≤ x5 → wp_X8_heaps  M (fun r6 M5 => (Rg (M5 62 41) ∧ ((M5 62 41) = (-1) → (∃ n2 : Nat, wp_X8_lays_215 k95 Q n2 x1 x2 x3 0 (up (up M5 62 41 ((x1 + x4) - r6)) 62 42 x4))) ∧ (¬ ((M5 62 41) = (-1)) → (Rg ((x1 + x4) - r6) ∧ Rg (M5 62 41) ∧ ((M5 62 41) < ((x1 + x4) - r6) → k95 x1 x2 (x3 + 1) M5) ∧ (¬ ((M5 62 41) < ((x1 + x4) - r6)) → (Rg ((x1 + x4) - r6) ∧ Rg (M5 62 41) ∧ (((x1 + x4) - r6) ≠ (M5 62 41) → (∃ n2 : Nat, wp_X8_lays_215 k95 Q n2 x1 x2 x3 0 (up (up M5 62 41 ((x1 + x4) - r6)) 62 42 x4))) ∧ (¬ (((x1 + x4) - r6) ≠ (M5 62 41)) → (Rg x4 ∧ Rg (M5 62 42) ∧ (x4 < (M5 62 42) → (∃ n2 : Nat, wp_X8_lays_215 k95 Q n2 x1 x2 x3 0 (up (up M5 62 41 ((x1 + x4) - r6)) 62 42 x4))) ∧ (¬ (x4 < (M5 62 42)) → k95 x1 x2 (x3 + 1) M5)))))))))) ∧ (¬ (3 ≤ x5) → (0 ≤ x5 ∧ x5 < 3) ∧ (Rg (M 82 x5.toNat) ∧ (3 ≤ (M 82 x5.toNat) → wp_X8_lays_118 k95 Q n x1 x2 x3 (x4 + 0) (x5 + 1) M) ∧ (¬ (3 ≤ (M 82 x5.toNat)) → wp_X8_lays_118 k95 Q n x1 x2 x3 (x4 + 1) (x5 + 1) M))))
set_option maxHeartbeats 4000000 in
set_option maxRecDepth 100000 in
theorem v_X8_lays_118 (E : En X (AW X) 1 p R s m args meth c cX8_lays RX8 7 (some .boolean) 0 0) (Q : Int → Mem → Prop) (k95 : Int → Int → Int → Mem → Prop) (Hk95 : ∀ (x1 x2 x3 : Int) (M : Mem) (H : Heap) (locs : List Loc) (ls : Array Slot), k95 x1 x2 x3 M → Wd X (AW X) s M H locs → lv_has ls 7 [(0, .ref (xA X 62)), (1, .int (jI x1)), (2, .int (jI x2)), (3, .int (jI x3))] → W p l e R s m args below meth c H locs 0 0 (MQ below (QI X Q) args s 0 0 (AW X)) (F0 m 95 ls [])) : ∀ n : Nat, ∀ (x1 x2 x3 x4 x5 : Int) (M : Mem) (H : Heap) (locs : List Loc) (ls : Array Slot), wp_X8_lays_118 k95 Q n x1 x2 x3 x4 x5 M → Wd X (AW X) s M H locs → lv_has ls 7 [(0, .ref (xA X 62)), (1, .int (jI x1)), (2, .int (jI x2)), (3, .int (jI x3)), (4, .int (jI x4)), (5, .int (jI x5))] → W p l e R s m args below meth c H locs 0 0 (MQ below (QI X Q) args s 0 0 (AW X)) (F0 m 118 ls []) := by
  intro n
  induction n with
  | zero => intro x1 x2 x3 x4 x5 M H locs ls h; exact absurd h (by simp [wp_X8_lays_118])
  | succ n ih =>
    intro x1 x2 x3 x4 x5 M H locs ls h hW hl
    rw [wp_X8_lays_118] at h
    refine q_iload (n := 120) (q := 5) E.1 hl rfl dX8_lays_118 rfl ?_
    refine q_iconst (n := 121) E.1 dX8_lays_120 rfl ?_
    obtain ⟨g1, h2, h3⟩ := h
    refine q_icmp_ge (t := 151) (n := 124) E.1 g1 (by decide) dX8_lays_121 (by decide) rfl (fun c4 => ?_) (fun c4 => ?_)
    · have h := h2 c4
      refine q_iload_n (n := 152) (q := 1) E.1 hl rfl dX8_lays_151 rfl rfl ?_
      refine q_iload (n := 154) (q := 4) E.1 hl rfl dX8_lays_152 rfl ?_
      refine q_iadd (n := 155) E.1 dX8_lays_154 rfl ?_
      refine q_aload_n (n := 156) (q := 0) E.1 hl rfl dX8_lays_155 rfl rfl ?_
      refine q_callVi (n := 159) (fs := (fs62 X)) [] E hW hl.1 (by decide) (fun _ => rfl) K8 (c_X8_heaps l X E.2.2.1.1   _ _ h) (by decide) Y_RX8_216 rfl (rest := [.int (jI (x1 + x4))]) rfl (Nat.le_of_ble_eq_true rfl) dX8_lays_156 rfl (fun r6 M5 H locs h hW => ?_)
      refine q_isub (n := 160) E.1 dX8_lays_159 rfl ?_
      refine q_istore (n := 162) [(5, .int (jI ((x1 + x4) - r6))), (0, .ref (xA X 62)), (1, .int (jI x1)), (2, .int (jI x2)), (3, .int (jI x3)), (4, .int (jI x4))] E.1 hl dX8_lays_160 (by decide) rfl rfl (fun ls hl => ?_)
      refine q_aload_n (n := 163) (q := 1) E.1 hl rfl dX8_lays_162 rfl rfl ?_
      refine q_get (n := 166) (k := 41) (fs := (fs62 X)) (v := .int (jI (M5 62 41))) E hW (by decide) (fun _ => rfl) K8 (by decide) w756 rfl rfl dX8_lays_163 rfl ?_
      refine q_iconst (n := 167) E.1 dX8_lays_166 rfl ?_
      obtain ⟨g7, h8, h9⟩ := h
      refine q_icmp_eq (t := 200) (n := 170) E.1 g7 (by decide) dX8_lays_167 (by decide) rfl (fun c10 => ?_) (fun c10 => ?_)
      · have h := h8 c10
        refine q_aload_n (n := 201) (q := 1) E.1 hl rfl dX8_lays_200 rfl rfl ?_
        refine q_iload (n := 203) (q := 0) E.1 hl rfl dX8_lays_201 rfl ?_
        refine q_put (n := 206) (k := 41) (fs := (fs62 X)) E hW (by decide) (fun _ => rfl) K8 (by decide) w756 rfl rfl ⟨rfl, rfl⟩ (Nat.le_of_ble_eq_true rfl) (fun _ => rfl) dX8_lays_203 rfl (fun H locs hW => ?_)
        refine q_aload_n (n := 207) (q := 1) E.1 hl rfl dX8_lays_206 rfl rfl ?_
        refine q_iload (n := 209) (q := 5) E.1 hl rfl dX8_lays_207 rfl ?_
        refine q_put (n := 212) (k := 42) (fs := (fs62 X)) E hW (by decide) (fun _ => rfl) K8 (by decide) w757 rfl rfl ⟨rfl, rfl⟩ (Nat.le_of_ble_eq_true rfl) (fun _ => rfl) dX8_lays_209 rfl (fun H locs hW => ?_)
        refine q_iconst (n := 213) E.1 dX8_lays_212 rfl ?_
        refine q_istore (n := 215) [(6, .int (jI 0)), (5, .int (jI ((x1 + x4) - r6))), (0, .ref (xA X 62)), (1, .int (jI x1)), (2, .int (jI x2)), (3, .int (jI x3)), (4, .int (jI x4))] E.1 hl dX8_lays_213 (by decide) rfl rfl (fun ls hl => ?_)
        obtain ⟨n11, h⟩ := h
        exact v_X8_lays_215 E Q _ Hk95 n11 _ _ _ _ _ _ _ _ h hW (lv_sub hl [2, 3, 4, 5, 0] rfl)
      · have h := h9 c10
        refine q_iload (n := 172) (q := 0) E.1 hl rfl dX8_lays_170 rfl ?_
        refine q_aload_n (n := 173) (q := 1) E.1 hl rfl dX8_lays_172 rfl rfl ?_
        refine q_get (n := 176) (k := 41) (fs := (fs62 X)) (v := .int (jI (M5 62 41))) E hW (by decide) (fun _ => rfl) K8 (by decide) w756 rfl rfl dX8_lays_173 rfl ?_
        obtain ⟨g12, g13, h14, h15⟩ := h
        refine q_icmp_gt (t := 271) (n := 179) E.1 g12 g13 dX8_lays_176 (by decide) rfl (fun c16 => ?_) (fun c16 => ?_)
        · have h := h14 c16
          refine q_iinc (n := 274) (q := 4) [(3, .int (jI (x3 + 1))), (5, .int (jI ((x1 + x4) - r6))), (0, .ref (xA X 62)), (1, .int (jI x1)), (2, .int (jI x2)), (4, .int (jI x4))] E.1 hl rfl dX8_lays_271 (by decide) rfl rfl (fun ls hl => ?_)
          refine q_goto (n := 95) E.1 dX8_lays_274 (by decide) ?_
          exact Hk95 _ _ _ _ _ _ _ h hW (lv_sub hl [2, 3, 4, 0] rfl)
        · have h := h15 c16
          refine q_iload (n := 181) (q := 0) E.1 hl rfl dX8_lays_179 rfl ?_
          refine q_aload_n (n := 182) (q := 1) E.1 hl rfl dX8_lays_181 rfl rfl ?_
          refine q_get (n := 185) (k := 41) (fs := (fs62 X)) (v := .int (jI (M5 62 41))) E hW (by decide) (fun _ => rfl) K8 (by decide) w756 rfl rfl dX8_lays_182 rfl ?_
          obtain ⟨g17, g18, h19, h20⟩ := h
          refine q_icmp_ne (t := 200) (n := 188) E.1 g17 g18 dX8_lays_185 (by decide) rfl (fun c21 => ?_) (fun c21 => ?_)
          · have h := h19 c21
            refine q_aload_n (n := 201) (q := 1) E.1 hl rfl dX8_lays_200 rfl rfl ?_
            refine q_iload (n := 203) (q := 0) E.1 hl rfl dX8_lays_201 rfl ?_
            refine q_put (n := 206) (k := 41) (fs := (fs62 X)) E hW (by decide) (fun _ => rfl) K8 (by decide) w756 rfl rfl ⟨rfl, rfl⟩ (Nat.le_of_ble_eq_true rfl) (fun _ => rfl) dX8_lays_203 rfl (fun H locs hW => ?_)
            refine q_aload_n (n := 207) (q := 1) E.1 hl rfl dX8_lays_206 rfl rfl ?_
            refine q_iload (n := 209) (q := 5) E.1 hl rfl dX8_lays_207 rfl ?_
            refine q_put (n := 212) (k := 42) (fs := (fs62 X)) E hW (by decide) (fun _ => rfl) K8 (by decide) w757 rfl rfl ⟨rfl, rfl⟩ (Nat.le_of_ble_eq_true rfl) (fun _ => rfl) dX8_lays_209 rfl (fun H locs hW => ?_)
            refine q_iconst (n := 213) E.1 dX8_lays_212 rfl ?_
            refine q_istore (n := 215) [(6, .int (jI 0)), (5, .int (jI ((x1 + x4) - r6))), (0, .ref (xA X 62)), (1, .int (jI x1)), (2, .int (jI x2)), (3, .int (jI x3)), (4, .int (jI x4))] E.1 hl dX8_lays_213 (by decide) rfl rfl (fun ls hl => ?_)
            obtain ⟨n22, h⟩ := h
            exact v_X8_lays_215 E Q _ Hk95 n22 _ _ _ _ _ _ _ _ h hW (lv_sub hl [2, 3, 4, 5, 0] rfl)
          · have h := h20 c21
            refine q_iload (n := 190) (q := 5) E.1 hl rfl dX8_lays_188 rfl ?_
            refine q_aload_n (n := 191) (q := 1) E.1 hl rfl dX8_lays_190 rfl rfl ?_
            refine q_get (n := 194) (k := 42) (fs := (fs62 X)) (v := .int (jI (M5 62 42))) E hW (by decide) (fun _ => rfl) K8 (by decide) w757 rfl rfl dX8_lays_191 rfl ?_
            obtain ⟨g23, g24, h25, h26⟩ := h
            refine q_icmp_lt (t := 200) (n := 197) E.1 g23 g24 dX8_lays_194 (by decide) rfl (fun c27 => ?_) (fun c27 => ?_)
            · have h := h25 c27
              refine q_aload_n (n := 201) (q := 1) E.1 hl rfl dX8_lays_200 rfl rfl ?_
              refine q_iload (n := 203) (q := 0) E.1 hl rfl dX8_lays_201 rfl ?_
              refine q_put (n := 206) (k := 41) (fs := (fs62 X)) E hW (by decide) (fun _ => rfl) K8 (by decide) w756 rfl rfl ⟨rfl, rfl⟩ (Nat.le_of_ble_eq_true rfl) (fun _ => rfl) dX8_lays_203 rfl (fun H locs hW => ?_)
              refine q_aload_n (n := 207) (q := 1) E.1 hl rfl dX8_lays_206 rfl rfl ?_
              refine q_iload (n := 209) (q := 5) E.1 hl rfl dX8_lays_207 rfl ?_
              refine q_put (n := 212) (k := 42) (fs := (fs62 X)) E hW (by decide) (fun _ => rfl) K8 (by decide) w757 rfl rfl ⟨rfl, rfl⟩ (Nat.le_of_ble_eq_true rfl) (fun _ => rfl) dX8_lays_209 rfl (fun H locs hW => ?_)
              refine q_iconst (n := 213) E.1 dX8_lays_212 rfl ?_
              refine q_istore (n := 215) [(6, .int (jI 0)), (5, .int (jI ((x1 + x4) - r6))), (0, .ref (xA X 62)), (1, .int (jI x1)), (2, .int (jI x2)), (3, .int (jI x3)), (4, .int (jI x4))] E.1 hl dX8_lays_213 (by decide) rfl rfl (fun ls hl => ?_)
              obtain ⟨n28, h⟩ := h
              exact v_X8_lays_215 E Q _ Hk95 n28 _ _ _ _ _ _ _ _ h hW (lv_sub hl [2, 3, 4, 5, 0] rfl)
            · have h := h26 c27
              refine q_goto (n := 271) E.1 dX8_lays_197 (by decide) ?_
              refine q_iinc (n := 274) (q := 4) [(3, .int (jI (x3 + 1))), (5, .int (jI ((x1 + x4) - r6))), (0, .ref (xA X 62)), (1, .int (jI x1)), (2, .int (jI x2)), (4, .int (jI x4))] E.1 hl rfl dX8_lays_271 (by decide) rfl rfl (fun ls hl => ?_)
              refine q_goto (n := 95) E.1 dX8_lays_274 (by decide) ?_
              exact Hk95 _ _ _ _ _ _ _ h hW (lv_sub hl [2, 3, 4, 0] rfl)
    · have h := h3 c4
      refine q_iload (n := 126) (q := 4) E.1 hl rfl dX8_lays_124 rfl ?_
      refine q_aload_n (n := 127) (q := 0) E.1 hl rfl dX8_lays_126 rfl rfl ?_
      refine q_get (n := 130) (k := 36) (fs := (fs62 X)) (v := .ref (xA X 82)) E hW (by decide) (fun _ => rfl) K8 (by decide) w751 rfl rfl dX8_lays_127 rfl ?_
      refine q_iload (n := 132) (q := 5) E.1 hl rfl dX8_lays_130 rfl ?_
      obtain ⟨g29, h⟩ := h
      refine q_iald (n := 133) E hW (by decide) (fun _ => rfl) (by decide) g29 dX8_lays_132 rfl ?_
      refine q_iconst (n := 134) E.1 dX8_lays_133 rfl ?_
      obtain ⟨g30, h31, h32⟩ := h
      refine q_icmp_ge (t := 141) (n := 137) E.1 g30 (by decide) dX8_lays_134 (by decide) rfl (fun c33 => ?_) (fun c33 => ?_)
      · have h := h31 c33
        refine q_iconst (n := 142) E.1 dX8_lays_141 rfl ?_
        refine q_iadd (n := 143) E.1 dX8_lays_142 rfl ?_
        refine q_istore (n := 145) [(4, .int (jI (x4 + 0))), (0, .ref (xA X 62)), (1, .int (jI x1)), (2, .int (jI x2)), (3, .int (jI x3)), (5, .int (jI x5))] E.1 hl dX8_lays_143 (by decide) rfl rfl (fun ls hl => ?_)
        refine q_iinc (n := 148) (q := 5) [(5, .int (jI (x5 + 1))), (4, .int (jI (x4 + 0))), (0, .ref (xA X 62)), (1, .int (jI x1)), (2, .int (jI x2)), (3, .int (jI x3))] E.1 hl rfl dX8_lays_145 (by decide) rfl rfl (fun ls hl => ?_)
        refine q_goto (n := 118) E.1 dX8_lays_148 (by decide) ?_
        exact ih _ _ _ _ _ _ _ _ _ h hW (lv_sub hl [2, 3, 4, 5, 1, 0] rfl)
      · have h := h32 c33
        refine q_iconst (n := 138) E.1 dX8_lays_137 rfl ?_
        refine q_goto (n := 142) E.1 dX8_lays_138 (by decide) ?_
        refine q_iadd (n := 143) E.1 dX8_lays_142 rfl ?_
        refine q_istore (n := 145) [(4, .int (jI (x4 + 1))), (0, .ref (xA X 62)), (1, .int (jI x1)), (2, .int (jI x2)), (3, .int (jI x3)), (5, .int (jI x5))] E.1 hl dX8_lays_143 (by decide) rfl rfl (fun ls hl => ?_)
        refine q_iinc (n := 148) (q := 5) [(5, .int (jI (x5 + 1))), (4, .int (jI (x4 + 1))), (0, .ref (xA X 62)), (1, .int (jI x1)), (2, .int (jI x2)), (3, .int (jI x3))] E.1 hl rfl dX8_lays_145 (by decide) rfl rfl (fun ls hl => ?_)
        refine q_goto (n := 118) E.1 dX8_lays_148 (by decide) ?_
        exact ih _ _ _ _ _ _ _ _ _ h hW (lv_sub hl [2, 3, 4, 5, 1, 0] rfl)
def wp_X8_lays_95 (k75 : Int → Int → Mem → Prop) (Q : Int → Mem → Prop) : Nat → Int → Int → Int → Mem → Prop
  | 0, _, _, _, _ => False
  | n + 1, x1, x2, x3, M => (Rg x3 ∧ (64 ≤ x3 → k75 x1 (x2 + 1) M) ∧ (¬ (64 ≤ x3) → wp_X8_sheets x3 M (fun r6 M5 => (Rg r6 ∧ (r6 ≠ 0 → (∃ n2 : Nat, wp_X8_lays_118 (fun x1 x2 x3 M => wp_X8_lays_95 k75 Q n x1 x2 x3 M) Q n2 x1 x2 x3 0 0 M5)) ∧ (¬ (r6 ≠ 0) → wp_X8_lays_95 k75 Q n x1 x2 (x3 + 1) M5)))))
set_option maxHeartbeats 4000000 in
set_option maxRecDepth 100000 in
theorem v_X8_lays_95 (E : En X (AW X) 1 p R s m args meth c cX8_lays RX8 7 (some .boolean) 0 0) (Q : Int → Mem → Prop) (k75 : Int → Int → Mem → Prop) (Hk75 : ∀ (x1 x2 : Int) (M : Mem) (H : Heap) (locs : List Loc) (ls : Array Slot), k75 x1 x2 M → Wd X (AW X) s M H locs → lv_has ls 7 [(0, .ref (xA X 62)), (1, .int (jI x1)), (2, .int (jI x2))] → W p l e R s m args below meth c H locs 0 0 (MQ below (QI X Q) args s 0 0 (AW X)) (F0 m 75 ls [])) : ∀ n : Nat, ∀ (x1 x2 x3 : Int) (M : Mem) (H : Heap) (locs : List Loc) (ls : Array Slot), wp_X8_lays_95 k75 Q n x1 x2 x3 M → Wd X (AW X) s M H locs → lv_has ls 7 [(0, .ref (xA X 62)), (1, .int (jI x1)), (2, .int (jI x2)), (3, .int (jI x3))] → W p l e R s m args below meth c H locs 0 0 (MQ below (QI X Q) args s 0 0 (AW X)) (F0 m 95 ls []) := by
  intro n
  induction n with
  | zero => intro x1 x2 x3 M H locs ls h; exact absurd h (by simp [wp_X8_lays_95])
  | succ n ih =>
    intro x1 x2 x3 M H locs ls h hW hl
    rw [wp_X8_lays_95] at h
    refine q_iload_n (n := 96) (q := 3) E.1 hl rfl dX8_lays_95 rfl rfl ?_
    refine q_bipush (n := 98) E.1 dX8_lays_96 (by decide) rfl ?_
    obtain ⟨g1, h2, h3⟩ := h
    refine q_icmp_ge (t := 277) (n := 101) E.1 g1 (by decide) dX8_lays_98 (by decide) rfl (fun c4 => ?_) (fun c4 => ?_)
    · have h := h2 c4
      refine q_iinc (n := 280) (q := 2) [(2, .int (jI (x2 + 1))), (0, .ref (xA X 62)), (1, .int (jI x1)), (3, .int (jI x3))] E.1 hl rfl dX8_lays_277 (by decide) rfl rfl (fun ls hl => ?_)
      refine q_goto (n := 75) E.1 dX8_lays_280 (by decide) ?_
      exact Hk75 _ _ _ _ _ _ h hW (lv_sub hl [1, 2, 0] rfl)
    · have h := h3 c4
      refine q_aload_n (n := 102) (q := 0) E.1 hl rfl dX8_lays_101 rfl rfl ?_
      refine q_iload_n (n := 103) (q := 3) E.1 hl rfl dX8_lays_102 rfl rfl ?_
      refine q_callVi (n := 106) (fs := (fs62 X)) [.int (jI x3)] E hW hl.1 (by decide) (fun _ => rfl) K8 (c_X8_sheets l X E.2.2.1.1 x3  _ _ h) (by decide) Y_RX8_213 rfl (rest := []) rfl (Nat.le_of_ble_eq_true rfl) dX8_lays_103 rfl (fun r6 M5 H locs h hW => ?_)
      obtain ⟨g7, h8, h9⟩ := h
      refine q_if_ne (t := 112) (n := 109) E.1 g7 dX8_lays_106 (by decide) rfl (fun c10 => ?_) (fun c10 => ?_)
      · have h := h8 c10
        refine q_iconst (n := 113) E.1 dX8_lays_112 rfl ?_
        refine q_istore (n := 115) [(4, .int (jI 0)), (0, .ref (xA X 62)), (1, .int (jI x1)), (2, .int (jI x2)), (3, .int (jI x3))] E.1 hl dX8_lays_113 (by decide) rfl rfl (fun ls hl => ?_)
        refine q_iconst (n := 116) E.1 dX8_lays_115 rfl ?_
        refine q_istore (n := 118) [(5, .int (jI 0)), (4, .int (jI 0)), (0, .ref (xA X 62)), (1, .int (jI x1)), (2, .int (jI x2)), (3, .int (jI x3))] E.1 hl dX8_lays_116 (by decide) rfl rfl (fun ls hl => ?_)
        obtain ⟨n11, h⟩ := h
        exact v_X8_lays_118 E Q _ ih n11 _ _ _ _ _ _ _ _ _ h hW (lv_sub hl [2, 3, 4, 5, 1, 0] rfl)
      · have h := h9 c10
        refine q_goto (n := 271) E.1 dX8_lays_109 (by decide) ?_
        refine q_iinc (n := 274) (q := 3) [(3, .int (jI (x3 + 1))), (0, .ref (xA X 62)), (1, .int (jI x1)), (2, .int (jI x2))] E.1 hl rfl dX8_lays_271 (by decide) rfl rfl (fun ls hl => ?_)
        refine q_goto (n := 95) E.1 dX8_lays_274 (by decide) ?_
        exact ih _ _ _ _ _ _ _ h hW (lv_sub hl [1, 2, 3, 0] rfl)
def wp_X8_lays_75 (Q : Int → Mem → Prop) : Nat → Int → Int → Mem → Prop
  | 0, _, _, _ => False
  | n + 1, x1, x2, M => (Rg x2 ∧ (729 ≤ x2 → (Rg (M 62 41) ∧ ((M 62 41) = (-1) → Q 0 M) ∧ (¬ ((M 62 41) = (-1)) → Q 1 M))) ∧ (¬ (729 ≤ x2) → wp_X8_groups x2 M (fun r10 M9 => (Rg r10 ∧ (r10 ≠ 0 → (∃ n2 : Nat, wp_X8_lays_95 (fun x1 x2 M => wp_X8_lays_75 Q n x1 x2 M) Q n2 x1 x2 0 M9)) ∧ (¬ (r10 ≠ 0) → wp_X8_lays_75 Q n x1 (x2 + 1) M9)))))
set_option maxHeartbeats 4000000 in
set_option maxRecDepth 100000 in
theorem v_X8_lays_75 (E : En X (AW X) 1 p R s m args meth c cX8_lays RX8 7 (some .boolean) 0 0) (Q : Int → Mem → Prop) : ∀ n : Nat, ∀ (x1 x2 : Int) (M : Mem) (H : Heap) (locs : List Loc) (ls : Array Slot), wp_X8_lays_75 Q n x1 x2 M → Wd X (AW X) s M H locs → lv_has ls 7 [(0, .ref (xA X 62)), (1, .int (jI x1)), (2, .int (jI x2))] → W p l e R s m args below meth c H locs 0 0 (MQ below (QI X Q) args s 0 0 (AW X)) (F0 m 75 ls []) := by
  intro n
  induction n with
  | zero => intro x1 x2 M H locs ls h; exact absurd h (by simp [wp_X8_lays_75])
  | succ n ih =>
    intro x1 x2 M H locs ls h hW hl
    rw [wp_X8_lays_75] at h
    refine q_iload_n (n := 76) (q := 2) E.1 hl rfl dX8_lays_75 rfl rfl ?_
    refine q_sipush (n := 79) E.1 dX8_lays_76 (by decide) rfl ?_
    obtain ⟨g1, h2, h3⟩ := h
    refine q_icmp_ge (t := 283) (n := 82) E.1 g1 (by decide) dX8_lays_79 (by decide) rfl (fun c4 => ?_) (fun c4 => ?_)
    · have h := h2 c4
      refine q_aload_n (n := 284) (q := 0) E.1 hl rfl dX8_lays_283 rfl rfl ?_
      refine q_get (n := 287) (k := 41) (fs := (fs62 X)) (v := .int (jI (M 62 41))) E hW (by decide) (fun _ => rfl) K8 (by decide) w756 rfl rfl dX8_lays_284 rfl ?_
      refine q_iconst (n := 288) E.1 dX8_lays_287 rfl ?_
      obtain ⟨g5, h6, h7⟩ := h
      refine q_icmp_eq (t := 295) (n := 291) E.1 g5 (by decide) dX8_lays_288 (by decide) rfl (fun c8 => ?_) (fun c8 => ?_)
      · have h := h6 c8
        refine q_iconst (n := 296) E.1 dX8_lays_295 rfl ?_
        exact q_zret E hW (Or.inl rfl) h dX8_lays_296
      · have h := h7 c8
        refine q_iconst (n := 292) E.1 dX8_lays_291 rfl ?_
        refine q_goto (n := 296) E.1 dX8_lays_292 (by decide) ?_
        exact q_zret E hW (Or.inr rfl) h dX8_lays_296
    · have h := h3 c4
      refine q_aload_n (n := 83) (q := 0) E.1 hl rfl dX8_lays_82 rfl rfl ?_
      refine q_iload_n (n := 84) (q := 2) E.1 hl rfl dX8_lays_83 rfl rfl ?_
      refine q_callVi (n := 87) (fs := (fs62 X)) [.int (jI x2)] E hW hl.1 (by decide) (fun _ => rfl) K8 (c_X8_groups l X E.2.2.1.1 x2  _ _ h) (by decide) Y_RX8_210 rfl (rest := []) rfl (Nat.le_of_ble_eq_true rfl) dX8_lays_84 rfl (fun r10 M9 H locs h hW => ?_)
      obtain ⟨g11, h12, h13⟩ := h
      refine q_if_ne (t := 93) (n := 90) E.1 g11 dX8_lays_87 (by decide) rfl (fun c14 => ?_) (fun c14 => ?_)
      · have h := h12 c14
        refine q_iconst (n := 94) E.1 dX8_lays_93 rfl ?_
        refine q_istore_n (n := 95) [(3, .int (jI 0)), (0, .ref (xA X 62)), (1, .int (jI x1)), (2, .int (jI x2))] E.1 hl dX8_lays_94 rfl (by decide) rfl rfl (fun ls hl => ?_)
        obtain ⟨n15, h⟩ := h
        exact v_X8_lays_95 E Q _ ih n15 _ _ _ _ _ _ _ h hW (lv_sub hl [1, 2, 3, 0] rfl)
      · have h := h13 c14
        refine q_goto (n := 277) E.1 dX8_lays_90 (by decide) ?_
        refine q_iinc (n := 280) (q := 2) [(2, .int (jI (x2 + 1))), (0, .ref (xA X 62)), (1, .int (jI x1))] E.1 hl rfl dX8_lays_277 (by decide) rfl rfl (fun ls hl => ?_)
        refine q_goto (n := 75) E.1 dX8_lays_280 (by decide) ?_
        exact ih _ _ _ _ _ _ h hW (lv_sub hl [1, 2, 0] rfl)
def wp_X8_lays_46 (Q : Int → Mem → Prop) : Nat → Int → Int → Mem → Prop
  | 0, _, _, _ => False
  | n + 1, x1, x2, M => (Rg x2 ∧ (3 ≤ x2 → (∃ n2 : Nat, wp_X8_lays_75 Q n2 x1 0 (up M 62 41 (-1)))) ∧ (¬ (3 ≤ x2) → wp_X8_freeOn x2 M (fun r7 M6 => (0 ≤ x2 ∧ x2 < 3) ∧ wp_X8_lays_46 Q n x1 (x2 + 1) (up M6 86 x2.toNat r7))))
set_option maxHeartbeats 4000000 in
set_option maxRecDepth 100000 in
theorem v_X8_lays_46 (E : En X (AW X) 1 p R s m args meth c cX8_lays RX8 7 (some .boolean) 0 0) (Q : Int → Mem → Prop) : ∀ n : Nat, ∀ (x1 x2 : Int) (M : Mem) (H : Heap) (locs : List Loc) (ls : Array Slot), wp_X8_lays_46 Q n x1 x2 M → Wd X (AW X) s M H locs → lv_has ls 7 [(0, .ref (xA X 62)), (1, .int (jI x1)), (2, .int (jI x2))] → W p l e R s m args below meth c H locs 0 0 (MQ below (QI X Q) args s 0 0 (AW X)) (F0 m 46 ls []) := by
  intro n
  induction n with
  | zero => intro x1 x2 M H locs ls h; exact absurd h (by simp [wp_X8_lays_46])
  | succ n ih =>
    intro x1 x2 M H locs ls h hW hl
    rw [wp_X8_lays_46] at h
    refine q_iload_n (n := 47) (q := 2) E.1 hl rfl dX8_lays_46 rfl rfl ?_
    refine q_iconst (n := 48) E.1 dX8_lays_47 rfl ?_
    obtain ⟨g1, h2, h3⟩ := h
    refine q_icmp_ge (t := 68) (n := 51) E.1 g1 (by decide) dX8_lays_48 (by decide) rfl (fun c4 => ?_) (fun c4 => ?_)
    · have h := h2 c4
      refine q_aload_n (n := 69) (q := 0) E.1 hl rfl dX8_lays_68 rfl rfl ?_
      refine q_iconst (n := 70) E.1 dX8_lays_69 rfl ?_
      refine q_put (n := 73) (k := 41) (fs := (fs62 X)) E hW (by decide) (fun _ => rfl) K8 (by decide) w756 rfl rfl ⟨rfl, rfl⟩ (Nat.le_of_ble_eq_true rfl) (fun _ => rfl) dX8_lays_70 rfl (fun H locs hW => ?_)
      refine q_iconst (n := 74) E.1 dX8_lays_73 rfl ?_
      refine q_istore_n (n := 75) [(2, .int (jI 0)), (0, .ref (xA X 62)), (1, .int (jI x1))] E.1 hl dX8_lays_74 rfl (by decide) rfl rfl (fun ls hl => ?_)
      obtain ⟨n5, h⟩ := h
      exact v_X8_lays_75 E Q n5 _ _ _ _ _ _ h hW (lv_sub hl [1, 2, 0] rfl)
    · have h := h3 c4
      refine q_aload_n (n := 52) (q := 0) E.1 hl rfl dX8_lays_51 rfl rfl ?_
      refine q_get (n := 55) (k := 40) (fs := (fs62 X)) (v := .ref (xA X 86)) E hW (by decide) (fun _ => rfl) K8 (by decide) w755 rfl rfl dX8_lays_52 rfl ?_
      refine q_iload_n (n := 56) (q := 2) E.1 hl rfl dX8_lays_55 rfl rfl ?_
      refine q_aload_n (n := 57) (q := 0) E.1 hl rfl dX8_lays_56 rfl rfl ?_
      refine q_iload_n (n := 58) (q := 2) E.1 hl rfl dX8_lays_57 rfl rfl ?_
      refine q_callVi (n := 61) (fs := (fs62 X)) [.int (jI x2)] E hW hl.1 (by decide) (fun _ => rfl) K8 (c_X8_freeOn l X E.2.2.1.1 x2  _ _ h) (by decide) Y_RX8_204 rfl (rest := [.int (jI x2), .ref (xA X 86)]) rfl (Nat.le_of_ble_eq_true rfl) dX8_lays_58 rfl (fun r7 M6 H locs h hW => ?_)
      obtain ⟨g8, h⟩ := h
      refine q_iast (n := 62) E hW (by decide) (fun _ => rfl) (by decide) g8 dX8_lays_61 rfl (fun H locs hW => ?_)
      refine q_iinc (n := 65) (q := 2) [(2, .int (jI (x2 + 1))), (0, .ref (xA X 62)), (1, .int (jI x1))] E.1 hl rfl dX8_lays_62 (by decide) rfl rfl (fun ls hl => ?_)
      refine q_goto (n := 46) E.1 dX8_lays_65 (by decide) ?_
      exact ih _ _ _ _ _ _ h hW (lv_sub hl [1, 2, 0] rfl)
def wp_X8_lays_4 (Q : Int → Mem → Prop) : Nat → Int → Int → Mem → Prop
  | 0, _, _, _ => False
  | n + 1, x1, x2, M => (Rg x2 ∧ (6 ≤ x2 → (∃ n2 : Nat, wp_X8_lays_46 Q n2 x1 0 M)) ∧ (¬ (6 ≤ x2) → wp_X8_waiting x2 M (fun r7 M6 => (0 ≤ x2 ∧ x2 < 6) ∧ (0 ≤ x2 ∧ x2 < 6) ∧ (Rg ((up M6 85 x2.toNat r7) 85 x2.toNat) ∧ (((up M6 85 x2.toNat r7) 85 x2.toNat) ≤ 0 → wp_X8_lays_4 Q n (x1 + 0) (x2 + 1) (up M6 85 x2.toNat r7)) ∧ (¬ (((up M6 85 x2.toNat r7) 85 x2.toNat) ≤ 0) → wp_X8_lays_4 Q n (x1 + 1) (x2 + 1) (up M6 85 x2.toNat r7))))))
set_option maxHeartbeats 4000000 in
set_option maxRecDepth 100000 in
theorem v_X8_lays_4 (E : En X (AW X) 1 p R s m args meth c cX8_lays RX8 7 (some .boolean) 0 0) (Q : Int → Mem → Prop) : ∀ n : Nat, ∀ (x1 x2 : Int) (M : Mem) (H : Heap) (locs : List Loc) (ls : Array Slot), wp_X8_lays_4 Q n x1 x2 M → Wd X (AW X) s M H locs → lv_has ls 7 [(0, .ref (xA X 62)), (1, .int (jI x1)), (2, .int (jI x2))] → W p l e R s m args below meth c H locs 0 0 (MQ below (QI X Q) args s 0 0 (AW X)) (F0 m 4 ls []) := by
  intro n
  induction n with
  | zero => intro x1 x2 M H locs ls h; exact absurd h (by simp [wp_X8_lays_4])
  | succ n ih =>
    intro x1 x2 M H locs ls h hW hl
    rw [wp_X8_lays_4] at h
    refine q_iload_n (n := 5) (q := 2) E.1 hl rfl dX8_lays_4 rfl rfl ?_
    refine q_bipush (n := 7) E.1 dX8_lays_5 (by decide) rfl ?_
    obtain ⟨g1, h2, h3⟩ := h
    refine q_icmp_ge (t := 44) (n := 10) E.1 g1 (by decide) dX8_lays_7 (by decide) rfl (fun c4 => ?_) (fun c4 => ?_)
    · have h := h2 c4
      refine q_iconst (n := 45) E.1 dX8_lays_44 rfl ?_
      refine q_istore_n (n := 46) [(2, .int (jI 0)), (0, .ref (xA X 62)), (1, .int (jI x1))] E.1 hl dX8_lays_45 rfl (by decide) rfl rfl (fun ls hl => ?_)
      obtain ⟨n5, h⟩ := h
      exact v_X8_lays_46 E Q n5 _ _ _ _ _ _ h hW (lv_sub hl [1, 2, 0] rfl)
    · have h := h3 c4
      refine q_aload_n (n := 11) (q := 0) E.1 hl rfl dX8_lays_10 rfl rfl ?_
      refine q_get (n := 14) (k := 39) (fs := (fs62 X)) (v := .ref (xA X 85)) E hW (by decide) (fun _ => rfl) K8 (by decide) w754 rfl rfl dX8_lays_11 rfl ?_
      refine q_iload_n (n := 15) (q := 2) E.1 hl rfl dX8_lays_14 rfl rfl ?_
      refine q_aload_n (n := 16) (q := 0) E.1 hl rfl dX8_lays_15 rfl rfl ?_
      refine q_iload_n (n := 17) (q := 2) E.1 hl rfl dX8_lays_16 rfl rfl ?_
      refine q_callVi (n := 20) (fs := (fs62 X)) [.int (jI x2)] E hW hl.1 (by decide) (fun _ => rfl) K8 (c_X8_waiting l X E.2.2.1.1 x2  _ _ h) (by decide) Y_RX8_201 rfl (rest := [.int (jI x2), .ref (xA X 85)]) rfl (Nat.le_of_ble_eq_true rfl) dX8_lays_17 rfl (fun r7 M6 H locs h hW => ?_)
      obtain ⟨g8, h⟩ := h
      refine q_iast (n := 21) E hW (by decide) (fun _ => rfl) (by decide) g8 dX8_lays_20 rfl (fun H locs hW => ?_)
      refine q_iload_n (n := 22) (q := 1) E.1 hl rfl dX8_lays_21 rfl rfl ?_
      refine q_aload_n (n := 23) (q := 0) E.1 hl rfl dX8_lays_22 rfl rfl ?_
      refine q_get (n := 26) (k := 39) (fs := (fs62 X)) (v := .ref (xA X 85)) E hW (by decide) (fun _ => rfl) K8 (by decide) w754 rfl rfl dX8_lays_23 rfl ?_
      refine q_iload_n (n := 27) (q := 2) E.1 hl rfl dX8_lays_26 rfl rfl ?_
      obtain ⟨g9, h⟩ := h
      refine q_iald (n := 28) E hW (by decide) (fun _ => rfl) (by decide) g9 dX8_lays_27 rfl ?_
      obtain ⟨g10, h11, h12⟩ := h
      refine q_if_le (t := 35) (n := 31) E.1 g10 dX8_lays_28 (by decide) rfl (fun c13 => ?_) (fun c13 => ?_)
      · have h := h11 c13
        refine q_iconst (n := 36) E.1 dX8_lays_35 rfl ?_
        refine q_iadd (n := 37) E.1 dX8_lays_36 rfl ?_
        refine q_istore_n (n := 38) [(1, .int (jI (x1 + 0))), (0, .ref (xA X 62)), (2, .int (jI x2))] E.1 hl dX8_lays_37 rfl (by decide) rfl rfl (fun ls hl => ?_)
        refine q_iinc (n := 41) (q := 2) [(2, .int (jI (x2 + 1))), (1, .int (jI (x1 + 0))), (0, .ref (xA X 62))] E.1 hl rfl dX8_lays_38 (by decide) rfl rfl (fun ls hl => ?_)
        refine q_goto (n := 4) E.1 dX8_lays_41 (by decide) ?_
        exact ih _ _ _ _ _ _ h hW (lv_sub hl [2, 1, 0] rfl)
      · have h := h12 c13
        refine q_iconst (n := 32) E.1 dX8_lays_31 rfl ?_
        refine q_goto (n := 36) E.1 dX8_lays_32 (by decide) ?_
        refine q_iadd (n := 37) E.1 dX8_lays_36 rfl ?_
        refine q_istore_n (n := 38) [(1, .int (jI (x1 + 1))), (0, .ref (xA X 62)), (2, .int (jI x2))] E.1 hl dX8_lays_37 rfl (by decide) rfl rfl (fun ls hl => ?_)
        refine q_iinc (n := 41) (q := 2) [(2, .int (jI (x2 + 1))), (1, .int (jI (x1 + 1))), (0, .ref (xA X 62))] E.1 hl rfl dX8_lays_38 (by decide) rfl rfl (fun ls hl => ?_)
        refine q_goto (n := 4) E.1 dX8_lays_41 (by decide) ?_
        exact ih _ _ _ _ _ _ h hW (lv_sub hl [2, 1, 0] rfl)
def wp_X8_lays (M : Mem) (Q : Int → Mem → Prop) : Prop := (∃ n : Nat, wp_X8_lays_4 Q n 0 0 M)
set_option maxHeartbeats 4000000 in
set_option maxRecDepth 100000 in
theorem c_X8_lays (l : Launch) (X : Cx) (hI : Inj X) (M : Mem) (Q : Int → Mem → Prop) (h : wp_X8_lays M Q) : MI X l yX8_lays cX8_lays 7 (some .boolean) 1 [.ref (xA X 62)] M Q := by
  refine MI.of hI (by decide) (Nat.le_of_ble_eq_true rfl) ?_
  intro p e R s m args below meth c ls E hW hl
  have E : En X (AW X) 1 p R s m args meth c cX8_lays RX8 7 (some .boolean) 0 0 := E
  have hl : lv_has ls 7 [(0, .ref (xA X 62))] := hl
  unfold wp_X8_lays at h
  refine q_iconst (n := 1) E.1 dX8_lays_0 rfl ?_
  refine q_istore_n (n := 2) [(1, .int (jI 0)), (0, .ref (xA X 62))] E.1 hl dX8_lays_1 rfl (by decide) rfl rfl (fun ls hl => ?_)
  refine q_iconst (n := 3) E.1 dX8_lays_2 rfl ?_
  refine q_istore_n (n := 4) [(2, .int (jI 0)), (1, .int (jI 0)), (0, .ref (xA X 62))] E.1 hl dX8_lays_3 rfl (by decide) rfl rfl (fun ls hl => ?_)
  obtain ⟨n1, h⟩ := h
  exact v_X8_lays_4 E Q n1 _ _ _ _ _ _ h hW (lv_sub hl [2, 1, 0] rfl)
/-! StickerPressModel.look(I)I -/
theorem dX8_look_0 : decode cX8_look 0 = .ok (.iconst 0, 1) := by decide +kernel
theorem dX8_look_1 : decode cX8_look 1 = .ok (.istore_n 2, 1) := by decide +kernel
theorem dX8_look_2 : decode cX8_look 2 = .ok (.iload_n 1, 1) := by decide +kernel
theorem dX8_look_3 : decode cX8_look 3 = .ok (.tableswitch 128 0 4 #[33, 38, 73, 96, 112], 33) := by decide +kernel
theorem dX8_look_36 : decode cX8_look 36 = .ok (.aload_n 0, 1) := by decide +kernel
theorem dX8_look_37 : decode cX8_look 37 = .ok (.getfield 198, 3) := by decide +kernel
theorem dX8_look_40 : decode cX8_look 40 = .ok (.ireturn, 1) := by decide +kernel
theorem dX8_look_41 : decode cX8_look 41 = .ok (.iconst 0, 1) := by decide +kernel
theorem dX8_look_42 : decode cX8_look 42 = .ok (.istore_n 3, 1) := by decide +kernel
theorem dX8_look_43 : decode cX8_look 43 = .ok (.iload_n 3, 1) := by decide +kernel
theorem dX8_look_44 : decode cX8_look 44 = .ok (.aload_n 0, 1) := by decide +kernel
theorem dX8_look_45 : decode cX8_look 45 = .ok (.getfield 198, 3) := by decide +kernel
theorem dX8_look_48 : decode cX8_look 48 = .ok (.if_icmp .ge 26, 3) := by decide +kernel
theorem dX8_look_51 : decode cX8_look 51 = .ok (.iload_n 2, 1) := by decide +kernel
theorem dX8_look_52 : decode cX8_look 52 = .ok (.aload_n 0, 1) := by decide +kernel
theorem dX8_look_53 : decode cX8_look 53 = .ok (.getfield 73, 3) := by decide +kernel
theorem dX8_look_56 : decode cX8_look 56 = .ok (.iload_n 3, 1) := by decide +kernel
theorem dX8_look_57 : decode cX8_look 57 = .ok (.baload, 1) := by decide +kernel
theorem dX8_look_58 : decode cX8_look 58 = .ok (.ifCond .eq 7, 3) := by decide +kernel
theorem dX8_look_61 : decode cX8_look 61 = .ok (.iconst 1, 1) := by decide +kernel
theorem dX8_look_62 : decode cX8_look 62 = .ok (.goto 4, 3) := by decide +kernel
theorem dX8_look_65 : decode cX8_look 65 = .ok (.iconst 0, 1) := by decide +kernel
theorem dX8_look_66 : decode cX8_look 66 = .ok (.iadd, 1) := by decide +kernel
theorem dX8_look_67 : decode cX8_look 67 = .ok (.istore_n 2, 1) := by decide +kernel
theorem dX8_look_68 : decode cX8_look 68 = .ok (.iinc 3 1, 3) := by decide +kernel
theorem dX8_look_71 : decode cX8_look 71 = .ok (.goto (-28), 3) := by decide +kernel
theorem dX8_look_74 : decode cX8_look 74 = .ok (.iload_n 2, 1) := by decide +kernel
theorem dX8_look_75 : decode cX8_look 75 = .ok (.ireturn, 1) := by decide +kernel
theorem dX8_look_76 : decode cX8_look 76 = .ok (.iconst 0, 1) := by decide +kernel
theorem dX8_look_77 : decode cX8_look 77 = .ok (.istore_n 3, 1) := by decide +kernel
theorem dX8_look_78 : decode cX8_look 78 = .ok (.iload_n 3, 1) := by decide +kernel
theorem dX8_look_79 : decode cX8_look 79 = .ok (.iconst 3, 1) := by decide +kernel
theorem dX8_look_80 : decode cX8_look 80 = .ok (.if_icmp .ge 17, 3) := by decide +kernel
theorem dX8_look_83 : decode cX8_look 83 = .ok (.iload_n 2, 1) := by decide +kernel
theorem dX8_look_84 : decode cX8_look 84 = .ok (.aload_n 0, 1) := by decide +kernel
theorem dX8_look_85 : decode cX8_look 85 = .ok (.iload_n 3, 1) := by decide +kernel
theorem dX8_look_86 : decode cX8_look 86 = .ok (.invokevirtual 204, 3) := by decide +kernel
theorem dX8_look_89 : decode cX8_look 89 = .ok (.iadd, 1) := by decide +kernel
theorem dX8_look_90 : decode cX8_look 90 = .ok (.istore_n 2, 1) := by decide +kernel
theorem dX8_look_91 : decode cX8_look 91 = .ok (.iinc 3 1, 3) := by decide +kernel
theorem dX8_look_94 : decode cX8_look 94 = .ok (.goto (-16), 3) := by decide +kernel
theorem dX8_look_97 : decode cX8_look 97 = .ok (.iload_n 2, 1) := by decide +kernel
theorem dX8_look_98 : decode cX8_look 98 = .ok (.ireturn, 1) := by decide +kernel
theorem dX8_look_99 : decode cX8_look 99 = .ok (.aload_n 0, 1) := by decide +kernel
theorem dX8_look_100 : decode cX8_look 100 = .ok (.invokevirtual 222, 3) := by decide +kernel
theorem dX8_look_103 : decode cX8_look 103 = .ok (.ifCond .eq 10, 3) := by decide +kernel
theorem dX8_look_106 : decode cX8_look 106 = .ok (.aload_n 0, 1) := by decide +kernel
theorem dX8_look_107 : decode cX8_look 107 = .ok (.getfield 207, 3) := by decide +kernel
theorem dX8_look_110 : decode cX8_look 110 = .ok (.goto 4, 3) := by decide +kernel
theorem dX8_look_113 : decode cX8_look 113 = .ok (.iconst (-1), 1) := by decide +kernel
theorem dX8_look_114 : decode cX8_look 114 = .ok (.ireturn, 1) := by decide +kernel
theorem dX8_look_115 : decode cX8_look 115 = .ok (.aload_n 0, 1) := by decide +kernel
theorem dX8_look_116 : decode cX8_look 116 = .ok (.invokevirtual 222, 3) := by decide +kernel
theorem dX8_look_119 : decode cX8_look 119 = .ok (.ifCond .eq 10, 3) := by decide +kernel
theorem dX8_look_122 : decode cX8_look 122 = .ok (.aload_n 0, 1) := by decide +kernel
theorem dX8_look_123 : decode cX8_look 123 = .ok (.getfield 219, 3) := by decide +kernel
theorem dX8_look_126 : decode cX8_look 126 = .ok (.goto 4, 3) := by decide +kernel
theorem dX8_look_129 : decode cX8_look 129 = .ok (.iconst (-1), 1) := by decide +kernel
theorem dX8_look_130 : decode cX8_look 130 = .ok (.ireturn, 1) := by decide +kernel
theorem dX8_look_131 : decode cX8_look 131 = .ok (.iconst (-1), 1) := by decide +kernel
theorem dX8_look_132 : decode cX8_look 132 = .ok (.ireturn, 1) := by decide +kernel
theorem Y_RX8_222 : YV RX8 222 RX8 yX8_lays cX8_lays 7 (some .boolean) 0 := ⟨w984, w981, w983, w37, w52, by decide +kernel, by decide⟩
def wp_X8_look_78 (a1 : Int) (Q : Int → Mem → Prop) : Nat → Int → Int → Mem → Prop
  | 0, _, _, _ => False
  | n + 1, x2, x3, M => (Rg x3 ∧ (3 ≤ x3 → Q x2 M) ∧ (¬ (3 ≤ x3) → wp_X8_freeOn x3 M (fun r6 M5 => wp_X8_look_78 a1 Q n (x2 + r6) (x3 + 1) M5)))
set_option maxHeartbeats 4000000 in
set_option maxRecDepth 100000 in
theorem v_X8_look_78 (a1 : Int) (E : En X (AW X) 2 p R s m args meth c cX8_look RX8 4 (some .int) 0 0) (Q : Int → Mem → Prop) : ∀ n : Nat, ∀ (x2 x3 : Int) (M : Mem) (H : Heap) (locs : List Loc) (ls : Array Slot), wp_X8_look_78 a1 Q n x2 x3 M → Wd X (AW X) s M H locs → lv_has ls 4 [(0, .ref (xA X 62)), (2, .int (jI x2)), (3, .int (jI x3))] → W p l e R s m args below meth c H locs 0 0 (MQ below (QI X Q) args s 0 0 (AW X)) (F0 m 78 ls []) := by
  intro n
  induction n with
  | zero => intro x2 x3 M H locs ls h; exact absurd h (by simp [wp_X8_look_78])
  | succ n ih =>
    intro x2 x3 M H locs ls h hW hl
    rw [wp_X8_look_78] at h
    refine q_iload_n (n := 79) (q := 2) E.1 hl rfl dX8_look_78 rfl rfl ?_
    refine q_iconst (n := 80) E.1 dX8_look_79 rfl ?_
    obtain ⟨g1, h2, h3⟩ := h
    refine q_icmp_ge (t := 97) (n := 83) E.1 g1 (by decide) dX8_look_80 (by decide) rfl (fun c4 => ?_) (fun c4 => ?_)
    · have h := h2 c4
      refine q_iload_n (n := 98) (q := 1) E.1 hl rfl dX8_look_97 rfl rfl ?_
      exact q_iret E hW h dX8_look_98
    · have h := h3 c4
      refine q_iload_n (n := 84) (q := 1) E.1 hl rfl dX8_look_83 rfl rfl ?_
      refine q_aload_n (n := 85) (q := 0) E.1 hl rfl dX8_look_84 rfl rfl ?_
      refine q_iload_n (n := 86) (q := 2) E.1 hl rfl dX8_look_85 rfl rfl ?_
      refine q_callVi (n := 89) (fs := (fs62 X)) [.int (jI x3)] E hW hl.1 (by decide) (fun _ => rfl) K8 (c_X8_freeOn l X E.2.2.1.1 x3  _ _ h) (by decide) Y_RX8_204 rfl (rest := [.int (jI x2)]) rfl (Nat.le_of_ble_eq_true rfl) dX8_look_86 rfl (fun r6 M5 H locs h hW => ?_)
      refine q_iadd (n := 90) E.1 dX8_look_89 rfl ?_
      refine q_istore_n (n := 91) [(2, .int (jI (x2 + r6))), (0, .ref (xA X 62)), (3, .int (jI x3))] E.1 hl dX8_look_90 rfl (by decide) rfl rfl (fun ls hl => ?_)
      refine q_iinc (n := 94) (q := 2) [(3, .int (jI (x3 + 1))), (2, .int (jI (x2 + r6))), (0, .ref (xA X 62))] E.1 hl rfl dX8_look_91 (by decide) rfl rfl (fun ls hl => ?_)
      refine q_goto (n := 78) E.1 dX8_look_94 (by decide) ?_
      exact ih _ _ _ _ _ _ h hW (lv_sub hl [2, 1, 0] rfl)
def wp_X8_look_43 (a1 : Int) (Q : Int → Mem → Prop) : Nat → Int → Int → Mem → Prop
  | 0, _, _, _ => False
  | n + 1, x2, x3, M => (Rg x3 ∧ Rg (M 62 31) ∧ ((M 62 31) ≤ x3 → Q x2 M) ∧ (¬ ((M 62 31) ≤ x3) → (0 ≤ x3 ∧ x3 < 200) ∧ (Rg (M 80 x3.toNat) ∧ ((M 80 x3.toNat) = 0 → wp_X8_look_43 a1 Q n (x2 + 0) (x3 + 1) M) ∧ (¬ ((M 80 x3.toNat) = 0) → wp_X8_look_43 a1 Q n (x2 + 1) (x3 + 1) M))))
set_option maxHeartbeats 4000000 in
set_option maxRecDepth 100000 in
theorem v_X8_look_43 (a1 : Int) (E : En X (AW X) 2 p R s m args meth c cX8_look RX8 4 (some .int) 0 0) (Q : Int → Mem → Prop) : ∀ n : Nat, ∀ (x2 x3 : Int) (M : Mem) (H : Heap) (locs : List Loc) (ls : Array Slot), wp_X8_look_43 a1 Q n x2 x3 M → Wd X (AW X) s M H locs → lv_has ls 4 [(0, .ref (xA X 62)), (2, .int (jI x2)), (3, .int (jI x3))] → W p l e R s m args below meth c H locs 0 0 (MQ below (QI X Q) args s 0 0 (AW X)) (F0 m 43 ls []) := by
  intro n
  induction n with
  | zero => intro x2 x3 M H locs ls h; exact absurd h (by simp [wp_X8_look_43])
  | succ n ih =>
    intro x2 x3 M H locs ls h hW hl
    rw [wp_X8_look_43] at h
    refine q_iload_n (n := 44) (q := 2) E.1 hl rfl dX8_look_43 rfl rfl ?_
    refine q_aload_n (n := 45) (q := 0) E.1 hl rfl dX8_look_44 rfl rfl ?_
    refine q_get (n := 48) (k := 31) (fs := (fs62 X)) (v := .int (jI (M 62 31))) E hW (by decide) (fun _ => rfl) K8 (by decide) w746 rfl rfl dX8_look_45 rfl ?_
    obtain ⟨g1, g2, h3, h4⟩ := h
    refine q_icmp_ge (t := 74) (n := 51) E.1 g1 g2 dX8_look_48 (by decide) rfl (fun c5 => ?_) (fun c5 => ?_)
    · have h := h3 c5
      refine q_iload_n (n := 75) (q := 1) E.1 hl rfl dX8_look_74 rfl rfl ?_
      exact q_iret E hW h dX8_look_75
    · have h := h4 c5
      refine q_iload_n (n := 52) (q := 1) E.1 hl rfl dX8_look_51 rfl rfl ?_
      refine q_aload_n (n := 53) (q := 0) E.1 hl rfl dX8_look_52 rfl rfl ?_
      refine q_get (n := 56) (k := 34) (fs := (fs62 X)) (v := .ref (xA X 80)) E hW (by decide) (fun _ => rfl) K8 (by decide) w749 rfl rfl dX8_look_53 rfl ?_
      refine q_iload_n (n := 57) (q := 2) E.1 hl rfl dX8_look_56 rfl rfl ?_
      obtain ⟨g6, h⟩ := h
      refine q_zald (n := 58) E hW (by decide) (fun _ => rfl) (by decide) g6 dX8_look_57 rfl ?_
      obtain ⟨g7, h8, h9⟩ := h
      refine q_if_eq (t := 65) (n := 61) E.1 g7 dX8_look_58 (by decide) rfl (fun c10 => ?_) (fun c10 => ?_)
      · have h := h8 c10
        refine q_iconst (n := 66) E.1 dX8_look_65 rfl ?_
        refine q_iadd (n := 67) E.1 dX8_look_66 rfl ?_
        refine q_istore_n (n := 68) [(2, .int (jI (x2 + 0))), (0, .ref (xA X 62)), (3, .int (jI x3))] E.1 hl dX8_look_67 rfl (by decide) rfl rfl (fun ls hl => ?_)
        refine q_iinc (n := 71) (q := 2) [(3, .int (jI (x3 + 1))), (2, .int (jI (x2 + 0))), (0, .ref (xA X 62))] E.1 hl rfl dX8_look_68 (by decide) rfl rfl (fun ls hl => ?_)
        refine q_goto (n := 43) E.1 dX8_look_71 (by decide) ?_
        exact ih _ _ _ _ _ _ h hW (lv_sub hl [2, 1, 0] rfl)
      · have h := h9 c10
        refine q_iconst (n := 62) E.1 dX8_look_61 rfl ?_
        refine q_goto (n := 66) E.1 dX8_look_62 (by decide) ?_
        refine q_iadd (n := 67) E.1 dX8_look_66 rfl ?_
        refine q_istore_n (n := 68) [(2, .int (jI (x2 + 1))), (0, .ref (xA X 62)), (3, .int (jI x3))] E.1 hl dX8_look_67 rfl (by decide) rfl rfl (fun ls hl => ?_)
        refine q_iinc (n := 71) (q := 2) [(3, .int (jI (x3 + 1))), (2, .int (jI (x2 + 1))), (0, .ref (xA X 62))] E.1 hl rfl dX8_look_68 (by decide) rfl rfl (fun ls hl => ?_)
        refine q_goto (n := 43) E.1 dX8_look_71 (by decide) ?_
        exact ih _ _ _ _ _ _ h hW (lv_sub hl [2, 1, 0] rfl)
def wp_X8_look (a1 : Int) (M : Mem) (Q : Int → Mem → Prop) : Prop := (Rg a1 ∧ (a1 = 0 → Q (M 62 31) M) ∧ (a1 = 1 → (∃ n : Nat, wp_X8_look_43 a1 Q n 0 0 M)) ∧ (a1 = 2 → (∃ n : Nat, wp_X8_look_78 a1 Q n 0 0 M)) ∧ (a1 = 3 → wp_X8_lays  M (fun r14 M13 => (Rg r14 ∧ (r14 = 0 → Q (-1) M13) ∧ (¬ (r14 = 0) → Q (M13 62 41) M13)))) ∧ (a1 = 4 → wp_X8_lays  M (fun r21 M20 => (Rg r21 ∧ (r21 = 0 → Q (-1) M20) ∧ (¬ (r21 = 0) → Q (M20 62 42) M20)))) ∧ ((a1 < 0 ∨ 4 < a1) → Q (-1) M))
set_option maxHeartbeats 4000000 in
set_option maxRecDepth 100000 in
theorem c_X8_look (l : Launch) (X : Cx) (hI : Inj X) (a1 : Int) (M : Mem) (Q : Int → Mem → Prop) (h : wp_X8_look a1 M Q) : MI X l yX8_look cX8_look 4 (some .int) 2 [.ref (xA X 62), .int (jI a1)] M Q := by
  refine MI.of hI (by decide) (Nat.le_of_ble_eq_true rfl) ?_
  intro p e R s m args below meth c ls E hW hl
  have E : En X (AW X) 2 p R s m args meth c cX8_look RX8 4 (some .int) 0 0 := E
  have hl : lv_has ls 4 [(0, .ref (xA X 62)), (1, .int (jI a1))] := hl
  unfold wp_X8_look at h
  refine q_iconst (n := 1) E.1 dX8_look_0 rfl ?_
  refine q_istore_n (n := 2) [(2, .int (jI 0)), (0, .ref (xA X 62)), (1, .int (jI a1))] E.1 hl dX8_look_1 rfl (by decide) rfl rfl (fun ls hl => ?_)
  refine q_iload_n (n := 3) (q := 2) E.1 hl rfl dX8_look_2 rfl rfl ?_
  obtain ⟨g1, h2, h3, h4, h5, h6, h7⟩ := h
  by_cases c8 : a1 = 0
  · have h := h2 c8
    refine q_tin (t := 36) 0 E c8 (by decide) dX8_look_3 (by decide) rfl (by decide) ?_
    refine q_aload_n (n := 37) (q := 1) E.1 hl rfl dX8_look_36 rfl rfl ?_
    refine q_get (n := 40) (k := 31) (fs := (fs62 X)) (v := .int (jI (M 62 31))) E hW (by decide) (fun _ => rfl) K8 (by decide) w746 rfl rfl dX8_look_37 rfl ?_
    exact q_iret E hW h dX8_look_40
  by_cases c10 : a1 = 1
  · have h := h3 c10
    refine q_tin (t := 41) 1 E c10 (by decide) dX8_look_3 (by decide) rfl (by decide) ?_
    refine q_iconst (n := 42) E.1 dX8_look_41 rfl ?_
    refine q_istore_n (n := 43) [(3, .int (jI 0)), (2, .int (jI 0)), (0, .ref (xA X 62)), (1, .int (jI a1))] E.1 hl dX8_look_42 rfl (by decide) rfl rfl (fun ls hl => ?_)
    obtain ⟨n9, h⟩ := h
    exact v_X8_look_43 a1 E Q n9 _ _ _ _ _ _ h hW (lv_sub hl [2, 1, 0] rfl)
  by_cases c12 : a1 = 2
  · have h := h4 c12
    refine q_tin (t := 76) 2 E c12 (by decide) dX8_look_3 (by decide) rfl (by decide) ?_
    refine q_iconst (n := 77) E.1 dX8_look_76 rfl ?_
    refine q_istore_n (n := 78) [(3, .int (jI 0)), (2, .int (jI 0)), (0, .ref (xA X 62)), (1, .int (jI a1))] E.1 hl dX8_look_77 rfl (by decide) rfl rfl (fun ls hl => ?_)
    obtain ⟨n11, h⟩ := h
    exact v_X8_look_78 a1 E Q n11 _ _ _ _ _ _ h hW (lv_sub hl [2, 1, 0] rfl)
  by_cases c19 : a1 = 3
  · have h := h5 c19
    refine q_tin (t := 99) 3 E c19 (by decide) dX8_look_3 (by decide) rfl (by decide) ?_
    refine q_aload_n (n := 100) (q := 1) E.1 hl rfl dX8_look_99 rfl rfl ?_
    refine q_callVi (n := 103) (fs := (fs62 X)) [] E hW hl.1 (by decide) (fun _ => rfl) K8 (c_X8_lays l X E.2.2.1.1   _ _ h) (by decide) Y_RX8_222 rfl (rest := []) rfl (Nat.le_of_ble_eq_true rfl) dX8_look_100 rfl (fun r14 M13 H locs h hW => ?_)
    obtain ⟨g15, h16, h17⟩ := h
    refine q_if_eq (t := 113) (n := 106) E.1 g15 dX8_look_103 (by decide) rfl (fun c18 => ?_) (fun c18 => ?_)
    · have h := h16 c18
      refine q_iconst (n := 114) E.1 dX8_look_113 rfl ?_
      exact q_iret E hW h dX8_look_114
    · have h := h17 c18
      refine q_aload_n (n := 107) (q := 1) E.1 hl rfl dX8_look_106 rfl rfl ?_
      refine q_get (n := 110) (k := 41) (fs := (fs62 X)) (v := .int (jI (M13 62 41))) E hW (by decide) (fun _ => rfl) K8 (by decide) w756 rfl rfl dX8_look_107 rfl ?_
      refine q_goto (n := 114) E.1 dX8_look_110 (by decide) ?_
      exact q_iret E hW h dX8_look_114
  by_cases c26 : a1 = 4
  · have h := h6 c26
    refine q_tin (t := 115) 4 E c26 (by decide) dX8_look_3 (by decide) rfl (by decide) ?_
    refine q_aload_n (n := 116) (q := 1) E.1 hl rfl dX8_look_115 rfl rfl ?_
    refine q_callVi (n := 119) (fs := (fs62 X)) [] E hW hl.1 (by decide) (fun _ => rfl) K8 (c_X8_lays l X E.2.2.1.1   _ _ h) (by decide) Y_RX8_222 rfl (rest := []) rfl (Nat.le_of_ble_eq_true rfl) dX8_look_116 rfl (fun r21 M20 H locs h hW => ?_)
    obtain ⟨g22, h23, h24⟩ := h
    refine q_if_eq (t := 129) (n := 122) E.1 g22 dX8_look_119 (by decide) rfl (fun c25 => ?_) (fun c25 => ?_)
    · have h := h23 c25
      refine q_iconst (n := 130) E.1 dX8_look_129 rfl ?_
      exact q_iret E hW h dX8_look_130
    · have h := h24 c25
      refine q_aload_n (n := 123) (q := 1) E.1 hl rfl dX8_look_122 rfl rfl ?_
      refine q_get (n := 126) (k := 42) (fs := (fs62 X)) (v := .int (jI (M20 62 42))) E hW (by decide) (fun _ => rfl) K8 (by decide) w757 rfl rfl dX8_look_123 rfl ?_
      refine q_goto (n := 130) E.1 dX8_look_126 (by decide) ?_
      exact q_iret E hW h dX8_look_130
  have c27 : a1 < 0 ∨ 4 < a1 := by omega
  have h := h7 c27
  refine q_tout (t := 131) E g1 c27 dX8_look_3 (by decide) ?_
  refine q_iconst (n := 132) E.1 dX8_look_131 rfl ?_
  exact q_iret E hW h dX8_look_132
/-! StickerPressModel.heap(II)I -/
theorem dX8_heap_0 : decode cX8_heap 0 = .ok (.iload_n 2, 1) := by decide +kernel
theorem dX8_heap_1 : decode cX8_heap 1 = .ok (.iconst 0, 1) := by decide +kernel
theorem dX8_heap_2 : decode cX8_heap 2 = .ok (.iconst 1, 1) := by decide +kernel
theorem dX8_heap_3 : decode cX8_heap 3 = .ok (.invokestatic 103, 3) := by decide +kernel
theorem dX8_heap_6 : decode cX8_heap 6 = .ok (.ifCond .eq 27, 3) := by decide +kernel
theorem dX8_heap_9 : decode cX8_heap 9 = .ok (.iload_n 1, 1) := by decide +kernel
theorem dX8_heap_10 : decode cX8_heap 10 = .ok (.iconst 0, 1) := by decide +kernel
theorem dX8_heap_11 : decode cX8_heap 11 = .ok (.iload_n 2, 1) := by decide +kernel
theorem dX8_heap_12 : decode cX8_heap 12 = .ok (.ifCond .ne 7, 3) := by decide +kernel
theorem dX8_heap_15 : decode cX8_heap 15 = .ok (.iconst 5, 1) := by decide +kernel
theorem dX8_heap_16 : decode cX8_heap 16 = .ok (.goto 4, 3) := by decide +kernel
theorem dX8_heap_19 : decode cX8_heap 19 = .ok (.iconst 2, 1) := by decide +kernel
theorem dX8_heap_20 : decode cX8_heap 20 = .ok (.invokestatic 103, 3) := by decide +kernel
theorem dX8_heap_23 : decode cX8_heap 23 = .ok (.ifCond .eq 10, 3) := by decide +kernel
theorem dX8_heap_26 : decode cX8_heap 26 = .ok (.aload_n 0, 1) := by decide +kernel
theorem dX8_heap_27 : decode cX8_heap 27 = .ok (.invokevirtual 222, 3) := by decide +kernel
theorem dX8_heap_30 : decode cX8_heap 30 = .ok (.ifCond .ne 5, 3) := by decide +kernel
theorem dX8_heap_33 : decode cX8_heap 33 = .ok (.iconst (-1), 1) := by decide +kernel
theorem dX8_heap_34 : decode cX8_heap 34 = .ok (.ireturn, 1) := by decide +kernel
theorem dX8_heap_35 : decode cX8_heap 35 = .ok (.iload_n 2, 1) := by decide +kernel
theorem dX8_heap_36 : decode cX8_heap 36 = .ok (.ifCond .ne 10, 3) := by decide +kernel
theorem dX8_heap_39 : decode cX8_heap 39 = .ok (.aload_n 0, 1) := by decide +kernel
theorem dX8_heap_40 : decode cX8_heap 40 = .ok (.getfield 82, 3) := by decide +kernel
theorem dX8_heap_43 : decode cX8_heap 43 = .ok (.iload_n 1, 1) := by decide +kernel
theorem dX8_heap_44 : decode cX8_heap 44 = .ok (.iaload, 1) := by decide +kernel
theorem dX8_heap_45 : decode cX8_heap 45 = .ok (.ireturn, 1) := by decide +kernel
theorem dX8_heap_46 : decode cX8_heap 46 = .ok (.aload_n 0, 1) := by decide +kernel
theorem dX8_heap_47 : decode cX8_heap 47 = .ok (.getfield 85, 3) := by decide +kernel
theorem dX8_heap_50 : decode cX8_heap 50 = .ok (.iload_n 1, 1) := by decide +kernel
theorem dX8_heap_51 : decode cX8_heap 51 = .ok (.iaload, 1) := by decide +kernel
theorem dX8_heap_52 : decode cX8_heap 52 = .ok (.iconst 3, 1) := by decide +kernel
theorem dX8_heap_53 : decode cX8_heap 53 = .ok (.if_icmp .ge 12, 3) := by decide +kernel
theorem dX8_heap_56 : decode cX8_heap 56 = .ok (.aload_n 0, 1) := by decide +kernel
theorem dX8_heap_57 : decode cX8_heap 57 = .ok (.getfield 85, 3) := by decide +kernel
theorem dX8_heap_60 : decode cX8_heap 60 = .ok (.iload_n 1, 1) := by decide +kernel
theorem dX8_heap_61 : decode cX8_heap 61 = .ok (.iaload, 1) := by decide +kernel
theorem dX8_heap_62 : decode cX8_heap 62 = .ok (.goto 4, 3) := by decide +kernel
theorem dX8_heap_65 : decode cX8_heap 65 = .ok (.iconst (-1), 1) := by decide +kernel
theorem dX8_heap_66 : decode cX8_heap 66 = .ok (.ireturn, 1) := by decide +kernel
def wp_X8_heap_20 (a1 : Int) (a2 : Int) (Q : Int → Mem → Prop) (s0 s1 s2 : Int) (M : Mem) : Prop := wp_X8_isIn s2 s1 s0 M (fun r2 M1 => (Rg r2 ∧ (r2 = 0 → Q (-1) M1) ∧ (¬ (r2 = 0) → wp_X8_lays  M1 (fun r8 M7 => (Rg r8 ∧ (r8 ≠ 0 → (Rg a2 ∧ (a2 ≠ 0 → (0 ≤ a1 ∧ a1 < 3) ∧ (Rg (M7 84 a1.toNat) ∧ (3 ≤ (M7 84 a1.toNat) → Q (-1) M7) ∧ (¬ (3 ≤ (M7 84 a1.toNat)) → (0 ≤ a1 ∧ a1 < 3) ∧ Q (M7 84 a1.toNat) M7))) ∧ (¬ (a2 ≠ 0) → (0 ≤ a1 ∧ a1 < 6) ∧ Q (M7 83 a1.toNat) M7))) ∧ (¬ (r8 ≠ 0) → Q (-1) M7))))))
set_option maxHeartbeats 4000000 in
set_option maxRecDepth 100000 in
theorem v_X8_heap_20 (a1 : Int) (a2 : Int) (E : En X (AW X) 2 p R s m args meth c cX8_heap RX8 3 (some .int) 0 0) (Q : Int → Mem → Prop) : ∀ (s0 s1 s2 : Int) (M : Mem) (H : Heap) (locs : List Loc) (ls : Array Slot), wp_X8_heap_20 a1 a2 Q s0 s1 s2 M → Wd X (AW X) s M H locs → lv_has ls 3 [(0, .ref (xA X 62)), (1, .int (jI a1)), (2, .int (jI a2))] → W p l e R s m args below meth c H locs 0 0 (MQ below (QI X Q) args s 0 0 (AW X)) (F0 m 20 ls [.int (jI s0), .int (jI s1), .int (jI s2)]) := by
  intro s0 s1 s2 M H locs ls h hW hl
  unfold wp_X8_heap_20 at h
  refine q_callSi (n := 23) [.int (jI s2), .int (jI s1), .int (jI s0)] E hW hl.1 (c_X8_isIn l X E.2.2.1.1 s2 s1 s0  _ _ h) (by decide) Y_RX8_103 rfl (rest := []) rfl (Nat.le_of_ble_eq_true rfl) dX8_heap_20 rfl (fun r2 M1 H locs h hW => ?_)
  obtain ⟨g3, h4, h5⟩ := h
  refine q_if_eq (t := 33) (n := 26) E.1 g3 dX8_heap_23 (by decide) rfl (fun c6 => ?_) (fun c6 => ?_)
  · have h := h4 c6
    refine q_iconst (n := 34) E.1 dX8_heap_33 rfl ?_
    exact q_iret E hW h dX8_heap_34
  · have h := h5 c6
    refine q_aload_n (n := 27) (q := 0) E.1 hl rfl dX8_heap_26 rfl rfl ?_
    refine q_callVi (n := 30) (fs := (fs62 X)) [] E hW hl.1 (by decide) (fun _ => rfl) K8 (c_X8_lays l X E.2.2.1.1   _ _ h) (by decide) Y_RX8_222 rfl (rest := []) rfl (Nat.le_of_ble_eq_true rfl) dX8_heap_27 rfl (fun r8 M7 H locs h hW => ?_)
    obtain ⟨g9, h10, h11⟩ := h
    refine q_if_ne (t := 35) (n := 33) E.1 g9 dX8_heap_30 (by decide) rfl (fun c12 => ?_) (fun c12 => ?_)
    · have h := h10 c12
      refine q_iload_n (n := 36) (q := 2) E.1 hl rfl dX8_heap_35 rfl rfl ?_
      obtain ⟨g13, h14, h15⟩ := h
      refine q_if_ne (t := 46) (n := 39) E.1 g13 dX8_heap_36 (by decide) rfl (fun c16 => ?_) (fun c16 => ?_)
      · have h := h14 c16
        refine q_aload_n (n := 47) (q := 0) E.1 hl rfl dX8_heap_46 rfl rfl ?_
        refine q_get (n := 50) (k := 38) (fs := (fs62 X)) (v := .ref (xA X 84)) E hW (by decide) (fun _ => rfl) K8 (by decide) w753 rfl rfl dX8_heap_47 rfl ?_
        refine q_iload_n (n := 51) (q := 1) E.1 hl rfl dX8_heap_50 rfl rfl ?_
        obtain ⟨g17, h⟩ := h
        refine q_iald (n := 52) E hW (by decide) (fun _ => rfl) (by decide) g17 dX8_heap_51 rfl ?_
        refine q_iconst (n := 53) E.1 dX8_heap_52 rfl ?_
        obtain ⟨g18, h19, h20⟩ := h
        refine q_icmp_ge (t := 65) (n := 56) E.1 g18 (by decide) dX8_heap_53 (by decide) rfl (fun c21 => ?_) (fun c21 => ?_)
        · have h := h19 c21
          refine q_iconst (n := 66) E.1 dX8_heap_65 rfl ?_
          exact q_iret E hW h dX8_heap_66
        · have h := h20 c21
          refine q_aload_n (n := 57) (q := 0) E.1 hl rfl dX8_heap_56 rfl rfl ?_
          refine q_get (n := 60) (k := 38) (fs := (fs62 X)) (v := .ref (xA X 84)) E hW (by decide) (fun _ => rfl) K8 (by decide) w753 rfl rfl dX8_heap_57 rfl ?_
          refine q_iload_n (n := 61) (q := 1) E.1 hl rfl dX8_heap_60 rfl rfl ?_
          obtain ⟨g22, h⟩ := h
          refine q_iald (n := 62) E hW (by decide) (fun _ => rfl) (by decide) g22 dX8_heap_61 rfl ?_
          refine q_goto (n := 66) E.1 dX8_heap_62 (by decide) ?_
          exact q_iret E hW h dX8_heap_66
      · have h := h15 c16
        refine q_aload_n (n := 40) (q := 0) E.1 hl rfl dX8_heap_39 rfl rfl ?_
        refine q_get (n := 43) (k := 37) (fs := (fs62 X)) (v := .ref (xA X 83)) E hW (by decide) (fun _ => rfl) K8 (by decide) w752 rfl rfl dX8_heap_40 rfl ?_
        refine q_iload_n (n := 44) (q := 1) E.1 hl rfl dX8_heap_43 rfl rfl ?_
        obtain ⟨g23, h⟩ := h
        refine q_iald (n := 45) E hW (by decide) (fun _ => rfl) (by decide) g23 dX8_heap_44 rfl ?_
        exact q_iret E hW h dX8_heap_45
    · have h := h11 c12
      refine q_iconst (n := 34) E.1 dX8_heap_33 rfl ?_
      exact q_iret E hW h dX8_heap_34
def wp_X8_heap (a1 : Int) (a2 : Int) (M : Mem) (Q : Int → Mem → Prop) : Prop := wp_X8_isIn a2 0 1 M (fun r2 M1 => (Rg r2 ∧ (r2 = 0 → Q (-1) M1) ∧ (¬ (r2 = 0) → (Rg a2 ∧ (a2 ≠ 0 → wp_X8_heap_20 a1 a2 Q 2 0 a1 M1) ∧ (¬ (a2 ≠ 0) → wp_X8_heap_20 a1 a2 Q 5 0 a1 M1)))))
set_option maxHeartbeats 4000000 in
set_option maxRecDepth 100000 in
theorem c_X8_heap (l : Launch) (X : Cx) (hI : Inj X) (a1 : Int) (a2 : Int) (M : Mem) (Q : Int → Mem → Prop) (h : wp_X8_heap a1 a2 M Q) : MI X l yX8_heap cX8_heap 3 (some .int) 2 [.ref (xA X 62), .int (jI a1), .int (jI a2)] M Q := by
  refine MI.of hI (by decide) (Nat.le_of_ble_eq_true rfl) ?_
  intro p e R s m args below meth c ls E hW hl
  have E : En X (AW X) 2 p R s m args meth c cX8_heap RX8 3 (some .int) 0 0 := E
  have hl : lv_has ls 3 [(0, .ref (xA X 62)), (1, .int (jI a1)), (2, .int (jI a2))] := hl
  unfold wp_X8_heap at h
  refine q_iload_n (n := 1) (q := 2) E.1 hl rfl dX8_heap_0 rfl rfl ?_
  refine q_iconst (n := 2) E.1 dX8_heap_1 rfl ?_
  refine q_iconst (n := 3) E.1 dX8_heap_2 rfl ?_
  refine q_callSi (n := 6) [.int (jI a2), .int (jI 0), .int (jI 1)] E hW hl.1 (c_X8_isIn l X E.2.2.1.1 a2 0 1  _ _ h) (by decide) Y_RX8_103 rfl (rest := []) rfl (Nat.le_of_ble_eq_true rfl) dX8_heap_3 rfl (fun r2 M1 H locs h hW => ?_)
  obtain ⟨g3, h4, h5⟩ := h
  refine q_if_eq (t := 33) (n := 9) E.1 g3 dX8_heap_6 (by decide) rfl (fun c6 => ?_) (fun c6 => ?_)
  · have h := h4 c6
    refine q_iconst (n := 34) E.1 dX8_heap_33 rfl ?_
    exact q_iret E hW h dX8_heap_34
  · have h := h5 c6
    refine q_iload_n (n := 10) (q := 1) E.1 hl rfl dX8_heap_9 rfl rfl ?_
    refine q_iconst (n := 11) E.1 dX8_heap_10 rfl ?_
    refine q_iload_n (n := 12) (q := 2) E.1 hl rfl dX8_heap_11 rfl rfl ?_
    obtain ⟨g7, h8, h9⟩ := h
    refine q_if_ne (t := 19) (n := 15) E.1 g7 dX8_heap_12 (by decide) rfl (fun c10 => ?_) (fun c10 => ?_)
    · have h := h8 c10
      refine q_iconst (n := 20) E.1 dX8_heap_19 rfl ?_
      exact v_X8_heap_20 a1 a2 E Q _ _ _ _ _ _ _ h hW (lv_sub hl [0, 1, 2] rfl)
    · have h := h9 c10
      refine q_iconst (n := 16) E.1 dX8_heap_15 rfl ?_
      refine q_goto (n := 20) E.1 dX8_heap_16 (by decide) ?_
      exact v_X8_heap_20 a1 a2 E Q _ _ _ _ _ _ _ h hW (lv_sub hl [0, 1, 2] rfl)
/-! StickerPressModel.plans()V -/
theorem dX8_plans_0 : decode cX8_plans 0 = .ok (.iconst 0, 1) := by decide +kernel
theorem dX8_plans_1 : decode cX8_plans 1 = .ok (.istore_n 1, 1) := by decide +kernel
theorem dX8_plans_2 : decode cX8_plans 2 = .ok (.iload_n 1, 1) := by decide +kernel
theorem dX8_plans_3 : decode cX8_plans 3 = .ok (.bipush 120, 2) := by decide +kernel
theorem dX8_plans_5 : decode cX8_plans 5 = .ok (.if_icmp .ge 16, 3) := by decide +kernel
theorem dX8_plans_8 : decode cX8_plans 8 = .ok (.aload_n 0, 1) := by decide +kernel
theorem dX8_plans_9 : decode cX8_plans 9 = .ok (.getfield 100, 3) := by decide +kernel
theorem dX8_plans_12 : decode cX8_plans 12 = .ok (.iload_n 1, 1) := by decide +kernel
theorem dX8_plans_13 : decode cX8_plans 13 = .ok (.iconst (-1), 1) := by decide +kernel
theorem dX8_plans_14 : decode cX8_plans 14 = .ok (.iastore, 1) := by decide +kernel
theorem dX8_plans_15 : decode cX8_plans 15 = .ok (.iinc 1 1, 3) := by decide +kernel
theorem dX8_plans_18 : decode cX8_plans 18 = .ok (.goto (-16), 3) := by decide +kernel
theorem dX8_plans_21 : decode cX8_plans 21 = .ok (.iconst 0, 1) := by decide +kernel
theorem dX8_plans_22 : decode cX8_plans 22 = .ok (.istore_n 1, 1) := by decide +kernel
theorem dX8_plans_23 : decode cX8_plans 23 = .ok (.iload_n 1, 1) := by decide +kernel
theorem dX8_plans_24 : decode cX8_plans 24 = .ok (.iconst 3, 1) := by decide +kernel
theorem dX8_plans_25 : decode cX8_plans 25 = .ok (.if_icmp .ge 128, 3) := by decide +kernel
theorem dX8_plans_28 : decode cX8_plans 28 = .ok (.iconst 0, 1) := by decide +kernel
theorem dX8_plans_29 : decode cX8_plans 29 = .ok (.istore_n 2, 1) := by decide +kernel
theorem dX8_plans_30 : decode cX8_plans 30 = .ok (.iconst 0, 1) := by decide +kernel
theorem dX8_plans_31 : decode cX8_plans 31 = .ok (.istore_n 3, 1) := by decide +kernel
theorem dX8_plans_32 : decode cX8_plans 32 = .ok (.iload_n 3, 1) := by decide +kernel
theorem dX8_plans_33 : decode cX8_plans 33 = .ok (.bipush 6, 2) := by decide +kernel
theorem dX8_plans_35 : decode cX8_plans 35 = .ok (.if_icmp .ge 112, 3) := by decide +kernel
theorem dX8_plans_38 : decode cX8_plans 38 = .ok (.iconst 0, 1) := by decide +kernel
theorem dX8_plans_39 : decode cX8_plans 39 = .ok (.istore 4, 2) := by decide +kernel
theorem dX8_plans_41 : decode cX8_plans 41 = .ok (.iload 4, 2) := by decide +kernel
theorem dX8_plans_43 : decode cX8_plans 43 = .ok (.aload_n 0, 1) := by decide +kernel
theorem dX8_plans_44 : decode cX8_plans 44 = .ok (.getfield 198, 3) := by decide +kernel
theorem dX8_plans_47 : decode cX8_plans 47 = .ok (.if_icmp .ge 94, 3) := by decide +kernel
theorem dX8_plans_50 : decode cX8_plans 50 = .ok (.aload_n 0, 1) := by decide +kernel
theorem dX8_plans_51 : decode cX8_plans 51 = .ok (.getfield 73, 3) := by decide +kernel
theorem dX8_plans_54 : decode cX8_plans 54 = .ok (.iload 4, 2) := by decide +kernel
theorem dX8_plans_56 : decode cX8_plans 56 = .ok (.baload, 1) := by decide +kernel
theorem dX8_plans_57 : decode cX8_plans 57 = .ok (.ifCond .eq 78, 3) := by decide +kernel
theorem dX8_plans_60 : decode cX8_plans 60 = .ok (.aload_n 0, 1) := by decide +kernel
theorem dX8_plans_61 : decode cX8_plans 61 = .ok (.getfield 67, 3) := by decide +kernel
theorem dX8_plans_64 : decode cX8_plans 64 = .ok (.iload 4, 2) := by decide +kernel
theorem dX8_plans_66 : decode cX8_plans 66 = .ok (.iaload, 1) := by decide +kernel
theorem dX8_plans_67 : decode cX8_plans 67 = .ok (.iload_n 3, 1) := by decide +kernel
theorem dX8_plans_68 : decode cX8_plans 68 = .ok (.if_icmp .ne 67, 3) := by decide +kernel
theorem dX8_plans_71 : decode cX8_plans 71 = .ok (.aload_n 0, 1) := by decide +kernel
theorem dX8_plans_72 : decode cX8_plans 72 = .ok (.getfield 82, 3) := by decide +kernel
theorem dX8_plans_75 : decode cX8_plans 75 = .ok (.iload_n 3, 1) := by decide +kernel
theorem dX8_plans_76 : decode cX8_plans 76 = .ok (.iaload, 1) := by decide +kernel
theorem dX8_plans_77 : decode cX8_plans 77 = .ok (.iload_n 1, 1) := by decide +kernel
theorem dX8_plans_78 : decode cX8_plans 78 = .ok (.if_icmp .eq 6, 3) := by decide +kernel
theorem dX8_plans_81 : decode cX8_plans 81 = .ok (.goto 54, 3) := by decide +kernel
theorem dX8_plans_84 : decode cX8_plans 84 = .ok (.aload_n 0, 1) := by decide +kernel
theorem dX8_plans_85 : decode cX8_plans 85 = .ok (.getfield 85, 3) := by decide +kernel
theorem dX8_plans_88 : decode cX8_plans 88 = .ok (.iload_n 2, 1) := by decide +kernel
theorem dX8_plans_89 : decode cX8_plans 89 = .ok (.bipush 40, 2) := by decide +kernel
theorem dX8_plans_91 : decode cX8_plans 91 = .ok (.idiv, 1) := by decide +kernel
theorem dX8_plans_92 : decode cX8_plans 92 = .ok (.iaload, 1) := by decide +kernel
theorem dX8_plans_93 : decode cX8_plans 93 = .ok (.iload_n 1, 1) := by decide +kernel
theorem dX8_plans_94 : decode cX8_plans 94 = .ok (.if_icmp .ne 24, 3) := by decide +kernel
theorem dX8_plans_97 : decode cX8_plans 97 = .ok (.aload_n 0, 1) := by decide +kernel
theorem dX8_plans_98 : decode cX8_plans 98 = .ok (.getfield 56, 3) := by decide +kernel
theorem dX8_plans_101 : decode cX8_plans 101 = .ok (.iload_n 2, 1) := by decide +kernel
theorem dX8_plans_102 : decode cX8_plans 102 = .ok (.bipush 40, 2) := by decide +kernel
theorem dX8_plans_104 : decode cX8_plans 104 = .ok (.idiv, 1) := by decide +kernel
theorem dX8_plans_105 : decode cX8_plans 105 = .ok (.laload, 1) := by decide +kernel
theorem dX8_plans_106 : decode cX8_plans 106 = .ok (.iload_n 2, 1) := by decide +kernel
theorem dX8_plans_107 : decode cX8_plans 107 = .ok (.bipush 40, 2) := by decide +kernel
theorem dX8_plans_109 : decode cX8_plans 109 = .ok (.irem, 1) := by decide +kernel
theorem dX8_plans_110 : decode cX8_plans 110 = .ok (.lshr, 1) := by decide +kernel
theorem dX8_plans_111 : decode cX8_plans 111 = .ok (.lconst 1, 1) := by decide +kernel
theorem dX8_plans_112 : decode cX8_plans 112 = .ok (.land, 1) := by decide +kernel
theorem dX8_plans_113 : decode cX8_plans 113 = .ok (.lconst 0, 1) := by decide +kernel
theorem dX8_plans_114 : decode cX8_plans 114 = .ok (.lcmp, 1) := by decide +kernel
theorem dX8_plans_115 : decode cX8_plans 115 = .ok (.ifCond .ne 9, 3) := by decide +kernel
theorem dX8_plans_118 : decode cX8_plans 118 = .ok (.iinc 2 1, 3) := by decide +kernel
theorem dX8_plans_121 : decode cX8_plans 121 = .ok (.goto (-37), 3) := by decide +kernel
theorem dX8_plans_124 : decode cX8_plans 124 = .ok (.aload_n 0, 1) := by decide +kernel
theorem dX8_plans_125 : decode cX8_plans 125 = .ok (.getfield 100, 3) := by decide +kernel
theorem dX8_plans_128 : decode cX8_plans 128 = .ok (.iload_n 2, 1) := by decide +kernel
theorem dX8_plans_129 : decode cX8_plans 129 = .ok (.iload 4, 2) := by decide +kernel
theorem dX8_plans_131 : decode cX8_plans 131 = .ok (.iastore, 1) := by decide +kernel
theorem dX8_plans_132 : decode cX8_plans 132 = .ok (.iinc 2 1, 3) := by decide +kernel
theorem dX8_plans_135 : decode cX8_plans 135 = .ok (.iinc 4 1, 3) := by decide +kernel
theorem dX8_plans_138 : decode cX8_plans 138 = .ok (.goto (-97), 3) := by decide +kernel
theorem dX8_plans_141 : decode cX8_plans 141 = .ok (.iinc 3 1, 3) := by decide +kernel
theorem dX8_plans_144 : decode cX8_plans 144 = .ok (.goto (-112), 3) := by decide +kernel
theorem dX8_plans_147 : decode cX8_plans 147 = .ok (.iinc 1 1, 3) := by decide +kernel
theorem dX8_plans_150 : decode cX8_plans 150 = .ok (.goto (-127), 3) := by decide +kernel
theorem dX8_plans_153 : decode cX8_plans 153 = .ok (.return_, 1) := by decide +kernel
def wp_X8_plans_84 (k41 : Int → Int → Int → Int → Mem → Prop) (Q : Mem → Prop) : Nat → Int → Int → Int → Int → Mem → Prop
  | 0, _, _, _, _, _ => False
  | n + 1, x1, x2, x3, x4, M => (Rg x2 ∧ 0 ≤ x2) ∧ (0 ≤ (x2 / 40) ∧ (x2 / 40) < 3) ∧ (Rg (M 84 (x2 / 40).toNat) ∧ Rg x1 ∧ ((M 84 (x2 / 40).toNat) ≠ x1 → wp_X8_plans_84 k41 Q n x1 (x2 + 1) x3 x4 M) ∧ (¬ ((M 84 (x2 / 40).toNat) ≠ x1) → (Rg x2 ∧ 0 ≤ x2) ∧ (0 ≤ (x2 / 40) ∧ (x2 / 40) < 3) ∧ (Rg x2 ∧ 0 ≤ x2) ∧ (Rg (lCmp (lAnd (lShr (M 75 (x2 / 40).toNat) (x2 % 40)) 1) 0) ∧ ((lCmp (lAnd (lShr (M 75 (x2 / 40).toNat) (x2 % 40)) 1) 0) ≠ 0 → (0 ≤ x2 ∧ x2 < 120) ∧ k41 x1 (x2 + 1) x3 (x4 + 1) (up M 89 x2.toNat x4)) ∧ (¬ ((lCmp (lAnd (lShr (M 75 (x2 / 40).toNat) (x2 % 40)) 1) 0) ≠ 0) → wp_X8_plans_84 k41 Q n x1 (x2 + 1) x3 x4 M))))
set_option maxHeartbeats 4000000 in
set_option maxRecDepth 100000 in
theorem v_X8_plans_84 (E : En X (AW X) 0 p R s m args meth c cX8_plans RX8 5 none 0 0) (Q : Mem → Prop) (k41 : Int → Int → Int → Int → Mem → Prop) (Hk41 : ∀ (x1 x2 x3 x4 : Int) (M : Mem) (H : Heap) (locs : List Loc) (ls : Array Slot), k41 x1 x2 x3 x4 M → Wd X (AW X) s M H locs → lv_has ls 5 [(0, .ref (xA X 62)), (1, .int (jI x1)), (2, .int (jI x2)), (3, .int (jI x3)), (4, .int (jI x4))] → W p l e R s m args below meth c H locs 0 0 (MQ below (QV X Q) args s 0 0 (AW X)) (F0 m 41 ls [])) : ∀ n : Nat, ∀ (x1 x2 x3 x4 : Int) (M : Mem) (H : Heap) (locs : List Loc) (ls : Array Slot), wp_X8_plans_84 k41 Q n x1 x2 x3 x4 M → Wd X (AW X) s M H locs → lv_has ls 5 [(0, .ref (xA X 62)), (1, .int (jI x1)), (2, .int (jI x2)), (3, .int (jI x3)), (4, .int (jI x4))] → W p l e R s m args below meth c H locs 0 0 (MQ below (QV X Q) args s 0 0 (AW X)) (F0 m 84 ls []) := by
  intro n
  induction n with
  | zero => intro x1 x2 x3 x4 M H locs ls h; exact absurd h (by simp [wp_X8_plans_84])
  | succ n ih =>
    intro x1 x2 x3 x4 M H locs ls h hW hl
    rw [wp_X8_plans_84] at h
    refine q_aload_n (n := 85) (q := 0) E.1 hl rfl dX8_plans_84 rfl rfl ?_
    refine q_get (n := 88) (k := 38) (fs := (fs62 X)) (v := .ref (xA X 84)) E hW (by decide) (fun _ => rfl) K8 (by decide) w753 rfl rfl dX8_plans_85 rfl ?_
    refine q_iload_n (n := 89) (q := 2) E.1 hl rfl dX8_plans_88 rfl rfl ?_
    refine q_bipush (n := 91) E.1 dX8_plans_89 (by decide) rfl ?_
    obtain ⟨g1, h⟩ := h
    refine q_idiv (n := 92) E.1 g1 (by decide) dX8_plans_91 rfl ?_
    obtain ⟨g2, h⟩ := h
    refine q_iald (n := 93) E hW (by decide) (fun _ => rfl) (by decide) g2 dX8_plans_92 rfl ?_
    refine q_iload_n (n := 94) (q := 1) E.1 hl rfl dX8_plans_93 rfl rfl ?_
    obtain ⟨g3, g4, h5, h6⟩ := h
    refine q_icmp_ne (t := 118) (n := 97) E.1 g3 g4 dX8_plans_94 (by decide) rfl (fun c7 => ?_) (fun c7 => ?_)
    · have h := h5 c7
      refine q_iinc (n := 121) (q := 2) [(2, .int (jI (x2 + 1))), (0, .ref (xA X 62)), (1, .int (jI x1)), (3, .int (jI x3)), (4, .int (jI x4))] E.1 hl rfl dX8_plans_118 (by decide) rfl rfl (fun ls hl => ?_)
      refine q_goto (n := 84) E.1 dX8_plans_121 (by decide) ?_
      exact ih _ _ _ _ _ _ _ _ h hW (lv_sub hl [1, 2, 0, 3, 4] rfl)
    · have h := h6 c7
      refine q_aload_n (n := 98) (q := 0) E.1 hl rfl dX8_plans_97 rfl rfl ?_
      refine q_get (n := 101) (k := 28) (fs := (fs62 X)) (v := .ref (xA X 75)) E hW (by decide) (fun _ => rfl) K8 (by decide) w743 rfl rfl dX8_plans_98 rfl ?_
      refine q_iload_n (n := 102) (q := 2) E.1 hl rfl dX8_plans_101 rfl rfl ?_
      refine q_bipush (n := 104) E.1 dX8_plans_102 (by decide) rfl ?_
      obtain ⟨g8, h⟩ := h
      refine q_idiv (n := 105) E.1 g8 (by decide) dX8_plans_104 rfl ?_
      obtain ⟨g9, h⟩ := h
      refine q_lald (n := 106) E hW (by decide) (fun _ => rfl) (by decide) g9 dX8_plans_105 rfl ?_
      refine q_iload_n (n := 107) (q := 2) E.1 hl rfl dX8_plans_106 rfl rfl ?_
      refine q_bipush (n := 109) E.1 dX8_plans_107 (by decide) rfl ?_
      obtain ⟨g10, h⟩ := h
      refine q_irem (n := 110) E.1 g10 (by decide) dX8_plans_109 rfl ?_
      refine q_lshr (n := 111) E.1 dX8_plans_110 rfl ?_
      refine q_lconst (n := 112) (w := 1) E.1 dX8_plans_111 (by decide) rfl ?_
      refine q_land (n := 113) E.1 dX8_plans_112 rfl ?_
      refine q_lconst (n := 114) (w := 0) E.1 dX8_plans_113 (by decide) rfl ?_
      refine q_lcmp (n := 115) E.1 dX8_plans_114 rfl ?_
      obtain ⟨g11, h12, h13⟩ := h
      refine q_if_ne (t := 124) (n := 118) E.1 g11 dX8_plans_115 (by decide) rfl (fun c14 => ?_) (fun c14 => ?_)
      · have h := h12 c14
        refine q_aload_n (n := 125) (q := 0) E.1 hl rfl dX8_plans_124 rfl rfl ?_
        refine q_get (n := 128) (k := 45) (fs := (fs62 X)) (v := .ref (xA X 89)) E hW (by decide) (fun _ => rfl) K8 (by decide) w760 rfl rfl dX8_plans_125 rfl ?_
        refine q_iload_n (n := 129) (q := 2) E.1 hl rfl dX8_plans_128 rfl rfl ?_
        refine q_iload (n := 131) (q := 4) E.1 hl rfl dX8_plans_129 rfl ?_
        obtain ⟨g15, h⟩ := h
        refine q_iast (n := 132) E hW (by decide) (fun _ => rfl) (by decide) g15 dX8_plans_131 rfl (fun H locs hW => ?_)
        refine q_iinc (n := 135) (q := 2) [(2, .int (jI (x2 + 1))), (0, .ref (xA X 62)), (1, .int (jI x1)), (3, .int (jI x3)), (4, .int (jI x4))] E.1 hl rfl dX8_plans_132 (by decide) rfl rfl (fun ls hl => ?_)
        refine q_iinc (n := 138) (q := 4) [(4, .int (jI (x4 + 1))), (2, .int (jI (x2 + 1))), (0, .ref (xA X 62)), (1, .int (jI x1)), (3, .int (jI x3))] E.1 hl rfl dX8_plans_135 (by decide) rfl rfl (fun ls hl => ?_)
        refine q_goto (n := 41) E.1 dX8_plans_138 (by decide) ?_
        exact Hk41 _ _ _ _ _ _ _ _ h hW (lv_sub hl [2, 3, 1, 4, 0] rfl)
      · have h := h13 c14
        refine q_iinc (n := 121) (q := 2) [(2, .int (jI (x2 + 1))), (0, .ref (xA X 62)), (1, .int (jI x1)), (3, .int (jI x3)), (4, .int (jI x4))] E.1 hl rfl dX8_plans_118 (by decide) rfl rfl (fun ls hl => ?_)
        refine q_goto (n := 84) E.1 dX8_plans_121 (by decide) ?_
        exact ih _ _ _ _ _ _ _ _ h hW (lv_sub hl [1, 2, 0, 3, 4] rfl)
def wp_X8_plans_41 (k32 : Int → Int → Int → Mem → Prop) (Q : Mem → Prop) : Nat → Int → Int → Int → Int → Mem → Prop
  | 0, _, _, _, _, _ => False
  | n + 1, x1, x2, x3, x4, M => (Rg x4 ∧ Rg (M 62 31) ∧ ((M 62 31) ≤ x4 → k32 x1 x2 (x3 + 1) M) ∧ (¬ ((M 62 31) ≤ x4) → (0 ≤ x4 ∧ x4 < 200) ∧ (Rg (M 80 x4.toNat) ∧ ((M 80 x4.toNat) = 0 → wp_X8_plans_41 k32 Q n x1 x2 x3 (x4 + 1) M) ∧ (¬ ((M 80 x4.toNat) = 0) → (0 ≤ x4 ∧ x4 < 200) ∧ (Rg (M 78 x4.toNat) ∧ Rg x3 ∧ ((M 78 x4.toNat) ≠ x3 → wp_X8_plans_41 k32 Q n x1 x2 x3 (x4 + 1) M) ∧ (¬ ((M 78 x4.toNat) ≠ x3) → (0 ≤ x3 ∧ x3 < 6) ∧ (Rg (M 83 x3.toNat) ∧ Rg x1 ∧ ((M 83 x3.toNat) = x1 → (∃ n2 : Nat, wp_X8_plans_84 (fun x1 x2 x3 x4 M => wp_X8_plans_41 k32 Q n x1 x2 x3 x4 M) Q n2 x1 x2 x3 x4 M)) ∧ (¬ ((M 83 x3.toNat) = x1) → wp_X8_plans_41 k32 Q n x1 x2 x3 (x4 + 1) M))))))))
set_option maxHeartbeats 4000000 in
set_option maxRecDepth 100000 in
theorem v_X8_plans_41 (E : En X (AW X) 0 p R s m args meth c cX8_plans RX8 5 none 0 0) (Q : Mem → Prop) (k32 : Int → Int → Int → Mem → Prop) (Hk32 : ∀ (x1 x2 x3 : Int) (M : Mem) (H : Heap) (locs : List Loc) (ls : Array Slot), k32 x1 x2 x3 M → Wd X (AW X) s M H locs → lv_has ls 5 [(0, .ref (xA X 62)), (1, .int (jI x1)), (2, .int (jI x2)), (3, .int (jI x3))] → W p l e R s m args below meth c H locs 0 0 (MQ below (QV X Q) args s 0 0 (AW X)) (F0 m 32 ls [])) : ∀ n : Nat, ∀ (x1 x2 x3 x4 : Int) (M : Mem) (H : Heap) (locs : List Loc) (ls : Array Slot), wp_X8_plans_41 k32 Q n x1 x2 x3 x4 M → Wd X (AW X) s M H locs → lv_has ls 5 [(0, .ref (xA X 62)), (1, .int (jI x1)), (2, .int (jI x2)), (3, .int (jI x3)), (4, .int (jI x4))] → W p l e R s m args below meth c H locs 0 0 (MQ below (QV X Q) args s 0 0 (AW X)) (F0 m 41 ls []) := by
  intro n
  induction n with
  | zero => intro x1 x2 x3 x4 M H locs ls h; exact absurd h (by simp [wp_X8_plans_41])
  | succ n ih =>
    intro x1 x2 x3 x4 M H locs ls h hW hl
    rw [wp_X8_plans_41] at h
    refine q_iload (n := 43) (q := 4) E.1 hl rfl dX8_plans_41 rfl ?_
    refine q_aload_n (n := 44) (q := 0) E.1 hl rfl dX8_plans_43 rfl rfl ?_
    refine q_get (n := 47) (k := 31) (fs := (fs62 X)) (v := .int (jI (M 62 31))) E hW (by decide) (fun _ => rfl) K8 (by decide) w746 rfl rfl dX8_plans_44 rfl ?_
    obtain ⟨g1, g2, h3, h4⟩ := h
    refine q_icmp_ge (t := 141) (n := 50) E.1 g1 g2 dX8_plans_47 (by decide) rfl (fun c5 => ?_) (fun c5 => ?_)
    · have h := h3 c5
      refine q_iinc (n := 144) (q := 3) [(3, .int (jI (x3 + 1))), (0, .ref (xA X 62)), (1, .int (jI x1)), (2, .int (jI x2)), (4, .int (jI x4))] E.1 hl rfl dX8_plans_141 (by decide) rfl rfl (fun ls hl => ?_)
      refine q_goto (n := 32) E.1 dX8_plans_144 (by decide) ?_
      exact Hk32 _ _ _ _ _ _ _ h hW (lv_sub hl [1, 2, 3, 0] rfl)
    · have h := h4 c5
      refine q_aload_n (n := 51) (q := 0) E.1 hl rfl dX8_plans_50 rfl rfl ?_
      refine q_get (n := 54) (k := 34) (fs := (fs62 X)) (v := .ref (xA X 80)) E hW (by decide) (fun _ => rfl) K8 (by decide) w749 rfl rfl dX8_plans_51 rfl ?_
      refine q_iload (n := 56) (q := 4) E.1 hl rfl dX8_plans_54 rfl ?_
      obtain ⟨g6, h⟩ := h
      refine q_zald (n := 57) E hW (by decide) (fun _ => rfl) (by decide) g6 dX8_plans_56 rfl ?_
      obtain ⟨g7, h8, h9⟩ := h
      refine q_if_eq (t := 135) (n := 60) E.1 g7 dX8_plans_57 (by decide) rfl (fun c10 => ?_) (fun c10 => ?_)
      · have h := h8 c10
        refine q_iinc (n := 138) (q := 4) [(4, .int (jI (x4 + 1))), (0, .ref (xA X 62)), (1, .int (jI x1)), (2, .int (jI x2)), (3, .int (jI x3))] E.1 hl rfl dX8_plans_135 (by decide) rfl rfl (fun ls hl => ?_)
        refine q_goto (n := 41) E.1 dX8_plans_138 (by decide) ?_
        exact ih _ _ _ _ _ _ _ _ h hW (lv_sub hl [1, 2, 3, 4, 0] rfl)
      · have h := h9 c10
        refine q_aload_n (n := 61) (q := 0) E.1 hl rfl dX8_plans_60 rfl rfl ?_
        refine q_get (n := 64) (k := 32) (fs := (fs62 X)) (v := .ref (xA X 78)) E hW (by decide) (fun _ => rfl) K8 (by decide) w747 rfl rfl dX8_plans_61 rfl ?_
        refine q_iload (n := 66) (q := 4) E.1 hl rfl dX8_plans_64 rfl ?_
        obtain ⟨g11, h⟩ := h
        refine q_iald (n := 67) E hW (by decide) (fun _ => rfl) (by decide) g11 dX8_plans_66 rfl ?_
        refine q_iload_n (n := 68) (q := 3) E.1 hl rfl dX8_plans_67 rfl rfl ?_
        obtain ⟨g12, g13, h14, h15⟩ := h
        refine q_icmp_ne (t := 135) (n := 71) E.1 g12 g13 dX8_plans_68 (by decide) rfl (fun c16 => ?_) (fun c16 => ?_)
        · have h := h14 c16
          refine q_iinc (n := 138) (q := 4) [(4, .int (jI (x4 + 1))), (0, .ref (xA X 62)), (1, .int (jI x1)), (2, .int (jI x2)), (3, .int (jI x3))] E.1 hl rfl dX8_plans_135 (by decide) rfl rfl (fun ls hl => ?_)
          refine q_goto (n := 41) E.1 dX8_plans_138 (by decide) ?_
          exact ih _ _ _ _ _ _ _ _ h hW (lv_sub hl [1, 2, 3, 4, 0] rfl)
        · have h := h15 c16
          refine q_aload_n (n := 72) (q := 0) E.1 hl rfl dX8_plans_71 rfl rfl ?_
          refine q_get (n := 75) (k := 37) (fs := (fs62 X)) (v := .ref (xA X 83)) E hW (by decide) (fun _ => rfl) K8 (by decide) w752 rfl rfl dX8_plans_72 rfl ?_
          refine q_iload_n (n := 76) (q := 3) E.1 hl rfl dX8_plans_75 rfl rfl ?_
          obtain ⟨g17, h⟩ := h
          refine q_iald (n := 77) E hW (by decide) (fun _ => rfl) (by decide) g17 dX8_plans_76 rfl ?_
          refine q_iload_n (n := 78) (q := 1) E.1 hl rfl dX8_plans_77 rfl rfl ?_
          obtain ⟨g18, g19, h20, h21⟩ := h
          refine q_icmp_eq (t := 84) (n := 81) E.1 g18 g19 dX8_plans_78 (by decide) rfl (fun c22 => ?_) (fun c22 => ?_)
          · have h := h20 c22
            obtain ⟨n23, h⟩ := h
            exact v_X8_plans_84 E Q _ ih n23 _ _ _ _ _ _ _ _ h hW (lv_sub hl [0, 1, 2, 3, 4] rfl)
          · have h := h21 c22
            refine q_goto (n := 135) E.1 dX8_plans_81 (by decide) ?_
            refine q_iinc (n := 138) (q := 4) [(4, .int (jI (x4 + 1))), (0, .ref (xA X 62)), (1, .int (jI x1)), (2, .int (jI x2)), (3, .int (jI x3))] E.1 hl rfl dX8_plans_135 (by decide) rfl rfl (fun ls hl => ?_)
            refine q_goto (n := 41) E.1 dX8_plans_138 (by decide) ?_
            exact ih _ _ _ _ _ _ _ _ h hW (lv_sub hl [1, 2, 3, 4, 0] rfl)
def wp_X8_plans_32 (k23 : Int → Mem → Prop) (Q : Mem → Prop) : Nat → Int → Int → Int → Mem → Prop
  | 0, _, _, _, _ => False
  | n + 1, x1, x2, x3, M => (Rg x3 ∧ (6 ≤ x3 → k23 (x1 + 1) M) ∧ (¬ (6 ≤ x3) → (∃ n2 : Nat, wp_X8_plans_41 (fun x1 x2 x3 M => wp_X8_plans_32 k23 Q n x1 x2 x3 M) Q n2 x1 x2 x3 0 M)))
set_option maxHeartbeats 4000000 in
set_option maxRecDepth 100000 in
theorem v_X8_plans_32 (E : En X (AW X) 0 p R s m args meth c cX8_plans RX8 5 none 0 0) (Q : Mem → Prop) (k23 : Int → Mem → Prop) (Hk23 : ∀ (x1 : Int) (M : Mem) (H : Heap) (locs : List Loc) (ls : Array Slot), k23 x1 M → Wd X (AW X) s M H locs → lv_has ls 5 [(0, .ref (xA X 62)), (1, .int (jI x1))] → W p l e R s m args below meth c H locs 0 0 (MQ below (QV X Q) args s 0 0 (AW X)) (F0 m 23 ls [])) : ∀ n : Nat, ∀ (x1 x2 x3 : Int) (M : Mem) (H : Heap) (locs : List Loc) (ls : Array Slot), wp_X8_plans_32 k23 Q n x1 x2 x3 M → Wd X (AW X) s M H locs → lv_has ls 5 [(0, .ref (xA X 62)), (1, .int (jI x1)), (2, .int (jI x2)), (3, .int (jI x3))] → W p l e R s m args below meth c H locs 0 0 (MQ below (QV X Q) args s 0 0 (AW X)) (F0 m 32 ls []) := by
  intro n
  induction n with
  | zero => intro x1 x2 x3 M H locs ls h; exact absurd h (by simp [wp_X8_plans_32])
  | succ n ih =>
    intro x1 x2 x3 M H locs ls h hW hl
    rw [wp_X8_plans_32] at h
    refine q_iload_n (n := 33) (q := 3) E.1 hl rfl dX8_plans_32 rfl rfl ?_
    refine q_bipush (n := 35) E.1 dX8_plans_33 (by decide) rfl ?_
    obtain ⟨g1, h2, h3⟩ := h
    refine q_icmp_ge (t := 147) (n := 38) E.1 g1 (by decide) dX8_plans_35 (by decide) rfl (fun c4 => ?_) (fun c4 => ?_)
    · have h := h2 c4
      refine q_iinc (n := 150) (q := 1) [(1, .int (jI (x1 + 1))), (0, .ref (xA X 62)), (2, .int (jI x2)), (3, .int (jI x3))] E.1 hl rfl dX8_plans_147 (by decide) rfl rfl (fun ls hl => ?_)
      refine q_goto (n := 23) E.1 dX8_plans_150 (by decide) ?_
      exact Hk23 _ _ _ _ _ h hW (lv_sub hl [1, 0] rfl)
    · have h := h3 c4
      refine q_iconst (n := 39) E.1 dX8_plans_38 rfl ?_
      refine q_istore (n := 41) [(4, .int (jI 0)), (0, .ref (xA X 62)), (1, .int (jI x1)), (2, .int (jI x2)), (3, .int (jI x3))] E.1 hl dX8_plans_39 (by decide) rfl rfl (fun ls hl => ?_)
      obtain ⟨n5, h⟩ := h
      exact v_X8_plans_41 E Q _ ih n5 _ _ _ _ _ _ _ _ h hW (lv_sub hl [1, 2, 3, 4, 0] rfl)
def wp_X8_plans_23 (Q : Mem → Prop) : Nat → Int → Mem → Prop
  | 0, _, _ => False
  | n + 1, x1, M => (Rg x1 ∧ (3 ≤ x1 → Q M) ∧ (¬ (3 ≤ x1) → (∃ n2 : Nat, wp_X8_plans_32 (fun x1 M => wp_X8_plans_23 Q n x1 M) Q n2 x1 0 0 M)))
set_option maxHeartbeats 4000000 in
set_option maxRecDepth 100000 in
theorem v_X8_plans_23 (E : En X (AW X) 0 p R s m args meth c cX8_plans RX8 5 none 0 0) (Q : Mem → Prop) : ∀ n : Nat, ∀ (x1 : Int) (M : Mem) (H : Heap) (locs : List Loc) (ls : Array Slot), wp_X8_plans_23 Q n x1 M → Wd X (AW X) s M H locs → lv_has ls 5 [(0, .ref (xA X 62)), (1, .int (jI x1))] → W p l e R s m args below meth c H locs 0 0 (MQ below (QV X Q) args s 0 0 (AW X)) (F0 m 23 ls []) := by
  intro n
  induction n with
  | zero => intro x1 M H locs ls h; exact absurd h (by simp [wp_X8_plans_23])
  | succ n ih =>
    intro x1 M H locs ls h hW hl
    rw [wp_X8_plans_23] at h
    refine q_iload_n (n := 24) (q := 1) E.1 hl rfl dX8_plans_23 rfl rfl ?_
    refine q_iconst (n := 25) E.1 dX8_plans_24 rfl ?_
    obtain ⟨g1, h2, h3⟩ := h
    refine q_icmp_ge (t := 153) (n := 28) E.1 g1 (by decide) dX8_plans_25 (by decide) rfl (fun c4 => ?_) (fun c4 => ?_)
    · have h := h2 c4
      exact q_vret E hW h dX8_plans_153
    · have h := h3 c4
      refine q_iconst (n := 29) E.1 dX8_plans_28 rfl ?_
      refine q_istore_n (n := 30) [(2, .int (jI 0)), (0, .ref (xA X 62)), (1, .int (jI x1))] E.1 hl dX8_plans_29 rfl (by decide) rfl rfl (fun ls hl => ?_)
      refine q_iconst (n := 31) E.1 dX8_plans_30 rfl ?_
      refine q_istore_n (n := 32) [(3, .int (jI 0)), (2, .int (jI 0)), (0, .ref (xA X 62)), (1, .int (jI x1))] E.1 hl dX8_plans_31 rfl (by decide) rfl rfl (fun ls hl => ?_)
      obtain ⟨n5, h⟩ := h
      exact v_X8_plans_32 E Q _ ih n5 _ _ _ _ _ _ _ h hW (lv_sub hl [2, 3, 1, 0] rfl)
def wp_X8_plans_2 (Q : Mem → Prop) : Nat → Int → Mem → Prop
  | 0, _, _ => False
  | n + 1, x1, M => (Rg x1 ∧ (120 ≤ x1 → (∃ n2 : Nat, wp_X8_plans_23 Q n2 0 M)) ∧ (¬ (120 ≤ x1) → (0 ≤ x1 ∧ x1 < 120) ∧ wp_X8_plans_2 Q n (x1 + 1) (up M 89 x1.toNat (-1))))
set_option maxHeartbeats 4000000 in
set_option maxRecDepth 100000 in
theorem v_X8_plans_2 (E : En X (AW X) 0 p R s m args meth c cX8_plans RX8 5 none 0 0) (Q : Mem → Prop) : ∀ n : Nat, ∀ (x1 : Int) (M : Mem) (H : Heap) (locs : List Loc) (ls : Array Slot), wp_X8_plans_2 Q n x1 M → Wd X (AW X) s M H locs → lv_has ls 5 [(0, .ref (xA X 62)), (1, .int (jI x1))] → W p l e R s m args below meth c H locs 0 0 (MQ below (QV X Q) args s 0 0 (AW X)) (F0 m 2 ls []) := by
  intro n
  induction n with
  | zero => intro x1 M H locs ls h; exact absurd h (by simp [wp_X8_plans_2])
  | succ n ih =>
    intro x1 M H locs ls h hW hl
    rw [wp_X8_plans_2] at h
    refine q_iload_n (n := 3) (q := 1) E.1 hl rfl dX8_plans_2 rfl rfl ?_
    refine q_bipush (n := 5) E.1 dX8_plans_3 (by decide) rfl ?_
    obtain ⟨g1, h2, h3⟩ := h
    refine q_icmp_ge (t := 21) (n := 8) E.1 g1 (by decide) dX8_plans_5 (by decide) rfl (fun c4 => ?_) (fun c4 => ?_)
    · have h := h2 c4
      refine q_iconst (n := 22) E.1 dX8_plans_21 rfl ?_
      refine q_istore_n (n := 23) [(1, .int (jI 0)), (0, .ref (xA X 62))] E.1 hl dX8_plans_22 rfl (by decide) rfl rfl (fun ls hl => ?_)
      obtain ⟨n5, h⟩ := h
      exact v_X8_plans_23 E Q n5 _ _ _ _ _ h hW (lv_sub hl [1, 0] rfl)
    · have h := h3 c4
      refine q_aload_n (n := 9) (q := 0) E.1 hl rfl dX8_plans_8 rfl rfl ?_
      refine q_get (n := 12) (k := 45) (fs := (fs62 X)) (v := .ref (xA X 89)) E hW (by decide) (fun _ => rfl) K8 (by decide) w760 rfl rfl dX8_plans_9 rfl ?_
      refine q_iload_n (n := 13) (q := 1) E.1 hl rfl dX8_plans_12 rfl rfl ?_
      refine q_iconst (n := 14) E.1 dX8_plans_13 rfl ?_
      obtain ⟨g6, h⟩ := h
      refine q_iast (n := 15) E hW (by decide) (fun _ => rfl) (by decide) g6 dX8_plans_14 rfl (fun H locs hW => ?_)
      refine q_iinc (n := 18) (q := 1) [(1, .int (jI (x1 + 1))), (0, .ref (xA X 62))] E.1 hl rfl dX8_plans_15 (by decide) rfl rfl (fun ls hl => ?_)
      refine q_goto (n := 2) E.1 dX8_plans_18 (by decide) ?_
      exact ih _ _ _ _ _ h hW (lv_sub hl [1, 0] rfl)
def wp_X8_plans (M : Mem) (Q : Mem → Prop) : Prop := (∃ n : Nat, wp_X8_plans_2 Q n 0 M)
set_option maxHeartbeats 4000000 in
set_option maxRecDepth 100000 in
theorem c_X8_plans (l : Launch) (X : Cx) (hI : Inj X) (M : Mem) (Q : Mem → Prop) (h : wp_X8_plans M Q) : MV X l yX8_plans cX8_plans 5 0 [.ref (xA X 62)] M Q := by
  refine MV.of hI (by decide) (Nat.le_of_ble_eq_true rfl) ?_
  intro p e R s m args below meth c ls E hW hl
  have E : En X (AW X) 0 p R s m args meth c cX8_plans RX8 5 none 0 0 := E
  have hl : lv_has ls 5 [(0, .ref (xA X 62))] := hl
  unfold wp_X8_plans at h
  refine q_iconst (n := 1) E.1 dX8_plans_0 rfl ?_
  refine q_istore_n (n := 2) [(1, .int (jI 0)), (0, .ref (xA X 62))] E.1 hl dX8_plans_1 rfl (by decide) rfl rfl (fun ls hl => ?_)
  obtain ⟨n1, h⟩ := h
  exact v_X8_plans_2 E Q n1 _ _ _ _ _ h hW (lv_sub hl [1, 0] rfl)
/-! StickerPressModel.isCell(I)Z -/
theorem dX8_isCell_0 : decode cX8_isCell 0 = .ok (.iload_n 0, 1) := by decide +kernel
theorem dX8_isCell_1 : decode cX8_isCell 1 = .ok (.iconst 0, 1) := by decide +kernel
theorem dX8_isCell_2 : decode cX8_isCell 2 = .ok (.bipush 39, 2) := by decide +kernel
theorem dX8_isCell_4 : decode cX8_isCell 4 = .ok (.invokestatic 103, 3) := by decide +kernel
theorem dX8_isCell_7 : decode cX8_isCell 7 = .ok (.ireturn, 1) := by decide +kernel
def wp_X8_isCell (a0 : Int) (M : Mem) (Q : Int → Mem → Prop) : Prop := wp_X8_isIn a0 0 39 M (fun r2 M1 => ((r2 = 0 ∨ r2 = 1) ∧ Q r2 M1))
set_option maxHeartbeats 4000000 in
set_option maxRecDepth 100000 in
theorem c_X8_isCell (l : Launch) (X : Cx) (hI : Inj X) (a0 : Int) (M : Mem) (Q : Int → Mem → Prop) (h : wp_X8_isCell a0 M Q) : MI X l yX8_isCell cX8_isCell 1 (some .boolean) 1 [.int (jI a0)] M Q := by
  refine MI.of hI (by decide) (Nat.le_of_ble_eq_true rfl) ?_
  intro p e R s m args below meth c ls E hW hl
  have E : En X (AW X) 1 p R s m args meth c cX8_isCell RX8 1 (some .boolean) 0 0 := E
  have hl : lv_has ls 1 [(0, .int (jI a0))] := hl
  unfold wp_X8_isCell at h
  refine q_iload_n (n := 1) (q := 0) E.1 hl rfl dX8_isCell_0 rfl rfl ?_
  refine q_iconst (n := 2) E.1 dX8_isCell_1 rfl ?_
  refine q_bipush (n := 4) E.1 dX8_isCell_2 (by decide) rfl ?_
  refine q_callSi (n := 7) [.int (jI a0), .int (jI 0), .int (jI 39)] E hW hl.1 (c_X8_isIn l X E.2.2.1.1 a0 0 39  _ _ h) (by decide) Y_RX8_103 rfl (rest := []) rfl (Nat.le_of_ble_eq_true rfl) dX8_isCell_4 rfl (fun r2 M1 H locs h hW => ?_)
  exact q_zret E hW h.1 h.2 dX8_isCell_7
/-! StickerPressModel.plan(II)I -/
theorem dX8_plan_0 : decode cX8_plan 0 = .ok (.iload_n 1, 1) := by decide +kernel
theorem dX8_plan_1 : decode cX8_plan 1 = .ok (.invokestatic 195, 3) := by decide +kernel
theorem dX8_plan_4 : decode cX8_plan 4 = .ok (.ifCond .eq 17, 3) := by decide +kernel
theorem dX8_plan_7 : decode cX8_plan 7 = .ok (.iload_n 2, 1) := by decide +kernel
theorem dX8_plan_8 : decode cX8_plan 8 = .ok (.invokestatic 226, 3) := by decide +kernel
theorem dX8_plan_11 : decode cX8_plan 11 = .ok (.ifCond .eq 10, 3) := by decide +kernel
theorem dX8_plan_14 : decode cX8_plan 14 = .ok (.aload_n 0, 1) := by decide +kernel
theorem dX8_plan_15 : decode cX8_plan 15 = .ok (.invokevirtual 222, 3) := by decide +kernel
theorem dX8_plan_18 : decode cX8_plan 18 = .ok (.ifCond .ne 5, 3) := by decide +kernel
theorem dX8_plan_21 : decode cX8_plan 21 = .ok (.iconst (-1), 1) := by decide +kernel
theorem dX8_plan_22 : decode cX8_plan 22 = .ok (.ireturn, 1) := by decide +kernel
theorem dX8_plan_23 : decode cX8_plan 23 = .ok (.aload_n 0, 1) := by decide +kernel
theorem dX8_plan_24 : decode cX8_plan 24 = .ok (.invokevirtual 229, 3) := by decide +kernel
theorem dX8_plan_27 : decode cX8_plan 27 = .ok (.aload_n 0, 1) := by decide +kernel
theorem dX8_plan_28 : decode cX8_plan 28 = .ok (.getfield 100, 3) := by decide +kernel
theorem dX8_plan_31 : decode cX8_plan 31 = .ok (.bipush 40, 2) := by decide +kernel
theorem dX8_plan_33 : decode cX8_plan 33 = .ok (.iload_n 1, 1) := by decide +kernel
theorem dX8_plan_34 : decode cX8_plan 34 = .ok (.imul, 1) := by decide +kernel
theorem dX8_plan_35 : decode cX8_plan 35 = .ok (.iload_n 2, 1) := by decide +kernel
theorem dX8_plan_36 : decode cX8_plan 36 = .ok (.iadd, 1) := by decide +kernel
theorem dX8_plan_37 : decode cX8_plan 37 = .ok (.iaload, 1) := by decide +kernel
theorem dX8_plan_38 : decode cX8_plan 38 = .ok (.ireturn, 1) := by decide +kernel
theorem Y_RX8_226 : YS RX8 226 yX8_isCell cX8_isCell 1 (some .boolean) 1 := ⟨w1007, w1005, w1006, w52, by decide +kernel, by decide⟩
theorem Y_RX8_229 : YV RX8 229 RX8 yX8_plans cX8_plans 5 none 0 := ⟨w1011, w1008, w1010, w41, w52, by decide +kernel, by decide⟩
def wp_X8_plan (a1 : Int) (a2 : Int) (M : Mem) (Q : Int → Mem → Prop) : Prop := wp_X8_isSheet a1 M (fun r2 M1 => (Rg r2 ∧ (r2 = 0 → Q (-1) M1) ∧ (¬ (r2 = 0) → wp_X8_isCell a2 M1 (fun r8 M7 => (Rg r8 ∧ (r8 = 0 → Q (-1) M7) ∧ (¬ (r8 = 0) → wp_X8_lays  M7 (fun r14 M13 => (Rg r14 ∧ (r14 ≠ 0 → wp_X8_plans  M13 (fun M19 => (0 ≤ ((40 * a1) + a2) ∧ ((40 * a1) + a2) < 120) ∧ Q (M19 89 ((40 * a1) + a2).toNat) M19)) ∧ (¬ (r14 ≠ 0) → Q (-1) M13)))))))))
set_option maxHeartbeats 4000000 in
set_option maxRecDepth 100000 in
theorem c_X8_plan (l : Launch) (X : Cx) (hI : Inj X) (a1 : Int) (a2 : Int) (M : Mem) (Q : Int → Mem → Prop) (h : wp_X8_plan a1 a2 M Q) : MI X l yX8_plan cX8_plan 3 (some .int) 2 [.ref (xA X 62), .int (jI a1), .int (jI a2)] M Q := by
  refine MI.of hI (by decide) (Nat.le_of_ble_eq_true rfl) ?_
  intro p e R s m args below meth c ls E hW hl
  have E : En X (AW X) 2 p R s m args meth c cX8_plan RX8 3 (some .int) 0 0 := E
  have hl : lv_has ls 3 [(0, .ref (xA X 62)), (1, .int (jI a1)), (2, .int (jI a2))] := hl
  unfold wp_X8_plan at h
  refine q_iload_n (n := 1) (q := 1) E.1 hl rfl dX8_plan_0 rfl rfl ?_
  refine q_callSi (n := 4) [.int (jI a1)] E hW hl.1 (c_X8_isSheet l X E.2.2.1.1 a1  _ _ h) (by decide) Y_RX8_195 rfl (rest := []) rfl (Nat.le_of_ble_eq_true rfl) dX8_plan_1 rfl (fun r2 M1 H locs h hW => ?_)
  obtain ⟨g3, h4, h5⟩ := h
  refine q_if_eq (t := 21) (n := 7) E.1 g3 dX8_plan_4 (by decide) rfl (fun c6 => ?_) (fun c6 => ?_)
  · have h := h4 c6
    refine q_iconst (n := 22) E.1 dX8_plan_21 rfl ?_
    exact q_iret E hW h dX8_plan_22
  · have h := h5 c6
    refine q_iload_n (n := 8) (q := 2) E.1 hl rfl dX8_plan_7 rfl rfl ?_
    refine q_callSi (n := 11) [.int (jI a2)] E hW hl.1 (c_X8_isCell l X E.2.2.1.1 a2  _ _ h) (by decide) Y_RX8_226 rfl (rest := []) rfl (Nat.le_of_ble_eq_true rfl) dX8_plan_8 rfl (fun r8 M7 H locs h hW => ?_)
    obtain ⟨g9, h10, h11⟩ := h
    refine q_if_eq (t := 21) (n := 14) E.1 g9 dX8_plan_11 (by decide) rfl (fun c12 => ?_) (fun c12 => ?_)
    · have h := h10 c12
      refine q_iconst (n := 22) E.1 dX8_plan_21 rfl ?_
      exact q_iret E hW h dX8_plan_22
    · have h := h11 c12
      refine q_aload_n (n := 15) (q := 0) E.1 hl rfl dX8_plan_14 rfl rfl ?_
      refine q_callVi (n := 18) (fs := (fs62 X)) [] E hW hl.1 (by decide) (fun _ => rfl) K8 (c_X8_lays l X E.2.2.1.1   _ _ h) (by decide) Y_RX8_222 rfl (rest := []) rfl (Nat.le_of_ble_eq_true rfl) dX8_plan_15 rfl (fun r14 M13 H locs h hW => ?_)
      obtain ⟨g15, h16, h17⟩ := h
      refine q_if_ne (t := 23) (n := 21) E.1 g15 dX8_plan_18 (by decide) rfl (fun c18 => ?_) (fun c18 => ?_)
      · have h := h16 c18
        refine q_aload_n (n := 24) (q := 0) E.1 hl rfl dX8_plan_23 rfl rfl ?_
        refine q_callVv (n := 27) (fs := (fs62 X)) [] E hW hl.1 (by decide) (fun _ => rfl) K8 (c_X8_plans l X E.2.2.1.1   _ _ h) (by decide) Y_RX8_229 rfl (rest := []) rfl (Nat.le_of_ble_eq_true rfl) dX8_plan_24 rfl (fun M19 H locs h hW => ?_)
        refine q_aload_n (n := 28) (q := 0) E.1 hl rfl dX8_plan_27 rfl rfl ?_
        refine q_get (n := 31) (k := 45) (fs := (fs62 X)) (v := .ref (xA X 89)) E hW (by decide) (fun _ => rfl) K8 (by decide) w760 rfl rfl dX8_plan_28 rfl ?_
        refine q_bipush (n := 33) E.1 dX8_plan_31 (by decide) rfl ?_
        refine q_iload_n (n := 34) (q := 1) E.1 hl rfl dX8_plan_33 rfl rfl ?_
        refine q_imul (n := 35) E.1 dX8_plan_34 rfl ?_
        refine q_iload_n (n := 36) (q := 2) E.1 hl rfl dX8_plan_35 rfl rfl ?_
        refine q_iadd (n := 37) E.1 dX8_plan_36 rfl ?_
        obtain ⟨g20, h⟩ := h
        refine q_iald (n := 38) E hW (by decide) (fun _ => rfl) (by decide) g20 dX8_plan_37 rfl ?_
        exact q_iret E hW h dX8_plan_38
      · have h := h17 c18
        refine q_iconst (n := 22) E.1 dX8_plan_21 rfl ?_
        exact q_iret E hW h dX8_plan_22
/-! StickerPressModel.print(I)I -/
theorem dX8_print_0 : decode cX8_print 0 = .ok (.iload_n 1, 1) := by decide +kernel
theorem dX8_print_1 : decode cX8_print 1 = .ok (.invokestatic 195, 3) := by decide +kernel
theorem dX8_print_4 : decode cX8_print 4 = .ok (.ifCond .eq 10, 3) := by decide +kernel
theorem dX8_print_7 : decode cX8_print 7 = .ok (.aload_n 0, 1) := by decide +kernel
theorem dX8_print_8 : decode cX8_print 8 = .ok (.invokevirtual 222, 3) := by decide +kernel
theorem dX8_print_11 : decode cX8_print 11 = .ok (.ifCond .ne 5, 3) := by decide +kernel
theorem dX8_print_14 : decode cX8_print 14 = .ok (.iconst (-1), 1) := by decide +kernel
theorem dX8_print_15 : decode cX8_print 15 = .ok (.ireturn, 1) := by decide +kernel
theorem dX8_print_16 : decode cX8_print 16 = .ok (.aload_n 0, 1) := by decide +kernel
theorem dX8_print_17 : decode cX8_print 17 = .ok (.invokevirtual 229, 3) := by decide +kernel
theorem dX8_print_20 : decode cX8_print 20 = .ok (.iconst 0, 1) := by decide +kernel
theorem dX8_print_21 : decode cX8_print 21 = .ok (.istore_n 2, 1) := by decide +kernel
theorem dX8_print_22 : decode cX8_print 22 = .ok (.iconst 0, 1) := by decide +kernel
theorem dX8_print_23 : decode cX8_print 23 = .ok (.istore_n 3, 1) := by decide +kernel
theorem dX8_print_24 : decode cX8_print 24 = .ok (.iload_n 3, 1) := by decide +kernel
theorem dX8_print_25 : decode cX8_print 25 = .ok (.bipush 40, 2) := by decide +kernel
theorem dX8_print_27 : decode cX8_print 27 = .ok (.if_icmp .ge 82, 3) := by decide +kernel
theorem dX8_print_30 : decode cX8_print 30 = .ok (.aload_n 0, 1) := by decide +kernel
theorem dX8_print_31 : decode cX8_print 31 = .ok (.getfield 100, 3) := by decide +kernel
theorem dX8_print_34 : decode cX8_print 34 = .ok (.bipush 40, 2) := by decide +kernel
theorem dX8_print_36 : decode cX8_print 36 = .ok (.iload_n 1, 1) := by decide +kernel
theorem dX8_print_37 : decode cX8_print 37 = .ok (.imul, 1) := by decide +kernel
theorem dX8_print_38 : decode cX8_print 38 = .ok (.iload_n 3, 1) := by decide +kernel
theorem dX8_print_39 : decode cX8_print 39 = .ok (.iadd, 1) := by decide +kernel
theorem dX8_print_40 : decode cX8_print 40 = .ok (.iaload, 1) := by decide +kernel
theorem dX8_print_41 : decode cX8_print 41 = .ok (.istore 4, 2) := by decide +kernel
theorem dX8_print_43 : decode cX8_print 43 = .ok (.iload 4, 2) := by decide +kernel
theorem dX8_print_45 : decode cX8_print 45 = .ok (.iconst (-1), 1) := by decide +kernel
theorem dX8_print_46 : decode cX8_print 46 = .ok (.if_icmp .ne 6, 3) := by decide +kernel
theorem dX8_print_49 : decode cX8_print 49 = .ok (.goto 54, 3) := by decide +kernel
theorem dX8_print_52 : decode cX8_print 52 = .ok (.aload_n 0, 1) := by decide +kernel
theorem dX8_print_53 : decode cX8_print 53 = .ok (.getfield 60, 3) := by decide +kernel
theorem dX8_print_56 : decode cX8_print 56 = .ok (.bipush 40, 2) := by decide +kernel
theorem dX8_print_58 : decode cX8_print 58 = .ok (.iload_n 1, 1) := by decide +kernel
theorem dX8_print_59 : decode cX8_print 59 = .ok (.imul, 1) := by decide +kernel
theorem dX8_print_60 : decode cX8_print 60 = .ok (.iload_n 3, 1) := by decide +kernel
theorem dX8_print_61 : decode cX8_print 61 = .ok (.iadd, 1) := by decide +kernel
theorem dX8_print_62 : decode cX8_print 62 = .ok (.iload 4, 2) := by decide +kernel
theorem dX8_print_64 : decode cX8_print 64 = .ok (.iastore, 1) := by decide +kernel
theorem dX8_print_65 : decode cX8_print 65 = .ok (.aload_n 0, 1) := by decide +kernel
theorem dX8_print_66 : decode cX8_print 66 = .ok (.getfield 56, 3) := by decide +kernel
theorem dX8_print_69 : decode cX8_print 69 = .ok (.iload_n 1, 1) := by decide +kernel
theorem dX8_print_70 : decode cX8_print 70 = .ok (.dup2, 1) := by decide +kernel
theorem dX8_print_71 : decode cX8_print 71 = .ok (.laload, 1) := by decide +kernel
theorem dX8_print_72 : decode cX8_print 72 = .ok (.lconst 1, 1) := by decide +kernel
theorem dX8_print_73 : decode cX8_print 73 = .ok (.iload_n 3, 1) := by decide +kernel
theorem dX8_print_74 : decode cX8_print 74 = .ok (.lshl, 1) := by decide +kernel
theorem dX8_print_75 : decode cX8_print 75 = .ok (.ldc2_w 232, 3) := by decide +kernel
theorem dX8_print_78 : decode cX8_print 78 = .ok (.lxor, 1) := by decide +kernel
theorem dX8_print_79 : decode cX8_print 79 = .ok (.land, 1) := by decide +kernel
theorem dX8_print_80 : decode cX8_print 80 = .ok (.lastore, 1) := by decide +kernel
theorem dX8_print_81 : decode cX8_print 81 = .ok (.aload_n 0, 1) := by decide +kernel
theorem dX8_print_82 : decode cX8_print 82 = .ok (.getfield 73, 3) := by decide +kernel
theorem dX8_print_85 : decode cX8_print 85 = .ok (.iload 4, 2) := by decide +kernel
theorem dX8_print_87 : decode cX8_print 87 = .ok (.iconst 0, 1) := by decide +kernel
theorem dX8_print_88 : decode cX8_print 88 = .ok (.bastore, 1) := by decide +kernel
theorem dX8_print_89 : decode cX8_print 89 = .ok (.aload_n 0, 1) := by decide +kernel
theorem dX8_print_90 : decode cX8_print 90 = .ok (.getfield 70, 3) := by decide +kernel
theorem dX8_print_93 : decode cX8_print 93 = .ok (.iload 4, 2) := by decide +kernel
theorem dX8_print_95 : decode cX8_print 95 = .ok (.dup2, 1) := by decide +kernel
theorem dX8_print_96 : decode cX8_print 96 = .ok (.iaload, 1) := by decide +kernel
theorem dX8_print_97 : decode cX8_print 97 = .ok (.iconst 1, 1) := by decide +kernel
theorem dX8_print_98 : decode cX8_print 98 = .ok (.iadd, 1) := by decide +kernel
theorem dX8_print_99 : decode cX8_print 99 = .ok (.iastore, 1) := by decide +kernel
theorem dX8_print_100 : decode cX8_print 100 = .ok (.iinc 2 1, 3) := by decide +kernel
theorem dX8_print_103 : decode cX8_print 103 = .ok (.iinc 3 1, 3) := by decide +kernel
theorem dX8_print_106 : decode cX8_print 106 = .ok (.goto (-82), 3) := by decide +kernel
theorem dX8_print_109 : decode cX8_print 109 = .ok (.iload_n 2, 1) := by decide +kernel
theorem dX8_print_110 : decode cX8_print 110 = .ok (.ireturn, 1) := by decide +kernel
def wp_X8_print_24 (a1 : Int) (Q : Int → Mem → Prop) : Nat → Int → Int → Mem → Prop
  | 0, _, _, _ => False
  | n + 1, x2, x3, M => (Rg x3 ∧ (40 ≤ x3 → Q x2 M) ∧ (¬ (40 ≤ x3) → (0 ≤ ((40 * a1) + x3) ∧ ((40 * a1) + x3) < 120) ∧ (Rg (M 89 ((40 * a1) + x3).toNat) ∧ ((M 89 ((40 * a1) + x3).toNat) ≠ (-1) → (0 ≤ ((40 * a1) + x3) ∧ ((40 * a1) + x3) < 120) ∧ (0 ≤ a1 ∧ a1 < 3) ∧ (0 ≤ a1 ∧ a1 < 3) ∧ (0 ≤ (M 89 ((40 * a1) + x3).toNat) ∧ (M 89 ((40 * a1) + x3).toNat) < 200) ∧ (0 ≤ (M 89 ((40 * a1) + x3).toNat) ∧ (M 89 ((40 * a1) + x3).toNat) < 200) ∧ (0 ≤ (M 89 ((40 * a1) + x3).toNat) ∧ (M 89 ((40 * a1) + x3).toNat) < 200) ∧ wp_X8_print_24 a1 Q n (x2 + 1) (x3 + 1) (up (up (up (up M 76 ((40 * a1) + x3).toNat (M 89 ((40 * a1) + x3).toNat)) 75 a1.toNat (lAnd ((up M 76 ((40 * a1) + x3).toNat (M 89 ((40 * a1) + x3).toNat)) 75 a1.toNat) (lXor (lShl 1 x3) (-1)))) 80 (M 89 ((40 * a1) + x3).toNat).toNat 0) 79 (M 89 ((40 * a1) + x3).toNat).toNat (((up (up (up M 76 ((40 * a1) + x3).toNat (M 89 ((40 * a1) + x3).toNat)) 75 a1.toNat (lAnd ((up M 76 ((40 * a1) + x3).toNat (M 89 ((40 * a1) + x3).toNat)) 75 a1.toNat) (lXor (lShl 1 x3) (-1)))) 80 (M 89 ((40 * a1) + x3).toNat).toNat 0) 79 (M 89 ((40 * a1) + x3).toNat).toNat) + 1))) ∧ (¬ ((M 89 ((40 * a1) + x3).toNat) ≠ (-1)) → wp_X8_print_24 a1 Q n x2 (x3 + 1) M))))
set_option maxHeartbeats 4000000 in
set_option maxRecDepth 100000 in
theorem v_X8_print_24 (a1 : Int) (E : En X (AW X) 2 p R s m args meth c cX8_print RX8 5 (some .int) 0 0) (Q : Int → Mem → Prop) : ∀ n : Nat, ∀ (x2 x3 : Int) (M : Mem) (H : Heap) (locs : List Loc) (ls : Array Slot), wp_X8_print_24 a1 Q n x2 x3 M → Wd X (AW X) s M H locs → lv_has ls 5 [(0, .ref (xA X 62)), (1, .int (jI a1)), (2, .int (jI x2)), (3, .int (jI x3))] → W p l e R s m args below meth c H locs 0 0 (MQ below (QI X Q) args s 0 0 (AW X)) (F0 m 24 ls []) := by
  intro n
  induction n with
  | zero => intro x2 x3 M H locs ls h; exact absurd h (by simp [wp_X8_print_24])
  | succ n ih =>
    intro x2 x3 M H locs ls h hW hl
    rw [wp_X8_print_24] at h
    refine q_iload_n (n := 25) (q := 3) E.1 hl rfl dX8_print_24 rfl rfl ?_
    refine q_bipush (n := 27) E.1 dX8_print_25 (by decide) rfl ?_
    obtain ⟨g1, h2, h3⟩ := h
    refine q_icmp_ge (t := 109) (n := 30) E.1 g1 (by decide) dX8_print_27 (by decide) rfl (fun c4 => ?_) (fun c4 => ?_)
    · have h := h2 c4
      refine q_iload_n (n := 110) (q := 2) E.1 hl rfl dX8_print_109 rfl rfl ?_
      exact q_iret E hW h dX8_print_110
    · have h := h3 c4
      refine q_aload_n (n := 31) (q := 0) E.1 hl rfl dX8_print_30 rfl rfl ?_
      refine q_get (n := 34) (k := 45) (fs := (fs62 X)) (v := .ref (xA X 89)) E hW (by decide) (fun _ => rfl) K8 (by decide) w760 rfl rfl dX8_print_31 rfl ?_
      refine q_bipush (n := 36) E.1 dX8_print_34 (by decide) rfl ?_
      refine q_iload_n (n := 37) (q := 1) E.1 hl rfl dX8_print_36 rfl rfl ?_
      refine q_imul (n := 38) E.1 dX8_print_37 rfl ?_
      refine q_iload_n (n := 39) (q := 3) E.1 hl rfl dX8_print_38 rfl rfl ?_
      refine q_iadd (n := 40) E.1 dX8_print_39 rfl ?_
      obtain ⟨g5, h⟩ := h
      refine q_iald (n := 41) E hW (by decide) (fun _ => rfl) (by decide) g5 dX8_print_40 rfl ?_
      refine q_istore (n := 43) [(4, .int (jI (M 89 ((40 * a1) + x3).toNat))), (0, .ref (xA X 62)), (1, .int (jI a1)), (2, .int (jI x2)), (3, .int (jI x3))] E.1 hl dX8_print_41 (by decide) rfl rfl (fun ls hl => ?_)
      refine q_iload (n := 45) (q := 0) E.1 hl rfl dX8_print_43 rfl ?_
      refine q_iconst (n := 46) E.1 dX8_print_45 rfl ?_
      obtain ⟨g6, h7, h8⟩ := h
      refine q_icmp_ne (t := 52) (n := 49) E.1 g6 (by decide) dX8_print_46 (by decide) rfl (fun c9 => ?_) (fun c9 => ?_)
      · have h := h7 c9
        refine q_aload_n (n := 53) (q := 1) E.1 hl rfl dX8_print_52 rfl rfl ?_
        refine q_get (n := 56) (k := 29) (fs := (fs62 X)) (v := .ref (xA X 76)) E hW (by decide) (fun _ => rfl) K8 (by decide) w744 rfl rfl dX8_print_53 rfl ?_
        refine q_bipush (n := 58) E.1 dX8_print_56 (by decide) rfl ?_
        refine q_iload_n (n := 59) (q := 2) E.1 hl rfl dX8_print_58 rfl rfl ?_
        refine q_imul (n := 60) E.1 dX8_print_59 rfl ?_
        refine q_iload_n (n := 61) (q := 4) E.1 hl rfl dX8_print_60 rfl rfl ?_
        refine q_iadd (n := 62) E.1 dX8_print_61 rfl ?_
        refine q_iload (n := 64) (q := 0) E.1 hl rfl dX8_print_62 rfl ?_
        obtain ⟨g10, h⟩ := h
        refine q_iast (n := 65) E hW (by decide) (fun _ => rfl) (by decide) g10 dX8_print_64 rfl (fun H locs hW => ?_)
        refine q_aload_n (n := 66) (q := 1) E.1 hl rfl dX8_print_65 rfl rfl ?_
        refine q_get (n := 69) (k := 28) (fs := (fs62 X)) (v := .ref (xA X 75)) E hW (by decide) (fun _ => rfl) K8 (by decide) w743 rfl rfl dX8_print_66 rfl ?_
        refine q_iload_n (n := 70) (q := 2) E.1 hl rfl dX8_print_69 rfl rfl ?_
        refine q_dup2 (n := 71) E.1 dX8_print_70 rfl rfl rfl ?_
        obtain ⟨g11, h⟩ := h
        refine q_lald (n := 72) E hW (by decide) (fun _ => rfl) (by decide) g11 dX8_print_71 rfl ?_
        refine q_lconst (n := 73) (w := 1) E.1 dX8_print_72 (by decide) rfl ?_
        refine q_iload_n (n := 74) (q := 4) E.1 hl rfl dX8_print_73 rfl rfl ?_
        refine q_lshl (n := 75) E.1 dX8_print_74 rfl ?_
        refine q_ldc2 (n := 78) (z := (-1)) E.1 w1016 (by decide) dX8_print_75 rfl ?_
        refine q_lxor (n := 79) E.1 dX8_print_78 rfl ?_
        refine q_land (n := 80) E.1 dX8_print_79 rfl ?_
        obtain ⟨g12, h⟩ := h
        refine q_last (n := 81) E hW (by decide) (fun _ => rfl) (by decide) g12 dX8_print_80 rfl (fun H locs hW => ?_)
        refine q_aload_n (n := 82) (q := 1) E.1 hl rfl dX8_print_81 rfl rfl ?_
        refine q_get (n := 85) (k := 34) (fs := (fs62 X)) (v := .ref (xA X 80)) E hW (by decide) (fun _ => rfl) K8 (by decide) w749 rfl rfl dX8_print_82 rfl ?_
        refine q_iload (n := 87) (q := 0) E.1 hl rfl dX8_print_85 rfl ?_
        refine q_iconst (n := 88) E.1 dX8_print_87 rfl ?_
        obtain ⟨g13, h⟩ := h
        refine q_zast (n := 89) E hW (by decide) (fun _ => rfl) (by decide) g13 (Or.inl rfl) dX8_print_88 rfl (fun H locs hW => ?_)
        refine q_aload_n (n := 90) (q := 1) E.1 hl rfl dX8_print_89 rfl rfl ?_
        refine q_get (n := 93) (k := 33) (fs := (fs62 X)) (v := .ref (xA X 79)) E hW (by decide) (fun _ => rfl) K8 (by decide) w748 rfl rfl dX8_print_90 rfl ?_
        refine q_iload (n := 95) (q := 0) E.1 hl rfl dX8_print_93 rfl ?_
        refine q_dup2 (n := 96) E.1 dX8_print_95 rfl rfl rfl ?_
        obtain ⟨g14, h⟩ := h
        refine q_iald (n := 97) E hW (by decide) (fun _ => rfl) (by decide) g14 dX8_print_96 rfl ?_
        refine q_iconst (n := 98) E.1 dX8_print_97 rfl ?_
        refine q_iadd (n := 99) E.1 dX8_print_98 rfl ?_
        obtain ⟨g15, h⟩ := h
        refine q_iast (n := 100) E hW (by decide) (fun _ => rfl) (by decide) g15 dX8_print_99 rfl (fun H locs hW => ?_)
        refine q_iinc (n := 103) (q := 3) [(2, .int (jI (x2 + 1))), (4, .int (jI (M 89 ((40 * a1) + x3).toNat))), (0, .ref (xA X 62)), (1, .int (jI a1)), (3, .int (jI x3))] E.1 hl rfl dX8_print_100 (by decide) rfl rfl (fun ls hl => ?_)
        refine q_iinc (n := 106) (q := 4) [(3, .int (jI (x3 + 1))), (2, .int (jI (x2 + 1))), (4, .int (jI (M 89 ((40 * a1) + x3).toNat))), (0, .ref (xA X 62)), (1, .int (jI a1))] E.1 hl rfl dX8_print_103 (by decide) rfl rfl (fun ls hl => ?_)
        refine q_goto (n := 24) E.1 dX8_print_106 (by decide) ?_
        exact ih _ _ _ _ _ _ h hW (lv_sub hl [3, 4, 1, 0] rfl)
      · have h := h8 c9
        refine q_goto (n := 103) E.1 dX8_print_49 (by decide) ?_
        refine q_iinc (n := 106) (q := 4) [(3, .int (jI (x3 + 1))), (4, .int (jI (M 89 ((40 * a1) + x3).toNat))), (0, .ref (xA X 62)), (1, .int (jI a1)), (2, .int (jI x2))] E.1 hl rfl dX8_print_103 (by decide) rfl rfl (fun ls hl => ?_)
        refine q_goto (n := 24) E.1 dX8_print_106 (by decide) ?_
        exact ih _ _ _ _ _ _ h hW (lv_sub hl [2, 3, 4, 0] rfl)
def wp_X8_print (a1 : Int) (M : Mem) (Q : Int → Mem → Prop) : Prop := wp_X8_isSheet a1 M (fun r2 M1 => (Rg r2 ∧ (r2 = 0 → Q (-1) M1) ∧ (¬ (r2 = 0) → wp_X8_lays  M1 (fun r8 M7 => (Rg r8 ∧ (r8 ≠ 0 → wp_X8_plans  M7 (fun M13 => (∃ n : Nat, wp_X8_print_24 a1 Q n 0 0 M13))) ∧ (¬ (r8 ≠ 0) → Q (-1) M7))))))
set_option maxHeartbeats 4000000 in
set_option maxRecDepth 100000 in
theorem c_X8_print (l : Launch) (X : Cx) (hI : Inj X) (a1 : Int) (M : Mem) (Q : Int → Mem → Prop) (h : wp_X8_print a1 M Q) : MI X l yX8_print cX8_print 5 (some .int) 2 [.ref (xA X 62), .int (jI a1)] M Q := by
  refine MI.of hI (by decide) (Nat.le_of_ble_eq_true rfl) ?_
  intro p e R s m args below meth c ls E hW hl
  have E : En X (AW X) 2 p R s m args meth c cX8_print RX8 5 (some .int) 0 0 := E
  have hl : lv_has ls 5 [(0, .ref (xA X 62)), (1, .int (jI a1))] := hl
  unfold wp_X8_print at h
  refine q_iload_n (n := 1) (q := 1) E.1 hl rfl dX8_print_0 rfl rfl ?_
  refine q_callSi (n := 4) [.int (jI a1)] E hW hl.1 (c_X8_isSheet l X E.2.2.1.1 a1  _ _ h) (by decide) Y_RX8_195 rfl (rest := []) rfl (Nat.le_of_ble_eq_true rfl) dX8_print_1 rfl (fun r2 M1 H locs h hW => ?_)
  obtain ⟨g3, h4, h5⟩ := h
  refine q_if_eq (t := 14) (n := 7) E.1 g3 dX8_print_4 (by decide) rfl (fun c6 => ?_) (fun c6 => ?_)
  · have h := h4 c6
    refine q_iconst (n := 15) E.1 dX8_print_14 rfl ?_
    exact q_iret E hW h dX8_print_15
  · have h := h5 c6
    refine q_aload_n (n := 8) (q := 0) E.1 hl rfl dX8_print_7 rfl rfl ?_
    refine q_callVi (n := 11) (fs := (fs62 X)) [] E hW hl.1 (by decide) (fun _ => rfl) K8 (c_X8_lays l X E.2.2.1.1   _ _ h) (by decide) Y_RX8_222 rfl (rest := []) rfl (Nat.le_of_ble_eq_true rfl) dX8_print_8 rfl (fun r8 M7 H locs h hW => ?_)
    obtain ⟨g9, h10, h11⟩ := h
    refine q_if_ne (t := 16) (n := 14) E.1 g9 dX8_print_11 (by decide) rfl (fun c12 => ?_) (fun c12 => ?_)
    · have h := h10 c12
      refine q_aload_n (n := 17) (q := 0) E.1 hl rfl dX8_print_16 rfl rfl ?_
      refine q_callVv (n := 20) (fs := (fs62 X)) [] E hW hl.1 (by decide) (fun _ => rfl) K8 (c_X8_plans l X E.2.2.1.1   _ _ h) (by decide) Y_RX8_229 rfl (rest := []) rfl (Nat.le_of_ble_eq_true rfl) dX8_print_17 rfl (fun M13 H locs h hW => ?_)
      refine q_iconst (n := 21) E.1 dX8_print_20 rfl ?_
      refine q_istore_n (n := 22) [(2, .int (jI 0)), (0, .ref (xA X 62)), (1, .int (jI a1))] E.1 hl dX8_print_21 rfl (by decide) rfl rfl (fun ls hl => ?_)
      refine q_iconst (n := 23) E.1 dX8_print_22 rfl ?_
      refine q_istore_n (n := 24) [(3, .int (jI 0)), (2, .int (jI 0)), (0, .ref (xA X 62)), (1, .int (jI a1))] E.1 hl dX8_print_23 rfl (by decide) rfl rfl (fun ls hl => ?_)
      obtain ⟨n14, h⟩ := h
      exact v_X8_print_24 a1 E Q n14 _ _ _ _ _ _ h hW (lv_sub hl [2, 3, 1, 0] rfl)
    · have h := h11 c12
      refine q_iconst (n := 15) E.1 dX8_print_14 rfl ?_
      exact q_iret E hW h dX8_print_15
/-! StickerPressModel.printed(II)I -/
theorem dX8_printed_0 : decode cX8_printed 0 = .ok (.iload_n 1, 1) := by decide +kernel
theorem dX8_printed_1 : decode cX8_printed 1 = .ok (.invokestatic 195, 3) := by decide +kernel
theorem dX8_printed_4 : decode cX8_printed 4 = .ok (.ifCond .eq 24, 3) := by decide +kernel
theorem dX8_printed_7 : decode cX8_printed 7 = .ok (.iload_n 2, 1) := by decide +kernel
theorem dX8_printed_8 : decode cX8_printed 8 = .ok (.invokestatic 226, 3) := by decide +kernel
theorem dX8_printed_11 : decode cX8_printed 11 = .ok (.ifCond .eq 17, 3) := by decide +kernel
theorem dX8_printed_14 : decode cX8_printed 14 = .ok (.aload_n 0, 1) := by decide +kernel
theorem dX8_printed_15 : decode cX8_printed 15 = .ok (.getfield 60, 3) := by decide +kernel
theorem dX8_printed_18 : decode cX8_printed 18 = .ok (.bipush 40, 2) := by decide +kernel
theorem dX8_printed_20 : decode cX8_printed 20 = .ok (.iload_n 1, 1) := by decide +kernel
theorem dX8_printed_21 : decode cX8_printed 21 = .ok (.imul, 1) := by decide +kernel
theorem dX8_printed_22 : decode cX8_printed 22 = .ok (.iload_n 2, 1) := by decide +kernel
theorem dX8_printed_23 : decode cX8_printed 23 = .ok (.iadd, 1) := by decide +kernel
theorem dX8_printed_24 : decode cX8_printed 24 = .ok (.iaload, 1) := by decide +kernel
theorem dX8_printed_25 : decode cX8_printed 25 = .ok (.goto 4, 3) := by decide +kernel
theorem dX8_printed_28 : decode cX8_printed 28 = .ok (.iconst (-1), 1) := by decide +kernel
theorem dX8_printed_29 : decode cX8_printed 29 = .ok (.ireturn, 1) := by decide +kernel
def wp_X8_printed (a1 : Int) (a2 : Int) (M : Mem) (Q : Int → Mem → Prop) : Prop := wp_X8_isSheet a1 M (fun r2 M1 => (Rg r2 ∧ (r2 = 0 → Q (-1) M1) ∧ (¬ (r2 = 0) → wp_X8_isCell a2 M1 (fun r8 M7 => (Rg r8 ∧ (r8 = 0 → Q (-1) M7) ∧ (¬ (r8 = 0) → (0 ≤ ((40 * a1) + a2) ∧ ((40 * a1) + a2) < 120) ∧ Q (M7 76 ((40 * a1) + a2).toNat) M7))))))
set_option maxHeartbeats 4000000 in
set_option maxRecDepth 100000 in
theorem c_X8_printed (l : Launch) (X : Cx) (hI : Inj X) (a1 : Int) (a2 : Int) (M : Mem) (Q : Int → Mem → Prop) (h : wp_X8_printed a1 a2 M Q) : MI X l yX8_printed cX8_printed 3 (some .int) 2 [.ref (xA X 62), .int (jI a1), .int (jI a2)] M Q := by
  refine MI.of hI (by decide) (Nat.le_of_ble_eq_true rfl) ?_
  intro p e R s m args below meth c ls E hW hl
  have E : En X (AW X) 2 p R s m args meth c cX8_printed RX8 3 (some .int) 0 0 := E
  have hl : lv_has ls 3 [(0, .ref (xA X 62)), (1, .int (jI a1)), (2, .int (jI a2))] := hl
  unfold wp_X8_printed at h
  refine q_iload_n (n := 1) (q := 1) E.1 hl rfl dX8_printed_0 rfl rfl ?_
  refine q_callSi (n := 4) [.int (jI a1)] E hW hl.1 (c_X8_isSheet l X E.2.2.1.1 a1  _ _ h) (by decide) Y_RX8_195 rfl (rest := []) rfl (Nat.le_of_ble_eq_true rfl) dX8_printed_1 rfl (fun r2 M1 H locs h hW => ?_)
  obtain ⟨g3, h4, h5⟩ := h
  refine q_if_eq (t := 28) (n := 7) E.1 g3 dX8_printed_4 (by decide) rfl (fun c6 => ?_) (fun c6 => ?_)
  · have h := h4 c6
    refine q_iconst (n := 29) E.1 dX8_printed_28 rfl ?_
    exact q_iret E hW h dX8_printed_29
  · have h := h5 c6
    refine q_iload_n (n := 8) (q := 2) E.1 hl rfl dX8_printed_7 rfl rfl ?_
    refine q_callSi (n := 11) [.int (jI a2)] E hW hl.1 (c_X8_isCell l X E.2.2.1.1 a2  _ _ h) (by decide) Y_RX8_226 rfl (rest := []) rfl (Nat.le_of_ble_eq_true rfl) dX8_printed_8 rfl (fun r8 M7 H locs h hW => ?_)
    obtain ⟨g9, h10, h11⟩ := h
    refine q_if_eq (t := 28) (n := 14) E.1 g9 dX8_printed_11 (by decide) rfl (fun c12 => ?_) (fun c12 => ?_)
    · have h := h10 c12
      refine q_iconst (n := 29) E.1 dX8_printed_28 rfl ?_
      exact q_iret E hW h dX8_printed_29
    · have h := h11 c12
      refine q_aload_n (n := 15) (q := 0) E.1 hl rfl dX8_printed_14 rfl rfl ?_
      refine q_get (n := 18) (k := 29) (fs := (fs62 X)) (v := .ref (xA X 76)) E hW (by decide) (fun _ => rfl) K8 (by decide) w744 rfl rfl dX8_printed_15 rfl ?_
      refine q_bipush (n := 20) E.1 dX8_printed_18 (by decide) rfl ?_
      refine q_iload_n (n := 21) (q := 1) E.1 hl rfl dX8_printed_20 rfl rfl ?_
      refine q_imul (n := 22) E.1 dX8_printed_21 rfl ?_
      refine q_iload_n (n := 23) (q := 2) E.1 hl rfl dX8_printed_22 rfl rfl ?_
      refine q_iadd (n := 24) E.1 dX8_printed_23 rfl ?_
      obtain ⟨g13, h⟩ := h
      refine q_iald (n := 25) E hW (by decide) (fun _ => rfl) (by decide) g13 dX8_printed_24 rfl ?_
      refine q_goto (n := 29) E.1 dX8_printed_25 (by decide) ?_
      exact q_iret E hW h dX8_printed_29
/-! StickerPressModel.spoil(II)I -/
theorem dX8_spoil_0 : decode cX8_spoil 0 = .ok (.aload_n 0, 1) := by decide +kernel
theorem dX8_spoil_1 : decode cX8_spoil 1 = .ok (.iload_n 1, 1) := by decide +kernel
theorem dX8_spoil_2 : decode cX8_spoil 2 = .ok (.iload_n 2, 1) := by decide +kernel
theorem dX8_spoil_3 : decode cX8_spoil 3 = .ok (.invokevirtual 234, 3) := by decide +kernel
theorem dX8_spoil_6 : decode cX8_spoil 6 = .ok (.istore_n 3, 1) := by decide +kernel
theorem dX8_spoil_7 : decode cX8_spoil 7 = .ok (.iload_n 3, 1) := by decide +kernel
theorem dX8_spoil_8 : decode cX8_spoil 8 = .ok (.iconst (-1), 1) := by decide +kernel
theorem dX8_spoil_9 : decode cX8_spoil 9 = .ok (.if_icmp .eq 32, 3) := by decide +kernel
theorem dX8_spoil_12 : decode cX8_spoil 12 = .ok (.aload_n 0, 1) := by decide +kernel
theorem dX8_spoil_13 : decode cX8_spoil 13 = .ok (.getfield 63, 3) := by decide +kernel
theorem dX8_spoil_16 : decode cX8_spoil 16 = .ok (.bipush 40, 2) := by decide +kernel
theorem dX8_spoil_18 : decode cX8_spoil 18 = .ok (.iload_n 1, 1) := by decide +kernel
theorem dX8_spoil_19 : decode cX8_spoil 19 = .ok (.imul, 1) := by decide +kernel
theorem dX8_spoil_20 : decode cX8_spoil 20 = .ok (.iload_n 2, 1) := by decide +kernel
theorem dX8_spoil_21 : decode cX8_spoil 21 = .ok (.iadd, 1) := by decide +kernel
theorem dX8_spoil_22 : decode cX8_spoil 22 = .ok (.baload, 1) := by decide +kernel
theorem dX8_spoil_23 : decode cX8_spoil 23 = .ok (.ifCond .ne 18, 3) := by decide +kernel
theorem dX8_spoil_26 : decode cX8_spoil 26 = .ok (.aload_n 0, 1) := by decide +kernel
theorem dX8_spoil_27 : decode cX8_spoil 27 = .ok (.aload_n 0, 1) := by decide +kernel
theorem dX8_spoil_28 : decode cX8_spoil 28 = .ok (.getfield 67, 3) := by decide +kernel
theorem dX8_spoil_31 : decode cX8_spoil 31 = .ok (.iload_n 3, 1) := by decide +kernel
theorem dX8_spoil_32 : decode cX8_spoil 32 = .ok (.iaload, 1) := by decide +kernel
theorem dX8_spoil_33 : decode cX8_spoil 33 = .ok (.invokevirtual 201, 3) := by decide +kernel
theorem dX8_spoil_36 : decode cX8_spoil 36 = .ok (.bipush 40, 2) := by decide +kernel
theorem dX8_spoil_38 : decode cX8_spoil 38 = .ok (.if_icmp .ne 5, 3) := by decide +kernel
theorem dX8_spoil_41 : decode cX8_spoil 41 = .ok (.iconst (-1), 1) := by decide +kernel
theorem dX8_spoil_42 : decode cX8_spoil 42 = .ok (.ireturn, 1) := by decide +kernel
theorem dX8_spoil_43 : decode cX8_spoil 43 = .ok (.aload_n 0, 1) := by decide +kernel
theorem dX8_spoil_44 : decode cX8_spoil 44 = .ok (.getfield 63, 3) := by decide +kernel
theorem dX8_spoil_47 : decode cX8_spoil 47 = .ok (.bipush 40, 2) := by decide +kernel
theorem dX8_spoil_49 : decode cX8_spoil 49 = .ok (.iload_n 1, 1) := by decide +kernel
theorem dX8_spoil_50 : decode cX8_spoil 50 = .ok (.imul, 1) := by decide +kernel
theorem dX8_spoil_51 : decode cX8_spoil 51 = .ok (.iload_n 2, 1) := by decide +kernel
theorem dX8_spoil_52 : decode cX8_spoil 52 = .ok (.iadd, 1) := by decide +kernel
theorem dX8_spoil_53 : decode cX8_spoil 53 = .ok (.iconst 1, 1) := by decide +kernel
theorem dX8_spoil_54 : decode cX8_spoil 54 = .ok (.bastore, 1) := by decide +kernel
theorem dX8_spoil_55 : decode cX8_spoil 55 = .ok (.aload_n 0, 1) := by decide +kernel
theorem dX8_spoil_56 : decode cX8_spoil 56 = .ok (.getfield 73, 3) := by decide +kernel
theorem dX8_spoil_59 : decode cX8_spoil 59 = .ok (.iload_n 3, 1) := by decide +kernel
theorem dX8_spoil_60 : decode cX8_spoil 60 = .ok (.iconst 1, 1) := by decide +kernel
theorem dX8_spoil_61 : decode cX8_spoil 61 = .ok (.bastore, 1) := by decide +kernel
theorem dX8_spoil_62 : decode cX8_spoil 62 = .ok (.iload_n 3, 1) := by decide +kernel
theorem dX8_spoil_63 : decode cX8_spoil 63 = .ok (.ireturn, 1) := by decide +kernel
theorem Y_RX8_234 : YV RX8 234 RX8 yX8_printed cX8_printed 3 (some .int) 2 := ⟨w1020, w1025, w1018, w1019, w52, by decide +kernel, by decide⟩
def wp_X8_spoil (a1 : Int) (a2 : Int) (M : Mem) (Q : Int → Mem → Prop) : Prop := wp_X8_printed a1 a2 M (fun r2 M1 => (Rg r2 ∧ (r2 = (-1) → Q (-1) M1) ∧ (¬ (r2 = (-1)) → (0 ≤ ((40 * a1) + a2) ∧ ((40 * a1) + a2) < 120) ∧ (Rg (M1 77 ((40 * a1) + a2).toNat) ∧ ((M1 77 ((40 * a1) + a2).toNat) ≠ 0 → Q (-1) M1) ∧ (¬ ((M1 77 ((40 * a1) + a2).toNat) ≠ 0) → (0 ≤ r2 ∧ r2 < 200) ∧ wp_X8_waiting (M1 78 r2.toNat) M1 (fun r14 M13 => (Rg r14 ∧ (r14 ≠ 40 → (0 ≤ ((40 * a1) + a2) ∧ ((40 * a1) + a2) < 120) ∧ (0 ≤ r2 ∧ r2 < 200) ∧ Q r2 (up (up M13 77 ((40 * a1) + a2).toNat 1) 80 r2.toNat 1)) ∧ (¬ (r14 ≠ 40) → Q (-1) M13))))))))
set_option maxHeartbeats 4000000 in
set_option maxRecDepth 100000 in
theorem c_X8_spoil (l : Launch) (X : Cx) (hI : Inj X) (a1 : Int) (a2 : Int) (M : Mem) (Q : Int → Mem → Prop) (h : wp_X8_spoil a1 a2 M Q) : MI X l yX8_spoil cX8_spoil 4 (some .int) 3 [.ref (xA X 62), .int (jI a1), .int (jI a2)] M Q := by
  refine MI.of hI (by decide) (Nat.le_of_ble_eq_true rfl) ?_
  intro p e R s m args below meth c ls E hW hl
  have E : En X (AW X) 3 p R s m args meth c cX8_spoil RX8 4 (some .int) 0 0 := E
  have hl : lv_has ls 4 [(0, .ref (xA X 62)), (1, .int (jI a1)), (2, .int (jI a2))] := hl
  unfold wp_X8_spoil at h
  refine q_aload_n (n := 1) (q := 0) E.1 hl rfl dX8_spoil_0 rfl rfl ?_
  refine q_iload_n (n := 2) (q := 1) E.1 hl rfl dX8_spoil_1 rfl rfl ?_
  refine q_iload_n (n := 3) (q := 2) E.1 hl rfl dX8_spoil_2 rfl rfl ?_
  refine q_callVi (n := 6) (fs := (fs62 X)) [.int (jI a1), .int (jI a2)] E hW hl.1 (by decide) (fun _ => rfl) K8 (c_X8_printed l X E.2.2.1.1 a1 a2  _ _ h) (by decide) Y_RX8_234 rfl (rest := []) rfl (Nat.le_of_ble_eq_true rfl) dX8_spoil_3 rfl (fun r2 M1 H locs h hW => ?_)
  refine q_istore_n (n := 7) [(3, .int (jI r2)), (0, .ref (xA X 62)), (1, .int (jI a1)), (2, .int (jI a2))] E.1 hl dX8_spoil_6 rfl (by decide) rfl rfl (fun ls hl => ?_)
  refine q_iload_n (n := 8) (q := 0) E.1 hl rfl dX8_spoil_7 rfl rfl ?_
  refine q_iconst (n := 9) E.1 dX8_spoil_8 rfl ?_
  obtain ⟨g3, h4, h5⟩ := h
  refine q_icmp_eq (t := 41) (n := 12) E.1 g3 (by decide) dX8_spoil_9 (by decide) rfl (fun c6 => ?_) (fun c6 => ?_)
  · have h := h4 c6
    refine q_iconst (n := 42) E.1 dX8_spoil_41 rfl ?_
    exact q_iret E hW h dX8_spoil_42
  · have h := h5 c6
    refine q_aload_n (n := 13) (q := 1) E.1 hl rfl dX8_spoil_12 rfl rfl ?_
    refine q_get (n := 16) (k := 30) (fs := (fs62 X)) (v := .ref (xA X 77)) E hW (by decide) (fun _ => rfl) K8 (by decide) w745 rfl rfl dX8_spoil_13 rfl ?_
    refine q_bipush (n := 18) E.1 dX8_spoil_16 (by decide) rfl ?_
    refine q_iload_n (n := 19) (q := 2) E.1 hl rfl dX8_spoil_18 rfl rfl ?_
    refine q_imul (n := 20) E.1 dX8_spoil_19 rfl ?_
    refine q_iload_n (n := 21) (q := 3) E.1 hl rfl dX8_spoil_20 rfl rfl ?_
    refine q_iadd (n := 22) E.1 dX8_spoil_21 rfl ?_
    obtain ⟨g7, h⟩ := h
    refine q_zald (n := 23) E hW (by decide) (fun _ => rfl) (by decide) g7 dX8_spoil_22 rfl ?_
    obtain ⟨g8, h9, h10⟩ := h
    refine q_if_ne (t := 41) (n := 26) E.1 g8 dX8_spoil_23 (by decide) rfl (fun c11 => ?_) (fun c11 => ?_)
    · have h := h9 c11
      refine q_iconst (n := 42) E.1 dX8_spoil_41 rfl ?_
      exact q_iret E hW h dX8_spoil_42
    · have h := h10 c11
      refine q_aload_n (n := 27) (q := 1) E.1 hl rfl dX8_spoil_26 rfl rfl ?_
      refine q_aload_n (n := 28) (q := 1) E.1 hl rfl dX8_spoil_27 rfl rfl ?_
      refine q_get (n := 31) (k := 32) (fs := (fs62 X)) (v := .ref (xA X 78)) E hW (by decide) (fun _ => rfl) K8 (by decide) w747 rfl rfl dX8_spoil_28 rfl ?_
      refine q_iload_n (n := 32) (q := 0) E.1 hl rfl dX8_spoil_31 rfl rfl ?_
      obtain ⟨g12, h⟩ := h
      refine q_iald (n := 33) E hW (by decide) (fun _ => rfl) (by decide) g12 dX8_spoil_32 rfl ?_
      refine q_callVi (n := 36) (fs := (fs62 X)) [.int (jI (M1 78 r2.toNat))] E hW hl.1 (by decide) (fun _ => rfl) K8 (c_X8_waiting l X E.2.2.1.1 (M1 78 r2.toNat)  _ _ h) (by decide) Y_RX8_201 rfl (rest := []) rfl (Nat.le_of_ble_eq_true rfl) dX8_spoil_33 rfl (fun r14 M13 H locs h hW => ?_)
      refine q_bipush (n := 38) E.1 dX8_spoil_36 (by decide) rfl ?_
      obtain ⟨g15, h16, h17⟩ := h
      refine q_icmp_ne (t := 43) (n := 41) E.1 g15 (by decide) dX8_spoil_38 (by decide) rfl (fun c18 => ?_) (fun c18 => ?_)
      · have h := h16 c18
        refine q_aload_n (n := 44) (q := 1) E.1 hl rfl dX8_spoil_43 rfl rfl ?_
        refine q_get (n := 47) (k := 30) (fs := (fs62 X)) (v := .ref (xA X 77)) E hW (by decide) (fun _ => rfl) K8 (by decide) w745 rfl rfl dX8_spoil_44 rfl ?_
        refine q_bipush (n := 49) E.1 dX8_spoil_47 (by decide) rfl ?_
        refine q_iload_n (n := 50) (q := 2) E.1 hl rfl dX8_spoil_49 rfl rfl ?_
        refine q_imul (n := 51) E.1 dX8_spoil_50 rfl ?_
        refine q_iload_n (n := 52) (q := 3) E.1 hl rfl dX8_spoil_51 rfl rfl ?_
        refine q_iadd (n := 53) E.1 dX8_spoil_52 rfl ?_
        refine q_iconst (n := 54) E.1 dX8_spoil_53 rfl ?_
        obtain ⟨g19, h⟩ := h
        refine q_zast (n := 55) E hW (by decide) (fun _ => rfl) (by decide) g19 (Or.inr rfl) dX8_spoil_54 rfl (fun H locs hW => ?_)
        refine q_aload_n (n := 56) (q := 1) E.1 hl rfl dX8_spoil_55 rfl rfl ?_
        refine q_get (n := 59) (k := 34) (fs := (fs62 X)) (v := .ref (xA X 80)) E hW (by decide) (fun _ => rfl) K8 (by decide) w749 rfl rfl dX8_spoil_56 rfl ?_
        refine q_iload_n (n := 60) (q := 0) E.1 hl rfl dX8_spoil_59 rfl rfl ?_
        refine q_iconst (n := 61) E.1 dX8_spoil_60 rfl ?_
        obtain ⟨g20, h⟩ := h
        refine q_zast (n := 62) E hW (by decide) (fun _ => rfl) (by decide) g20 (Or.inr rfl) dX8_spoil_61 rfl (fun H locs hW => ?_)
        refine q_iload_n (n := 63) (q := 0) E.1 hl rfl dX8_spoil_62 rfl rfl ?_
        exact q_iret E hW h dX8_spoil_63
      · have h := h17 c18
        refine q_iconst (n := 42) E.1 dX8_spoil_41 rfl ?_
        exact q_iret E hW h dX8_spoil_42
/-! StickerPressModel.label(II)I -/
theorem dX8_label_0 : decode cX8_label 0 = .ok (.iload_n 1, 1) := by decide +kernel
theorem dX8_label_1 : decode cX8_label 1 = .ok (.iconst 0, 1) := by decide +kernel
theorem dX8_label_2 : decode cX8_label 2 = .ok (.aload_n 0, 1) := by decide +kernel
theorem dX8_label_3 : decode cX8_label 3 = .ok (.getfield 198, 3) := by decide +kernel
theorem dX8_label_6 : decode cX8_label 6 = .ok (.iconst 1, 1) := by decide +kernel
theorem dX8_label_7 : decode cX8_label 7 = .ok (.isub, 1) := by decide +kernel
theorem dX8_label_8 : decode cX8_label 8 = .ok (.invokestatic 103, 3) := by decide +kernel
theorem dX8_label_11 : decode cX8_label 11 = .ok (.ifCond .ne 5, 3) := by decide +kernel
theorem dX8_label_14 : decode cX8_label 14 = .ok (.iconst (-1), 1) := by decide +kernel
theorem dX8_label_15 : decode cX8_label 15 = .ok (.ireturn, 1) := by decide +kernel
theorem dX8_label_16 : decode cX8_label 16 = .ok (.iload_n 2, 1) := by decide +kernel
theorem dX8_label_17 : decode cX8_label 17 = .ok (.ifCond .ne 12, 3) := by decide +kernel
theorem dX8_label_20 : decode cX8_label 20 = .ok (.aload_n 0, 1) := by decide +kernel
theorem dX8_label_21 : decode cX8_label 21 = .ok (.getfield 67, 3) := by decide +kernel
theorem dX8_label_24 : decode cX8_label 24 = .ok (.iload_n 1, 1) := by decide +kernel
theorem dX8_label_25 : decode cX8_label 25 = .ok (.iaload, 1) := by decide +kernel
theorem dX8_label_26 : decode cX8_label 26 = .ok (.goto 40, 3) := by decide +kernel
theorem dX8_label_29 : decode cX8_label 29 = .ok (.iload_n 2, 1) := by decide +kernel
theorem dX8_label_30 : decode cX8_label 30 = .ok (.iconst 1, 1) := by decide +kernel
theorem dX8_label_31 : decode cX8_label 31 = .ok (.if_icmp .ne 12, 3) := by decide +kernel
theorem dX8_label_34 : decode cX8_label 34 = .ok (.aload_n 0, 1) := by decide +kernel
theorem dX8_label_35 : decode cX8_label 35 = .ok (.getfield 70, 3) := by decide +kernel
theorem dX8_label_38 : decode cX8_label 38 = .ok (.iload_n 1, 1) := by decide +kernel
theorem dX8_label_39 : decode cX8_label 39 = .ok (.iaload, 1) := by decide +kernel
theorem dX8_label_40 : decode cX8_label 40 = .ok (.goto 26, 3) := by decide +kernel
theorem dX8_label_43 : decode cX8_label 43 = .ok (.iload_n 2, 1) := by decide +kernel
theorem dX8_label_44 : decode cX8_label 44 = .ok (.iconst 2, 1) := by decide +kernel
theorem dX8_label_45 : decode cX8_label 45 = .ok (.if_icmp .ne 20, 3) := by decide +kernel
theorem dX8_label_48 : decode cX8_label 48 = .ok (.aload_n 0, 1) := by decide +kernel
theorem dX8_label_49 : decode cX8_label 49 = .ok (.getfield 73, 3) := by decide +kernel
theorem dX8_label_52 : decode cX8_label 52 = .ok (.iload_n 1, 1) := by decide +kernel
theorem dX8_label_53 : decode cX8_label 53 = .ok (.baload, 1) := by decide +kernel
theorem dX8_label_54 : decode cX8_label 54 = .ok (.ifCond .eq 7, 3) := by decide +kernel
theorem dX8_label_57 : decode cX8_label 57 = .ok (.iconst 1, 1) := by decide +kernel
theorem dX8_label_58 : decode cX8_label 58 = .ok (.goto 8, 3) := by decide +kernel
theorem dX8_label_61 : decode cX8_label 61 = .ok (.iconst 0, 1) := by decide +kernel
theorem dX8_label_62 : decode cX8_label 62 = .ok (.goto 4, 3) := by decide +kernel
theorem dX8_label_65 : decode cX8_label 65 = .ok (.iconst (-1), 1) := by decide +kernel
theorem dX8_label_66 : decode cX8_label 66 = .ok (.ireturn, 1) := by decide +kernel
def wp_X8_label (a1 : Int) (a2 : Int) (M : Mem) (Q : Int → Mem → Prop) : Prop := wp_X8_isIn a1 0 ((M 62 31) - 1) M (fun r2 M1 => (Rg r2 ∧ (r2 ≠ 0 → (Rg a2 ∧ (a2 ≠ 0 → (Rg a2 ∧ (a2 ≠ 1 → (Rg a2 ∧ (a2 ≠ 2 → Q (-1) M1) ∧ (¬ (a2 ≠ 2) → (0 ≤ a1 ∧ a1 < 200) ∧ (Rg (M1 80 a1.toNat) ∧ ((M1 80 a1.toNat) = 0 → Q 0 M1) ∧ (¬ ((M1 80 a1.toNat) = 0) → Q 1 M1))))) ∧ (¬ (a2 ≠ 1) → (0 ≤ a1 ∧ a1 < 200) ∧ Q (M1 79 a1.toNat) M1))) ∧ (¬ (a2 ≠ 0) → (0 ≤ a1 ∧ a1 < 200) ∧ Q (M1 78 a1.toNat) M1))) ∧ (¬ (r2 ≠ 0) → Q (-1) M1)))
set_option maxHeartbeats 4000000 in
set_option maxRecDepth 100000 in
theorem c_X8_label (l : Launch) (X : Cx) (hI : Inj X) (a1 : Int) (a2 : Int) (M : Mem) (Q : Int → Mem → Prop) (h : wp_X8_label a1 a2 M Q) : MI X l yX8_label cX8_label 3 (some .int) 1 [.ref (xA X 62), .int (jI a1), .int (jI a2)] M Q := by
  refine MI.of hI (by decide) (Nat.le_of_ble_eq_true rfl) ?_
  intro p e R s m args below meth c ls E hW hl
  have E : En X (AW X) 1 p R s m args meth c cX8_label RX8 3 (some .int) 0 0 := E
  have hl : lv_has ls 3 [(0, .ref (xA X 62)), (1, .int (jI a1)), (2, .int (jI a2))] := hl
  unfold wp_X8_label at h
  refine q_iload_n (n := 1) (q := 1) E.1 hl rfl dX8_label_0 rfl rfl ?_
  refine q_iconst (n := 2) E.1 dX8_label_1 rfl ?_
  refine q_aload_n (n := 3) (q := 0) E.1 hl rfl dX8_label_2 rfl rfl ?_
  refine q_get (n := 6) (k := 31) (fs := (fs62 X)) (v := .int (jI (M 62 31))) E hW (by decide) (fun _ => rfl) K8 (by decide) w746 rfl rfl dX8_label_3 rfl ?_
  refine q_iconst (n := 7) E.1 dX8_label_6 rfl ?_
  refine q_isub (n := 8) E.1 dX8_label_7 rfl ?_
  refine q_callSi (n := 11) [.int (jI a1), .int (jI 0), .int (jI ((M 62 31) - 1))] E hW hl.1 (c_X8_isIn l X E.2.2.1.1 a1 0 ((M 62 31) - 1)  _ _ h) (by decide) Y_RX8_103 rfl (rest := []) rfl (Nat.le_of_ble_eq_true rfl) dX8_label_8 rfl (fun r2 M1 H locs h hW => ?_)
  obtain ⟨g3, h4, h5⟩ := h
  refine q_if_ne (t := 16) (n := 14) E.1 g3 dX8_label_11 (by decide) rfl (fun c6 => ?_) (fun c6 => ?_)
  · have h := h4 c6
    refine q_iload_n (n := 17) (q := 2) E.1 hl rfl dX8_label_16 rfl rfl ?_
    obtain ⟨g7, h8, h9⟩ := h
    refine q_if_ne (t := 29) (n := 20) E.1 g7 dX8_label_17 (by decide) rfl (fun c10 => ?_) (fun c10 => ?_)
    · have h := h8 c10
      refine q_iload_n (n := 30) (q := 2) E.1 hl rfl dX8_label_29 rfl rfl ?_
      refine q_iconst (n := 31) E.1 dX8_label_30 rfl ?_
      obtain ⟨g11, h12, h13⟩ := h
      refine q_icmp_ne (t := 43) (n := 34) E.1 g11 (by decide) dX8_label_31 (by decide) rfl (fun c14 => ?_) (fun c14 => ?_)
      · have h := h12 c14
        refine q_iload_n (n := 44) (q := 2) E.1 hl rfl dX8_label_43 rfl rfl ?_
        refine q_iconst (n := 45) E.1 dX8_label_44 rfl ?_
        obtain ⟨g15, h16, h17⟩ := h
        refine q_icmp_ne (t := 65) (n := 48) E.1 g15 (by decide) dX8_label_45 (by decide) rfl (fun c18 => ?_) (fun c18 => ?_)
        · have h := h16 c18
          refine q_iconst (n := 66) E.1 dX8_label_65 rfl ?_
          exact q_iret E hW h dX8_label_66
        · have h := h17 c18
          refine q_aload_n (n := 49) (q := 0) E.1 hl rfl dX8_label_48 rfl rfl ?_
          refine q_get (n := 52) (k := 34) (fs := (fs62 X)) (v := .ref (xA X 80)) E hW (by decide) (fun _ => rfl) K8 (by decide) w749 rfl rfl dX8_label_49 rfl ?_
          refine q_iload_n (n := 53) (q := 1) E.1 hl rfl dX8_label_52 rfl rfl ?_
          obtain ⟨g19, h⟩ := h
          refine q_zald (n := 54) E hW (by decide) (fun _ => rfl) (by decide) g19 dX8_label_53 rfl ?_
          obtain ⟨g20, h21, h22⟩ := h
          refine q_if_eq (t := 61) (n := 57) E.1 g20 dX8_label_54 (by decide) rfl (fun c23 => ?_) (fun c23 => ?_)
          · have h := h21 c23
            refine q_iconst (n := 62) E.1 dX8_label_61 rfl ?_
            refine q_goto (n := 66) E.1 dX8_label_62 (by decide) ?_
            exact q_iret E hW h dX8_label_66
          · have h := h22 c23
            refine q_iconst (n := 58) E.1 dX8_label_57 rfl ?_
            refine q_goto (n := 66) E.1 dX8_label_58 (by decide) ?_
            exact q_iret E hW h dX8_label_66
      · have h := h13 c14
        refine q_aload_n (n := 35) (q := 0) E.1 hl rfl dX8_label_34 rfl rfl ?_
        refine q_get (n := 38) (k := 33) (fs := (fs62 X)) (v := .ref (xA X 79)) E hW (by decide) (fun _ => rfl) K8 (by decide) w748 rfl rfl dX8_label_35 rfl ?_
        refine q_iload_n (n := 39) (q := 1) E.1 hl rfl dX8_label_38 rfl rfl ?_
        obtain ⟨g24, h⟩ := h
        refine q_iald (n := 40) E hW (by decide) (fun _ => rfl) (by decide) g24 dX8_label_39 rfl ?_
        refine q_goto (n := 66) E.1 dX8_label_40 (by decide) ?_
        exact q_iret E hW h dX8_label_66
    · have h := h9 c10
      refine q_aload_n (n := 21) (q := 0) E.1 hl rfl dX8_label_20 rfl rfl ?_
      refine q_get (n := 24) (k := 32) (fs := (fs62 X)) (v := .ref (xA X 78)) E hW (by decide) (fun _ => rfl) K8 (by decide) w747 rfl rfl dX8_label_21 rfl ?_
      refine q_iload_n (n := 25) (q := 1) E.1 hl rfl dX8_label_24 rfl rfl ?_
      obtain ⟨g25, h⟩ := h
      refine q_iald (n := 26) E hW (by decide) (fun _ => rfl) (by decide) g25 dX8_label_25 rfl ?_
      refine q_goto (n := 66) E.1 dX8_label_26 (by decide) ?_
      exact q_iret E hW h dX8_label_66
  · have h := h5 c6
    refine q_iconst (n := 15) E.1 dX8_label_14 rfl ?_
    exact q_iret E hW h dX8_label_15
end
