/-! Names -/
section
variable {X : Cx} {p : Program} {l : Launch} {e : Env} {R : Room} {s : State} {m : MethodId} {args : Array Value} {below : List Frame} {meth : Method} {c : Code}
/-! StickerPress$Names.setWidth(II)Z -/
theorem dX2_setWidth_0 : decode cX2_setWidth 0 = .ok (.iload_n 1, 1) := by decide +kernel
theorem dX2_setWidth_1 : decode cX2_setWidth 1 = .ok (.bipush 32, 2) := by decide +kernel
theorem dX2_setWidth_3 : decode cX2_setWidth 3 = .ok (.if_icmp .lt 20, 3) := by decide +kernel
theorem dX2_setWidth_6 : decode cX2_setWidth 6 = .ok (.iload_n 1, 1) := by decide +kernel
theorem dX2_setWidth_7 : decode cX2_setWidth 7 = .ok (.bipush 126, 2) := by decide +kernel
theorem dX2_setWidth_9 : decode cX2_setWidth 9 = .ok (.if_icmp .gt 14, 3) := by decide +kernel
theorem dX2_setWidth_12 : decode cX2_setWidth 12 = .ok (.iload_n 2, 1) := by decide +kernel
theorem dX2_setWidth_13 : decode cX2_setWidth 13 = .ok (.iconst 1, 1) := by decide +kernel
theorem dX2_setWidth_14 : decode cX2_setWidth 14 = .ok (.if_icmp .lt 9, 3) := by decide +kernel
theorem dX2_setWidth_17 : decode cX2_setWidth 17 = .ok (.iload_n 2, 1) := by decide +kernel
theorem dX2_setWidth_18 : decode cX2_setWidth 18 = .ok (.bipush 20, 2) := by decide +kernel
theorem dX2_setWidth_20 : decode cX2_setWidth 20 = .ok (.if_icmp .le 5, 3) := by decide +kernel
theorem dX2_setWidth_23 : decode cX2_setWidth 23 = .ok (.iconst 0, 1) := by decide +kernel
theorem dX2_setWidth_24 : decode cX2_setWidth 24 = .ok (.ireturn, 1) := by decide +kernel
theorem dX2_setWidth_25 : decode cX2_setWidth 25 = .ok (.aload_n 0, 1) := by decide +kernel
theorem dX2_setWidth_26 : decode cX2_setWidth 26 = .ok (.getfield 9, 3) := by decide +kernel
theorem dX2_setWidth_29 : decode cX2_setWidth 29 = .ok (.iload_n 1, 1) := by decide +kernel
theorem dX2_setWidth_30 : decode cX2_setWidth 30 = .ok (.bipush 32, 2) := by decide +kernel
theorem dX2_setWidth_32 : decode cX2_setWidth 32 = .ok (.isub, 1) := by decide +kernel
theorem dX2_setWidth_33 : decode cX2_setWidth 33 = .ok (.iload_n 2, 1) := by decide +kernel
theorem dX2_setWidth_34 : decode cX2_setWidth 34 = .ok (.iastore, 1) := by decide +kernel
theorem dX2_setWidth_35 : decode cX2_setWidth 35 = .ok (.iconst 1, 1) := by decide +kernel
theorem dX2_setWidth_36 : decode cX2_setWidth 36 = .ok (.ireturn, 1) := by decide +kernel
def wp_X2_setWidth (a1 : Int) (a2 : Int) (M : Mem) (Q : Int → Mem → Prop) : Prop := (Rg a1 ∧ (a1 < 32 → Q 0 M) ∧ (¬ (a1 < 32) → (Rg a1 ∧ (126 < a1 → Q 0 M) ∧ (¬ (126 < a1) → (Rg a2 ∧ (a2 < 1 → Q 0 M) ∧ (¬ (a2 < 1) → (Rg a2 ∧ (a2 ≤ 20 → (0 ≤ (a1 - 32) ∧ (a1 - 32) < 95) ∧ Q 1 (up M 44 (a1 - 32).toNat a2)) ∧ (¬ (a2 ≤ 20) → Q 0 M))))))))
set_option maxHeartbeats 4000000 in
set_option maxRecDepth 100000 in
theorem c_X2_setWidth (l : Launch) (X : Cx) (hI : Inj X) (a1 : Int) (a2 : Int) (M : Mem) (Q : Int → Mem → Prop) (h : wp_X2_setWidth a1 a2 M Q) : MI X l yX2_setWidth cX2_setWidth 3 (some .boolean) 0 [.ref (xA X 43), .int (jI a1), .int (jI a2)] M Q := by
  refine MI.of hI (by decide) (Nat.le_of_ble_eq_true rfl) ?_
  intro p e R s m args below meth c ls E hW hl
  have E : En X (AW X) 0 p R s m args meth c cX2_setWidth RX2 3 (some .boolean) 0 0 := E
  have hl : lv_has ls 3 [(0, .ref (xA X 43)), (1, .int (jI a1)), (2, .int (jI a2))] := hl
  unfold wp_X2_setWidth at h
  refine q_iload_n (n := 1) (q := 1) E.1 hl rfl dX2_setWidth_0 rfl rfl ?_
  refine q_bipush (n := 3) E.1 dX2_setWidth_1 (by decide) rfl ?_
  obtain ⟨g1, h2, h3⟩ := h
  refine q_icmp_lt (t := 23) (n := 6) E.1 g1 (by decide) dX2_setWidth_3 (by decide) rfl (fun c4 => ?_) (fun c4 => ?_)
  · have h := h2 c4
    refine q_iconst (n := 24) E.1 dX2_setWidth_23 rfl ?_
    exact q_zret E hW (Or.inl rfl) h dX2_setWidth_24
  · have h := h3 c4
    refine q_iload_n (n := 7) (q := 1) E.1 hl rfl dX2_setWidth_6 rfl rfl ?_
    refine q_bipush (n := 9) E.1 dX2_setWidth_7 (by decide) rfl ?_
    obtain ⟨g5, h6, h7⟩ := h
    refine q_icmp_gt (t := 23) (n := 12) E.1 g5 (by decide) dX2_setWidth_9 (by decide) rfl (fun c8 => ?_) (fun c8 => ?_)
    · have h := h6 c8
      refine q_iconst (n := 24) E.1 dX2_setWidth_23 rfl ?_
      exact q_zret E hW (Or.inl rfl) h dX2_setWidth_24
    · have h := h7 c8
      refine q_iload_n (n := 13) (q := 2) E.1 hl rfl dX2_setWidth_12 rfl rfl ?_
      refine q_iconst (n := 14) E.1 dX2_setWidth_13 rfl ?_
      obtain ⟨g9, h10, h11⟩ := h
      refine q_icmp_lt (t := 23) (n := 17) E.1 g9 (by decide) dX2_setWidth_14 (by decide) rfl (fun c12 => ?_) (fun c12 => ?_)
      · have h := h10 c12
        refine q_iconst (n := 24) E.1 dX2_setWidth_23 rfl ?_
        exact q_zret E hW (Or.inl rfl) h dX2_setWidth_24
      · have h := h11 c12
        refine q_iload_n (n := 18) (q := 2) E.1 hl rfl dX2_setWidth_17 rfl rfl ?_
        refine q_bipush (n := 20) E.1 dX2_setWidth_18 (by decide) rfl ?_
        obtain ⟨g13, h14, h15⟩ := h
        refine q_icmp_le (t := 25) (n := 23) E.1 g13 (by decide) dX2_setWidth_20 (by decide) rfl (fun c16 => ?_) (fun c16 => ?_)
        · have h := h14 c16
          refine q_aload_n (n := 26) (q := 0) E.1 hl rfl dX2_setWidth_25 rfl rfl ?_
          refine q_get (n := 29) (k := 0) (fs := (fs43 X)) (v := .ref (xA X 44)) E hW (by decide) (fun _ => rfl) K2 (by decide) w89 rfl rfl dX2_setWidth_26 rfl ?_
          refine q_iload_n (n := 30) (q := 1) E.1 hl rfl dX2_setWidth_29 rfl rfl ?_
          refine q_bipush (n := 32) E.1 dX2_setWidth_30 (by decide) rfl ?_
          refine q_isub (n := 33) E.1 dX2_setWidth_32 rfl ?_
          refine q_iload_n (n := 34) (q := 2) E.1 hl rfl dX2_setWidth_33 rfl rfl ?_
          obtain ⟨g17, h⟩ := h
          refine q_iast (n := 35) E hW (by decide) (fun _ => rfl) (by decide) g17 dX2_setWidth_34 rfl (fun H locs hW => ?_)
          refine q_iconst (n := 36) E.1 dX2_setWidth_35 rfl ?_
          exact q_zret E hW (Or.inr rfl) h dX2_setWidth_36
        · have h := h15 c16
          refine q_iconst (n := 24) E.1 dX2_setWidth_23 rfl ?_
          exact q_zret E hW (Or.inl rfl) h dX2_setWidth_24
/-! StickerPress$Names.areSigns(LStickerPress$Row;)Z -/
theorem dX2_areSigns_0 : decode cX2_areSigns 0 = .ok (.aload_n 0, 1) := by decide +kernel
theorem dX2_areSigns_1 : decode cX2_areSigns 1 = .ok (.bipush 32, 2) := by decide +kernel
theorem dX2_areSigns_3 : decode cX2_areSigns 3 = .ok (.bipush 126, 2) := by decide +kernel
theorem dX2_areSigns_5 : decode cX2_areSigns 5 = .ok (.invokevirtual 95, 3) := by decide +kernel
theorem dX2_areSigns_8 : decode cX2_areSigns 8 = .ok (.ireturn, 1) := by decide +kernel
theorem Y_RX2_95 : YV RX2 95 RX4 yX4_allWithin cX4_allWithin 4 (some .boolean) 2 := ⟨w318, w315, w316, w317, w44, by decide +kernel, by decide⟩
def wp_X2_areSigns (a0 : Nat) (M : Mem) (Q : Int → Mem → Prop) : Prop := wp_X4_allWithin a0 32 126 M (fun r2 M1 => ((r2 = 0 ∨ r2 = 1) ∧ Q r2 M1))
set_option maxHeartbeats 4000000 in
set_option maxRecDepth 100000 in
theorem c_X2_areSigns (l : Launch) (X : Cx) (hI : Inj X) (a0 : Nat) (ha0 : isRow a0) (M : Mem) (Q : Int → Mem → Prop) (h : wp_X2_areSigns a0 M Q) : MI X l yX2_areSigns cX2_areSigns 1 (some .boolean) 2 [.ref (xA X a0)] M Q := by
  refine MI.of hI (by decide) (Nat.le_of_ble_eq_true rfl) ?_
  intro p e R s m args below meth c ls E hW hl
  have E : En X (AW X) 2 p R s m args meth c cX2_areSigns RX2 1 (some .boolean) 0 0 := E
  have hl : lv_has ls 1 [(0, .ref (xA X a0))] := hl
  unfold wp_X2_areSigns at h
  refine q_aload_n (n := 1) (q := 0) E.1 hl rfl dX2_areSigns_0 rfl rfl ?_
  refine q_bipush (n := 3) E.1 dX2_areSigns_1 (by decide) rfl ?_
  refine q_bipush (n := 5) E.1 dX2_areSigns_3 (by decide) rfl ?_
  refine q_callVi (n := 8) (fs := (fsRow X a0)) [.int (jI 32), .int (jI 126)] E hW hl.1 (isRow_lt ha0) (ent_row X ha0) K4 (c_X4_allWithin l X E.2.2.1.1 a0 32 126 ha0 _ _ h) (by decide) Y_RX2_95 rfl (rest := []) rfl (Nat.le_of_ble_eq_true rfl) dX2_areSigns_5 rfl (fun r2 M1 H locs h hW => ?_)
  exact q_zret E hW h.1 h.2 dX2_areSigns_8
/-! StickerPress$Names.areShortening(LStickerPress$Row;I)Z -/
theorem dX2_areShortening_0 : decode cX2_areShortening 0 = .ok (.iload_n 1, 1) := by decide +kernel
theorem dX2_areShortening_1 : decode cX2_areShortening 1 = .ok (.iconst 1, 1) := by decide +kernel
theorem dX2_areShortening_2 : decode cX2_areShortening 2 = .ok (.if_icmp .lt 39, 3) := by decide +kernel
theorem dX2_areShortening_5 : decode cX2_areShortening 5 = .ok (.iload_n 1, 1) := by decide +kernel
theorem dX2_areShortening_6 : decode cX2_areShortening 6 = .ok (.bipush 6, 2) := by decide +kernel
theorem dX2_areShortening_8 : decode cX2_areShortening 8 = .ok (.if_icmp .gt 33, 3) := by decide +kernel
theorem dX2_areShortening_11 : decode cX2_areShortening 11 = .ok (.iload_n 1, 1) := by decide +kernel
theorem dX2_areShortening_12 : decode cX2_areShortening 12 = .ok (.aload_n 0, 1) := by decide +kernel
theorem dX2_areShortening_13 : decode cX2_areShortening 13 = .ok (.invokevirtual 41, 3) := by decide +kernel
theorem dX2_areShortening_16 : decode cX2_areShortening 16 = .ok (.if_icmp .gt 25, 3) := by decide +kernel
theorem dX2_areShortening_19 : decode cX2_areShortening 19 = .ok (.aload_n 0, 1) := by decide +kernel
theorem dX2_areShortening_20 : decode cX2_areShortening 20 = .ok (.invokevirtual 41, 3) := by decide +kernel
theorem dX2_areShortening_23 : decode cX2_areShortening 23 = .ok (.iload_n 1, 1) := by decide +kernel
theorem dX2_areShortening_24 : decode cX2_areShortening 24 = .ok (.isub, 1) := by decide +kernel
theorem dX2_areShortening_25 : decode cX2_areShortening 25 = .ok (.bipush 6, 2) := by decide +kernel
theorem dX2_areShortening_27 : decode cX2_areShortening 27 = .ok (.if_icmp .gt 14, 3) := by decide +kernel
theorem dX2_areShortening_30 : decode cX2_areShortening 30 = .ok (.aload_n 0, 1) := by decide +kernel
theorem dX2_areShortening_31 : decode cX2_areShortening 31 = .ok (.invokestatic 56, 3) := by decide +kernel
theorem dX2_areShortening_34 : decode cX2_areShortening 34 = .ok (.ifCond .eq 7, 3) := by decide +kernel
theorem dX2_areShortening_37 : decode cX2_areShortening 37 = .ok (.iconst 1, 1) := by decide +kernel
theorem dX2_areShortening_38 : decode cX2_areShortening 38 = .ok (.goto 4, 3) := by decide +kernel
theorem dX2_areShortening_41 : decode cX2_areShortening 41 = .ok (.iconst 0, 1) := by decide +kernel
theorem dX2_areShortening_42 : decode cX2_areShortening 42 = .ok (.ireturn, 1) := by decide +kernel
theorem Y_RX2_41 : YV RX2 41 RX4 yX4_size cX4_size 1 (some .int) 0 := ⟨w283, w308, w281, w282, w44, by decide +kernel, by decide⟩
theorem Y_RX2_56 : YS RX2 56 yX2_areSigns cX2_areSigns 1 (some .boolean) 1 := ⟨w314, w312, w313, w46, by decide +kernel, by decide⟩
def wp_X2_areShortening (a0 : Nat) (a1 : Int) (M : Mem) (Q : Int → Mem → Prop) : Prop := (Rg a1 ∧ (a1 < 1 → Q 0 M) ∧ (¬ (a1 < 1) → (Rg a1 ∧ (6 < a1 → Q 0 M) ∧ (¬ (6 < a1) → wp_X4_size a0 M (fun r10 M9 => (Rg a1 ∧ Rg r10 ∧ (r10 < a1 → Q 0 M9) ∧ (¬ (r10 < a1) → wp_X4_size a0 M9 (fun r17 M16 => (Rg (r17 - a1) ∧ (6 < (r17 - a1) → Q 0 M16) ∧ (¬ (6 < (r17 - a1)) → wp_X2_areSigns a0 M16 (fun r23 M22 => (Rg r23 ∧ (r23 = 0 → Q 0 M22) ∧ (¬ (r23 = 0) → Q 1 M22)))))))))))))
set_option maxHeartbeats 4000000 in
set_option maxRecDepth 100000 in
theorem c_X2_areShortening (l : Launch) (X : Cx) (hI : Inj X) (a0 : Nat) (a1 : Int) (ha0 : isRow a0) (M : Mem) (Q : Int → Mem → Prop) (h : wp_X2_areShortening a0 a1 M Q) : MI X l yX2_areShortening cX2_areShortening 2 (some .boolean) 3 [.ref (xA X a0), .int (jI a1)] M Q := by
  refine MI.of hI (by decide) (Nat.le_of_ble_eq_true rfl) ?_
  intro p e R s m args below meth c ls E hW hl
  have E : En X (AW X) 3 p R s m args meth c cX2_areShortening RX2 2 (some .boolean) 0 0 := E
  have hl : lv_has ls 2 [(0, .ref (xA X a0)), (1, .int (jI a1))] := hl
  unfold wp_X2_areShortening at h
  refine q_iload_n (n := 1) (q := 1) E.1 hl rfl dX2_areShortening_0 rfl rfl ?_
  refine q_iconst (n := 2) E.1 dX2_areShortening_1 rfl ?_
  obtain ⟨g1, h2, h3⟩ := h
  refine q_icmp_lt (t := 41) (n := 5) E.1 g1 (by decide) dX2_areShortening_2 (by decide) rfl (fun c4 => ?_) (fun c4 => ?_)
  · have h := h2 c4
    refine q_iconst (n := 42) E.1 dX2_areShortening_41 rfl ?_
    exact q_zret E hW (Or.inl rfl) h dX2_areShortening_42
  · have h := h3 c4
    refine q_iload_n (n := 6) (q := 1) E.1 hl rfl dX2_areShortening_5 rfl rfl ?_
    refine q_bipush (n := 8) E.1 dX2_areShortening_6 (by decide) rfl ?_
    obtain ⟨g5, h6, h7⟩ := h
    refine q_icmp_gt (t := 41) (n := 11) E.1 g5 (by decide) dX2_areShortening_8 (by decide) rfl (fun c8 => ?_) (fun c8 => ?_)
    · have h := h6 c8
      refine q_iconst (n := 42) E.1 dX2_areShortening_41 rfl ?_
      exact q_zret E hW (Or.inl rfl) h dX2_areShortening_42
    · have h := h7 c8
      refine q_iload_n (n := 12) (q := 1) E.1 hl rfl dX2_areShortening_11 rfl rfl ?_
      refine q_aload_n (n := 13) (q := 0) E.1 hl rfl dX2_areShortening_12 rfl rfl ?_
      refine q_callVi (n := 16) (fs := (fsRow X a0)) [] E hW hl.1 (isRow_lt ha0) (ent_row X ha0) K4 (c_X4_size l X E.2.2.1.1 a0 ha0 _ _ h) (by decide) Y_RX2_41 rfl (rest := [.int (jI a1)]) rfl (Nat.le_of_ble_eq_true rfl) dX2_areShortening_13 rfl (fun r10 M9 H locs h hW => ?_)
      obtain ⟨g11, g12, h13, h14⟩ := h
      refine q_icmp_gt (t := 41) (n := 19) E.1 g11 g12 dX2_areShortening_16 (by decide) rfl (fun c15 => ?_) (fun c15 => ?_)
      · have h := h13 c15
        refine q_iconst (n := 42) E.1 dX2_areShortening_41 rfl ?_
        exact q_zret E hW (Or.inl rfl) h dX2_areShortening_42
      · have h := h14 c15
        refine q_aload_n (n := 20) (q := 0) E.1 hl rfl dX2_areShortening_19 rfl rfl ?_
        refine q_callVi (n := 23) (fs := (fsRow X a0)) [] E hW hl.1 (isRow_lt ha0) (ent_row X ha0) K4 (c_X4_size l X E.2.2.1.1 a0 ha0 _ _ h) (by decide) Y_RX2_41 rfl (rest := []) rfl (Nat.le_of_ble_eq_true rfl) dX2_areShortening_20 rfl (fun r17 M16 H locs h hW => ?_)
        refine q_iload_n (n := 24) (q := 1) E.1 hl rfl dX2_areShortening_23 rfl rfl ?_
        refine q_isub (n := 25) E.1 dX2_areShortening_24 rfl ?_
        refine q_bipush (n := 27) E.1 dX2_areShortening_25 (by decide) rfl ?_
        obtain ⟨g18, h19, h20⟩ := h
        refine q_icmp_gt (t := 41) (n := 30) E.1 g18 (by decide) dX2_areShortening_27 (by decide) rfl (fun c21 => ?_) (fun c21 => ?_)
        · have h := h19 c21
          refine q_iconst (n := 42) E.1 dX2_areShortening_41 rfl ?_
          exact q_zret E hW (Or.inl rfl) h dX2_areShortening_42
        · have h := h20 c21
          refine q_aload_n (n := 31) (q := 0) E.1 hl rfl dX2_areShortening_30 rfl rfl ?_
          refine q_callSi (n := 34) [.ref (xA X a0)] E hW hl.1 (c_X2_areSigns l X E.2.2.1.1 a0 ha0 _ _ h) (by decide) Y_RX2_56 rfl (rest := []) rfl (Nat.le_of_ble_eq_true rfl) dX2_areShortening_31 rfl (fun r23 M22 H locs h hW => ?_)
          obtain ⟨g24, h25, h26⟩ := h
          refine q_if_eq (t := 41) (n := 37) E.1 g24 dX2_areShortening_34 (by decide) rfl (fun c27 => ?_) (fun c27 => ?_)
          · have h := h25 c27
            refine q_iconst (n := 42) E.1 dX2_areShortening_41 rfl ?_
            exact q_zret E hW (Or.inl rfl) h dX2_areShortening_42
          · have h := h26 c27
            refine q_iconst (n := 38) E.1 dX2_areShortening_37 rfl ?_
            refine q_goto (n := 42) E.1 dX2_areShortening_38 (by decide) ?_
            exact q_zret E hW (Or.inr rfl) h dX2_areShortening_42
/-! StickerPress$Names.setShortening(ILStickerPress$Row;I)Z -/
theorem dX2_setShortening_0 : decode cX2_setShortening 0 = .ok (.iload_n 1, 1) := by decide +kernel
theorem dX2_setShortening_1 : decode cX2_setShortening 1 = .ok (.ifCond .lt 9, 3) := by decide +kernel
theorem dX2_setShortening_4 : decode cX2_setShortening 4 = .ok (.iload_n 1, 1) := by decide +kernel
theorem dX2_setShortening_5 : decode cX2_setShortening 5 = .ok (.bipush 6, 2) := by decide +kernel
theorem dX2_setShortening_7 : decode cX2_setShortening 7 = .ok (.if_icmp .lt 5, 3) := by decide +kernel
theorem dX2_setShortening_10 : decode cX2_setShortening 10 = .ok (.iconst 0, 1) := by decide +kernel
theorem dX2_setShortening_11 : decode cX2_setShortening 11 = .ok (.ireturn, 1) := by decide +kernel
theorem dX2_setShortening_12 : decode cX2_setShortening 12 = .ok (.iload_n 3, 1) := by decide +kernel
theorem dX2_setShortening_13 : decode cX2_setShortening 13 = .ok (.ifCond .ne 26, 3) := by decide +kernel
theorem dX2_setShortening_16 : decode cX2_setShortening 16 = .ok (.aload_n 2, 1) := by decide +kernel
theorem dX2_setShortening_17 : decode cX2_setShortening 17 = .ok (.invokevirtual 41, 3) := by decide +kernel
theorem dX2_setShortening_20 : decode cX2_setShortening 20 = .ok (.ifCond .ne 19, 3) := by decide +kernel
theorem dX2_setShortening_23 : decode cX2_setShortening 23 = .ok (.aload_n 0, 1) := by decide +kernel
theorem dX2_setShortening_24 : decode cX2_setShortening 24 = .ok (.dup, 1) := by decide +kernel
theorem dX2_setShortening_25 : decode cX2_setShortening 25 = .ok (.getfield 34, 3) := by decide +kernel
theorem dX2_setShortening_28 : decode cX2_setShortening 28 = .ok (.iconst 1, 1) := by decide +kernel
theorem dX2_setShortening_29 : decode cX2_setShortening 29 = .ok (.iload_n 1, 1) := by decide +kernel
theorem dX2_setShortening_30 : decode cX2_setShortening 30 = .ok (.ishl, 1) := by decide +kernel
theorem dX2_setShortening_31 : decode cX2_setShortening 31 = .ok (.iconst (-1), 1) := by decide +kernel
theorem dX2_setShortening_32 : decode cX2_setShortening 32 = .ok (.ixor, 1) := by decide +kernel
theorem dX2_setShortening_33 : decode cX2_setShortening 33 = .ok (.iand, 1) := by decide +kernel
theorem dX2_setShortening_34 : decode cX2_setShortening 34 = .ok (.putfield 34, 3) := by decide +kernel
theorem dX2_setShortening_37 : decode cX2_setShortening 37 = .ok (.iconst 1, 1) := by decide +kernel
theorem dX2_setShortening_38 : decode cX2_setShortening 38 = .ok (.ireturn, 1) := by decide +kernel
theorem dX2_setShortening_39 : decode cX2_setShortening 39 = .ok (.aload_n 2, 1) := by decide +kernel
theorem dX2_setShortening_40 : decode cX2_setShortening 40 = .ok (.iload_n 3, 1) := by decide +kernel
theorem dX2_setShortening_41 : decode cX2_setShortening 41 = .ok (.invokestatic 45, 3) := by decide +kernel
theorem dX2_setShortening_44 : decode cX2_setShortening 44 = .ok (.ifCond .ne 5, 3) := by decide +kernel
theorem dX2_setShortening_47 : decode cX2_setShortening 47 = .ok (.iconst 0, 1) := by decide +kernel
theorem dX2_setShortening_48 : decode cX2_setShortening 48 = .ok (.ireturn, 1) := by decide +kernel
theorem dX2_setShortening_49 : decode cX2_setShortening 49 = .ok (.aload_n 0, 1) := by decide +kernel
theorem dX2_setShortening_50 : decode cX2_setShortening 50 = .ok (.getfield 17, 3) := by decide +kernel
theorem dX2_setShortening_53 : decode cX2_setShortening 53 = .ok (.iload_n 1, 1) := by decide +kernel
theorem dX2_setShortening_54 : decode cX2_setShortening 54 = .ok (.aaload, 1) := by decide +kernel
theorem dX2_setShortening_55 : decode cX2_setShortening 55 = .ok (.invokevirtual 49, 3) := by decide +kernel
theorem dX2_setShortening_58 : decode cX2_setShortening 58 = .ok (.aload_n 0, 1) := by decide +kernel
theorem dX2_setShortening_59 : decode cX2_setShortening 59 = .ok (.getfield 17, 3) := by decide +kernel
theorem dX2_setShortening_62 : decode cX2_setShortening 62 = .ok (.iload_n 1, 1) := by decide +kernel
theorem dX2_setShortening_63 : decode cX2_setShortening 63 = .ok (.aaload, 1) := by decide +kernel
theorem dX2_setShortening_64 : decode cX2_setShortening 64 = .ok (.aload_n 2, 1) := by decide +kernel
theorem dX2_setShortening_65 : decode cX2_setShortening 65 = .ok (.iconst 0, 1) := by decide +kernel
theorem dX2_setShortening_66 : decode cX2_setShortening 66 = .ok (.iload_n 3, 1) := by decide +kernel
theorem dX2_setShortening_67 : decode cX2_setShortening 67 = .ok (.invokevirtual 52, 3) := by decide +kernel
theorem dX2_setShortening_70 : decode cX2_setShortening 70 = .ok (.pop, 1) := by decide +kernel
theorem dX2_setShortening_71 : decode cX2_setShortening 71 = .ok (.aload_n 0, 1) := by decide +kernel
theorem dX2_setShortening_72 : decode cX2_setShortening 72 = .ok (.getfield 21, 3) := by decide +kernel
theorem dX2_setShortening_75 : decode cX2_setShortening 75 = .ok (.iload_n 1, 1) := by decide +kernel
theorem dX2_setShortening_76 : decode cX2_setShortening 76 = .ok (.aaload, 1) := by decide +kernel
theorem dX2_setShortening_77 : decode cX2_setShortening 77 = .ok (.invokevirtual 49, 3) := by decide +kernel
theorem dX2_setShortening_80 : decode cX2_setShortening 80 = .ok (.aload_n 0, 1) := by decide +kernel
theorem dX2_setShortening_81 : decode cX2_setShortening 81 = .ok (.getfield 21, 3) := by decide +kernel
theorem dX2_setShortening_84 : decode cX2_setShortening 84 = .ok (.iload_n 1, 1) := by decide +kernel
theorem dX2_setShortening_85 : decode cX2_setShortening 85 = .ok (.aaload, 1) := by decide +kernel
theorem dX2_setShortening_86 : decode cX2_setShortening 86 = .ok (.aload_n 2, 1) := by decide +kernel
theorem dX2_setShortening_87 : decode cX2_setShortening 87 = .ok (.iload_n 3, 1) := by decide +kernel
theorem dX2_setShortening_88 : decode cX2_setShortening 88 = .ok (.aload_n 2, 1) := by decide +kernel
theorem dX2_setShortening_89 : decode cX2_setShortening 89 = .ok (.invokevirtual 41, 3) := by decide +kernel
theorem dX2_setShortening_92 : decode cX2_setShortening 92 = .ok (.invokevirtual 52, 3) := by decide +kernel
theorem dX2_setShortening_95 : decode cX2_setShortening 95 = .ok (.pop, 1) := by decide +kernel
theorem dX2_setShortening_96 : decode cX2_setShortening 96 = .ok (.aload_n 0, 1) := by decide +kernel
theorem dX2_setShortening_97 : decode cX2_setShortening 97 = .ok (.dup, 1) := by decide +kernel
theorem dX2_setShortening_98 : decode cX2_setShortening 98 = .ok (.getfield 34, 3) := by decide +kernel
theorem dX2_setShortening_101 : decode cX2_setShortening 101 = .ok (.iconst 1, 1) := by decide +kernel
theorem dX2_setShortening_102 : decode cX2_setShortening 102 = .ok (.iload_n 1, 1) := by decide +kernel
theorem dX2_setShortening_103 : decode cX2_setShortening 103 = .ok (.ishl, 1) := by decide +kernel
theorem dX2_setShortening_104 : decode cX2_setShortening 104 = .ok (.ior, 1) := by decide +kernel
theorem dX2_setShortening_105 : decode cX2_setShortening 105 = .ok (.putfield 34, 3) := by decide +kernel
theorem dX2_setShortening_108 : decode cX2_setShortening 108 = .ok (.iconst 1, 1) := by decide +kernel
theorem dX2_setShortening_109 : decode cX2_setShortening 109 = .ok (.ireturn, 1) := by decide +kernel
theorem Y_RX2_45 : YS RX2 45 yX2_areShortening cX2_areShortening 2 (some .boolean) 2 := ⟨w311, w309, w310, w46, by decide +kernel, by decide⟩
theorem Y_RX2_49 : YV RX2 49 RX4 yX4_clear cX4_clear 1 none 0 := ⟨w326, w323, w324, w325, w44, by decide +kernel, by decide⟩
theorem Y_RX2_52 : YV RX2 52 RX4 yX4_addPart cX4_addPart 5 (some .boolean) 3 := ⟨w330, w327, w328, w329, w44, by decide +kernel, by decide⟩
def wp_X2_setShortening_39 (a1 : Int) (a2 : Nat) (a3 : Int) (Q : Int → Mem → Prop) (M : Mem) : Prop := wp_X2_areShortening a2 a3 M (fun r2 M1 => (Rg r2 ∧ (r2 ≠ 0 → (0 ≤ a1 ∧ a1 < 6) ∧ wp_X4_clear (4 + 2 * a1.toNat) M1 (fun M9 => (0 ≤ a1 ∧ a1 < 6) ∧ wp_X4_addPart (4 + 2 * a1.toNat) a2 0 a3 M9 (fun r13 M12 => (0 ≤ a1 ∧ a1 < 6) ∧ wp_X4_clear (16 + 2 * a1.toNat) M12 (fun M16 => (0 ≤ a1 ∧ a1 < 6) ∧ wp_X4_size a2 M16 (fun r20 M19 => wp_X4_addPart (16 + 2 * a1.toNat) a2 a3 r20 M19 (fun r22 M21 => Q 1 (up M21 43 5 (bOr (M21 43 5) (bShl 1 a1))))))))) ∧ (¬ (r2 ≠ 0) → Q 0 M1)))
set_option maxHeartbeats 4000000 in
set_option maxRecDepth 100000 in
theorem v_X2_setShortening_39 (a1 : Int) (a2 : Nat) (a3 : Int) (ha2 : isRow a2) (E : En X (AW X) 4 p R s m args meth c cX2_setShortening RX2 4 (some .boolean) 0 0) (Q : Int → Mem → Prop) : ∀ (M : Mem) (H : Heap) (locs : List Loc) (ls : Array Slot), wp_X2_setShortening_39 a1 a2 a3 Q M → Wd X (AW X) s M H locs → lv_has ls 4 [(0, .ref (xA X 43)), (1, .int (jI a1)), (2, .ref (xA X a2)), (3, .int (jI a3))] → W p l e R s m args below meth c H locs 0 0 (MQ below (QI X Q) args s 0 0 (AW X)) (F0 m 39 ls []) := by
  intro M H locs ls h hW hl
  unfold wp_X2_setShortening_39 at h
  refine q_aload_n (n := 40) (q := 2) E.1 hl rfl dX2_setShortening_39 rfl rfl ?_
  refine q_iload_n (n := 41) (q := 3) E.1 hl rfl dX2_setShortening_40 rfl rfl ?_
  refine q_callSi (n := 44) [.ref (xA X a2), .int (jI a3)] E hW hl.1 (c_X2_areShortening l X E.2.2.1.1 a2 a3 ha2 _ _ h) (by decide) Y_RX2_45 rfl (rest := []) rfl (Nat.le_of_ble_eq_true rfl) dX2_setShortening_41 rfl (fun r2 M1 H locs h hW => ?_)
  obtain ⟨g3, h4, h5⟩ := h
  refine q_if_ne (t := 49) (n := 47) E.1 g3 dX2_setShortening_44 (by decide) rfl (fun c6 => ?_) (fun c6 => ?_)
  · have h := h4 c6
    refine q_aload_n (n := 50) (q := 0) E.1 hl rfl dX2_setShortening_49 rfl rfl ?_
    refine q_get (n := 53) (k := 1) (fs := (fs43 X)) (v := .ref (xA X 45)) E hW (by decide) (fun _ => rfl) K2 (by decide) w90 rfl rfl dX2_setShortening_50 rfl ?_
    refine q_iload_n (n := 54) (q := 1) E.1 hl rfl dX2_setShortening_53 rfl rfl ?_
    obtain ⟨g7, h⟩ := h
    refine q_aald (n := 55) (f := fun j => 4 + 2 * j) E hW (by decide) (fun _ => rfl) (by decide) g7 dX2_setShortening_54 rfl ?_
    have hw8 : isRow (4 + 2 * a1.toNat) := ⟨by omega, by omega⟩
    refine q_callVv (n := 58) (fs := (fsRow X (4 + 2 * a1.toNat))) [] E hW hl.1 (isRow_lt hw8) (ent_row X hw8) K4 (c_X4_clear l X E.2.2.1.1 (4 + 2 * a1.toNat) hw8 _ _ h) (by decide) Y_RX2_49 rfl (rest := []) rfl (Nat.le_of_ble_eq_true rfl) dX2_setShortening_55 rfl (fun M9 H locs h hW => ?_)
    refine q_aload_n (n := 59) (q := 0) E.1 hl rfl dX2_setShortening_58 rfl rfl ?_
    refine q_get (n := 62) (k := 1) (fs := (fs43 X)) (v := .ref (xA X 45)) E hW (by decide) (fun _ => rfl) K2 (by decide) w90 rfl rfl dX2_setShortening_59 rfl ?_
    refine q_iload_n (n := 63) (q := 1) E.1 hl rfl dX2_setShortening_62 rfl rfl ?_
    obtain ⟨g10, h⟩ := h
    refine q_aald (n := 64) (f := fun j => 4 + 2 * j) E hW (by decide) (fun _ => rfl) (by decide) g10 dX2_setShortening_63 rfl ?_
    have hw11 : isRow (4 + 2 * a1.toNat) := ⟨by omega, by omega⟩
    refine q_aload_n (n := 65) (q := 2) E.1 hl rfl dX2_setShortening_64 rfl rfl ?_
    refine q_iconst (n := 66) E.1 dX2_setShortening_65 rfl ?_
    refine q_iload_n (n := 67) (q := 3) E.1 hl rfl dX2_setShortening_66 rfl rfl ?_
    refine q_callVi (n := 70) (fs := (fsRow X (4 + 2 * a1.toNat))) [.ref (xA X a2), .int (jI 0), .int (jI a3)] E hW hl.1 (isRow_lt hw11) (ent_row X hw11) K4 (c_X4_addPart l X E.2.2.1.1 (4 + 2 * a1.toNat) a2 0 a3 hw11 ha2 _ _ h) (by decide) Y_RX2_52 rfl (rest := []) rfl (Nat.le_of_ble_eq_true rfl) dX2_setShortening_67 rfl (fun r13 M12 H locs h hW => ?_)
    refine q_pop (n := 71) E.1 dX2_setShortening_70 rfl rfl ?_
    refine q_aload_n (n := 72) (q := 0) E.1 hl rfl dX2_setShortening_71 rfl rfl ?_
    refine q_get (n := 75) (k := 2) (fs := (fs43 X)) (v := .ref (xA X 46)) E hW (by decide) (fun _ => rfl) K2 (by decide) w91 rfl rfl dX2_setShortening_72 rfl ?_
    refine q_iload_n (n := 76) (q := 1) E.1 hl rfl dX2_setShortening_75 rfl rfl ?_
    obtain ⟨g14, h⟩ := h
    refine q_aald (n := 77) (f := fun j => 16 + 2 * j) E hW (by decide) (fun _ => rfl) (by decide) g14 dX2_setShortening_76 rfl ?_
    have hw15 : isRow (16 + 2 * a1.toNat) := ⟨by omega, by omega⟩
    refine q_callVv (n := 80) (fs := (fsRow X (16 + 2 * a1.toNat))) [] E hW hl.1 (isRow_lt hw15) (ent_row X hw15) K4 (c_X4_clear l X E.2.2.1.1 (16 + 2 * a1.toNat) hw15 _ _ h) (by decide) Y_RX2_49 rfl (rest := []) rfl (Nat.le_of_ble_eq_true rfl) dX2_setShortening_77 rfl (fun M16 H locs h hW => ?_)
    refine q_aload_n (n := 81) (q := 0) E.1 hl rfl dX2_setShortening_80 rfl rfl ?_
    refine q_get (n := 84) (k := 2) (fs := (fs43 X)) (v := .ref (xA X 46)) E hW (by decide) (fun _ => rfl) K2 (by decide) w91 rfl rfl dX2_setShortening_81 rfl ?_
    refine q_iload_n (n := 85) (q := 1) E.1 hl rfl dX2_setShortening_84 rfl rfl ?_
    obtain ⟨g17, h⟩ := h
    refine q_aald (n := 86) (f := fun j => 16 + 2 * j) E hW (by decide) (fun _ => rfl) (by decide) g17 dX2_setShortening_85 rfl ?_
    have hw18 : isRow (16 + 2 * a1.toNat) := ⟨by omega, by omega⟩
    refine q_aload_n (n := 87) (q := 2) E.1 hl rfl dX2_setShortening_86 rfl rfl ?_
    refine q_iload_n (n := 88) (q := 3) E.1 hl rfl dX2_setShortening_87 rfl rfl ?_
    refine q_aload_n (n := 89) (q := 2) E.1 hl rfl dX2_setShortening_88 rfl rfl ?_
    refine q_callVi (n := 92) (fs := (fsRow X a2)) [] E hW hl.1 (isRow_lt ha2) (ent_row X ha2) K4 (c_X4_size l X E.2.2.1.1 a2 ha2 _ _ h) (by decide) Y_RX2_41 rfl (rest := [.int (jI a3), .ref (xA X a2), .ref (xA X (16 + 2 * a1.toNat))]) rfl (Nat.le_of_ble_eq_true rfl) dX2_setShortening_89 rfl (fun r20 M19 H locs h hW => ?_)
    refine q_callVi (n := 95) (fs := (fsRow X (16 + 2 * a1.toNat))) [.ref (xA X a2), .int (jI a3), .int (jI r20)] E hW hl.1 (isRow_lt hw18) (ent_row X hw18) K4 (c_X4_addPart l X E.2.2.1.1 (16 + 2 * a1.toNat) a2 a3 r20 hw18 ha2 _ _ h) (by decide) Y_RX2_52 rfl (rest := []) rfl (Nat.le_of_ble_eq_true rfl) dX2_setShortening_92 rfl (fun r22 M21 H locs h hW => ?_)
    refine q_pop (n := 96) E.1 dX2_setShortening_95 rfl rfl ?_
    refine q_aload_n (n := 97) (q := 0) E.1 hl rfl dX2_setShortening_96 rfl rfl ?_
    refine q_dup (n := 98) E.1 dX2_setShortening_97 rfl rfl ?_
    refine q_get (n := 101) (k := 5) (fs := (fs43 X)) (v := .int (jI (M21 43 5))) E hW (by decide) (fun _ => rfl) K2 (by decide) w94 rfl rfl dX2_setShortening_98 rfl ?_
    refine q_iconst (n := 102) E.1 dX2_setShortening_101 rfl ?_
    refine q_iload_n (n := 103) (q := 1) E.1 hl rfl dX2_setShortening_102 rfl rfl ?_
    refine q_ishl (n := 104) E.1 dX2_setShortening_103 rfl ?_
    refine q_ior (n := 105) E.1 dX2_setShortening_104 rfl ?_
    refine q_put (n := 108) (k := 5) (fs := (fs43 X)) E hW (by decide) (fun _ => rfl) K2 (by decide) w94 rfl rfl ⟨rfl, rfl⟩ (Nat.le_of_ble_eq_true rfl) (fun _ => rfl) dX2_setShortening_105 rfl (fun H locs hW => ?_)
    refine q_iconst (n := 109) E.1 dX2_setShortening_108 rfl ?_
    exact q_zret E hW (Or.inr rfl) h dX2_setShortening_109
  · have h := h5 c6
    refine q_iconst (n := 48) E.1 dX2_setShortening_47 rfl ?_
    exact q_zret E hW (Or.inl rfl) h dX2_setShortening_48
def wp_X2_setShortening (a1 : Int) (a2 : Nat) (a3 : Int) (M : Mem) (Q : Int → Mem → Prop) : Prop := (Rg a1 ∧ (a1 < 0 → Q 0 M) ∧ (¬ (a1 < 0) → (Rg a1 ∧ (a1 < 6 → (Rg a3 ∧ (a3 ≠ 0 → wp_X2_setShortening_39 a1 a2 a3 Q M) ∧ (¬ (a3 ≠ 0) → wp_X4_size a2 M (fun r14 M13 => (Rg r14 ∧ (r14 ≠ 0 → wp_X2_setShortening_39 a1 a2 a3 Q M13) ∧ (¬ (r14 ≠ 0) → Q 1 (up M13 43 5 (bAnd (M13 43 5) (bXor (bShl 1 a1) (-1)))))))))) ∧ (¬ (a1 < 6) → Q 0 M))))
set_option maxHeartbeats 4000000 in
set_option maxRecDepth 100000 in
theorem c_X2_setShortening (l : Launch) (X : Cx) (hI : Inj X) (a1 : Int) (a2 : Nat) (a3 : Int) (ha2 : isRow a2) (M : Mem) (Q : Int → Mem → Prop) (h : wp_X2_setShortening a1 a2 a3 M Q) : MI X l yX2_setShortening cX2_setShortening 4 (some .boolean) 4 [.ref (xA X 43), .int (jI a1), .ref (xA X a2), .int (jI a3)] M Q := by
  refine MI.of hI (by decide) (Nat.le_of_ble_eq_true rfl) ?_
  intro p e R s m args below meth c ls E hW hl
  have E : En X (AW X) 4 p R s m args meth c cX2_setShortening RX2 4 (some .boolean) 0 0 := E
  have hl : lv_has ls 4 [(0, .ref (xA X 43)), (1, .int (jI a1)), (2, .ref (xA X a2)), (3, .int (jI a3))] := hl
  unfold wp_X2_setShortening at h
  refine q_iload_n (n := 1) (q := 1) E.1 hl rfl dX2_setShortening_0 rfl rfl ?_
  obtain ⟨g1, h2, h3⟩ := h
  refine q_if_lt (t := 10) (n := 4) E.1 g1 dX2_setShortening_1 (by decide) rfl (fun c4 => ?_) (fun c4 => ?_)
  · have h := h2 c4
    refine q_iconst (n := 11) E.1 dX2_setShortening_10 rfl ?_
    exact q_zret E hW (Or.inl rfl) h dX2_setShortening_11
  · have h := h3 c4
    refine q_iload_n (n := 5) (q := 1) E.1 hl rfl dX2_setShortening_4 rfl rfl ?_
    refine q_bipush (n := 7) E.1 dX2_setShortening_5 (by decide) rfl ?_
    obtain ⟨g5, h6, h7⟩ := h
    refine q_icmp_lt (t := 12) (n := 10) E.1 g5 (by decide) dX2_setShortening_7 (by decide) rfl (fun c8 => ?_) (fun c8 => ?_)
    · have h := h6 c8
      refine q_iload_n (n := 13) (q := 3) E.1 hl rfl dX2_setShortening_12 rfl rfl ?_
      obtain ⟨g9, h10, h11⟩ := h
      refine q_if_ne (t := 39) (n := 16) E.1 g9 dX2_setShortening_13 (by decide) rfl (fun c12 => ?_) (fun c12 => ?_)
      · have h := h10 c12
        exact v_X2_setShortening_39 a1 a2 a3 ha2 E Q _ _ _ _ h hW (lv_sub hl [0, 1, 2, 3] rfl)
      · have h := h11 c12
        refine q_aload_n (n := 17) (q := 2) E.1 hl rfl dX2_setShortening_16 rfl rfl ?_
        refine q_callVi (n := 20) (fs := (fsRow X a2)) [] E hW hl.1 (isRow_lt ha2) (ent_row X ha2) K4 (c_X4_size l X E.2.2.1.1 a2 ha2 _ _ h) (by decide) Y_RX2_41 rfl (rest := []) rfl (Nat.le_of_ble_eq_true rfl) dX2_setShortening_17 rfl (fun r14 M13 H locs h hW => ?_)
        obtain ⟨g15, h16, h17⟩ := h
        refine q_if_ne (t := 39) (n := 23) E.1 g15 dX2_setShortening_20 (by decide) rfl (fun c18 => ?_) (fun c18 => ?_)
        · have h := h16 c18
          exact v_X2_setShortening_39 a1 a2 a3 ha2 E Q _ _ _ _ h hW (lv_sub hl [0, 1, 2, 3] rfl)
        · have h := h17 c18
          refine q_aload_n (n := 24) (q := 0) E.1 hl rfl dX2_setShortening_23 rfl rfl ?_
          refine q_dup (n := 25) E.1 dX2_setShortening_24 rfl rfl ?_
          refine q_get (n := 28) (k := 5) (fs := (fs43 X)) (v := .int (jI (M13 43 5))) E hW (by decide) (fun _ => rfl) K2 (by decide) w94 rfl rfl dX2_setShortening_25 rfl ?_
          refine q_iconst (n := 29) E.1 dX2_setShortening_28 rfl ?_
          refine q_iload_n (n := 30) (q := 1) E.1 hl rfl dX2_setShortening_29 rfl rfl ?_
          refine q_ishl (n := 31) E.1 dX2_setShortening_30 rfl ?_
          refine q_iconst (n := 32) E.1 dX2_setShortening_31 rfl ?_
          refine q_ixor (n := 33) E.1 dX2_setShortening_32 rfl ?_
          refine q_iand (n := 34) E.1 dX2_setShortening_33 rfl ?_
          refine q_put (n := 37) (k := 5) (fs := (fs43 X)) E hW (by decide) (fun _ => rfl) K2 (by decide) w94 rfl rfl ⟨rfl, rfl⟩ (Nat.le_of_ble_eq_true rfl) (fun _ => rfl) dX2_setShortening_34 rfl (fun H locs hW => ?_)
          refine q_iconst (n := 38) E.1 dX2_setShortening_37 rfl ?_
          exact q_zret E hW (Or.inr rfl) h dX2_setShortening_38
    · have h := h7 c8
      refine q_iconst (n := 11) E.1 dX2_setShortening_10 rfl ?_
      exact q_zret E hW (Or.inl rfl) h dX2_setShortening_11
/-! StickerPress$Names.latestSet()I -/
theorem dX2_latestSet_0 : decode cX2_latestSet 0 = .ok (.aload_n 0, 1) := by decide +kernel
theorem dX2_latestSet_1 : decode cX2_latestSet 1 = .ok (.getfield 38, 3) := by decide +kernel
theorem dX2_latestSet_4 : decode cX2_latestSet 4 = .ok (.ireturn, 1) := by decide +kernel
def wp_X2_latestSet (M : Mem) (Q : Int → Mem → Prop) : Prop := Q (M 43 6) M
set_option maxHeartbeats 4000000 in
set_option maxRecDepth 100000 in
theorem c_X2_latestSet (l : Launch) (X : Cx) (hI : Inj X) (M : Mem) (Q : Int → Mem → Prop) (h : wp_X2_latestSet M Q) : MI X l yX2_latestSet cX2_latestSet 1 (some .int) 0 [.ref (xA X 43)] M Q := by
  refine MI.of hI (by decide) (Nat.le_of_ble_eq_true rfl) ?_
  intro p e R s m args below meth c ls E hW hl
  have E : En X (AW X) 0 p R s m args meth c cX2_latestSet RX2 1 (some .int) 0 0 := E
  have hl : lv_has ls 1 [(0, .ref (xA X 43))] := hl
  unfold wp_X2_latestSet at h
  refine q_aload_n (n := 1) (q := 0) E.1 hl rfl dX2_latestSet_0 rfl rfl ?_
  refine q_get (n := 4) (k := 6) (fs := (fs43 X)) (v := .int (jI (M 43 6))) E hW (by decide) (fun _ => rfl) K2 (by decide) w95 rfl rfl dX2_latestSet_1 rfl ?_
  exact q_iret E hW h dX2_latestSet_4
/-! StickerPress$Names.applyOne(LStickerPress$Row;LStickerPress$Row;)Z -/
theorem dX2_applyOne_0 : decode cX2_applyOne 0 = .ok (.aload_n 0, 1) := by decide +kernel
theorem dX2_applyOne_1 : decode cX2_applyOne 1 = .ok (.getfield 31, 3) := by decide +kernel
theorem dX2_applyOne_4 : decode cX2_applyOne 4 = .ok (.invokevirtual 49, 3) := by decide +kernel
theorem dX2_applyOne_7 : decode cX2_applyOne 7 = .ok (.iconst 0, 1) := by decide +kernel
theorem dX2_applyOne_8 : decode cX2_applyOne 8 = .ok (.istore_n 3, 1) := by decide +kernel
theorem dX2_applyOne_9 : decode cX2_applyOne 9 = .ok (.iconst 0, 1) := by decide +kernel
theorem dX2_applyOne_10 : decode cX2_applyOne 10 = .ok (.istore 4, 2) := by decide +kernel
theorem dX2_applyOne_12 : decode cX2_applyOne 12 = .ok (.iload 4, 2) := by decide +kernel
theorem dX2_applyOne_14 : decode cX2_applyOne 14 = .ok (.aload_n 0, 1) := by decide +kernel
theorem dX2_applyOne_15 : decode cX2_applyOne 15 = .ok (.getfield 27, 3) := by decide +kernel
theorem dX2_applyOne_18 : decode cX2_applyOne 18 = .ok (.invokevirtual 41, 3) := by decide +kernel
theorem dX2_applyOne_21 : decode cX2_applyOne 21 = .ok (.if_icmp .ge 82, 3) := by decide +kernel
theorem dX2_applyOne_24 : decode cX2_applyOne 24 = .ok (.iload 4, 2) := by decide +kernel
theorem dX2_applyOne_26 : decode cX2_applyOne 26 = .ok (.iload_n 3, 1) := by decide +kernel
theorem dX2_applyOne_27 : decode cX2_applyOne 27 = .ok (.if_icmp .ge 6, 3) := by decide +kernel
theorem dX2_applyOne_30 : decode cX2_applyOne 30 = .ok (.goto 67, 3) := by decide +kernel
theorem dX2_applyOne_33 : decode cX2_applyOne 33 = .ok (.aload_n 0, 1) := by decide +kernel
theorem dX2_applyOne_34 : decode cX2_applyOne 34 = .ok (.getfield 27, 3) := by decide +kernel
theorem dX2_applyOne_37 : decode cX2_applyOne 37 = .ok (.iload 4, 2) := by decide +kernel
theorem dX2_applyOne_39 : decode cX2_applyOne 39 = .ok (.aload_n 1, 1) := by decide +kernel
theorem dX2_applyOne_40 : decode cX2_applyOne 40 = .ok (.invokevirtual 84, 3) := by decide +kernel
theorem dX2_applyOne_43 : decode cX2_applyOne 43 = .ok (.ifCond .eq 29, 3) := by decide +kernel
theorem dX2_applyOne_46 : decode cX2_applyOne 46 = .ok (.aload_n 0, 1) := by decide +kernel
theorem dX2_applyOne_47 : decode cX2_applyOne 47 = .ok (.getfield 31, 3) := by decide +kernel
theorem dX2_applyOne_50 : decode cX2_applyOne 50 = .ok (.aload_n 2, 1) := by decide +kernel
theorem dX2_applyOne_51 : decode cX2_applyOne 51 = .ok (.iconst 0, 1) := by decide +kernel
theorem dX2_applyOne_52 : decode cX2_applyOne 52 = .ok (.aload_n 2, 1) := by decide +kernel
theorem dX2_applyOne_53 : decode cX2_applyOne 53 = .ok (.invokevirtual 41, 3) := by decide +kernel
theorem dX2_applyOne_56 : decode cX2_applyOne 56 = .ok (.invokevirtual 52, 3) := by decide +kernel
theorem dX2_applyOne_59 : decode cX2_applyOne 59 = .ok (.istore 5, 2) := by decide +kernel
theorem dX2_applyOne_61 : decode cX2_applyOne 61 = .ok (.iload 4, 2) := by decide +kernel
theorem dX2_applyOne_63 : decode cX2_applyOne 63 = .ok (.aload_n 1, 1) := by decide +kernel
theorem dX2_applyOne_64 : decode cX2_applyOne 64 = .ok (.invokevirtual 41, 3) := by decide +kernel
theorem dX2_applyOne_67 : decode cX2_applyOne 67 = .ok (.iadd, 1) := by decide +kernel
theorem dX2_applyOne_68 : decode cX2_applyOne 68 = .ok (.istore_n 3, 1) := by decide +kernel
theorem dX2_applyOne_69 : decode cX2_applyOne 69 = .ok (.goto 21, 3) := by decide +kernel
theorem dX2_applyOne_72 : decode cX2_applyOne 72 = .ok (.aload_n 0, 1) := by decide +kernel
theorem dX2_applyOne_73 : decode cX2_applyOne 73 = .ok (.getfield 31, 3) := by decide +kernel
theorem dX2_applyOne_76 : decode cX2_applyOne 76 = .ok (.aload_n 0, 1) := by decide +kernel
theorem dX2_applyOne_77 : decode cX2_applyOne 77 = .ok (.getfield 27, 3) := by decide +kernel
theorem dX2_applyOne_80 : decode cX2_applyOne 80 = .ok (.iload 4, 2) := by decide +kernel
theorem dX2_applyOne_82 : decode cX2_applyOne 82 = .ok (.invokevirtual 88, 3) := by decide +kernel
theorem dX2_applyOne_85 : decode cX2_applyOne 85 = .ok (.invokevirtual 91, 3) := by decide +kernel
theorem dX2_applyOne_88 : decode cX2_applyOne 88 = .ok (.istore 5, 2) := by decide +kernel
theorem dX2_applyOne_90 : decode cX2_applyOne 90 = .ok (.iload 5, 2) := by decide +kernel
theorem dX2_applyOne_92 : decode cX2_applyOne 92 = .ok (.ifCond .ne 5, 3) := by decide +kernel
theorem dX2_applyOne_95 : decode cX2_applyOne 95 = .ok (.iconst 0, 1) := by decide +kernel
theorem dX2_applyOne_96 : decode cX2_applyOne 96 = .ok (.ireturn, 1) := by decide +kernel
theorem dX2_applyOne_97 : decode cX2_applyOne 97 = .ok (.iinc 4 1, 3) := by decide +kernel
theorem dX2_applyOne_100 : decode cX2_applyOne 100 = .ok (.goto (-88), 3) := by decide +kernel
theorem dX2_applyOne_103 : decode cX2_applyOne 103 = .ok (.iconst 1, 1) := by decide +kernel
theorem dX2_applyOne_104 : decode cX2_applyOne 104 = .ok (.ireturn, 1) := by decide +kernel
theorem Y_RX2_84 : YV RX2 84 RX4 yX4_standsAt cX4_standsAt 4 (some .boolean) 2 := ⟨w368, w365, w366, w367, w44, by decide +kernel, by decide⟩
theorem Y_RX2_88 : YV RX2 88 RX4 yX4_at cX4_at 2 (some .int) 1 := ⟨w322, w369, w320, w321, w44, by decide +kernel, by decide⟩
theorem Y_RX2_91 : YV RX2 91 RX4 yX4_add cX4_add 2 (some .boolean) 1 := ⟨w291, w370, w289, w290, w44, by decide +kernel, by decide⟩
def wp_X2_applyOne_12 (a1 : Nat) (a2 : Nat) (Q : Int → Mem → Prop) : Nat → Int → Int → Mem → Prop
  | 0, _, _, _ => False
  | n + 1, x3, x4, M => wp_X4_size 28 M (fun r2 M1 => (Rg x4 ∧ Rg r2 ∧ (r2 ≤ x4 → Q 1 M1) ∧ (¬ (r2 ≤ x4) → (Rg x4 ∧ Rg x3 ∧ (x3 ≤ x4 → wp_X4_standsAt 28 x4 a1 M1 (fun r14 M13 => (Rg r14 ∧ (r14 = 0 → wp_X4_at 28 x4 M13 (fun r20 M19 => wp_X4_add 30 r20 M19 (fun r22 M21 => (Rg r22 ∧ (r22 ≠ 0 → wp_X2_applyOne_12 a1 a2 Q n x3 (x4 + 1) M21) ∧ (¬ (r22 ≠ 0) → Q 0 M21))))) ∧ (¬ (r14 = 0) → wp_X4_size a2 M13 (fun r28 M27 => wp_X4_addPart 30 a2 0 r28 M27 (fun r30 M29 => wp_X4_size a1 M29 (fun r32 M31 => (Rg r30 ∧ (r30 ≠ 0 → wp_X2_applyOne_12 a1 a2 Q n (x4 + r32) (x4 + 1) M31) ∧ (¬ (r30 ≠ 0) → Q 0 M31))))))))) ∧ (¬ (x3 ≤ x4) → wp_X2_applyOne_12 a1 a2 Q n x3 (x4 + 1) M1)))))
set_option maxHeartbeats 4000000 in
set_option maxRecDepth 100000 in
theorem v_X2_applyOne_12 (a1 : Nat) (a2 : Nat) (ha1 : isRow a1) (ha2 : isRow a2) (E : En X (AW X) 2 p R s m args meth c cX2_applyOne RX2 6 (some .boolean) 0 0) (Q : Int → Mem → Prop) : ∀ n : Nat, ∀ (x3 x4 : Int) (M : Mem) (H : Heap) (locs : List Loc) (ls : Array Slot), wp_X2_applyOne_12 a1 a2 Q n x3 x4 M → Wd X (AW X) s M H locs → lv_has ls 6 [(0, .ref (xA X 43)), (1, .ref (xA X a1)), (2, .ref (xA X a2)), (3, .int (jI x3)), (4, .int (jI x4))] → W p l e R s m args below meth c H locs 0 0 (MQ below (QI X Q) args s 0 0 (AW X)) (F0 m 12 ls []) := by
  intro n
  induction n with
  | zero => intro x3 x4 M H locs ls h; exact absurd h (by simp [wp_X2_applyOne_12])
  | succ n ih =>
    intro x3 x4 M H locs ls h hW hl
    rw [wp_X2_applyOne_12] at h
    refine q_iload (n := 14) (q := 4) E.1 hl rfl dX2_applyOne_12 rfl ?_
    refine q_aload_n (n := 15) (q := 0) E.1 hl rfl dX2_applyOne_14 rfl rfl ?_
    refine q_get (n := 18) (k := 3) (fs := (fs43 X)) (v := .ref (xA X 28)) E hW (by decide) (fun _ => rfl) K2 (by decide) w92 rfl rfl dX2_applyOne_15 rfl ?_
    refine q_callVi (n := 21) (fs := (fsRow X 28)) [] E hW hl.1 (isRow_lt (by decide)) (ent_row X (by decide)) K4 (c_X4_size l X E.2.2.1.1 28 (by decide) _ _ h) (by decide) Y_RX2_41 rfl (rest := [.int (jI x4)]) rfl (Nat.le_of_ble_eq_true rfl) dX2_applyOne_18 rfl (fun r2 M1 H locs h hW => ?_)
    obtain ⟨g3, g4, h5, h6⟩ := h
    refine q_icmp_ge (t := 103) (n := 24) E.1 g3 g4 dX2_applyOne_21 (by decide) rfl (fun c7 => ?_) (fun c7 => ?_)
    · have h := h5 c7
      refine q_iconst (n := 104) E.1 dX2_applyOne_103 rfl ?_
      exact q_zret E hW (Or.inr rfl) h dX2_applyOne_104
    · have h := h6 c7
      refine q_iload (n := 26) (q := 4) E.1 hl rfl dX2_applyOne_24 rfl ?_
      refine q_iload_n (n := 27) (q := 3) E.1 hl rfl dX2_applyOne_26 rfl rfl ?_
      obtain ⟨g8, g9, h10, h11⟩ := h
      refine q_icmp_ge (t := 33) (n := 30) E.1 g8 g9 dX2_applyOne_27 (by decide) rfl (fun c12 => ?_) (fun c12 => ?_)
      · have h := h10 c12
        refine q_aload_n (n := 34) (q := 0) E.1 hl rfl dX2_applyOne_33 rfl rfl ?_
        refine q_get (n := 37) (k := 3) (fs := (fs43 X)) (v := .ref (xA X 28)) E hW (by decide) (fun _ => rfl) K2 (by decide) w92 rfl rfl dX2_applyOne_34 rfl ?_
        refine q_iload (n := 39) (q := 4) E.1 hl rfl dX2_applyOne_37 rfl ?_
        refine q_aload_n (n := 40) (q := 1) E.1 hl rfl dX2_applyOne_39 rfl rfl ?_
        refine q_callVi (n := 43) (fs := (fsRow X 28)) [.int (jI x4), .ref (xA X a1)] E hW hl.1 (isRow_lt (by decide)) (ent_row X (by decide)) K4 (c_X4_standsAt l X E.2.2.1.1 28 x4 a1 (by decide) ha1 _ _ h) (by decide) Y_RX2_84 rfl (rest := []) rfl (Nat.le_of_ble_eq_true rfl) dX2_applyOne_40 rfl (fun r14 M13 H locs h hW => ?_)
        obtain ⟨g15, h16, h17⟩ := h
        refine q_if_eq (t := 72) (n := 46) E.1 g15 dX2_applyOne_43 (by decide) rfl (fun c18 => ?_) (fun c18 => ?_)
        · have h := h16 c18
          refine q_aload_n (n := 73) (q := 0) E.1 hl rfl dX2_applyOne_72 rfl rfl ?_
          refine q_get (n := 76) (k := 4) (fs := (fs43 X)) (v := .ref (xA X 30)) E hW (by decide) (fun _ => rfl) K2 (by decide) w93 rfl rfl dX2_applyOne_73 rfl ?_
          refine q_aload_n (n := 77) (q := 0) E.1 hl rfl dX2_applyOne_76 rfl rfl ?_
          refine q_get (n := 80) (k := 3) (fs := (fs43 X)) (v := .ref (xA X 28)) E hW (by decide) (fun _ => rfl) K2 (by decide) w92 rfl rfl dX2_applyOne_77 rfl ?_
          refine q_iload (n := 82) (q := 4) E.1 hl rfl dX2_applyOne_80 rfl ?_
          refine q_callVi (n := 85) (fs := (fsRow X 28)) [.int (jI x4)] E hW hl.1 (isRow_lt (by decide)) (ent_row X (by decide)) K4 (c_X4_at l X E.2.2.1.1 28 x4 (by decide) _ _ h) (by decide) Y_RX2_88 rfl (rest := [.ref (xA X 30)]) rfl (Nat.le_of_ble_eq_true rfl) dX2_applyOne_82 rfl (fun r20 M19 H locs h hW => ?_)
          refine q_callVi (n := 88) (fs := (fsRow X 30)) [.int (jI r20)] E hW hl.1 (isRow_lt (by decide)) (ent_row X (by decide)) K4 (c_X4_add l X E.2.2.1.1 30 r20 (by decide) _ _ h) (by decide) Y_RX2_91 rfl (rest := []) rfl (Nat.le_of_ble_eq_true rfl) dX2_applyOne_85 rfl (fun r22 M21 H locs h hW => ?_)
          refine q_istore (n := 90) [(5, .int (jI r22)), (0, .ref (xA X 43)), (1, .ref (xA X a1)), (2, .ref (xA X a2)), (3, .int (jI x3)), (4, .int (jI x4))] E.1 hl dX2_applyOne_88 (by decide) rfl rfl (fun ls hl => ?_)
          refine q_iload (n := 92) (q := 0) E.1 hl rfl dX2_applyOne_90 rfl ?_
          obtain ⟨g23, h24, h25⟩ := h
          refine q_if_ne (t := 97) (n := 95) E.1 g23 dX2_applyOne_92 (by decide) rfl (fun c26 => ?_) (fun c26 => ?_)
          · have h := h24 c26
            refine q_iinc (n := 100) (q := 5) [(4, .int (jI (x4 + 1))), (5, .int (jI r22)), (0, .ref (xA X 43)), (1, .ref (xA X a1)), (2, .ref (xA X a2)), (3, .int (jI x3))] E.1 hl rfl dX2_applyOne_97 (by decide) rfl rfl (fun ls hl => ?_)
            refine q_goto (n := 12) E.1 dX2_applyOne_100 (by decide) ?_
            exact ih _ _ _ _ _ _ h hW (lv_sub hl [2, 3, 4, 5, 0] rfl)
          · have h := h25 c26
            refine q_iconst (n := 96) E.1 dX2_applyOne_95 rfl ?_
            exact q_zret E hW (Or.inl rfl) h dX2_applyOne_96
        · have h := h17 c18
          refine q_aload_n (n := 47) (q := 0) E.1 hl rfl dX2_applyOne_46 rfl rfl ?_
          refine q_get (n := 50) (k := 4) (fs := (fs43 X)) (v := .ref (xA X 30)) E hW (by decide) (fun _ => rfl) K2 (by decide) w93 rfl rfl dX2_applyOne_47 rfl ?_
          refine q_aload_n (n := 51) (q := 2) E.1 hl rfl dX2_applyOne_50 rfl rfl ?_
          refine q_iconst (n := 52) E.1 dX2_applyOne_51 rfl ?_
          refine q_aload_n (n := 53) (q := 2) E.1 hl rfl dX2_applyOne_52 rfl rfl ?_
          refine q_callVi (n := 56) (fs := (fsRow X a2)) [] E hW hl.1 (isRow_lt ha2) (ent_row X ha2) K4 (c_X4_size l X E.2.2.1.1 a2 ha2 _ _ h) (by decide) Y_RX2_41 rfl (rest := [.int (jI 0), .ref (xA X a2), .ref (xA X 30)]) rfl (Nat.le_of_ble_eq_true rfl) dX2_applyOne_53 rfl (fun r28 M27 H locs h hW => ?_)
          refine q_callVi (n := 59) (fs := (fsRow X 30)) [.ref (xA X a2), .int (jI 0), .int (jI r28)] E hW hl.1 (isRow_lt (by decide)) (ent_row X (by decide)) K4 (c_X4_addPart l X E.2.2.1.1 30 a2 0 r28 (by decide) ha2 _ _ h) (by decide) Y_RX2_52 rfl (rest := []) rfl (Nat.le_of_ble_eq_true rfl) dX2_applyOne_56 rfl (fun r30 M29 H locs h hW => ?_)
          refine q_istore (n := 61) [(5, .int (jI r30)), (0, .ref (xA X 43)), (1, .ref (xA X a1)), (2, .ref (xA X a2)), (3, .int (jI x3)), (4, .int (jI x4))] E.1 hl dX2_applyOne_59 (by decide) rfl rfl (fun ls hl => ?_)
          refine q_iload (n := 63) (q := 5) E.1 hl rfl dX2_applyOne_61 rfl ?_
          refine q_aload_n (n := 64) (q := 2) E.1 hl rfl dX2_applyOne_63 rfl rfl ?_
          refine q_callVi (n := 67) (fs := (fsRow X a1)) [] E hW hl.1 (isRow_lt ha1) (ent_row X ha1) K4 (c_X4_size l X E.2.2.1.1 a1 ha1 _ _ h) (by decide) Y_RX2_41 rfl (rest := [.int (jI x4)]) rfl (Nat.le_of_ble_eq_true rfl) dX2_applyOne_64 rfl (fun r32 M31 H locs h hW => ?_)
          refine q_iadd (n := 68) E.1 dX2_applyOne_67 rfl ?_
          refine q_istore_n (n := 69) [(3, .int (jI (x4 + r32))), (5, .int (jI r30)), (0, .ref (xA X 43)), (1, .ref (xA X a1)), (2, .ref (xA X a2)), (4, .int (jI x4))] E.1 hl dX2_applyOne_68 rfl (by decide) rfl rfl (fun ls hl => ?_)
          refine q_goto (n := 90) E.1 dX2_applyOne_69 (by decide) ?_
          refine q_iload (n := 92) (q := 1) E.1 hl rfl dX2_applyOne_90 rfl ?_
          obtain ⟨g33, h34, h35⟩ := h
          refine q_if_ne (t := 97) (n := 95) E.1 g33 dX2_applyOne_92 (by decide) rfl (fun c36 => ?_) (fun c36 => ?_)
          · have h := h34 c36
            refine q_iinc (n := 100) (q := 5) [(4, .int (jI (x4 + 1))), (3, .int (jI (x4 + r32))), (5, .int (jI r30)), (0, .ref (xA X 43)), (1, .ref (xA X a1)), (2, .ref (xA X a2))] E.1 hl rfl dX2_applyOne_97 (by decide) rfl rfl (fun ls hl => ?_)
            refine q_goto (n := 12) E.1 dX2_applyOne_100 (by decide) ?_
            exact ih _ _ _ _ _ _ h hW (lv_sub hl [3, 4, 5, 1, 0] rfl)
          · have h := h35 c36
            refine q_iconst (n := 96) E.1 dX2_applyOne_95 rfl ?_
            exact q_zret E hW (Or.inl rfl) h dX2_applyOne_96
      · have h := h11 c12
        refine q_goto (n := 97) E.1 dX2_applyOne_30 (by decide) ?_
        refine q_iinc (n := 100) (q := 4) [(4, .int (jI (x4 + 1))), (0, .ref (xA X 43)), (1, .ref (xA X a1)), (2, .ref (xA X a2)), (3, .int (jI x3))] E.1 hl rfl dX2_applyOne_97 (by decide) rfl rfl (fun ls hl => ?_)
        refine q_goto (n := 12) E.1 dX2_applyOne_100 (by decide) ?_
        exact ih _ _ _ _ _ _ h hW (lv_sub hl [1, 2, 3, 4, 0] rfl)
def wp_X2_applyOne (a1 : Nat) (a2 : Nat) (M : Mem) (Q : Int → Mem → Prop) : Prop := wp_X4_clear 30 M (fun M1 => (∃ n : Nat, wp_X2_applyOne_12 a1 a2 Q n 0 0 M1))
set_option maxHeartbeats 4000000 in
set_option maxRecDepth 100000 in
theorem c_X2_applyOne (l : Launch) (X : Cx) (hI : Inj X) (a1 : Nat) (a2 : Nat) (ha1 : isRow a1) (ha2 : isRow a2) (M : Mem) (Q : Int → Mem → Prop) (h : wp_X2_applyOne a1 a2 M Q) : MI X l yX2_applyOne cX2_applyOne 6 (some .boolean) 2 [.ref (xA X 43), .ref (xA X a1), .ref (xA X a2)] M Q := by
  refine MI.of hI (by decide) (Nat.le_of_ble_eq_true rfl) ?_
  intro p e R s m args below meth c ls E hW hl
  have E : En X (AW X) 2 p R s m args meth c cX2_applyOne RX2 6 (some .boolean) 0 0 := E
  have hl : lv_has ls 6 [(0, .ref (xA X 43)), (1, .ref (xA X a1)), (2, .ref (xA X a2))] := hl
  unfold wp_X2_applyOne at h
  refine q_aload_n (n := 1) (q := 0) E.1 hl rfl dX2_applyOne_0 rfl rfl ?_
  refine q_get (n := 4) (k := 4) (fs := (fs43 X)) (v := .ref (xA X 30)) E hW (by decide) (fun _ => rfl) K2 (by decide) w93 rfl rfl dX2_applyOne_1 rfl ?_
  refine q_callVv (n := 7) (fs := (fsRow X 30)) [] E hW hl.1 (isRow_lt (by decide)) (ent_row X (by decide)) K4 (c_X4_clear l X E.2.2.1.1 30 (by decide) _ _ h) (by decide) Y_RX2_49 rfl (rest := []) rfl (Nat.le_of_ble_eq_true rfl) dX2_applyOne_4 rfl (fun M1 H locs h hW => ?_)
  refine q_iconst (n := 8) E.1 dX2_applyOne_7 rfl ?_
  refine q_istore_n (n := 9) [(3, .int (jI 0)), (0, .ref (xA X 43)), (1, .ref (xA X a1)), (2, .ref (xA X a2))] E.1 hl dX2_applyOne_8 rfl (by decide) rfl rfl (fun ls hl => ?_)
  refine q_iconst (n := 10) E.1 dX2_applyOne_9 rfl ?_
  refine q_istore (n := 12) [(4, .int (jI 0)), (3, .int (jI 0)), (0, .ref (xA X 43)), (1, .ref (xA X a1)), (2, .ref (xA X a2))] E.1 hl dX2_applyOne_10 (by decide) rfl rfl (fun ls hl => ?_)
  obtain ⟨n2, h⟩ := h
  exact v_X2_applyOne_12 a1 a2 ha1 ha2 E Q n2 _ _ _ _ _ _ h hW (lv_sub hl [2, 3, 4, 1, 0] rfl)
/-! StickerPress$Names.applySet(LStickerPress$Row;I)Z -/
theorem dX2_applySet_0 : decode cX2_applySet 0 = .ok (.aload_n 0, 1) := by decide +kernel
theorem dX2_applySet_1 : decode cX2_applySet 1 = .ok (.getfield 27, 3) := by decide +kernel
theorem dX2_applySet_4 : decode cX2_applySet 4 = .ok (.aload_n 1, 1) := by decide +kernel
theorem dX2_applySet_5 : decode cX2_applySet 5 = .ok (.invokevirtual 67, 3) := by decide +kernel
theorem dX2_applySet_8 : decode cX2_applySet 8 = .ok (.iconst 0, 1) := by decide +kernel
theorem dX2_applySet_9 : decode cX2_applySet 9 = .ok (.istore_n 3, 1) := by decide +kernel
theorem dX2_applySet_10 : decode cX2_applySet 10 = .ok (.iload_n 3, 1) := by decide +kernel
theorem dX2_applySet_11 : decode cX2_applySet 11 = .ok (.bipush 6, 2) := by decide +kernel
theorem dX2_applySet_13 : decode cX2_applySet 13 = .ok (.if_icmp .ge 50, 3) := by decide +kernel
theorem dX2_applySet_16 : decode cX2_applySet 16 = .ok (.iload_n 2, 1) := by decide +kernel
theorem dX2_applySet_17 : decode cX2_applySet 17 = .ok (.iload_n 3, 1) := by decide +kernel
theorem dX2_applySet_18 : decode cX2_applySet 18 = .ok (.ishr, 1) := by decide +kernel
theorem dX2_applySet_19 : decode cX2_applySet 19 = .ok (.iconst 1, 1) := by decide +kernel
theorem dX2_applySet_20 : decode cX2_applySet 20 = .ok (.iand, 1) := by decide +kernel
theorem dX2_applySet_21 : decode cX2_applySet 21 = .ok (.iconst 1, 1) := by decide +kernel
theorem dX2_applySet_22 : decode cX2_applySet 22 = .ok (.if_icmp .ne 35, 3) := by decide +kernel
theorem dX2_applySet_25 : decode cX2_applySet 25 = .ok (.aload_n 0, 1) := by decide +kernel
theorem dX2_applySet_26 : decode cX2_applySet 26 = .ok (.aload_n 0, 1) := by decide +kernel
theorem dX2_applySet_27 : decode cX2_applySet 27 = .ok (.getfield 17, 3) := by decide +kernel
theorem dX2_applySet_30 : decode cX2_applySet 30 = .ok (.iload_n 3, 1) := by decide +kernel
theorem dX2_applySet_31 : decode cX2_applySet 31 = .ok (.aaload, 1) := by decide +kernel
theorem dX2_applySet_32 : decode cX2_applySet 32 = .ok (.aload_n 0, 1) := by decide +kernel
theorem dX2_applySet_33 : decode cX2_applySet 33 = .ok (.getfield 21, 3) := by decide +kernel
theorem dX2_applySet_36 : decode cX2_applySet 36 = .ok (.iload_n 3, 1) := by decide +kernel
theorem dX2_applySet_37 : decode cX2_applySet 37 = .ok (.aaload, 1) := by decide +kernel
theorem dX2_applySet_38 : decode cX2_applySet 38 = .ok (.invokevirtual 80, 3) := by decide +kernel
theorem dX2_applySet_41 : decode cX2_applySet 41 = .ok (.ifCond .ne 5, 3) := by decide +kernel
theorem dX2_applySet_44 : decode cX2_applySet 44 = .ok (.iconst 0, 1) := by decide +kernel
theorem dX2_applySet_45 : decode cX2_applySet 45 = .ok (.ireturn, 1) := by decide +kernel
theorem dX2_applySet_46 : decode cX2_applySet 46 = .ok (.aload_n 0, 1) := by decide +kernel
theorem dX2_applySet_47 : decode cX2_applySet 47 = .ok (.getfield 27, 3) := by decide +kernel
theorem dX2_applySet_50 : decode cX2_applySet 50 = .ok (.aload_n 0, 1) := by decide +kernel
theorem dX2_applySet_51 : decode cX2_applySet 51 = .ok (.getfield 31, 3) := by decide +kernel
theorem dX2_applySet_54 : decode cX2_applySet 54 = .ok (.invokevirtual 67, 3) := by decide +kernel
theorem dX2_applySet_57 : decode cX2_applySet 57 = .ok (.iinc 3 1, 3) := by decide +kernel
theorem dX2_applySet_60 : decode cX2_applySet 60 = .ok (.goto (-50), 3) := by decide +kernel
theorem dX2_applySet_63 : decode cX2_applySet 63 = .ok (.iconst 1, 1) := by decide +kernel
theorem dX2_applySet_64 : decode cX2_applySet 64 = .ok (.ireturn, 1) := by decide +kernel
theorem Y_RX2_67 : YV RX2 67 RX4 yX4_copyFrom cX4_copyFrom 2 none 1 := ⟨w358, w355, w356, w357, w44, by decide +kernel, by decide⟩
theorem Y_RX2_80 : YV RX2 80 RX2 yX2_applyOne cX2_applyOne 6 (some .boolean) 2 := ⟨w364, w361, w363, w3, w46, by decide +kernel, by decide⟩
def wp_X2_applySet_10 (a1 : Nat) (a2 : Int) (Q : Int → Mem → Prop) : Nat → Int → Mem → Prop
  | 0, _, _ => False
  | n + 1, x3, M => (Rg x3 ∧ (6 ≤ x3 → Q 1 M) ∧ (¬ (6 ≤ x3) → (Rg (bAnd (bShr a2 x3) 1) ∧ ((bAnd (bShr a2 x3) 1) ≠ 1 → wp_X2_applySet_10 a1 a2 Q n (x3 + 1) M) ∧ (¬ ((bAnd (bShr a2 x3) 1) ≠ 1) → (0 ≤ x3 ∧ x3 < 6) ∧ (0 ≤ x3 ∧ x3 < 6) ∧ wp_X2_applyOne (4 + 2 * x3.toNat) (16 + 2 * x3.toNat) M (fun r14 M13 => (Rg r14 ∧ (r14 ≠ 0 → wp_X4_copyFrom 28 30 M13 (fun M19 => wp_X2_applySet_10 a1 a2 Q n (x3 + 1) M19)) ∧ (¬ (r14 ≠ 0) → Q 0 M13)))))))
set_option maxHeartbeats 4000000 in
set_option maxRecDepth 100000 in
theorem v_X2_applySet_10 (a1 : Nat) (a2 : Int) (ha1 : isRow a1) (E : En X (AW X) 3 p R s m args meth c cX2_applySet RX2 4 (some .boolean) 0 0) (Q : Int → Mem → Prop) : ∀ n : Nat, ∀ (x3 : Int) (M : Mem) (H : Heap) (locs : List Loc) (ls : Array Slot), wp_X2_applySet_10 a1 a2 Q n x3 M → Wd X (AW X) s M H locs → lv_has ls 4 [(0, .ref (xA X 43)), (2, .int (jI a2)), (3, .int (jI x3))] → W p l e R s m args below meth c H locs 0 0 (MQ below (QI X Q) args s 0 0 (AW X)) (F0 m 10 ls []) := by
  intro n
  induction n with
  | zero => intro x3 M H locs ls h; exact absurd h (by simp [wp_X2_applySet_10])
  | succ n ih =>
    intro x3 M H locs ls h hW hl
    rw [wp_X2_applySet_10] at h
    refine q_iload_n (n := 11) (q := 2) E.1 hl rfl dX2_applySet_10 rfl rfl ?_
    refine q_bipush (n := 13) E.1 dX2_applySet_11 (by decide) rfl ?_
    obtain ⟨g1, h2, h3⟩ := h
    refine q_icmp_ge (t := 63) (n := 16) E.1 g1 (by decide) dX2_applySet_13 (by decide) rfl (fun c4 => ?_) (fun c4 => ?_)
    · have h := h2 c4
      refine q_iconst (n := 64) E.1 dX2_applySet_63 rfl ?_
      exact q_zret E hW (Or.inr rfl) h dX2_applySet_64
    · have h := h3 c4
      refine q_iload_n (n := 17) (q := 1) E.1 hl rfl dX2_applySet_16 rfl rfl ?_
      refine q_iload_n (n := 18) (q := 2) E.1 hl rfl dX2_applySet_17 rfl rfl ?_
      refine q_ishr (n := 19) E.1 dX2_applySet_18 rfl ?_
      refine q_iconst (n := 20) E.1 dX2_applySet_19 rfl ?_
      refine q_iand (n := 21) E.1 dX2_applySet_20 rfl ?_
      refine q_iconst (n := 22) E.1 dX2_applySet_21 rfl ?_
      obtain ⟨g5, h6, h7⟩ := h
      refine q_icmp_ne (t := 57) (n := 25) E.1 g5 (by decide) dX2_applySet_22 (by decide) rfl (fun c8 => ?_) (fun c8 => ?_)
      · have h := h6 c8
        refine q_iinc (n := 60) (q := 2) [(3, .int (jI (x3 + 1))), (0, .ref (xA X 43)), (2, .int (jI a2))] E.1 hl rfl dX2_applySet_57 (by decide) rfl rfl (fun ls hl => ?_)
        refine q_goto (n := 10) E.1 dX2_applySet_60 (by decide) ?_
        exact ih _ _ _ _ _ h hW (lv_sub hl [1, 2, 0] rfl)
      · have h := h7 c8
        refine q_aload_n (n := 26) (q := 0) E.1 hl rfl dX2_applySet_25 rfl rfl ?_
        refine q_aload_n (n := 27) (q := 0) E.1 hl rfl dX2_applySet_26 rfl rfl ?_
        refine q_get (n := 30) (k := 1) (fs := (fs43 X)) (v := .ref (xA X 45)) E hW (by decide) (fun _ => rfl) K2 (by decide) w90 rfl rfl dX2_applySet_27 rfl ?_
        refine q_iload_n (n := 31) (q := 2) E.1 hl rfl dX2_applySet_30 rfl rfl ?_
        obtain ⟨g9, h⟩ := h
        refine q_aald (n := 32) (f := fun j => 4 + 2 * j) E hW (by decide) (fun _ => rfl) (by decide) g9 dX2_applySet_31 rfl ?_
        have hw10 : isRow (4 + 2 * x3.toNat) := ⟨by omega, by omega⟩
        refine q_aload_n (n := 33) (q := 0) E.1 hl rfl dX2_applySet_32 rfl rfl ?_
        refine q_get (n := 36) (k := 2) (fs := (fs43 X)) (v := .ref (xA X 46)) E hW (by decide) (fun _ => rfl) K2 (by decide) w91 rfl rfl dX2_applySet_33 rfl ?_
        refine q_iload_n (n := 37) (q := 2) E.1 hl rfl dX2_applySet_36 rfl rfl ?_
        obtain ⟨g11, h⟩ := h
        refine q_aald (n := 38) (f := fun j => 16 + 2 * j) E hW (by decide) (fun _ => rfl) (by decide) g11 dX2_applySet_37 rfl ?_
        have hw12 : isRow (16 + 2 * x3.toNat) := ⟨by omega, by omega⟩
        refine q_callVi (n := 41) (fs := (fs43 X)) [.ref (xA X (4 + 2 * x3.toNat)), .ref (xA X (16 + 2 * x3.toNat))] E hW hl.1 (by decide) (fun _ => rfl) K2 (c_X2_applyOne l X E.2.2.1.1 (4 + 2 * x3.toNat) (16 + 2 * x3.toNat) hw10 hw12 _ _ h) (by decide) Y_RX2_80 rfl (rest := []) rfl (Nat.le_of_ble_eq_true rfl) dX2_applySet_38 rfl (fun r14 M13 H locs h hW => ?_)
        obtain ⟨g15, h16, h17⟩ := h
        refine q_if_ne (t := 46) (n := 44) E.1 g15 dX2_applySet_41 (by decide) rfl (fun c18 => ?_) (fun c18 => ?_)
        · have h := h16 c18
          refine q_aload_n (n := 47) (q := 0) E.1 hl rfl dX2_applySet_46 rfl rfl ?_
          refine q_get (n := 50) (k := 3) (fs := (fs43 X)) (v := .ref (xA X 28)) E hW (by decide) (fun _ => rfl) K2 (by decide) w92 rfl rfl dX2_applySet_47 rfl ?_
          refine q_aload_n (n := 51) (q := 0) E.1 hl rfl dX2_applySet_50 rfl rfl ?_
          refine q_get (n := 54) (k := 4) (fs := (fs43 X)) (v := .ref (xA X 30)) E hW (by decide) (fun _ => rfl) K2 (by decide) w93 rfl rfl dX2_applySet_51 rfl ?_
          refine q_callVv (n := 57) (fs := (fsRow X 28)) [.ref (xA X 30)] E hW hl.1 (isRow_lt (by decide)) (ent_row X (by decide)) K4 (c_X4_copyFrom l X E.2.2.1.1 28 30 (by decide) (by decide) _ _ h) (by decide) Y_RX2_67 rfl (rest := []) rfl (Nat.le_of_ble_eq_true rfl) dX2_applySet_54 rfl (fun M19 H locs h hW => ?_)
          refine q_iinc (n := 60) (q := 2) [(3, .int (jI (x3 + 1))), (0, .ref (xA X 43)), (2, .int (jI a2))] E.1 hl rfl dX2_applySet_57 (by decide) rfl rfl (fun ls hl => ?_)
          refine q_goto (n := 10) E.1 dX2_applySet_60 (by decide) ?_
          exact ih _ _ _ _ _ h hW (lv_sub hl [1, 2, 0] rfl)
        · have h := h17 c18
          refine q_iconst (n := 45) E.1 dX2_applySet_44 rfl ?_
          exact q_zret E hW (Or.inl rfl) h dX2_applySet_45
def wp_X2_applySet (a1 : Nat) (a2 : Int) (M : Mem) (Q : Int → Mem → Prop) : Prop := wp_X4_copyFrom 28 a1 M (fun M1 => (∃ n : Nat, wp_X2_applySet_10 a1 a2 Q n 0 M1))
set_option maxHeartbeats 4000000 in
set_option maxRecDepth 100000 in
theorem c_X2_applySet (l : Launch) (X : Cx) (hI : Inj X) (a1 : Nat) (a2 : Int) (ha1 : isRow a1) (M : Mem) (Q : Int → Mem → Prop) (h : wp_X2_applySet a1 a2 M Q) : MI X l yX2_applySet cX2_applySet 4 (some .boolean) 3 [.ref (xA X 43), .ref (xA X a1), .int (jI a2)] M Q := by
  refine MI.of hI (by decide) (Nat.le_of_ble_eq_true rfl) ?_
  intro p e R s m args below meth c ls E hW hl
  have E : En X (AW X) 3 p R s m args meth c cX2_applySet RX2 4 (some .boolean) 0 0 := E
  have hl : lv_has ls 4 [(0, .ref (xA X 43)), (1, .ref (xA X a1)), (2, .int (jI a2))] := hl
  unfold wp_X2_applySet at h
  refine q_aload_n (n := 1) (q := 0) E.1 hl rfl dX2_applySet_0 rfl rfl ?_
  refine q_get (n := 4) (k := 3) (fs := (fs43 X)) (v := .ref (xA X 28)) E hW (by decide) (fun _ => rfl) K2 (by decide) w92 rfl rfl dX2_applySet_1 rfl ?_
  refine q_aload_n (n := 5) (q := 1) E.1 hl rfl dX2_applySet_4 rfl rfl ?_
  refine q_callVv (n := 8) (fs := (fsRow X 28)) [.ref (xA X a1)] E hW hl.1 (isRow_lt (by decide)) (ent_row X (by decide)) K4 (c_X4_copyFrom l X E.2.2.1.1 28 a1 (by decide) ha1 _ _ h) (by decide) Y_RX2_67 rfl (rest := []) rfl (Nat.le_of_ble_eq_true rfl) dX2_applySet_5 rfl (fun M1 H locs h hW => ?_)
  refine q_iconst (n := 9) E.1 dX2_applySet_8 rfl ?_
  refine q_istore_n (n := 10) [(3, .int (jI 0)), (0, .ref (xA X 43)), (1, .ref (xA X a1)), (2, .int (jI a2))] E.1 hl dX2_applySet_9 rfl (by decide) rfl rfl (fun ls hl => ?_)
  obtain ⟨n2, h⟩ := h
  exact v_X2_applySet_10 a1 a2 ha1 E Q n2 _ _ _ _ _ h hW (lv_sub hl [1, 3, 0] rfl)
/-! java/lang/Integer.bitCount(I)I -/
theorem dJ6_bitCount_0f7a4_0 : decode cJ6_bitCount_0f7a4 0 = .ok (.iload_n 0, 1) := by decide +kernel
theorem dJ6_bitCount_0f7a4_1 : decode cJ6_bitCount_0f7a4 1 = .ok (.iload_n 0, 1) := by decide +kernel
theorem dJ6_bitCount_0f7a4_2 : decode cJ6_bitCount_0f7a4 2 = .ok (.iconst 1, 1) := by decide +kernel
theorem dJ6_bitCount_0f7a4_3 : decode cJ6_bitCount_0f7a4 3 = .ok (.iushr, 1) := by decide +kernel
theorem dJ6_bitCount_0f7a4_4 : decode cJ6_bitCount_0f7a4 4 = .ok (.ldc_w 265, 3) := by decide +kernel
theorem dJ6_bitCount_0f7a4_7 : decode cJ6_bitCount_0f7a4 7 = .ok (.iand, 1) := by decide +kernel
theorem dJ6_bitCount_0f7a4_8 : decode cJ6_bitCount_0f7a4 8 = .ok (.isub, 1) := by decide +kernel
theorem dJ6_bitCount_0f7a4_9 : decode cJ6_bitCount_0f7a4 9 = .ok (.istore_n 0, 1) := by decide +kernel
theorem dJ6_bitCount_0f7a4_10 : decode cJ6_bitCount_0f7a4 10 = .ok (.iload_n 0, 1) := by decide +kernel
theorem dJ6_bitCount_0f7a4_11 : decode cJ6_bitCount_0f7a4 11 = .ok (.ldc_w 266, 3) := by decide +kernel
theorem dJ6_bitCount_0f7a4_14 : decode cJ6_bitCount_0f7a4 14 = .ok (.iand, 1) := by decide +kernel
theorem dJ6_bitCount_0f7a4_15 : decode cJ6_bitCount_0f7a4 15 = .ok (.iload_n 0, 1) := by decide +kernel
theorem dJ6_bitCount_0f7a4_16 : decode cJ6_bitCount_0f7a4 16 = .ok (.iconst 2, 1) := by decide +kernel
theorem dJ6_bitCount_0f7a4_17 : decode cJ6_bitCount_0f7a4 17 = .ok (.iushr, 1) := by decide +kernel
theorem dJ6_bitCount_0f7a4_18 : decode cJ6_bitCount_0f7a4 18 = .ok (.ldc_w 266, 3) := by decide +kernel
theorem dJ6_bitCount_0f7a4_21 : decode cJ6_bitCount_0f7a4 21 = .ok (.iand, 1) := by decide +kernel
theorem dJ6_bitCount_0f7a4_22 : decode cJ6_bitCount_0f7a4 22 = .ok (.iadd, 1) := by decide +kernel
theorem dJ6_bitCount_0f7a4_23 : decode cJ6_bitCount_0f7a4 23 = .ok (.istore_n 0, 1) := by decide +kernel
theorem dJ6_bitCount_0f7a4_24 : decode cJ6_bitCount_0f7a4 24 = .ok (.iload_n 0, 1) := by decide +kernel
theorem dJ6_bitCount_0f7a4_25 : decode cJ6_bitCount_0f7a4 25 = .ok (.iload_n 0, 1) := by decide +kernel
theorem dJ6_bitCount_0f7a4_26 : decode cJ6_bitCount_0f7a4 26 = .ok (.iconst 4, 1) := by decide +kernel
theorem dJ6_bitCount_0f7a4_27 : decode cJ6_bitCount_0f7a4 27 = .ok (.iushr, 1) := by decide +kernel
theorem dJ6_bitCount_0f7a4_28 : decode cJ6_bitCount_0f7a4 28 = .ok (.iadd, 1) := by decide +kernel
theorem dJ6_bitCount_0f7a4_29 : decode cJ6_bitCount_0f7a4 29 = .ok (.ldc_w 267, 3) := by decide +kernel
theorem dJ6_bitCount_0f7a4_32 : decode cJ6_bitCount_0f7a4 32 = .ok (.iand, 1) := by decide +kernel
theorem dJ6_bitCount_0f7a4_33 : decode cJ6_bitCount_0f7a4 33 = .ok (.istore_n 0, 1) := by decide +kernel
theorem dJ6_bitCount_0f7a4_34 : decode cJ6_bitCount_0f7a4 34 = .ok (.iload_n 0, 1) := by decide +kernel
theorem dJ6_bitCount_0f7a4_35 : decode cJ6_bitCount_0f7a4 35 = .ok (.iload_n 0, 1) := by decide +kernel
theorem dJ6_bitCount_0f7a4_36 : decode cJ6_bitCount_0f7a4 36 = .ok (.bipush 8, 2) := by decide +kernel
theorem dJ6_bitCount_0f7a4_38 : decode cJ6_bitCount_0f7a4 38 = .ok (.iushr, 1) := by decide +kernel
theorem dJ6_bitCount_0f7a4_39 : decode cJ6_bitCount_0f7a4 39 = .ok (.iadd, 1) := by decide +kernel
theorem dJ6_bitCount_0f7a4_40 : decode cJ6_bitCount_0f7a4 40 = .ok (.istore_n 0, 1) := by decide +kernel
theorem dJ6_bitCount_0f7a4_41 : decode cJ6_bitCount_0f7a4 41 = .ok (.iload_n 0, 1) := by decide +kernel
theorem dJ6_bitCount_0f7a4_42 : decode cJ6_bitCount_0f7a4 42 = .ok (.iload_n 0, 1) := by decide +kernel
theorem dJ6_bitCount_0f7a4_43 : decode cJ6_bitCount_0f7a4 43 = .ok (.bipush 16, 2) := by decide +kernel
theorem dJ6_bitCount_0f7a4_45 : decode cJ6_bitCount_0f7a4 45 = .ok (.iushr, 1) := by decide +kernel
theorem dJ6_bitCount_0f7a4_46 : decode cJ6_bitCount_0f7a4 46 = .ok (.iadd, 1) := by decide +kernel
theorem dJ6_bitCount_0f7a4_47 : decode cJ6_bitCount_0f7a4 47 = .ok (.istore_n 0, 1) := by decide +kernel
theorem dJ6_bitCount_0f7a4_48 : decode cJ6_bitCount_0f7a4 48 = .ok (.iload_n 0, 1) := by decide +kernel
theorem dJ6_bitCount_0f7a4_49 : decode cJ6_bitCount_0f7a4 49 = .ok (.bipush 63, 2) := by decide +kernel
theorem dJ6_bitCount_0f7a4_51 : decode cJ6_bitCount_0f7a4 51 = .ok (.iand, 1) := by decide +kernel
theorem dJ6_bitCount_0f7a4_52 : decode cJ6_bitCount_0f7a4 52 = .ok (.ireturn, 1) := by decide +kernel
def wp_J6_bitCount_0f7a4 (a0 : Int) (M : Mem) (Q : Int → Mem → Prop) : Prop := Q (bAnd (((bAnd (((bAnd (a0 - (bAnd (bUshr a0 1) 1431655765)) 858993459) + (bAnd (bUshr (a0 - (bAnd (bUshr a0 1) 1431655765)) 2) 858993459)) + (bUshr ((bAnd (a0 - (bAnd (bUshr a0 1) 1431655765)) 858993459) + (bAnd (bUshr (a0 - (bAnd (bUshr a0 1) 1431655765)) 2) 858993459)) 4)) 252645135) + (bUshr (bAnd (((bAnd (a0 - (bAnd (bUshr a0 1) 1431655765)) 858993459) + (bAnd (bUshr (a0 - (bAnd (bUshr a0 1) 1431655765)) 2) 858993459)) + (bUshr ((bAnd (a0 - (bAnd (bUshr a0 1) 1431655765)) 858993459) + (bAnd (bUshr (a0 - (bAnd (bUshr a0 1) 1431655765)) 2) 858993459)) 4)) 252645135) 8)) + (bUshr ((bAnd (((bAnd (a0 - (bAnd (bUshr a0 1) 1431655765)) 858993459) + (bAnd (bUshr (a0 - (bAnd (bUshr a0 1) 1431655765)) 2) 858993459)) + (bUshr ((bAnd (a0 - (bAnd (bUshr a0 1) 1431655765)) 858993459) + (bAnd (bUshr (a0 - (bAnd (bUshr a0 1) 1431655765)) 2) 858993459)) 4)) 252645135) + (bUshr (bAnd (((bAnd (a0 - (bAnd (bUshr a0 1) 1431655765)) 858993459) + (bAnd (bUshr (a0 - (bAnd (bUshr a0 1) 1431655765)) 2) 858993459)) + (bUshr ((bAnd (a0 - (bAnd (bUshr a0 1) 1431655765)) 858993459) + (bAnd (bUshr (a0 - (bAnd (bUshr a0 1) 1431655765)) 2) 858993459)) 4)) 252645135) 8)) 16)) 63) M
set_option maxHeartbeats 4000000 in
set_option maxRecDepth 100000 in
theorem c_J6_bitCount_0f7a4 (l : Launch) (X : Cx) (hI : Inj X) (a0 : Int) (M : Mem) (Q : Int → Mem → Prop) (h : wp_J6_bitCount_0f7a4 a0 M Q) : MI X l yJ6_bitCount_0f7a4 cJ6_bitCount_0f7a4 1 (some .int) 0 [.int (jI a0)] M Q := by
  refine MI.of hI (by decide) (Nat.le_of_ble_eq_true rfl) ?_
  intro p e R s m args below meth c ls E hW hl
  have E : En X (AW X) 0 p R s m args meth c cJ6_bitCount_0f7a4 RJ6 1 (some .int) 0 0 := E
  have hl : lv_has ls 1 [(0, .int (jI a0))] := hl
  unfold wp_J6_bitCount_0f7a4 at h
  refine q_iload_n (n := 1) (q := 0) E.1 hl rfl dJ6_bitCount_0f7a4_0 rfl rfl ?_
  refine q_iload_n (n := 2) (q := 0) E.1 hl rfl dJ6_bitCount_0f7a4_1 rfl rfl ?_
  refine q_iconst (n := 3) E.1 dJ6_bitCount_0f7a4_2 rfl ?_
  refine q_iushr (n := 4) E.1 dJ6_bitCount_0f7a4_3 rfl ?_
  refine q_ldcw (n := 7) (z := 1431655765) E.1 w348 (by decide) dJ6_bitCount_0f7a4_4 rfl ?_
  refine q_iand (n := 8) E.1 dJ6_bitCount_0f7a4_7 rfl ?_
  refine q_isub (n := 9) E.1 dJ6_bitCount_0f7a4_8 rfl ?_
  refine q_istore_n (n := 10) [(0, .int (jI (a0 - (bAnd (bUshr a0 1) 1431655765))))] E.1 hl dJ6_bitCount_0f7a4_9 rfl (by decide) rfl rfl (fun ls hl => ?_)
  refine q_iload_n (n := 11) (q := 0) E.1 hl rfl dJ6_bitCount_0f7a4_10 rfl rfl ?_
  refine q_ldcw (n := 14) (z := 858993459) E.1 w349 (by decide) dJ6_bitCount_0f7a4_11 rfl ?_
  refine q_iand (n := 15) E.1 dJ6_bitCount_0f7a4_14 rfl ?_
  refine q_iload_n (n := 16) (q := 0) E.1 hl rfl dJ6_bitCount_0f7a4_15 rfl rfl ?_
  refine q_iconst (n := 17) E.1 dJ6_bitCount_0f7a4_16 rfl ?_
  refine q_iushr (n := 18) E.1 dJ6_bitCount_0f7a4_17 rfl ?_
  refine q_ldcw (n := 21) (z := 858993459) E.1 w349 (by decide) dJ6_bitCount_0f7a4_18 rfl ?_
  refine q_iand (n := 22) E.1 dJ6_bitCount_0f7a4_21 rfl ?_
  refine q_iadd (n := 23) E.1 dJ6_bitCount_0f7a4_22 rfl ?_
  refine q_istore_n (n := 24) [(0, .int (jI ((bAnd (a0 - (bAnd (bUshr a0 1) 1431655765)) 858993459) + (bAnd (bUshr (a0 - (bAnd (bUshr a0 1) 1431655765)) 2) 858993459))))] E.1 hl dJ6_bitCount_0f7a4_23 rfl (by decide) rfl rfl (fun ls hl => ?_)
  refine q_iload_n (n := 25) (q := 0) E.1 hl rfl dJ6_bitCount_0f7a4_24 rfl rfl ?_
  refine q_iload_n (n := 26) (q := 0) E.1 hl rfl dJ6_bitCount_0f7a4_25 rfl rfl ?_
  refine q_iconst (n := 27) E.1 dJ6_bitCount_0f7a4_26 rfl ?_
  refine q_iushr (n := 28) E.1 dJ6_bitCount_0f7a4_27 rfl ?_
  refine q_iadd (n := 29) E.1 dJ6_bitCount_0f7a4_28 rfl ?_
  refine q_ldcw (n := 32) (z := 252645135) E.1 w350 (by decide) dJ6_bitCount_0f7a4_29 rfl ?_
  refine q_iand (n := 33) E.1 dJ6_bitCount_0f7a4_32 rfl ?_
  refine q_istore_n (n := 34) [(0, .int (jI (bAnd (((bAnd (a0 - (bAnd (bUshr a0 1) 1431655765)) 858993459) + (bAnd (bUshr (a0 - (bAnd (bUshr a0 1) 1431655765)) 2) 858993459)) + (bUshr ((bAnd (a0 - (bAnd (bUshr a0 1) 1431655765)) 858993459) + (bAnd (bUshr (a0 - (bAnd (bUshr a0 1) 1431655765)) 2) 858993459)) 4)) 252645135)))] E.1 hl dJ6_bitCount_0f7a4_33 rfl (by decide) rfl rfl (fun ls hl => ?_)
  refine q_iload_n (n := 35) (q := 0) E.1 hl rfl dJ6_bitCount_0f7a4_34 rfl rfl ?_
  refine q_iload_n (n := 36) (q := 0) E.1 hl rfl dJ6_bitCount_0f7a4_35 rfl rfl ?_
  refine q_bipush (n := 38) E.1 dJ6_bitCount_0f7a4_36 (by decide) rfl ?_
  refine q_iushr (n := 39) E.1 dJ6_bitCount_0f7a4_38 rfl ?_
  refine q_iadd (n := 40) E.1 dJ6_bitCount_0f7a4_39 rfl ?_
  refine q_istore_n (n := 41) [(0, .int (jI ((bAnd (((bAnd (a0 - (bAnd (bUshr a0 1) 1431655765)) 858993459) + (bAnd (bUshr (a0 - (bAnd (bUshr a0 1) 1431655765)) 2) 858993459)) + (bUshr ((bAnd (a0 - (bAnd (bUshr a0 1) 1431655765)) 858993459) + (bAnd (bUshr (a0 - (bAnd (bUshr a0 1) 1431655765)) 2) 858993459)) 4)) 252645135) + (bUshr (bAnd (((bAnd (a0 - (bAnd (bUshr a0 1) 1431655765)) 858993459) + (bAnd (bUshr (a0 - (bAnd (bUshr a0 1) 1431655765)) 2) 858993459)) + (bUshr ((bAnd (a0 - (bAnd (bUshr a0 1) 1431655765)) 858993459) + (bAnd (bUshr (a0 - (bAnd (bUshr a0 1) 1431655765)) 2) 858993459)) 4)) 252645135) 8))))] E.1 hl dJ6_bitCount_0f7a4_40 rfl (by decide) rfl rfl (fun ls hl => ?_)
  refine q_iload_n (n := 42) (q := 0) E.1 hl rfl dJ6_bitCount_0f7a4_41 rfl rfl ?_
  refine q_iload_n (n := 43) (q := 0) E.1 hl rfl dJ6_bitCount_0f7a4_42 rfl rfl ?_
  refine q_bipush (n := 45) E.1 dJ6_bitCount_0f7a4_43 (by decide) rfl ?_
  refine q_iushr (n := 46) E.1 dJ6_bitCount_0f7a4_45 rfl ?_
  refine q_iadd (n := 47) E.1 dJ6_bitCount_0f7a4_46 rfl ?_
  refine q_istore_n (n := 48) [(0, .int (jI (((bAnd (((bAnd (a0 - (bAnd (bUshr a0 1) 1431655765)) 858993459) + (bAnd (bUshr (a0 - (bAnd (bUshr a0 1) 1431655765)) 2) 858993459)) + (bUshr ((bAnd (a0 - (bAnd (bUshr a0 1) 1431655765)) 858993459) + (bAnd (bUshr (a0 - (bAnd (bUshr a0 1) 1431655765)) 2) 858993459)) 4)) 252645135) + (bUshr (bAnd (((bAnd (a0 - (bAnd (bUshr a0 1) 1431655765)) 858993459) + (bAnd (bUshr (a0 - (bAnd (bUshr a0 1) 1431655765)) 2) 858993459)) + (bUshr ((bAnd (a0 - (bAnd (bUshr a0 1) 1431655765)) 858993459) + (bAnd (bUshr (a0 - (bAnd (bUshr a0 1) 1431655765)) 2) 858993459)) 4)) 252645135) 8)) + (bUshr ((bAnd (((bAnd (a0 - (bAnd (bUshr a0 1) 1431655765)) 858993459) + (bAnd (bUshr (a0 - (bAnd (bUshr a0 1) 1431655765)) 2) 858993459)) + (bUshr ((bAnd (a0 - (bAnd (bUshr a0 1) 1431655765)) 858993459) + (bAnd (bUshr (a0 - (bAnd (bUshr a0 1) 1431655765)) 2) 858993459)) 4)) 252645135) + (bUshr (bAnd (((bAnd (a0 - (bAnd (bUshr a0 1) 1431655765)) 858993459) + (bAnd (bUshr (a0 - (bAnd (bUshr a0 1) 1431655765)) 2) 858993459)) + (bUshr ((bAnd (a0 - (bAnd (bUshr a0 1) 1431655765)) 858993459) + (bAnd (bUshr (a0 - (bAnd (bUshr a0 1) 1431655765)) 2) 858993459)) 4)) 252645135) 8)) 16))))] E.1 hl dJ6_bitCount_0f7a4_47 rfl (by decide) rfl rfl (fun ls hl => ?_)
  refine q_iload_n (n := 49) (q := 0) E.1 hl rfl dJ6_bitCount_0f7a4_48 rfl rfl ?_
  refine q_bipush (n := 51) E.1 dJ6_bitCount_0f7a4_49 (by decide) rfl ?_
  refine q_iand (n := 52) E.1 dJ6_bitCount_0f7a4_51 rfl ?_
  exact q_iret E hW h dJ6_bitCount_0f7a4_52
/-! StickerPress$Names.textWidth()I -/
theorem dX2_textWidth_0 : decode cX2_textWidth 0 = .ok (.iconst 0, 1) := by decide +kernel
theorem dX2_textWidth_1 : decode cX2_textWidth 1 = .ok (.istore_n 1, 1) := by decide +kernel
theorem dX2_textWidth_2 : decode cX2_textWidth 2 = .ok (.iconst 0, 1) := by decide +kernel
theorem dX2_textWidth_3 : decode cX2_textWidth 3 = .ok (.istore_n 2, 1) := by decide +kernel
theorem dX2_textWidth_4 : decode cX2_textWidth 4 = .ok (.iload_n 2, 1) := by decide +kernel
theorem dX2_textWidth_5 : decode cX2_textWidth 5 = .ok (.aload_n 0, 1) := by decide +kernel
theorem dX2_textWidth_6 : decode cX2_textWidth 6 = .ok (.getfield 27, 3) := by decide +kernel
theorem dX2_textWidth_9 : decode cX2_textWidth 9 = .ok (.invokevirtual 41, 3) := by decide +kernel
theorem dX2_textWidth_12 : decode cX2_textWidth 12 = .ok (.if_icmp .ge 42, 3) := by decide +kernel
theorem dX2_textWidth_15 : decode cX2_textWidth 15 = .ok (.aload_n 0, 1) := by decide +kernel
theorem dX2_textWidth_16 : decode cX2_textWidth 16 = .ok (.getfield 27, 3) := by decide +kernel
theorem dX2_textWidth_19 : decode cX2_textWidth 19 = .ok (.iload_n 2, 1) := by decide +kernel
theorem dX2_textWidth_20 : decode cX2_textWidth 20 = .ok (.invokevirtual 88, 3) := by decide +kernel
theorem dX2_textWidth_23 : decode cX2_textWidth 23 = .ok (.istore_n 3, 1) := by decide +kernel
theorem dX2_textWidth_24 : decode cX2_textWidth 24 = .ok (.iload_n 3, 1) := by decide +kernel
theorem dX2_textWidth_25 : decode cX2_textWidth 25 = .ok (.bipush 32, 2) := by decide +kernel
theorem dX2_textWidth_27 : decode cX2_textWidth 27 = .ok (.if_icmp .lt 21, 3) := by decide +kernel
theorem dX2_textWidth_30 : decode cX2_textWidth 30 = .ok (.iload_n 3, 1) := by decide +kernel
theorem dX2_textWidth_31 : decode cX2_textWidth 31 = .ok (.bipush 126, 2) := by decide +kernel
theorem dX2_textWidth_33 : decode cX2_textWidth 33 = .ok (.if_icmp .gt 15, 3) := by decide +kernel
theorem dX2_textWidth_36 : decode cX2_textWidth 36 = .ok (.iload_n 1, 1) := by decide +kernel
theorem dX2_textWidth_37 : decode cX2_textWidth 37 = .ok (.aload_n 0, 1) := by decide +kernel
theorem dX2_textWidth_38 : decode cX2_textWidth 38 = .ok (.getfield 9, 3) := by decide +kernel
theorem dX2_textWidth_41 : decode cX2_textWidth 41 = .ok (.iload_n 3, 1) := by decide +kernel
theorem dX2_textWidth_42 : decode cX2_textWidth 42 = .ok (.bipush 32, 2) := by decide +kernel
theorem dX2_textWidth_44 : decode cX2_textWidth 44 = .ok (.isub, 1) := by decide +kernel
theorem dX2_textWidth_45 : decode cX2_textWidth 45 = .ok (.iaload, 1) := by decide +kernel
theorem dX2_textWidth_46 : decode cX2_textWidth 46 = .ok (.iadd, 1) := by decide +kernel
theorem dX2_textWidth_47 : decode cX2_textWidth 47 = .ok (.istore_n 1, 1) := by decide +kernel
theorem dX2_textWidth_48 : decode cX2_textWidth 48 = .ok (.iinc 2 1, 3) := by decide +kernel
theorem dX2_textWidth_51 : decode cX2_textWidth 51 = .ok (.goto (-47), 3) := by decide +kernel
theorem dX2_textWidth_54 : decode cX2_textWidth 54 = .ok (.iload_n 1, 1) := by decide +kernel
theorem dX2_textWidth_55 : decode cX2_textWidth 55 = .ok (.ireturn, 1) := by decide +kernel
def wp_X2_textWidth_4 (Q : Int → Mem → Prop) : Nat → Int → Int → Mem → Prop
  | 0, _, _, _ => False
  | n + 1, x1, x2, M => wp_X4_size 28 M (fun r2 M1 => (Rg x2 ∧ Rg r2 ∧ (r2 ≤ x2 → Q x1 M1) ∧ (¬ (r2 ≤ x2) → wp_X4_at 28 x2 M1 (fun r9 M8 => (Rg r9 ∧ (r9 < 32 → wp_X2_textWidth_4 Q n x1 (x2 + 1) M8) ∧ (¬ (r9 < 32) → (Rg r9 ∧ (126 < r9 → wp_X2_textWidth_4 Q n x1 (x2 + 1) M8) ∧ (¬ (126 < r9) → (0 ≤ (r9 - 32) ∧ (r9 - 32) < 95) ∧ wp_X2_textWidth_4 Q n (x1 + (M8 44 (r9 - 32).toNat)) (x2 + 1) M8))))))))
set_option maxHeartbeats 4000000 in
set_option maxRecDepth 100000 in
theorem v_X2_textWidth_4 (E : En X (AW X) 1 p R s m args meth c cX2_textWidth RX2 4 (some .int) 0 0) (Q : Int → Mem → Prop) : ∀ n : Nat, ∀ (x1 x2 : Int) (M : Mem) (H : Heap) (locs : List Loc) (ls : Array Slot), wp_X2_textWidth_4 Q n x1 x2 M → Wd X (AW X) s M H locs → lv_has ls 4 [(0, .ref (xA X 43)), (1, .int (jI x1)), (2, .int (jI x2))] → W p l e R s m args below meth c H locs 0 0 (MQ below (QI X Q) args s 0 0 (AW X)) (F0 m 4 ls []) := by
  intro n
  induction n with
  | zero => intro x1 x2 M H locs ls h; exact absurd h (by simp [wp_X2_textWidth_4])
  | succ n ih =>
    intro x1 x2 M H locs ls h hW hl
    rw [wp_X2_textWidth_4] at h
    refine q_iload_n (n := 5) (q := 2) E.1 hl rfl dX2_textWidth_4 rfl rfl ?_
    refine q_aload_n (n := 6) (q := 0) E.1 hl rfl dX2_textWidth_5 rfl rfl ?_
    refine q_get (n := 9) (k := 3) (fs := (fs43 X)) (v := .ref (xA X 28)) E hW (by decide) (fun _ => rfl) K2 (by decide) w92 rfl rfl dX2_textWidth_6 rfl ?_
    refine q_callVi (n := 12) (fs := (fsRow X 28)) [] E hW hl.1 (isRow_lt (by decide)) (ent_row X (by decide)) K4 (c_X4_size l X E.2.2.1.1 28 (by decide) _ _ h) (by decide) Y_RX2_41 rfl (rest := [.int (jI x2)]) rfl (Nat.le_of_ble_eq_true rfl) dX2_textWidth_9 rfl (fun r2 M1 H locs h hW => ?_)
    obtain ⟨g3, g4, h5, h6⟩ := h
    refine q_icmp_ge (t := 54) (n := 15) E.1 g3 g4 dX2_textWidth_12 (by decide) rfl (fun c7 => ?_) (fun c7 => ?_)
    · have h := h5 c7
      refine q_iload_n (n := 55) (q := 1) E.1 hl rfl dX2_textWidth_54 rfl rfl ?_
      exact q_iret E hW h dX2_textWidth_55
    · have h := h6 c7
      refine q_aload_n (n := 16) (q := 0) E.1 hl rfl dX2_textWidth_15 rfl rfl ?_
      refine q_get (n := 19) (k := 3) (fs := (fs43 X)) (v := .ref (xA X 28)) E hW (by decide) (fun _ => rfl) K2 (by decide) w92 rfl rfl dX2_textWidth_16 rfl ?_
      refine q_iload_n (n := 20) (q := 2) E.1 hl rfl dX2_textWidth_19 rfl rfl ?_
      refine q_callVi (n := 23) (fs := (fsRow X 28)) [.int (jI x2)] E hW hl.1 (isRow_lt (by decide)) (ent_row X (by decide)) K4 (c_X4_at l X E.2.2.1.1 28 x2 (by decide) _ _ h) (by decide) Y_RX2_88 rfl (rest := []) rfl (Nat.le_of_ble_eq_true rfl) dX2_textWidth_20 rfl (fun r9 M8 H locs h hW => ?_)
      refine q_istore_n (n := 24) [(3, .int (jI r9)), (0, .ref (xA X 43)), (1, .int (jI x1)), (2, .int (jI x2))] E.1 hl dX2_textWidth_23 rfl (by decide) rfl rfl (fun ls hl => ?_)
      refine q_iload_n (n := 25) (q := 0) E.1 hl rfl dX2_textWidth_24 rfl rfl ?_
      refine q_bipush (n := 27) E.1 dX2_textWidth_25 (by decide) rfl ?_
      obtain ⟨g10, h11, h12⟩ := h
      refine q_icmp_lt (t := 48) (n := 30) E.1 g10 (by decide) dX2_textWidth_27 (by decide) rfl (fun c13 => ?_) (fun c13 => ?_)
      · have h := h11 c13
        refine q_iinc (n := 51) (q := 3) [(2, .int (jI (x2 + 1))), (3, .int (jI r9)), (0, .ref (xA X 43)), (1, .int (jI x1))] E.1 hl rfl dX2_textWidth_48 (by decide) rfl rfl (fun ls hl => ?_)
        refine q_goto (n := 4) E.1 dX2_textWidth_51 (by decide) ?_
        exact ih _ _ _ _ _ _ h hW (lv_sub hl [2, 3, 0] rfl)
      · have h := h12 c13
        refine q_iload_n (n := 31) (q := 0) E.1 hl rfl dX2_textWidth_30 rfl rfl ?_
        refine q_bipush (n := 33) E.1 dX2_textWidth_31 (by decide) rfl ?_
        obtain ⟨g14, h15, h16⟩ := h
        refine q_icmp_gt (t := 48) (n := 36) E.1 g14 (by decide) dX2_textWidth_33 (by decide) rfl (fun c17 => ?_) (fun c17 => ?_)
        · have h := h15 c17
          refine q_iinc (n := 51) (q := 3) [(2, .int (jI (x2 + 1))), (3, .int (jI r9)), (0, .ref (xA X 43)), (1, .int (jI x1))] E.1 hl rfl dX2_textWidth_48 (by decide) rfl rfl (fun ls hl => ?_)
          refine q_goto (n := 4) E.1 dX2_textWidth_51 (by decide) ?_
          exact ih _ _ _ _ _ _ h hW (lv_sub hl [2, 3, 0] rfl)
        · have h := h16 c17
          refine q_iload_n (n := 37) (q := 2) E.1 hl rfl dX2_textWidth_36 rfl rfl ?_
          refine q_aload_n (n := 38) (q := 1) E.1 hl rfl dX2_textWidth_37 rfl rfl ?_
          refine q_get (n := 41) (k := 0) (fs := (fs43 X)) (v := .ref (xA X 44)) E hW (by decide) (fun _ => rfl) K2 (by decide) w89 rfl rfl dX2_textWidth_38 rfl ?_
          refine q_iload_n (n := 42) (q := 0) E.1 hl rfl dX2_textWidth_41 rfl rfl ?_
          refine q_bipush (n := 44) E.1 dX2_textWidth_42 (by decide) rfl ?_
          refine q_isub (n := 45) E.1 dX2_textWidth_44 rfl ?_
          obtain ⟨g18, h⟩ := h
          refine q_iald (n := 46) E hW (by decide) (fun _ => rfl) (by decide) g18 dX2_textWidth_45 rfl ?_
          refine q_iadd (n := 47) E.1 dX2_textWidth_46 rfl ?_
          refine q_istore_n (n := 48) [(1, .int (jI (x1 + (M8 44 (r9 - 32).toNat)))), (3, .int (jI r9)), (0, .ref (xA X 43)), (2, .int (jI x2))] E.1 hl dX2_textWidth_47 rfl (by decide) rfl rfl (fun ls hl => ?_)
          refine q_iinc (n := 51) (q := 3) [(2, .int (jI (x2 + 1))), (1, .int (jI (x1 + (M8 44 (r9 - 32).toNat)))), (3, .int (jI r9)), (0, .ref (xA X 43))] E.1 hl rfl dX2_textWidth_48 (by decide) rfl rfl (fun ls hl => ?_)
          refine q_goto (n := 4) E.1 dX2_textWidth_51 (by decide) ?_
          exact ih _ _ _ _ _ _ h hW (lv_sub hl [3, 1, 0] rfl)
def wp_X2_textWidth (M : Mem) (Q : Int → Mem → Prop) : Prop := (∃ n : Nat, wp_X2_textWidth_4 Q n 0 0 M)
set_option maxHeartbeats 4000000 in
set_option maxRecDepth 100000 in
theorem c_X2_textWidth (l : Launch) (X : Cx) (hI : Inj X) (M : Mem) (Q : Int → Mem → Prop) (h : wp_X2_textWidth M Q) : MI X l yX2_textWidth cX2_textWidth 4 (some .int) 1 [.ref (xA X 43)] M Q := by
  refine MI.of hI (by decide) (Nat.le_of_ble_eq_true rfl) ?_
  intro p e R s m args below meth c ls E hW hl
  have E : En X (AW X) 1 p R s m args meth c cX2_textWidth RX2 4 (some .int) 0 0 := E
  have hl : lv_has ls 4 [(0, .ref (xA X 43))] := hl
  unfold wp_X2_textWidth at h
  refine q_iconst (n := 1) E.1 dX2_textWidth_0 rfl ?_
  refine q_istore_n (n := 2) [(1, .int (jI 0)), (0, .ref (xA X 43))] E.1 hl dX2_textWidth_1 rfl (by decide) rfl rfl (fun ls hl => ?_)
  refine q_iconst (n := 3) E.1 dX2_textWidth_2 rfl ?_
  refine q_istore_n (n := 4) [(2, .int (jI 0)), (1, .int (jI 0)), (0, .ref (xA X 43))] E.1 hl dX2_textWidth_3 rfl (by decide) rfl rfl (fun ls hl => ?_)
  obtain ⟨n1, h⟩ := h
  exact v_X2_textWidth_4 E Q n1 _ _ _ _ _ _ h hW (lv_sub hl [2, 1, 0] rfl)
/-! StickerPress$Names.bestSet(LStickerPress$Row;I)I -/
theorem dX2_bestSet_0 : decode cX2_bestSet 0 = .ok (.iconst (-1), 1) := by decide +kernel
theorem dX2_bestSet_1 : decode cX2_bestSet 1 = .ok (.istore_n 3, 1) := by decide +kernel
theorem dX2_bestSet_2 : decode cX2_bestSet 2 = .ok (.bipush 6, 2) := by decide +kernel
theorem dX2_bestSet_4 : decode cX2_bestSet 4 = .ok (.istore 4, 2) := by decide +kernel
theorem dX2_bestSet_6 : decode cX2_bestSet 6 = .ok (.iconst (-1), 1) := by decide +kernel
theorem dX2_bestSet_7 : decode cX2_bestSet 7 = .ok (.istore 5, 2) := by decide +kernel
theorem dX2_bestSet_9 : decode cX2_bestSet 9 = .ok (.iconst 0, 1) := by decide +kernel
theorem dX2_bestSet_10 : decode cX2_bestSet 10 = .ok (.istore 6, 2) := by decide +kernel
theorem dX2_bestSet_12 : decode cX2_bestSet 12 = .ok (.iload 6, 2) := by decide +kernel
theorem dX2_bestSet_14 : decode cX2_bestSet 14 = .ok (.bipush 64, 2) := by decide +kernel
theorem dX2_bestSet_16 : decode cX2_bestSet 16 = .ok (.if_icmp .ge 85, 3) := by decide +kernel
theorem dX2_bestSet_19 : decode cX2_bestSet 19 = .ok (.iload 6, 2) := by decide +kernel
theorem dX2_bestSet_21 : decode cX2_bestSet 21 = .ok (.invokestatic 74, 3) := by decide +kernel
theorem dX2_bestSet_24 : decode cX2_bestSet 24 = .ok (.istore 7, 2) := by decide +kernel
theorem dX2_bestSet_26 : decode cX2_bestSet 26 = .ok (.iload 6, 2) := by decide +kernel
theorem dX2_bestSet_28 : decode cX2_bestSet 28 = .ok (.aload_n 0, 1) := by decide +kernel
theorem dX2_bestSet_29 : decode cX2_bestSet 29 = .ok (.getfield 34, 3) := by decide +kernel
theorem dX2_bestSet_32 : decode cX2_bestSet 32 = .ok (.iconst (-1), 1) := by decide +kernel
theorem dX2_bestSet_33 : decode cX2_bestSet 33 = .ok (.ixor, 1) := by decide +kernel
theorem dX2_bestSet_34 : decode cX2_bestSet 34 = .ok (.iand, 1) := by decide +kernel
theorem dX2_bestSet_35 : decode cX2_bestSet 35 = .ok (.ifCond .ne 60, 3) := by decide +kernel
theorem dX2_bestSet_38 : decode cX2_bestSet 38 = .ok (.iload 7, 2) := by decide +kernel
theorem dX2_bestSet_40 : decode cX2_bestSet 40 = .ok (.iload 4, 2) := by decide +kernel
theorem dX2_bestSet_42 : decode cX2_bestSet 42 = .ok (.if_icmp .gt 53, 3) := by decide +kernel
theorem dX2_bestSet_45 : decode cX2_bestSet 45 = .ok (.aload_n 0, 1) := by decide +kernel
theorem dX2_bestSet_46 : decode cX2_bestSet 46 = .ok (.aload_n 1, 1) := by decide +kernel
theorem dX2_bestSet_47 : decode cX2_bestSet 47 = .ok (.iload 6, 2) := by decide +kernel
theorem dX2_bestSet_49 : decode cX2_bestSet 49 = .ok (.invokevirtual 64, 3) := by decide +kernel
theorem dX2_bestSet_52 : decode cX2_bestSet 52 = .ok (.ifCond .ne 6, 3) := by decide +kernel
theorem dX2_bestSet_55 : decode cX2_bestSet 55 = .ok (.goto 40, 3) := by decide +kernel
theorem dX2_bestSet_58 : decode cX2_bestSet 58 = .ok (.aload_n 0, 1) := by decide +kernel
theorem dX2_bestSet_59 : decode cX2_bestSet 59 = .ok (.invokevirtual 71, 3) := by decide +kernel
theorem dX2_bestSet_62 : decode cX2_bestSet 62 = .ok (.istore 8, 2) := by decide +kernel
theorem dX2_bestSet_64 : decode cX2_bestSet 64 = .ok (.iload 8, 2) := by decide +kernel
theorem dX2_bestSet_66 : decode cX2_bestSet 66 = .ok (.iload_n 2, 1) := by decide +kernel
theorem dX2_bestSet_67 : decode cX2_bestSet 67 = .ok (.if_icmp .gt 28, 3) := by decide +kernel
theorem dX2_bestSet_70 : decode cX2_bestSet 70 = .ok (.iload 7, 2) := by decide +kernel
theorem dX2_bestSet_72 : decode cX2_bestSet 72 = .ok (.iload 4, 2) := by decide +kernel
theorem dX2_bestSet_74 : decode cX2_bestSet 74 = .ok (.if_icmp .lt 10, 3) := by decide +kernel
theorem dX2_bestSet_77 : decode cX2_bestSet 77 = .ok (.iload 8, 2) := by decide +kernel
theorem dX2_bestSet_79 : decode cX2_bestSet 79 = .ok (.iload 5, 2) := by decide +kernel
theorem dX2_bestSet_81 : decode cX2_bestSet 81 = .ok (.if_icmp .le 14, 3) := by decide +kernel
theorem dX2_bestSet_84 : decode cX2_bestSet 84 = .ok (.iload 6, 2) := by decide +kernel
theorem dX2_bestSet_86 : decode cX2_bestSet 86 = .ok (.istore_n 3, 1) := by decide +kernel
theorem dX2_bestSet_87 : decode cX2_bestSet 87 = .ok (.iload 7, 2) := by decide +kernel
theorem dX2_bestSet_89 : decode cX2_bestSet 89 = .ok (.istore 4, 2) := by decide +kernel
theorem dX2_bestSet_91 : decode cX2_bestSet 91 = .ok (.iload 8, 2) := by decide +kernel
theorem dX2_bestSet_93 : decode cX2_bestSet 93 = .ok (.istore 5, 2) := by decide +kernel
theorem dX2_bestSet_95 : decode cX2_bestSet 95 = .ok (.iinc 6 1, 3) := by decide +kernel
theorem dX2_bestSet_98 : decode cX2_bestSet 98 = .ok (.goto (-86), 3) := by decide +kernel
theorem dX2_bestSet_101 : decode cX2_bestSet 101 = .ok (.iload_n 3, 1) := by decide +kernel
theorem dX2_bestSet_102 : decode cX2_bestSet 102 = .ok (.ireturn, 1) := by decide +kernel
theorem Y_RX2_64 : YV RX2 64 RX2 yX2_applySet cX2_applySet 4 (some .boolean) 2 := ⟨w354, w351, w353, w2, w46, by decide +kernel, by decide⟩
theorem Y_RX2_71 : YV RX2 71 RX2 yX2_textWidth cX2_textWidth 4 (some .int) 0 := ⟨w374, w371, w373, w4, w46, by decide +kernel, by decide⟩
theorem Y_RX2_74 : YS RX2 74 yJ6_bitCount_0f7a4 cJ6_bitCount_0f7a4 1 (some .int) 1 := ⟨w347, w345, w346, w53, by decide +kernel, by decide⟩
def wp_X2_bestSet_12 (a1 : Nat) (a2 : Int) (Q : Int → Mem → Prop) : Nat → Int → Int → Int → Int → Mem → Prop
  | 0, _, _, _, _, _ => False
  | n + 1, x3, x4, x5, x6, M => (Rg x6 ∧ (64 ≤ x6 → Q x3 M) ∧ (¬ (64 ≤ x6) → wp_J6_bitCount_0f7a4 x6 M (fun r6 M5 => (Rg (bAnd x6 (bXor (M5 43 5) (-1))) ∧ ((bAnd x6 (bXor (M5 43 5) (-1))) ≠ 0 → wp_X2_bestSet_12 a1 a2 Q n x3 x4 x5 (x6 + 1) M5) ∧ (¬ ((bAnd x6 (bXor (M5 43 5) (-1))) ≠ 0) → (Rg r6 ∧ Rg x4 ∧ (x4 < r6 → wp_X2_bestSet_12 a1 a2 Q n x3 x4 x5 (x6 + 1) M5) ∧ (¬ (x4 < r6) → wp_X2_applySet a1 x6 M5 (fun r17 M16 => (Rg r17 ∧ (r17 ≠ 0 → wp_X2_textWidth  M16 (fun r23 M22 => (Rg r23 ∧ Rg a2 ∧ (a2 < r23 → wp_X2_bestSet_12 a1 a2 Q n x3 x4 x5 (x6 + 1) M22) ∧ (¬ (a2 < r23) → (Rg r6 ∧ Rg x4 ∧ (r6 < x4 → wp_X2_bestSet_12 a1 a2 Q n x6 r6 r23 (x6 + 1) M22) ∧ (¬ (r6 < x4) → (Rg r23 ∧ Rg x5 ∧ (r23 ≤ x5 → wp_X2_bestSet_12 a1 a2 Q n x3 x4 x5 (x6 + 1) M22) ∧ (¬ (r23 ≤ x5) → wp_X2_bestSet_12 a1 a2 Q n x6 r6 r23 (x6 + 1) M22)))))))) ∧ (¬ (r17 ≠ 0) → wp_X2_bestSet_12 a1 a2 Q n x3 x4 x5 (x6 + 1) M16))))))))))
set_option maxHeartbeats 4000000 in
set_option maxRecDepth 100000 in
theorem v_X2_bestSet_12 (a1 : Nat) (a2 : Int) (ha1 : isRow a1) (E : En X (AW X) 4 p R s m args meth c cX2_bestSet RX2 9 (some .int) 0 0) (Q : Int → Mem → Prop) : ∀ n : Nat, ∀ (x3 x4 x5 x6 : Int) (M : Mem) (H : Heap) (locs : List Loc) (ls : Array Slot), wp_X2_bestSet_12 a1 a2 Q n x3 x4 x5 x6 M → Wd X (AW X) s M H locs → lv_has ls 9 [(0, .ref (xA X 43)), (1, .ref (xA X a1)), (2, .int (jI a2)), (3, .int (jI x3)), (4, .int (jI x4)), (5, .int (jI x5)), (6, .int (jI x6))] → W p l e R s m args below meth c H locs 0 0 (MQ below (QI X Q) args s 0 0 (AW X)) (F0 m 12 ls []) := by
  intro n
  induction n with
  | zero => intro x3 x4 x5 x6 M H locs ls h; exact absurd h (by simp [wp_X2_bestSet_12])
  | succ n ih =>
    intro x3 x4 x5 x6 M H locs ls h hW hl
    rw [wp_X2_bestSet_12] at h
    refine q_iload (n := 14) (q := 6) E.1 hl rfl dX2_bestSet_12 rfl ?_
    refine q_bipush (n := 16) E.1 dX2_bestSet_14 (by decide) rfl ?_
    obtain ⟨g1, h2, h3⟩ := h
    refine q_icmp_ge (t := 101) (n := 19) E.1 g1 (by decide) dX2_bestSet_16 (by decide) rfl (fun c4 => ?_) (fun c4 => ?_)
    · have h := h2 c4
      refine q_iload_n (n := 102) (q := 3) E.1 hl rfl dX2_bestSet_101 rfl rfl ?_
      exact q_iret E hW h dX2_bestSet_102
    · have h := h3 c4
      refine q_iload (n := 21) (q := 6) E.1 hl rfl dX2_bestSet_19 rfl ?_
      refine q_callSi (n := 24) [.int (jI x6)] E hW hl.1 (c_J6_bitCount_0f7a4 l X E.2.2.1.1 x6  _ _ h) (by decide) Y_RX2_74 rfl (rest := []) rfl (Nat.le_of_ble_eq_true rfl) dX2_bestSet_21 rfl (fun r6 M5 H locs h hW => ?_)
      refine q_istore (n := 26) [(7, .int (jI r6)), (0, .ref (xA X 43)), (1, .ref (xA X a1)), (2, .int (jI a2)), (3, .int (jI x3)), (4, .int (jI x4)), (5, .int (jI x5)), (6, .int (jI x6))] E.1 hl dX2_bestSet_24 (by decide) rfl rfl (fun ls hl => ?_)
      refine q_iload (n := 28) (q := 7) E.1 hl rfl dX2_bestSet_26 rfl ?_
      refine q_aload_n (n := 29) (q := 1) E.1 hl rfl dX2_bestSet_28 rfl rfl ?_
      refine q_get (n := 32) (k := 5) (fs := (fs43 X)) (v := .int (jI (M5 43 5))) E hW (by decide) (fun _ => rfl) K2 (by decide) w94 rfl rfl dX2_bestSet_29 rfl ?_
      refine q_iconst (n := 33) E.1 dX2_bestSet_32 rfl ?_
      refine q_ixor (n := 34) E.1 dX2_bestSet_33 rfl ?_
      refine q_iand (n := 35) E.1 dX2_bestSet_34 rfl ?_
      obtain ⟨g7, h8, h9⟩ := h
      refine q_if_ne (t := 95) (n := 38) E.1 g7 dX2_bestSet_35 (by decide) rfl (fun c10 => ?_) (fun c10 => ?_)
      · have h := h8 c10
        refine q_iinc (n := 98) (q := 7) [(6, .int (jI (x6 + 1))), (7, .int (jI r6)), (0, .ref (xA X 43)), (1, .ref (xA X a1)), (2, .int (jI a2)), (3, .int (jI x3)), (4, .int (jI x4)), (5, .int (jI x5))] E.1 hl rfl dX2_bestSet_95 (by decide) rfl rfl (fun ls hl => ?_)
        refine q_goto (n := 12) E.1 dX2_bestSet_98 (by decide) ?_
        exact ih _ _ _ _ _ _ _ _ h hW (lv_sub hl [2, 3, 4, 5, 6, 7, 0] rfl)
      · have h := h9 c10
        refine q_iload (n := 40) (q := 0) E.1 hl rfl dX2_bestSet_38 rfl ?_
        refine q_iload (n := 42) (q := 5) E.1 hl rfl dX2_bestSet_40 rfl ?_
        obtain ⟨g11, g12, h13, h14⟩ := h
        refine q_icmp_gt (t := 95) (n := 45) E.1 g11 g12 dX2_bestSet_42 (by decide) rfl (fun c15 => ?_) (fun c15 => ?_)
        · have h := h13 c15
          refine q_iinc (n := 98) (q := 7) [(6, .int (jI (x6 + 1))), (7, .int (jI r6)), (0, .ref (xA X 43)), (1, .ref (xA X a1)), (2, .int (jI a2)), (3, .int (jI x3)), (4, .int (jI x4)), (5, .int (jI x5))] E.1 hl rfl dX2_bestSet_95 (by decide) rfl rfl (fun ls hl => ?_)
          refine q_goto (n := 12) E.1 dX2_bestSet_98 (by decide) ?_
          exact ih _ _ _ _ _ _ _ _ h hW (lv_sub hl [2, 3, 4, 5, 6, 7, 0] rfl)
        · have h := h14 c15
          refine q_aload_n (n := 46) (q := 1) E.1 hl rfl dX2_bestSet_45 rfl rfl ?_
          refine q_aload_n (n := 47) (q := 2) E.1 hl rfl dX2_bestSet_46 rfl rfl ?_
          refine q_iload (n := 49) (q := 7) E.1 hl rfl dX2_bestSet_47 rfl ?_
          refine q_callVi (n := 52) (fs := (fs43 X)) [.ref (xA X a1), .int (jI x6)] E hW hl.1 (by decide) (fun _ => rfl) K2 (c_X2_applySet l X E.2.2.1.1 a1 x6 ha1 _ _ h) (by decide) Y_RX2_64 rfl (rest := []) rfl (Nat.le_of_ble_eq_true rfl) dX2_bestSet_49 rfl (fun r17 M16 H locs h hW => ?_)
          obtain ⟨g18, h19, h20⟩ := h
          refine q_if_ne (t := 58) (n := 55) E.1 g18 dX2_bestSet_52 (by decide) rfl (fun c21 => ?_) (fun c21 => ?_)
          · have h := h19 c21
            refine q_aload_n (n := 59) (q := 1) E.1 hl rfl dX2_bestSet_58 rfl rfl ?_
            refine q_callVi (n := 62) (fs := (fs43 X)) [] E hW hl.1 (by decide) (fun _ => rfl) K2 (c_X2_textWidth l X E.2.2.1.1   _ _ h) (by decide) Y_RX2_71 rfl (rest := []) rfl (Nat.le_of_ble_eq_true rfl) dX2_bestSet_59 rfl (fun r23 M22 H locs h hW => ?_)
            refine q_istore (n := 64) [(8, .int (jI r23)), (7, .int (jI r6)), (0, .ref (xA X 43)), (1, .ref (xA X a1)), (2, .int (jI a2)), (3, .int (jI x3)), (4, .int (jI x4)), (5, .int (jI x5)), (6, .int (jI x6))] E.1 hl dX2_bestSet_62 (by decide) rfl rfl (fun ls hl => ?_)
            refine q_iload (n := 66) (q := 0) E.1 hl rfl dX2_bestSet_64 rfl ?_
            refine q_iload_n (n := 67) (q := 4) E.1 hl rfl dX2_bestSet_66 rfl rfl ?_
            obtain ⟨g24, g25, h26, h27⟩ := h
            refine q_icmp_gt (t := 95) (n := 70) E.1 g24 g25 dX2_bestSet_67 (by decide) rfl (fun c28 => ?_) (fun c28 => ?_)
            · have h := h26 c28
              refine q_iinc (n := 98) (q := 8) [(6, .int (jI (x6 + 1))), (8, .int (jI r23)), (7, .int (jI r6)), (0, .ref (xA X 43)), (1, .ref (xA X a1)), (2, .int (jI a2)), (3, .int (jI x3)), (4, .int (jI x4)), (5, .int (jI x5))] E.1 hl rfl dX2_bestSet_95 (by decide) rfl rfl (fun ls hl => ?_)
              refine q_goto (n := 12) E.1 dX2_bestSet_98 (by decide) ?_
              exact ih _ _ _ _ _ _ _ _ h hW (lv_sub hl [3, 4, 5, 6, 7, 8, 0] rfl)
            · have h := h27 c28
              refine q_iload (n := 72) (q := 1) E.1 hl rfl dX2_bestSet_70 rfl ?_
              refine q_iload (n := 74) (q := 6) E.1 hl rfl dX2_bestSet_72 rfl ?_
              obtain ⟨g29, g30, h31, h32⟩ := h
              refine q_icmp_lt (t := 84) (n := 77) E.1 g29 g30 dX2_bestSet_74 (by decide) rfl (fun c33 => ?_) (fun c33 => ?_)
              · have h := h31 c33
                refine q_iload (n := 86) (q := 8) E.1 hl rfl dX2_bestSet_84 rfl ?_
                refine q_istore_n (n := 87) [(3, .int (jI x6)), (8, .int (jI r23)), (7, .int (jI r6)), (0, .ref (xA X 43)), (1, .ref (xA X a1)), (2, .int (jI a2)), (4, .int (jI x4)), (5, .int (jI x5)), (6, .int (jI x6))] E.1 hl dX2_bestSet_86 rfl (by decide) rfl rfl (fun ls hl => ?_)
                refine q_iload (n := 89) (q := 2) E.1 hl rfl dX2_bestSet_87 rfl ?_
                refine q_istore (n := 91) [(4, .int (jI r6)), (3, .int (jI x6)), (8, .int (jI r23)), (7, .int (jI r6)), (0, .ref (xA X 43)), (1, .ref (xA X a1)), (2, .int (jI a2)), (5, .int (jI x5)), (6, .int (jI x6))] E.1 hl dX2_bestSet_89 (by decide) rfl rfl (fun ls hl => ?_)
                refine q_iload (n := 93) (q := 2) E.1 hl rfl dX2_bestSet_91 rfl ?_
                refine q_istore (n := 95) [(5, .int (jI r23)), (4, .int (jI r6)), (3, .int (jI x6)), (8, .int (jI r23)), (7, .int (jI r6)), (0, .ref (xA X 43)), (1, .ref (xA X a1)), (2, .int (jI a2)), (6, .int (jI x6))] E.1 hl dX2_bestSet_93 (by decide) rfl rfl (fun ls hl => ?_)
                refine q_iinc (n := 98) (q := 8) [(6, .int (jI (x6 + 1))), (5, .int (jI r23)), (4, .int (jI r6)), (3, .int (jI x6)), (8, .int (jI r23)), (7, .int (jI r6)), (0, .ref (xA X 43)), (1, .ref (xA X a1)), (2, .int (jI a2))] E.1 hl rfl dX2_bestSet_95 (by decide) rfl rfl (fun ls hl => ?_)
                refine q_goto (n := 12) E.1 dX2_bestSet_98 (by decide) ?_
                exact ih _ _ _ _ _ _ _ _ h hW (lv_sub hl [6, 7, 8, 3, 2, 1, 0] rfl)
              · have h := h32 c33
                refine q_iload (n := 79) (q := 0) E.1 hl rfl dX2_bestSet_77 rfl ?_
                refine q_iload (n := 81) (q := 7) E.1 hl rfl dX2_bestSet_79 rfl ?_
                obtain ⟨g34, g35, h36, h37⟩ := h
                refine q_icmp_le (t := 95) (n := 84) E.1 g34 g35 dX2_bestSet_81 (by decide) rfl (fun c38 => ?_) (fun c38 => ?_)
                · have h := h36 c38
                  refine q_iinc (n := 98) (q := 8) [(6, .int (jI (x6 + 1))), (8, .int (jI r23)), (7, .int (jI r6)), (0, .ref (xA X 43)), (1, .ref (xA X a1)), (2, .int (jI a2)), (3, .int (jI x3)), (4, .int (jI x4)), (5, .int (jI x5))] E.1 hl rfl dX2_bestSet_95 (by decide) rfl rfl (fun ls hl => ?_)
                  refine q_goto (n := 12) E.1 dX2_bestSet_98 (by decide) ?_
                  exact ih _ _ _ _ _ _ _ _ h hW (lv_sub hl [3, 4, 5, 6, 7, 8, 0] rfl)
                · have h := h37 c38
                  refine q_iload (n := 86) (q := 8) E.1 hl rfl dX2_bestSet_84 rfl ?_
                  refine q_istore_n (n := 87) [(3, .int (jI x6)), (8, .int (jI r23)), (7, .int (jI r6)), (0, .ref (xA X 43)), (1, .ref (xA X a1)), (2, .int (jI a2)), (4, .int (jI x4)), (5, .int (jI x5)), (6, .int (jI x6))] E.1 hl dX2_bestSet_86 rfl (by decide) rfl rfl (fun ls hl => ?_)
                  refine q_iload (n := 89) (q := 2) E.1 hl rfl dX2_bestSet_87 rfl ?_
                  refine q_istore (n := 91) [(4, .int (jI r6)), (3, .int (jI x6)), (8, .int (jI r23)), (7, .int (jI r6)), (0, .ref (xA X 43)), (1, .ref (xA X a1)), (2, .int (jI a2)), (5, .int (jI x5)), (6, .int (jI x6))] E.1 hl dX2_bestSet_89 (by decide) rfl rfl (fun ls hl => ?_)
                  refine q_iload (n := 93) (q := 2) E.1 hl rfl dX2_bestSet_91 rfl ?_
                  refine q_istore (n := 95) [(5, .int (jI r23)), (4, .int (jI r6)), (3, .int (jI x6)), (8, .int (jI r23)), (7, .int (jI r6)), (0, .ref (xA X 43)), (1, .ref (xA X a1)), (2, .int (jI a2)), (6, .int (jI x6))] E.1 hl dX2_bestSet_93 (by decide) rfl rfl (fun ls hl => ?_)
                  refine q_iinc (n := 98) (q := 8) [(6, .int (jI (x6 + 1))), (5, .int (jI r23)), (4, .int (jI r6)), (3, .int (jI x6)), (8, .int (jI r23)), (7, .int (jI r6)), (0, .ref (xA X 43)), (1, .ref (xA X a1)), (2, .int (jI a2))] E.1 hl rfl dX2_bestSet_95 (by decide) rfl rfl (fun ls hl => ?_)
                  refine q_goto (n := 12) E.1 dX2_bestSet_98 (by decide) ?_
                  exact ih _ _ _ _ _ _ _ _ h hW (lv_sub hl [6, 7, 8, 3, 2, 1, 0] rfl)
          · have h := h20 c21
            refine q_goto (n := 95) E.1 dX2_bestSet_55 (by decide) ?_
            refine q_iinc (n := 98) (q := 7) [(6, .int (jI (x6 + 1))), (7, .int (jI r6)), (0, .ref (xA X 43)), (1, .ref (xA X a1)), (2, .int (jI a2)), (3, .int (jI x3)), (4, .int (jI x4)), (5, .int (jI x5))] E.1 hl rfl dX2_bestSet_95 (by decide) rfl rfl (fun ls hl => ?_)
            refine q_goto (n := 12) E.1 dX2_bestSet_98 (by decide) ?_
            exact ih _ _ _ _ _ _ _ _ h hW (lv_sub hl [2, 3, 4, 5, 6, 7, 0] rfl)
def wp_X2_bestSet (a1 : Nat) (a2 : Int) (M : Mem) (Q : Int → Mem → Prop) : Prop := (∃ n : Nat, wp_X2_bestSet_12 a1 a2 Q n (-1) 6 (-1) 0 M)
set_option maxHeartbeats 4000000 in
set_option maxRecDepth 100000 in
theorem c_X2_bestSet (l : Launch) (X : Cx) (hI : Inj X) (a1 : Nat) (a2 : Int) (ha1 : isRow a1) (M : Mem) (Q : Int → Mem → Prop) (h : wp_X2_bestSet a1 a2 M Q) : MI X l yX2_bestSet cX2_bestSet 9 (some .int) 4 [.ref (xA X 43), .ref (xA X a1), .int (jI a2)] M Q := by
  refine MI.of hI (by decide) (Nat.le_of_ble_eq_true rfl) ?_
  intro p e R s m args below meth c ls E hW hl
  have E : En X (AW X) 4 p R s m args meth c cX2_bestSet RX2 9 (some .int) 0 0 := E
  have hl : lv_has ls 9 [(0, .ref (xA X 43)), (1, .ref (xA X a1)), (2, .int (jI a2))] := hl
  unfold wp_X2_bestSet at h
  refine q_iconst (n := 1) E.1 dX2_bestSet_0 rfl ?_
  refine q_istore_n (n := 2) [(3, .int (jI (-1))), (0, .ref (xA X 43)), (1, .ref (xA X a1)), (2, .int (jI a2))] E.1 hl dX2_bestSet_1 rfl (by decide) rfl rfl (fun ls hl => ?_)
  refine q_bipush (n := 4) E.1 dX2_bestSet_2 (by decide) rfl ?_
  refine q_istore (n := 6) [(4, .int (jI 6)), (3, .int (jI (-1))), (0, .ref (xA X 43)), (1, .ref (xA X a1)), (2, .int (jI a2))] E.1 hl dX2_bestSet_4 (by decide) rfl rfl (fun ls hl => ?_)
  refine q_iconst (n := 7) E.1 dX2_bestSet_6 rfl ?_
  refine q_istore (n := 9) [(5, .int (jI (-1))), (4, .int (jI 6)), (3, .int (jI (-1))), (0, .ref (xA X 43)), (1, .ref (xA X a1)), (2, .int (jI a2))] E.1 hl dX2_bestSet_7 (by decide) rfl rfl (fun ls hl => ?_)
  refine q_iconst (n := 10) E.1 dX2_bestSet_9 rfl ?_
  refine q_istore (n := 12) [(6, .int (jI 0)), (5, .int (jI (-1))), (4, .int (jI 6)), (3, .int (jI (-1))), (0, .ref (xA X 43)), (1, .ref (xA X a1)), (2, .int (jI a2))] E.1 hl dX2_bestSet_10 (by decide) rfl rfl (fun ls hl => ?_)
  obtain ⟨n1, h⟩ := h
  exact v_X2_bestSet_12 a1 a2 ha1 E Q n1 _ _ _ _ _ _ _ _ h hW (lv_sub hl [4, 5, 6, 3, 2, 1, 0] rfl)
/-! StickerPress$Names.fitText(LStickerPress$Row;ILStickerPress$Row;)I -/
theorem dX2_fitText_0 : decode cX2_fitText 0 = .ok (.iload_n 2, 1) := by decide +kernel
theorem dX2_fitText_1 : decode cX2_fitText 1 = .ok (.ifCond .lt 26, 3) := by decide +kernel
theorem dX2_fitText_4 : decode cX2_fitText 4 = .ok (.iload_n 2, 1) := by decide +kernel
theorem dX2_fitText_5 : decode cX2_fitText 5 = .ok (.sipush 999, 3) := by decide +kernel
theorem dX2_fitText_8 : decode cX2_fitText 8 = .ok (.if_icmp .gt 19, 3) := by decide +kernel
theorem dX2_fitText_11 : decode cX2_fitText 11 = .ok (.aload_n 1, 1) := by decide +kernel
theorem dX2_fitText_12 : decode cX2_fitText 12 = .ok (.invokevirtual 41, 3) := by decide +kernel
theorem dX2_fitText_15 : decode cX2_fitText 15 = .ok (.bipush 30, 2) := by decide +kernel
theorem dX2_fitText_17 : decode cX2_fitText 17 = .ok (.if_icmp .gt 10, 3) := by decide +kernel
theorem dX2_fitText_20 : decode cX2_fitText 20 = .ok (.aload_n 1, 1) := by decide +kernel
theorem dX2_fitText_21 : decode cX2_fitText 21 = .ok (.invokestatic 56, 3) := by decide +kernel
theorem dX2_fitText_24 : decode cX2_fitText 24 = .ok (.ifCond .ne 5, 3) := by decide +kernel
theorem dX2_fitText_27 : decode cX2_fitText 27 = .ok (.iconst (-1), 1) := by decide +kernel
theorem dX2_fitText_28 : decode cX2_fitText 28 = .ok (.ireturn, 1) := by decide +kernel
theorem dX2_fitText_29 : decode cX2_fitText 29 = .ok (.aload_n 0, 1) := by decide +kernel
theorem dX2_fitText_30 : decode cX2_fitText 30 = .ok (.aload_n 1, 1) := by decide +kernel
theorem dX2_fitText_31 : decode cX2_fitText 31 = .ok (.iload_n 2, 1) := by decide +kernel
theorem dX2_fitText_32 : decode cX2_fitText 32 = .ok (.invokevirtual 60, 3) := by decide +kernel
theorem dX2_fitText_35 : decode cX2_fitText 35 = .ok (.istore 4, 2) := by decide +kernel
theorem dX2_fitText_37 : decode cX2_fitText 37 = .ok (.iload 4, 2) := by decide +kernel
theorem dX2_fitText_39 : decode cX2_fitText 39 = .ok (.iconst (-1), 1) := by decide +kernel
theorem dX2_fitText_40 : decode cX2_fitText 40 = .ok (.if_icmp .ne 9, 3) := by decide +kernel
theorem dX2_fitText_43 : decode cX2_fitText 43 = .ok (.aload_n 3, 1) := by decide +kernel
theorem dX2_fitText_44 : decode cX2_fitText 44 = .ok (.invokevirtual 49, 3) := by decide +kernel
theorem dX2_fitText_47 : decode cX2_fitText 47 = .ok (.iconst (-1), 1) := by decide +kernel
theorem dX2_fitText_48 : decode cX2_fitText 48 = .ok (.ireturn, 1) := by decide +kernel
theorem dX2_fitText_49 : decode cX2_fitText 49 = .ok (.aload_n 0, 1) := by decide +kernel
theorem dX2_fitText_50 : decode cX2_fitText 50 = .ok (.iload 4, 2) := by decide +kernel
theorem dX2_fitText_52 : decode cX2_fitText 52 = .ok (.putfield 38, 3) := by decide +kernel
theorem dX2_fitText_55 : decode cX2_fitText 55 = .ok (.aload_n 0, 1) := by decide +kernel
theorem dX2_fitText_56 : decode cX2_fitText 56 = .ok (.aload_n 1, 1) := by decide +kernel
theorem dX2_fitText_57 : decode cX2_fitText 57 = .ok (.iload 4, 2) := by decide +kernel
theorem dX2_fitText_59 : decode cX2_fitText 59 = .ok (.invokevirtual 64, 3) := by decide +kernel
theorem dX2_fitText_62 : decode cX2_fitText 62 = .ok (.pop, 1) := by decide +kernel
theorem dX2_fitText_63 : decode cX2_fitText 63 = .ok (.aload_n 3, 1) := by decide +kernel
theorem dX2_fitText_64 : decode cX2_fitText 64 = .ok (.aload_n 0, 1) := by decide +kernel
theorem dX2_fitText_65 : decode cX2_fitText 65 = .ok (.getfield 27, 3) := by decide +kernel
theorem dX2_fitText_68 : decode cX2_fitText 68 = .ok (.invokevirtual 67, 3) := by decide +kernel
theorem dX2_fitText_71 : decode cX2_fitText 71 = .ok (.aload_n 0, 1) := by decide +kernel
theorem dX2_fitText_72 : decode cX2_fitText 72 = .ok (.invokevirtual 71, 3) := by decide +kernel
theorem dX2_fitText_75 : decode cX2_fitText 75 = .ok (.ireturn, 1) := by decide +kernel
theorem Y_RX2_60 : YV RX2 60 RX2 yX2_bestSet cX2_bestSet 9 (some .int) 2 := ⟨w344, w341, w343, w1, w46, by decide +kernel, by decide⟩
def wp_X2_fitText (a1 : Nat) (a2 : Int) (a3 : Nat) (M : Mem) (Q : Int → Mem → Prop) : Prop := (Rg a2 ∧ (a2 < 0 → Q (-1) M) ∧ (¬ (a2 < 0) → (Rg a2 ∧ (999 < a2 → Q (-1) M) ∧ (¬ (999 < a2) → wp_X4_size a1 M (fun r10 M9 => (Rg r10 ∧ (30 < r10 → Q (-1) M9) ∧ (¬ (30 < r10) → wp_X2_areSigns a1 M9 (fun r16 M15 => (Rg r16 ∧ (r16 ≠ 0 → wp_X2_bestSet a1 a2 M15 (fun r22 M21 => (Rg r22 ∧ (r22 ≠ (-1) → wp_X2_applySet a1 r22 (up M21 43 6 r22) (fun r28 M27 => wp_X4_copyFrom a3 28 M27 (fun M29 => wp_X2_textWidth  M29 (fun r31 M30 => Q r31 M30)))) ∧ (¬ (r22 ≠ (-1)) → wp_X4_clear a3 M21 (fun M32 => Q (-1) M32))))) ∧ (¬ (r16 ≠ 0) → Q (-1) M15))))))))))
set_option maxHeartbeats 4000000 in
set_option maxRecDepth 100000 in
theorem c_X2_fitText (l : Launch) (X : Cx) (hI : Inj X) (a1 : Nat) (a2 : Int) (a3 : Nat) (ha1 : isRow a1) (ha3 : isRow a3) (M : Mem) (Q : Int → Mem → Prop) (h : wp_X2_fitText a1 a2 a3 M Q) : MI X l yX2_fitText cX2_fitText 5 (some .int) 5 [.ref (xA X 43), .ref (xA X a1), .int (jI a2), .ref (xA X a3)] M Q := by
  refine MI.of hI (by decide) (Nat.le_of_ble_eq_true rfl) ?_
  intro p e R s m args below meth c ls E hW hl
  have E : En X (AW X) 5 p R s m args meth c cX2_fitText RX2 5 (some .int) 0 0 := E
  have hl : lv_has ls 5 [(0, .ref (xA X 43)), (1, .ref (xA X a1)), (2, .int (jI a2)), (3, .ref (xA X a3))] := hl
  unfold wp_X2_fitText at h
  refine q_iload_n (n := 1) (q := 2) E.1 hl rfl dX2_fitText_0 rfl rfl ?_
  obtain ⟨g1, h2, h3⟩ := h
  refine q_if_lt (t := 27) (n := 4) E.1 g1 dX2_fitText_1 (by decide) rfl (fun c4 => ?_) (fun c4 => ?_)
  · have h := h2 c4
    refine q_iconst (n := 28) E.1 dX2_fitText_27 rfl ?_
    exact q_iret E hW h dX2_fitText_28
  · have h := h3 c4
    refine q_iload_n (n := 5) (q := 2) E.1 hl rfl dX2_fitText_4 rfl rfl ?_
    refine q_sipush (n := 8) E.1 dX2_fitText_5 (by decide) rfl ?_
    obtain ⟨g5, h6, h7⟩ := h
    refine q_icmp_gt (t := 27) (n := 11) E.1 g5 (by decide) dX2_fitText_8 (by decide) rfl (fun c8 => ?_) (fun c8 => ?_)
    · have h := h6 c8
      refine q_iconst (n := 28) E.1 dX2_fitText_27 rfl ?_
      exact q_iret E hW h dX2_fitText_28
    · have h := h7 c8
      refine q_aload_n (n := 12) (q := 1) E.1 hl rfl dX2_fitText_11 rfl rfl ?_
      refine q_callVi (n := 15) (fs := (fsRow X a1)) [] E hW hl.1 (isRow_lt ha1) (ent_row X ha1) K4 (c_X4_size l X E.2.2.1.1 a1 ha1 _ _ h) (by decide) Y_RX2_41 rfl (rest := []) rfl (Nat.le_of_ble_eq_true rfl) dX2_fitText_12 rfl (fun r10 M9 H locs h hW => ?_)
      refine q_bipush (n := 17) E.1 dX2_fitText_15 (by decide) rfl ?_
      obtain ⟨g11, h12, h13⟩ := h
      refine q_icmp_gt (t := 27) (n := 20) E.1 g11 (by decide) dX2_fitText_17 (by decide) rfl (fun c14 => ?_) (fun c14 => ?_)
      · have h := h12 c14
        refine q_iconst (n := 28) E.1 dX2_fitText_27 rfl ?_
        exact q_iret E hW h dX2_fitText_28
      · have h := h13 c14
        refine q_aload_n (n := 21) (q := 1) E.1 hl rfl dX2_fitText_20 rfl rfl ?_
        refine q_callSi (n := 24) [.ref (xA X a1)] E hW hl.1 (c_X2_areSigns l X E.2.2.1.1 a1 ha1 _ _ h) (by decide) Y_RX2_56 rfl (rest := []) rfl (Nat.le_of_ble_eq_true rfl) dX2_fitText_21 rfl (fun r16 M15 H locs h hW => ?_)
        obtain ⟨g17, h18, h19⟩ := h
        refine q_if_ne (t := 29) (n := 27) E.1 g17 dX2_fitText_24 (by decide) rfl (fun c20 => ?_) (fun c20 => ?_)
        · have h := h18 c20
          refine q_aload_n (n := 30) (q := 0) E.1 hl rfl dX2_fitText_29 rfl rfl ?_
          refine q_aload_n (n := 31) (q := 1) E.1 hl rfl dX2_fitText_30 rfl rfl ?_
          refine q_iload_n (n := 32) (q := 2) E.1 hl rfl dX2_fitText_31 rfl rfl ?_
          refine q_callVi (n := 35) (fs := (fs43 X)) [.ref (xA X a1), .int (jI a2)] E hW hl.1 (by decide) (fun _ => rfl) K2 (c_X2_bestSet l X E.2.2.1.1 a1 a2 ha1 _ _ h) (by decide) Y_RX2_60 rfl (rest := []) rfl (Nat.le_of_ble_eq_true rfl) dX2_fitText_32 rfl (fun r22 M21 H locs h hW => ?_)
          refine q_istore (n := 37) [(4, .int (jI r22)), (0, .ref (xA X 43)), (1, .ref (xA X a1)), (2, .int (jI a2)), (3, .ref (xA X a3))] E.1 hl dX2_fitText_35 (by decide) rfl rfl (fun ls hl => ?_)
          refine q_iload (n := 39) (q := 0) E.1 hl rfl dX2_fitText_37 rfl ?_
          refine q_iconst (n := 40) E.1 dX2_fitText_39 rfl ?_
          obtain ⟨g23, h24, h25⟩ := h
          refine q_icmp_ne (t := 49) (n := 43) E.1 g23 (by decide) dX2_fitText_40 (by decide) rfl (fun c26 => ?_) (fun c26 => ?_)
          · have h := h24 c26
            refine q_aload_n (n := 50) (q := 1) E.1 hl rfl dX2_fitText_49 rfl rfl ?_
            refine q_iload (n := 52) (q := 0) E.1 hl rfl dX2_fitText_50 rfl ?_
            refine q_put (n := 55) (k := 6) (fs := (fs43 X)) E hW (by decide) (fun _ => rfl) K2 (by decide) w95 rfl rfl ⟨rfl, rfl⟩ (Nat.le_of_ble_eq_true rfl) (fun _ => rfl) dX2_fitText_52 rfl (fun H locs hW => ?_)
            refine q_aload_n (n := 56) (q := 1) E.1 hl rfl dX2_fitText_55 rfl rfl ?_
            refine q_aload_n (n := 57) (q := 2) E.1 hl rfl dX2_fitText_56 rfl rfl ?_
            refine q_iload (n := 59) (q := 0) E.1 hl rfl dX2_fitText_57 rfl ?_
            refine q_callVi (n := 62) (fs := (fs43 X)) [.ref (xA X a1), .int (jI r22)] E hW hl.1 (by decide) (fun _ => rfl) K2 (c_X2_applySet l X E.2.2.1.1 a1 r22 ha1 _ _ h) (by decide) Y_RX2_64 rfl (rest := []) rfl (Nat.le_of_ble_eq_true rfl) dX2_fitText_59 rfl (fun r28 M27 H locs h hW => ?_)
            refine q_pop (n := 63) E.1 dX2_fitText_62 rfl rfl ?_
            refine q_aload_n (n := 64) (q := 4) E.1 hl rfl dX2_fitText_63 rfl rfl ?_
            refine q_aload_n (n := 65) (q := 1) E.1 hl rfl dX2_fitText_64 rfl rfl ?_
            refine q_get (n := 68) (k := 3) (fs := (fs43 X)) (v := .ref (xA X 28)) E hW (by decide) (fun _ => rfl) K2 (by decide) w92 rfl rfl dX2_fitText_65 rfl ?_
            refine q_callVv (n := 71) (fs := (fsRow X a3)) [.ref (xA X 28)] E hW hl.1 (isRow_lt ha3) (ent_row X ha3) K4 (c_X4_copyFrom l X E.2.2.1.1 a3 28 ha3 (by decide) _ _ h) (by decide) Y_RX2_67 rfl (rest := []) rfl (Nat.le_of_ble_eq_true rfl) dX2_fitText_68 rfl (fun M29 H locs h hW => ?_)
            refine q_aload_n (n := 72) (q := 1) E.1 hl rfl dX2_fitText_71 rfl rfl ?_
            refine q_callVi (n := 75) (fs := (fs43 X)) [] E hW hl.1 (by decide) (fun _ => rfl) K2 (c_X2_textWidth l X E.2.2.1.1   _ _ h) (by decide) Y_RX2_71 rfl (rest := []) rfl (Nat.le_of_ble_eq_true rfl) dX2_fitText_72 rfl (fun r31 M30 H locs h hW => ?_)
            exact q_iret E hW h dX2_fitText_75
          · have h := h25 c26
            refine q_aload_n (n := 44) (q := 4) E.1 hl rfl dX2_fitText_43 rfl rfl ?_
            refine q_callVv (n := 47) (fs := (fsRow X a3)) [] E hW hl.1 (isRow_lt ha3) (ent_row X ha3) K4 (c_X4_clear l X E.2.2.1.1 a3 ha3 _ _ h) (by decide) Y_RX2_49 rfl (rest := []) rfl (Nat.le_of_ble_eq_true rfl) dX2_fitText_44 rfl (fun M32 H locs h hW => ?_)
            refine q_iconst (n := 48) E.1 dX2_fitText_47 rfl ?_
            exact q_iret E hW h dX2_fitText_48
        · have h := h19 c20
          refine q_iconst (n := 28) E.1 dX2_fitText_27 rfl ?_
          exact q_iret E hW h dX2_fitText_28
end
