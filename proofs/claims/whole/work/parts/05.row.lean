/-! Row -/
section
variable {X : Cx} {p : Program} {l : Launch} {e : Env} {R : Room} {s : State} {m : MethodId} {args : Array Value} {below : List Frame} {meth : Method} {c : Code}
/-! StickerPress$Row.size()I -/
theorem dX4_size_0 : decode cX4_size 0 = .ok (.aload_n 0, 1) := by decide +kernel
theorem dX4_size_1 : decode cX4_size 1 = .ok (.getfield 21, 3) := by decide +kernel
theorem dX4_size_4 : decode cX4_size 4 = .ok (.ireturn, 1) := by decide +kernel
def wp_X4_size (o : Nat) (M : Mem) (Q : Int → Mem → Prop) : Prop := Q (M o 1) M
set_option maxHeartbeats 4000000 in
set_option maxRecDepth 100000 in
theorem c_X4_size (l : Launch) (X : Cx) (hI : Inj X) (o : Nat) (ho : isRow o) (M : Mem) (Q : Int → Mem → Prop) (h : wp_X4_size o M Q) : MI X l yX4_size cX4_size 1 (some .int) 0 [.ref (xA X o)] M Q := by
  refine MI.of hI (by decide) (Nat.le_of_ble_eq_true rfl) ?_
  intro p e R s m args below meth c ls E hW hl
  have E : En X (AW X) 0 p R s m args meth c cX4_size RX4 1 (some .int) 0 0 := E
  have hl : lv_has ls 1 [(0, .ref (xA X o))] := hl
  unfold wp_X4_size at h
  refine q_aload_n (n := 1) (q := 0) E.1 hl rfl dX4_size_0 rfl rfl ?_
  refine q_get (n := 4) (k := 1) (fs := (fsRow X o)) (v := .int (jI (M o 1))) E hW (isRow_lt ho) (ent_row X ho) K4 (by decide) w73 rfl rfl dX4_size_1 rfl ?_
  exact q_iret E hW h dX4_size_4
/-! StickerPress$Row.at(I)I -/
theorem dX4_at_0 : decode cX4_at 0 = .ok (.iload_n 1, 1) := by decide +kernel
theorem dX4_at_1 : decode cX4_at 1 = .ok (.ifCond .lt 11, 3) := by decide +kernel
theorem dX4_at_4 : decode cX4_at 4 = .ok (.iload_n 1, 1) := by decide +kernel
theorem dX4_at_5 : decode cX4_at 5 = .ok (.aload_n 0, 1) := by decide +kernel
theorem dX4_at_6 : decode cX4_at 6 = .ok (.getfield 21, 3) := by decide +kernel
theorem dX4_at_9 : decode cX4_at 9 = .ok (.if_icmp .lt 5, 3) := by decide +kernel
theorem dX4_at_12 : decode cX4_at 12 = .ok (.iconst (-1), 1) := by decide +kernel
theorem dX4_at_13 : decode cX4_at 13 = .ok (.ireturn, 1) := by decide +kernel
theorem dX4_at_14 : decode cX4_at 14 = .ok (.aload_n 0, 1) := by decide +kernel
theorem dX4_at_15 : decode cX4_at 15 = .ok (.getfield 15, 3) := by decide +kernel
theorem dX4_at_18 : decode cX4_at 18 = .ok (.iload_n 1, 1) := by decide +kernel
theorem dX4_at_19 : decode cX4_at 19 = .ok (.iaload, 1) := by decide +kernel
theorem dX4_at_20 : decode cX4_at 20 = .ok (.ireturn, 1) := by decide +kernel
def wp_X4_at (o : Nat) (a1 : Int) (M : Mem) (Q : Int → Mem → Prop) : Prop := (Rg a1 ∧ (a1 < 0 → Q (-1) M) ∧ (¬ (a1 < 0) → (Rg a1 ∧ Rg (M o 1) ∧ (a1 < (M o 1) → (0 ≤ a1 ∧ a1 < ((capR o : Nat) : Int)) ∧ Q (M (o + 1) a1.toNat) M) ∧ (¬ (a1 < (M o 1)) → Q (-1) M))))
set_option maxHeartbeats 4000000 in
set_option maxRecDepth 100000 in
theorem c_X4_at (l : Launch) (X : Cx) (hI : Inj X) (o : Nat) (a1 : Int) (ho : isRow o) (M : Mem) (Q : Int → Mem → Prop) (h : wp_X4_at o a1 M Q) : MI X l yX4_at cX4_at 2 (some .int) 0 [.ref (xA X o), .int (jI a1)] M Q := by
  refine MI.of hI (by decide) (Nat.le_of_ble_eq_true rfl) ?_
  intro p e R s m args below meth c ls E hW hl
  have E : En X (AW X) 0 p R s m args meth c cX4_at RX4 2 (some .int) 0 0 := E
  have hl : lv_has ls 2 [(0, .ref (xA X o)), (1, .int (jI a1))] := hl
  unfold wp_X4_at at h
  refine q_iload_n (n := 1) (q := 1) E.1 hl rfl dX4_at_0 rfl rfl ?_
  obtain ⟨g1, h2, h3⟩ := h
  refine q_if_lt (t := 12) (n := 4) E.1 g1 dX4_at_1 (by decide) rfl (fun c4 => ?_) (fun c4 => ?_)
  · have h := h2 c4
    refine q_iconst (n := 13) E.1 dX4_at_12 rfl ?_
    exact q_iret E hW h dX4_at_13
  · have h := h3 c4
    refine q_iload_n (n := 5) (q := 1) E.1 hl rfl dX4_at_4 rfl rfl ?_
    refine q_aload_n (n := 6) (q := 0) E.1 hl rfl dX4_at_5 rfl rfl ?_
    refine q_get (n := 9) (k := 1) (fs := (fsRow X o)) (v := .int (jI (M o 1))) E hW (isRow_lt ho) (ent_row X ho) K4 (by decide) w73 rfl rfl dX4_at_6 rfl ?_
    obtain ⟨g5, g6, h7, h8⟩ := h
    refine q_icmp_lt (t := 14) (n := 12) E.1 g5 g6 dX4_at_9 (by decide) rfl (fun c9 => ?_) (fun c9 => ?_)
    · have h := h7 c9
      refine q_aload_n (n := 15) (q := 0) E.1 hl rfl dX4_at_14 rfl rfl ?_
      refine q_get (n := 18) (k := 0) (fs := (fsRow X o)) (v := .ref (xA X (o + 1))) E hW (isRow_lt ho) (ent_row X ho) K4 (by decide) w72 rfl rfl dX4_at_15 rfl ?_
      refine q_iload_n (n := 19) (q := 1) E.1 hl rfl dX4_at_18 rfl rfl ?_
      obtain ⟨g10, h⟩ := h
      refine q_iald (n := 20) E hW (isRow_lt1 ho) (ent_arr X ho) (capR_lt _) g10 dX4_at_19 rfl ?_
      exact q_iret E hW h dX4_at_20
    · have h := h8 c9
      refine q_iconst (n := 13) E.1 dX4_at_12 rfl ?_
      exact q_iret E hW h dX4_at_13
/-! StickerPress$Row.clear()V -/
theorem dX4_clear_0 : decode cX4_clear 0 = .ok (.aload_n 0, 1) := by decide +kernel
theorem dX4_clear_1 : decode cX4_clear 1 = .ok (.iconst 0, 1) := by decide +kernel
theorem dX4_clear_2 : decode cX4_clear 2 = .ok (.putfield 21, 3) := by decide +kernel
theorem dX4_clear_5 : decode cX4_clear 5 = .ok (.return_, 1) := by decide +kernel
def wp_X4_clear (o : Nat) (M : Mem) (Q : Mem → Prop) : Prop := Q (up M o 1 0)
set_option maxHeartbeats 4000000 in
set_option maxRecDepth 100000 in
theorem c_X4_clear (l : Launch) (X : Cx) (hI : Inj X) (o : Nat) (ho : isRow o) (M : Mem) (Q : Mem → Prop) (h : wp_X4_clear o M Q) : MV X l yX4_clear cX4_clear 1 0 [.ref (xA X o)] M Q := by
  refine MV.of hI (by decide) (Nat.le_of_ble_eq_true rfl) ?_
  intro p e R s m args below meth c ls E hW hl
  have E : En X (AW X) 0 p R s m args meth c cX4_clear RX4 1 none 0 0 := E
  have hl : lv_has ls 1 [(0, .ref (xA X o))] := hl
  unfold wp_X4_clear at h
  refine q_aload_n (n := 1) (q := 0) E.1 hl rfl dX4_clear_0 rfl rfl ?_
  refine q_iconst (n := 2) E.1 dX4_clear_1 rfl ?_
  refine q_put (n := 5) (k := 1) (fs := (fsRow X o)) E hW (isRow_lt ho) (ent_row X ho) K4 (by decide) w73 rfl rfl ⟨rfl, rfl⟩ (Nat.le_of_ble_eq_true rfl) (fun _ => rfl) dX4_clear_2 rfl (fun H locs hW => ?_)
  exact q_vret E hW h dX4_clear_5
/-! StickerPress$Row.add(I)Z -/
theorem dX4_add_0 : decode cX4_add 0 = .ok (.aload_n 0, 1) := by decide +kernel
theorem dX4_add_1 : decode cX4_add 1 = .ok (.getfield 21, 3) := by decide +kernel
theorem dX4_add_4 : decode cX4_add 4 = .ok (.aload_n 0, 1) := by decide +kernel
theorem dX4_add_5 : decode cX4_add 5 = .ok (.getfield 15, 3) := by decide +kernel
theorem dX4_add_8 : decode cX4_add 8 = .ok (.arraylength, 1) := by decide +kernel
theorem dX4_add_9 : decode cX4_add 9 = .ok (.if_icmp .lt 5, 3) := by decide +kernel
theorem dX4_add_12 : decode cX4_add 12 = .ok (.iconst 0, 1) := by decide +kernel
theorem dX4_add_13 : decode cX4_add 13 = .ok (.ireturn, 1) := by decide +kernel
theorem dX4_add_14 : decode cX4_add 14 = .ok (.aload_n 0, 1) := by decide +kernel
theorem dX4_add_15 : decode cX4_add 15 = .ok (.getfield 15, 3) := by decide +kernel
theorem dX4_add_18 : decode cX4_add 18 = .ok (.aload_n 0, 1) := by decide +kernel
theorem dX4_add_19 : decode cX4_add 19 = .ok (.getfield 21, 3) := by decide +kernel
theorem dX4_add_22 : decode cX4_add 22 = .ok (.iload_n 1, 1) := by decide +kernel
theorem dX4_add_23 : decode cX4_add 23 = .ok (.iastore, 1) := by decide +kernel
theorem dX4_add_24 : decode cX4_add 24 = .ok (.aload_n 0, 1) := by decide +kernel
theorem dX4_add_25 : decode cX4_add 25 = .ok (.dup, 1) := by decide +kernel
theorem dX4_add_26 : decode cX4_add 26 = .ok (.getfield 21, 3) := by decide +kernel
theorem dX4_add_29 : decode cX4_add 29 = .ok (.iconst 1, 1) := by decide +kernel
theorem dX4_add_30 : decode cX4_add 30 = .ok (.iadd, 1) := by decide +kernel
theorem dX4_add_31 : decode cX4_add 31 = .ok (.putfield 21, 3) := by decide +kernel
theorem dX4_add_34 : decode cX4_add 34 = .ok (.iconst 1, 1) := by decide +kernel
theorem dX4_add_35 : decode cX4_add 35 = .ok (.ireturn, 1) := by decide +kernel
def wp_X4_add (o : Nat) (a1 : Int) (M : Mem) (Q : Int → Mem → Prop) : Prop := (Rg (M o 1) ∧ Rg ((capR o : Nat) : Int) ∧ ((M o 1) < ((capR o : Nat) : Int) → (0 ≤ (M o 1) ∧ (M o 1) < ((capR o : Nat) : Int)) ∧ Q 1 (up (up M (o + 1) (M o 1).toNat a1) o 1 (((up M (o + 1) (M o 1).toNat a1) o 1) + 1))) ∧ (¬ ((M o 1) < ((capR o : Nat) : Int)) → Q 0 M))
set_option maxHeartbeats 4000000 in
set_option maxRecDepth 100000 in
theorem c_X4_add (l : Launch) (X : Cx) (hI : Inj X) (o : Nat) (a1 : Int) (ho : isRow o) (M : Mem) (Q : Int → Mem → Prop) (h : wp_X4_add o a1 M Q) : MI X l yX4_add cX4_add 2 (some .boolean) 0 [.ref (xA X o), .int (jI a1)] M Q := by
  refine MI.of hI (by decide) (Nat.le_of_ble_eq_true rfl) ?_
  intro p e R s m args below meth c ls E hW hl
  have E : En X (AW X) 0 p R s m args meth c cX4_add RX4 2 (some .boolean) 0 0 := E
  have hl : lv_has ls 2 [(0, .ref (xA X o)), (1, .int (jI a1))] := hl
  unfold wp_X4_add at h
  refine q_aload_n (n := 1) (q := 0) E.1 hl rfl dX4_add_0 rfl rfl ?_
  refine q_get (n := 4) (k := 1) (fs := (fsRow X o)) (v := .int (jI (M o 1))) E hW (isRow_lt ho) (ent_row X ho) K4 (by decide) w73 rfl rfl dX4_add_1 rfl ?_
  refine q_aload_n (n := 5) (q := 0) E.1 hl rfl dX4_add_4 rfl rfl ?_
  refine q_get (n := 8) (k := 0) (fs := (fsRow X o)) (v := .ref (xA X (o + 1))) E hW (isRow_lt ho) (ent_row X ho) K4 (by decide) w72 rfl rfl dX4_add_5 rfl ?_
  refine q_alen (n := 9) E hW (isRow_lt1 ho) (ent_arr X ho) dX4_add_8 rfl ?_
  obtain ⟨g1, g2, h3, h4⟩ := h
  refine q_icmp_lt (t := 14) (n := 12) E.1 g1 g2 dX4_add_9 (by decide) rfl (fun c5 => ?_) (fun c5 => ?_)
  · have h := h3 c5
    refine q_aload_n (n := 15) (q := 0) E.1 hl rfl dX4_add_14 rfl rfl ?_
    refine q_get (n := 18) (k := 0) (fs := (fsRow X o)) (v := .ref (xA X (o + 1))) E hW (isRow_lt ho) (ent_row X ho) K4 (by decide) w72 rfl rfl dX4_add_15 rfl ?_
    refine q_aload_n (n := 19) (q := 0) E.1 hl rfl dX4_add_18 rfl rfl ?_
    refine q_get (n := 22) (k := 1) (fs := (fsRow X o)) (v := .int (jI (M o 1))) E hW (isRow_lt ho) (ent_row X ho) K4 (by decide) w73 rfl rfl dX4_add_19 rfl ?_
    refine q_iload_n (n := 23) (q := 1) E.1 hl rfl dX4_add_22 rfl rfl ?_
    obtain ⟨g6, h⟩ := h
    refine q_iast (n := 24) E hW (isRow_lt1 ho) (ent_arr X ho) (capR_lt _) g6 dX4_add_23 rfl (fun H locs hW => ?_)
    refine q_aload_n (n := 25) (q := 0) E.1 hl rfl dX4_add_24 rfl rfl ?_
    refine q_dup (n := 26) E.1 dX4_add_25 rfl rfl ?_
    refine q_get (n := 29) (k := 1) (fs := (fsRow X o)) (v := .int (jI ((up M (o + 1) (M o 1).toNat a1) o 1))) E hW (isRow_lt ho) (ent_row X ho) K4 (by decide) w73 rfl rfl dX4_add_26 rfl ?_
    refine q_iconst (n := 30) E.1 dX4_add_29 rfl ?_
    refine q_iadd (n := 31) E.1 dX4_add_30 rfl ?_
    refine q_put (n := 34) (k := 1) (fs := (fsRow X o)) E hW (isRow_lt ho) (ent_row X ho) K4 (by decide) w73 rfl rfl ⟨rfl, rfl⟩ (Nat.le_of_ble_eq_true rfl) (fun _ => rfl) dX4_add_31 rfl (fun H locs hW => ?_)
    refine q_iconst (n := 35) E.1 dX4_add_34 rfl ?_
    exact q_zret E hW (Or.inr rfl) h dX4_add_35
  · have h := h4 c5
    refine q_iconst (n := 13) E.1 dX4_add_12 rfl ?_
    exact q_zret E hW (Or.inl rfl) h dX4_add_13
/-! StickerPress$Row.addPart(LStickerPress$Row;II)Z -/
theorem dX4_addPart_0 : decode cX4_addPart 0 = .ok (.iload_n 2, 1) := by decide +kernel
theorem dX4_addPart_1 : decode cX4_addPart 1 = .ok (.istore 4, 2) := by decide +kernel
theorem dX4_addPart_3 : decode cX4_addPart 3 = .ok (.iload 4, 2) := by decide +kernel
theorem dX4_addPart_5 : decode cX4_addPart 5 = .ok (.iload_n 3, 1) := by decide +kernel
theorem dX4_addPart_6 : decode cX4_addPart 6 = .ok (.if_icmp .ge 24, 3) := by decide +kernel
theorem dX4_addPart_9 : decode cX4_addPart 9 = .ok (.aload_n 0, 1) := by decide +kernel
theorem dX4_addPart_10 : decode cX4_addPart 10 = .ok (.aload_n 1, 1) := by decide +kernel
theorem dX4_addPart_11 : decode cX4_addPart 11 = .ok (.iload 4, 2) := by decide +kernel
theorem dX4_addPart_13 : decode cX4_addPart 13 = .ok (.invokevirtual 25, 3) := by decide +kernel
theorem dX4_addPart_16 : decode cX4_addPart 16 = .ok (.invokevirtual 29, 3) := by decide +kernel
theorem dX4_addPart_19 : decode cX4_addPart 19 = .ok (.ifCond .ne 5, 3) := by decide +kernel
theorem dX4_addPart_22 : decode cX4_addPart 22 = .ok (.iconst 0, 1) := by decide +kernel
theorem dX4_addPart_23 : decode cX4_addPart 23 = .ok (.ireturn, 1) := by decide +kernel
theorem dX4_addPart_24 : decode cX4_addPart 24 = .ok (.iinc 4 1, 3) := by decide +kernel
theorem dX4_addPart_27 : decode cX4_addPart 27 = .ok (.goto (-24), 3) := by decide +kernel
theorem dX4_addPart_30 : decode cX4_addPart 30 = .ok (.iconst 1, 1) := by decide +kernel
theorem dX4_addPart_31 : decode cX4_addPart 31 = .ok (.ireturn, 1) := by decide +kernel
theorem Y_RX4_25 : YV RX4 25 RX4 yX4_at cX4_at 2 (some .int) 1 := ⟨w322, w319, w320, w321, w44, by decide +kernel, by decide⟩
theorem Y_RX4_29 : YV RX4 29 RX4 yX4_add cX4_add 2 (some .boolean) 1 := ⟨w291, w331, w289, w290, w44, by decide +kernel, by decide⟩
def wp_X4_addPart_3 (o : Nat) (a1 : Nat) (a2 : Int) (a3 : Int) (Q : Int → Mem → Prop) : Nat → Int → Mem → Prop
  | 0, _, _ => False
  | n + 1, x4, M => (Rg x4 ∧ Rg a3 ∧ (a3 ≤ x4 → Q 1 M) ∧ (¬ (a3 ≤ x4) → wp_X4_at a1 x4 M (fun r7 M6 => wp_X4_add o r7 M6 (fun r9 M8 => (Rg r9 ∧ (r9 ≠ 0 → wp_X4_addPart_3 o a1 a2 a3 Q n (x4 + 1) M8) ∧ (¬ (r9 ≠ 0) → Q 0 M8))))))
set_option maxHeartbeats 4000000 in
set_option maxRecDepth 100000 in
theorem v_X4_addPart_3 (o : Nat) (a1 : Nat) (a2 : Int) (a3 : Int) (ho : isRow o) (ha1 : isRow a1) (E : En X (AW X) 1 p R s m args meth c cX4_addPart RX4 5 (some .boolean) 0 0) (Q : Int → Mem → Prop) : ∀ n : Nat, ∀ (x4 : Int) (M : Mem) (H : Heap) (locs : List Loc) (ls : Array Slot), wp_X4_addPart_3 o a1 a2 a3 Q n x4 M → Wd X (AW X) s M H locs → lv_has ls 5 [(0, .ref (xA X o)), (1, .ref (xA X a1)), (3, .int (jI a3)), (4, .int (jI x4))] → W p l e R s m args below meth c H locs 0 0 (MQ below (QI X Q) args s 0 0 (AW X)) (F0 m 3 ls []) := by
  intro n
  induction n with
  | zero => intro x4 M H locs ls h; exact absurd h (by simp [wp_X4_addPart_3])
  | succ n ih =>
    intro x4 M H locs ls h hW hl
    rw [wp_X4_addPart_3] at h
    refine q_iload (n := 5) (q := 3) E.1 hl rfl dX4_addPart_3 rfl ?_
    refine q_iload_n (n := 6) (q := 2) E.1 hl rfl dX4_addPart_5 rfl rfl ?_
    obtain ⟨g1, g2, h3, h4⟩ := h
    refine q_icmp_ge (t := 30) (n := 9) E.1 g1 g2 dX4_addPart_6 (by decide) rfl (fun c5 => ?_) (fun c5 => ?_)
    · have h := h3 c5
      refine q_iconst (n := 31) E.1 dX4_addPart_30 rfl ?_
      exact q_zret E hW (Or.inr rfl) h dX4_addPart_31
    · have h := h4 c5
      refine q_aload_n (n := 10) (q := 0) E.1 hl rfl dX4_addPart_9 rfl rfl ?_
      refine q_aload_n (n := 11) (q := 1) E.1 hl rfl dX4_addPart_10 rfl rfl ?_
      refine q_iload (n := 13) (q := 3) E.1 hl rfl dX4_addPart_11 rfl ?_
      refine q_callVi (n := 16) (fs := (fsRow X a1)) [.int (jI x4)] E hW hl.1 (isRow_lt ha1) (ent_row X ha1) K4 (c_X4_at l X E.2.2.1.1 a1 x4 ha1 _ _ h) (by decide) Y_RX4_25 rfl (rest := [.ref (xA X o)]) rfl (Nat.le_of_ble_eq_true rfl) dX4_addPart_13 rfl (fun r7 M6 H locs h hW => ?_)
      refine q_callVi (n := 19) (fs := (fsRow X o)) [.int (jI r7)] E hW hl.1 (isRow_lt ho) (ent_row X ho) K4 (c_X4_add l X E.2.2.1.1 o r7 ho _ _ h) (by decide) Y_RX4_29 rfl (rest := []) rfl (Nat.le_of_ble_eq_true rfl) dX4_addPart_16 rfl (fun r9 M8 H locs h hW => ?_)
      obtain ⟨g10, h11, h12⟩ := h
      refine q_if_ne (t := 24) (n := 22) E.1 g10 dX4_addPart_19 (by decide) rfl (fun c13 => ?_) (fun c13 => ?_)
      · have h := h11 c13
        refine q_iinc (n := 27) (q := 3) [(4, .int (jI (x4 + 1))), (0, .ref (xA X o)), (1, .ref (xA X a1)), (3, .int (jI a3))] E.1 hl rfl dX4_addPart_24 (by decide) rfl rfl (fun ls hl => ?_)
        refine q_goto (n := 3) E.1 dX4_addPart_27 (by decide) ?_
        exact ih _ _ _ _ _ h hW (lv_sub hl [1, 2, 3, 0] rfl)
      · have h := h12 c13
        refine q_iconst (n := 23) E.1 dX4_addPart_22 rfl ?_
        exact q_zret E hW (Or.inl rfl) h dX4_addPart_23
def wp_X4_addPart (o : Nat) (a1 : Nat) (a2 : Int) (a3 : Int) (M : Mem) (Q : Int → Mem → Prop) : Prop := (∃ n : Nat, wp_X4_addPart_3 o a1 a2 a3 Q n a2 M)
set_option maxHeartbeats 4000000 in
set_option maxRecDepth 100000 in
theorem c_X4_addPart (l : Launch) (X : Cx) (hI : Inj X) (o : Nat) (a1 : Nat) (a2 : Int) (a3 : Int) (ho : isRow o) (ha1 : isRow a1) (M : Mem) (Q : Int → Mem → Prop) (h : wp_X4_addPart o a1 a2 a3 M Q) : MI X l yX4_addPart cX4_addPart 5 (some .boolean) 1 [.ref (xA X o), .ref (xA X a1), .int (jI a2), .int (jI a3)] M Q := by
  refine MI.of hI (by decide) (Nat.le_of_ble_eq_true rfl) ?_
  intro p e R s m args below meth c ls E hW hl
  have E : En X (AW X) 1 p R s m args meth c cX4_addPart RX4 5 (some .boolean) 0 0 := E
  have hl : lv_has ls 5 [(0, .ref (xA X o)), (1, .ref (xA X a1)), (2, .int (jI a2)), (3, .int (jI a3))] := hl
  unfold wp_X4_addPart at h
  refine q_iload_n (n := 1) (q := 2) E.1 hl rfl dX4_addPart_0 rfl rfl ?_
  refine q_istore (n := 3) [(4, .int (jI a2)), (0, .ref (xA X o)), (1, .ref (xA X a1)), (2, .int (jI a2)), (3, .int (jI a3))] E.1 hl dX4_addPart_1 (by decide) rfl rfl (fun ls hl => ?_)
  obtain ⟨n1, h⟩ := h
  exact v_X4_addPart_3 o a1 a2 a3 ho ha1 E Q n1 _ _ _ _ _ h hW (lv_sub hl [1, 2, 4, 0] rfl)
/-! StickerPress$Row.copyFrom(LStickerPress$Row;)V -/
theorem dX4_copyFrom_0 : decode cX4_copyFrom 0 = .ok (.aload_n 0, 1) := by decide +kernel
theorem dX4_copyFrom_1 : decode cX4_copyFrom 1 = .ok (.invokevirtual 33, 3) := by decide +kernel
theorem dX4_copyFrom_4 : decode cX4_copyFrom 4 = .ok (.aload_n 0, 1) := by decide +kernel
theorem dX4_copyFrom_5 : decode cX4_copyFrom 5 = .ok (.aload_n 1, 1) := by decide +kernel
theorem dX4_copyFrom_6 : decode cX4_copyFrom 6 = .ok (.iconst 0, 1) := by decide +kernel
theorem dX4_copyFrom_7 : decode cX4_copyFrom 7 = .ok (.aload_n 1, 1) := by decide +kernel
theorem dX4_copyFrom_8 : decode cX4_copyFrom 8 = .ok (.getfield 21, 3) := by decide +kernel
theorem dX4_copyFrom_11 : decode cX4_copyFrom 11 = .ok (.invokevirtual 36, 3) := by decide +kernel
theorem dX4_copyFrom_14 : decode cX4_copyFrom 14 = .ok (.pop, 1) := by decide +kernel
theorem dX4_copyFrom_15 : decode cX4_copyFrom 15 = .ok (.return_, 1) := by decide +kernel
theorem Y_RX4_33 : YV RX4 33 RX4 yX4_clear cX4_clear 1 none 0 := ⟨w326, w359, w324, w325, w44, by decide +kernel, by decide⟩
theorem Y_RX4_36 : YV RX4 36 RX4 yX4_addPart cX4_addPart 5 (some .boolean) 3 := ⟨w330, w360, w328, w329, w44, by decide +kernel, by decide⟩
def wp_X4_copyFrom (o : Nat) (a1 : Nat) (M : Mem) (Q : Mem → Prop) : Prop := wp_X4_clear o M (fun M1 => wp_X4_addPart o a1 0 (M1 a1 1) M1 (fun r3 M2 => Q M2))
set_option maxHeartbeats 4000000 in
set_option maxRecDepth 100000 in
theorem c_X4_copyFrom (l : Launch) (X : Cx) (hI : Inj X) (o : Nat) (a1 : Nat) (ho : isRow o) (ha1 : isRow a1) (M : Mem) (Q : Mem → Prop) (h : wp_X4_copyFrom o a1 M Q) : MV X l yX4_copyFrom cX4_copyFrom 2 2 [.ref (xA X o), .ref (xA X a1)] M Q := by
  refine MV.of hI (by decide) (Nat.le_of_ble_eq_true rfl) ?_
  intro p e R s m args below meth c ls E hW hl
  have E : En X (AW X) 2 p R s m args meth c cX4_copyFrom RX4 2 none 0 0 := E
  have hl : lv_has ls 2 [(0, .ref (xA X o)), (1, .ref (xA X a1))] := hl
  unfold wp_X4_copyFrom at h
  refine q_aload_n (n := 1) (q := 0) E.1 hl rfl dX4_copyFrom_0 rfl rfl ?_
  refine q_callVv (n := 4) (fs := (fsRow X o)) [] E hW hl.1 (isRow_lt ho) (ent_row X ho) K4 (c_X4_clear l X E.2.2.1.1 o ho _ _ h) (by decide) Y_RX4_33 rfl (rest := []) rfl (Nat.le_of_ble_eq_true rfl) dX4_copyFrom_1 rfl (fun M1 H locs h hW => ?_)
  refine q_aload_n (n := 5) (q := 0) E.1 hl rfl dX4_copyFrom_4 rfl rfl ?_
  refine q_aload_n (n := 6) (q := 1) E.1 hl rfl dX4_copyFrom_5 rfl rfl ?_
  refine q_iconst (n := 7) E.1 dX4_copyFrom_6 rfl ?_
  refine q_aload_n (n := 8) (q := 1) E.1 hl rfl dX4_copyFrom_7 rfl rfl ?_
  refine q_get (n := 11) (k := 1) (fs := (fsRow X a1)) (v := .int (jI (M1 a1 1))) E hW (isRow_lt ha1) (ent_row X ha1) K4 (by decide) w73 rfl rfl dX4_copyFrom_8 rfl ?_
  refine q_callVi (n := 14) (fs := (fsRow X o)) [.ref (xA X a1), .int (jI 0), .int (jI (M1 a1 1))] E hW hl.1 (isRow_lt ho) (ent_row X ho) K4 (c_X4_addPart l X E.2.2.1.1 o a1 0 (M1 a1 1) ho ha1 _ _ h) (by decide) Y_RX4_36 rfl (rest := []) rfl (Nat.le_of_ble_eq_true rfl) dX4_copyFrom_11 rfl (fun r3 M2 H locs h hW => ?_)
  refine q_pop (n := 15) E.1 dX4_copyFrom_14 rfl rfl ?_
  exact q_vret E hW h dX4_copyFrom_15
/-! StickerPress$Row.cut(I)Z -/
theorem dX4_cut_0 : decode cX4_cut 0 = .ok (.iload_n 1, 1) := by decide +kernel
theorem dX4_cut_1 : decode cX4_cut 1 = .ok (.ifCond .lt 11, 3) := by decide +kernel
theorem dX4_cut_4 : decode cX4_cut 4 = .ok (.iload_n 1, 1) := by decide +kernel
theorem dX4_cut_5 : decode cX4_cut 5 = .ok (.aload_n 0, 1) := by decide +kernel
theorem dX4_cut_6 : decode cX4_cut 6 = .ok (.getfield 21, 3) := by decide +kernel
theorem dX4_cut_9 : decode cX4_cut 9 = .ok (.if_icmp .le 5, 3) := by decide +kernel
theorem dX4_cut_12 : decode cX4_cut 12 = .ok (.iconst 0, 1) := by decide +kernel
theorem dX4_cut_13 : decode cX4_cut 13 = .ok (.ireturn, 1) := by decide +kernel
theorem dX4_cut_14 : decode cX4_cut 14 = .ok (.aload_n 0, 1) := by decide +kernel
theorem dX4_cut_15 : decode cX4_cut 15 = .ok (.iload_n 1, 1) := by decide +kernel
theorem dX4_cut_16 : decode cX4_cut 16 = .ok (.putfield 21, 3) := by decide +kernel
theorem dX4_cut_19 : decode cX4_cut 19 = .ok (.iconst 1, 1) := by decide +kernel
theorem dX4_cut_20 : decode cX4_cut 20 = .ok (.ireturn, 1) := by decide +kernel
def wp_X4_cut (o : Nat) (a1 : Int) (M : Mem) (Q : Int → Mem → Prop) : Prop := (Rg a1 ∧ (a1 < 0 → Q 0 M) ∧ (¬ (a1 < 0) → (Rg a1 ∧ Rg (M o 1) ∧ (a1 ≤ (M o 1) → Q 1 (up M o 1 a1)) ∧ (¬ (a1 ≤ (M o 1)) → Q 0 M))))
set_option maxHeartbeats 4000000 in
set_option maxRecDepth 100000 in
theorem c_X4_cut (l : Launch) (X : Cx) (hI : Inj X) (o : Nat) (a1 : Int) (ho : isRow o) (M : Mem) (Q : Int → Mem → Prop) (h : wp_X4_cut o a1 M Q) : MI X l yX4_cut cX4_cut 2 (some .boolean) 0 [.ref (xA X o), .int (jI a1)] M Q := by
  refine MI.of hI (by decide) (Nat.le_of_ble_eq_true rfl) ?_
  intro p e R s m args below meth c ls E hW hl
  have E : En X (AW X) 0 p R s m args meth c cX4_cut RX4 2 (some .boolean) 0 0 := E
  have hl : lv_has ls 2 [(0, .ref (xA X o)), (1, .int (jI a1))] := hl
  unfold wp_X4_cut at h
  refine q_iload_n (n := 1) (q := 1) E.1 hl rfl dX4_cut_0 rfl rfl ?_
  obtain ⟨g1, h2, h3⟩ := h
  refine q_if_lt (t := 12) (n := 4) E.1 g1 dX4_cut_1 (by decide) rfl (fun c4 => ?_) (fun c4 => ?_)
  · have h := h2 c4
    refine q_iconst (n := 13) E.1 dX4_cut_12 rfl ?_
    exact q_zret E hW (Or.inl rfl) h dX4_cut_13
  · have h := h3 c4
    refine q_iload_n (n := 5) (q := 1) E.1 hl rfl dX4_cut_4 rfl rfl ?_
    refine q_aload_n (n := 6) (q := 0) E.1 hl rfl dX4_cut_5 rfl rfl ?_
    refine q_get (n := 9) (k := 1) (fs := (fsRow X o)) (v := .int (jI (M o 1))) E hW (isRow_lt ho) (ent_row X ho) K4 (by decide) w73 rfl rfl dX4_cut_6 rfl ?_
    obtain ⟨g5, g6, h7, h8⟩ := h
    refine q_icmp_le (t := 14) (n := 12) E.1 g5 g6 dX4_cut_9 (by decide) rfl (fun c9 => ?_) (fun c9 => ?_)
    · have h := h7 c9
      refine q_aload_n (n := 15) (q := 0) E.1 hl rfl dX4_cut_14 rfl rfl ?_
      refine q_iload_n (n := 16) (q := 1) E.1 hl rfl dX4_cut_15 rfl rfl ?_
      refine q_put (n := 19) (k := 1) (fs := (fsRow X o)) E hW (isRow_lt ho) (ent_row X ho) K4 (by decide) w73 rfl rfl ⟨rfl, rfl⟩ (Nat.le_of_ble_eq_true rfl) (fun _ => rfl) dX4_cut_16 rfl (fun H locs hW => ?_)
      refine q_iconst (n := 20) E.1 dX4_cut_19 rfl ?_
      exact q_zret E hW (Or.inr rfl) h dX4_cut_20
    · have h := h8 c9
      refine q_iconst (n := 13) E.1 dX4_cut_12 rfl ?_
      exact q_zret E hW (Or.inl rfl) h dX4_cut_13
/-! StickerPress$Row.standsAt(ILStickerPress$Row;)Z -/
theorem dX4_standsAt_0 : decode cX4_standsAt 0 = .ok (.aload_n 2, 1) := by decide +kernel
theorem dX4_standsAt_1 : decode cX4_standsAt 1 = .ok (.getfield 21, 3) := by decide +kernel
theorem dX4_standsAt_4 : decode cX4_standsAt 4 = .ok (.aload_n 0, 1) := by decide +kernel
theorem dX4_standsAt_5 : decode cX4_standsAt 5 = .ok (.getfield 21, 3) := by decide +kernel
theorem dX4_standsAt_8 : decode cX4_standsAt 8 = .ok (.iload_n 1, 1) := by decide +kernel
theorem dX4_standsAt_9 : decode cX4_standsAt 9 = .ok (.isub, 1) := by decide +kernel
theorem dX4_standsAt_10 : decode cX4_standsAt 10 = .ok (.if_icmp .le 5, 3) := by decide +kernel
theorem dX4_standsAt_13 : decode cX4_standsAt 13 = .ok (.iconst 0, 1) := by decide +kernel
theorem dX4_standsAt_14 : decode cX4_standsAt 14 = .ok (.ireturn, 1) := by decide +kernel
theorem dX4_standsAt_15 : decode cX4_standsAt 15 = .ok (.iconst 0, 1) := by decide +kernel
theorem dX4_standsAt_16 : decode cX4_standsAt 16 = .ok (.istore_n 3, 1) := by decide +kernel
theorem dX4_standsAt_17 : decode cX4_standsAt 17 = .ok (.iload_n 3, 1) := by decide +kernel
theorem dX4_standsAt_18 : decode cX4_standsAt 18 = .ok (.aload_n 2, 1) := by decide +kernel
theorem dX4_standsAt_19 : decode cX4_standsAt 19 = .ok (.getfield 21, 3) := by decide +kernel
theorem dX4_standsAt_22 : decode cX4_standsAt 22 = .ok (.if_icmp .ge 26, 3) := by decide +kernel
theorem dX4_standsAt_25 : decode cX4_standsAt 25 = .ok (.aload_n 0, 1) := by decide +kernel
theorem dX4_standsAt_26 : decode cX4_standsAt 26 = .ok (.iload_n 1, 1) := by decide +kernel
theorem dX4_standsAt_27 : decode cX4_standsAt 27 = .ok (.iload_n 3, 1) := by decide +kernel
theorem dX4_standsAt_28 : decode cX4_standsAt 28 = .ok (.iadd, 1) := by decide +kernel
theorem dX4_standsAt_29 : decode cX4_standsAt 29 = .ok (.invokevirtual 25, 3) := by decide +kernel
theorem dX4_standsAt_32 : decode cX4_standsAt 32 = .ok (.aload_n 2, 1) := by decide +kernel
theorem dX4_standsAt_33 : decode cX4_standsAt 33 = .ok (.iload_n 3, 1) := by decide +kernel
theorem dX4_standsAt_34 : decode cX4_standsAt 34 = .ok (.invokevirtual 25, 3) := by decide +kernel
theorem dX4_standsAt_37 : decode cX4_standsAt 37 = .ok (.if_icmp .eq 5, 3) := by decide +kernel
theorem dX4_standsAt_40 : decode cX4_standsAt 40 = .ok (.iconst 0, 1) := by decide +kernel
theorem dX4_standsAt_41 : decode cX4_standsAt 41 = .ok (.ireturn, 1) := by decide +kernel
theorem dX4_standsAt_42 : decode cX4_standsAt 42 = .ok (.iinc 3 1, 3) := by decide +kernel
theorem dX4_standsAt_45 : decode cX4_standsAt 45 = .ok (.goto (-28), 3) := by decide +kernel
theorem dX4_standsAt_48 : decode cX4_standsAt 48 = .ok (.iconst 1, 1) := by decide +kernel
theorem dX4_standsAt_49 : decode cX4_standsAt 49 = .ok (.ireturn, 1) := by decide +kernel
def wp_X4_standsAt_17 (o : Nat) (a1 : Int) (a2 : Nat) (Q : Int → Mem → Prop) : Nat → Int → Mem → Prop
  | 0, _, _ => False
  | n + 1, x3, M => (Rg x3 ∧ Rg (M a2 1) ∧ ((M a2 1) ≤ x3 → Q 1 M) ∧ (¬ ((M a2 1) ≤ x3) → wp_X4_at o (a1 + x3) M (fun r7 M6 => wp_X4_at a2 x3 M6 (fun r9 M8 => (Rg r7 ∧ Rg r9 ∧ (r7 = r9 → wp_X4_standsAt_17 o a1 a2 Q n (x3 + 1) M8) ∧ (¬ (r7 = r9) → Q 0 M8))))))
set_option maxHeartbeats 4000000 in
set_option maxRecDepth 100000 in
theorem v_X4_standsAt_17 (o : Nat) (a1 : Int) (a2 : Nat) (ho : isRow o) (ha2 : isRow a2) (E : En X (AW X) 1 p R s m args meth c cX4_standsAt RX4 4 (some .boolean) 0 0) (Q : Int → Mem → Prop) : ∀ n : Nat, ∀ (x3 : Int) (M : Mem) (H : Heap) (locs : List Loc) (ls : Array Slot), wp_X4_standsAt_17 o a1 a2 Q n x3 M → Wd X (AW X) s M H locs → lv_has ls 4 [(0, .ref (xA X o)), (1, .int (jI a1)), (2, .ref (xA X a2)), (3, .int (jI x3))] → W p l e R s m args below meth c H locs 0 0 (MQ below (QI X Q) args s 0 0 (AW X)) (F0 m 17 ls []) := by
  intro n
  induction n with
  | zero => intro x3 M H locs ls h; exact absurd h (by simp [wp_X4_standsAt_17])
  | succ n ih =>
    intro x3 M H locs ls h hW hl
    rw [wp_X4_standsAt_17] at h
    refine q_iload_n (n := 18) (q := 3) E.1 hl rfl dX4_standsAt_17 rfl rfl ?_
    refine q_aload_n (n := 19) (q := 2) E.1 hl rfl dX4_standsAt_18 rfl rfl ?_
    refine q_get (n := 22) (k := 1) (fs := (fsRow X a2)) (v := .int (jI (M a2 1))) E hW (isRow_lt ha2) (ent_row X ha2) K4 (by decide) w73 rfl rfl dX4_standsAt_19 rfl ?_
    obtain ⟨g1, g2, h3, h4⟩ := h
    refine q_icmp_ge (t := 48) (n := 25) E.1 g1 g2 dX4_standsAt_22 (by decide) rfl (fun c5 => ?_) (fun c5 => ?_)
    · have h := h3 c5
      refine q_iconst (n := 49) E.1 dX4_standsAt_48 rfl ?_
      exact q_zret E hW (Or.inr rfl) h dX4_standsAt_49
    · have h := h4 c5
      refine q_aload_n (n := 26) (q := 0) E.1 hl rfl dX4_standsAt_25 rfl rfl ?_
      refine q_iload_n (n := 27) (q := 1) E.1 hl rfl dX4_standsAt_26 rfl rfl ?_
      refine q_iload_n (n := 28) (q := 3) E.1 hl rfl dX4_standsAt_27 rfl rfl ?_
      refine q_iadd (n := 29) E.1 dX4_standsAt_28 rfl ?_
      refine q_callVi (n := 32) (fs := (fsRow X o)) [.int (jI (a1 + x3))] E hW hl.1 (isRow_lt ho) (ent_row X ho) K4 (c_X4_at l X E.2.2.1.1 o (a1 + x3) ho _ _ h) (by decide) Y_RX4_25 rfl (rest := []) rfl (Nat.le_of_ble_eq_true rfl) dX4_standsAt_29 rfl (fun r7 M6 H locs h hW => ?_)
      refine q_aload_n (n := 33) (q := 2) E.1 hl rfl dX4_standsAt_32 rfl rfl ?_
      refine q_iload_n (n := 34) (q := 3) E.1 hl rfl dX4_standsAt_33 rfl rfl ?_
      refine q_callVi (n := 37) (fs := (fsRow X a2)) [.int (jI x3)] E hW hl.1 (isRow_lt ha2) (ent_row X ha2) K4 (c_X4_at l X E.2.2.1.1 a2 x3 ha2 _ _ h) (by decide) Y_RX4_25 rfl (rest := [.int (jI r7)]) rfl (Nat.le_of_ble_eq_true rfl) dX4_standsAt_34 rfl (fun r9 M8 H locs h hW => ?_)
      obtain ⟨g10, g11, h12, h13⟩ := h
      refine q_icmp_eq (t := 42) (n := 40) E.1 g10 g11 dX4_standsAt_37 (by decide) rfl (fun c14 => ?_) (fun c14 => ?_)
      · have h := h12 c14
        refine q_iinc (n := 45) (q := 3) [(3, .int (jI (x3 + 1))), (0, .ref (xA X o)), (1, .int (jI a1)), (2, .ref (xA X a2))] E.1 hl rfl dX4_standsAt_42 (by decide) rfl rfl (fun ls hl => ?_)
        refine q_goto (n := 17) E.1 dX4_standsAt_45 (by decide) ?_
        exact ih _ _ _ _ _ h hW (lv_sub hl [1, 2, 3, 0] rfl)
      · have h := h13 c14
        refine q_iconst (n := 41) E.1 dX4_standsAt_40 rfl ?_
        exact q_zret E hW (Or.inl rfl) h dX4_standsAt_41
def wp_X4_standsAt (o : Nat) (a1 : Int) (a2 : Nat) (M : Mem) (Q : Int → Mem → Prop) : Prop := (Rg (M a2 1) ∧ Rg ((M o 1) - a1) ∧ ((M a2 1) ≤ ((M o 1) - a1) → (∃ n : Nat, wp_X4_standsAt_17 o a1 a2 Q n 0 M)) ∧ (¬ ((M a2 1) ≤ ((M o 1) - a1)) → Q 0 M))
set_option maxHeartbeats 4000000 in
set_option maxRecDepth 100000 in
theorem c_X4_standsAt (l : Launch) (X : Cx) (hI : Inj X) (o : Nat) (a1 : Int) (a2 : Nat) (ho : isRow o) (ha2 : isRow a2) (M : Mem) (Q : Int → Mem → Prop) (h : wp_X4_standsAt o a1 a2 M Q) : MI X l yX4_standsAt cX4_standsAt 4 (some .boolean) 1 [.ref (xA X o), .int (jI a1), .ref (xA X a2)] M Q := by
  refine MI.of hI (by decide) (Nat.le_of_ble_eq_true rfl) ?_
  intro p e R s m args below meth c ls E hW hl
  have E : En X (AW X) 1 p R s m args meth c cX4_standsAt RX4 4 (some .boolean) 0 0 := E
  have hl : lv_has ls 4 [(0, .ref (xA X o)), (1, .int (jI a1)), (2, .ref (xA X a2))] := hl
  unfold wp_X4_standsAt at h
  refine q_aload_n (n := 1) (q := 2) E.1 hl rfl dX4_standsAt_0 rfl rfl ?_
  refine q_get (n := 4) (k := 1) (fs := (fsRow X a2)) (v := .int (jI (M a2 1))) E hW (isRow_lt ha2) (ent_row X ha2) K4 (by decide) w73 rfl rfl dX4_standsAt_1 rfl ?_
  refine q_aload_n (n := 5) (q := 0) E.1 hl rfl dX4_standsAt_4 rfl rfl ?_
  refine q_get (n := 8) (k := 1) (fs := (fsRow X o)) (v := .int (jI (M o 1))) E hW (isRow_lt ho) (ent_row X ho) K4 (by decide) w73 rfl rfl dX4_standsAt_5 rfl ?_
  refine q_iload_n (n := 9) (q := 1) E.1 hl rfl dX4_standsAt_8 rfl rfl ?_
  refine q_isub (n := 10) E.1 dX4_standsAt_9 rfl ?_
  obtain ⟨g1, g2, h3, h4⟩ := h
  refine q_icmp_le (t := 15) (n := 13) E.1 g1 g2 dX4_standsAt_10 (by decide) rfl (fun c5 => ?_) (fun c5 => ?_)
  · have h := h3 c5
    refine q_iconst (n := 16) E.1 dX4_standsAt_15 rfl ?_
    refine q_istore_n (n := 17) [(3, .int (jI 0)), (0, .ref (xA X o)), (1, .int (jI a1)), (2, .ref (xA X a2))] E.1 hl dX4_standsAt_16 rfl (by decide) rfl rfl (fun ls hl => ?_)
    obtain ⟨n6, h⟩ := h
    exact v_X4_standsAt_17 o a1 a2 ho ha2 E Q n6 _ _ _ _ _ h hW (lv_sub hl [1, 2, 3, 0] rfl)
  · have h := h4 c5
    refine q_iconst (n := 14) E.1 dX4_standsAt_13 rfl ?_
    exact q_zret E hW (Or.inl rfl) h dX4_standsAt_14
/-! StickerPress$Row.allWithin(II)Z -/
theorem dX4_allWithin_0 : decode cX4_allWithin 0 = .ok (.iconst 0, 1) := by decide +kernel
theorem dX4_allWithin_1 : decode cX4_allWithin 1 = .ok (.istore_n 3, 1) := by decide +kernel
theorem dX4_allWithin_2 : decode cX4_allWithin 2 = .ok (.iload_n 3, 1) := by decide +kernel
theorem dX4_allWithin_3 : decode cX4_allWithin 3 = .ok (.aload_n 0, 1) := by decide +kernel
theorem dX4_allWithin_4 : decode cX4_allWithin 4 = .ok (.getfield 21, 3) := by decide +kernel
theorem dX4_allWithin_7 : decode cX4_allWithin 7 = .ok (.if_icmp .ge 29, 3) := by decide +kernel
theorem dX4_allWithin_10 : decode cX4_allWithin 10 = .ok (.aload_n 0, 1) := by decide +kernel
theorem dX4_allWithin_11 : decode cX4_allWithin 11 = .ok (.iload_n 3, 1) := by decide +kernel
theorem dX4_allWithin_12 : decode cX4_allWithin 12 = .ok (.invokevirtual 25, 3) := by decide +kernel
theorem dX4_allWithin_15 : decode cX4_allWithin 15 = .ok (.iload_n 1, 1) := by decide +kernel
theorem dX4_allWithin_16 : decode cX4_allWithin 16 = .ok (.if_icmp .lt 12, 3) := by decide +kernel
theorem dX4_allWithin_19 : decode cX4_allWithin 19 = .ok (.aload_n 0, 1) := by decide +kernel
theorem dX4_allWithin_20 : decode cX4_allWithin 20 = .ok (.iload_n 3, 1) := by decide +kernel
theorem dX4_allWithin_21 : decode cX4_allWithin 21 = .ok (.invokevirtual 25, 3) := by decide +kernel
theorem dX4_allWithin_24 : decode cX4_allWithin 24 = .ok (.iload_n 2, 1) := by decide +kernel
theorem dX4_allWithin_25 : decode cX4_allWithin 25 = .ok (.if_icmp .le 5, 3) := by decide +kernel
theorem dX4_allWithin_28 : decode cX4_allWithin 28 = .ok (.iconst 0, 1) := by decide +kernel
theorem dX4_allWithin_29 : decode cX4_allWithin 29 = .ok (.ireturn, 1) := by decide +kernel
theorem dX4_allWithin_30 : decode cX4_allWithin 30 = .ok (.iinc 3 1, 3) := by decide +kernel
theorem dX4_allWithin_33 : decode cX4_allWithin 33 = .ok (.goto (-31), 3) := by decide +kernel
theorem dX4_allWithin_36 : decode cX4_allWithin 36 = .ok (.iconst 1, 1) := by decide +kernel
theorem dX4_allWithin_37 : decode cX4_allWithin 37 = .ok (.ireturn, 1) := by decide +kernel
def wp_X4_allWithin_2 (o : Nat) (a1 : Int) (a2 : Int) (Q : Int → Mem → Prop) : Nat → Int → Mem → Prop
  | 0, _, _ => False
  | n + 1, x3, M => (Rg x3 ∧ Rg (M o 1) ∧ ((M o 1) ≤ x3 → Q 1 M) ∧ (¬ ((M o 1) ≤ x3) → wp_X4_at o x3 M (fun r7 M6 => (Rg r7 ∧ Rg a1 ∧ (r7 < a1 → Q 0 M6) ∧ (¬ (r7 < a1) → wp_X4_at o x3 M6 (fun r14 M13 => (Rg r14 ∧ Rg a2 ∧ (r14 ≤ a2 → wp_X4_allWithin_2 o a1 a2 Q n (x3 + 1) M13) ∧ (¬ (r14 ≤ a2) → Q 0 M13))))))))
set_option maxHeartbeats 4000000 in
set_option maxRecDepth 100000 in
theorem v_X4_allWithin_2 (o : Nat) (a1 : Int) (a2 : Int) (ho : isRow o) (E : En X (AW X) 1 p R s m args meth c cX4_allWithin RX4 4 (some .boolean) 0 0) (Q : Int → Mem → Prop) : ∀ n : Nat, ∀ (x3 : Int) (M : Mem) (H : Heap) (locs : List Loc) (ls : Array Slot), wp_X4_allWithin_2 o a1 a2 Q n x3 M → Wd X (AW X) s M H locs → lv_has ls 4 [(0, .ref (xA X o)), (1, .int (jI a1)), (2, .int (jI a2)), (3, .int (jI x3))] → W p l e R s m args below meth c H locs 0 0 (MQ below (QI X Q) args s 0 0 (AW X)) (F0 m 2 ls []) := by
  intro n
  induction n with
  | zero => intro x3 M H locs ls h; exact absurd h (by simp [wp_X4_allWithin_2])
  | succ n ih =>
    intro x3 M H locs ls h hW hl
    rw [wp_X4_allWithin_2] at h
    refine q_iload_n (n := 3) (q := 3) E.1 hl rfl dX4_allWithin_2 rfl rfl ?_
    refine q_aload_n (n := 4) (q := 0) E.1 hl rfl dX4_allWithin_3 rfl rfl ?_
    refine q_get (n := 7) (k := 1) (fs := (fsRow X o)) (v := .int (jI (M o 1))) E hW (isRow_lt ho) (ent_row X ho) K4 (by decide) w73 rfl rfl dX4_allWithin_4 rfl ?_
    obtain ⟨g1, g2, h3, h4⟩ := h
    refine q_icmp_ge (t := 36) (n := 10) E.1 g1 g2 dX4_allWithin_7 (by decide) rfl (fun c5 => ?_) (fun c5 => ?_)
    · have h := h3 c5
      refine q_iconst (n := 37) E.1 dX4_allWithin_36 rfl ?_
      exact q_zret E hW (Or.inr rfl) h dX4_allWithin_37
    · have h := h4 c5
      refine q_aload_n (n := 11) (q := 0) E.1 hl rfl dX4_allWithin_10 rfl rfl ?_
      refine q_iload_n (n := 12) (q := 3) E.1 hl rfl dX4_allWithin_11 rfl rfl ?_
      refine q_callVi (n := 15) (fs := (fsRow X o)) [.int (jI x3)] E hW hl.1 (isRow_lt ho) (ent_row X ho) K4 (c_X4_at l X E.2.2.1.1 o x3 ho _ _ h) (by decide) Y_RX4_25 rfl (rest := []) rfl (Nat.le_of_ble_eq_true rfl) dX4_allWithin_12 rfl (fun r7 M6 H locs h hW => ?_)
      refine q_iload_n (n := 16) (q := 1) E.1 hl rfl dX4_allWithin_15 rfl rfl ?_
      obtain ⟨g8, g9, h10, h11⟩ := h
      refine q_icmp_lt (t := 28) (n := 19) E.1 g8 g9 dX4_allWithin_16 (by decide) rfl (fun c12 => ?_) (fun c12 => ?_)
      · have h := h10 c12
        refine q_iconst (n := 29) E.1 dX4_allWithin_28 rfl ?_
        exact q_zret E hW (Or.inl rfl) h dX4_allWithin_29
      · have h := h11 c12
        refine q_aload_n (n := 20) (q := 0) E.1 hl rfl dX4_allWithin_19 rfl rfl ?_
        refine q_iload_n (n := 21) (q := 3) E.1 hl rfl dX4_allWithin_20 rfl rfl ?_
        refine q_callVi (n := 24) (fs := (fsRow X o)) [.int (jI x3)] E hW hl.1 (isRow_lt ho) (ent_row X ho) K4 (c_X4_at l X E.2.2.1.1 o x3 ho _ _ h) (by decide) Y_RX4_25 rfl (rest := []) rfl (Nat.le_of_ble_eq_true rfl) dX4_allWithin_21 rfl (fun r14 M13 H locs h hW => ?_)
        refine q_iload_n (n := 25) (q := 2) E.1 hl rfl dX4_allWithin_24 rfl rfl ?_
        obtain ⟨g15, g16, h17, h18⟩ := h
        refine q_icmp_le (t := 30) (n := 28) E.1 g15 g16 dX4_allWithin_25 (by decide) rfl (fun c19 => ?_) (fun c19 => ?_)
        · have h := h17 c19
          refine q_iinc (n := 33) (q := 3) [(3, .int (jI (x3 + 1))), (0, .ref (xA X o)), (1, .int (jI a1)), (2, .int (jI a2))] E.1 hl rfl dX4_allWithin_30 (by decide) rfl rfl (fun ls hl => ?_)
          refine q_goto (n := 2) E.1 dX4_allWithin_33 (by decide) ?_
          exact ih _ _ _ _ _ h hW (lv_sub hl [1, 2, 3, 0] rfl)
        · have h := h18 c19
          refine q_iconst (n := 29) E.1 dX4_allWithin_28 rfl ?_
          exact q_zret E hW (Or.inl rfl) h dX4_allWithin_29
def wp_X4_allWithin (o : Nat) (a1 : Int) (a2 : Int) (M : Mem) (Q : Int → Mem → Prop) : Prop := (∃ n : Nat, wp_X4_allWithin_2 o a1 a2 Q n 0 M)
set_option maxHeartbeats 4000000 in
set_option maxRecDepth 100000 in
theorem c_X4_allWithin (l : Launch) (X : Cx) (hI : Inj X) (o : Nat) (a1 : Int) (a2 : Int) (ho : isRow o) (M : Mem) (Q : Int → Mem → Prop) (h : wp_X4_allWithin o a1 a2 M Q) : MI X l yX4_allWithin cX4_allWithin 4 (some .boolean) 1 [.ref (xA X o), .int (jI a1), .int (jI a2)] M Q := by
  refine MI.of hI (by decide) (Nat.le_of_ble_eq_true rfl) ?_
  intro p e R s m args below meth c ls E hW hl
  have E : En X (AW X) 1 p R s m args meth c cX4_allWithin RX4 4 (some .boolean) 0 0 := E
  have hl : lv_has ls 4 [(0, .ref (xA X o)), (1, .int (jI a1)), (2, .int (jI a2))] := hl
  unfold wp_X4_allWithin at h
  refine q_iconst (n := 1) E.1 dX4_allWithin_0 rfl ?_
  refine q_istore_n (n := 2) [(3, .int (jI 0)), (0, .ref (xA X o)), (1, .int (jI a1)), (2, .int (jI a2))] E.1 hl dX4_allWithin_1 rfl (by decide) rfl rfl (fun ls hl => ?_)
  obtain ⟨n1, h⟩ := h
  exact v_X4_allWithin_2 o a1 a2 ho E Q n1 _ _ _ _ _ h hW (lv_sub hl [1, 2, 3, 0] rfl)
end
