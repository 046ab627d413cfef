/-! Labels, Sheets -/
section
variable {X : Cx} {p : Program} {l : Launch} {e : Env} {R : Room} {s : State} {m : MethodId} {args : Array Value} {below : List Frame} {meth : Method} {c : Code}
/-! StickerPress$Labels.count()I -/
theorem dX1_count_0 : decode cX1_count 0 = .ok (.aload_n 0, 1) := by decide +kernel
theorem dX1_count_1 : decode cX1_count 1 = .ok (.getfield 25, 3) := by decide +kernel
theorem dX1_count_4 : decode cX1_count 4 = .ok (.ireturn, 1) := by decide +kernel
def wp_X1_count (M : Mem) (Q : Int → Mem → Prop) : Prop := Q (M 48 4) M
set_option maxHeartbeats 4000000 in
set_option maxRecDepth 100000 in
theorem c_X1_count (l : Launch) (X : Cx) (hI : Inj X) (M : Mem) (Q : Int → Mem → Prop) (h : wp_X1_count M Q) : MI X l yX1_count cX1_count 1 (some .int) 0 [.ref (xA X 48)] M Q := by
  refine MI.of hI (by decide) (Nat.le_of_ble_eq_true rfl) ?_
  intro p e R s m args below meth c ls E hW hl
  have E : En X (AW X) 0 p R s m args meth c cX1_count RX1 1 (some .int) 0 0 := E
  have hl : lv_has ls 1 [(0, .ref (xA X 48))] := hl
  unfold wp_X1_count at h
  refine q_aload_n (n := 1) (q := 0) E.1 hl rfl dX1_count_0 rfl rfl ?_
  refine q_get (n := 4) (k := 4) (fs := (fs48 X)) (v := .int (jI (M 48 4))) E hW (by decide) (fun _ => rfl) K1 (by decide) w178 rfl rfl dX1_count_1 rfl ?_
  exact q_iret E hW h dX1_count_4
/-! StickerPress.isGroup(I)Z -/
theorem dX7_isGroup_0 : decode cX7_isGroup 0 = .ok (.iload_n 0, 1) := by decide +kernel
theorem dX7_isGroup_1 : decode cX7_isGroup 1 = .ok (.ifCond .lt 13, 3) := by decide +kernel
theorem dX7_isGroup_4 : decode cX7_isGroup 4 = .ok (.iload_n 0, 1) := by decide +kernel
theorem dX7_isGroup_5 : decode cX7_isGroup 5 = .ok (.bipush 6, 2) := by decide +kernel
theorem dX7_isGroup_7 : decode cX7_isGroup 7 = .ok (.if_icmp .ge 7, 3) := by decide +kernel
theorem dX7_isGroup_10 : decode cX7_isGroup 10 = .ok (.iconst 1, 1) := by decide +kernel
theorem dX7_isGroup_11 : decode cX7_isGroup 11 = .ok (.goto 4, 3) := by decide +kernel
theorem dX7_isGroup_14 : decode cX7_isGroup 14 = .ok (.iconst 0, 1) := by decide +kernel
theorem dX7_isGroup_15 : decode cX7_isGroup 15 = .ok (.ireturn, 1) := by decide +kernel
def wp_X7_isGroup (a0 : Int) (M : Mem) (Q : Int → Mem → Prop) : Prop := (Rg a0 ∧ (a0 < 0 → Q 0 M) ∧ (¬ (a0 < 0) → (Rg a0 ∧ (6 ≤ a0 → Q 0 M) ∧ (¬ (6 ≤ a0) → Q 1 M))))
set_option maxHeartbeats 4000000 in
set_option maxRecDepth 100000 in
theorem c_X7_isGroup (l : Launch) (X : Cx) (hI : Inj X) (a0 : Int) (M : Mem) (Q : Int → Mem → Prop) (h : wp_X7_isGroup a0 M Q) : MI X l yX7_isGroup cX7_isGroup 1 (some .boolean) 0 [.int (jI a0)] M Q := by
  refine MI.of hI (by decide) (Nat.le_of_ble_eq_true rfl) ?_
  intro p e R s m args below meth c ls E hW hl
  have E : En X (AW X) 0 p R s m args meth c cX7_isGroup RX7 1 (some .boolean) 0 0 := E
  have hl : lv_has ls 1 [(0, .int (jI a0))] := hl
  unfold wp_X7_isGroup at h
  refine q_iload_n (n := 1) (q := 0) E.1 hl rfl dX7_isGroup_0 rfl rfl ?_
  obtain ⟨g1, h2, h3⟩ := h
  refine q_if_lt (t := 14) (n := 4) E.1 g1 dX7_isGroup_1 (by decide) rfl (fun c4 => ?_) (fun c4 => ?_)
  · have h := h2 c4
    refine q_iconst (n := 15) E.1 dX7_isGroup_14 rfl ?_
    exact q_zret E hW (Or.inl rfl) h dX7_isGroup_15
  · have h := h3 c4
    refine q_iload_n (n := 5) (q := 0) E.1 hl rfl dX7_isGroup_4 rfl rfl ?_
    refine q_bipush (n := 7) E.1 dX7_isGroup_5 (by decide) rfl ?_
    obtain ⟨g5, h6, h7⟩ := h
    refine q_icmp_ge (t := 14) (n := 10) E.1 g5 (by decide) dX7_isGroup_7 (by decide) rfl (fun c8 => ?_) (fun c8 => ?_)
    · have h := h6 c8
      refine q_iconst (n := 15) E.1 dX7_isGroup_14 rfl ?_
      exact q_zret E hW (Or.inl rfl) h dX7_isGroup_15
    · have h := h7 c8
      refine q_iconst (n := 11) E.1 dX7_isGroup_10 rfl ?_
      refine q_goto (n := 15) E.1 dX7_isGroup_11 (by decide) ?_
      exact q_zret E hW (Or.inr rfl) h dX7_isGroup_15
/-! StickerPress$Labels.waitingIn(I)I -/
theorem dX1_waitingIn_0 : decode cX1_waitingIn 0 = .ok (.iload_n 1, 1) := by decide +kernel
theorem dX1_waitingIn_1 : decode cX1_waitingIn 1 = .ok (.invokestatic 29, 3) := by decide +kernel
theorem dX1_waitingIn_4 : decode cX1_waitingIn 4 = .ok (.ifCond .eq 12, 3) := by decide +kernel
theorem dX1_waitingIn_7 : decode cX1_waitingIn 7 = .ok (.aload_n 0, 1) := by decide +kernel
theorem dX1_waitingIn_8 : decode cX1_waitingIn 8 = .ok (.getfield 22, 3) := by decide +kernel
theorem dX1_waitingIn_11 : decode cX1_waitingIn 11 = .ok (.iload_n 1, 1) := by decide +kernel
theorem dX1_waitingIn_12 : decode cX1_waitingIn 12 = .ok (.iaload, 1) := by decide +kernel
theorem dX1_waitingIn_13 : decode cX1_waitingIn 13 = .ok (.goto 4, 3) := by decide +kernel
theorem dX1_waitingIn_16 : decode cX1_waitingIn 16 = .ok (.iconst 0, 1) := by decide +kernel
theorem dX1_waitingIn_17 : decode cX1_waitingIn 17 = .ok (.ireturn, 1) := by decide +kernel
theorem Y_RX1_29 : YN RX1 29 yX7_isGroup cX7_isGroup 1 (some .boolean) 1 "StickerPress" := ⟨w516, List.mem_of_getElem? (i := 7) rfl, w515, w43, by decide +kernel, by decide⟩
def wp_X1_waitingIn (a1 : Int) (M : Mem) (Q : Int → Mem → Prop) : Prop := wp_X7_isGroup a1 M (fun r2 M1 => (Rg r2 ∧ (r2 = 0 → Q 0 M1) ∧ (¬ (r2 = 0) → (0 ≤ a1 ∧ a1 < 6) ∧ Q (M1 52 a1.toNat) M1)))
set_option maxHeartbeats 4000000 in
set_option maxRecDepth 100000 in
theorem c_X1_waitingIn (l : Launch) (X : Cx) (hI : Inj X) (a1 : Int) (M : Mem) (Q : Int → Mem → Prop) (h : wp_X1_waitingIn a1 M Q) : MI X l yX1_waitingIn cX1_waitingIn 2 (some .int) 1 [.ref (xA X 48), .int (jI a1)] M Q := by
  refine MI.of hI (by decide) (Nat.le_of_ble_eq_true rfl) ?_
  intro p e R s m args below meth c ls E hW hl
  have E : En X (AW X) 1 p R s m args meth c cX1_waitingIn RX1 2 (some .int) 0 0 := E
  have hl : lv_has ls 2 [(0, .ref (xA X 48)), (1, .int (jI a1))] := hl
  unfold wp_X1_waitingIn at h
  refine q_iload_n (n := 1) (q := 1) E.1 hl rfl dX1_waitingIn_0 rfl rfl ?_
  refine q_callNi (n := 4) [.int (jI a1)] E hW hl.1 (c_X7_isGroup l X E.2.2.1.1 a1  _ _ h) (by decide) Y_RX1_29 rfl (rest := []) rfl (Nat.le_of_ble_eq_true rfl) dX1_waitingIn_1 rfl (fun r2 M1 H locs h hW => ?_)
  obtain ⟨g3, h4, h5⟩ := h
  refine q_if_eq (t := 16) (n := 7) E.1 g3 dX1_waitingIn_4 (by decide) rfl (fun c6 => ?_) (fun c6 => ?_)
  · have h := h4 c6
    refine q_iconst (n := 17) E.1 dX1_waitingIn_16 rfl ?_
    exact q_iret E hW h dX1_waitingIn_17
  · have h := h5 c6
    refine q_aload_n (n := 8) (q := 0) E.1 hl rfl dX1_waitingIn_7 rfl rfl ?_
    refine q_get (n := 11) (k := 3) (fs := (fs48 X)) (v := .ref (xA X 52)) E hW (by decide) (fun _ => rfl) K1 (by decide) w177 rfl rfl dX1_waitingIn_8 rfl ?_
    refine q_iload_n (n := 12) (q := 1) E.1 hl rfl dX1_waitingIn_11 rfl rfl ?_
    obtain ⟨g7, h⟩ := h
    refine q_iald (n := 13) E hW (by decide) (fun _ => rfl) (by decide) g7 dX1_waitingIn_12 rfl ?_
    refine q_goto (n := 17) E.1 dX1_waitingIn_13 (by decide) ?_
    exact q_iret E hW h dX1_waitingIn_17
/-! StickerPress$Labels.allWaiting()I -/
theorem dX1_allWaiting_0 : decode cX1_allWaiting 0 = .ok (.iconst 0, 1) := by decide +kernel
theorem dX1_allWaiting_1 : decode cX1_allWaiting 1 = .ok (.istore_n 1, 1) := by decide +kernel
theorem dX1_allWaiting_2 : decode cX1_allWaiting 2 = .ok (.iconst 0, 1) := by decide +kernel
theorem dX1_allWaiting_3 : decode cX1_allWaiting 3 = .ok (.istore_n 2, 1) := by decide +kernel
theorem dX1_allWaiting_4 : decode cX1_allWaiting 4 = .ok (.iload_n 2, 1) := by decide +kernel
theorem dX1_allWaiting_5 : decode cX1_allWaiting 5 = .ok (.bipush 6, 2) := by decide +kernel
theorem dX1_allWaiting_7 : decode cX1_allWaiting 7 = .ok (.if_icmp .ge 18, 3) := by decide +kernel
theorem dX1_allWaiting_10 : decode cX1_allWaiting 10 = .ok (.iload_n 1, 1) := by decide +kernel
theorem dX1_allWaiting_11 : decode cX1_allWaiting 11 = .ok (.aload_n 0, 1) := by decide +kernel
theorem dX1_allWaiting_12 : decode cX1_allWaiting 12 = .ok (.getfield 22, 3) := by decide +kernel
theorem dX1_allWaiting_15 : decode cX1_allWaiting 15 = .ok (.iload_n 2, 1) := by decide +kernel
theorem dX1_allWaiting_16 : decode cX1_allWaiting 16 = .ok (.iaload, 1) := by decide +kernel
theorem dX1_allWaiting_17 : decode cX1_allWaiting 17 = .ok (.iadd, 1) := by decide +kernel
theorem dX1_allWaiting_18 : decode cX1_allWaiting 18 = .ok (.istore_n 1, 1) := by decide +kernel
theorem dX1_allWaiting_19 : decode cX1_allWaiting 19 = .ok (.iinc 2 1, 3) := by decide +kernel
theorem dX1_allWaiting_22 : decode cX1_allWaiting 22 = .ok (.goto (-18), 3) := by decide +kernel
theorem dX1_allWaiting_25 : decode cX1_allWaiting 25 = .ok (.iload_n 1, 1) := by decide +kernel
theorem dX1_allWaiting_26 : decode cX1_allWaiting 26 = .ok (.ireturn, 1) := by decide +kernel
def wp_X1_allWaiting_4 (Q : Int → Mem → Prop) : Nat → Int → Int → Mem → Prop
  | 0, _, _, _ => False
  | n + 1, x1, x2, M => (Rg x2 ∧ (6 ≤ x2 → Q x1 M) ∧ (¬ (6 ≤ x2) → (0 ≤ x2 ∧ x2 < 6) ∧ wp_X1_allWaiting_4 Q n (x1 + (M 52 x2.toNat)) (x2 + 1) M))
set_option maxHeartbeats 4000000 in
set_option maxRecDepth 100000 in
theorem v_X1_allWaiting_4 (E : En X (AW X) 0 p R s m args meth c cX1_allWaiting RX1 3 (some .int) 0 0) (Q : Int → Mem → Prop) : ∀ n : Nat, ∀ (x1 x2 : Int) (M : Mem) (H : Heap) (locs : List Loc) (ls : Array Slot), wp_X1_allWaiting_4 Q n x1 x2 M → Wd X (AW X) s M H locs → lv_has ls 3 [(0, .ref (xA X 48)), (1, .int (jI x1)), (2, .int (jI x2))] → W p l e R s m args below meth c H locs 0 0 (MQ below (QI X Q) args s 0 0 (AW X)) (F0 m 4 ls []) := by
  intro n
  induction n with
  | zero => intro x1 x2 M H locs ls h; exact absurd h (by simp [wp_X1_allWaiting_4])
  | succ n ih =>
    intro x1 x2 M H locs ls h hW hl
    rw [wp_X1_allWaiting_4] at h
    refine q_iload_n (n := 5) (q := 2) E.1 hl rfl dX1_allWaiting_4 rfl rfl ?_
    refine q_bipush (n := 7) E.1 dX1_allWaiting_5 (by decide) rfl ?_
    obtain ⟨g1, h2, h3⟩ := h
    refine q_icmp_ge (t := 25) (n := 10) E.1 g1 (by decide) dX1_allWaiting_7 (by decide) rfl (fun c4 => ?_) (fun c4 => ?_)
    · have h := h2 c4
      refine q_iload_n (n := 26) (q := 1) E.1 hl rfl dX1_allWaiting_25 rfl rfl ?_
      exact q_iret E hW h dX1_allWaiting_26
    · have h := h3 c4
      refine q_iload_n (n := 11) (q := 1) E.1 hl rfl dX1_allWaiting_10 rfl rfl ?_
      refine q_aload_n (n := 12) (q := 0) E.1 hl rfl dX1_allWaiting_11 rfl rfl ?_
      refine q_get (n := 15) (k := 3) (fs := (fs48 X)) (v := .ref (xA X 52)) E hW (by decide) (fun _ => rfl) K1 (by decide) w177 rfl rfl dX1_allWaiting_12 rfl ?_
      refine q_iload_n (n := 16) (q := 2) E.1 hl rfl dX1_allWaiting_15 rfl rfl ?_
      obtain ⟨g5, h⟩ := h
      refine q_iald (n := 17) E hW (by decide) (fun _ => rfl) (by decide) g5 dX1_allWaiting_16 rfl ?_
      refine q_iadd (n := 18) E.1 dX1_allWaiting_17 rfl ?_
      refine q_istore_n (n := 19) [(1, .int (jI (x1 + (M 52 x2.toNat)))), (0, .ref (xA X 48)), (2, .int (jI x2))] E.1 hl dX1_allWaiting_18 rfl (by decide) rfl rfl (fun ls hl => ?_)
      refine q_iinc (n := 22) (q := 2) [(2, .int (jI (x2 + 1))), (1, .int (jI (x1 + (M 52 x2.toNat)))), (0, .ref (xA X 48))] E.1 hl rfl dX1_allWaiting_19 (by decide) rfl rfl (fun ls hl => ?_)
      refine q_goto (n := 4) E.1 dX1_allWaiting_22 (by decide) ?_
      exact ih _ _ _ _ _ _ h hW (lv_sub hl [2, 1, 0] rfl)
def wp_X1_allWaiting (M : Mem) (Q : Int → Mem → Prop) : Prop := (∃ n : Nat, wp_X1_allWaiting_4 Q n 0 0 M)
set_option maxHeartbeats 4000000 in
set_option maxRecDepth 100000 in
theorem c_X1_allWaiting (l : Launch) (X : Cx) (hI : Inj X) (M : Mem) (Q : Int → Mem → Prop) (h : wp_X1_allWaiting M Q) : MI X l yX1_allWaiting cX1_allWaiting 3 (some .int) 0 [.ref (xA X 48)] M Q := by
  refine MI.of hI (by decide) (Nat.le_of_ble_eq_true rfl) ?_
  intro p e R s m args below meth c ls E hW hl
  have E : En X (AW X) 0 p R s m args meth c cX1_allWaiting RX1 3 (some .int) 0 0 := E
  have hl : lv_has ls 3 [(0, .ref (xA X 48))] := hl
  unfold wp_X1_allWaiting at h
  refine q_iconst (n := 1) E.1 dX1_allWaiting_0 rfl ?_
  refine q_istore_n (n := 2) [(1, .int (jI 0)), (0, .ref (xA X 48))] E.1 hl dX1_allWaiting_1 rfl (by decide) rfl rfl (fun ls hl => ?_)
  refine q_iconst (n := 3) E.1 dX1_allWaiting_2 rfl ?_
  refine q_istore_n (n := 4) [(2, .int (jI 0)), (1, .int (jI 0)), (0, .ref (xA X 48))] E.1 hl dX1_allWaiting_3 rfl (by decide) rfl rfl (fun ls hl => ?_)
  obtain ⟨n1, h⟩ := h
  exact v_X1_allWaiting_4 E Q n1 _ _ _ _ _ _ h hW (lv_sub hl [2, 1, 0] rfl)
/-! StickerPress$Labels.changeWaiting(II)V -/
theorem dX1_changeWaiting_0 : decode cX1_changeWaiting 0 = .ok (.iload_n 1, 1) := by decide +kernel
theorem dX1_changeWaiting_1 : decode cX1_changeWaiting 1 = .ok (.invokestatic 29, 3) := by decide +kernel
theorem dX1_changeWaiting_4 : decode cX1_changeWaiting 4 = .ok (.ifCond .eq 13, 3) := by decide +kernel
theorem dX1_changeWaiting_7 : decode cX1_changeWaiting 7 = .ok (.aload_n 0, 1) := by decide +kernel
theorem dX1_changeWaiting_8 : decode cX1_changeWaiting 8 = .ok (.getfield 22, 3) := by decide +kernel
theorem dX1_changeWaiting_11 : decode cX1_changeWaiting 11 = .ok (.iload_n 1, 1) := by decide +kernel
theorem dX1_changeWaiting_12 : decode cX1_changeWaiting 12 = .ok (.dup2, 1) := by decide +kernel
theorem dX1_changeWaiting_13 : decode cX1_changeWaiting 13 = .ok (.iaload, 1) := by decide +kernel
theorem dX1_changeWaiting_14 : decode cX1_changeWaiting 14 = .ok (.iload_n 2, 1) := by decide +kernel
theorem dX1_changeWaiting_15 : decode cX1_changeWaiting 15 = .ok (.iadd, 1) := by decide +kernel
theorem dX1_changeWaiting_16 : decode cX1_changeWaiting 16 = .ok (.iastore, 1) := by decide +kernel
theorem dX1_changeWaiting_17 : decode cX1_changeWaiting 17 = .ok (.return_, 1) := by decide +kernel
def wp_X1_changeWaiting (a1 : Int) (a2 : Int) (M : Mem) (Q : Mem → Prop) : Prop := wp_X7_isGroup a1 M (fun r2 M1 => (Rg r2 ∧ (r2 = 0 → Q M1) ∧ (¬ (r2 = 0) → (0 ≤ a1 ∧ a1 < 6) ∧ (0 ≤ a1 ∧ a1 < 6) ∧ Q (up M1 52 a1.toNat ((M1 52 a1.toNat) + a2)))))
set_option maxHeartbeats 4000000 in
set_option maxRecDepth 100000 in
theorem c_X1_changeWaiting (l : Launch) (X : Cx) (hI : Inj X) (a1 : Int) (a2 : Int) (M : Mem) (Q : Mem → Prop) (h : wp_X1_changeWaiting a1 a2 M Q) : MV X l yX1_changeWaiting cX1_changeWaiting 3 1 [.ref (xA X 48), .int (jI a1), .int (jI a2)] M Q := by
  refine MV.of hI (by decide) (Nat.le_of_ble_eq_true rfl) ?_
  intro p e R s m args below meth c ls E hW hl
  have E : En X (AW X) 1 p R s m args meth c cX1_changeWaiting RX1 3 none 0 0 := E
  have hl : lv_has ls 3 [(0, .ref (xA X 48)), (1, .int (jI a1)), (2, .int (jI a2))] := hl
  unfold wp_X1_changeWaiting at h
  refine q_iload_n (n := 1) (q := 1) E.1 hl rfl dX1_changeWaiting_0 rfl rfl ?_
  refine q_callNi (n := 4) [.int (jI a1)] E hW hl.1 (c_X7_isGroup l X E.2.2.1.1 a1  _ _ h) (by decide) Y_RX1_29 rfl (rest := []) rfl (Nat.le_of_ble_eq_true rfl) dX1_changeWaiting_1 rfl (fun r2 M1 H locs h hW => ?_)
  obtain ⟨g3, h4, h5⟩ := h
  refine q_if_eq (t := 17) (n := 7) E.1 g3 dX1_changeWaiting_4 (by decide) rfl (fun c6 => ?_) (fun c6 => ?_)
  · have h := h4 c6
    exact q_vret E hW h dX1_changeWaiting_17
  · have h := h5 c6
    refine q_aload_n (n := 8) (q := 0) E.1 hl rfl dX1_changeWaiting_7 rfl rfl ?_
    refine q_get (n := 11) (k := 3) (fs := (fs48 X)) (v := .ref (xA X 52)) E hW (by decide) (fun _ => rfl) K1 (by decide) w177 rfl rfl dX1_changeWaiting_8 rfl ?_
    refine q_iload_n (n := 12) (q := 1) E.1 hl rfl dX1_changeWaiting_11 rfl rfl ?_
    refine q_dup2 (n := 13) E.1 dX1_changeWaiting_12 rfl rfl rfl ?_
    obtain ⟨g7, h⟩ := h
    refine q_iald (n := 14) E hW (by decide) (fun _ => rfl) (by decide) g7 dX1_changeWaiting_13 rfl ?_
    refine q_iload_n (n := 15) (q := 2) E.1 hl rfl dX1_changeWaiting_14 rfl rfl ?_
    refine q_iadd (n := 16) E.1 dX1_changeWaiting_15 rfl ?_
    obtain ⟨g8, h⟩ := h
    refine q_iast (n := 17) E hW (by decide) (fun _ => rfl) (by decide) g8 dX1_changeWaiting_16 rfl (fun H locs hW => ?_)
    exact q_vret E hW h dX1_changeWaiting_17
/-! StickerPress$Labels.addLabels(II)I -/
theorem dX1_addLabels_0 : decode cX1_addLabels 0 = .ok (.iload_n 1, 1) := by decide +kernel
theorem dX1_addLabels_1 : decode cX1_addLabels 1 = .ok (.invokestatic 29, 3) := by decide +kernel
theorem dX1_addLabels_4 : decode cX1_addLabels 4 = .ok (.ifCond .eq 14, 3) := by decide +kernel
theorem dX1_addLabels_7 : decode cX1_addLabels 7 = .ok (.iload_n 2, 1) := by decide +kernel
theorem dX1_addLabels_8 : decode cX1_addLabels 8 = .ok (.iconst 1, 1) := by decide +kernel
theorem dX1_addLabels_9 : decode cX1_addLabels 9 = .ok (.if_icmp .lt 9, 3) := by decide +kernel
theorem dX1_addLabels_12 : decode cX1_addLabels 12 = .ok (.iload_n 2, 1) := by decide +kernel
theorem dX1_addLabels_13 : decode cX1_addLabels 13 = .ok (.bipush 40, 2) := by decide +kernel
theorem dX1_addLabels_15 : decode cX1_addLabels 15 = .ok (.if_icmp .le 5, 3) := by decide +kernel
theorem dX1_addLabels_18 : decode cX1_addLabels 18 = .ok (.iconst (-1), 1) := by decide +kernel
theorem dX1_addLabels_19 : decode cX1_addLabels 19 = .ok (.ireturn, 1) := by decide +kernel
theorem dX1_addLabels_20 : decode cX1_addLabels 20 = .ok (.aload_n 0, 1) := by decide +kernel
theorem dX1_addLabels_21 : decode cX1_addLabels 21 = .ok (.iload_n 1, 1) := by decide +kernel
theorem dX1_addLabels_22 : decode cX1_addLabels 22 = .ok (.invokevirtual 33, 3) := by decide +kernel
theorem dX1_addLabels_25 : decode cX1_addLabels 25 = .ok (.iload_n 2, 1) := by decide +kernel
theorem dX1_addLabels_26 : decode cX1_addLabels 26 = .ok (.iadd, 1) := by decide +kernel
theorem dX1_addLabels_27 : decode cX1_addLabels 27 = .ok (.bipush 40, 2) := by decide +kernel
theorem dX1_addLabels_29 : decode cX1_addLabels 29 = .ok (.if_icmp .gt 15, 3) := by decide +kernel
theorem dX1_addLabels_32 : decode cX1_addLabels 32 = .ok (.aload_n 0, 1) := by decide +kernel
theorem dX1_addLabels_33 : decode cX1_addLabels 33 = .ok (.getfield 25, 3) := by decide +kernel
theorem dX1_addLabels_36 : decode cX1_addLabels 36 = .ok (.iload_n 2, 1) := by decide +kernel
theorem dX1_addLabels_37 : decode cX1_addLabels 37 = .ok (.iadd, 1) := by decide +kernel
theorem dX1_addLabels_38 : decode cX1_addLabels 38 = .ok (.sipush 200, 3) := by decide +kernel
theorem dX1_addLabels_41 : decode cX1_addLabels 41 = .ok (.if_icmp .le 5, 3) := by decide +kernel
theorem dX1_addLabels_44 : decode cX1_addLabels 44 = .ok (.iconst (-1), 1) := by decide +kernel
theorem dX1_addLabels_45 : decode cX1_addLabels 45 = .ok (.ireturn, 1) := by decide +kernel
theorem dX1_addLabels_46 : decode cX1_addLabels 46 = .ok (.aload_n 0, 1) := by decide +kernel
theorem dX1_addLabels_47 : decode cX1_addLabels 47 = .ok (.getfield 25, 3) := by decide +kernel
theorem dX1_addLabels_50 : decode cX1_addLabels 50 = .ok (.istore_n 3, 1) := by decide +kernel
theorem dX1_addLabels_51 : decode cX1_addLabels 51 = .ok (.iload_n 3, 1) := by decide +kernel
theorem dX1_addLabels_52 : decode cX1_addLabels 52 = .ok (.istore 4, 2) := by decide +kernel
theorem dX1_addLabels_54 : decode cX1_addLabels 54 = .ok (.iload 4, 2) := by decide +kernel
theorem dX1_addLabels_56 : decode cX1_addLabels 56 = .ok (.iload_n 3, 1) := by decide +kernel
theorem dX1_addLabels_57 : decode cX1_addLabels 57 = .ok (.iload_n 2, 1) := by decide +kernel
theorem dX1_addLabels_58 : decode cX1_addLabels 58 = .ok (.iadd, 1) := by decide +kernel
theorem dX1_addLabels_59 : decode cX1_addLabels 59 = .ok (.if_icmp .ge 25, 3) := by decide +kernel
theorem dX1_addLabels_62 : decode cX1_addLabels 62 = .ok (.aload_n 0, 1) := by decide +kernel
theorem dX1_addLabels_63 : decode cX1_addLabels 63 = .ok (.getfield 9, 3) := by decide +kernel
theorem dX1_addLabels_66 : decode cX1_addLabels 66 = .ok (.iload 4, 2) := by decide +kernel
theorem dX1_addLabels_68 : decode cX1_addLabels 68 = .ok (.iload_n 1, 1) := by decide +kernel
theorem dX1_addLabels_69 : decode cX1_addLabels 69 = .ok (.iastore, 1) := by decide +kernel
theorem dX1_addLabels_70 : decode cX1_addLabels 70 = .ok (.aload_n 0, 1) := by decide +kernel
theorem dX1_addLabels_71 : decode cX1_addLabels 71 = .ok (.getfield 18, 3) := by decide +kernel
theorem dX1_addLabels_74 : decode cX1_addLabels 74 = .ok (.iload 4, 2) := by decide +kernel
theorem dX1_addLabels_76 : decode cX1_addLabels 76 = .ok (.iconst 1, 1) := by decide +kernel
theorem dX1_addLabels_77 : decode cX1_addLabels 77 = .ok (.bastore, 1) := by decide +kernel
theorem dX1_addLabels_78 : decode cX1_addLabels 78 = .ok (.iinc 4 1, 3) := by decide +kernel
theorem dX1_addLabels_81 : decode cX1_addLabels 81 = .ok (.goto (-27), 3) := by decide +kernel
theorem dX1_addLabels_84 : decode cX1_addLabels 84 = .ok (.aload_n 0, 1) := by decide +kernel
theorem dX1_addLabels_85 : decode cX1_addLabels 85 = .ok (.iload_n 1, 1) := by decide +kernel
theorem dX1_addLabels_86 : decode cX1_addLabels 86 = .ok (.iload_n 2, 1) := by decide +kernel
theorem dX1_addLabels_87 : decode cX1_addLabels 87 = .ok (.invokevirtual 37, 3) := by decide +kernel
theorem dX1_addLabels_90 : decode cX1_addLabels 90 = .ok (.aload_n 0, 1) := by decide +kernel
theorem dX1_addLabels_91 : decode cX1_addLabels 91 = .ok (.dup, 1) := by decide +kernel
theorem dX1_addLabels_92 : decode cX1_addLabels 92 = .ok (.getfield 25, 3) := by decide +kernel
theorem dX1_addLabels_95 : decode cX1_addLabels 95 = .ok (.iload_n 2, 1) := by decide +kernel
theorem dX1_addLabels_96 : decode cX1_addLabels 96 = .ok (.iadd, 1) := by decide +kernel
theorem dX1_addLabels_97 : decode cX1_addLabels 97 = .ok (.putfield 25, 3) := by decide +kernel
theorem dX1_addLabels_100 : decode cX1_addLabels 100 = .ok (.iload_n 3, 1) := by decide +kernel
theorem dX1_addLabels_101 : decode cX1_addLabels 101 = .ok (.ireturn, 1) := by decide +kernel
theorem Y_RX1_33 : YV RX1 33 RX1 yX1_waitingIn cX1_waitingIn 2 (some .int) 1 := ⟨w520, w517, w518, w519, w49, by decide +kernel, by decide⟩
theorem Y_RX1_37 : YV RX1 37 RX1 yX1_changeWaiting cX1_changeWaiting 3 none 2 := ⟨w524, w521, w523, w14, w49, by decide +kernel, by decide⟩
def wp_X1_addLabels_54 (a1 : Int) (a2 : Int) (Q : Int → Mem → Prop) : Nat → Int → Int → Mem → Prop
  | 0, _, _, _ => False
  | n + 1, x3, x4, M => (Rg x4 ∧ Rg (x3 + a2) ∧ ((x3 + a2) ≤ x4 → wp_X1_changeWaiting a1 a2 M (fun M6 => Q x3 (up M6 48 4 ((M6 48 4) + a2)))) ∧ (¬ ((x3 + a2) ≤ x4) → (0 ≤ x4 ∧ x4 < 200) ∧ (0 ≤ x4 ∧ x4 < 200) ∧ wp_X1_addLabels_54 a1 a2 Q n x3 (x4 + 1) (up (up M 49 x4.toNat a1) 51 x4.toNat 1)))
set_option maxHeartbeats 4000000 in
set_option maxRecDepth 100000 in
theorem v_X1_addLabels_54 (a1 : Int) (a2 : Int) (E : En X (AW X) 2 p R s m args meth c cX1_addLabels RX1 5 (some .int) 0 0) (Q : Int → Mem → Prop) : ∀ n : Nat, ∀ (x3 x4 : Int) (M : Mem) (H : Heap) (locs : List Loc) (ls : Array Slot), wp_X1_addLabels_54 a1 a2 Q n x3 x4 M → Wd X (AW X) s M H locs → lv_has ls 5 [(0, .ref (xA X 48)), (1, .int (jI a1)), (2, .int (jI a2)), (3, .int (jI x3)), (4, .int (jI x4))] → W p l e R s m args below meth c H locs 0 0 (MQ below (QI X Q) args s 0 0 (AW X)) (F0 m 54 ls []) := by
  intro n
  induction n with
  | zero => intro x3 x4 M H locs ls h; exact absurd h (by simp [wp_X1_addLabels_54])
  | succ n ih =>
    intro x3 x4 M H locs ls h hW hl
    rw [wp_X1_addLabels_54] at h
    refine q_iload (n := 56) (q := 4) E.1 hl rfl dX1_addLabels_54 rfl ?_
    refine q_iload_n (n := 57) (q := 3) E.1 hl rfl dX1_addLabels_56 rfl rfl ?_
    refine q_iload_n (n := 58) (q := 2) E.1 hl rfl dX1_addLabels_57 rfl rfl ?_
    refine q_iadd (n := 59) E.1 dX1_addLabels_58 rfl ?_
    obtain ⟨g1, g2, h3, h4⟩ := h
    refine q_icmp_ge (t := 84) (n := 62) E.1 g1 g2 dX1_addLabels_59 (by decide) rfl (fun c5 => ?_) (fun c5 => ?_)
    · have h := h3 c5
      refine q_aload_n (n := 85) (q := 0) E.1 hl rfl dX1_addLabels_84 rfl rfl ?_
      refine q_iload_n (n := 86) (q := 1) E.1 hl rfl dX1_addLabels_85 rfl rfl ?_
      refine q_iload_n (n := 87) (q := 2) E.1 hl rfl dX1_addLabels_86 rfl rfl ?_
      refine q_callVv (n := 90) (fs := (fs48 X)) [.int (jI a1), .int (jI a2)] E hW hl.1 (by decide) (fun _ => rfl) K1 (c_X1_changeWaiting l X E.2.2.1.1 a1 a2  _ _ h) (by decide) Y_RX1_37 rfl (rest := []) rfl (Nat.le_of_ble_eq_true rfl) dX1_addLabels_87 rfl (fun M6 H locs h hW => ?_)
      refine q_aload_n (n := 91) (q := 0) E.1 hl rfl dX1_addLabels_90 rfl rfl ?_
      refine q_dup (n := 92) E.1 dX1_addLabels_91 rfl rfl ?_
      refine q_get (n := 95) (k := 4) (fs := (fs48 X)) (v := .int (jI (M6 48 4))) E hW (by decide) (fun _ => rfl) K1 (by decide) w178 rfl rfl dX1_addLabels_92 rfl ?_
      refine q_iload_n (n := 96) (q := 2) E.1 hl rfl dX1_addLabels_95 rfl rfl ?_
      refine q_iadd (n := 97) E.1 dX1_addLabels_96 rfl ?_
      refine q_put (n := 100) (k := 4) (fs := (fs48 X)) E hW (by decide) (fun _ => rfl) K1 (by decide) w178 rfl rfl ⟨rfl, rfl⟩ (Nat.le_of_ble_eq_true rfl) (fun _ => rfl) dX1_addLabels_97 rfl (fun H locs hW => ?_)
      refine q_iload_n (n := 101) (q := 3) E.1 hl rfl dX1_addLabels_100 rfl rfl ?_
      exact q_iret E hW h dX1_addLabels_101
    · have h := h4 c5
      refine q_aload_n (n := 63) (q := 0) E.1 hl rfl dX1_addLabels_62 rfl rfl ?_
      refine q_get (n := 66) (k := 0) (fs := (fs48 X)) (v := .ref (xA X 49)) E hW (by decide) (fun _ => rfl) K1 (by decide) w174 rfl rfl dX1_addLabels_63 rfl ?_
      refine q_iload (n := 68) (q := 4) E.1 hl rfl dX1_addLabels_66 rfl ?_
      refine q_iload_n (n := 69) (q := 1) E.1 hl rfl dX1_addLabels_68 rfl rfl ?_
      obtain ⟨g7, h⟩ := h
      refine q_iast (n := 70) E hW (by decide) (fun _ => rfl) (by decide) g7 dX1_addLabels_69 rfl (fun H locs hW => ?_)
      refine q_aload_n (n := 71) (q := 0) E.1 hl rfl dX1_addLabels_70 rfl rfl ?_
      refine q_get (n := 74) (k := 2) (fs := (fs48 X)) (v := .ref (xA X 51)) E hW (by decide) (fun _ => rfl) K1 (by decide) w176 rfl rfl dX1_addLabels_71 rfl ?_
      refine q_iload (n := 76) (q := 4) E.1 hl rfl dX1_addLabels_74 rfl ?_
      refine q_iconst (n := 77) E.1 dX1_addLabels_76 rfl ?_
      obtain ⟨g8, h⟩ := h
      refine q_zast (n := 78) E hW (by decide) (fun _ => rfl) (by decide) g8 (Or.inr rfl) dX1_addLabels_77 rfl (fun H locs hW => ?_)
      refine q_iinc (n := 81) (q := 4) [(4, .int (jI (x4 + 1))), (0, .ref (xA X 48)), (1, .int (jI a1)), (2, .int (jI a2)), (3, .int (jI x3))] E.1 hl rfl dX1_addLabels_78 (by decide) rfl rfl (fun ls hl => ?_)
      refine q_goto (n := 54) E.1 dX1_addLabels_81 (by decide) ?_
      exact ih _ _ _ _ _ _ h hW (lv_sub hl [1, 2, 3, 4, 0] rfl)
def wp_X1_addLabels (a1 : Int) (a2 : Int) (M : Mem) (Q : Int → Mem → Prop) : Prop := wp_X7_isGroup a1 M (fun r2 M1 => (Rg r2 ∧ (r2 = 0 → Q (-1) M1) ∧ (¬ (r2 = 0) → (Rg a2 ∧ (a2 < 1 → Q (-1) M1) ∧ (¬ (a2 < 1) → (Rg a2 ∧ (a2 ≤ 40 → wp_X1_waitingIn a1 M1 (fun r16 M15 => (Rg (r16 + a2) ∧ (40 < (r16 + a2) → Q (-1) M15) ∧ (¬ (40 < (r16 + a2)) → (Rg ((M15 48 4) + a2) ∧ (((M15 48 4) + a2) ≤ 200 → (∃ n : Nat, wp_X1_addLabels_54 a1 a2 Q n (M15 48 4) (M15 48 4) M15)) ∧ (¬ (((M15 48 4) + a2) ≤ 200) → Q (-1) M15)))))) ∧ (¬ (a2 ≤ 40) → Q (-1) M1)))))))
set_option maxHeartbeats 4000000 in
set_option maxRecDepth 100000 in
theorem c_X1_addLabels (l : Launch) (X : Cx) (hI : Inj X) (a1 : Int) (a2 : Int) (M : Mem) (Q : Int → Mem → Prop) (h : wp_X1_addLabels a1 a2 M Q) : MI X l yX1_addLabels cX1_addLabels 5 (some .int) 2 [.ref (xA X 48), .int (jI a1), .int (jI a2)] M Q := by
  refine MI.of hI (by decide) (Nat.le_of_ble_eq_true rfl) ?_
  intro p e R s m args below meth c ls E hW hl
  have E : En X (AW X) 2 p R s m args meth c cX1_addLabels RX1 5 (some .int) 0 0 := E
  have hl : lv_has ls 5 [(0, .ref (xA X 48)), (1, .int (jI a1)), (2, .int (jI a2))] := hl
  unfold wp_X1_addLabels at h
  refine q_iload_n (n := 1) (q := 1) E.1 hl rfl dX1_addLabels_0 rfl rfl ?_
  refine q_callNi (n := 4) [.int (jI a1)] E hW hl.1 (c_X7_isGroup l X E.2.2.1.1 a1  _ _ h) (by decide) Y_RX1_29 rfl (rest := []) rfl (Nat.le_of_ble_eq_true rfl) dX1_addLabels_1 rfl (fun r2 M1 H locs h hW => ?_)
  obtain ⟨g3, h4, h5⟩ := h
  refine q_if_eq (t := 18) (n := 7) E.1 g3 dX1_addLabels_4 (by decide) rfl (fun c6 => ?_) (fun c6 => ?_)
  · have h := h4 c6
    refine q_iconst (n := 19) E.1 dX1_addLabels_18 rfl ?_
    exact q_iret E hW h dX1_addLabels_19
  · have h := h5 c6
    refine q_iload_n (n := 8) (q := 2) E.1 hl rfl dX1_addLabels_7 rfl rfl ?_
    refine q_iconst (n := 9) E.1 dX1_addLabels_8 rfl ?_
    obtain ⟨g7, h8, h9⟩ := h
    refine q_icmp_lt (t := 18) (n := 12) E.1 g7 (by decide) dX1_addLabels_9 (by decide) rfl (fun c10 => ?_) (fun c10 => ?_)
    · have h := h8 c10
      refine q_iconst (n := 19) E.1 dX1_addLabels_18 rfl ?_
      exact q_iret E hW h dX1_addLabels_19
    · have h := h9 c10
      refine q_iload_n (n := 13) (q := 2) E.1 hl rfl dX1_addLabels_12 rfl rfl ?_
      refine q_bipush (n := 15) E.1 dX1_addLabels_13 (by decide) rfl ?_
      obtain ⟨g11, h12, h13⟩ := h
      refine q_icmp_le (t := 20) (n := 18) E.1 g11 (by decide) dX1_addLabels_15 (by decide) rfl (fun c14 => ?_) (fun c14 => ?_)
      · have h := h12 c14
        refine q_aload_n (n := 21) (q := 0) E.1 hl rfl dX1_addLabels_20 rfl rfl ?_
        refine q_iload_n (n := 22) (q := 1) E.1 hl rfl dX1_addLabels_21 rfl rfl ?_
        refine q_callVi (n := 25) (fs := (fs48 X)) [.int (jI a1)] E hW hl.1 (by decide) (fun _ => rfl) K1 (c_X1_waitingIn l X E.2.2.1.1 a1  _ _ h) (by decide) Y_RX1_33 rfl (rest := []) rfl (Nat.le_of_ble_eq_true rfl) dX1_addLabels_22 rfl (fun r16 M15 H locs h hW => ?_)
        refine q_iload_n (n := 26) (q := 2) E.1 hl rfl dX1_addLabels_25 rfl rfl ?_
        refine q_iadd (n := 27) E.1 dX1_addLabels_26 rfl ?_
        refine q_bipush (n := 29) E.1 dX1_addLabels_27 (by decide) rfl ?_
        obtain ⟨g17, h18, h19⟩ := h
        refine q_icmp_gt (t := 44) (n := 32) E.1 g17 (by decide) dX1_addLabels_29 (by decide) rfl (fun c20 => ?_) (fun c20 => ?_)
        · have h := h18 c20
          refine q_iconst (n := 45) E.1 dX1_addLabels_44 rfl ?_
          exact q_iret E hW h dX1_addLabels_45
        · have h := h19 c20
          refine q_aload_n (n := 33) (q := 0) E.1 hl rfl dX1_addLabels_32 rfl rfl ?_
          refine q_get (n := 36) (k := 4) (fs := (fs48 X)) (v := .int (jI (M15 48 4))) E hW (by decide) (fun _ => rfl) K1 (by decide) w178 rfl rfl dX1_addLabels_33 rfl ?_
          refine q_iload_n (n := 37) (q := 2) E.1 hl rfl dX1_addLabels_36 rfl rfl ?_
          refine q_iadd (n := 38) E.1 dX1_addLabels_37 rfl ?_
          refine q_sipush (n := 41) E.1 dX1_addLabels_38 (by decide) rfl ?_
          obtain ⟨g21, h22, h23⟩ := h
          refine q_icmp_le (t := 46) (n := 44) E.1 g21 (by decide) dX1_addLabels_41 (by decide) rfl (fun c24 => ?_) (fun c24 => ?_)
          · have h := h22 c24
            refine q_aload_n (n := 47) (q := 0) E.1 hl rfl dX1_addLabels_46 rfl rfl ?_
            refine q_get (n := 50) (k := 4) (fs := (fs48 X)) (v := .int (jI (M15 48 4))) E hW (by decide) (fun _ => rfl) K1 (by decide) w178 rfl rfl dX1_addLabels_47 rfl ?_
            refine q_istore_n (n := 51) [(3, .int (jI (M15 48 4))), (0, .ref (xA X 48)), (1, .int (jI a1)), (2, .int (jI a2))] E.1 hl dX1_addLabels_50 rfl (by decide) rfl rfl (fun ls hl => ?_)
            refine q_iload_n (n := 52) (q := 0) E.1 hl rfl dX1_addLabels_51 rfl rfl ?_
            refine q_istore (n := 54) [(4, .int (jI (M15 48 4))), (3, .int (jI (M15 48 4))), (0, .ref (xA X 48)), (1, .int (jI a1)), (2, .int (jI a2))] E.1 hl dX1_addLabels_52 (by decide) rfl rfl (fun ls hl => ?_)
            obtain ⟨n25, h⟩ := h
            exact v_X1_addLabels_54 a1 a2 E Q n25 _ _ _ _ _ _ h hW (lv_sub hl [2, 3, 4, 1, 0] rfl)
          · have h := h23 c24
            refine q_iconst (n := 45) E.1 dX1_addLabels_44 rfl ?_
            exact q_iret E hW h dX1_addLabels_45
      · have h := h13 c14
        refine q_iconst (n := 19) E.1 dX1_addLabels_18 rfl ?_
        exact q_iret E hW h dX1_addLabels_19
/-! StickerPress$Labels.isLabel(I)Z -/
theorem dX1_isLabel_0 : decode cX1_isLabel 0 = .ok (.iload_n 1, 1) := by decide +kernel
theorem dX1_isLabel_1 : decode cX1_isLabel 1 = .ok (.ifCond .lt 15, 3) := by decide +kernel
theorem dX1_isLabel_4 : decode cX1_isLabel 4 = .ok (.iload_n 1, 1) := by decide +kernel
theorem dX1_isLabel_5 : decode cX1_isLabel 5 = .ok (.aload_n 0, 1) := by decide +kernel
theorem dX1_isLabel_6 : decode cX1_isLabel 6 = .ok (.getfield 25, 3) := by decide +kernel
theorem dX1_isLabel_9 : decode cX1_isLabel 9 = .ok (.if_icmp .ge 7, 3) := by decide +kernel
theorem dX1_isLabel_12 : decode cX1_isLabel 12 = .ok (.iconst 1, 1) := by decide +kernel
theorem dX1_isLabel_13 : decode cX1_isLabel 13 = .ok (.goto 4, 3) := by decide +kernel
theorem dX1_isLabel_16 : decode cX1_isLabel 16 = .ok (.iconst 0, 1) := by decide +kernel
theorem dX1_isLabel_17 : decode cX1_isLabel 17 = .ok (.ireturn, 1) := by decide +kernel
def wp_X1_isLabel (a1 : Int) (M : Mem) (Q : Int → Mem → Prop) : Prop := (Rg a1 ∧ (a1 < 0 → Q 0 M) ∧ (¬ (a1 < 0) → (Rg a1 ∧ Rg (M 48 4) ∧ ((M 48 4) ≤ a1 → Q 0 M) ∧ (¬ ((M 48 4) ≤ a1) → Q 1 M))))
set_option maxHeartbeats 4000000 in
set_option maxRecDepth 100000 in
theorem c_X1_isLabel (l : Launch) (X : Cx) (hI : Inj X) (a1 : Int) (M : Mem) (Q : Int → Mem → Prop) (h : wp_X1_isLabel a1 M Q) : MI X l yX1_isLabel cX1_isLabel 2 (some .boolean) 0 [.ref (xA X 48), .int (jI a1)] M Q := by
  refine MI.of hI (by decide) (Nat.le_of_ble_eq_true rfl) ?_
  intro p e R s m args below meth c ls E hW hl
  have E : En X (AW X) 0 p R s m args meth c cX1_isLabel RX1 2 (some .boolean) 0 0 := E
  have hl : lv_has ls 2 [(0, .ref (xA X 48)), (1, .int (jI a1))] := hl
  unfold wp_X1_isLabel at h
  refine q_iload_n (n := 1) (q := 1) E.1 hl rfl dX1_isLabel_0 rfl rfl ?_
  obtain ⟨g1, h2, h3⟩ := h
  refine q_if_lt (t := 16) (n := 4) E.1 g1 dX1_isLabel_1 (by decide) rfl (fun c4 => ?_) (fun c4 => ?_)
  · have h := h2 c4
    refine q_iconst (n := 17) E.1 dX1_isLabel_16 rfl ?_
    exact q_zret E hW (Or.inl rfl) h dX1_isLabel_17
  · have h := h3 c4
    refine q_iload_n (n := 5) (q := 1) E.1 hl rfl dX1_isLabel_4 rfl rfl ?_
    refine q_aload_n (n := 6) (q := 0) E.1 hl rfl dX1_isLabel_5 rfl rfl ?_
    refine q_get (n := 9) (k := 4) (fs := (fs48 X)) (v := .int (jI (M 48 4))) E hW (by decide) (fun _ => rfl) K1 (by decide) w178 rfl rfl dX1_isLabel_6 rfl ?_
    obtain ⟨g5, g6, h7, h8⟩ := h
    refine q_icmp_ge (t := 16) (n := 12) E.1 g5 g6 dX1_isLabel_9 (by decide) rfl (fun c9 => ?_) (fun c9 => ?_)
    · have h := h7 c9
      refine q_iconst (n := 17) E.1 dX1_isLabel_16 rfl ?_
      exact q_zret E hW (Or.inl rfl) h dX1_isLabel_17
    · have h := h8 c9
      refine q_iconst (n := 13) E.1 dX1_isLabel_12 rfl ?_
      refine q_goto (n := 17) E.1 dX1_isLabel_13 (by decide) ?_
      exact q_zret E hW (Or.inr rfl) h dX1_isLabel_17
/-! StickerPress$Labels.waitsIn(II)Z -/
theorem dX1_waitsIn_0 : decode cX1_waitsIn 0 = .ok (.aload_n 0, 1) := by decide +kernel
theorem dX1_waitsIn_1 : decode cX1_waitsIn 1 = .ok (.iload_n 1, 1) := by decide +kernel
theorem dX1_waitsIn_2 : decode cX1_waitsIn 2 = .ok (.invokevirtual 41, 3) := by decide +kernel
theorem dX1_waitsIn_5 : decode cX1_waitsIn 5 = .ok (.ifCond .eq 26, 3) := by decide +kernel
theorem dX1_waitsIn_8 : decode cX1_waitsIn 8 = .ok (.aload_n 0, 1) := by decide +kernel
theorem dX1_waitsIn_9 : decode cX1_waitsIn 9 = .ok (.getfield 18, 3) := by decide +kernel
theorem dX1_waitsIn_12 : decode cX1_waitsIn 12 = .ok (.iload_n 1, 1) := by decide +kernel
theorem dX1_waitsIn_13 : decode cX1_waitsIn 13 = .ok (.baload, 1) := by decide +kernel
theorem dX1_waitsIn_14 : decode cX1_waitsIn 14 = .ok (.ifCond .eq 17, 3) := by decide +kernel
theorem dX1_waitsIn_17 : decode cX1_waitsIn 17 = .ok (.aload_n 0, 1) := by decide +kernel
theorem dX1_waitsIn_18 : decode cX1_waitsIn 18 = .ok (.getfield 9, 3) := by decide +kernel
theorem dX1_waitsIn_21 : decode cX1_waitsIn 21 = .ok (.iload_n 1, 1) := by decide +kernel
theorem dX1_waitsIn_22 : decode cX1_waitsIn 22 = .ok (.iaload, 1) := by decide +kernel
theorem dX1_waitsIn_23 : decode cX1_waitsIn 23 = .ok (.iload_n 2, 1) := by decide +kernel
theorem dX1_waitsIn_24 : decode cX1_waitsIn 24 = .ok (.if_icmp .ne 7, 3) := by decide +kernel
theorem dX1_waitsIn_27 : decode cX1_waitsIn 27 = .ok (.iconst 1, 1) := by decide +kernel
theorem dX1_waitsIn_28 : decode cX1_waitsIn 28 = .ok (.goto 4, 3) := by decide +kernel
theorem dX1_waitsIn_31 : decode cX1_waitsIn 31 = .ok (.iconst 0, 1) := by decide +kernel
theorem dX1_waitsIn_32 : decode cX1_waitsIn 32 = .ok (.ireturn, 1) := by decide +kernel
theorem Y_RX1_41 : YV RX1 41 RX1 yX1_isLabel cX1_isLabel 2 (some .boolean) 1 := ⟨w611, w608, w610, w21, w49, by decide +kernel, by decide⟩
def wp_X1_waitsIn (a1 : Int) (a2 : Int) (M : Mem) (Q : Int → Mem → Prop) : Prop := wp_X1_isLabel a1 M (fun r2 M1 => (Rg r2 ∧ (r2 = 0 → Q 0 M1) ∧ (¬ (r2 = 0) → (0 ≤ a1 ∧ a1 < 200) ∧ (Rg (M1 51 a1.toNat) ∧ ((M1 51 a1.toNat) = 0 → Q 0 M1) ∧ (¬ ((M1 51 a1.toNat) = 0) → (0 ≤ a1 ∧ a1 < 200) ∧ (Rg (M1 49 a1.toNat) ∧ Rg a2 ∧ ((M1 49 a1.toNat) ≠ a2 → Q 0 M1) ∧ (¬ ((M1 49 a1.toNat) ≠ a2) → Q 1 M1)))))))
set_option maxHeartbeats 4000000 in
set_option maxRecDepth 100000 in
theorem c_X1_waitsIn (l : Launch) (X : Cx) (hI : Inj X) (a1 : Int) (a2 : Int) (M : Mem) (Q : Int → Mem → Prop) (h : wp_X1_waitsIn a1 a2 M Q) : MI X l yX1_waitsIn cX1_waitsIn 3 (some .boolean) 1 [.ref (xA X 48), .int (jI a1), .int (jI a2)] M Q := by
  refine MI.of hI (by decide) (Nat.le_of_ble_eq_true rfl) ?_
  intro p e R s m args below meth c ls E hW hl
  have E : En X (AW X) 1 p R s m args meth c cX1_waitsIn RX1 3 (some .boolean) 0 0 := E
  have hl : lv_has ls 3 [(0, .ref (xA X 48)), (1, .int (jI a1)), (2, .int (jI a2))] := hl
  unfold wp_X1_waitsIn at h
  refine q_aload_n (n := 1) (q := 0) E.1 hl rfl dX1_waitsIn_0 rfl rfl ?_
  refine q_iload_n (n := 2) (q := 1) E.1 hl rfl dX1_waitsIn_1 rfl rfl ?_
  refine q_callVi (n := 5) (fs := (fs48 X)) [.int (jI a1)] E hW hl.1 (by decide) (fun _ => rfl) K1 (c_X1_isLabel l X E.2.2.1.1 a1  _ _ h) (by decide) Y_RX1_41 rfl (rest := []) rfl (Nat.le_of_ble_eq_true rfl) dX1_waitsIn_2 rfl (fun r2 M1 H locs h hW => ?_)
  obtain ⟨g3, h4, h5⟩ := h
  refine q_if_eq (t := 31) (n := 8) E.1 g3 dX1_waitsIn_5 (by decide) rfl (fun c6 => ?_) (fun c6 => ?_)
  · have h := h4 c6
    refine q_iconst (n := 32) E.1 dX1_waitsIn_31 rfl ?_
    exact q_zret E hW (Or.inl rfl) h dX1_waitsIn_32
  · have h := h5 c6
    refine q_aload_n (n := 9) (q := 0) E.1 hl rfl dX1_waitsIn_8 rfl rfl ?_
    refine q_get (n := 12) (k := 2) (fs := (fs48 X)) (v := .ref (xA X 51)) E hW (by decide) (fun _ => rfl) K1 (by decide) w176 rfl rfl dX1_waitsIn_9 rfl ?_
    refine q_iload_n (n := 13) (q := 1) E.1 hl rfl dX1_waitsIn_12 rfl rfl ?_
    obtain ⟨g7, h⟩ := h
    refine q_zald (n := 14) E hW (by decide) (fun _ => rfl) (by decide) g7 dX1_waitsIn_13 rfl ?_
    obtain ⟨g8, h9, h10⟩ := h
    refine q_if_eq (t := 31) (n := 17) E.1 g8 dX1_waitsIn_14 (by decide) rfl (fun c11 => ?_) (fun c11 => ?_)
    · have h := h9 c11
      refine q_iconst (n := 32) E.1 dX1_waitsIn_31 rfl ?_
      exact q_zret E hW (Or.inl rfl) h dX1_waitsIn_32
    · have h := h10 c11
      refine q_aload_n (n := 18) (q := 0) E.1 hl rfl dX1_waitsIn_17 rfl rfl ?_
      refine q_get (n := 21) (k := 0) (fs := (fs48 X)) (v := .ref (xA X 49)) E hW (by decide) (fun _ => rfl) K1 (by decide) w174 rfl rfl dX1_waitsIn_18 rfl ?_
      refine q_iload_n (n := 22) (q := 1) E.1 hl rfl dX1_waitsIn_21 rfl rfl ?_
      obtain ⟨g12, h⟩ := h
      refine q_iald (n := 23) E hW (by decide) (fun _ => rfl) (by decide) g12 dX1_waitsIn_22 rfl ?_
      refine q_iload_n (n := 24) (q := 2) E.1 hl rfl dX1_waitsIn_23 rfl rfl ?_
      obtain ⟨g13, g14, h15, h16⟩ := h
      refine q_icmp_ne (t := 31) (n := 27) E.1 g13 g14 dX1_waitsIn_24 (by decide) rfl (fun c17 => ?_) (fun c17 => ?_)
      · have h := h15 c17
        refine q_iconst (n := 32) E.1 dX1_waitsIn_31 rfl ?_
        exact q_zret E hW (Or.inl rfl) h dX1_waitsIn_32
      · have h := h16 c17
        refine q_iconst (n := 28) E.1 dX1_waitsIn_27 rfl ?_
        refine q_goto (n := 32) E.1 dX1_waitsIn_28 (by decide) ?_
        exact q_zret E hW (Or.inr rfl) h dX1_waitsIn_32
/-! StickerPress$Labels.markPrinted(I)V -/
theorem dX1_markPrinted_0 : decode cX1_markPrinted 0 = .ok (.aload_n 0, 1) := by decide +kernel
theorem dX1_markPrinted_1 : decode cX1_markPrinted 1 = .ok (.iload_n 1, 1) := by decide +kernel
theorem dX1_markPrinted_2 : decode cX1_markPrinted 2 = .ok (.invokevirtual 41, 3) := by decide +kernel
theorem dX1_markPrinted_5 : decode cX1_markPrinted 5 = .ok (.ifCond .eq 40, 3) := by decide +kernel
theorem dX1_markPrinted_8 : decode cX1_markPrinted 8 = .ok (.aload_n 0, 1) := by decide +kernel
theorem dX1_markPrinted_9 : decode cX1_markPrinted 9 = .ok (.getfield 18, 3) := by decide +kernel
theorem dX1_markPrinted_12 : decode cX1_markPrinted 12 = .ok (.iload_n 1, 1) := by decide +kernel
theorem dX1_markPrinted_13 : decode cX1_markPrinted 13 = .ok (.baload, 1) := by decide +kernel
theorem dX1_markPrinted_14 : decode cX1_markPrinted 14 = .ok (.ifCond .eq 31, 3) := by decide +kernel
theorem dX1_markPrinted_17 : decode cX1_markPrinted 17 = .ok (.aload_n 0, 1) := by decide +kernel
theorem dX1_markPrinted_18 : decode cX1_markPrinted 18 = .ok (.getfield 18, 3) := by decide +kernel
theorem dX1_markPrinted_21 : decode cX1_markPrinted 21 = .ok (.iload_n 1, 1) := by decide +kernel
theorem dX1_markPrinted_22 : decode cX1_markPrinted 22 = .ok (.iconst 0, 1) := by decide +kernel
theorem dX1_markPrinted_23 : decode cX1_markPrinted 23 = .ok (.bastore, 1) := by decide +kernel
theorem dX1_markPrinted_24 : decode cX1_markPrinted 24 = .ok (.aload_n 0, 1) := by decide +kernel
theorem dX1_markPrinted_25 : decode cX1_markPrinted 25 = .ok (.aload_n 0, 1) := by decide +kernel
theorem dX1_markPrinted_26 : decode cX1_markPrinted 26 = .ok (.getfield 9, 3) := by decide +kernel
theorem dX1_markPrinted_29 : decode cX1_markPrinted 29 = .ok (.iload_n 1, 1) := by decide +kernel
theorem dX1_markPrinted_30 : decode cX1_markPrinted 30 = .ok (.iaload, 1) := by decide +kernel
theorem dX1_markPrinted_31 : decode cX1_markPrinted 31 = .ok (.iconst (-1), 1) := by decide +kernel
theorem dX1_markPrinted_32 : decode cX1_markPrinted 32 = .ok (.invokevirtual 37, 3) := by decide +kernel
theorem dX1_markPrinted_35 : decode cX1_markPrinted 35 = .ok (.aload_n 0, 1) := by decide +kernel
theorem dX1_markPrinted_36 : decode cX1_markPrinted 36 = .ok (.getfield 15, 3) := by decide +kernel
theorem dX1_markPrinted_39 : decode cX1_markPrinted 39 = .ok (.iload_n 1, 1) := by decide +kernel
theorem dX1_markPrinted_40 : decode cX1_markPrinted 40 = .ok (.dup2, 1) := by decide +kernel
theorem dX1_markPrinted_41 : decode cX1_markPrinted 41 = .ok (.iaload, 1) := by decide +kernel
theorem dX1_markPrinted_42 : decode cX1_markPrinted 42 = .ok (.iconst 1, 1) := by decide +kernel
theorem dX1_markPrinted_43 : decode cX1_markPrinted 43 = .ok (.iadd, 1) := by decide +kernel
theorem dX1_markPrinted_44 : decode cX1_markPrinted 44 = .ok (.iastore, 1) := by decide +kernel
theorem dX1_markPrinted_45 : decode cX1_markPrinted 45 = .ok (.return_, 1) := by decide +kernel
def wp_X1_markPrinted (a1 : Int) (M : Mem) (Q : Mem → Prop) : Prop := wp_X1_isLabel a1 M (fun r2 M1 => (Rg r2 ∧ (r2 = 0 → Q M1) ∧ (¬ (r2 = 0) → (0 ≤ a1 ∧ a1 < 200) ∧ (Rg (M1 51 a1.toNat) ∧ ((M1 51 a1.toNat) = 0 → Q M1) ∧ (¬ ((M1 51 a1.toNat) = 0) → (0 ≤ a1 ∧ a1 < 200) ∧ (0 ≤ a1 ∧ a1 < 200) ∧ wp_X1_changeWaiting ((up M1 51 a1.toNat 0) 49 a1.toNat) (-1) (up M1 51 a1.toNat 0) (fun M14 => (0 ≤ a1 ∧ a1 < 200) ∧ (0 ≤ a1 ∧ a1 < 200) ∧ Q (up M14 50 a1.toNat ((M14 50 a1.toNat) + 1))))))))
set_option maxHeartbeats 4000000 in
set_option maxRecDepth 100000 in
theorem c_X1_markPrinted (l : Launch) (X : Cx) (hI : Inj X) (a1 : Int) (M : Mem) (Q : Mem → Prop) (h : wp_X1_markPrinted a1 M Q) : MV X l yX1_markPrinted cX1_markPrinted 2 2 [.ref (xA X 48), .int (jI a1)] M Q := by
  refine MV.of hI (by decide) (Nat.le_of_ble_eq_true rfl) ?_
  intro p e R s m args below meth c ls E hW hl
  have E : En X (AW X) 2 p R s m args meth c cX1_markPrinted RX1 2 none 0 0 := E
  have hl : lv_has ls 2 [(0, .ref (xA X 48)), (1, .int (jI a1))] := hl
  unfold wp_X1_markPrinted at h
  refine q_aload_n (n := 1) (q := 0) E.1 hl rfl dX1_markPrinted_0 rfl rfl ?_
  refine q_iload_n (n := 2) (q := 1) E.1 hl rfl dX1_markPrinted_1 rfl rfl ?_
  refine q_callVi (n := 5) (fs := (fs48 X)) [.int (jI a1)] E hW hl.1 (by decide) (fun _ => rfl) K1 (c_X1_isLabel l X E.2.2.1.1 a1  _ _ h) (by decide) Y_RX1_41 rfl (rest := []) rfl (Nat.le_of_ble_eq_true rfl) dX1_markPrinted_2 rfl (fun r2 M1 H locs h hW => ?_)
  obtain ⟨g3, h4, h5⟩ := h
  refine q_if_eq (t := 45) (n := 8) E.1 g3 dX1_markPrinted_5 (by decide) rfl (fun c6 => ?_) (fun c6 => ?_)
  · have h := h4 c6
    exact q_vret E hW h dX1_markPrinted_45
  · have h := h5 c6
    refine q_aload_n (n := 9) (q := 0) E.1 hl rfl dX1_markPrinted_8 rfl rfl ?_
    refine q_get (n := 12) (k := 2) (fs := (fs48 X)) (v := .ref (xA X 51)) E hW (by decide) (fun _ => rfl) K1 (by decide) w176 rfl rfl dX1_markPrinted_9 rfl ?_
    refine q_iload_n (n := 13) (q := 1) E.1 hl rfl dX1_markPrinted_12 rfl rfl ?_
    obtain ⟨g7, h⟩ := h
    refine q_zald (n := 14) E hW (by decide) (fun _ => rfl) (by decide) g7 dX1_markPrinted_13 rfl ?_
    obtain ⟨g8, h9, h10⟩ := h
    refine q_if_eq (t := 45) (n := 17) E.1 g8 dX1_markPrinted_14 (by decide) rfl (fun c11 => ?_) (fun c11 => ?_)
    · have h := h9 c11
      exact q_vret E hW h dX1_markPrinted_45
    · have h := h10 c11
      refine q_aload_n (n := 18) (q := 0) E.1 hl rfl dX1_markPrinted_17 rfl rfl ?_
      refine q_get (n := 21) (k := 2) (fs := (fs48 X)) (v := .ref (xA X 51)) E hW (by decide) (fun _ => rfl) K1 (by decide) w176 rfl rfl dX1_markPrinted_18 rfl ?_
      refine q_iload_n (n := 22) (q := 1) E.1 hl rfl dX1_markPrinted_21 rfl rfl ?_
      refine q_iconst (n := 23) E.1 dX1_markPrinted_22 rfl ?_
      obtain ⟨g12, h⟩ := h
      refine q_zast (n := 24) E hW (by decide) (fun _ => rfl) (by decide) g12 (Or.inl rfl) dX1_markPrinted_23 rfl (fun H locs hW => ?_)
      refine q_aload_n (n := 25) (q := 0) E.1 hl rfl dX1_markPrinted_24 rfl rfl ?_
      refine q_aload_n (n := 26) (q := 0) E.1 hl rfl dX1_markPrinted_25 rfl rfl ?_
      refine q_get (n := 29) (k := 0) (fs := (fs48 X)) (v := .ref (xA X 49)) E hW (by decide) (fun _ => rfl) K1 (by decide) w174 rfl rfl dX1_markPrinted_26 rfl ?_
      refine q_iload_n (n := 30) (q := 1) E.1 hl rfl dX1_markPrinted_29 rfl rfl ?_
      obtain ⟨g13, h⟩ := h
      refine q_iald (n := 31) E hW (by decide) (fun _ => rfl) (by decide) g13 dX1_markPrinted_30 rfl ?_
      refine q_iconst (n := 32) E.1 dX1_markPrinted_31 rfl ?_
      refine q_callVv (n := 35) (fs := (fs48 X)) [.int (jI ((up M1 51 a1.toNat 0) 49 a1.toNat)), .int (jI (-1))] E hW hl.1 (by decide) (fun _ => rfl) K1 (c_X1_changeWaiting l X E.2.2.1.1 ((up M1 51 a1.toNat 0) 49 a1.toNat) (-1)  _ _ h) (by decide) Y_RX1_37 rfl (rest := []) rfl (Nat.le_of_ble_eq_true rfl) dX1_markPrinted_32 rfl (fun M14 H locs h hW => ?_)
      refine q_aload_n (n := 36) (q := 0) E.1 hl rfl dX1_markPrinted_35 rfl rfl ?_
      refine q_get (n := 39) (k := 1) (fs := (fs48 X)) (v := .ref (xA X 50)) E hW (by decide) (fun _ => rfl) K1 (by decide) w175 rfl rfl dX1_markPrinted_36 rfl ?_
      refine q_iload_n (n := 40) (q := 1) E.1 hl rfl dX1_markPrinted_39 rfl rfl ?_
      refine q_dup2 (n := 41) E.1 dX1_markPrinted_40 rfl rfl rfl ?_
      obtain ⟨g15, h⟩ := h
      refine q_iald (n := 42) E hW (by decide) (fun _ => rfl) (by decide) g15 dX1_markPrinted_41 rfl ?_
      refine q_iconst (n := 43) E.1 dX1_markPrinted_42 rfl ?_
      refine q_iadd (n := 44) E.1 dX1_markPrinted_43 rfl ?_
      obtain ⟨g16, h⟩ := h
      refine q_iast (n := 45) E hW (by decide) (fun _ => rfl) (by decide) g16 dX1_markPrinted_44 rfl (fun H locs hW => ?_)
      exact q_vret E hW h dX1_markPrinted_45
/-! StickerPress$Labels.waitAnew(I)Z -/
theorem dX1_waitAnew_0 : decode cX1_waitAnew 0 = .ok (.aload_n 0, 1) := by decide +kernel
theorem dX1_waitAnew_1 : decode cX1_waitAnew 1 = .ok (.iload_n 1, 1) := by decide +kernel
theorem dX1_waitAnew_2 : decode cX1_waitAnew 2 = .ok (.invokevirtual 41, 3) := by decide +kernel
theorem dX1_waitAnew_5 : decode cX1_waitAnew 5 = .ok (.ifCond .eq 27, 3) := by decide +kernel
theorem dX1_waitAnew_8 : decode cX1_waitAnew 8 = .ok (.aload_n 0, 1) := by decide +kernel
theorem dX1_waitAnew_9 : decode cX1_waitAnew 9 = .ok (.getfield 18, 3) := by decide +kernel
theorem dX1_waitAnew_12 : decode cX1_waitAnew 12 = .ok (.iload_n 1, 1) := by decide +kernel
theorem dX1_waitAnew_13 : decode cX1_waitAnew 13 = .ok (.baload, 1) := by decide +kernel
theorem dX1_waitAnew_14 : decode cX1_waitAnew 14 = .ok (.ifCond .ne 18, 3) := by decide +kernel
theorem dX1_waitAnew_17 : decode cX1_waitAnew 17 = .ok (.aload_n 0, 1) := by decide +kernel
theorem dX1_waitAnew_18 : decode cX1_waitAnew 18 = .ok (.aload_n 0, 1) := by decide +kernel
theorem dX1_waitAnew_19 : decode cX1_waitAnew 19 = .ok (.getfield 9, 3) := by decide +kernel
theorem dX1_waitAnew_22 : decode cX1_waitAnew 22 = .ok (.iload_n 1, 1) := by decide +kernel
theorem dX1_waitAnew_23 : decode cX1_waitAnew 23 = .ok (.iaload, 1) := by decide +kernel
theorem dX1_waitAnew_24 : decode cX1_waitAnew 24 = .ok (.invokevirtual 33, 3) := by decide +kernel
theorem dX1_waitAnew_27 : decode cX1_waitAnew 27 = .ok (.bipush 40, 2) := by decide +kernel
theorem dX1_waitAnew_29 : decode cX1_waitAnew 29 = .ok (.if_icmp .lt 5, 3) := by decide +kernel
theorem dX1_waitAnew_32 : decode cX1_waitAnew 32 = .ok (.iconst 0, 1) := by decide +kernel
theorem dX1_waitAnew_33 : decode cX1_waitAnew 33 = .ok (.ireturn, 1) := by decide +kernel
theorem dX1_waitAnew_34 : decode cX1_waitAnew 34 = .ok (.aload_n 0, 1) := by decide +kernel
theorem dX1_waitAnew_35 : decode cX1_waitAnew 35 = .ok (.getfield 18, 3) := by decide +kernel
theorem dX1_waitAnew_38 : decode cX1_waitAnew 38 = .ok (.iload_n 1, 1) := by decide +kernel
theorem dX1_waitAnew_39 : decode cX1_waitAnew 39 = .ok (.iconst 1, 1) := by decide +kernel
theorem dX1_waitAnew_40 : decode cX1_waitAnew 40 = .ok (.bastore, 1) := by decide +kernel
theorem dX1_waitAnew_41 : decode cX1_waitAnew 41 = .ok (.aload_n 0, 1) := by decide +kernel
theorem dX1_waitAnew_42 : decode cX1_waitAnew 42 = .ok (.aload_n 0, 1) := by decide +kernel
theorem dX1_waitAnew_43 : decode cX1_waitAnew 43 = .ok (.getfield 9, 3) := by decide +kernel
theorem dX1_waitAnew_46 : decode cX1_waitAnew 46 = .ok (.iload_n 1, 1) := by decide +kernel
theorem dX1_waitAnew_47 : decode cX1_waitAnew 47 = .ok (.iaload, 1) := by decide +kernel
theorem dX1_waitAnew_48 : decode cX1_waitAnew 48 = .ok (.iconst 1, 1) := by decide +kernel
theorem dX1_waitAnew_49 : decode cX1_waitAnew 49 = .ok (.invokevirtual 37, 3) := by decide +kernel
theorem dX1_waitAnew_52 : decode cX1_waitAnew 52 = .ok (.iconst 1, 1) := by decide +kernel
theorem dX1_waitAnew_53 : decode cX1_waitAnew 53 = .ok (.ireturn, 1) := by decide +kernel
def wp_X1_waitAnew (a1 : Int) (M : Mem) (Q : Int → Mem → Prop) : Prop := wp_X1_isLabel a1 M (fun r2 M1 => (Rg r2 ∧ (r2 = 0 → Q 0 M1) ∧ (¬ (r2 = 0) → (0 ≤ a1 ∧ a1 < 200) ∧ (Rg (M1 51 a1.toNat) ∧ ((M1 51 a1.toNat) ≠ 0 → Q 0 M1) ∧ (¬ ((M1 51 a1.toNat) ≠ 0) → (0 ≤ a1 ∧ a1 < 200) ∧ wp_X1_waitingIn (M1 49 a1.toNat) M1 (fun r14 M13 => (Rg r14 ∧ (r14 < 40 → (0 ≤ a1 ∧ a1 < 200) ∧ (0 ≤ a1 ∧ a1 < 200) ∧ wp_X1_changeWaiting ((up M13 51 a1.toNat 1) 49 a1.toNat) 1 (up M13 51 a1.toNat 1) (fun M21 => Q 1 M21)) ∧ (¬ (r14 < 40) → Q 0 M13))))))))
set_option maxHeartbeats 4000000 in
set_option maxRecDepth 100000 in
theorem c_X1_waitAnew (l : Launch) (X : Cx) (hI : Inj X) (a1 : Int) (M : Mem) (Q : Int → Mem → Prop) (h : wp_X1_waitAnew a1 M Q) : MI X l yX1_waitAnew cX1_waitAnew 2 (some .boolean) 2 [.ref (xA X 48), .int (jI a1)] M Q := by
  refine MI.of hI (by decide) (Nat.le_of_ble_eq_true rfl) ?_
  intro p e R s m args below meth c ls E hW hl
  have E : En X (AW X) 2 p R s m args meth c cX1_waitAnew RX1 2 (some .boolean) 0 0 := E
  have hl : lv_has ls 2 [(0, .ref (xA X 48)), (1, .int (jI a1))] := hl
  unfold wp_X1_waitAnew at h
  refine q_aload_n (n := 1) (q := 0) E.1 hl rfl dX1_waitAnew_0 rfl rfl ?_
  refine q_iload_n (n := 2) (q := 1) E.1 hl rfl dX1_waitAnew_1 rfl rfl ?_
  refine q_callVi (n := 5) (fs := (fs48 X)) [.int (jI a1)] E hW hl.1 (by decide) (fun _ => rfl) K1 (c_X1_isLabel l X E.2.2.1.1 a1  _ _ h) (by decide) Y_RX1_41 rfl (rest := []) rfl (Nat.le_of_ble_eq_true rfl) dX1_waitAnew_2 rfl (fun r2 M1 H locs h hW => ?_)
  obtain ⟨g3, h4, h5⟩ := h
  refine q_if_eq (t := 32) (n := 8) E.1 g3 dX1_waitAnew_5 (by decide) rfl (fun c6 => ?_) (fun c6 => ?_)
  · have h := h4 c6
    refine q_iconst (n := 33) E.1 dX1_waitAnew_32 rfl ?_
    exact q_zret E hW (Or.inl rfl) h dX1_waitAnew_33
  · have h := h5 c6
    refine q_aload_n (n := 9) (q := 0) E.1 hl rfl dX1_waitAnew_8 rfl rfl ?_
    refine q_get (n := 12) (k := 2) (fs := (fs48 X)) (v := .ref (xA X 51)) E hW (by decide) (fun _ => rfl) K1 (by decide) w176 rfl rfl dX1_waitAnew_9 rfl ?_
    refine q_iload_n (n := 13) (q := 1) E.1 hl rfl dX1_waitAnew_12 rfl rfl ?_
    obtain ⟨g7, h⟩ := h
    refine q_zald (n := 14) E hW (by decide) (fun _ => rfl) (by decide) g7 dX1_waitAnew_13 rfl ?_
    obtain ⟨g8, h9, h10⟩ := h
    refine q_if_ne (t := 32) (n := 17) E.1 g8 dX1_waitAnew_14 (by decide) rfl (fun c11 => ?_) (fun c11 => ?_)
    · have h := h9 c11
      refine q_iconst (n := 33) E.1 dX1_waitAnew_32 rfl ?_
      exact q_zret E hW (Or.inl rfl) h dX1_waitAnew_33
    · have h := h10 c11
      refine q_aload_n (n := 18) (q := 0) E.1 hl rfl dX1_waitAnew_17 rfl rfl ?_
      refine q_aload_n (n := 19) (q := 0) E.1 hl rfl dX1_waitAnew_18 rfl rfl ?_
      refine q_get (n := 22) (k := 0) (fs := (fs48 X)) (v := .ref (xA X 49)) E hW (by decide) (fun _ => rfl) K1 (by decide) w174 rfl rfl dX1_waitAnew_19 rfl ?_
      refine q_iload_n (n := 23) (q := 1) E.1 hl rfl dX1_waitAnew_22 rfl rfl ?_
      obtain ⟨g12, h⟩ := h
      refine q_iald (n := 24) E hW (by decide) (fun _ => rfl) (by decide) g12 dX1_waitAnew_23 rfl ?_
      refine q_callVi (n := 27) (fs := (fs48 X)) [.int (jI (M1 49 a1.toNat))] E hW hl.1 (by decide) (fun _ => rfl) K1 (c_X1_waitingIn l X E.2.2.1.1 (M1 49 a1.toNat)  _ _ h) (by decide) Y_RX1_33 rfl (rest := []) rfl (Nat.le_of_ble_eq_true rfl) dX1_waitAnew_24 rfl (fun r14 M13 H locs h hW => ?_)
      refine q_bipush (n := 29) E.1 dX1_waitAnew_27 (by decide) rfl ?_
      obtain ⟨g15, h16, h17⟩ := h
      refine q_icmp_lt (t := 34) (n := 32) E.1 g15 (by decide) dX1_waitAnew_29 (by decide) rfl (fun c18 => ?_) (fun c18 => ?_)
      · have h := h16 c18
        refine q_aload_n (n := 35) (q := 0) E.1 hl rfl dX1_waitAnew_34 rfl rfl ?_
        refine q_get (n := 38) (k := 2) (fs := (fs48 X)) (v := .ref (xA X 51)) E hW (by decide) (fun _ => rfl) K1 (by decide) w176 rfl rfl dX1_waitAnew_35 rfl ?_
        refine q_iload_n (n := 39) (q := 1) E.1 hl rfl dX1_waitAnew_38 rfl rfl ?_
        refine q_iconst (n := 40) E.1 dX1_waitAnew_39 rfl ?_
        obtain ⟨g19, h⟩ := h
        refine q_zast (n := 41) E hW (by decide) (fun _ => rfl) (by decide) g19 (Or.inr rfl) dX1_waitAnew_40 rfl (fun H locs hW => ?_)
        refine q_aload_n (n := 42) (q := 0) E.1 hl rfl dX1_waitAnew_41 rfl rfl ?_
        refine q_aload_n (n := 43) (q := 0) E.1 hl rfl dX1_waitAnew_42 rfl rfl ?_
        refine q_get (n := 46) (k := 0) (fs := (fs48 X)) (v := .ref (xA X 49)) E hW (by decide) (fun _ => rfl) K1 (by decide) w174 rfl rfl dX1_waitAnew_43 rfl ?_
        refine q_iload_n (n := 47) (q := 1) E.1 hl rfl dX1_waitAnew_46 rfl rfl ?_
        obtain ⟨g20, h⟩ := h
        refine q_iald (n := 48) E hW (by decide) (fun _ => rfl) (by decide) g20 dX1_waitAnew_47 rfl ?_
        refine q_iconst (n := 49) E.1 dX1_waitAnew_48 rfl ?_
        refine q_callVv (n := 52) (fs := (fs48 X)) [.int (jI ((up M13 51 a1.toNat 1) 49 a1.toNat)), .int (jI 1)] E hW hl.1 (by decide) (fun _ => rfl) K1 (c_X1_changeWaiting l X E.2.2.1.1 ((up M13 51 a1.toNat 1) 49 a1.toNat) 1  _ _ h) (by decide) Y_RX1_37 rfl (rest := []) rfl (Nat.le_of_ble_eq_true rfl) dX1_waitAnew_49 rfl (fun M21 H locs h hW => ?_)
        refine q_iconst (n := 53) E.1 dX1_waitAnew_52 rfl ?_
        exact q_zret E hW (Or.inr rfl) h dX1_waitAnew_53
      · have h := h17 c18
        refine q_iconst (n := 33) E.1 dX1_waitAnew_32 rfl ?_
        exact q_zret E hW (Or.inl rfl) h dX1_waitAnew_33
/-! StickerPress$Labels.tell(II)I -/
theorem dX1_tell_0 : decode cX1_tell 0 = .ok (.aload_n 0, 1) := by decide +kernel
theorem dX1_tell_1 : decode cX1_tell 1 = .ok (.iload_n 1, 1) := by decide +kernel
theorem dX1_tell_2 : decode cX1_tell 2 = .ok (.invokevirtual 41, 3) := by decide +kernel
theorem dX1_tell_5 : decode cX1_tell 5 = .ok (.ifCond .ne 5, 3) := by decide +kernel
theorem dX1_tell_8 : decode cX1_tell 8 = .ok (.iconst (-1), 1) := by decide +kernel
theorem dX1_tell_9 : decode cX1_tell 9 = .ok (.ireturn, 1) := by decide +kernel
theorem dX1_tell_10 : decode cX1_tell 10 = .ok (.iload_n 2, 1) := by decide +kernel
theorem dX1_tell_11 : decode cX1_tell 11 = .ok (.tableswitch 54 0 2 #[25, 32, 39], 25) := by decide +kernel
theorem dX1_tell_36 : decode cX1_tell 36 = .ok (.aload_n 0, 1) := by decide +kernel
theorem dX1_tell_37 : decode cX1_tell 37 = .ok (.getfield 9, 3) := by decide +kernel
theorem dX1_tell_40 : decode cX1_tell 40 = .ok (.iload_n 1, 1) := by decide +kernel
theorem dX1_tell_41 : decode cX1_tell 41 = .ok (.iaload, 1) := by decide +kernel
theorem dX1_tell_42 : decode cX1_tell 42 = .ok (.ireturn, 1) := by decide +kernel
theorem dX1_tell_43 : decode cX1_tell 43 = .ok (.aload_n 0, 1) := by decide +kernel
theorem dX1_tell_44 : decode cX1_tell 44 = .ok (.getfield 15, 3) := by decide +kernel
theorem dX1_tell_47 : decode cX1_tell 47 = .ok (.iload_n 1, 1) := by decide +kernel
theorem dX1_tell_48 : decode cX1_tell 48 = .ok (.iaload, 1) := by decide +kernel
theorem dX1_tell_49 : decode cX1_tell 49 = .ok (.ireturn, 1) := by decide +kernel
theorem dX1_tell_50 : decode cX1_tell 50 = .ok (.aload_n 0, 1) := by decide +kernel
theorem dX1_tell_51 : decode cX1_tell 51 = .ok (.getfield 18, 3) := by decide +kernel
theorem dX1_tell_54 : decode cX1_tell 54 = .ok (.iload_n 1, 1) := by decide +kernel
theorem dX1_tell_55 : decode cX1_tell 55 = .ok (.baload, 1) := by decide +kernel
theorem dX1_tell_56 : decode cX1_tell 56 = .ok (.ifCond .eq 7, 3) := by decide +kernel
theorem dX1_tell_59 : decode cX1_tell 59 = .ok (.iconst 1, 1) := by decide +kernel
theorem dX1_tell_60 : decode cX1_tell 60 = .ok (.goto 4, 3) := by decide +kernel
theorem dX1_tell_63 : decode cX1_tell 63 = .ok (.iconst 0, 1) := by decide +kernel
theorem dX1_tell_64 : decode cX1_tell 64 = .ok (.ireturn, 1) := by decide +kernel
theorem dX1_tell_65 : decode cX1_tell 65 = .ok (.iconst (-1), 1) := by decide +kernel
theorem dX1_tell_66 : decode cX1_tell 66 = .ok (.ireturn, 1) := by decide +kernel
def wp_X1_tell (a1 : Int) (a2 : Int) (M : Mem) (Q : Int → Mem → Prop) : Prop := wp_X1_isLabel a1 M (fun r2 M1 => (Rg r2 ∧ (r2 ≠ 0 → (Rg a2 ∧ (a2 = 0 → (0 ≤ a1 ∧ a1 < 200) ∧ Q (M1 49 a1.toNat) M1) ∧ (a2 = 1 → (0 ≤ a1 ∧ a1 < 200) ∧ Q (M1 50 a1.toNat) M1) ∧ (a2 = 2 → (0 ≤ a1 ∧ a1 < 200) ∧ (Rg (M1 51 a1.toNat) ∧ ((M1 51 a1.toNat) = 0 → Q 0 M1) ∧ (¬ ((M1 51 a1.toNat) = 0) → Q 1 M1))) ∧ ((a2 < 0 ∨ 2 < a2) → Q (-1) M1))) ∧ (¬ (r2 ≠ 0) → Q (-1) M1)))
set_option maxHeartbeats 4000000 in
set_option maxRecDepth 100000 in
theorem c_X1_tell (l : Launch) (X : Cx) (hI : Inj X) (a1 : Int) (a2 : Int) (M : Mem) (Q : Int → Mem → Prop) (h : wp_X1_tell a1 a2 M Q) : MI X l yX1_tell cX1_tell 3 (some .int) 1 [.ref (xA X 48), .int (jI a1), .int (jI a2)] M Q := by
  refine MI.of hI (by decide) (Nat.le_of_ble_eq_true rfl) ?_
  intro p e R s m args below meth c ls E hW hl
  have E : En X (AW X) 1 p R s m args meth c cX1_tell RX1 3 (some .int) 0 0 := E
  have hl : lv_has ls 3 [(0, .ref (xA X 48)), (1, .int (jI a1)), (2, .int (jI a2))] := hl
  unfold wp_X1_tell at h
  refine q_aload_n (n := 1) (q := 0) E.1 hl rfl dX1_tell_0 rfl rfl ?_
  refine q_iload_n (n := 2) (q := 1) E.1 hl rfl dX1_tell_1 rfl rfl ?_
  refine q_callVi (n := 5) (fs := (fs48 X)) [.int (jI a1)] E hW hl.1 (by decide) (fun _ => rfl) K1 (c_X1_isLabel l X E.2.2.1.1 a1  _ _ h) (by decide) Y_RX1_41 rfl (rest := []) rfl (Nat.le_of_ble_eq_true rfl) dX1_tell_2 rfl (fun r2 M1 H locs h hW => ?_)
  obtain ⟨g3, h4, h5⟩ := h
  refine q_if_ne (t := 10) (n := 8) E.1 g3 dX1_tell_5 (by decide) rfl (fun c6 => ?_) (fun c6 => ?_)
  · have h := h4 c6
    refine q_iload_n (n := 11) (q := 2) E.1 hl rfl dX1_tell_10 rfl rfl ?_
    obtain ⟨g7, h8, h9, h10, h11⟩ := h
    by_cases c13 : a2 = 0
    · have h := h8 c13
      refine q_tin (t := 36) 0 E c13 (by decide) dX1_tell_11 (by decide) rfl (by decide) ?_
      refine q_aload_n (n := 37) (q := 0) E.1 hl rfl dX1_tell_36 rfl rfl ?_
      refine q_get (n := 40) (k := 0) (fs := (fs48 X)) (v := .ref (xA X 49)) E hW (by decide) (fun _ => rfl) K1 (by decide) w174 rfl rfl dX1_tell_37 rfl ?_
      refine q_iload_n (n := 41) (q := 1) E.1 hl rfl dX1_tell_40 rfl rfl ?_
      obtain ⟨g12, h⟩ := h
      refine q_iald (n := 42) E hW (by decide) (fun _ => rfl) (by decide) g12 dX1_tell_41 rfl ?_
      exact q_iret E hW h dX1_tell_42
    by_cases c15 : a2 = 1
    · have h := h9 c15
      refine q_tin (t := 43) 1 E c15 (by decide) dX1_tell_11 (by decide) rfl (by decide) ?_
      refine q_aload_n (n := 44) (q := 0) E.1 hl rfl dX1_tell_43 rfl rfl ?_
      refine q_get (n := 47) (k := 1) (fs := (fs48 X)) (v := .ref (xA X 50)) E hW (by decide) (fun _ => rfl) K1 (by decide) w175 rfl rfl dX1_tell_44 rfl ?_
      refine q_iload_n (n := 48) (q := 1) E.1 hl rfl dX1_tell_47 rfl rfl ?_
      obtain ⟨g14, h⟩ := h
      refine q_iald (n := 49) E hW (by decide) (fun _ => rfl) (by decide) g14 dX1_tell_48 rfl ?_
      exact q_iret E hW h dX1_tell_49
    by_cases c21 : a2 = 2
    · have h := h10 c21
      refine q_tin (t := 50) 2 E c21 (by decide) dX1_tell_11 (by decide) rfl (by decide) ?_
      refine q_aload_n (n := 51) (q := 0) E.1 hl rfl dX1_tell_50 rfl rfl ?_
      refine q_get (n := 54) (k := 2) (fs := (fs48 X)) (v := .ref (xA X 51)) E hW (by decide) (fun _ => rfl) K1 (by decide) w176 rfl rfl dX1_tell_51 rfl ?_
      refine q_iload_n (n := 55) (q := 1) E.1 hl rfl dX1_tell_54 rfl rfl ?_
      obtain ⟨g16, h⟩ := h
      refine q_zald (n := 56) E hW (by decide) (fun _ => rfl) (by decide) g16 dX1_tell_55 rfl ?_
      obtain ⟨g17, h18, h19⟩ := h
      refine q_if_eq (t := 63) (n := 59) E.1 g17 dX1_tell_56 (by decide) rfl (fun c20 => ?_) (fun c20 => ?_)
      · have h := h18 c20
        refine q_iconst (n := 64) E.1 dX1_tell_63 rfl ?_
        exact q_iret E hW h dX1_tell_64
      · have h := h19 c20
        refine q_iconst (n := 60) E.1 dX1_tell_59 rfl ?_
        refine q_goto (n := 64) E.1 dX1_tell_60 (by decide) ?_
        exact q_iret E hW h dX1_tell_64
    have c22 : a2 < 0 ∨ 2 < a2 := by omega
    have h := h11 c22
    refine q_tout (t := 65) E g7 c22 dX1_tell_11 (by decide) ?_
    refine q_iconst (n := 66) E.1 dX1_tell_65 rfl ?_
    exact q_iret E hW h dX1_tell_66
  · have h := h5 c6
    refine q_iconst (n := 9) E.1 dX1_tell_8 rfl ?_
    exact q_iret E hW h dX1_tell_9
/-! StickerPress.isSheet(I)Z -/
theorem dX7_isSheet_0 : decode cX7_isSheet 0 = .ok (.iload_n 0, 1) := by decide +kernel
theorem dX7_isSheet_1 : decode cX7_isSheet 1 = .ok (.ifCond .lt 12, 3) := by decide +kernel
theorem dX7_isSheet_4 : decode cX7_isSheet 4 = .ok (.iload_n 0, 1) := by decide +kernel
theorem dX7_isSheet_5 : decode cX7_isSheet 5 = .ok (.iconst 3, 1) := by decide +kernel
theorem dX7_isSheet_6 : decode cX7_isSheet 6 = .ok (.if_icmp .ge 7, 3) := by decide +kernel
theorem dX7_isSheet_9 : decode cX7_isSheet 9 = .ok (.iconst 1, 1) := by decide +kernel
theorem dX7_isSheet_10 : decode cX7_isSheet 10 = .ok (.goto 4, 3) := by decide +kernel
theorem dX7_isSheet_13 : decode cX7_isSheet 13 = .ok (.iconst 0, 1) := by decide +kernel
theorem dX7_isSheet_14 : decode cX7_isSheet 14 = .ok (.ireturn, 1) := by decide +kernel
def wp_X7_isSheet (a0 : Int) (M : Mem) (Q : Int → Mem → Prop) : Prop := (Rg a0 ∧ (a0 < 0 → Q 0 M) ∧ (¬ (a0 < 0) → (Rg a0 ∧ (3 ≤ a0 → Q 0 M) ∧ (¬ (3 ≤ a0) → Q 1 M))))
set_option maxHeartbeats 4000000 in
set_option maxRecDepth 100000 in
theorem c_X7_isSheet (l : Launch) (X : Cx) (hI : Inj X) (a0 : Int) (M : Mem) (Q : Int → Mem → Prop) (h : wp_X7_isSheet a0 M Q) : MI X l yX7_isSheet cX7_isSheet 1 (some .boolean) 0 [.int (jI a0)] M Q := by
  refine MI.of hI (by decide) (Nat.le_of_ble_eq_true rfl) ?_
  intro p e R s m args below meth c ls E hW hl
  have E : En X (AW X) 0 p R s m args meth c cX7_isSheet RX7 1 (some .boolean) 0 0 := E
  have hl : lv_has ls 1 [(0, .int (jI a0))] := hl
  unfold wp_X7_isSheet at h
  refine q_iload_n (n := 1) (q := 0) E.1 hl rfl dX7_isSheet_0 rfl rfl ?_
  obtain ⟨g1, h2, h3⟩ := h
  refine q_if_lt (t := 13) (n := 4) E.1 g1 dX7_isSheet_1 (by decide) rfl (fun c4 => ?_) (fun c4 => ?_)
  · have h := h2 c4
    refine q_iconst (n := 14) E.1 dX7_isSheet_13 rfl ?_
    exact q_zret E hW (Or.inl rfl) h dX7_isSheet_14
  · have h := h3 c4
    refine q_iload_n (n := 5) (q := 0) E.1 hl rfl dX7_isSheet_4 rfl rfl ?_
    refine q_iconst (n := 6) E.1 dX7_isSheet_5 rfl ?_
    obtain ⟨g5, h6, h7⟩ := h
    refine q_icmp_ge (t := 13) (n := 9) E.1 g5 (by decide) dX7_isSheet_6 (by decide) rfl (fun c8 => ?_) (fun c8 => ?_)
    · have h := h6 c8
      refine q_iconst (n := 14) E.1 dX7_isSheet_13 rfl ?_
      exact q_zret E hW (Or.inl rfl) h dX7_isSheet_14
    · have h := h7 c8
      refine q_iconst (n := 10) E.1 dX7_isSheet_9 rfl ?_
      refine q_goto (n := 14) E.1 dX7_isSheet_10 (by decide) ?_
      exact q_zret E hW (Or.inr rfl) h dX7_isSheet_14
/-! StickerPress$Sheets.replace(IJ)Z -/
theorem dX5_replace_0 : decode cX5_replace 0 = .ok (.iload_n 1, 1) := by decide +kernel
theorem dX5_replace_1 : decode cX5_replace 1 = .ok (.invokestatic 23, 3) := by decide +kernel
theorem dX5_replace_4 : decode cX5_replace 4 = .ok (.ifCond .eq 18, 3) := by decide +kernel
theorem dX5_replace_7 : decode cX5_replace 7 = .ok (.lload_n 2, 1) := by decide +kernel
theorem dX5_replace_8 : decode cX5_replace 8 = .ok (.lconst 0, 1) := by decide +kernel
theorem dX5_replace_9 : decode cX5_replace 9 = .ok (.lcmp, 1) := by decide +kernel
theorem dX5_replace_10 : decode cX5_replace 10 = .ok (.ifCond .lt 12, 3) := by decide +kernel
theorem dX5_replace_13 : decode cX5_replace 13 = .ok (.lload_n 2, 1) := by decide +kernel
theorem dX5_replace_14 : decode cX5_replace 14 = .ok (.bipush 40, 2) := by decide +kernel
theorem dX5_replace_16 : decode cX5_replace 16 = .ok (.lshr, 1) := by decide +kernel
theorem dX5_replace_17 : decode cX5_replace 17 = .ok (.lconst 0, 1) := by decide +kernel
theorem dX5_replace_18 : decode cX5_replace 18 = .ok (.lcmp, 1) := by decide +kernel
theorem dX5_replace_19 : decode cX5_replace 19 = .ok (.ifCond .eq 5, 3) := by decide +kernel
theorem dX5_replace_22 : decode cX5_replace 22 = .ok (.iconst 0, 1) := by decide +kernel
theorem dX5_replace_23 : decode cX5_replace 23 = .ok (.ireturn, 1) := by decide +kernel
theorem dX5_replace_24 : decode cX5_replace 24 = .ok (.aload_n 0, 1) := by decide +kernel
theorem dX5_replace_25 : decode cX5_replace 25 = .ok (.getfield 9, 3) := by decide +kernel
theorem dX5_replace_28 : decode cX5_replace 28 = .ok (.iload_n 1, 1) := by decide +kernel
theorem dX5_replace_29 : decode cX5_replace 29 = .ok (.lload_n 2, 1) := by decide +kernel
theorem dX5_replace_30 : decode cX5_replace 30 = .ok (.lastore, 1) := by decide +kernel
theorem dX5_replace_31 : decode cX5_replace 31 = .ok (.iload_n 1, 1) := by decide +kernel
theorem dX5_replace_32 : decode cX5_replace 32 = .ok (.bipush 40, 2) := by decide +kernel
theorem dX5_replace_34 : decode cX5_replace 34 = .ok (.imul, 1) := by decide +kernel
theorem dX5_replace_35 : decode cX5_replace 35 = .ok (.istore 4, 2) := by decide +kernel
theorem dX5_replace_37 : decode cX5_replace 37 = .ok (.iload 4, 2) := by decide +kernel
theorem dX5_replace_39 : decode cX5_replace 39 = .ok (.iload_n 1, 1) := by decide +kernel
theorem dX5_replace_40 : decode cX5_replace 40 = .ok (.iconst 1, 1) := by decide +kernel
theorem dX5_replace_41 : decode cX5_replace 41 = .ok (.iadd, 1) := by decide +kernel
theorem dX5_replace_42 : decode cX5_replace 42 = .ok (.bipush 40, 2) := by decide +kernel
theorem dX5_replace_44 : decode cX5_replace 44 = .ok (.imul, 1) := by decide +kernel
theorem dX5_replace_45 : decode cX5_replace 45 = .ok (.if_icmp .ge 25, 3) := by decide +kernel
theorem dX5_replace_48 : decode cX5_replace 48 = .ok (.aload_n 0, 1) := by decide +kernel
theorem dX5_replace_49 : decode cX5_replace 49 = .ok (.getfield 15, 3) := by decide +kernel
theorem dX5_replace_52 : decode cX5_replace 52 = .ok (.iload 4, 2) := by decide +kernel
theorem dX5_replace_54 : decode cX5_replace 54 = .ok (.iconst (-1), 1) := by decide +kernel
theorem dX5_replace_55 : decode cX5_replace 55 = .ok (.iastore, 1) := by decide +kernel
theorem dX5_replace_56 : decode cX5_replace 56 = .ok (.aload_n 0, 1) := by decide +kernel
theorem dX5_replace_57 : decode cX5_replace 57 = .ok (.getfield 19, 3) := by decide +kernel
theorem dX5_replace_60 : decode cX5_replace 60 = .ok (.iload 4, 2) := by decide +kernel
theorem dX5_replace_62 : decode cX5_replace 62 = .ok (.iconst 0, 1) := by decide +kernel
theorem dX5_replace_63 : decode cX5_replace 63 = .ok (.bastore, 1) := by decide +kernel
theorem dX5_replace_64 : decode cX5_replace 64 = .ok (.iinc 4 1, 3) := by decide +kernel
theorem dX5_replace_67 : decode cX5_replace 67 = .ok (.goto (-30), 3) := by decide +kernel
theorem dX5_replace_70 : decode cX5_replace 70 = .ok (.iconst 1, 1) := by decide +kernel
theorem dX5_replace_71 : decode cX5_replace 71 = .ok (.ireturn, 1) := by decide +kernel
theorem Y_RX5_23 : YN RX5 23 yX7_isSheet cX7_isSheet 1 (some .boolean) 1 "StickerPress" := ⟨w501, List.mem_of_getElem? (i := 6) rfl, w500, w43, by decide +kernel, by decide⟩
def wp_X5_replace_37 (a1 : Int) (a2 : Int) (Q : Int → Mem → Prop) : Nat → Int → Mem → Prop
  | 0, _, _ => False
  | n + 1, x4, M => (Rg x4 ∧ Rg ((a1 + 1) * 40) ∧ (((a1 + 1) * 40) ≤ x4 → Q 1 M) ∧ (¬ (((a1 + 1) * 40) ≤ x4) → (0 ≤ x4 ∧ x4 < 120) ∧ (0 ≤ x4 ∧ x4 < 120) ∧ wp_X5_replace_37 a1 a2 Q n (x4 + 1) (up (up M 55 x4.toNat (-1)) 56 x4.toNat 0)))
set_option maxHeartbeats 4000000 in
set_option maxRecDepth 100000 in
theorem v_X5_replace_37 (a1 : Int) (a2 : Int) (E : En X (AW X) 1 p R s m args meth c cX5_replace RX5 5 (some .boolean) 0 0) (Q : Int → Mem → Prop) : ∀ n : Nat, ∀ (x4 : Int) (M : Mem) (H : Heap) (locs : List Loc) (ls : Array Slot), wp_X5_replace_37 a1 a2 Q n x4 M → Wd X (AW X) s M H locs → lv_has ls 5 [(0, .ref (xA X 53)), (1, .int (jI a1)), (4, .int (jI x4))] → W p l e R s m args below meth c H locs 0 0 (MQ below (QI X Q) args s 0 0 (AW X)) (F0 m 37 ls []) := by
  intro n
  induction n with
  | zero => intro x4 M H locs ls h; exact absurd h (by simp [wp_X5_replace_37])
  | succ n ih =>
    intro x4 M H locs ls h hW hl
    rw [wp_X5_replace_37] at h
    refine q_iload (n := 39) (q := 2) E.1 hl rfl dX5_replace_37 rfl ?_
    refine q_iload_n (n := 40) (q := 1) E.1 hl rfl dX5_replace_39 rfl rfl ?_
    refine q_iconst (n := 41) E.1 dX5_replace_40 rfl ?_
    refine q_iadd (n := 42) E.1 dX5_replace_41 rfl ?_
    refine q_bipush (n := 44) E.1 dX5_replace_42 (by decide) rfl ?_
    refine q_imul (n := 45) E.1 dX5_replace_44 rfl ?_
    obtain ⟨g1, g2, h3, h4⟩ := h
    refine q_icmp_ge (t := 70) (n := 48) E.1 g1 g2 dX5_replace_45 (by decide) rfl (fun c5 => ?_) (fun c5 => ?_)
    · have h := h3 c5
      refine q_iconst (n := 71) E.1 dX5_replace_70 rfl ?_
      exact q_zret E hW (Or.inr rfl) h dX5_replace_71
    · have h := h4 c5
      refine q_aload_n (n := 49) (q := 0) E.1 hl rfl dX5_replace_48 rfl rfl ?_
      refine q_get (n := 52) (k := 1) (fs := (fs53 X)) (v := .ref (xA X 55)) E hW (by decide) (fun _ => rfl) K5 (by decide) w198 rfl rfl dX5_replace_49 rfl ?_
      refine q_iload (n := 54) (q := 2) E.1 hl rfl dX5_replace_52 rfl ?_
      refine q_iconst (n := 55) E.1 dX5_replace_54 rfl ?_
      obtain ⟨g6, h⟩ := h
      refine q_iast (n := 56) E hW (by decide) (fun _ => rfl) (by decide) g6 dX5_replace_55 rfl (fun H locs hW => ?_)
      refine q_aload_n (n := 57) (q := 0) E.1 hl rfl dX5_replace_56 rfl rfl ?_
      refine q_get (n := 60) (k := 2) (fs := (fs53 X)) (v := .ref (xA X 56)) E hW (by decide) (fun _ => rfl) K5 (by decide) w199 rfl rfl dX5_replace_57 rfl ?_
      refine q_iload (n := 62) (q := 2) E.1 hl rfl dX5_replace_60 rfl ?_
      refine q_iconst (n := 63) E.1 dX5_replace_62 rfl ?_
      obtain ⟨g7, h⟩ := h
      refine q_zast (n := 64) E hW (by decide) (fun _ => rfl) (by decide) g7 (Or.inl rfl) dX5_replace_63 rfl (fun H locs hW => ?_)
      refine q_iinc (n := 67) (q := 2) [(4, .int (jI (x4 + 1))), (0, .ref (xA X 53)), (1, .int (jI a1))] E.1 hl rfl dX5_replace_64 (by decide) rfl rfl (fun ls hl => ?_)
      refine q_goto (n := 37) E.1 dX5_replace_67 (by decide) ?_
      exact ih _ _ _ _ _ h hW (lv_sub hl [1, 2, 0] rfl)
def wp_X5_replace (a1 : Int) (a2 : Int) (M : Mem) (Q : Int → Mem → Prop) : Prop := wp_X7_isSheet a1 M (fun r2 M1 => (Rg r2 ∧ (r2 = 0 → Q 0 M1) ∧ (¬ (r2 = 0) → (Rg (lCmp a2 0) ∧ ((lCmp a2 0) < 0 → Q 0 M1) ∧ (¬ ((lCmp a2 0) < 0) → (Rg (lCmp (lShr a2 40) 0) ∧ ((lCmp (lShr a2 40) 0) = 0 → (0 ≤ a1 ∧ a1 < 3) ∧ (∃ n : Nat, wp_X5_replace_37 a1 a2 Q n (a1 * 40) (up M1 54 a1.toNat a2))) ∧ (¬ ((lCmp (lShr a2 40) 0) = 0) → Q 0 M1)))))))
set_option maxHeartbeats 4000000 in
set_option maxRecDepth 100000 in
theorem c_X5_replace (l : Launch) (X : Cx) (hI : Inj X) (a1 : Int) (a2 : Int) (M : Mem) (Q : Int → Mem → Prop) (h : wp_X5_replace a1 a2 M Q) : MI X l yX5_replace cX5_replace 5 (some .boolean) 1 [.ref (xA X 53), .int (jI a1), .long (jL a2)] M Q := by
  refine MI.of hI (by decide) (Nat.le_of_ble_eq_true rfl) ?_
  intro p e R s m args below meth c ls E hW hl
  have E : En X (AW X) 1 p R s m args meth c cX5_replace RX5 5 (some .boolean) 0 0 := E
  have hl : lv_has ls 5 [(0, .ref (xA X 53)), (1, .int (jI a1)), (2, .long (jL a2))] := hl
  unfold wp_X5_replace at h
  refine q_iload_n (n := 1) (q := 1) E.1 hl rfl dX5_replace_0 rfl rfl ?_
  refine q_callNi (n := 4) [.int (jI a1)] E hW hl.1 (c_X7_isSheet l X E.2.2.1.1 a1  _ _ h) (by decide) Y_RX5_23 rfl (rest := []) rfl (Nat.le_of_ble_eq_true rfl) dX5_replace_1 rfl (fun r2 M1 H locs h hW => ?_)
  obtain ⟨g3, h4, h5⟩ := h
  refine q_if_eq (t := 22) (n := 7) E.1 g3 dX5_replace_4 (by decide) rfl (fun c6 => ?_) (fun c6 => ?_)
  · have h := h4 c6
    refine q_iconst (n := 23) E.1 dX5_replace_22 rfl ?_
    exact q_zret E hW (Or.inl rfl) h dX5_replace_23
  · have h := h5 c6
    refine q_lload_n (n := 8) (q := 2) E.1 hl rfl dX5_replace_7 rfl rfl ?_
    refine q_lconst (n := 9) (w := 0) E.1 dX5_replace_8 (by decide) rfl ?_
    refine q_lcmp (n := 10) E.1 dX5_replace_9 rfl ?_
    obtain ⟨g7, h8, h9⟩ := h
    refine q_if_lt (t := 22) (n := 13) E.1 g7 dX5_replace_10 (by decide) rfl (fun c10 => ?_) (fun c10 => ?_)
    · have h := h8 c10
      refine q_iconst (n := 23) E.1 dX5_replace_22 rfl ?_
      exact q_zret E hW (Or.inl rfl) h dX5_replace_23
    · have h := h9 c10
      refine q_lload_n (n := 14) (q := 2) E.1 hl rfl dX5_replace_13 rfl rfl ?_
      refine q_bipush (n := 16) E.1 dX5_replace_14 (by decide) rfl ?_
      refine q_lshr (n := 17) E.1 dX5_replace_16 rfl ?_
      refine q_lconst (n := 18) (w := 0) E.1 dX5_replace_17 (by decide) rfl ?_
      refine q_lcmp (n := 19) E.1 dX5_replace_18 rfl ?_
      obtain ⟨g11, h12, h13⟩ := h
      refine q_if_eq (t := 24) (n := 22) E.1 g11 dX5_replace_19 (by decide) rfl (fun c14 => ?_) (fun c14 => ?_)
      · have h := h12 c14
        refine q_aload_n (n := 25) (q := 0) E.1 hl rfl dX5_replace_24 rfl rfl ?_
        refine q_get (n := 28) (k := 0) (fs := (fs53 X)) (v := .ref (xA X 54)) E hW (by decide) (fun _ => rfl) K5 (by decide) w197 rfl rfl dX5_replace_25 rfl ?_
        refine q_iload_n (n := 29) (q := 1) E.1 hl rfl dX5_replace_28 rfl rfl ?_
        refine q_lload_n (n := 30) (q := 2) E.1 hl rfl dX5_replace_29 rfl rfl ?_
        obtain ⟨g15, h⟩ := h
        refine q_last (n := 31) E hW (by decide) (fun _ => rfl) (by decide) g15 dX5_replace_30 rfl (fun H locs hW => ?_)
        refine q_iload_n (n := 32) (q := 1) E.1 hl rfl dX5_replace_31 rfl rfl ?_
        refine q_bipush (n := 34) E.1 dX5_replace_32 (by decide) rfl ?_
        refine q_imul (n := 35) E.1 dX5_replace_34 rfl ?_
        refine q_istore (n := 37) [(4, .int (jI (a1 * 40))), (0, .ref (xA X 53)), (1, .int (jI a1)), (2, .long (jL a2))] E.1 hl dX5_replace_35 (by decide) rfl rfl (fun ls hl => ?_)
        obtain ⟨n16, h⟩ := h
        exact v_X5_replace_37 a1 a2 E Q n16 _ _ _ _ _ h hW (lv_sub hl [1, 2, 0] rfl)
      · have h := h13 c14
        refine q_iconst (n := 23) E.1 dX5_replace_22 rfl ?_
        exact q_zret E hW (Or.inl rfl) h dX5_replace_23
/-! java/lang/Long.bitCount(J)I -/
theorem dJ13_bitCount_95d88_0 : decode cJ13_bitCount_95d88 0 = .ok (.lload_n 0, 1) := by decide +kernel
theorem dJ13_bitCount_95d88_1 : decode cJ13_bitCount_95d88 1 = .ok (.lload_n 0, 1) := by decide +kernel
theorem dJ13_bitCount_95d88_2 : decode cJ13_bitCount_95d88 2 = .ok (.iconst 1, 1) := by decide +kernel
theorem dJ13_bitCount_95d88_3 : decode cJ13_bitCount_95d88 3 = .ok (.lushr, 1) := by decide +kernel
theorem dJ13_bitCount_95d88_4 : decode cJ13_bitCount_95d88 4 = .ok (.ldc2_w 314, 3) := by decide +kernel
theorem dJ13_bitCount_95d88_7 : decode cJ13_bitCount_95d88 7 = .ok (.land, 1) := by decide +kernel
theorem dJ13_bitCount_95d88_8 : decode cJ13_bitCount_95d88 8 = .ok (.lsub, 1) := by decide +kernel
theorem dJ13_bitCount_95d88_9 : decode cJ13_bitCount_95d88 9 = .ok (.lstore_n 0, 1) := by decide +kernel
theorem dJ13_bitCount_95d88_10 : decode cJ13_bitCount_95d88 10 = .ok (.lload_n 0, 1) := by decide +kernel
theorem dJ13_bitCount_95d88_11 : decode cJ13_bitCount_95d88 11 = .ok (.ldc2_w 316, 3) := by decide +kernel
theorem dJ13_bitCount_95d88_14 : decode cJ13_bitCount_95d88 14 = .ok (.land, 1) := by decide +kernel
theorem dJ13_bitCount_95d88_15 : decode cJ13_bitCount_95d88 15 = .ok (.lload_n 0, 1) := by decide +kernel
theorem dJ13_bitCount_95d88_16 : decode cJ13_bitCount_95d88 16 = .ok (.iconst 2, 1) := by decide +kernel
theorem dJ13_bitCount_95d88_17 : decode cJ13_bitCount_95d88 17 = .ok (.lushr, 1) := by decide +kernel
theorem dJ13_bitCount_95d88_18 : decode cJ13_bitCount_95d88 18 = .ok (.ldc2_w 316, 3) := by decide +kernel
theorem dJ13_bitCount_95d88_21 : decode cJ13_bitCount_95d88 21 = .ok (.land, 1) := by decide +kernel
theorem dJ13_bitCount_95d88_22 : decode cJ13_bitCount_95d88 22 = .ok (.ladd, 1) := by decide +kernel
theorem dJ13_bitCount_95d88_23 : decode cJ13_bitCount_95d88 23 = .ok (.lstore_n 0, 1) := by decide +kernel
theorem dJ13_bitCount_95d88_24 : decode cJ13_bitCount_95d88 24 = .ok (.lload_n 0, 1) := by decide +kernel
theorem dJ13_bitCount_95d88_25 : decode cJ13_bitCount_95d88 25 = .ok (.lload_n 0, 1) := by decide +kernel
theorem dJ13_bitCount_95d88_26 : decode cJ13_bitCount_95d88 26 = .ok (.iconst 4, 1) := by decide +kernel
theorem dJ13_bitCount_95d88_27 : decode cJ13_bitCount_95d88 27 = .ok (.lushr, 1) := by decide +kernel
theorem dJ13_bitCount_95d88_28 : decode cJ13_bitCount_95d88 28 = .ok (.ladd, 1) := by decide +kernel
theorem dJ13_bitCount_95d88_29 : decode cJ13_bitCount_95d88 29 = .ok (.ldc2_w 318, 3) := by decide +kernel
theorem dJ13_bitCount_95d88_32 : decode cJ13_bitCount_95d88 32 = .ok (.land, 1) := by decide +kernel
theorem dJ13_bitCount_95d88_33 : decode cJ13_bitCount_95d88 33 = .ok (.lstore_n 0, 1) := by decide +kernel
theorem dJ13_bitCount_95d88_34 : decode cJ13_bitCount_95d88 34 = .ok (.lload_n 0, 1) := by decide +kernel
theorem dJ13_bitCount_95d88_35 : decode cJ13_bitCount_95d88 35 = .ok (.lload_n 0, 1) := by decide +kernel
theorem dJ13_bitCount_95d88_36 : decode cJ13_bitCount_95d88 36 = .ok (.bipush 8, 2) := by decide +kernel
theorem dJ13_bitCount_95d88_38 : decode cJ13_bitCount_95d88 38 = .ok (.lushr, 1) := by decide +kernel
theorem dJ13_bitCount_95d88_39 : decode cJ13_bitCount_95d88 39 = .ok (.ladd, 1) := by decide +kernel
theorem dJ13_bitCount_95d88_40 : decode cJ13_bitCount_95d88 40 = .ok (.lstore_n 0, 1) := by decide +kernel
theorem dJ13_bitCount_95d88_41 : decode cJ13_bitCount_95d88 41 = .ok (.lload_n 0, 1) := by decide +kernel
theorem dJ13_bitCount_95d88_42 : decode cJ13_bitCount_95d88 42 = .ok (.lload_n 0, 1) := by decide +kernel
theorem dJ13_bitCount_95d88_43 : decode cJ13_bitCount_95d88 43 = .ok (.bipush 16, 2) := by decide +kernel
theorem dJ13_bitCount_95d88_45 : decode cJ13_bitCount_95d88 45 = .ok (.lushr, 1) := by decide +kernel
theorem dJ13_bitCount_95d88_46 : decode cJ13_bitCount_95d88 46 = .ok (.ladd, 1) := by decide +kernel
theorem dJ13_bitCount_95d88_47 : decode cJ13_bitCount_95d88 47 = .ok (.lstore_n 0, 1) := by decide +kernel
theorem dJ13_bitCount_95d88_48 : decode cJ13_bitCount_95d88 48 = .ok (.lload_n 0, 1) := by decide +kernel
theorem dJ13_bitCount_95d88_49 : decode cJ13_bitCount_95d88 49 = .ok (.lload_n 0, 1) := by decide +kernel
theorem dJ13_bitCount_95d88_50 : decode cJ13_bitCount_95d88 50 = .ok (.bipush 32, 2) := by decide +kernel
theorem dJ13_bitCount_95d88_52 : decode cJ13_bitCount_95d88 52 = .ok (.lushr, 1) := by decide +kernel
theorem dJ13_bitCount_95d88_53 : decode cJ13_bitCount_95d88 53 = .ok (.ladd, 1) := by decide +kernel
theorem dJ13_bitCount_95d88_54 : decode cJ13_bitCount_95d88 54 = .ok (.lstore_n 0, 1) := by decide +kernel
theorem dJ13_bitCount_95d88_55 : decode cJ13_bitCount_95d88 55 = .ok (.lload_n 0, 1) := by decide +kernel
theorem dJ13_bitCount_95d88_56 : decode cJ13_bitCount_95d88 56 = .ok (.l2i, 1) := by decide +kernel
theorem dJ13_bitCount_95d88_57 : decode cJ13_bitCount_95d88 57 = .ok (.bipush 127, 2) := by decide +kernel
theorem dJ13_bitCount_95d88_59 : decode cJ13_bitCount_95d88 59 = .ok (.iand, 1) := by decide +kernel
theorem dJ13_bitCount_95d88_60 : decode cJ13_bitCount_95d88 60 = .ok (.ireturn, 1) := by decide +kernel
def wp_J13_bitCount_95d88 (a0 : Int) (M : Mem) (Q : Int → Mem → Prop) : Prop := Q (bAnd (l2i ((((lAnd (((lAnd (a0 - (lAnd (lUshr a0 1) 6148914691236517205)) 3689348814741910323) + (lAnd (lUshr (a0 - (lAnd (lUshr a0 1) 6148914691236517205)) 2) 3689348814741910323)) + (lUshr ((lAnd (a0 - (lAnd (lUshr a0 1) 6148914691236517205)) 3689348814741910323) + (lAnd (lUshr (a0 - (lAnd (lUshr a0 1) 6148914691236517205)) 2) 3689348814741910323)) 4)) 1085102592571150095) + (lUshr (lAnd (((lAnd (a0 - (lAnd (lUshr a0 1) 6148914691236517205)) 3689348814741910323) + (lAnd (lUshr (a0 - (lAnd (lUshr a0 1) 6148914691236517205)) 2) 3689348814741910323)) + (lUshr ((lAnd (a0 - (lAnd (lUshr a0 1) 6148914691236517205)) 3689348814741910323) + (lAnd (lUshr (a0 - (lAnd (lUshr a0 1) 6148914691236517205)) 2) 3689348814741910323)) 4)) 1085102592571150095) 8)) + (lUshr ((lAnd (((lAnd (a0 - (lAnd (lUshr a0 1) 6148914691236517205)) 3689348814741910323) + (lAnd (lUshr (a0 - (lAnd (lUshr a0 1) 6148914691236517205)) 2) 3689348814741910323)) + (lUshr ((lAnd (a0 - (lAnd (lUshr a0 1) 6148914691236517205)) 3689348814741910323) + (lAnd (lUshr (a0 - (lAnd (lUshr a0 1) 6148914691236517205)) 2) 3689348814741910323)) 4)) 1085102592571150095) + (lUshr (lAnd (((lAnd (a0 - (lAnd (lUshr a0 1) 6148914691236517205)) 3689348814741910323) + (lAnd (lUshr (a0 - (lAnd (lUshr a0 1) 6148914691236517205)) 2) 3689348814741910323)) + (lUshr ((lAnd (a0 - (lAnd (lUshr a0 1) 6148914691236517205)) 3689348814741910323) + (lAnd (lUshr (a0 - (lAnd (lUshr a0 1) 6148914691236517205)) 2) 3689348814741910323)) 4)) 1085102592571150095) 8)) 16)) + (lUshr (((lAnd (((lAnd (a0 - (lAnd (lUshr a0 1) 6148914691236517205)) 3689348814741910323) + (lAnd (lUshr (a0 - (lAnd (lUshr a0 1) 6148914691236517205)) 2) 3689348814741910323)) + (lUshr ((lAnd (a0 - (lAnd (lUshr a0 1) 6148914691236517205)) 3689348814741910323) + (lAnd (lUshr (a0 - (lAnd (lUshr a0 1) 6148914691236517205)) 2) 3689348814741910323)) 4)) 1085102592571150095) + (lUshr (lAnd (((lAnd (a0 - (lAnd (lUshr a0 1) 6148914691236517205)) 3689348814741910323) + (lAnd (lUshr (a0 - (lAnd (lUshr a0 1) 6148914691236517205)) 2) 3689348814741910323)) + (lUshr ((lAnd (a0 - (lAnd (lUshr a0 1) 6148914691236517205)) 3689348814741910323) + (lAnd (lUshr (a0 - (lAnd (lUshr a0 1) 6148914691236517205)) 2) 3689348814741910323)) 4)) 1085102592571150095) 8)) + (lUshr ((lAnd (((lAnd (a0 - (lAnd (lUshr a0 1) 6148914691236517205)) 3689348814741910323) + (lAnd (lUshr (a0 - (lAnd (lUshr a0 1) 6148914691236517205)) 2) 3689348814741910323)) + (lUshr ((lAnd (a0 - (lAnd (lUshr a0 1) 6148914691236517205)) 3689348814741910323) + (lAnd (lUshr (a0 - (lAnd (lUshr a0 1) 6148914691236517205)) 2) 3689348814741910323)) 4)) 1085102592571150095) + (lUshr (lAnd (((lAnd (a0 - (lAnd (lUshr a0 1) 6148914691236517205)) 3689348814741910323) + (lAnd (lUshr (a0 - (lAnd (lUshr a0 1) 6148914691236517205)) 2) 3689348814741910323)) + (lUshr ((lAnd (a0 - (lAnd (lUshr a0 1) 6148914691236517205)) 3689348814741910323) + (lAnd (lUshr (a0 - (lAnd (lUshr a0 1) 6148914691236517205)) 2) 3689348814741910323)) 4)) 1085102592571150095) 8)) 16)) 32))) 127) M
set_option maxHeartbeats 4000000 in
set_option maxRecDepth 100000 in
theorem c_J13_bitCount_95d88 (l : Launch) (X : Cx) (hI : Inj X) (a0 : Int) (M : Mem) (Q : Int → Mem → Prop) (h : wp_J13_bitCount_95d88 a0 M Q) : MI X l yJ13_bitCount_95d88 cJ13_bitCount_95d88 2 (some .int) 0 [.long (jL a0)] M Q := by
  refine MI.of hI (by decide) (Nat.le_of_ble_eq_true rfl) ?_
  intro p e R s m args below meth c ls E hW hl
  have E : En X (AW X) 0 p R s m args meth c cJ13_bitCount_95d88 RJ13 2 (some .int) 0 0 := E
  have hl : lv_has ls 2 [(0, .long (jL a0))] := hl
  unfold wp_J13_bitCount_95d88 at h
  refine q_lload_n (n := 1) (q := 0) E.1 hl rfl dJ13_bitCount_95d88_0 rfl rfl ?_
  refine q_lload_n (n := 2) (q := 0) E.1 hl rfl dJ13_bitCount_95d88_1 rfl rfl ?_
  refine q_iconst (n := 3) E.1 dJ13_bitCount_95d88_2 rfl ?_
  refine q_lushr (n := 4) E.1 dJ13_bitCount_95d88_3 rfl ?_
  refine q_ldc2 (n := 7) (z := 6148914691236517205) E.1 w548 (by decide) dJ13_bitCount_95d88_4 rfl ?_
  refine q_land (n := 8) E.1 dJ13_bitCount_95d88_7 rfl ?_
  refine q_lsub (n := 9) E.1 dJ13_bitCount_95d88_8 rfl ?_
  refine q_lstore_n (n := 10) [(0, .long (jL (a0 - (lAnd (lUshr a0 1) 6148914691236517205))))] E.1 hl dJ13_bitCount_95d88_9 rfl (by decide) rfl rfl (fun ls hl => ?_)
  refine q_lload_n (n := 11) (q := 0) E.1 hl rfl dJ13_bitCount_95d88_10 rfl rfl ?_
  refine q_ldc2 (n := 14) (z := 3689348814741910323) E.1 w549 (by decide) dJ13_bitCount_95d88_11 rfl ?_
  refine q_land (n := 15) E.1 dJ13_bitCount_95d88_14 rfl ?_
  refine q_lload_n (n := 16) (q := 0) E.1 hl rfl dJ13_bitCount_95d88_15 rfl rfl ?_
  refine q_iconst (n := 17) E.1 dJ13_bitCount_95d88_16 rfl ?_
  refine q_lushr (n := 18) E.1 dJ13_bitCount_95d88_17 rfl ?_
  refine q_ldc2 (n := 21) (z := 3689348814741910323) E.1 w549 (by decide) dJ13_bitCount_95d88_18 rfl ?_
  refine q_land (n := 22) E.1 dJ13_bitCount_95d88_21 rfl ?_
  refine q_ladd (n := 23) E.1 dJ13_bitCount_95d88_22 rfl ?_
  refine q_lstore_n (n := 24) [(0, .long (jL ((lAnd (a0 - (lAnd (lUshr a0 1) 6148914691236517205)) 3689348814741910323) + (lAnd (lUshr (a0 - (lAnd (lUshr a0 1) 6148914691236517205)) 2) 3689348814741910323))))] E.1 hl dJ13_bitCount_95d88_23 rfl (by decide) rfl rfl (fun ls hl => ?_)
  refine q_lload_n (n := 25) (q := 0) E.1 hl rfl dJ13_bitCount_95d88_24 rfl rfl ?_
  refine q_lload_n (n := 26) (q := 0) E.1 hl rfl dJ13_bitCount_95d88_25 rfl rfl ?_
  refine q_iconst (n := 27) E.1 dJ13_bitCount_95d88_26 rfl ?_
  refine q_lushr (n := 28) E.1 dJ13_bitCount_95d88_27 rfl ?_
  refine q_ladd (n := 29) E.1 dJ13_bitCount_95d88_28 rfl ?_
  refine q_ldc2 (n := 32) (z := 1085102592571150095) E.1 w550 (by decide) dJ13_bitCount_95d88_29 rfl ?_
  refine q_land (n := 33) E.1 dJ13_bitCount_95d88_32 rfl ?_
  refine q_lstore_n (n := 34) [(0, .long (jL (lAnd (((lAnd (a0 - (lAnd (lUshr a0 1) 6148914691236517205)) 3689348814741910323) + (lAnd (lUshr (a0 - (lAnd (lUshr a0 1) 6148914691236517205)) 2) 3689348814741910323)) + (lUshr ((lAnd (a0 - (lAnd (lUshr a0 1) 6148914691236517205)) 3689348814741910323) + (lAnd (lUshr (a0 - (lAnd (lUshr a0 1) 6148914691236517205)) 2) 3689348814741910323)) 4)) 1085102592571150095)))] E.1 hl dJ13_bitCount_95d88_33 rfl (by decide) rfl rfl (fun ls hl => ?_)
  refine q_lload_n (n := 35) (q := 0) E.1 hl rfl dJ13_bitCount_95d88_34 rfl rfl ?_
  refine q_lload_n (n := 36) (q := 0) E.1 hl rfl dJ13_bitCount_95d88_35 rfl rfl ?_
  refine q_bipush (n := 38) E.1 dJ13_bitCount_95d88_36 (by decide) rfl ?_
  refine q_lushr (n := 39) E.1 dJ13_bitCount_95d88_38 rfl ?_
  refine q_ladd (n := 40) E.1 dJ13_bitCount_95d88_39 rfl ?_
  refine q_lstore_n (n := 41) [(0, .long (jL ((lAnd (((lAnd (a0 - (lAnd (lUshr a0 1) 6148914691236517205)) 3689348814741910323) + (lAnd (lUshr (a0 - (lAnd (lUshr a0 1) 6148914691236517205)) 2) 3689348814741910323)) + (lUshr ((lAnd (a0 - (lAnd (lUshr a0 1) 6148914691236517205)) 3689348814741910323) + (lAnd (lUshr (a0 - (lAnd (lUshr a0 1) 6148914691236517205)) 2) 3689348814741910323)) 4)) 1085102592571150095) + (lUshr (lAnd (((lAnd (a0 - (lAnd (lUshr a0 1) 6148914691236517205)) 3689348814741910323) + (lAnd (lUshr (a0 - (lAnd (lUshr a0 1) 6148914691236517205)) 2) 3689348814741910323)) + (lUshr ((lAnd (a0 - (lAnd (lUshr a0 1) 6148914691236517205)) 3689348814741910323) + (lAnd (lUshr (a0 - (lAnd (lUshr a0 1) 6148914691236517205)) 2) 3689348814741910323)) 4)) 1085102592571150095) 8))))] E.1 hl dJ13_bitCount_95d88_40 rfl (by decide) rfl rfl (fun ls hl => ?_)
  refine q_lload_n (n := 42) (q := 0) E.1 hl rfl dJ13_bitCount_95d88_41 rfl rfl ?_
  refine q_lload_n (n := 43) (q := 0) E.1 hl rfl dJ13_bitCount_95d88_42 rfl rfl ?_
  refine q_bipush (n := 45) E.1 dJ13_bitCount_95d88_43 (by decide) rfl ?_
  refine q_lushr (n := 46) E.1 dJ13_bitCount_95d88_45 rfl ?_
  refine q_ladd (n := 47) E.1 dJ13_bitCount_95d88_46 rfl ?_
  refine q_lstore_n (n := 48) [(0, .long (jL (((lAnd (((lAnd (a0 - (lAnd (lUshr a0 1) 6148914691236517205)) 3689348814741910323) + (lAnd (lUshr (a0 - (lAnd (lUshr a0 1) 6148914691236517205)) 2) 3689348814741910323)) + (lUshr ((lAnd (a0 - (lAnd (lUshr a0 1) 6148914691236517205)) 3689348814741910323) + (lAnd (lUshr (a0 - (lAnd (lUshr a0 1) 6148914691236517205)) 2) 3689348814741910323)) 4)) 1085102592571150095) + (lUshr (lAnd (((lAnd (a0 - (lAnd (lUshr a0 1) 6148914691236517205)) 3689348814741910323) + (lAnd (lUshr (a0 - (lAnd (lUshr a0 1) 6148914691236517205)) 2) 3689348814741910323)) + (lUshr ((lAnd (a0 - (lAnd (lUshr a0 1) 6148914691236517205)) 3689348814741910323) + (lAnd (lUshr (a0 - (lAnd (lUshr a0 1) 6148914691236517205)) 2) 3689348814741910323)) 4)) 1085102592571150095) 8)) + (lUshr ((lAnd (((lAnd (a0 - (lAnd (lUshr a0 1) 6148914691236517205)) 3689348814741910323) + (lAnd (lUshr (a0 - (lAnd (lUshr a0 1) 6148914691236517205)) 2) 3689348814741910323)) + (lUshr ((lAnd (a0 - (lAnd (lUshr a0 1) 6148914691236517205)) 3689348814741910323) + (lAnd (lUshr (a0 - (lAnd (lUshr a0 1) 6148914691236517205)) 2) 3689348814741910323)) 4)) 1085102592571150095) + (lUshr (lAnd (((lAnd (a0 - (lAnd (lUshr a0 1) 6148914691236517205)) 3689348814741910323) + (lAnd (lUshr (a0 - (lAnd (lUshr a0 1) 6148914691236517205)) 2) 3689348814741910323)) + (lUshr ((lAnd (a0 - (lAnd (lUshr a0 1) 6148914691236517205)) 3689348814741910323) + (lAnd (lUshr (a0 - (lAnd (lUshr a0 1) 6148914691236517205)) 2) 3689348814741910323)) 4)) 1085102592571150095) 8)) 16))))] E.1 hl dJ13_bitCount_95d88_47 rfl (by decide) rfl rfl (fun ls hl => ?_)
  refine q_lload_n (n := 49) (q := 0) E.1 hl rfl dJ13_bitCount_95d88_48 rfl rfl ?_
  refine q_lload_n (n := 50) (q := 0) E.1 hl rfl dJ13_bitCount_95d88_49 rfl rfl ?_
  refine q_bipush (n := 52) E.1 dJ13_bitCount_95d88_50 (by decide) rfl ?_
  refine q_lushr (n := 53) E.1 dJ13_bitCount_95d88_52 rfl ?_
  refine q_ladd (n := 54) E.1 dJ13_bitCount_95d88_53 rfl ?_
  refine q_lstore_n (n := 55) [(0, .long (jL ((((lAnd (((lAnd (a0 - (lAnd (lUshr a0 1) 6148914691236517205)) 3689348814741910323) + (lAnd (lUshr (a0 - (lAnd (lUshr a0 1) 6148914691236517205)) 2) 3689348814741910323)) + (lUshr ((lAnd (a0 - (lAnd (lUshr a0 1) 6148914691236517205)) 3689348814741910323) + (lAnd (lUshr (a0 - (lAnd (lUshr a0 1) 6148914691236517205)) 2) 3689348814741910323)) 4)) 1085102592571150095) + (lUshr (lAnd (((lAnd (a0 - (lAnd (lUshr a0 1) 6148914691236517205)) 3689348814741910323) + (lAnd (lUshr (a0 - (lAnd (lUshr a0 1) 6148914691236517205)) 2) 3689348814741910323)) + (lUshr ((lAnd (a0 - (lAnd (lUshr a0 1) 6148914691236517205)) 3689348814741910323) + (lAnd (lUshr (a0 - (lAnd (lUshr a0 1) 6148914691236517205)) 2) 3689348814741910323)) 4)) 1085102592571150095) 8)) + (lUshr ((lAnd (((lAnd (a0 - (lAnd (lUshr a0 1) 6148914691236517205)) 3689348814741910323) + (lAnd (lUshr (a0 - (lAnd (lUshr a0 1) 6148914691236517205)) 2) 3689348814741910323)) + (lUshr ((lAnd (a0 - (lAnd (lUshr a0 1) 6148914691236517205)) 3689348814741910323) + (lAnd (lUshr (a0 - (lAnd (lUshr a0 1) 6148914691236517205)) 2) 3689348814741910323)) 4)) 1085102592571150095) + (lUshr (lAnd (((lAnd (a0 - (lAnd (lUshr a0 1) 6148914691236517205)) 3689348814741910323) + (lAnd (lUshr (a0 - (lAnd (lUshr a0 1) 6148914691236517205)) 2) 3689348814741910323)) + (lUshr ((lAnd (a0 - (lAnd (lUshr a0 1) 6148914691236517205)) 3689348814741910323) + (lAnd (lUshr (a0 - (lAnd (lUshr a0 1) 6148914691236517205)) 2) 3689348814741910323)) 4)) 1085102592571150095) 8)) 16)) + (lUshr (((lAnd (((lAnd (a0 - (lAnd (lUshr a0 1) 6148914691236517205)) 3689348814741910323) + (lAnd (lUshr (a0 - (lAnd (lUshr a0 1) 6148914691236517205)) 2) 3689348814741910323)) + (lUshr ((lAnd (a0 - (lAnd (lUshr a0 1) 6148914691236517205)) 3689348814741910323) + (lAnd (lUshr (a0 - (lAnd (lUshr a0 1) 6148914691236517205)) 2) 3689348814741910323)) 4)) 1085102592571150095) + (lUshr (lAnd (((lAnd (a0 - (lAnd (lUshr a0 1) 6148914691236517205)) 3689348814741910323) + (lAnd (lUshr (a0 - (lAnd (lUshr a0 1) 6148914691236517205)) 2) 3689348814741910323)) + (lUshr ((lAnd (a0 - (lAnd (lUshr a0 1) 6148914691236517205)) 3689348814741910323) + (lAnd (lUshr (a0 - (lAnd (lUshr a0 1) 6148914691236517205)) 2) 3689348814741910323)) 4)) 1085102592571150095) 8)) + (lUshr ((lAnd (((lAnd (a0 - (lAnd (lUshr a0 1) 6148914691236517205)) 3689348814741910323) + (lAnd (lUshr (a0 - (lAnd (lUshr a0 1) 6148914691236517205)) 2) 3689348814741910323)) + (lUshr ((lAnd (a0 - (lAnd (lUshr a0 1) 6148914691236517205)) 3689348814741910323) + (lAnd (lUshr (a0 - (lAnd (lUshr a0 1) 6148914691236517205)) 2) 3689348814741910323)) 4)) 1085102592571150095) + (lUshr (lAnd (((lAnd (a0 - (lAnd (lUshr a0 1) 6148914691236517205)) 3689348814741910323) + (lAnd (lUshr (a0 - (lAnd (lUshr a0 1) 6148914691236517205)) 2) 3689348814741910323)) + (lUshr ((lAnd (a0 - (lAnd (lUshr a0 1) 6148914691236517205)) 3689348814741910323) + (lAnd (lUshr (a0 - (lAnd (lUshr a0 1) 6148914691236517205)) 2) 3689348814741910323)) 4)) 1085102592571150095) 8)) 16)) 32))))] E.1 hl dJ13_bitCount_95d88_54 rfl (by decide) rfl rfl (fun ls hl => ?_)
  refine q_lload_n (n := 56) (q := 0) E.1 hl rfl dJ13_bitCount_95d88_55 rfl rfl ?_
  refine q_l2i (n := 57) E.1 dJ13_bitCount_95d88_56 rfl ?_
  refine q_bipush (n := 59) E.1 dJ13_bitCount_95d88_57 (by decide) rfl ?_
  refine q_iand (n := 60) E.1 dJ13_bitCount_95d88_59 rfl ?_
  exact q_iret E hW h dJ13_bitCount_95d88_60
/-! StickerPress$Sheets.freeIn(I)I -/
theorem dX5_freeIn_0 : decode cX5_freeIn 0 = .ok (.iload_n 1, 1) := by decide +kernel
theorem dX5_freeIn_1 : decode cX5_freeIn 1 = .ok (.invokestatic 23, 3) := by decide +kernel
theorem dX5_freeIn_4 : decode cX5_freeIn 4 = .ok (.ifCond .eq 15, 3) := by decide +kernel
theorem dX5_freeIn_7 : decode cX5_freeIn 7 = .ok (.aload_n 0, 1) := by decide +kernel
theorem dX5_freeIn_8 : decode cX5_freeIn 8 = .ok (.getfield 9, 3) := by decide +kernel
theorem dX5_freeIn_11 : decode cX5_freeIn 11 = .ok (.iload_n 1, 1) := by decide +kernel
theorem dX5_freeIn_12 : decode cX5_freeIn 12 = .ok (.laload, 1) := by decide +kernel
theorem dX5_freeIn_13 : decode cX5_freeIn 13 = .ok (.invokestatic 27, 3) := by decide +kernel
theorem dX5_freeIn_16 : decode cX5_freeIn 16 = .ok (.goto 4, 3) := by decide +kernel
theorem dX5_freeIn_19 : decode cX5_freeIn 19 = .ok (.iconst 0, 1) := by decide +kernel
theorem dX5_freeIn_20 : decode cX5_freeIn 20 = .ok (.ireturn, 1) := by decide +kernel
theorem Y_RX5_27 : YS RX5 27 yJ13_bitCount_95d88 cJ13_bitCount_95d88 2 (some .int) 1 := ⟨w547, w545, w546, w54, by decide +kernel, by decide⟩
def wp_X5_freeIn (a1 : Int) (M : Mem) (Q : Int → Mem → Prop) : Prop := wp_X7_isSheet a1 M (fun r2 M1 => (Rg r2 ∧ (r2 = 0 → Q 0 M1) ∧ (¬ (r2 = 0) → (0 ≤ a1 ∧ a1 < 3) ∧ wp_J13_bitCount_95d88 (M1 54 a1.toNat) M1 (fun r9 M8 => Q r9 M8))))
set_option maxHeartbeats 4000000 in
set_option maxRecDepth 100000 in
theorem c_X5_freeIn (l : Launch) (X : Cx) (hI : Inj X) (a1 : Int) (M : Mem) (Q : Int → Mem → Prop) (h : wp_X5_freeIn a1 M Q) : MI X l yX5_freeIn cX5_freeIn 2 (some .int) 1 [.ref (xA X 53), .int (jI a1)] M Q := by
  refine MI.of hI (by decide) (Nat.le_of_ble_eq_true rfl) ?_
  intro p e R s m args below meth c ls E hW hl
  have E : En X (AW X) 1 p R s m args meth c cX5_freeIn RX5 2 (some .int) 0 0 := E
  have hl : lv_has ls 2 [(0, .ref (xA X 53)), (1, .int (jI a1))] := hl
  unfold wp_X5_freeIn at h
  refine q_iload_n (n := 1) (q := 1) E.1 hl rfl dX5_freeIn_0 rfl rfl ?_
  refine q_callNi (n := 4) [.int (jI a1)] E hW hl.1 (c_X7_isSheet l X E.2.2.1.1 a1  _ _ h) (by decide) Y_RX5_23 rfl (rest := []) rfl (Nat.le_of_ble_eq_true rfl) dX5_freeIn_1 rfl (fun r2 M1 H locs h hW => ?_)
  obtain ⟨g3, h4, h5⟩ := h
  refine q_if_eq (t := 19) (n := 7) E.1 g3 dX5_freeIn_4 (by decide) rfl (fun c6 => ?_) (fun c6 => ?_)
  · have h := h4 c6
    refine q_iconst (n := 20) E.1 dX5_freeIn_19 rfl ?_
    exact q_iret E hW h dX5_freeIn_20
  · have h := h5 c6
    refine q_aload_n (n := 8) (q := 0) E.1 hl rfl dX5_freeIn_7 rfl rfl ?_
    refine q_get (n := 11) (k := 0) (fs := (fs53 X)) (v := .ref (xA X 54)) E hW (by decide) (fun _ => rfl) K5 (by decide) w197 rfl rfl dX5_freeIn_8 rfl ?_
    refine q_iload_n (n := 12) (q := 1) E.1 hl rfl dX5_freeIn_11 rfl rfl ?_
    obtain ⟨g7, h⟩ := h
    refine q_lald (n := 13) E hW (by decide) (fun _ => rfl) (by decide) g7 dX5_freeIn_12 rfl ?_
    refine q_callSi (n := 16) [.long (jL (M1 54 a1.toNat))] E hW hl.1 (c_J13_bitCount_95d88 l X E.2.2.1.1 (M1 54 a1.toNat)  _ _ h) (by decide) Y_RX5_27 rfl (rest := []) rfl (Nat.le_of_ble_eq_true rfl) dX5_freeIn_13 rfl (fun r9 M8 H locs h hW => ?_)
    refine q_goto (n := 20) E.1 dX5_freeIn_16 (by decide) ?_
    exact q_iret E hW h dX5_freeIn_20
/-! StickerPress$Sheets.allFree()I -/
theorem dX5_allFree_0 : decode cX5_allFree 0 = .ok (.iconst 0, 1) := by decide +kernel
theorem dX5_allFree_1 : decode cX5_allFree 1 = .ok (.istore_n 1, 1) := by decide +kernel
theorem dX5_allFree_2 : decode cX5_allFree 2 = .ok (.iconst 0, 1) := by decide +kernel
theorem dX5_allFree_3 : decode cX5_allFree 3 = .ok (.istore_n 2, 1) := by decide +kernel
theorem dX5_allFree_4 : decode cX5_allFree 4 = .ok (.iload_n 2, 1) := by decide +kernel
theorem dX5_allFree_5 : decode cX5_allFree 5 = .ok (.iconst 3, 1) := by decide +kernel
theorem dX5_allFree_6 : decode cX5_allFree 6 = .ok (.if_icmp .ge 17, 3) := by decide +kernel
theorem dX5_allFree_9 : decode cX5_allFree 9 = .ok (.iload_n 1, 1) := by decide +kernel
theorem dX5_allFree_10 : decode cX5_allFree 10 = .ok (.aload_n 0, 1) := by decide +kernel
theorem dX5_allFree_11 : decode cX5_allFree 11 = .ok (.iload_n 2, 1) := by decide +kernel
theorem dX5_allFree_12 : decode cX5_allFree 12 = .ok (.invokevirtual 33, 3) := by decide +kernel
theorem dX5_allFree_15 : decode cX5_allFree 15 = .ok (.iadd, 1) := by decide +kernel
theorem dX5_allFree_16 : decode cX5_allFree 16 = .ok (.istore_n 1, 1) := by decide +kernel
theorem dX5_allFree_17 : decode cX5_allFree 17 = .ok (.iinc 2 1, 3) := by decide +kernel
theorem dX5_allFree_20 : decode cX5_allFree 20 = .ok (.goto (-16), 3) := by decide +kernel
theorem dX5_allFree_23 : decode cX5_allFree 23 = .ok (.iload_n 1, 1) := by decide +kernel
theorem dX5_allFree_24 : decode cX5_allFree 24 = .ok (.ireturn, 1) := by decide +kernel
theorem Y_RX5_33 : YV RX5 33 RX5 yX5_freeIn cX5_freeIn 2 (some .int) 1 := ⟨w544, w541, w542, w543, w50, by decide +kernel, by decide⟩
def wp_X5_allFree_4 (Q : Int → Mem → Prop) : Nat → Int → Int → Mem → Prop
  | 0, _, _, _ => False
  | n + 1, x1, x2, M => (Rg x2 ∧ (3 ≤ x2 → Q x1 M) ∧ (¬ (3 ≤ x2) → wp_X5_freeIn x2 M (fun r6 M5 => wp_X5_allFree_4 Q n (x1 + r6) (x2 + 1) M5)))
set_option maxHeartbeats 4000000 in
set_option maxRecDepth 100000 in
theorem v_X5_allFree_4 (E : En X (AW X) 2 p R s m args meth c cX5_allFree RX5 3 (some .int) 0 0) (Q : Int → Mem → Prop) : ∀ n : Nat, ∀ (x1 x2 : Int) (M : Mem) (H : Heap) (locs : List Loc) (ls : Array Slot), wp_X5_allFree_4 Q n x1 x2 M → Wd X (AW X) s M H locs → lv_has ls 3 [(0, .ref (xA X 53)), (1, .int (jI x1)), (2, .int (jI x2))] → W p l e R s m args below meth c H locs 0 0 (MQ below (QI X Q) args s 0 0 (AW X)) (F0 m 4 ls []) := by
  intro n
  induction n with
  | zero => intro x1 x2 M H locs ls h; exact absurd h (by simp [wp_X5_allFree_4])
  | succ n ih =>
    intro x1 x2 M H locs ls h hW hl
    rw [wp_X5_allFree_4] at h
    refine q_iload_n (n := 5) (q := 2) E.1 hl rfl dX5_allFree_4 rfl rfl ?_
    refine q_iconst (n := 6) E.1 dX5_allFree_5 rfl ?_
    obtain ⟨g1, h2, h3⟩ := h
    refine q_icmp_ge (t := 23) (n := 9) E.1 g1 (by decide) dX5_allFree_6 (by decide) rfl (fun c4 => ?_) (fun c4 => ?_)
    · have h := h2 c4
      refine q_iload_n (n := 24) (q := 1) E.1 hl rfl dX5_allFree_23 rfl rfl ?_
      exact q_iret E hW h dX5_allFree_24
    · have h := h3 c4
      refine q_iload_n (n := 10) (q := 1) E.1 hl rfl dX5_allFree_9 rfl rfl ?_
      refine q_aload_n (n := 11) (q := 0) E.1 hl rfl dX5_allFree_10 rfl rfl ?_
      refine q_iload_n (n := 12) (q := 2) E.1 hl rfl dX5_allFree_11 rfl rfl ?_
      refine q_callVi (n := 15) (fs := (fs53 X)) [.int (jI x2)] E hW hl.1 (by decide) (fun _ => rfl) K5 (c_X5_freeIn l X E.2.2.1.1 x2  _ _ h) (by decide) Y_RX5_33 rfl (rest := [.int (jI x1)]) rfl (Nat.le_of_ble_eq_true rfl) dX5_allFree_12 rfl (fun r6 M5 H locs h hW => ?_)
      refine q_iadd (n := 16) E.1 dX5_allFree_15 rfl ?_
      refine q_istore_n (n := 17) [(1, .int (jI (x1 + r6))), (0, .ref (xA X 53)), (2, .int (jI x2))] E.1 hl dX5_allFree_16 rfl (by decide) rfl rfl (fun ls hl => ?_)
      refine q_iinc (n := 20) (q := 2) [(2, .int (jI (x2 + 1))), (1, .int (jI (x1 + r6))), (0, .ref (xA X 53))] E.1 hl rfl dX5_allFree_17 (by decide) rfl rfl (fun ls hl => ?_)
      refine q_goto (n := 4) E.1 dX5_allFree_20 (by decide) ?_
      exact ih _ _ _ _ _ _ h hW (lv_sub hl [2, 1, 0] rfl)
def wp_X5_allFree (M : Mem) (Q : Int → Mem → Prop) : Prop := (∃ n : Nat, wp_X5_allFree_4 Q n 0 0 M)
set_option maxHeartbeats 4000000 in
set_option maxRecDepth 100000 in
theorem c_X5_allFree (l : Launch) (X : Cx) (hI : Inj X) (M : Mem) (Q : Int → Mem → Prop) (h : wp_X5_allFree M Q) : MI X l yX5_allFree cX5_allFree 3 (some .int) 2 [.ref (xA X 53)] M Q := by
  refine MI.of hI (by decide) (Nat.le_of_ble_eq_true rfl) ?_
  intro p e R s m args below meth c ls E hW hl
  have E : En X (AW X) 2 p R s m args meth c cX5_allFree RX5 3 (some .int) 0 0 := E
  have hl : lv_has ls 3 [(0, .ref (xA X 53))] := hl
  unfold wp_X5_allFree at h
  refine q_iconst (n := 1) E.1 dX5_allFree_0 rfl ?_
  refine q_istore_n (n := 2) [(1, .int (jI 0)), (0, .ref (xA X 53))] E.1 hl dX5_allFree_1 rfl (by decide) rfl rfl (fun ls hl => ?_)
  refine q_iconst (n := 3) E.1 dX5_allFree_2 rfl ?_
  refine q_istore_n (n := 4) [(2, .int (jI 0)), (1, .int (jI 0)), (0, .ref (xA X 53))] E.1 hl dX5_allFree_3 rfl (by decide) rfl rfl (fun ls hl => ?_)
  obtain ⟨n1, h⟩ := h
  exact v_X5_allFree_4 E Q n1 _ _ _ _ _ _ h hW (lv_sub hl [2, 1, 0] rfl)
/-! StickerPress.isPlace(I)Z -/
theorem dX7_isPlace_0 : decode cX7_isPlace 0 = .ok (.iload_n 0, 1) := by decide +kernel
theorem dX7_isPlace_1 : decode cX7_isPlace 1 = .ok (.ifCond .lt 13, 3) := by decide +kernel
theorem dX7_isPlace_4 : decode cX7_isPlace 4 = .ok (.iload_n 0, 1) := by decide +kernel
theorem dX7_isPlace_5 : decode cX7_isPlace 5 = .ok (.bipush 120, 2) := by decide +kernel
theorem dX7_isPlace_7 : decode cX7_isPlace 7 = .ok (.if_icmp .ge 7, 3) := by decide +kernel
theorem dX7_isPlace_10 : decode cX7_isPlace 10 = .ok (.iconst 1, 1) := by decide +kernel
theorem dX7_isPlace_11 : decode cX7_isPlace 11 = .ok (.goto 4, 3) := by decide +kernel
theorem dX7_isPlace_14 : decode cX7_isPlace 14 = .ok (.iconst 0, 1) := by decide +kernel
theorem dX7_isPlace_15 : decode cX7_isPlace 15 = .ok (.ireturn, 1) := by decide +kernel
def wp_X7_isPlace (a0 : Int) (M : Mem) (Q : Int → Mem → Prop) : Prop := (Rg a0 ∧ (a0 < 0 → Q 0 M) ∧ (¬ (a0 < 0) → (Rg a0 ∧ (120 ≤ a0 → Q 0 M) ∧ (¬ (120 ≤ a0) → Q 1 M))))
set_option maxHeartbeats 4000000 in
set_option maxRecDepth 100000 in
theorem c_X7_isPlace (l : Launch) (X : Cx) (hI : Inj X) (a0 : Int) (M : Mem) (Q : Int → Mem → Prop) (h : wp_X7_isPlace a0 M Q) : MI X l yX7_isPlace cX7_isPlace 1 (some .boolean) 0 [.int (jI a0)] M Q := by
  refine MI.of hI (by decide) (Nat.le_of_ble_eq_true rfl) ?_
  intro p e R s m args below meth c ls E hW hl
  have E : En X (AW X) 0 p R s m args meth c cX7_isPlace RX7 1 (some .boolean) 0 0 := E
  have hl : lv_has ls 1 [(0, .int (jI a0))] := hl
  unfold wp_X7_isPlace at h
  refine q_iload_n (n := 1) (q := 0) E.1 hl rfl dX7_isPlace_0 rfl rfl ?_
  obtain ⟨g1, h2, h3⟩ := h
  refine q_if_lt (t := 14) (n := 4) E.1 g1 dX7_isPlace_1 (by decide) rfl (fun c4 => ?_) (fun c4 => ?_)
  · have h := h2 c4
    refine q_iconst (n := 15) E.1 dX7_isPlace_14 rfl ?_
    exact q_zret E hW (Or.inl rfl) h dX7_isPlace_15
  · have h := h3 c4
    refine q_iload_n (n := 5) (q := 0) E.1 hl rfl dX7_isPlace_4 rfl rfl ?_
    refine q_bipush (n := 7) E.1 dX7_isPlace_5 (by decide) rfl ?_
    obtain ⟨g5, h6, h7⟩ := h
    refine q_icmp_ge (t := 14) (n := 10) E.1 g5 (by decide) dX7_isPlace_7 (by decide) rfl (fun c8 => ?_) (fun c8 => ?_)
    · have h := h6 c8
      refine q_iconst (n := 15) E.1 dX7_isPlace_14 rfl ?_
      exact q_zret E hW (Or.inl rfl) h dX7_isPlace_15
    · have h := h7 c8
      refine q_iconst (n := 11) E.1 dX7_isPlace_10 rfl ?_
      refine q_goto (n := 15) E.1 dX7_isPlace_11 (by decide) ?_
      exact q_zret E hW (Or.inr rfl) h dX7_isPlace_15
/-! StickerPress$Sheets.isFree(I)Z -/
theorem dX5_isFree_0 : decode cX5_isFree 0 = .ok (.iload_n 1, 1) := by decide +kernel
theorem dX5_isFree_1 : decode cX5_isFree 1 = .ok (.invokestatic 37, 3) := by decide +kernel
theorem dX5_isFree_4 : decode cX5_isFree 4 = .ok (.ifCond .eq 28, 3) := by decide +kernel
theorem dX5_isFree_7 : decode cX5_isFree 7 = .ok (.aload_n 0, 1) := by decide +kernel
theorem dX5_isFree_8 : decode cX5_isFree 8 = .ok (.getfield 9, 3) := by decide +kernel
theorem dX5_isFree_11 : decode cX5_isFree 11 = .ok (.iload_n 1, 1) := by decide +kernel
theorem dX5_isFree_12 : decode cX5_isFree 12 = .ok (.bipush 40, 2) := by decide +kernel
theorem dX5_isFree_14 : decode cX5_isFree 14 = .ok (.idiv, 1) := by decide +kernel
theorem dX5_isFree_15 : decode cX5_isFree 15 = .ok (.laload, 1) := by decide +kernel
theorem dX5_isFree_16 : decode cX5_isFree 16 = .ok (.iload_n 1, 1) := by decide +kernel
theorem dX5_isFree_17 : decode cX5_isFree 17 = .ok (.bipush 40, 2) := by decide +kernel
theorem dX5_isFree_19 : decode cX5_isFree 19 = .ok (.irem, 1) := by decide +kernel
theorem dX5_isFree_20 : decode cX5_isFree 20 = .ok (.lshr, 1) := by decide +kernel
theorem dX5_isFree_21 : decode cX5_isFree 21 = .ok (.lconst 1, 1) := by decide +kernel
theorem dX5_isFree_22 : decode cX5_isFree 22 = .ok (.land, 1) := by decide +kernel
theorem dX5_isFree_23 : decode cX5_isFree 23 = .ok (.lconst 1, 1) := by decide +kernel
theorem dX5_isFree_24 : decode cX5_isFree 24 = .ok (.lcmp, 1) := by decide +kernel
theorem dX5_isFree_25 : decode cX5_isFree 25 = .ok (.ifCond .ne 7, 3) := by decide +kernel
theorem dX5_isFree_28 : decode cX5_isFree 28 = .ok (.iconst 1, 1) := by decide +kernel
theorem dX5_isFree_29 : decode cX5_isFree 29 = .ok (.goto 4, 3) := by decide +kernel
theorem dX5_isFree_32 : decode cX5_isFree 32 = .ok (.iconst 0, 1) := by decide +kernel
theorem dX5_isFree_33 : decode cX5_isFree 33 = .ok (.ireturn, 1) := by decide +kernel
theorem Y_RX5_37 : YN RX5 37 yX7_isPlace cX7_isPlace 1 (some .boolean) 1 "StickerPress" := ⟨w622, List.mem_of_getElem? (i := 8) rfl, w621, w43, by decide +kernel, by decide⟩
def wp_X5_isFree (a1 : Int) (M : Mem) (Q : Int → Mem → Prop) : Prop := wp_X7_isPlace a1 M (fun r2 M1 => (Rg r2 ∧ (r2 = 0 → Q 0 M1) ∧ (¬ (r2 = 0) → (Rg a1 ∧ 0 ≤ a1) ∧ (0 ≤ (a1 / 40) ∧ (a1 / 40) < 3) ∧ (Rg a1 ∧ 0 ≤ a1) ∧ (Rg (lCmp (lAnd (lShr (M1 54 (a1 / 40).toNat) (a1 % 40)) 1) 1) ∧ ((lCmp (lAnd (lShr (M1 54 (a1 / 40).toNat) (a1 % 40)) 1) 1) ≠ 0 → Q 0 M1) ∧ (¬ ((lCmp (lAnd (lShr (M1 54 (a1 / 40).toNat) (a1 % 40)) 1) 1) ≠ 0) → Q 1 M1)))))
set_option maxHeartbeats 4000000 in
set_option maxRecDepth 100000 in
theorem c_X5_isFree (l : Launch) (X : Cx) (hI : Inj X) (a1 : Int) (M : Mem) (Q : Int → Mem → Prop) (h : wp_X5_isFree a1 M Q) : MI X l yX5_isFree cX5_isFree 2 (some .boolean) 1 [.ref (xA X 53), .int (jI a1)] M Q := by
  refine MI.of hI (by decide) (Nat.le_of_ble_eq_true rfl) ?_
  intro p e R s m args below meth c ls E hW hl
  have E : En X (AW X) 1 p R s m args meth c cX5_isFree RX5 2 (some .boolean) 0 0 := E
  have hl : lv_has ls 2 [(0, .ref (xA X 53)), (1, .int (jI a1))] := hl
  unfold wp_X5_isFree at h
  refine q_iload_n (n := 1) (q := 1) E.1 hl rfl dX5_isFree_0 rfl rfl ?_
  refine q_callNi (n := 4) [.int (jI a1)] E hW hl.1 (c_X7_isPlace l X E.2.2.1.1 a1  _ _ h) (by decide) Y_RX5_37 rfl (rest := []) rfl (Nat.le_of_ble_eq_true rfl) dX5_isFree_1 rfl (fun r2 M1 H locs h hW => ?_)
  obtain ⟨g3, h4, h5⟩ := h
  refine q_if_eq (t := 32) (n := 7) E.1 g3 dX5_isFree_4 (by decide) rfl (fun c6 => ?_) (fun c6 => ?_)
  · have h := h4 c6
    refine q_iconst (n := 33) E.1 dX5_isFree_32 rfl ?_
    exact q_zret E hW (Or.inl rfl) h dX5_isFree_33
  · have h := h5 c6
    refine q_aload_n (n := 8) (q := 0) E.1 hl rfl dX5_isFree_7 rfl rfl ?_
    refine q_get (n := 11) (k := 0) (fs := (fs53 X)) (v := .ref (xA X 54)) E hW (by decide) (fun _ => rfl) K5 (by decide) w197 rfl rfl dX5_isFree_8 rfl ?_
    refine q_iload_n (n := 12) (q := 1) E.1 hl rfl dX5_isFree_11 rfl rfl ?_
    refine q_bipush (n := 14) E.1 dX5_isFree_12 (by decide) rfl ?_
    obtain ⟨g7, h⟩ := h
    refine q_idiv (n := 15) E.1 g7 (by decide) dX5_isFree_14 rfl ?_
    obtain ⟨g8, h⟩ := h
    refine q_lald (n := 16) E hW (by decide) (fun _ => rfl) (by decide) g8 dX5_isFree_15 rfl ?_
    refine q_iload_n (n := 17) (q := 1) E.1 hl rfl dX5_isFree_16 rfl rfl ?_
    refine q_bipush (n := 19) E.1 dX5_isFree_17 (by decide) rfl ?_
    obtain ⟨g9, h⟩ := h
    refine q_irem (n := 20) E.1 g9 (by decide) dX5_isFree_19 rfl ?_
    refine q_lshr (n := 21) E.1 dX5_isFree_20 rfl ?_
    refine q_lconst (n := 22) (w := 1) E.1 dX5_isFree_21 (by decide) rfl ?_
    refine q_land (n := 23) E.1 dX5_isFree_22 rfl ?_
    refine q_lconst (n := 24) (w := 1) E.1 dX5_isFree_23 (by decide) rfl ?_
    refine q_lcmp (n := 25) E.1 dX5_isFree_24 rfl ?_
    obtain ⟨g10, h11, h12⟩ := h
    refine q_if_ne (t := 32) (n := 28) E.1 g10 dX5_isFree_25 (by decide) rfl (fun c13 => ?_) (fun c13 => ?_)
    · have h := h11 c13
      refine q_iconst (n := 33) E.1 dX5_isFree_32 rfl ?_
      exact q_zret E hW (Or.inl rfl) h dX5_isFree_33
    · have h := h12 c13
      refine q_iconst (n := 29) E.1 dX5_isFree_28 rfl ?_
      refine q_goto (n := 33) E.1 dX5_isFree_29 (by decide) ?_
      exact q_zret E hW (Or.inr rfl) h dX5_isFree_33
/-! StickerPress$Sheets.put(II)V -/
theorem dX5_put_0 : decode cX5_put 0 = .ok (.iload_n 1, 1) := by decide +kernel
theorem dX5_put_1 : decode cX5_put 1 = .ok (.invokestatic 37, 3) := by decide +kernel
theorem dX5_put_4 : decode cX5_put 4 = .ok (.ifCond .eq 32, 3) := by decide +kernel
theorem dX5_put_7 : decode cX5_put 7 = .ok (.aload_n 0, 1) := by decide +kernel
theorem dX5_put_8 : decode cX5_put 8 = .ok (.getfield 9, 3) := by decide +kernel
theorem dX5_put_11 : decode cX5_put 11 = .ok (.iload_n 1, 1) := by decide +kernel
theorem dX5_put_12 : decode cX5_put 12 = .ok (.bipush 40, 2) := by decide +kernel
theorem dX5_put_14 : decode cX5_put 14 = .ok (.idiv, 1) := by decide +kernel
theorem dX5_put_15 : decode cX5_put 15 = .ok (.dup2, 1) := by decide +kernel
theorem dX5_put_16 : decode cX5_put 16 = .ok (.laload, 1) := by decide +kernel
theorem dX5_put_17 : decode cX5_put 17 = .ok (.lconst 1, 1) := by decide +kernel
theorem dX5_put_18 : decode cX5_put 18 = .ok (.iload_n 1, 1) := by decide +kernel
theorem dX5_put_19 : decode cX5_put 19 = .ok (.bipush 40, 2) := by decide +kernel
theorem dX5_put_21 : decode cX5_put 21 = .ok (.irem, 1) := by decide +kernel
theorem dX5_put_22 : decode cX5_put 22 = .ok (.lshl, 1) := by decide +kernel
theorem dX5_put_23 : decode cX5_put 23 = .ok (.ldc2_w 40, 3) := by decide +kernel
theorem dX5_put_26 : decode cX5_put 26 = .ok (.lxor, 1) := by decide +kernel
theorem dX5_put_27 : decode cX5_put 27 = .ok (.land, 1) := by decide +kernel
theorem dX5_put_28 : decode cX5_put 28 = .ok (.lastore, 1) := by decide +kernel
theorem dX5_put_29 : decode cX5_put 29 = .ok (.aload_n 0, 1) := by decide +kernel
theorem dX5_put_30 : decode cX5_put 30 = .ok (.getfield 15, 3) := by decide +kernel
theorem dX5_put_33 : decode cX5_put 33 = .ok (.iload_n 1, 1) := by decide +kernel
theorem dX5_put_34 : decode cX5_put 34 = .ok (.iload_n 2, 1) := by decide +kernel
theorem dX5_put_35 : decode cX5_put 35 = .ok (.iastore, 1) := by decide +kernel
theorem dX5_put_36 : decode cX5_put 36 = .ok (.return_, 1) := by decide +kernel
def wp_X5_put (a1 : Int) (a2 : Int) (M : Mem) (Q : Mem → Prop) : Prop := wp_X7_isPlace a1 M (fun r2 M1 => (Rg r2 ∧ (r2 = 0 → Q M1) ∧ (¬ (r2 = 0) → (Rg a1 ∧ 0 ≤ a1) ∧ (0 ≤ (a1 / 40) ∧ (a1 / 40) < 3) ∧ (Rg a1 ∧ 0 ≤ a1) ∧ (0 ≤ (a1 / 40) ∧ (a1 / 40) < 3) ∧ (0 ≤ a1 ∧ a1 < 120) ∧ Q (up (up M1 54 (a1 / 40).toNat (lAnd (M1 54 (a1 / 40).toNat) (lXor (lShl 1 (a1 % 40)) (-1)))) 55 a1.toNat a2))))
set_option maxHeartbeats 4000000 in
set_option maxRecDepth 100000 in
theorem c_X5_put (l : Launch) (X : Cx) (hI : Inj X) (a1 : Int) (a2 : Int) (M : Mem) (Q : Mem → Prop) (h : wp_X5_put a1 a2 M Q) : MV X l yX5_put cX5_put 3 1 [.ref (xA X 53), .int (jI a1), .int (jI a2)] M Q := by
  refine MV.of hI (by decide) (Nat.le_of_ble_eq_true rfl) ?_
  intro p e R s m args below meth c ls E hW hl
  have E : En X (AW X) 1 p R s m args meth c cX5_put RX5 3 none 0 0 := E
  have hl : lv_has ls 3 [(0, .ref (xA X 53)), (1, .int (jI a1)), (2, .int (jI a2))] := hl
  unfold wp_X5_put at h
  refine q_iload_n (n := 1) (q := 1) E.1 hl rfl dX5_put_0 rfl rfl ?_
  refine q_callNi (n := 4) [.int (jI a1)] E hW hl.1 (c_X7_isPlace l X E.2.2.1.1 a1  _ _ h) (by decide) Y_RX5_37 rfl (rest := []) rfl (Nat.le_of_ble_eq_true rfl) dX5_put_1 rfl (fun r2 M1 H locs h hW => ?_)
  obtain ⟨g3, h4, h5⟩ := h
  refine q_if_eq (t := 36) (n := 7) E.1 g3 dX5_put_4 (by decide) rfl (fun c6 => ?_) (fun c6 => ?_)
  · have h := h4 c6
    exact q_vret E hW h dX5_put_36
  · have h := h5 c6
    refine q_aload_n (n := 8) (q := 0) E.1 hl rfl dX5_put_7 rfl rfl ?_
    refine q_get (n := 11) (k := 0) (fs := (fs53 X)) (v := .ref (xA X 54)) E hW (by decide) (fun _ => rfl) K5 (by decide) w197 rfl rfl dX5_put_8 rfl ?_
    refine q_iload_n (n := 12) (q := 1) E.1 hl rfl dX5_put_11 rfl rfl ?_
    refine q_bipush (n := 14) E.1 dX5_put_12 (by decide) rfl ?_
    obtain ⟨g7, h⟩ := h
    refine q_idiv (n := 15) E.1 g7 (by decide) dX5_put_14 rfl ?_
    refine q_dup2 (n := 16) E.1 dX5_put_15 rfl rfl rfl ?_
    obtain ⟨g8, h⟩ := h
    refine q_lald (n := 17) E hW (by decide) (fun _ => rfl) (by decide) g8 dX5_put_16 rfl ?_
    refine q_lconst (n := 18) (w := 1) E.1 dX5_put_17 (by decide) rfl ?_
    refine q_iload_n (n := 19) (q := 1) E.1 hl rfl dX5_put_18 rfl rfl ?_
    refine q_bipush (n := 21) E.1 dX5_put_19 (by decide) rfl ?_
    obtain ⟨g9, h⟩ := h
    refine q_irem (n := 22) E.1 g9 (by decide) dX5_put_21 rfl ?_
    refine q_lshl (n := 23) E.1 dX5_put_22 rfl ?_
    refine q_ldc2 (n := 26) (z := (-1)) E.1 w671 (by decide) dX5_put_23 rfl ?_
    refine q_lxor (n := 27) E.1 dX5_put_26 rfl ?_
    refine q_land (n := 28) E.1 dX5_put_27 rfl ?_
    obtain ⟨g10, h⟩ := h
    refine q_last (n := 29) E hW (by decide) (fun _ => rfl) (by decide) g10 dX5_put_28 rfl (fun H locs hW => ?_)
    refine q_aload_n (n := 30) (q := 0) E.1 hl rfl dX5_put_29 rfl rfl ?_
    refine q_get (n := 33) (k := 1) (fs := (fs53 X)) (v := .ref (xA X 55)) E hW (by decide) (fun _ => rfl) K5 (by decide) w198 rfl rfl dX5_put_30 rfl ?_
    refine q_iload_n (n := 34) (q := 1) E.1 hl rfl dX5_put_33 rfl rfl ?_
    refine q_iload_n (n := 35) (q := 2) E.1 hl rfl dX5_put_34 rfl rfl ?_
    obtain ⟨g11, h⟩ := h
    refine q_iast (n := 36) E hW (by decide) (fun _ => rfl) (by decide) g11 dX5_put_35 rfl (fun H locs hW => ?_)
    exact q_vret E hW h dX5_put_36
/-! StickerPress$Sheets.labelIn(I)I -/
theorem dX5_labelIn_0 : decode cX5_labelIn 0 = .ok (.iload_n 1, 1) := by decide +kernel
theorem dX5_labelIn_1 : decode cX5_labelIn 1 = .ok (.invokestatic 37, 3) := by decide +kernel
theorem dX5_labelIn_4 : decode cX5_labelIn 4 = .ok (.ifCond .eq 12, 3) := by decide +kernel
theorem dX5_labelIn_7 : decode cX5_labelIn 7 = .ok (.aload_n 0, 1) := by decide +kernel
theorem dX5_labelIn_8 : decode cX5_labelIn 8 = .ok (.getfield 15, 3) := by decide +kernel
theorem dX5_labelIn_11 : decode cX5_labelIn 11 = .ok (.iload_n 1, 1) := by decide +kernel
theorem dX5_labelIn_12 : decode cX5_labelIn 12 = .ok (.iaload, 1) := by decide +kernel
theorem dX5_labelIn_13 : decode cX5_labelIn 13 = .ok (.goto 4, 3) := by decide +kernel
theorem dX5_labelIn_16 : decode cX5_labelIn 16 = .ok (.iconst (-1), 1) := by decide +kernel
theorem dX5_labelIn_17 : decode cX5_labelIn 17 = .ok (.ireturn, 1) := by decide +kernel
def wp_X5_labelIn (a1 : Int) (M : Mem) (Q : Int → Mem → Prop) : Prop := wp_X7_isPlace a1 M (fun r2 M1 => (Rg r2 ∧ (r2 = 0 → Q (-1) M1) ∧ (¬ (r2 = 0) → (0 ≤ a1 ∧ a1 < 120) ∧ Q (M1 55 a1.toNat) M1)))
set_option maxHeartbeats 4000000 in
set_option maxRecDepth 100000 in
theorem c_X5_labelIn (l : Launch) (X : Cx) (hI : Inj X) (a1 : Int) (M : Mem) (Q : Int → Mem → Prop) (h : wp_X5_labelIn a1 M Q) : MI X l yX5_labelIn cX5_labelIn 2 (some .int) 1 [.ref (xA X 53), .int (jI a1)] M Q := by
  refine MI.of hI (by decide) (Nat.le_of_ble_eq_true rfl) ?_
  intro p e R s m args below meth c ls E hW hl
  have E : En X (AW X) 1 p R s m args meth c cX5_labelIn RX5 2 (some .int) 0 0 := E
  have hl : lv_has ls 2 [(0, .ref (xA X 53)), (1, .int (jI a1))] := hl
  unfold wp_X5_labelIn at h
  refine q_iload_n (n := 1) (q := 1) E.1 hl rfl dX5_labelIn_0 rfl rfl ?_
  refine q_callNi (n := 4) [.int (jI a1)] E hW hl.1 (c_X7_isPlace l X E.2.2.1.1 a1  _ _ h) (by decide) Y_RX5_37 rfl (rest := []) rfl (Nat.le_of_ble_eq_true rfl) dX5_labelIn_1 rfl (fun r2 M1 H locs h hW => ?_)
  obtain ⟨g3, h4, h5⟩ := h
  refine q_if_eq (t := 16) (n := 7) E.1 g3 dX5_labelIn_4 (by decide) rfl (fun c6 => ?_) (fun c6 => ?_)
  · have h := h4 c6
    refine q_iconst (n := 17) E.1 dX5_labelIn_16 rfl ?_
    exact q_iret E hW h dX5_labelIn_17
  · have h := h5 c6
    refine q_aload_n (n := 8) (q := 0) E.1 hl rfl dX5_labelIn_7 rfl rfl ?_
    refine q_get (n := 11) (k := 1) (fs := (fs53 X)) (v := .ref (xA X 55)) E hW (by decide) (fun _ => rfl) K5 (by decide) w198 rfl rfl dX5_labelIn_8 rfl ?_
    refine q_iload_n (n := 12) (q := 1) E.1 hl rfl dX5_labelIn_11 rfl rfl ?_
    obtain ⟨g7, h⟩ := h
    refine q_iald (n := 13) E hW (by decide) (fun _ => rfl) (by decide) g7 dX5_labelIn_12 rfl ?_
    refine q_goto (n := 17) E.1 dX5_labelIn_13 (by decide) ?_
    exact q_iret E hW h dX5_labelIn_17
/-! StickerPress$Sheets.isGood(I)Z -/
theorem dX5_isGood_0 : decode cX5_isGood 0 = .ok (.aload_n 0, 1) := by decide +kernel
theorem dX5_isGood_1 : decode cX5_isGood 1 = .ok (.iload_n 1, 1) := by decide +kernel
theorem dX5_isGood_2 : decode cX5_isGood 2 = .ok (.invokevirtual 42, 3) := by decide +kernel
theorem dX5_isGood_5 : decode cX5_isGood 5 = .ok (.iconst (-1), 1) := by decide +kernel
theorem dX5_isGood_6 : decode cX5_isGood 6 = .ok (.if_icmp .eq 16, 3) := by decide +kernel
theorem dX5_isGood_9 : decode cX5_isGood 9 = .ok (.aload_n 0, 1) := by decide +kernel
theorem dX5_isGood_10 : decode cX5_isGood 10 = .ok (.getfield 19, 3) := by decide +kernel
theorem dX5_isGood_13 : decode cX5_isGood 13 = .ok (.iload_n 1, 1) := by decide +kernel
theorem dX5_isGood_14 : decode cX5_isGood 14 = .ok (.baload, 1) := by decide +kernel
theorem dX5_isGood_15 : decode cX5_isGood 15 = .ok (.ifCond .ne 7, 3) := by decide +kernel
theorem dX5_isGood_18 : decode cX5_isGood 18 = .ok (.iconst 1, 1) := by decide +kernel
theorem dX5_isGood_19 : decode cX5_isGood 19 = .ok (.goto 4, 3) := by decide +kernel
theorem dX5_isGood_22 : decode cX5_isGood 22 = .ok (.iconst 0, 1) := by decide +kernel
theorem dX5_isGood_23 : decode cX5_isGood 23 = .ok (.ireturn, 1) := by decide +kernel
theorem Y_RX5_42 : YV RX5 42 RX5 yX5_labelIn cX5_labelIn 2 (some .int) 1 := ⟨w683, w692, w681, w682, w50, by decide +kernel, by decide⟩
def wp_X5_isGood (a1 : Int) (M : Mem) (Q : Int → Mem → Prop) : Prop := wp_X5_labelIn a1 M (fun r2 M1 => (Rg r2 ∧ (r2 = (-1) → Q 0 M1) ∧ (¬ (r2 = (-1)) → (0 ≤ a1 ∧ a1 < 120) ∧ (Rg (M1 56 a1.toNat) ∧ ((M1 56 a1.toNat) ≠ 0 → Q 0 M1) ∧ (¬ ((M1 56 a1.toNat) ≠ 0) → Q 1 M1)))))
set_option maxHeartbeats 4000000 in
set_option maxRecDepth 100000 in
theorem c_X5_isGood (l : Launch) (X : Cx) (hI : Inj X) (a1 : Int) (M : Mem) (Q : Int → Mem → Prop) (h : wp_X5_isGood a1 M Q) : MI X l yX5_isGood cX5_isGood 2 (some .boolean) 2 [.ref (xA X 53), .int (jI a1)] M Q := by
  refine MI.of hI (by decide) (Nat.le_of_ble_eq_true rfl) ?_
  intro p e R s m args below meth c ls E hW hl
  have E : En X (AW X) 2 p R s m args meth c cX5_isGood RX5 2 (some .boolean) 0 0 := E
  have hl : lv_has ls 2 [(0, .ref (xA X 53)), (1, .int (jI a1))] := hl
  unfold wp_X5_isGood at h
  refine q_aload_n (n := 1) (q := 0) E.1 hl rfl dX5_isGood_0 rfl rfl ?_
  refine q_iload_n (n := 2) (q := 1) E.1 hl rfl dX5_isGood_1 rfl rfl ?_
  refine q_callVi (n := 5) (fs := (fs53 X)) [.int (jI a1)] E hW hl.1 (by decide) (fun _ => rfl) K5 (c_X5_labelIn l X E.2.2.1.1 a1  _ _ h) (by decide) Y_RX5_42 rfl (rest := []) rfl (Nat.le_of_ble_eq_true rfl) dX5_isGood_2 rfl (fun r2 M1 H locs h hW => ?_)
  refine q_iconst (n := 6) E.1 dX5_isGood_5 rfl ?_
  obtain ⟨g3, h4, h5⟩ := h
  refine q_icmp_eq (t := 22) (n := 9) E.1 g3 (by decide) dX5_isGood_6 (by decide) rfl (fun c6 => ?_) (fun c6 => ?_)
  · have h := h4 c6
    refine q_iconst (n := 23) E.1 dX5_isGood_22 rfl ?_
    exact q_zret E hW (Or.inl rfl) h dX5_isGood_23
  · have h := h5 c6
    refine q_aload_n (n := 10) (q := 0) E.1 hl rfl dX5_isGood_9 rfl rfl ?_
    refine q_get (n := 13) (k := 2) (fs := (fs53 X)) (v := .ref (xA X 56)) E hW (by decide) (fun _ => rfl) K5 (by decide) w199 rfl rfl dX5_isGood_10 rfl ?_
    refine q_iload_n (n := 14) (q := 1) E.1 hl rfl dX5_isGood_13 rfl rfl ?_
    obtain ⟨g7, h⟩ := h
    refine q_zald (n := 15) E hW (by decide) (fun _ => rfl) (by decide) g7 dX5_isGood_14 rfl ?_
    obtain ⟨g8, h9, h10⟩ := h
    refine q_if_ne (t := 22) (n := 18) E.1 g8 dX5_isGood_15 (by decide) rfl (fun c11 => ?_) (fun c11 => ?_)
    · have h := h9 c11
      refine q_iconst (n := 23) E.1 dX5_isGood_22 rfl ?_
      exact q_zret E hW (Or.inl rfl) h dX5_isGood_23
    · have h := h10 c11
      refine q_iconst (n := 19) E.1 dX5_isGood_18 rfl ?_
      refine q_goto (n := 23) E.1 dX5_isGood_19 (by decide) ?_
      exact q_zret E hW (Or.inr rfl) h dX5_isGood_23
/-! StickerPress$Sheets.markSpoiled(I)V -/
theorem dX5_markSpoiled_0 : decode cX5_markSpoiled 0 = .ok (.iload_n 1, 1) := by decide +kernel
theorem dX5_markSpoiled_1 : decode cX5_markSpoiled 1 = .ok (.invokestatic 37, 3) := by decide +kernel
theorem dX5_markSpoiled_4 : decode cX5_markSpoiled 4 = .ok (.ifCond .eq 10, 3) := by decide +kernel
theorem dX5_markSpoiled_7 : decode cX5_markSpoiled 7 = .ok (.aload_n 0, 1) := by decide +kernel
theorem dX5_markSpoiled_8 : decode cX5_markSpoiled 8 = .ok (.getfield 19, 3) := by decide +kernel
theorem dX5_markSpoiled_11 : decode cX5_markSpoiled 11 = .ok (.iload_n 1, 1) := by decide +kernel
theorem dX5_markSpoiled_12 : decode cX5_markSpoiled 12 = .ok (.iconst 1, 1) := by decide +kernel
theorem dX5_markSpoiled_13 : decode cX5_markSpoiled 13 = .ok (.bastore, 1) := by decide +kernel
theorem dX5_markSpoiled_14 : decode cX5_markSpoiled 14 = .ok (.return_, 1) := by decide +kernel
def wp_X5_markSpoiled (a1 : Int) (M : Mem) (Q : Mem → Prop) : Prop := wp_X7_isPlace a1 M (fun r2 M1 => (Rg r2 ∧ (r2 = 0 → Q M1) ∧ (¬ (r2 = 0) → (0 ≤ a1 ∧ a1 < 120) ∧ Q (up M1 56 a1.toNat 1))))
set_option maxHeartbeats 4000000 in
set_option maxRecDepth 100000 in
theorem c_X5_markSpoiled (l : Launch) (X : Cx) (hI : Inj X) (a1 : Int) (M : Mem) (Q : Mem → Prop) (h : wp_X5_markSpoiled a1 M Q) : MV X l yX5_markSpoiled cX5_markSpoiled 2 1 [.ref (xA X 53), .int (jI a1)] M Q := by
  refine MV.of hI (by decide) (Nat.le_of_ble_eq_true rfl) ?_
  intro p e R s m args below meth c ls E hW hl
  have E : En X (AW X) 1 p R s m args meth c cX5_markSpoiled RX5 2 none 0 0 := E
  have hl : lv_has ls 2 [(0, .ref (xA X 53)), (1, .int (jI a1))] := hl
  unfold wp_X5_markSpoiled at h
  refine q_iload_n (n := 1) (q := 1) E.1 hl rfl dX5_markSpoiled_0 rfl rfl ?_
  refine q_callNi (n := 4) [.int (jI a1)] E hW hl.1 (c_X7_isPlace l X E.2.2.1.1 a1  _ _ h) (by decide) Y_RX5_37 rfl (rest := []) rfl (Nat.le_of_ble_eq_true rfl) dX5_markSpoiled_1 rfl (fun r2 M1 H locs h hW => ?_)
  obtain ⟨g3, h4, h5⟩ := h
  refine q_if_eq (t := 14) (n := 7) E.1 g3 dX5_markSpoiled_4 (by decide) rfl (fun c6 => ?_) (fun c6 => ?_)
  · have h := h4 c6
    exact q_vret E hW h dX5_markSpoiled_14
  · have h := h5 c6
    refine q_aload_n (n := 8) (q := 0) E.1 hl rfl dX5_markSpoiled_7 rfl rfl ?_
    refine q_get (n := 11) (k := 2) (fs := (fs53 X)) (v := .ref (xA X 56)) E hW (by decide) (fun _ => rfl) K5 (by decide) w199 rfl rfl dX5_markSpoiled_8 rfl ?_
    refine q_iload_n (n := 12) (q := 1) E.1 hl rfl dX5_markSpoiled_11 rfl rfl ?_
    refine q_iconst (n := 13) E.1 dX5_markSpoiled_12 rfl ?_
    obtain ⟨g7, h⟩ := h
    refine q_zast (n := 14) E hW (by decide) (fun _ => rfl) (by decide) g7 (Or.inr rfl) dX5_markSpoiled_13 rfl (fun H locs hW => ?_)
    exact q_vret E hW h dX5_markSpoiled_14
end
