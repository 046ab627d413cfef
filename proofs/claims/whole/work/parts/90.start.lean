/-! the law from its entry -/
theorem Y_RL_9 : YI RL 9 yX7_init cX7_init 1 0 := ⟨w59, w57, w58, w43, rfl, by decide +kernel, by decide⟩
theorem Y_RL_12 : YI RL 12 yX8_init cX8_init 2 0 := ⟨w713, w711, w712, w52, rfl, by decide +kernel, by decide⟩
set_option maxRecDepth 20000 in
theorem nst_start {args : Array Value} {s : State} (hts : ∀ w ∈ lw_tbl, w.before args s = true) : Nst s := by
  intro w hw
  have hm : ∀ w ∈ nstl, w ∈ lw_tbl := by
    have h : nstl = ([129, 131, 133, 419, 471, 473, 499, 514, 620, 639, 644, 657] : List Nat).filterMap (fun i => lw_tbl[i]?) := by decide +kernel
    intro w hw
    rw [h] at hw
    obtain ⟨i, -, hi⟩ := List.mem_filterMap.mp hw
    exact List.mem_of_getElem? hi
  exact va_Nw.of (nstl_tab w hw) (hts w (hm w hw))
set_option maxRecDepth 20000 in
theorem ao_in : Cond.arrayOver (.object "StickerPress$Row") ∈ lw_tbl := List.mem_of_getElem? (i := 87) (by decide +kernel)
set_option maxRecDepth 20000 in
theorem lstat_in : Cond.laysStatic "StickerPress" "DIGIT_CODES" "[I" ∈ lw_tbl := List.mem_of_getElem? (i := 420) (by decide +kernel)
theorem arr_start {args : Array Value} {s : State} {ty : FieldType} (h : (Cond.arrayClass ty).before args s = true) : ∃ cA : ClassId, ArrOfT s cA ty ∧ s.vm.findClass ("[" ++ ty.toString) = some cA := by
  obtain ⟨cA, kA, comp, h1, h2, h3⟩ := Cond.arrayClass_spec h
  exact ⟨cA, fun n z => ⟨fun k h => (by cases h), kA, h2, comp, h3⟩, h1⟩
theorem ref_start {args : Array Value} {s : State} (h : (Cond.arrayOver (.object "StickerPress$Row")).before args s = true) : ∃ cA : ClassId, ArrOfT s cA (.object "StickerPress$Row") ∧ va_RA s cA (.object "StickerPress$Row") := by
  obtain ⟨comp, cA, k, h1, h2, h3, h4, h5⟩ := Cond.arrayOver_spec h
  exact ⟨cA, fun n z => ⟨fun k h => (by cases h), k, h3, comp, h4⟩, k, comp, h3, h4, h1, h5⟩
set_option maxHeartbeats 4000000 in
theorem tab_start {args : Array Value} {s : State} (hts : ∀ w ∈ lw_tbl, w.before args s = true) (hgv : (Jvm.Cond.and given_1 narrow_1).before args s = true) {A : Nat → Prop} (hA : ∀ a : Nat, a < s.heap.size → ¬ A a) : ∃ t : Nat, va_Z "StickerPress" "DIGIT_CODES" "[I" (.ref t) A s s.heap ∧ va_T .int t 10 (fun j => .int (jI (dcode j))) A s s.heap := by
  have hs := flat_of_before _ hgv
  have harr : (Cond.arrayOf (.static "StickerPress" "DIGIT_CODES" "[I") .int).before args s = true := hs _ (by decide +kernel)
  have hlen := va_eqt (hs (Cond.eq (.length (.static "StickerPress" "DIGIT_CODES" "[I")) (.int 10)) (by decide +kernel))
  obtain ⟨t, h1, h2⟩ := va_Tof (N := 10) (f := fun j => .int (jI (dcode j))) (A := A) (by decide) harr hlen (fun j hj => by
    match j, hj with
    | 0, _ => exact va_eqt (hs (Cond.eq (.elem (.static "StickerPress" "DIGIT_CODES" "[I") (.int 0)) (.int 6)) (by decide +kernel))
    | 1, _ => exact va_eqt (hs (Cond.eq (.elem (.static "StickerPress" "DIGIT_CODES" "[I") (.int 1)) (.int 17)) (by decide +kernel))
    | 2, _ => exact va_eqt (hs (Cond.eq (.elem (.static "StickerPress" "DIGIT_CODES" "[I") (.int 2)) (.int 9)) (by decide +kernel))
    | 3, _ => exact va_eqt (hs (Cond.eq (.elem (.static "StickerPress" "DIGIT_CODES" "[I") (.int 3)) (.int 24)) (by decide +kernel))
    | 4, _ => exact va_eqt (hs (Cond.eq (.elem (.static "StickerPress" "DIGIT_CODES" "[I") (.int 4)) (.int 5)) (by decide +kernel))
    | 5, _ => exact va_eqt (hs (Cond.eq (.elem (.static "StickerPress" "DIGIT_CODES" "[I") (.int 5)) (.int 20)) (by decide +kernel))
    | 6, _ => exact va_eqt (hs (Cond.eq (.elem (.static "StickerPress" "DIGIT_CODES" "[I") (.int 6)) (.int 12)) (by decide +kernel))
    | 7, _ => exact va_eqt (hs (Cond.eq (.elem (.static "StickerPress" "DIGIT_CODES" "[I") (.int 7)) (.int 3)) (by decide +kernel))
    | 8, _ => exact va_eqt (hs (Cond.eq (.elem (.static "StickerPress" "DIGIT_CODES" "[I") (.int 8)) (.int 18)) (by decide +kernel))
    | 9, _ => exact va_eqt (hs (Cond.eq (.elem (.static "StickerPress" "DIGIT_CODES" "[I") (.int 9)) (.int 10)) (by decide +kernel))
    | k + 10, h => exact absurd h (by omega)) hA
  exact ⟨t, va_Zref (hts _ lstat_in) (hts _ (gtbl_in _ w43)) h1 hA, h2⟩
theorem cls_start {args : Array Value} {s : State} (hts : ∀ w ∈ lw_tbl, w.before args s = true) : ∃ (D : va_G), ∀ (k : Nat) (q : vw_C), vwCl[k]? = some q → u_Kn s q.1 q.2.1 q.2.2 (D.1 k) (D.2 k) := by
  obtain ⟨c0, iS0, hKn0⟩ := u_known (C := RX0) (T := TX0) (N := 10) (n := 10) hts (fun w h => gtbl_in w (in0 w h)) (hts _ (gtbl_in _ w209))
  obtain ⟨c1, iS1, hKn1⟩ := u_known (C := RX1) (T := TX1) (N := 5) (n := 5) hts (fun w h => gtbl_in w (in1 w h)) (hts _ (gtbl_in _ w169))
  obtain ⟨c2, iS2, hKn2⟩ := u_known (C := RX2) (T := TX2) (N := 7) (n := 7) hts (fun w h => gtbl_in w (in2 w h)) (hts _ (gtbl_in _ w81))
  obtain ⟨c3, iS3, hKn3⟩ := u_known (C := RX3) (T := TX3) (N := 4) (n := 4) hts (fun w h => gtbl_in w (in3 w h)) (hts _ (gtbl_in _ w120))
  obtain ⟨c4, iS4, hKn4⟩ := u_known (C := RX4) (T := TX4) (N := 2) (n := 2) hts (fun w h => gtbl_in w (in4 w h)) (hts _ (gtbl_in _ w64))
  obtain ⟨c5, iS5, hKn5⟩ := u_known (C := RX5) (T := TX5) (N := 3) (n := 3) hts (fun w h => gtbl_in w (in5 w h)) (hts _ (gtbl_in _ w192))
  obtain ⟨c6, iS6, hKn6⟩ := u_known (C := RX6) (T := TX6) (N := 8) (n := 8) hts (fun w h => gtbl_in w (in6 w h)) (hts _ (gtbl_in _ w112))
  obtain ⟨c7, iS7, hKn7⟩ := u_known (C := RX7) (T := TX7) (N := 7) (n := 7) hts (fun w h => gtbl_in w (in7 w h)) (hts _ (gtbl_in _ w56))
  obtain ⟨c8, iS8, hKn8⟩ := u_known (C := RX8) (T := TX8) (N := 46) (n := 46) hts (fun w h => gtbl_in w (in8 w h)) (hts _ (gtbl_in _ w710))
  refine ⟨(fun k => ([c0, c1, c2, c3, c4, c5, c6, c7, c8] : List ClassId).getD k c0, fun k => ([iS0, iS1, iS2, iS3, iS4, iS5, iS6, iS7, iS8] : List (Nat → Nat)).getD k iS0), ?_⟩
  intro k q hq
  match k, hq with
  | 0, hq => cases hq; exact hKn0
  | 1, hq => cases hq; exact hKn1
  | 2, hq => cases hq; exact hKn2
  | 3, hq => cases hq; exact hKn3
  | 4, hq => cases hq; exact hKn4
  | 5, hq => cases hq; exact hKn5
  | 6, hq => cases hq; exact hKn6
  | 7, hq => cases hq; exact hKn7
  | 8, hq => cases hq; exact hKn8
  | k + 9, hq => simp [vwCl] at hq
set_option maxHeartbeats 4000000 in
set_option maxRecDepth 100000 in
theorem whole_start {p : Program} {e : Env} {s : State} {m : MethodId} {below : List Frame} {meth : Method} {c : Code} (l : Launch) {b L : Nat} {xs : Nat → Int32} (hL : L ≤ 3072) (C0 : lw_At p s m meth c b L xs) : W p l e room_1 s m #[Value.ref b] below meth c s.heap [] 0 0 (lw_Z below #[Value.ref b] s) (entryFrame m ([Value.ref b] : List Value).toArray 4) := by
  obtain ⟨hx, hb, hr, hml, hown, hts, hX, hbl, hlocks, hgv⟩ := C0
  have hA : ∀ a : Nat, a < s.heap.size → ¬ (fun q : Nat => s.heap.size ≤ q) a := fun a h => Nat.not_le.mpr h
  obtain ⟨D, hD0⟩ := cls_start hts
  obtain ⟨cI, hI1, hI2⟩ := arr_start (hts _ (gtbl_in _ w79))
  obtain ⟨cZ, hZ1, hZ2⟩ := arr_start (hts _ (gtbl_in _ w190))
  obtain ⟨cJ, hJ1, hJ2⟩ := arr_start (hts _ (gtbl_in _ w207))
  obtain ⟨cR, hR1, hR2⟩ := ref_start (hts _ ao_in)
  obtain ⟨td, hZ, hT⟩ := tab_start hts hgv (A := fun q : Nat => s.heap.size ≤ q) hA
  obtain ⟨X, hXe⟩ : ∃ X : Cx, X = (D, (fun k => ([cI, cZ, cJ, cR] : List ClassId).getD k cI), td, fun _ => 0) := ⟨_, rfl⟩
  have hK : va_K (xD X) vwCl (xtys X) s := by
    subst hXe
    refine ⟨hD0, fun k q hk => ?_⟩
    match k, hk with
    | 0, hk => cases hk; exact ⟨hI1, hI2⟩
    | 1, hk => cases hk; exact ⟨hZ1, hZ2⟩
    | 2, hk => cases hk; exact ⟨hJ1, hJ2⟩
    | 3, hk => cases hk; exact ⟨hR1, hR2⟩
    | k + 4, hk => simp [xtys] at hk
  have E : Ec X (fun q : Nat => s.heap.size ≤ q) 100 600000 7302250 p room_1 s m #[Value.ref b] c cL_law RL 4 := ⟨⟨hx, hb, hml, hown, fun w hw => hts w (gtbl_in w hw)⟩, ⟨hK, va_AO.of (hts _ ao_in)⟩, fun q h => h, by decide, by decide, by decide, by decide⟩
  have hC : Cw X (fun q : Nat => s.heap.size ≤ q) s [] s.heap [] := ⟨fun k q h => by simp at h, ⟨fun i j p q h => by simp at h, fun k q h => by simp at h⟩, va_S.rf⟩
  have hl := lv_entry ([.ref b]) (n := 4) (Nat.le_of_ble_eq_true rfl)
  rw [lg_entry_eq]
  generalize (lg_sl ([.ref b]) ++ List.replicate (4 - (lg_sl ([.ref b])).length) Slot.unset).toArray = ls at hl ⊢
  have hl : lv_has ls 4 [(0, .ref b)] := hl
  refine z_new (n := 3) [.null, .null, .null, .null, .null, .null, .null] E hC K7 bn7 w55 w56 w43 ⟨by decide, by decide⟩ dL_law_0 rfl (fun q7 H hC => ?_)
  refine W.cs (cells' := 1) (slots' := 7) rfl rfl ?_
  refine q_dup (n := 4) E.1 dL_law_3 rfl rfl ?_
  have hC : Cw X (fun q : Nat => s.heap.size ≤ q) s [(q7, .inr (7, [.null, .null, .null, .null, .null, .null, .null]))] H [] := hC
  refine z_call (n := 7) [] [0] [] [] E hC hl.1 (k_X7_init l X q7) rfl rfl (by decide) (by decide) (by decide) (by decide) ⟨by decide, by decide⟩ Y_RL_9 rfl (rest := [.ref q7]) rfl (Nat.le_of_ble_eq_true rfl) dL_law_4 rfl (fun u7 H locs hp7 hC => ?_)
  refine W.cs (cells' := 63) (slots' := 1741) rfl rfl ?_
  refine lv_astore_n (lv' := [(1, .ref q7), (0, .ref b)]) hx hb dL_law_7 rfl hl (by decide) rfl (fun ls hl => ?_)
  refine W.eq (g2 := F0 m 8 ls []) rfl ?_
  refine z_new (n := 11) [.null, .null, .null, .int (jI 0), .int (jI 0), .null, .null, .null, .null, .null, .null, .null, .int (jI 0), .int (jI 0), .int (jI 0), .int (jI 0), .int (jI 0), .int (jI 0), .int (jI 0), .null, .null, .int (jI 0), .int (jI 0), .int (jI 0), .int (jI 0), .int (jI 0), .int (jI 0), .int (jI 0), .null, .null, .null, .int (jI 0), .null, .null, .null, .null, .null, .null, .null, .null, .null, .int (jI 0), .int (jI 0), .null, .null, .null] E hC K8 bn8 w709 w710 w52 ⟨by decide, by decide⟩ dL_law_8 rfl (fun q8 H hC => ?_)
  refine W.cs (cells' := 64) (slots' := 1787) rfl rfl ?_
  refine q_dup (n := 12) E.1 dL_law_11 rfl rfl ?_
  have hC : Cw X (fun q : Nat => s.heap.size ≤ q) s [(q7, .inr (7, [.ref (u7.1 0), .ref (u7.1 2), .ref (u7.1 4), .ref (u7.1 36), .ref (u7.1 47), .ref (u7.1 52), .ref (u7.1 56)])), ((u7.1 0), .inr (4, [.ref (u7.1 1), .int (jI 0)])), ((u7.1 1), arI X 200 (fun _ => 0)), ((u7.1 2), .inr (4, [.ref (u7.1 3), .int (jI 0)])), ((u7.1 3), arI X 67 (fun _ => 0)), ((u7.1 4), .inr (2, [.ref (u7.1 5), .ref (u7.1 6), .ref (u7.1 7), .ref (u7.1 32), .ref (u7.1 34), .int (jI 0), .int (jI (-1))])), ((u7.1 5), arI X 95 (u7.2 0)), ((u7.1 6), arQ X 6 (va_up (va_up (va_up (va_up (va_up (va_up (fun _ => none) 0 (some (u7.1 8))) 1 (some (u7.1 12))) 2 (some (u7.1 16))) 3 (some (u7.1 20))) 4 (some (u7.1 24))) 5 (some (u7.1 28)))), ((u7.1 7), arQ X 6 (va_up (va_up (va_up (va_up (va_up (va_up (fun _ => none) 0 (some (u7.1 10))) 1 (some (u7.1 14))) 2 (some (u7.1 18))) 3 (some (u7.1 22))) 4 (some (u7.1 26))) 5 (some (u7.1 30)))), ((u7.1 8), .inr (4, [.ref (u7.1 9), .int (jI 0)])), ((u7.1 9), arI X 6 (fun _ => 0)), ((u7.1 10), .inr (4, [.ref (u7.1 11), .int (jI 0)])), ((u7.1 11), arI X 6 (fun _ => 0)), ((u7.1 12), .inr (4, [.ref (u7.1 13), .int (jI 0)])), ((u7.1 13), arI X 6 (fun _ => 0)), ((u7.1 14), .inr (4, [.ref (u7.1 15), .int (jI 0)])), ((u7.1 15), arI X 6 (fun _ => 0)), ((u7.1 16), .inr (4, [.ref (u7.1 17), .int (jI 0)])), ((u7.1 17), arI X 6 (fun _ => 0)), ((u7.1 18), .inr (4, [.ref (u7.1 19), .int (jI 0)])), ((u7.1 19), arI X 6 (fun _ => 0)), ((u7.1 20), .inr (4, [.ref (u7.1 21), .int (jI 0)])), ((u7.1 21), arI X 6 (fun _ => 0)), ((u7.1 22), .inr (4, [.ref (u7.1 23), .int (jI 0)])), ((u7.1 23), arI X 6 (fun _ => 0)), ((u7.1 24), .inr (4, [.ref (u7.1 25), .int (jI 0)])), ((u7.1 25), arI X 6 (fun _ => 0)), ((u7.1 26), .inr (4, [.ref (u7.1 27), .int (jI 0)])), ((u7.1 27), arI X 6 (fun _ => 0)), ((u7.1 28), .inr (4, [.ref (u7.1 29), .int (jI 0)])), ((u7.1 29), arI X 6 (fun _ => 0)), ((u7.1 30), .inr (4, [.ref (u7.1 31), .int (jI 0)])), ((u7.1 31), arI X 6 (fun _ => 0)), ((u7.1 32), .inr (4, [.ref (u7.1 33), .int (jI 0)])), ((u7.1 33), arI X 60 (fun _ => 0)), ((u7.1 34), .inr (4, [.ref (u7.1 35), .int (jI 0)])), ((u7.1 35), arI X 60 (fun _ => 0)), ((u7.1 36), .inr (6, [.ref (u7.1 37), .ref (u7.1 39), .ref (u7.1 41), .ref (u7.1 44), .int (jI 2), .int (jI 0), .int (jI (-1)), .int (jI 0)])), ((u7.1 37), .inr (4, [.ref (u7.1 38), .int (jI 0)])), ((u7.1 38), arI X 12 (fun _ => 0)), ((u7.1 39), .inr (4, [.ref (u7.1 40), .int (jI 0)])), ((u7.1 40), arI X 67 (fun _ => 0)), ((u7.1 41), .inr (3, [.int (jI 0), .ref (u7.1 42), .int (jI 0), .int (jI (-1))])), ((u7.1 42), .inr (4, [.ref (u7.1 43), .int (jI 0)])), ((u7.1 43), arI X 12 (fun _ => 0)), ((u7.1 44), .inr (3, [.int (jI 1), .ref (u7.1 45), .int (jI 0), .int (jI (-1))])), ((u7.1 45), .inr (4, [.ref (u7.1 46), .int (jI 0)])), ((u7.1 46), arI X 12 (fun _ => 0)), ((u7.1 47), .inr (1, [.ref (u7.1 48), .ref (u7.1 49), .ref (u7.1 50), .ref (u7.1 51), .int (jI 0)])), ((u7.1 48), arI X 200 (fun _ => 0)), ((u7.1 49), arI X 200 (fun _ => 0)), ((u7.1 50), arZ X 200 (fun _ => 0)), ((u7.1 51), arI X 6 (fun _ => 0)), ((u7.1 52), .inr (5, [.ref (u7.1 53), .ref (u7.1 54), .ref (u7.1 55)])), ((u7.1 53), arJ X 3 (fun _ => 0)), ((u7.1 54), arI X 120 (u7.2 1)), ((u7.1 55), arZ X 120 (fun _ => 0)), ((u7.1 56), .inr (0, [.ref (u7.1 57), .ref (u7.1 58), .ref (u7.1 59), .ref (u7.1 60), .ref (u7.1 61), .int (jI 0), .int (jI 0), .int (jI 1048576), .int (jI 4096), .int (jI 64)])), ((u7.1 57), arI X 6 (fun _ => 0)), ((u7.1 58), arI X 3 (fun _ => 0)), ((u7.1 59), arI X 3 (fun _ => 0)), ((u7.1 60), arI X 3 (fun _ => 0)), ((u7.1 61), arI X 120 (fun _ => 0)), (q8, .inr (8, [.null, .null, .null, .int (jI 0), .int (jI 0), .null, .null, .null, .null, .null, .null, .null, .int (jI 0), .int (jI 0), .int (jI 0), .int (jI 0), .int (jI 0), .int (jI 0), .int (jI 0), .null, .null, .int (jI 0), .int (jI 0), .int (jI 0), .int (jI 0), .int (jI 0), .int (jI 0), .int (jI 0), .null, .null, .null, .int (jI 0), .null, .null, .null, .null, .null, .null, .null, .null, .null, .int (jI 0), .int (jI 0), .null, .null, .null]))] H locs := hC
  refine z_call (n := 15) [] [63] [0, 1, 2, 3, 4, 5, 6, 7, 8, 9, 10, 11, 12, 13, 14, 15, 16, 17, 18, 19, 20, 21, 22, 23, 24, 25, 26, 27, 28, 29, 30, 31, 32, 33, 34, 35, 36, 37, 38, 39, 40, 41, 42, 43, 44, 45, 46, 47, 48, 49, 50, 51, 52, 53, 54, 55, 56, 57, 58, 59, 60, 61, 62] [(q7, .inr (7, [.ref (u7.1 0), .ref (u7.1 2), .ref (u7.1 4), .ref (u7.1 36), .ref (u7.1 47), .ref (u7.1 52), .ref (u7.1 56)])), ((u7.1 0), .inr (4, [.ref (u7.1 1), .int (jI 0)])), ((u7.1 1), arI X 200 (fun _ => 0)), ((u7.1 2), .inr (4, [.ref (u7.1 3), .int (jI 0)])), ((u7.1 3), arI X 67 (fun _ => 0)), ((u7.1 4), .inr (2, [.ref (u7.1 5), .ref (u7.1 6), .ref (u7.1 7), .ref (u7.1 32), .ref (u7.1 34), .int (jI 0), .int (jI (-1))])), ((u7.1 5), arI X 95 (u7.2 0)), ((u7.1 6), arQ X 6 (va_up (va_up (va_up (va_up (va_up (va_up (fun _ => none) 0 (some (u7.1 8))) 1 (some (u7.1 12))) 2 (some (u7.1 16))) 3 (some (u7.1 20))) 4 (some (u7.1 24))) 5 (some (u7.1 28)))), ((u7.1 7), arQ X 6 (va_up (va_up (va_up (va_up (va_up (va_up (fun _ => none) 0 (some (u7.1 10))) 1 (some (u7.1 14))) 2 (some (u7.1 18))) 3 (some (u7.1 22))) 4 (some (u7.1 26))) 5 (some (u7.1 30)))), ((u7.1 8), .inr (4, [.ref (u7.1 9), .int (jI 0)])), ((u7.1 9), arI X 6 (fun _ => 0)), ((u7.1 10), .inr (4, [.ref (u7.1 11), .int (jI 0)])), ((u7.1 11), arI X 6 (fun _ => 0)), ((u7.1 12), .inr (4, [.ref (u7.1 13), .int (jI 0)])), ((u7.1 13), arI X 6 (fun _ => 0)), ((u7.1 14), .inr (4, [.ref (u7.1 15), .int (jI 0)])), ((u7.1 15), arI X 6 (fun _ => 0)), ((u7.1 16), .inr (4, [.ref (u7.1 17), .int (jI 0)])), ((u7.1 17), arI X 6 (fun _ => 0)), ((u7.1 18), .inr (4, [.ref (u7.1 19), .int (jI 0)])), ((u7.1 19), arI X 6 (fun _ => 0)), ((u7.1 20), .inr (4, [.ref (u7.1 21), .int (jI 0)])), ((u7.1 21), arI X 6 (fun _ => 0)), ((u7.1 22), .inr (4, [.ref (u7.1 23), .int (jI 0)])), ((u7.1 23), arI X 6 (fun _ => 0)), ((u7.1 24), .inr (4, [.ref (u7.1 25), .int (jI 0)])), ((u7.1 25), arI X 6 (fun _ => 0)), ((u7.1 26), .inr (4, [.ref (u7.1 27), .int (jI 0)])), ((u7.1 27), arI X 6 (fun _ => 0)), ((u7.1 28), .inr (4, [.ref (u7.1 29), .int (jI 0)])), ((u7.1 29), arI X 6 (fun _ => 0)), ((u7.1 30), .inr (4, [.ref (u7.1 31), .int (jI 0)])), ((u7.1 31), arI X 6 (fun _ => 0)), ((u7.1 32), .inr (4, [.ref (u7.1 33), .int (jI 0)])), ((u7.1 33), arI X 60 (fun _ => 0)), ((u7.1 34), .inr (4, [.ref (u7.1 35), .int (jI 0)])), ((u7.1 35), arI X 60 (fun _ => 0)), ((u7.1 36), .inr (6, [.ref (u7.1 37), .ref (u7.1 39), .ref (u7.1 41), .ref (u7.1 44), .int (jI 2), .int (jI 0), .int (jI (-1)), .int (jI 0)])), ((u7.1 37), .inr (4, [.ref (u7.1 38), .int (jI 0)])), ((u7.1 38), arI X 12 (fun _ => 0)), ((u7.1 39), .inr (4, [.ref (u7.1 40), .int (jI 0)])), ((u7.1 40), arI X 67 (fun _ => 0)), ((u7.1 41), .inr (3, [.int (jI 0), .ref (u7.1 42), .int (jI 0), .int (jI (-1))])), ((u7.1 42), .inr (4, [.ref (u7.1 43), .int (jI 0)])), ((u7.1 43), arI X 12 (fun _ => 0)), ((u7.1 44), .inr (3, [.int (jI 1), .ref (u7.1 45), .int (jI 0), .int (jI (-1))])), ((u7.1 45), .inr (4, [.ref (u7.1 46), .int (jI 0)])), ((u7.1 46), arI X 12 (fun _ => 0)), ((u7.1 47), .inr (1, [.ref (u7.1 48), .ref (u7.1 49), .ref (u7.1 50), .ref (u7.1 51), .int (jI 0)])), ((u7.1 48), arI X 200 (fun _ => 0)), ((u7.1 49), arI X 200 (fun _ => 0)), ((u7.1 50), arZ X 200 (fun _ => 0)), ((u7.1 51), arI X 6 (fun _ => 0)), ((u7.1 52), .inr (5, [.ref (u7.1 53), .ref (u7.1 54), .ref (u7.1 55)])), ((u7.1 53), arJ X 3 (fun _ => 0)), ((u7.1 54), arI X 120 (u7.2 1)), ((u7.1 55), arZ X 120 (fun _ => 0)), ((u7.1 56), .inr (0, [.ref (u7.1 57), .ref (u7.1 58), .ref (u7.1 59), .ref (u7.1 60), .ref (u7.1 61), .int (jI 0), .int (jI 0), .int (jI 1048576), .int (jI 4096), .int (jI 64)])), ((u7.1 57), arI X 6 (fun _ => 0)), ((u7.1 58), arI X 3 (fun _ => 0)), ((u7.1 59), arI X 3 (fun _ => 0)), ((u7.1 60), arI X 3 (fun _ => 0)), ((u7.1 61), arI X 120 (fun _ => 0))] E hC hl.1 (k_X8_init l X q8) rfl rfl (by decide) (by decide) (by decide) (by decide) ⟨by decide, by decide⟩ Y_RL_12 rfl (rest := [.ref q8]) rfl (Nat.le_of_ble_eq_true rfl) dL_law_12 rfl (fun u8 H locs hp8 hC => ?_)
  refine W.cs (cells' := 91) (slots' := 3719) rfl rfl ?_
  refine lv_astore_n (lv' := [(2, .ref q8), (1, .ref q7), (0, .ref b)]) hx hb dL_law_15 rfl hl (by decide) rfl (fun ls hl => ?_)
  refine W.eq (g2 := F0 m 16 ls []) rfl ?_
  refine q_iconst (n := 17) E.1 dL_law_16 rfl ?_
  refine q_istore_n (n := 18) [(3, .int (jI 0)), (2, .ref q8), (1, .ref q7), (0, .ref b)] E.1 hl dL_law_17 rfl (by decide) rfl rfl (fun ls hl => ?_)
  have hC : Cw X (fun q : Nat => s.heap.size ≤ q) s [(q7, .inr (7, [.ref (u7.1 0), .ref (u7.1 2), .ref (u7.1 4), .ref (u7.1 36), .ref (u7.1 47), .ref (u7.1 52), .ref (u7.1 56)])), ((u7.1 0), .inr (4, [.ref (u7.1 1), .int (jI 0)])), ((u7.1 1), arI X 200 (fun _ => 0)), ((u7.1 2), .inr (4, [.ref (u7.1 3), .int (jI 0)])), ((u7.1 3), arI X 67 (fun _ => 0)), ((u7.1 4), .inr (2, [.ref (u7.1 5), .ref (u7.1 6), .ref (u7.1 7), .ref (u7.1 32), .ref (u7.1 34), .int (jI 0), .int (jI (-1))])), ((u7.1 5), arI X 95 (u7.2 0)), ((u7.1 6), arQ X 6 (va_up (va_up (va_up (va_up (va_up (va_up (fun _ => none) 0 (some (u7.1 8))) 1 (some (u7.1 12))) 2 (some (u7.1 16))) 3 (some (u7.1 20))) 4 (some (u7.1 24))) 5 (some (u7.1 28)))), ((u7.1 7), arQ X 6 (va_up (va_up (va_up (va_up (va_up (va_up (fun _ => none) 0 (some (u7.1 10))) 1 (some (u7.1 14))) 2 (some (u7.1 18))) 3 (some (u7.1 22))) 4 (some (u7.1 26))) 5 (some (u7.1 30)))), ((u7.1 8), .inr (4, [.ref (u7.1 9), .int (jI 0)])), ((u7.1 9), arI X 6 (fun _ => 0)), ((u7.1 10), .inr (4, [.ref (u7.1 11), .int (jI 0)])), ((u7.1 11), arI X 6 (fun _ => 0)), ((u7.1 12), .inr (4, [.ref (u7.1 13), .int (jI 0)])), ((u7.1 13), arI X 6 (fun _ => 0)), ((u7.1 14), .inr (4, [.ref (u7.1 15), .int (jI 0)])), ((u7.1 15), arI X 6 (fun _ => 0)), ((u7.1 16), .inr (4, [.ref (u7.1 17), .int (jI 0)])), ((u7.1 17), arI X 6 (fun _ => 0)), ((u7.1 18), .inr (4, [.ref (u7.1 19), .int (jI 0)])), ((u7.1 19), arI X 6 (fun _ => 0)), ((u7.1 20), .inr (4, [.ref (u7.1 21), .int (jI 0)])), ((u7.1 21), arI X 6 (fun _ => 0)), ((u7.1 22), .inr (4, [.ref (u7.1 23), .int (jI 0)])), ((u7.1 23), arI X 6 (fun _ => 0)), ((u7.1 24), .inr (4, [.ref (u7.1 25), .int (jI 0)])), ((u7.1 25), arI X 6 (fun _ => 0)), ((u7.1 26), .inr (4, [.ref (u7.1 27), .int (jI 0)])), ((u7.1 27), arI X 6 (fun _ => 0)), ((u7.1 28), .inr (4, [.ref (u7.1 29), .int (jI 0)])), ((u7.1 29), arI X 6 (fun _ => 0)), ((u7.1 30), .inr (4, [.ref (u7.1 31), .int (jI 0)])), ((u7.1 31), arI X 6 (fun _ => 0)), ((u7.1 32), .inr (4, [.ref (u7.1 33), .int (jI 0)])), ((u7.1 33), arI X 60 (fun _ => 0)), ((u7.1 34), .inr (4, [.ref (u7.1 35), .int (jI 0)])), ((u7.1 35), arI X 60 (fun _ => 0)), ((u7.1 36), .inr (6, [.ref (u7.1 37), .ref (u7.1 39), .ref (u7.1 41), .ref (u7.1 44), .int (jI 2), .int (jI 0), .int (jI (-1)), .int (jI 0)])), ((u7.1 37), .inr (4, [.ref (u7.1 38), .int (jI 0)])), ((u7.1 38), arI X 12 (fun _ => 0)), ((u7.1 39), .inr (4, [.ref (u7.1 40), .int (jI 0)])), ((u7.1 40), arI X 67 (fun _ => 0)), ((u7.1 41), .inr (3, [.int (jI 0), .ref (u7.1 42), .int (jI 0), .int (jI (-1))])), ((u7.1 42), .inr (4, [.ref (u7.1 43), .int (jI 0)])), ((u7.1 43), arI X 12 (fun _ => 0)), ((u7.1 44), .inr (3, [.int (jI 1), .ref (u7.1 45), .int (jI 0), .int (jI (-1))])), ((u7.1 45), .inr (4, [.ref (u7.1 46), .int (jI 0)])), ((u7.1 46), arI X 12 (fun _ => 0)), ((u7.1 47), .inr (1, [.ref (u7.1 48), .ref (u7.1 49), .ref (u7.1 50), .ref (u7.1 51), .int (jI 0)])), ((u7.1 48), arI X 200 (fun _ => 0)), ((u7.1 49), arI X 200 (fun _ => 0)), ((u7.1 50), arZ X 200 (fun _ => 0)), ((u7.1 51), arI X 6 (fun _ => 0)), ((u7.1 52), .inr (5, [.ref (u7.1 53), .ref (u7.1 54), .ref (u7.1 55)])), ((u7.1 53), arJ X 3 (fun _ => 0)), ((u7.1 54), arI X 120 (u7.2 1)), ((u7.1 55), arZ X 120 (fun _ => 0)), ((u7.1 56), .inr (0, [.ref (u7.1 57), .ref (u7.1 58), .ref (u7.1 59), .ref (u7.1 60), .ref (u7.1 61), .int (jI 0), .int (jI 0), .int (jI 1048576), .int (jI 4096), .int (jI 64)])), ((u7.1 57), arI X 6 (fun _ => 0)), ((u7.1 58), arI X 3 (fun _ => 0)), ((u7.1 59), arI X 3 (fun _ => 0)), ((u7.1 60), arI X 3 (fun _ => 0)), ((u7.1 61), arI X 120 (fun _ => 0)), (q8, .inr (8, [.ref (u8.1 0), .ref (u8.1 1), .ref (u8.1 2), .int (jI 0), .int (jI 0), .ref (u8.1 3), .ref (u8.1 4), .ref (u8.1 5), .ref (u8.1 6), .ref (u8.1 7), .ref (u8.1 8), .ref (u8.1 9), .int (jI 0), .int (jI 0), .int (jI 0), .int (jI 0), .int (jI 0), .int (jI (-1)), .int (jI 2), .ref (u8.1 10), .ref (u8.1 11), .int (jI 0), .int (jI 0), .int (jI 0), .int (jI 0), .int (jI (-1)), .int (jI 0), .int (jI 0), .ref (u8.1 12), .ref (u8.1 13), .ref (u8.1 14), .int (jI 0), .ref (u8.1 15), .ref (u8.1 16), .ref (u8.1 17), .ref (u8.1 18), .ref (u8.1 19), .ref (u8.1 20), .ref (u8.1 21), .ref (u8.1 22), .ref (u8.1 23), .int (jI 0), .int (jI 0), .ref (u8.1 24), .ref (u8.1 25), .ref (u8.1 26)])), ((u8.1 0), arI X 127 (u8.2 0)), ((u8.1 1), arI X 200 (fun _ => 0)), ((u8.1 2), arI X 200 (fun _ => 0)), ((u8.1 3), arI X 6 (fun _ => 0)), ((u8.1 4), arI X 6 (fun _ => 0)), ((u8.1 5), arI X 36 (fun _ => 0)), ((u8.1 6), arI X 36 (fun _ => 0)), ((u8.1 7), arI X 61 (fun _ => 0)), ((u8.1 8), arI X 61 (fun _ => 0)), ((u8.1 9), arI X 61 (fun _ => 0)), ((u8.1 10), arI X 12 (fun _ => 0)), ((u8.1 11), arI X 130 (fun _ => 0)), ((u8.1 12), arJ X 3 (fun _ => 0)), ((u8.1 13), arI X 120 (u8.2 1)), ((u8.1 14), arZ X 120 (fun _ => 0)), ((u8.1 15), arI X 200 (fun _ => 0)), ((u8.1 16), arI X 200 (fun _ => 0)), ((u8.1 17), arZ X 200 (fun _ => 0)), ((u8.1 18), arI X 6 (fun _ => 0)), ((u8.1 19), arI X 3 (fun _ => 0)), ((u8.1 20), arI X 6 (fun _ => 0)), ((u8.1 21), arI X 3 (fun _ => 0)), ((u8.1 22), arI X 6 (fun _ => 0)), ((u8.1 23), arI X 3 (fun _ => 0)), ((u8.1 24), arI X 3 (fun _ => 0)), ((u8.1 25), arI X 3 (fun _ => 0)), ((u8.1 26), arI X 120 (fun _ => 0))] H locs := hC
  obtain ⟨Y, hYe⟩ : ∃ Y : Cx, Y = (xD X, xC X, td, adrOf q7 q8 u7 u8) := ⟨_, rfl⟩
  have hYD : xD Y = xD X := by rw [hYe]; rfl
  have hYC : xC Y = xC X := by rw [hYe]; rfl
  have hYA : xA Y = adrOf q7 q8 u7 u8 := by rw [hYe]; rfl
  have hYT : xT Y = td := by rw [hYe]; rfl
  have hP := start_pic hYD hYC hYA hC.1
  have hIj := start_inj hYA hC.2.1
  have hYt : xtys Y = xtys X := by unfold xtys; rw [hYC]
  have hKx : Kx Y (fun q : Nat => s.heap.size ≤ q) s := ⟨by rw [hYD, hYt]; exact hK, nst_start hts, by rw [hYT]; exact hZ, by rw [hYT]; exact hT⟩
  have E2 : En Y (fun q : Nat => s.heap.size ≤ q) 100 p room_1 s m #[Value.ref b] meth c cL_law RL 4 ret 91 3719 := ⟨E.1, hKx, hIj, ⟨hr, hlocks⟩, by decide, by decide, by decide, by decide⟩
  obtain ⟨n, hn⟩ := law_pure L (fun j => (xs j).toInt) (u7.2 0) (u7.2 1) (u8.2 0) (u8.2 1) hL (fun j => Rg_toInt (xs j)) hp7.1 hp7.2 hp8.1 hp8.2
  have hl : lv_has ls 4 [(0, .ref b), (1, .ref (xA Y 42)), (2, .ref (xA Y 62)), (3, .int (jI 0))] := by
    rw [hYA]
    exact lv_sub hl [3, 2, 1, 0] rfl
  exact v_L_law_18 (fun _ => rfl) (by omega) hX hbl ⟨by decide, by decide⟩ E2 n 0 _ H locs ls hn ⟨hP, hC.2.2⟩ hl
