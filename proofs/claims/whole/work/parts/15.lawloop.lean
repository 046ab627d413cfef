/-! the law: its loop -/
def R_law : String := "StickerPressLaw"
def lw_P (b : Addr) (xs : List Int32) (args : Array Value) (s : State) : Prop := args = #[.ref b] ∧ s.IntsAt b xs ∧ xs.length ≤ 3072 ∧ (Jvm.Cond.and given_1 narrow_1).before args s = true
def lw_Q (_ : Array Value) (s : State) (o : Outcome) (t : State) : Prop := o = .returned (some (.int 1)) ∧ Framed s o t [] 600000 7302250
def lw_Z (below : List Frame) (a : Array Value) (s : State) : State → Prop := fun t => ∃ o, t.status = .running ∧ Ended t below o ∧ lw_Q a s o t
/-- the law's own end, with 1 on the stack, nothing written that was there before, its room as the claim has it -/
theorem lw_ret {p : Program} {l : Launch} {e : Env} {s : State} {m : MethodId} {below : List Frame} {meth : Method} {c : Code} {b : Nat} (hx : p.tables.exec = Jvm.exec) (hb : c.code = code) (hr : meth.sig.returnType = ret) (hlocks : meth.locks = false) {pc : Nat} {H : Heap} {ls : Array Slot} (hdg : decode code pc = .ok (.ireturn, 1)) : W p l e room_1 s m #[Value.ref b] below meth c H [] 600000 7302250 (lw_Z below #[Value.ref b] s) (F0 m pc ls [.int 1]) := by
  intro T hT X
  obtain ⟨fs, hret, hrun, hended, hW, hframe⟩ := X.leave (v := some (.int 1)) (hlocks := hlocks) (fun h => by rw [hr] at h; cases h)
  have hmeth' : T.vm.method? m = some meth := X.method'
  refine ⟨T.setFrames fs, ?_, .returned (some (.int 1)), hrun, hended, rfl, ⟨_, rfl⟩, hW, hframe⟩
  jvm_step X.here [X.here.top, hx, hb, hdg, hmeth', hr, ret, narrow_b1]
  (try refine ⟨rfl, ?_⟩); (try refine ⟨rfl, ?_⟩)
  first | (intro acts; rw [hret _ acts rfl rfl rfl]) | rw [hret _ _ rfl rfl rfl]
  exact Steps.refl _
/-- what holds at the law's entry: the machine, the code, the tables' words (any of lw_tbl by 'hts w (by decide +kernel)'), the script of L ints xs at the cell b, what the Statement gives of the start (any of its parts by flat_of_before) -/
def lw_At (p : Program) (s : State) (m : MethodId) (meth : Method) (c : Code) (b L : Nat) (xs : Nat → Int32) : Prop :=
  p.tables.exec = Jvm.exec ∧ c.code = code ∧ meth.sig.returnType = ret ∧ c.maxLocals = 4 ∧ s.vm.findClass R_law = some m.cls ∧ (∀ w ∈ lw_tbl, w.before #[Value.ref b] s = true) ∧ va_X b L xs s s.heap ∧ b < s.heap.size ∧ meth.locks = false ∧ (Jvm.Cond.and given_1 narrow_1).before #[Value.ref b] s = true
section QL
variable {X : Cx} {d : Nat} {p : Program} {l : Launch} {e : Env} {s : State} {m : MethodId} {below : List Frame} {meth : Method} {c : Code} {own : String} {nL : Nat} {H : Heap} {locs : List Loc} {cells slots : Nat} {Q : State → Prop} {pc n : Nat} {ls : Array Slot} {rest : List Value} {M : Mem} {b L : Nat} {xs : Nat → Int32} {R : Room} {cc : ByteArray} {ret2 : Option FieldType}
theorem q_sld {i : Int} {ys : Nat → Int} (E : En X (fun q => s.heap.size ≤ q) d p R s m #[Value.ref b] meth c cc own nL ret2 cells slots) (hW : Wd X (fun q => s.heap.size ≤ q) s M H locs) (hX : va_X b L xs s s.heap) (hbl : b < s.heap.size) (hi : 0 ≤ i ∧ i < (L : Int)) (hL : L < 2147483648) (hxs : ∀ j, ys j = (xs j).toInt) (hd : decode cc pc = .ok (.iaload, 1)) (hn : pc + 1 = n) (kk : W p l e R s m #[Value.ref b] below meth c H locs cells slots Q (F0 m n ls (.int (jI (ys i.toNat)) :: rest))) : W p l e R s m #[Value.ref b] below meth c H locs cells slots Q (F0 m pc ls (.int (jI i) :: .ref b :: rest)) := by
  subst hn
  obtain ⟨h1, h2⟩ := jI_ix hi hL
  exact va_sld E.1.1 E.1.2.1 hX hbl (Nat.not_le.mpr hbl) hW.2 h1 hd (by rw [h2]; rw [hxs, jI_of] at kk; exact kk)
theorem q_slen (E : En X (fun q => s.heap.size ≤ q) d p R s m #[Value.ref b] meth c cc own nL ret2 cells slots) (hW : Wd X (fun q => s.heap.size ≤ q) s M H locs) (hX : va_X b L xs s s.heap) (hbl : b < s.heap.size) (hd : decode cc pc = .ok (.arraylength, 1)) (hn : pc + 1 = n) (kk : W p l e R s m #[Value.ref b] below meth c H locs cells slots Q (F0 m n ls (.int (jI (L : Int)) :: rest))) : W p l e R s m #[Value.ref b] below meth c H locs cells slots Q (F0 m pc ls (.ref b :: rest)) := by
  subst hn
  exact va_slen E.1.1 E.1.2.1 hX hbl (Nat.not_le.mpr hbl) hW.2 hd kk
theorem q_lret (E : En X (fun q => s.heap.size ≤ q) d p room_1 s m #[Value.ref b] meth c cL_law own nL ret cells slots) (hW : Wd X (fun q => s.heap.size ≤ q) s M H locs) (hcs : cells ≤ 600000 ∧ slots ≤ 7302250) (hd : decode cL_law pc = .ok (.ireturn, 1)) : W p l e room_1 s m #[Value.ref b] below meth c H locs cells slots (lw_Z below #[Value.ref b] s) (F0 m pc ls [.int (jI 1)]) := by
  refine va_forget (fun q hq => hW.2.2.2 q hq) ?_
  refine W.widen (k := 600000) (n := 7302250) hcs.1 hcs.2 ?_
  exact lw_ret E.1.1 E.1.2.1 E.2.2.2.1.1 E.2.2.2.1.2 hd
end QL
section
variable {X : Cx} {p : Program} {l : Launch} {e : Env} {s : State} {m : MethodId} {below : List Frame} {meth : Method} {c : Code}
theorem Y_RL_101 : YV RL 101 RX8 yX8_spoil cX8_spoil 4 (some .int) 2 := ⟨w1024, w1021, w1022, w1023, w52, by decide +kernel, by decide⟩
theorem Y_RL_102 : YV RL 102 RX7 yX7_label cX7_label 3 (some .int) 2 := ⟨w704, w701, w702, w703, w43, by decide +kernel, by decide⟩
theorem Y_RL_105 : YV RL 105 RX8 yX8_label cX8_label 3 (some .int) 2 := ⟨w1029, w1026, w1027, w1028, w52, by decide +kernel, by decide⟩
theorem Y_RL_13 : YV RL 13 RX7 yX7_wide cX7_wide 3 (some .boolean) 2 := ⟨w271, w268, w269, w270, w43, by decide +kernel, by decide⟩
theorem Y_RL_17 : YV RL 17 RX8 yX8_wide cX8_wide 3 (some .boolean) 2 := ⟨w857, w854, w855, w856, w52, by decide +kernel, by decide⟩
theorem Y_RL_18 : YV RL 18 RX7 yX7_feed cX7_feed 6 (some .int) 5 := ⟨w279, w276, w277, w278, w43, by decide +kernel, by decide⟩
theorem Y_RL_22 : YV RL 22 RX8 yX8_feed cX8_feed 8 (some .int) 5 := ⟨w867, w864, w865, w866, w52, by decide +kernel, by decide⟩
theorem Y_RL_23 : YV RL 23 RX7 yX7_end cX7_end 2 (some .boolean) 1 := ⟨w295, w292, w293, w294, w43, by decide +kernel, by decide⟩
theorem Y_RL_27 : YV RL 27 RX8 yX8_end cX8_end 2 (some .boolean) 1 := ⟨w871, w868, w869, w870, w52, by decide +kernel, by decide⟩
theorem Y_RL_28 : YV RL 28 RX7 yX7_shorten cX7_shorten 4 (some .boolean) 2 := ⟨w303, w300, w301, w302, w43, by decide +kernel, by decide⟩
theorem Y_RL_31 : YV RL 31 RX8 yX8_shorten cX8_shorten 5 (some .boolean) 2 := ⟨w875, w872, w873, w874, w52, by decide +kernel, by decide⟩
theorem Y_RL_32 : YV RL 32 RX7 yX7_fit cX7_fit 3 (some .int) 1 := ⟨w336, w333, w334, w335, w43, by decide +kernel, by decide⟩
theorem Y_RL_36 : YV RL 36 RX8 yX8_fit cX8_fit 6 (some .int) 1 := ⟨w883, w880, w881, w882, w52, by decide +kernel, by decide⟩
theorem Y_RL_37 : YV RL 37 RX7 yX7_used cX7_used 1 (some .int) 0 := ⟨w378, w375, w376, w377, w43, by decide +kernel, by decide⟩
theorem Y_RL_41 : YV RL 41 RX8 yX8_used cX8_used 1 (some .int) 0 := ⟨w910, w907, w908, w909, w52, by decide +kernel, by decide⟩
theorem Y_RL_42 : YV RL 42 RX7 yX7_out cX7_out 2 (some .int) 1 := ⟨w386, w383, w384, w385, w43, by decide +kernel, by decide⟩
theorem Y_RL_45 : YV RL 45 RX8 yX8_out cX8_out 2 (some .int) 1 := ⟨w914, w911, w912, w913, w52, by decide +kernel, by decide⟩
theorem Y_RL_46 : YV RL 46 RX7 yX7_ratio cX7_ratio 2 (some .boolean) 1 := ⟨w391, w388, w389, w390, w43, by decide +kernel, by decide⟩
theorem Y_RL_49 : YV RL 49 RX8 yX8_ratio cX8_ratio 2 (some .boolean) 1 := ⟨w922, w919, w920, w921, w52, by decide +kernel, by decide⟩
theorem Y_RL_50 : YV RL 50 RX7 yX7_bars cX7_bars 2 (some .int) 0 := ⟨w399, w396, w397, w398, w43, by decide +kernel, by decide⟩
theorem Y_RL_53 : YV RL 53 RX8 yX8_bars cX8_bars 5 (some .int) 0 := ⟨w926, w923, w924, w925, w52, by decide +kernel, by decide⟩
theorem Y_RL_54 : YV RL 54 RX7 yX7_read cX7_read 2 (some .int) 0 := ⟨w428, w425, w426, w427, w43, by decide +kernel, by decide⟩
theorem Y_RL_57 : YV RL 57 RX8 yX8_read cX8_read 4 (some .int) 0 := ⟨w941, w938, w939, w940, w52, by decide +kernel, by decide⟩
theorem Y_RL_58 : YV RL 58 RX7 yX7_fault cX7_fault 2 (some .int) 1 := ⟨w481, w478, w479, w480, w43, by decide +kernel, by decide⟩
theorem Y_RL_61 : YV RL 61 RX8 yX8_fault cX8_fault 2 (some .int) 1 := ⟨w957, w954, w955, w956, w52, by decide +kernel, by decide⟩
theorem Y_RL_62 : YV RL 62 RX7 yX7_take cX7_take 1 (some .int) 0 := ⟨w489, w486, w487, w488, w43, by decide +kernel, by decide⟩
theorem Y_RL_65 : YV RL 65 RX8 yX8_take cX8_take 2 (some .int) 0 := ⟨w918, w915, w916, w917, w52, by decide +kernel, by decide⟩
theorem Y_RL_68 : YV RL 68 RX7 yX7_sheet cX7_sheet 4 (some .boolean) 2 := ⟨w494, w491, w492, w493, w43, by decide +kernel, by decide⟩
theorem Y_RL_72 : YV RL 72 RX8 yX8_sheet cX8_sheet 5 (some .boolean) 2 := ⟨w961, w958, w959, w960, w52, by decide +kernel, by decide⟩
theorem Y_RL_73 : YV RL 73 RX7 yX7_come cX7_come 4 (some .int) 2 := ⟨w509, w506, w507, w508, w43, by decide +kernel, by decide⟩
theorem Y_RL_77 : YV RL 77 RX8 yX8_come cX8_come 5 (some .int) 2 := ⟨w968, w965, w966, w967, w52, by decide +kernel, by decide⟩
theorem Y_RL_78 : YV RL 78 RX7 yX7_look cX7_look 2 (some .int) 1 := ⟨w528, w525, w526, w527, w43, by decide +kernel, by decide⟩
theorem Y_RL_81 : YV RL 81 RX8 yX8_look cX8_look 4 (some .int) 1 := ⟨w976, w973, w974, w975, w52, by decide +kernel, by decide⟩
theorem Y_RL_82 : YV RL 82 RX7 yX7_heap cX7_heap 3 (some .int) 2 := ⟨w634, w631, w632, w633, w43, by decide +kernel, by decide⟩
theorem Y_RL_85 : YV RL 85 RX8 yX8_heap cX8_heap 3 (some .int) 2 := ⟨w1000, w997, w998, w999, w52, by decide +kernel, by decide⟩
theorem Y_RL_86 : YV RL 86 RX7 yX7_plan cX7_plan 3 (some .int) 2 := ⟨w648, w645, w646, w647, w43, by decide +kernel, by decide⟩
theorem Y_RL_89 : YV RL 89 RX8 yX8_plan cX8_plan 3 (some .int) 2 := ⟨w1004, w1001, w1002, w1003, w52, by decide +kernel, by decide⟩
theorem Y_RL_90 : YV RL 90 RX7 yX7_print cX7_print 4 (some .int) 1 := ⟨w661, w658, w659, w660, w43, by decide +kernel, by decide⟩
theorem Y_RL_93 : YV RL 93 RX8 yX8_print cX8_print 5 (some .int) 1 := ⟨w1015, w1012, w1013, w1014, w52, by decide +kernel, by decide⟩
theorem Y_RL_94 : YV RL 94 RX7 yX7_printed cX7_printed 3 (some .int) 2 := ⟨w679, w676, w677, w678, w43, by decide +kernel, by decide⟩
theorem Y_RL_97 : YV RL 97 RX8 yX8_printed cX8_printed 3 (some .int) 2 := ⟨w1020, w1017, w1018, w1019, w52, by decide +kernel, by decide⟩
theorem Y_RL_98 : YV RL 98 RX7 yX7_spoil cX7_spoil 5 (some .int) 2 := ⟨w687, w684, w685, w686, w43, by decide +kernel, by decide⟩
def wp_L_law_132 (L : Nat) (xs : Nat → Int) (k18 : Int → Mem → Prop) (x3 : Int) (M : Mem) : Prop := (0 ≤ (x3 + 1) ∧ (x3 + 1) < (L : Int)) ∧ (0 ≤ (x3 + 2) ∧ (x3 + 2) < (L : Int)) ∧ wp_X7_wide (xs (x3 + 1).toNat) (xs (x3 + 2).toNat) M (fun r4 M3 => (0 ≤ (x3 + 1) ∧ (x3 + 1) < (L : Int)) ∧ (0 ≤ (x3 + 2) ∧ (x3 + 2) < (L : Int)) ∧ wp_X8_wide (xs (x3 + 1).toNat) (xs (x3 + 2).toNat) M3 (fun r8 M7 => (Rg r4 ∧ Rg r8 ∧ (r4 = r8 → k18 (x3 + 6) M7) ∧ (¬ (r4 = r8) → False))))
set_option maxHeartbeats 4000000 in
set_option maxRecDepth 100000 in
theorem v_L_law_132 {b L : Nat} {xs : Nat → Int} {xs32 : Nat → Int32} (hxs : ∀ j, xs j = (xs32 j).toInt) (hL : L < 2147483648) (hX : va_X b L xs32 s s.heap) (hbl : b < s.heap.size) {cells slots : Nat} (hcs : cells ≤ 600000 ∧ slots ≤ 7302250) (E : En X (fun q => s.heap.size ≤ q) 100 p room_1 s m #[Value.ref b] meth c cL_law RL 4 ret cells slots) (k18 : Int → Mem → Prop) (Hk18 : ∀ (x3 : Int) (M : Mem) (H : Heap) (locs : List Loc) (ls : Array Slot), k18 x3 M → Wd X (fun q => s.heap.size ≤ q) s M H locs → lv_has ls 4 [(0, .ref b), (1, .ref (xA X 42)), (2, .ref (xA X 62)), (3, .int (jI x3))] → W p l e room_1 s m #[Value.ref b] below meth c H locs cells slots (lw_Z below #[Value.ref b] s) (F0 m 18 ls [])) : ∀ (x3 : Int) (M : Mem) (H : Heap) (locs : List Loc) (ls : Array Slot), wp_L_law_132 L xs k18 x3 M → Wd X (fun q => s.heap.size ≤ q) s M H locs → lv_has ls 4 [(0, .ref b), (1, .ref (xA X 42)), (2, .ref (xA X 62)), (3, .int (jI x3))] → W p l e room_1 s m #[Value.ref b] below meth c H locs cells slots (lw_Z below #[Value.ref b] s) (F0 m 132 ls []) := by
  intro x3 M H locs ls h hW hl
  unfold wp_L_law_132 at h
  refine q_aload_n (n := 133) (q := 1) E.1 hl rfl dL_law_132 rfl rfl ?_
  refine q_aload_n (n := 134) (q := 0) E.1 hl rfl dL_law_133 rfl rfl ?_
  refine q_iload_n (n := 135) (q := 3) E.1 hl rfl dL_law_134 rfl rfl ?_
  refine q_iconst (n := 136) E.1 dL_law_135 rfl ?_
  refine q_iadd (n := 137) E.1 dL_law_136 rfl ?_
  obtain ⟨g1, h⟩ := h
  refine q_sld (n := 138) E hW hX hbl g1 hL hxs dL_law_137 rfl ?_
  refine q_aload_n (n := 139) (q := 0) E.1 hl rfl dL_law_138 rfl rfl ?_
  refine q_iload_n (n := 140) (q := 3) E.1 hl rfl dL_law_139 rfl rfl ?_
  refine q_iconst (n := 141) E.1 dL_law_140 rfl ?_
  refine q_iadd (n := 142) E.1 dL_law_141 rfl ?_
  obtain ⟨g2, h⟩ := h
  refine q_sld (n := 143) E hW hX hbl g2 hL hxs dL_law_142 rfl ?_
  refine q_callVi (n := 146) (fs := (fs42 X)) [.int (jI (xs (x3 + 1).toNat)), .int (jI (xs (x3 + 2).toNat))] E hW hl.1 (by decide) (fun _ => rfl) K7 (c_X7_wide l X E.2.2.1.1 (xs (x3 + 1).toNat) (xs (x3 + 2).toNat)  _ _ h) (by decide) Y_RL_13 rfl (rest := []) rfl (Nat.le_of_ble_eq_true rfl) dL_law_143 rfl (fun r4 M3 H locs h hW => ?_)
  refine q_aload_n (n := 147) (q := 2) E.1 hl rfl dL_law_146 rfl rfl ?_
  refine q_aload_n (n := 148) (q := 0) E.1 hl rfl dL_law_147 rfl rfl ?_
  refine q_iload_n (n := 149) (q := 3) E.1 hl rfl dL_law_148 rfl rfl ?_
  refine q_iconst (n := 150) E.1 dL_law_149 rfl ?_
  refine q_iadd (n := 151) E.1 dL_law_150 rfl ?_
  obtain ⟨g5, h⟩ := h
  refine q_sld (n := 152) E hW hX hbl g5 hL hxs dL_law_151 rfl ?_
  refine q_aload_n (n := 153) (q := 0) E.1 hl rfl dL_law_152 rfl rfl ?_
  refine q_iload_n (n := 154) (q := 3) E.1 hl rfl dL_law_153 rfl rfl ?_
  refine q_iconst (n := 155) E.1 dL_law_154 rfl ?_
  refine q_iadd (n := 156) E.1 dL_law_155 rfl ?_
  obtain ⟨g6, h⟩ := h
  refine q_sld (n := 157) E hW hX hbl g6 hL hxs dL_law_156 rfl ?_
  refine q_callVi (n := 160) (fs := (fs62 X)) [.int (jI (xs (x3 + 1).toNat)), .int (jI (xs (x3 + 2).toNat))] E hW hl.1 (by decide) (fun _ => rfl) K8 (c_X8_wide l X E.2.2.1.1 (xs (x3 + 1).toNat) (xs (x3 + 2).toNat)  _ _ h) (by decide) Y_RL_17 rfl (rest := [.int (jI r4)]) rfl (Nat.le_of_ble_eq_true rfl) dL_law_157 rfl (fun r8 M7 H locs h hW => ?_)
  obtain ⟨g9, g10, h11, h12⟩ := h
  refine q_icmp_eq (t := 735) (n := 163) E.1 g9 g10 dL_law_160 (by decide) rfl (fun c13 => ?_) (fun c13 => ?_)
  · have h := h11 c13
    refine q_iinc (n := 738) (q := 3) [(3, .int (jI (x3 + 6))), (0, .ref b), (1, .ref (xA X 42)), (2, .ref (xA X 62))] E.1 hl rfl dL_law_735 (by decide) rfl rfl (fun ls hl => ?_)
    refine q_goto (n := 18) E.1 dL_law_738 (by decide) ?_
    exact Hk18 _ _ _ _ _ h hW (lv_sub hl [1, 2, 3, 0] rfl)
  · have h := h12 c13
    refine q_iconst (n := 164) E.1 dL_law_163 rfl ?_
    exact h.elim
def wp_L_law_165 (L : Nat) (xs : Nat → Int) (k18 : Int → Mem → Prop) (x3 : Int) (M : Mem) : Prop := (0 ≤ (x3 + 1) ∧ (x3 + 1) < (L : Int)) ∧ (0 ≤ (x3 + 2) ∧ (x3 + 2) < (L : Int)) ∧ (0 ≤ (x3 + 3) ∧ (x3 + 3) < (L : Int)) ∧ (0 ≤ (x3 + 4) ∧ (x3 + 4) < (L : Int)) ∧ (0 ≤ (x3 + 5) ∧ (x3 + 5) < (L : Int)) ∧ wp_X7_feed (xs (x3 + 1).toNat) (xs (x3 + 2).toNat) (xs (x3 + 3).toNat) (xs (x3 + 4).toNat) (xs (x3 + 5).toNat) M (fun r7 M6 => (0 ≤ (x3 + 1) ∧ (x3 + 1) < (L : Int)) ∧ (0 ≤ (x3 + 2) ∧ (x3 + 2) < (L : Int)) ∧ (0 ≤ (x3 + 3) ∧ (x3 + 3) < (L : Int)) ∧ (0 ≤ (x3 + 4) ∧ (x3 + 4) < (L : Int)) ∧ (0 ≤ (x3 + 5) ∧ (x3 + 5) < (L : Int)) ∧ wp_X8_feed (xs (x3 + 1).toNat) (xs (x3 + 2).toNat) (xs (x3 + 3).toNat) (xs (x3 + 4).toNat) (xs (x3 + 5).toNat) M6 (fun r14 M13 => (Rg r7 ∧ Rg r14 ∧ (r7 = r14 → k18 (x3 + 6) M13) ∧ (¬ (r7 = r14) → False))))
set_option maxHeartbeats 4000000 in
set_option maxRecDepth 100000 in
theorem v_L_law_165 {b L : Nat} {xs : Nat → Int} {xs32 : Nat → Int32} (hxs : ∀ j, xs j = (xs32 j).toInt) (hL : L < 2147483648) (hX : va_X b L xs32 s s.heap) (hbl : b < s.heap.size) {cells slots : Nat} (hcs : cells ≤ 600000 ∧ slots ≤ 7302250) (E : En X (fun q => s.heap.size ≤ q) 100 p room_1 s m #[Value.ref b] meth c cL_law RL 4 ret cells slots) (k18 : Int → Mem → Prop) (Hk18 : ∀ (x3 : Int) (M : Mem) (H : Heap) (locs : List Loc) (ls : Array Slot), k18 x3 M → Wd X (fun q => s.heap.size ≤ q) s M H locs → lv_has ls 4 [(0, .ref b), (1, .ref (xA X 42)), (2, .ref (xA X 62)), (3, .int (jI x3))] → W p l e room_1 s m #[Value.ref b] below meth c H locs cells slots (lw_Z below #[Value.ref b] s) (F0 m 18 ls [])) : ∀ (x3 : Int) (M : Mem) (H : Heap) (locs : List Loc) (ls : Array Slot), wp_L_law_165 L xs k18 x3 M → Wd X (fun q => s.heap.size ≤ q) s M H locs → lv_has ls 4 [(0, .ref b), (1, .ref (xA X 42)), (2, .ref (xA X 62)), (3, .int (jI x3))] → W p l e room_1 s m #[Value.ref b] below meth c H locs cells slots (lw_Z below #[Value.ref b] s) (F0 m 165 ls []) := by
  intro x3 M H locs ls h hW hl
  unfold wp_L_law_165 at h
  refine q_aload_n (n := 166) (q := 1) E.1 hl rfl dL_law_165 rfl rfl ?_
  refine q_aload_n (n := 167) (q := 0) E.1 hl rfl dL_law_166 rfl rfl ?_
  refine q_iload_n (n := 168) (q := 3) E.1 hl rfl dL_law_167 rfl rfl ?_
  refine q_iconst (n := 169) E.1 dL_law_168 rfl ?_
  refine q_iadd (n := 170) E.1 dL_law_169 rfl ?_
  obtain ⟨g1, h⟩ := h
  refine q_sld (n := 171) E hW hX hbl g1 hL hxs dL_law_170 rfl ?_
  refine q_aload_n (n := 172) (q := 0) E.1 hl rfl dL_law_171 rfl rfl ?_
  refine q_iload_n (n := 173) (q := 3) E.1 hl rfl dL_law_172 rfl rfl ?_
  refine q_iconst (n := 174) E.1 dL_law_173 rfl ?_
  refine q_iadd (n := 175) E.1 dL_law_174 rfl ?_
  obtain ⟨g2, h⟩ := h
  refine q_sld (n := 176) E hW hX hbl g2 hL hxs dL_law_175 rfl ?_
  refine q_aload_n (n := 177) (q := 0) E.1 hl rfl dL_law_176 rfl rfl ?_
  refine q_iload_n (n := 178) (q := 3) E.1 hl rfl dL_law_177 rfl rfl ?_
  refine q_iconst (n := 179) E.1 dL_law_178 rfl ?_
  refine q_iadd (n := 180) E.1 dL_law_179 rfl ?_
  obtain ⟨g3, h⟩ := h
  refine q_sld (n := 181) E hW hX hbl g3 hL hxs dL_law_180 rfl ?_
  refine q_aload_n (n := 182) (q := 0) E.1 hl rfl dL_law_181 rfl rfl ?_
  refine q_iload_n (n := 183) (q := 3) E.1 hl rfl dL_law_182 rfl rfl ?_
  refine q_iconst (n := 184) E.1 dL_law_183 rfl ?_
  refine q_iadd (n := 185) E.1 dL_law_184 rfl ?_
  obtain ⟨g4, h⟩ := h
  refine q_sld (n := 186) E hW hX hbl g4 hL hxs dL_law_185 rfl ?_
  refine q_aload_n (n := 187) (q := 0) E.1 hl rfl dL_law_186 rfl rfl ?_
  refine q_iload_n (n := 188) (q := 3) E.1 hl rfl dL_law_187 rfl rfl ?_
  refine q_iconst (n := 189) E.1 dL_law_188 rfl ?_
  refine q_iadd (n := 190) E.1 dL_law_189 rfl ?_
  obtain ⟨g5, h⟩ := h
  refine q_sld (n := 191) E hW hX hbl g5 hL hxs dL_law_190 rfl ?_
  refine q_callVi (n := 194) (fs := (fs42 X)) [.int (jI (xs (x3 + 1).toNat)), .int (jI (xs (x3 + 2).toNat)), .int (jI (xs (x3 + 3).toNat)), .int (jI (xs (x3 + 4).toNat)), .int (jI (xs (x3 + 5).toNat))] E hW hl.1 (by decide) (fun _ => rfl) K7 (c_X7_feed l X E.2.2.1.1 (xs (x3 + 1).toNat) (xs (x3 + 2).toNat) (xs (x3 + 3).toNat) (xs (x3 + 4).toNat) (xs (x3 + 5).toNat)  _ _ h) (by decide) Y_RL_18 rfl (rest := []) rfl (Nat.le_of_ble_eq_true rfl) dL_law_191 rfl (fun r7 M6 H locs h hW => ?_)
  refine q_aload_n (n := 195) (q := 2) E.1 hl rfl dL_law_194 rfl rfl ?_
  refine q_aload_n (n := 196) (q := 0) E.1 hl rfl dL_law_195 rfl rfl ?_
  refine q_iload_n (n := 197) (q := 3) E.1 hl rfl dL_law_196 rfl rfl ?_
  refine q_iconst (n := 198) E.1 dL_law_197 rfl ?_
  refine q_iadd (n := 199) E.1 dL_law_198 rfl ?_
  obtain ⟨g8, h⟩ := h
  refine q_sld (n := 200) E hW hX hbl g8 hL hxs dL_law_199 rfl ?_
  refine q_aload_n (n := 201) (q := 0) E.1 hl rfl dL_law_200 rfl rfl ?_
  refine q_iload_n (n := 202) (q := 3) E.1 hl rfl dL_law_201 rfl rfl ?_
  refine q_iconst (n := 203) E.1 dL_law_202 rfl ?_
  refine q_iadd (n := 204) E.1 dL_law_203 rfl ?_
  obtain ⟨g9, h⟩ := h
  refine q_sld (n := 205) E hW hX hbl g9 hL hxs dL_law_204 rfl ?_
  refine q_aload_n (n := 206) (q := 0) E.1 hl rfl dL_law_205 rfl rfl ?_
  refine q_iload_n (n := 207) (q := 3) E.1 hl rfl dL_law_206 rfl rfl ?_
  refine q_iconst (n := 208) E.1 dL_law_207 rfl ?_
  refine q_iadd (n := 209) E.1 dL_law_208 rfl ?_
  obtain ⟨g10, h⟩ := h
  refine q_sld (n := 210) E hW hX hbl g10 hL hxs dL_law_209 rfl ?_
  refine q_aload_n (n := 211) (q := 0) E.1 hl rfl dL_law_210 rfl rfl ?_
  refine q_iload_n (n := 212) (q := 3) E.1 hl rfl dL_law_211 rfl rfl ?_
  refine q_iconst (n := 213) E.1 dL_law_212 rfl ?_
  refine q_iadd (n := 214) E.1 dL_law_213 rfl ?_
  obtain ⟨g11, h⟩ := h
  refine q_sld (n := 215) E hW hX hbl g11 hL hxs dL_law_214 rfl ?_
  refine q_aload_n (n := 216) (q := 0) E.1 hl rfl dL_law_215 rfl rfl ?_
  refine q_iload_n (n := 217) (q := 3) E.1 hl rfl dL_law_216 rfl rfl ?_
  refine q_iconst (n := 218) E.1 dL_law_217 rfl ?_
  refine q_iadd (n := 219) E.1 dL_law_218 rfl ?_
  obtain ⟨g12, h⟩ := h
  refine q_sld (n := 220) E hW hX hbl g12 hL hxs dL_law_219 rfl ?_
  refine q_callVi (n := 223) (fs := (fs62 X)) [.int (jI (xs (x3 + 1).toNat)), .int (jI (xs (x3 + 2).toNat)), .int (jI (xs (x3 + 3).toNat)), .int (jI (xs (x3 + 4).toNat)), .int (jI (xs (x3 + 5).toNat))] E hW hl.1 (by decide) (fun _ => rfl) K8 (c_X8_feed l X E.2.2.1.1 (xs (x3 + 1).toNat) (xs (x3 + 2).toNat) (xs (x3 + 3).toNat) (xs (x3 + 4).toNat) (xs (x3 + 5).toNat)  _ _ h) (by decide) Y_RL_22 rfl (rest := [.int (jI r7)]) rfl (Nat.le_of_ble_eq_true rfl) dL_law_220 rfl (fun r14 M13 H locs h hW => ?_)
  obtain ⟨g15, g16, h17, h18⟩ := h
  refine q_icmp_eq (t := 735) (n := 226) E.1 g15 g16 dL_law_223 (by decide) rfl (fun c19 => ?_) (fun c19 => ?_)
  · have h := h17 c19
    refine q_iinc (n := 738) (q := 3) [(3, .int (jI (x3 + 6))), (0, .ref b), (1, .ref (xA X 42)), (2, .ref (xA X 62))] E.1 hl rfl dL_law_735 (by decide) rfl rfl (fun ls hl => ?_)
    refine q_goto (n := 18) E.1 dL_law_738 (by decide) ?_
    exact Hk18 _ _ _ _ _ h hW (lv_sub hl [1, 2, 3, 0] rfl)
  · have h := h18 c19
    refine q_iconst (n := 227) E.1 dL_law_226 rfl ?_
    exact h.elim
def wp_L_law_228 (L : Nat) (xs : Nat → Int) (k18 : Int → Mem → Prop) (x3 : Int) (M : Mem) : Prop := (0 ≤ (x3 + 1) ∧ (x3 + 1) < (L : Int)) ∧ wp_X7_end (xs (x3 + 1).toNat) M (fun r3 M2 => (0 ≤ (x3 + 1) ∧ (x3 + 1) < (L : Int)) ∧ wp_X8_end (xs (x3 + 1).toNat) M2 (fun r6 M5 => (Rg r3 ∧ Rg r6 ∧ (r3 = r6 → k18 (x3 + 6) M5) ∧ (¬ (r3 = r6) → False))))
set_option maxHeartbeats 4000000 in
set_option maxRecDepth 100000 in
theorem v_L_law_228 {b L : Nat} {xs : Nat → Int} {xs32 : Nat → Int32} (hxs : ∀ j, xs j = (xs32 j).toInt) (hL : L < 2147483648) (hX : va_X b L xs32 s s.heap) (hbl : b < s.heap.size) {cells slots : Nat} (hcs : cells ≤ 600000 ∧ slots ≤ 7302250) (E : En X (fun q => s.heap.size ≤ q) 100 p room_1 s m #[Value.ref b] meth c cL_law RL 4 ret cells slots) (k18 : Int → Mem → Prop) (Hk18 : ∀ (x3 : Int) (M : Mem) (H : Heap) (locs : List Loc) (ls : Array Slot), k18 x3 M → Wd X (fun q => s.heap.size ≤ q) s M H locs → lv_has ls 4 [(0, .ref b), (1, .ref (xA X 42)), (2, .ref (xA X 62)), (3, .int (jI x3))] → W p l e room_1 s m #[Value.ref b] below meth c H locs cells slots (lw_Z below #[Value.ref b] s) (F0 m 18 ls [])) : ∀ (x3 : Int) (M : Mem) (H : Heap) (locs : List Loc) (ls : Array Slot), wp_L_law_228 L xs k18 x3 M → Wd X (fun q => s.heap.size ≤ q) s M H locs → lv_has ls 4 [(0, .ref b), (1, .ref (xA X 42)), (2, .ref (xA X 62)), (3, .int (jI x3))] → W p l e room_1 s m #[Value.ref b] below meth c H locs cells slots (lw_Z below #[Value.ref b] s) (F0 m 228 ls []) := by
  intro x3 M H locs ls h hW hl
  unfold wp_L_law_228 at h
  refine q_aload_n (n := 229) (q := 1) E.1 hl rfl dL_law_228 rfl rfl ?_
  refine q_aload_n (n := 230) (q := 0) E.1 hl rfl dL_law_229 rfl rfl ?_
  refine q_iload_n (n := 231) (q := 3) E.1 hl rfl dL_law_230 rfl rfl ?_
  refine q_iconst (n := 232) E.1 dL_law_231 rfl ?_
  refine q_iadd (n := 233) E.1 dL_law_232 rfl ?_
  obtain ⟨g1, h⟩ := h
  refine q_sld (n := 234) E hW hX hbl g1 hL hxs dL_law_233 rfl ?_
  refine q_callVi (n := 237) (fs := (fs42 X)) [.int (jI (xs (x3 + 1).toNat))] E hW hl.1 (by decide) (fun _ => rfl) K7 (c_X7_end l X E.2.2.1.1 (xs (x3 + 1).toNat)  _ _ h) (by decide) Y_RL_23 rfl (rest := []) rfl (Nat.le_of_ble_eq_true rfl) dL_law_234 rfl (fun r3 M2 H locs h hW => ?_)
  refine q_aload_n (n := 238) (q := 2) E.1 hl rfl dL_law_237 rfl rfl ?_
  refine q_aload_n (n := 239) (q := 0) E.1 hl rfl dL_law_238 rfl rfl ?_
  refine q_iload_n (n := 240) (q := 3) E.1 hl rfl dL_law_239 rfl rfl ?_
  refine q_iconst (n := 241) E.1 dL_law_240 rfl ?_
  refine q_iadd (n := 242) E.1 dL_law_241 rfl ?_
  obtain ⟨g4, h⟩ := h
  refine q_sld (n := 243) E hW hX hbl g4 hL hxs dL_law_242 rfl ?_
  refine q_callVi (n := 246) (fs := (fs62 X)) [.int (jI (xs (x3 + 1).toNat))] E hW hl.1 (by decide) (fun _ => rfl) K8 (c_X8_end l X E.2.2.1.1 (xs (x3 + 1).toNat)  _ _ h) (by decide) Y_RL_27 rfl (rest := [.int (jI r3)]) rfl (Nat.le_of_ble_eq_true rfl) dL_law_243 rfl (fun r6 M5 H locs h hW => ?_)
  obtain ⟨g7, g8, h9, h10⟩ := h
  refine q_icmp_eq (t := 735) (n := 249) E.1 g7 g8 dL_law_246 (by decide) rfl (fun c11 => ?_) (fun c11 => ?_)
  · have h := h9 c11
    refine q_iinc (n := 738) (q := 3) [(3, .int (jI (x3 + 6))), (0, .ref b), (1, .ref (xA X 42)), (2, .ref (xA X 62))] E.1 hl rfl dL_law_735 (by decide) rfl rfl (fun ls hl => ?_)
    refine q_goto (n := 18) E.1 dL_law_738 (by decide) ?_
    exact Hk18 _ _ _ _ _ h hW (lv_sub hl [1, 2, 3, 0] rfl)
  · have h := h10 c11
    refine q_iconst (n := 250) E.1 dL_law_249 rfl ?_
    exact h.elim
def wp_L_law_251 (L : Nat) (xs : Nat → Int) (k18 : Int → Mem → Prop) (x3 : Int) (M : Mem) : Prop := (0 ≤ (x3 + 1) ∧ (x3 + 1) < (L : Int)) ∧ (0 ≤ (x3 + 2) ∧ (x3 + 2) < (L : Int)) ∧ wp_X7_shorten (xs (x3 + 1).toNat) (xs (x3 + 2).toNat) M (fun r4 M3 => (0 ≤ (x3 + 1) ∧ (x3 + 1) < (L : Int)) ∧ (0 ≤ (x3 + 2) ∧ (x3 + 2) < (L : Int)) ∧ wp_X8_shorten (xs (x3 + 1).toNat) (xs (x3 + 2).toNat) M3 (fun r8 M7 => (Rg r4 ∧ Rg r8 ∧ (r4 = r8 → k18 (x3 + 6) M7) ∧ (¬ (r4 = r8) → False))))
set_option maxHeartbeats 4000000 in
set_option maxRecDepth 100000 in
theorem v_L_law_251 {b L : Nat} {xs : Nat → Int} {xs32 : Nat → Int32} (hxs : ∀ j, xs j = (xs32 j).toInt) (hL : L < 2147483648) (hX : va_X b L xs32 s s.heap) (hbl : b < s.heap.size) {cells slots : Nat} (hcs : cells ≤ 600000 ∧ slots ≤ 7302250) (E : En X (fun q => s.heap.size ≤ q) 100 p room_1 s m #[Value.ref b] meth c cL_law RL 4 ret cells slots) (k18 : Int → Mem → Prop) (Hk18 : ∀ (x3 : Int) (M : Mem) (H : Heap) (locs : List Loc) (ls : Array Slot), k18 x3 M → Wd X (fun q => s.heap.size ≤ q) s M H locs → lv_has ls 4 [(0, .ref b), (1, .ref (xA X 42)), (2, .ref (xA X 62)), (3, .int (jI x3))] → W p l e room_1 s m #[Value.ref b] below meth c H locs cells slots (lw_Z below #[Value.ref b] s) (F0 m 18 ls [])) : ∀ (x3 : Int) (M : Mem) (H : Heap) (locs : List Loc) (ls : Array Slot), wp_L_law_251 L xs k18 x3 M → Wd X (fun q => s.heap.size ≤ q) s M H locs → lv_has ls 4 [(0, .ref b), (1, .ref (xA X 42)), (2, .ref (xA X 62)), (3, .int (jI x3))] → W p l e room_1 s m #[Value.ref b] below meth c H locs cells slots (lw_Z below #[Value.ref b] s) (F0 m 251 ls []) := by
  intro x3 M H locs ls h hW hl
  unfold wp_L_law_251 at h
  refine q_aload_n (n := 252) (q := 1) E.1 hl rfl dL_law_251 rfl rfl ?_
  refine q_aload_n (n := 253) (q := 0) E.1 hl rfl dL_law_252 rfl rfl ?_
  refine q_iload_n (n := 254) (q := 3) E.1 hl rfl dL_law_253 rfl rfl ?_
  refine q_iconst (n := 255) E.1 dL_law_254 rfl ?_
  refine q_iadd (n := 256) E.1 dL_law_255 rfl ?_
  obtain ⟨g1, h⟩ := h
  refine q_sld (n := 257) E hW hX hbl g1 hL hxs dL_law_256 rfl ?_
  refine q_aload_n (n := 258) (q := 0) E.1 hl rfl dL_law_257 rfl rfl ?_
  refine q_iload_n (n := 259) (q := 3) E.1 hl rfl dL_law_258 rfl rfl ?_
  refine q_iconst (n := 260) E.1 dL_law_259 rfl ?_
  refine q_iadd (n := 261) E.1 dL_law_260 rfl ?_
  obtain ⟨g2, h⟩ := h
  refine q_sld (n := 262) E hW hX hbl g2 hL hxs dL_law_261 rfl ?_
  refine q_callVi (n := 265) (fs := (fs42 X)) [.int (jI (xs (x3 + 1).toNat)), .int (jI (xs (x3 + 2).toNat))] E hW hl.1 (by decide) (fun _ => rfl) K7 (c_X7_shorten l X E.2.2.1.1 (xs (x3 + 1).toNat) (xs (x3 + 2).toNat)  _ _ h) (by decide) Y_RL_28 rfl (rest := []) rfl (Nat.le_of_ble_eq_true rfl) dL_law_262 rfl (fun r4 M3 H locs h hW => ?_)
  refine q_aload_n (n := 266) (q := 2) E.1 hl rfl dL_law_265 rfl rfl ?_
  refine q_aload_n (n := 267) (q := 0) E.1 hl rfl dL_law_266 rfl rfl ?_
  refine q_iload_n (n := 268) (q := 3) E.1 hl rfl dL_law_267 rfl rfl ?_
  refine q_iconst (n := 269) E.1 dL_law_268 rfl ?_
  refine q_iadd (n := 270) E.1 dL_law_269 rfl ?_
  obtain ⟨g5, h⟩ := h
  refine q_sld (n := 271) E hW hX hbl g5 hL hxs dL_law_270 rfl ?_
  refine q_aload_n (n := 272) (q := 0) E.1 hl rfl dL_law_271 rfl rfl ?_
  refine q_iload_n (n := 273) (q := 3) E.1 hl rfl dL_law_272 rfl rfl ?_
  refine q_iconst (n := 274) E.1 dL_law_273 rfl ?_
  refine q_iadd (n := 275) E.1 dL_law_274 rfl ?_
  obtain ⟨g6, h⟩ := h
  refine q_sld (n := 276) E hW hX hbl g6 hL hxs dL_law_275 rfl ?_
  refine q_callVi (n := 279) (fs := (fs62 X)) [.int (jI (xs (x3 + 1).toNat)), .int (jI (xs (x3 + 2).toNat))] E hW hl.1 (by decide) (fun _ => rfl) K8 (c_X8_shorten l X E.2.2.1.1 (xs (x3 + 1).toNat) (xs (x3 + 2).toNat)  _ _ h) (by decide) Y_RL_31 rfl (rest := [.int (jI r4)]) rfl (Nat.le_of_ble_eq_true rfl) dL_law_276 rfl (fun r8 M7 H locs h hW => ?_)
  obtain ⟨g9, g10, h11, h12⟩ := h
  refine q_icmp_eq (t := 735) (n := 282) E.1 g9 g10 dL_law_279 (by decide) rfl (fun c13 => ?_) (fun c13 => ?_)
  · have h := h11 c13
    refine q_iinc (n := 738) (q := 3) [(3, .int (jI (x3 + 6))), (0, .ref b), (1, .ref (xA X 42)), (2, .ref (xA X 62))] E.1 hl rfl dL_law_735 (by decide) rfl rfl (fun ls hl => ?_)
    refine q_goto (n := 18) E.1 dL_law_738 (by decide) ?_
    exact Hk18 _ _ _ _ _ h hW (lv_sub hl [1, 2, 3, 0] rfl)
  · have h := h12 c13
    refine q_iconst (n := 283) E.1 dL_law_282 rfl ?_
    exact h.elim
def wp_L_law_284 (L : Nat) (xs : Nat → Int) (k18 : Int → Mem → Prop) (x3 : Int) (M : Mem) : Prop := (0 ≤ (x3 + 1) ∧ (x3 + 1) < (L : Int)) ∧ wp_X7_fit (xs (x3 + 1).toNat) M (fun r3 M2 => (0 ≤ (x3 + 1) ∧ (x3 + 1) < (L : Int)) ∧ wp_X8_fit (xs (x3 + 1).toNat) M2 (fun r6 M5 => (Rg r3 ∧ Rg r6 ∧ (r3 = r6 → k18 (x3 + 6) M5) ∧ (¬ (r3 = r6) → False))))
set_option maxHeartbeats 4000000 in
set_option maxRecDepth 100000 in
theorem v_L_law_284 {b L : Nat} {xs : Nat → Int} {xs32 : Nat → Int32} (hxs : ∀ j, xs j = (xs32 j).toInt) (hL : L < 2147483648) (hX : va_X b L xs32 s s.heap) (hbl : b < s.heap.size) {cells slots : Nat} (hcs : cells ≤ 600000 ∧ slots ≤ 7302250) (E : En X (fun q => s.heap.size ≤ q) 100 p room_1 s m #[Value.ref b] meth c cL_law RL 4 ret cells slots) (k18 : Int → Mem → Prop) (Hk18 : ∀ (x3 : Int) (M : Mem) (H : Heap) (locs : List Loc) (ls : Array Slot), k18 x3 M → Wd X (fun q => s.heap.size ≤ q) s M H locs → lv_has ls 4 [(0, .ref b), (1, .ref (xA X 42)), (2, .ref (xA X 62)), (3, .int (jI x3))] → W p l e room_1 s m #[Value.ref b] below meth c H locs cells slots (lw_Z below #[Value.ref b] s) (F0 m 18 ls [])) : ∀ (x3 : Int) (M : Mem) (H : Heap) (locs : List Loc) (ls : Array Slot), wp_L_law_284 L xs k18 x3 M → Wd X (fun q => s.heap.size ≤ q) s M H locs → lv_has ls 4 [(0, .ref b), (1, .ref (xA X 42)), (2, .ref (xA X 62)), (3, .int (jI x3))] → W p l e room_1 s m #[Value.ref b] below meth c H locs cells slots (lw_Z below #[Value.ref b] s) (F0 m 284 ls []) := by
  intro x3 M H locs ls h hW hl
  unfold wp_L_law_284 at h
  refine q_aload_n (n := 285) (q := 1) E.1 hl rfl dL_law_284 rfl rfl ?_
  refine q_aload_n (n := 286) (q := 0) E.1 hl rfl dL_law_285 rfl rfl ?_
  refine q_iload_n (n := 287) (q := 3) E.1 hl rfl dL_law_286 rfl rfl ?_
  refine q_iconst (n := 288) E.1 dL_law_287 rfl ?_
  refine q_iadd (n := 289) E.1 dL_law_288 rfl ?_
  obtain ⟨g1, h⟩ := h
  refine q_sld (n := 290) E hW hX hbl g1 hL hxs dL_law_289 rfl ?_
  refine q_callVi (n := 293) (fs := (fs42 X)) [.int (jI (xs (x3 + 1).toNat))] E hW hl.1 (by decide) (fun _ => rfl) K7 (c_X7_fit l X E.2.2.1.1 (xs (x3 + 1).toNat)  _ _ h) (by decide) Y_RL_32 rfl (rest := []) rfl (Nat.le_of_ble_eq_true rfl) dL_law_290 rfl (fun r3 M2 H locs h hW => ?_)
  refine q_aload_n (n := 294) (q := 2) E.1 hl rfl dL_law_293 rfl rfl ?_
  refine q_aload_n (n := 295) (q := 0) E.1 hl rfl dL_law_294 rfl rfl ?_
  refine q_iload_n (n := 296) (q := 3) E.1 hl rfl dL_law_295 rfl rfl ?_
  refine q_iconst (n := 297) E.1 dL_law_296 rfl ?_
  refine q_iadd (n := 298) E.1 dL_law_297 rfl ?_
  obtain ⟨g4, h⟩ := h
  refine q_sld (n := 299) E hW hX hbl g4 hL hxs dL_law_298 rfl ?_
  refine q_callVi (n := 302) (fs := (fs62 X)) [.int (jI (xs (x3 + 1).toNat))] E hW hl.1 (by decide) (fun _ => rfl) K8 (c_X8_fit l X E.2.2.1.1 (xs (x3 + 1).toNat)  _ _ h) (by decide) Y_RL_36 rfl (rest := [.int (jI r3)]) rfl (Nat.le_of_ble_eq_true rfl) dL_law_299 rfl (fun r6 M5 H locs h hW => ?_)
  obtain ⟨g7, g8, h9, h10⟩ := h
  refine q_icmp_eq (t := 735) (n := 305) E.1 g7 g8 dL_law_302 (by decide) rfl (fun c11 => ?_) (fun c11 => ?_)
  · have h := h9 c11
    refine q_iinc (n := 738) (q := 3) [(3, .int (jI (x3 + 6))), (0, .ref b), (1, .ref (xA X 42)), (2, .ref (xA X 62))] E.1 hl rfl dL_law_735 (by decide) rfl rfl (fun ls hl => ?_)
    refine q_goto (n := 18) E.1 dL_law_738 (by decide) ?_
    exact Hk18 _ _ _ _ _ h hW (lv_sub hl [1, 2, 3, 0] rfl)
  · have h := h10 c11
    refine q_iconst (n := 306) E.1 dL_law_305 rfl ?_
    exact h.elim
def wp_L_law_307 (L : Nat) (xs : Nat → Int) (k18 : Int → Mem → Prop) (x3 : Int) (M : Mem) : Prop := wp_X7_used  M (fun r2 M1 => wp_X8_used  M1 (fun r4 M3 => (Rg r2 ∧ Rg r4 ∧ (r2 = r4 → k18 (x3 + 6) M3) ∧ (¬ (r2 = r4) → False))))
set_option maxHeartbeats 4000000 in
set_option maxRecDepth 100000 in
theorem v_L_law_307 {b L : Nat} {xs : Nat → Int} {xs32 : Nat → Int32} (hxs : ∀ j, xs j = (xs32 j).toInt) (hL : L < 2147483648) (hX : va_X b L xs32 s s.heap) (hbl : b < s.heap.size) {cells slots : Nat} (hcs : cells ≤ 600000 ∧ slots ≤ 7302250) (E : En X (fun q => s.heap.size ≤ q) 100 p room_1 s m #[Value.ref b] meth c cL_law RL 4 ret cells slots) (k18 : Int → Mem → Prop) (Hk18 : ∀ (x3 : Int) (M : Mem) (H : Heap) (locs : List Loc) (ls : Array Slot), k18 x3 M → Wd X (fun q => s.heap.size ≤ q) s M H locs → lv_has ls 4 [(0, .ref b), (1, .ref (xA X 42)), (2, .ref (xA X 62)), (3, .int (jI x3))] → W p l e room_1 s m #[Value.ref b] below meth c H locs cells slots (lw_Z below #[Value.ref b] s) (F0 m 18 ls [])) : ∀ (x3 : Int) (M : Mem) (H : Heap) (locs : List Loc) (ls : Array Slot), wp_L_law_307 L xs k18 x3 M → Wd X (fun q => s.heap.size ≤ q) s M H locs → lv_has ls 4 [(0, .ref b), (1, .ref (xA X 42)), (2, .ref (xA X 62)), (3, .int (jI x3))] → W p l e room_1 s m #[Value.ref b] below meth c H locs cells slots (lw_Z below #[Value.ref b] s) (F0 m 307 ls []) := by
  intro x3 M H locs ls h hW hl
  unfold wp_L_law_307 at h
  refine q_aload_n (n := 308) (q := 1) E.1 hl rfl dL_law_307 rfl rfl ?_
  refine q_callVi (n := 311) (fs := (fs42 X)) [] E hW hl.1 (by decide) (fun _ => rfl) K7 (c_X7_used l X E.2.2.1.1   _ _ h) (by decide) Y_RL_37 rfl (rest := []) rfl (Nat.le_of_ble_eq_true rfl) dL_law_308 rfl (fun r2 M1 H locs h hW => ?_)
  refine q_aload_n (n := 312) (q := 2) E.1 hl rfl dL_law_311 rfl rfl ?_
  refine q_callVi (n := 315) (fs := (fs62 X)) [] E hW hl.1 (by decide) (fun _ => rfl) K8 (c_X8_used l X E.2.2.1.1   _ _ h) (by decide) Y_RL_41 rfl (rest := [.int (jI r2)]) rfl (Nat.le_of_ble_eq_true rfl) dL_law_312 rfl (fun r4 M3 H locs h hW => ?_)
  obtain ⟨g5, g6, h7, h8⟩ := h
  refine q_icmp_eq (t := 735) (n := 318) E.1 g5 g6 dL_law_315 (by decide) rfl (fun c9 => ?_) (fun c9 => ?_)
  · have h := h7 c9
    refine q_iinc (n := 738) (q := 3) [(3, .int (jI (x3 + 6))), (0, .ref b), (1, .ref (xA X 42)), (2, .ref (xA X 62))] E.1 hl rfl dL_law_735 (by decide) rfl rfl (fun ls hl => ?_)
    refine q_goto (n := 18) E.1 dL_law_738 (by decide) ?_
    exact Hk18 _ _ _ _ _ h hW (lv_sub hl [1, 2, 3, 0] rfl)
  · have h := h8 c9
    refine q_iconst (n := 319) E.1 dL_law_318 rfl ?_
    exact h.elim
def wp_L_law_320 (L : Nat) (xs : Nat → Int) (k18 : Int → Mem → Prop) (x3 : Int) (M : Mem) : Prop := (0 ≤ (x3 + 1) ∧ (x3 + 1) < (L : Int)) ∧ wp_X7_out (xs (x3 + 1).toNat) M (fun r3 M2 => (0 ≤ (x3 + 1) ∧ (x3 + 1) < (L : Int)) ∧ wp_X8_out (xs (x3 + 1).toNat) M2 (fun r6 M5 => (Rg r3 ∧ Rg r6 ∧ (r3 = r6 → k18 (x3 + 6) M5) ∧ (¬ (r3 = r6) → False))))
set_option maxHeartbeats 4000000 in
set_option maxRecDepth 100000 in
theorem v_L_law_320 {b L : Nat} {xs : Nat → Int} {xs32 : Nat → Int32} (hxs : ∀ j, xs j = (xs32 j).toInt) (hL : L < 2147483648) (hX : va_X b L xs32 s s.heap) (hbl : b < s.heap.size) {cells slots : Nat} (hcs : cells ≤ 600000 ∧ slots ≤ 7302250) (E : En X (fun q => s.heap.size ≤ q) 100 p room_1 s m #[Value.ref b] meth c cL_law RL 4 ret cells slots) (k18 : Int → Mem → Prop) (Hk18 : ∀ (x3 : Int) (M : Mem) (H : Heap) (locs : List Loc) (ls : Array Slot), k18 x3 M → Wd X (fun q => s.heap.size ≤ q) s M H locs → lv_has ls 4 [(0, .ref b), (1, .ref (xA X 42)), (2, .ref (xA X 62)), (3, .int (jI x3))] → W p l e room_1 s m #[Value.ref b] below meth c H locs cells slots (lw_Z below #[Value.ref b] s) (F0 m 18 ls [])) : ∀ (x3 : Int) (M : Mem) (H : Heap) (locs : List Loc) (ls : Array Slot), wp_L_law_320 L xs k18 x3 M → Wd X (fun q => s.heap.size ≤ q) s M H locs → lv_has ls 4 [(0, .ref b), (1, .ref (xA X 42)), (2, .ref (xA X 62)), (3, .int (jI x3))] → W p l e room_1 s m #[Value.ref b] below meth c H locs cells slots (lw_Z below #[Value.ref b] s) (F0 m 320 ls []) := by
  intro x3 M H locs ls h hW hl
  unfold wp_L_law_320 at h
  refine q_aload_n (n := 321) (q := 1) E.1 hl rfl dL_law_320 rfl rfl ?_
  refine q_aload_n (n := 322) (q := 0) E.1 hl rfl dL_law_321 rfl rfl ?_
  refine q_iload_n (n := 323) (q := 3) E.1 hl rfl dL_law_322 rfl rfl ?_
  refine q_iconst (n := 324) E.1 dL_law_323 rfl ?_
  refine q_iadd (n := 325) E.1 dL_law_324 rfl ?_
  obtain ⟨g1, h⟩ := h
  refine q_sld (n := 326) E hW hX hbl g1 hL hxs dL_law_325 rfl ?_
  refine q_callVi (n := 329) (fs := (fs42 X)) [.int (jI (xs (x3 + 1).toNat))] E hW hl.1 (by decide) (fun _ => rfl) K7 (c_X7_out l X E.2.2.1.1 (xs (x3 + 1).toNat)  _ _ h) (by decide) Y_RL_42 rfl (rest := []) rfl (Nat.le_of_ble_eq_true rfl) dL_law_326 rfl (fun r3 M2 H locs h hW => ?_)
  refine q_aload_n (n := 330) (q := 2) E.1 hl rfl dL_law_329 rfl rfl ?_
  refine q_aload_n (n := 331) (q := 0) E.1 hl rfl dL_law_330 rfl rfl ?_
  refine q_iload_n (n := 332) (q := 3) E.1 hl rfl dL_law_331 rfl rfl ?_
  refine q_iconst (n := 333) E.1 dL_law_332 rfl ?_
  refine q_iadd (n := 334) E.1 dL_law_333 rfl ?_
  obtain ⟨g4, h⟩ := h
  refine q_sld (n := 335) E hW hX hbl g4 hL hxs dL_law_334 rfl ?_
  refine q_callVi (n := 338) (fs := (fs62 X)) [.int (jI (xs (x3 + 1).toNat))] E hW hl.1 (by decide) (fun _ => rfl) K8 (c_X8_out l X E.2.2.1.1 (xs (x3 + 1).toNat)  _ _ h) (by decide) Y_RL_45 rfl (rest := [.int (jI r3)]) rfl (Nat.le_of_ble_eq_true rfl) dL_law_335 rfl (fun r6 M5 H locs h hW => ?_)
  obtain ⟨g7, g8, h9, h10⟩ := h
  refine q_icmp_eq (t := 735) (n := 341) E.1 g7 g8 dL_law_338 (by decide) rfl (fun c11 => ?_) (fun c11 => ?_)
  · have h := h9 c11
    refine q_iinc (n := 738) (q := 3) [(3, .int (jI (x3 + 6))), (0, .ref b), (1, .ref (xA X 42)), (2, .ref (xA X 62))] E.1 hl rfl dL_law_735 (by decide) rfl rfl (fun ls hl => ?_)
    refine q_goto (n := 18) E.1 dL_law_738 (by decide) ?_
    exact Hk18 _ _ _ _ _ h hW (lv_sub hl [1, 2, 3, 0] rfl)
  · have h := h10 c11
    refine q_iconst (n := 342) E.1 dL_law_341 rfl ?_
    exact h.elim
def wp_L_law_343 (L : Nat) (xs : Nat → Int) (k18 : Int → Mem → Prop) (x3 : Int) (M : Mem) : Prop := (0 ≤ (x3 + 1) ∧ (x3 + 1) < (L : Int)) ∧ wp_X7_ratio (xs (x3 + 1).toNat) M (fun r3 M2 => (0 ≤ (x3 + 1) ∧ (x3 + 1) < (L : Int)) ∧ wp_X8_ratio (xs (x3 + 1).toNat) M2 (fun r6 M5 => (Rg r3 ∧ Rg r6 ∧ (r3 = r6 → k18 (x3 + 6) M5) ∧ (¬ (r3 = r6) → False))))
set_option maxHeartbeats 4000000 in
set_option maxRecDepth 100000 in
theorem v_L_law_343 {b L : Nat} {xs : Nat → Int} {xs32 : Nat → Int32} (hxs : ∀ j, xs j = (xs32 j).toInt) (hL : L < 2147483648) (hX : va_X b L xs32 s s.heap) (hbl : b < s.heap.size) {cells slots : Nat} (hcs : cells ≤ 600000 ∧ slots ≤ 7302250) (E : En X (fun q => s.heap.size ≤ q) 100 p room_1 s m #[Value.ref b] meth c cL_law RL 4 ret cells slots) (k18 : Int → Mem → Prop) (Hk18 : ∀ (x3 : Int) (M : Mem) (H : Heap) (locs : List Loc) (ls : Array Slot), k18 x3 M → Wd X (fun q => s.heap.size ≤ q) s M H locs → lv_has ls 4 [(0, .ref b), (1, .ref (xA X 42)), (2, .ref (xA X 62)), (3, .int (jI x3))] → W p l e room_1 s m #[Value.ref b] below meth c H locs cells slots (lw_Z below #[Value.ref b] s) (F0 m 18 ls [])) : ∀ (x3 : Int) (M : Mem) (H : Heap) (locs : List Loc) (ls : Array Slot), wp_L_law_343 L xs k18 x3 M → Wd X (fun q => s.heap.size ≤ q) s M H locs → lv_has ls 4 [(0, .ref b), (1, .ref (xA X 42)), (2, .ref (xA X 62)), (3, .int (jI x3))] → W p l e room_1 s m #[Value.ref b] below meth c H locs cells slots (lw_Z below #[Value.ref b] s) (F0 m 343 ls []) := by
  intro x3 M H locs ls h hW hl
  unfold wp_L_law_343 at h
  refine q_aload_n (n := 344) (q := 1) E.1 hl rfl dL_law_343 rfl rfl ?_
  refine q_aload_n (n := 345) (q := 0) E.1 hl rfl dL_law_344 rfl rfl ?_
  refine q_iload_n (n := 346) (q := 3) E.1 hl rfl dL_law_345 rfl rfl ?_
  refine q_iconst (n := 347) E.1 dL_law_346 rfl ?_
  refine q_iadd (n := 348) E.1 dL_law_347 rfl ?_
  obtain ⟨g1, h⟩ := h
  refine q_sld (n := 349) E hW hX hbl g1 hL hxs dL_law_348 rfl ?_
  refine q_callVi (n := 352) (fs := (fs42 X)) [.int (jI (xs (x3 + 1).toNat))] E hW hl.1 (by decide) (fun _ => rfl) K7 (c_X7_ratio l X E.2.2.1.1 (xs (x3 + 1).toNat)  _ _ h) (by decide) Y_RL_46 rfl (rest := []) rfl (Nat.le_of_ble_eq_true rfl) dL_law_349 rfl (fun r3 M2 H locs h hW => ?_)
  refine q_aload_n (n := 353) (q := 2) E.1 hl rfl dL_law_352 rfl rfl ?_
  refine q_aload_n (n := 354) (q := 0) E.1 hl rfl dL_law_353 rfl rfl ?_
  refine q_iload_n (n := 355) (q := 3) E.1 hl rfl dL_law_354 rfl rfl ?_
  refine q_iconst (n := 356) E.1 dL_law_355 rfl ?_
  refine q_iadd (n := 357) E.1 dL_law_356 rfl ?_
  obtain ⟨g4, h⟩ := h
  refine q_sld (n := 358) E hW hX hbl g4 hL hxs dL_law_357 rfl ?_
  refine q_callVi (n := 361) (fs := (fs62 X)) [.int (jI (xs (x3 + 1).toNat))] E hW hl.1 (by decide) (fun _ => rfl) K8 (c_X8_ratio l X E.2.2.1.1 (xs (x3 + 1).toNat)  _ _ h) (by decide) Y_RL_49 rfl (rest := [.int (jI r3)]) rfl (Nat.le_of_ble_eq_true rfl) dL_law_358 rfl (fun r6 M5 H locs h hW => ?_)
  obtain ⟨g7, g8, h9, h10⟩ := h
  refine q_icmp_eq (t := 735) (n := 364) E.1 g7 g8 dL_law_361 (by decide) rfl (fun c11 => ?_) (fun c11 => ?_)
  · have h := h9 c11
    refine q_iinc (n := 738) (q := 3) [(3, .int (jI (x3 + 6))), (0, .ref b), (1, .ref (xA X 42)), (2, .ref (xA X 62))] E.1 hl rfl dL_law_735 (by decide) rfl rfl (fun ls hl => ?_)
    refine q_goto (n := 18) E.1 dL_law_738 (by decide) ?_
    exact Hk18 _ _ _ _ _ h hW (lv_sub hl [1, 2, 3, 0] rfl)
  · have h := h10 c11
    refine q_iconst (n := 365) E.1 dL_law_364 rfl ?_
    exact h.elim
def wp_L_law_366 (L : Nat) (xs : Nat → Int) (k18 : Int → Mem → Prop) (x3 : Int) (M : Mem) : Prop := wp_X7_bars  M (fun r2 M1 => wp_X8_bars  M1 (fun r4 M3 => (Rg r2 ∧ Rg r4 ∧ (r2 = r4 → k18 (x3 + 6) M3) ∧ (¬ (r2 = r4) → False))))
set_option maxHeartbeats 4000000 in
set_option maxRecDepth 100000 in
theorem v_L_law_366 {b L : Nat} {xs : Nat → Int} {xs32 : Nat → Int32} (hxs : ∀ j, xs j = (xs32 j).toInt) (hL : L < 2147483648) (hX : va_X b L xs32 s s.heap) (hbl : b < s.heap.size) {cells slots : Nat} (hcs : cells ≤ 600000 ∧ slots ≤ 7302250) (E : En X (fun q => s.heap.size ≤ q) 100 p room_1 s m #[Value.ref b] meth c cL_law RL 4 ret cells slots) (k18 : Int → Mem → Prop) (Hk18 : ∀ (x3 : Int) (M : Mem) (H : Heap) (locs : List Loc) (ls : Array Slot), k18 x3 M → Wd X (fun q => s.heap.size ≤ q) s M H locs → lv_has ls 4 [(0, .ref b), (1, .ref (xA X 42)), (2, .ref (xA X 62)), (3, .int (jI x3))] → W p l e room_1 s m #[Value.ref b] below meth c H locs cells slots (lw_Z below #[Value.ref b] s) (F0 m 18 ls [])) : ∀ (x3 : Int) (M : Mem) (H : Heap) (locs : List Loc) (ls : Array Slot), wp_L_law_366 L xs k18 x3 M → Wd X (fun q => s.heap.size ≤ q) s M H locs → lv_has ls 4 [(0, .ref b), (1, .ref (xA X 42)), (2, .ref (xA X 62)), (3, .int (jI x3))] → W p l e room_1 s m #[Value.ref b] below meth c H locs cells slots (lw_Z below #[Value.ref b] s) (F0 m 366 ls []) := by
  intro x3 M H locs ls h hW hl
  unfold wp_L_law_366 at h
  refine q_aload_n (n := 367) (q := 1) E.1 hl rfl dL_law_366 rfl rfl ?_
  refine q_callVi (n := 370) (fs := (fs42 X)) [] E hW hl.1 (by decide) (fun _ => rfl) K7 (c_X7_bars l X E.2.2.1.1   _ _ h) (by decide) Y_RL_50 rfl (rest := []) rfl (Nat.le_of_ble_eq_true rfl) dL_law_367 rfl (fun r2 M1 H locs h hW => ?_)
  refine q_aload_n (n := 371) (q := 2) E.1 hl rfl dL_law_370 rfl rfl ?_
  refine q_callVi (n := 374) (fs := (fs62 X)) [] E hW hl.1 (by decide) (fun _ => rfl) K8 (c_X8_bars l X E.2.2.1.1   _ _ h) (by decide) Y_RL_53 rfl (rest := [.int (jI r2)]) rfl (Nat.le_of_ble_eq_true rfl) dL_law_371 rfl (fun r4 M3 H locs h hW => ?_)
  obtain ⟨g5, g6, h7, h8⟩ := h
  refine q_icmp_eq (t := 735) (n := 377) E.1 g5 g6 dL_law_374 (by decide) rfl (fun c9 => ?_) (fun c9 => ?_)
  · have h := h7 c9
    refine q_iinc (n := 738) (q := 3) [(3, .int (jI (x3 + 6))), (0, .ref b), (1, .ref (xA X 42)), (2, .ref (xA X 62))] E.1 hl rfl dL_law_735 (by decide) rfl rfl (fun ls hl => ?_)
    refine q_goto (n := 18) E.1 dL_law_738 (by decide) ?_
    exact Hk18 _ _ _ _ _ h hW (lv_sub hl [1, 2, 3, 0] rfl)
  · have h := h8 c9
    refine q_iconst (n := 378) E.1 dL_law_377 rfl ?_
    exact h.elim
def wp_L_law_379 (L : Nat) (xs : Nat → Int) (k18 : Int → Mem → Prop) (x3 : Int) (M : Mem) : Prop := wp_X7_read  M (fun r2 M1 => wp_X8_read  M1 (fun r4 M3 => (Rg r2 ∧ Rg r4 ∧ (r2 = r4 → k18 (x3 + 6) M3) ∧ (¬ (r2 = r4) → False))))
set_option maxHeartbeats 4000000 in
set_option maxRecDepth 100000 in
theorem v_L_law_379 {b L : Nat} {xs : Nat → Int} {xs32 : Nat → Int32} (hxs : ∀ j, xs j = (xs32 j).toInt) (hL : L < 2147483648) (hX : va_X b L xs32 s s.heap) (hbl : b < s.heap.size) {cells slots : Nat} (hcs : cells ≤ 600000 ∧ slots ≤ 7302250) (E : En X (fun q => s.heap.size ≤ q) 100 p room_1 s m #[Value.ref b] meth c cL_law RL 4 ret cells slots) (k18 : Int → Mem → Prop) (Hk18 : ∀ (x3 : Int) (M : Mem) (H : Heap) (locs : List Loc) (ls : Array Slot), k18 x3 M → Wd X (fun q => s.heap.size ≤ q) s M H locs → lv_has ls 4 [(0, .ref b), (1, .ref (xA X 42)), (2, .ref (xA X 62)), (3, .int (jI x3))] → W p l e room_1 s m #[Value.ref b] below meth c H locs cells slots (lw_Z below #[Value.ref b] s) (F0 m 18 ls [])) : ∀ (x3 : Int) (M : Mem) (H : Heap) (locs : List Loc) (ls : Array Slot), wp_L_law_379 L xs k18 x3 M → Wd X (fun q => s.heap.size ≤ q) s M H locs → lv_has ls 4 [(0, .ref b), (1, .ref (xA X 42)), (2, .ref (xA X 62)), (3, .int (jI x3))] → W p l e room_1 s m #[Value.ref b] below meth c H locs cells slots (lw_Z below #[Value.ref b] s) (F0 m 379 ls []) := by
  intro x3 M H locs ls h hW hl
  unfold wp_L_law_379 at h
  refine q_aload_n (n := 380) (q := 1) E.1 hl rfl dL_law_379 rfl rfl ?_
  refine q_callVi (n := 383) (fs := (fs42 X)) [] E hW hl.1 (by decide) (fun _ => rfl) K7 (c_X7_read l X E.2.2.1.1   _ _ h) (by decide) Y_RL_54 rfl (rest := []) rfl (Nat.le_of_ble_eq_true rfl) dL_law_380 rfl (fun r2 M1 H locs h hW => ?_)
  refine q_aload_n (n := 384) (q := 2) E.1 hl rfl dL_law_383 rfl rfl ?_
  refine q_callVi (n := 387) (fs := (fs62 X)) [] E hW hl.1 (by decide) (fun _ => rfl) K8 (c_X8_read l X E.2.2.1.1   _ _ h) (by decide) Y_RL_57 rfl (rest := [.int (jI r2)]) rfl (Nat.le_of_ble_eq_true rfl) dL_law_384 rfl (fun r4 M3 H locs h hW => ?_)
  obtain ⟨g5, g6, h7, h8⟩ := h
  refine q_icmp_eq (t := 735) (n := 390) E.1 g5 g6 dL_law_387 (by decide) rfl (fun c9 => ?_) (fun c9 => ?_)
  · have h := h7 c9
    refine q_iinc (n := 738) (q := 3) [(3, .int (jI (x3 + 6))), (0, .ref b), (1, .ref (xA X 42)), (2, .ref (xA X 62))] E.1 hl rfl dL_law_735 (by decide) rfl rfl (fun ls hl => ?_)
    refine q_goto (n := 18) E.1 dL_law_738 (by decide) ?_
    exact Hk18 _ _ _ _ _ h hW (lv_sub hl [1, 2, 3, 0] rfl)
  · have h := h8 c9
    refine q_iconst (n := 391) E.1 dL_law_390 rfl ?_
    exact h.elim
def wp_L_law_392 (L : Nat) (xs : Nat → Int) (k18 : Int → Mem → Prop) (x3 : Int) (M : Mem) : Prop := (0 ≤ (x3 + 1) ∧ (x3 + 1) < (L : Int)) ∧ wp_X7_fault (xs (x3 + 1).toNat) M (fun r3 M2 => (0 ≤ (x3 + 1) ∧ (x3 + 1) < (L : Int)) ∧ wp_X8_fault (xs (x3 + 1).toNat) M2 (fun r6 M5 => (Rg r3 ∧ Rg r6 ∧ (r3 = r6 → k18 (x3 + 6) M5) ∧ (¬ (r3 = r6) → False))))
set_option maxHeartbeats 4000000 in
set_option maxRecDepth 100000 in
theorem v_L_law_392 {b L : Nat} {xs : Nat → Int} {xs32 : Nat → Int32} (hxs : ∀ j, xs j = (xs32 j).toInt) (hL : L < 2147483648) (hX : va_X b L xs32 s s.heap) (hbl : b < s.heap.size) {cells slots : Nat} (hcs : cells ≤ 600000 ∧ slots ≤ 7302250) (E : En X (fun q => s.heap.size ≤ q) 100 p room_1 s m #[Value.ref b] meth c cL_law RL 4 ret cells slots) (k18 : Int → Mem → Prop) (Hk18 : ∀ (x3 : Int) (M : Mem) (H : Heap) (locs : List Loc) (ls : Array Slot), k18 x3 M → Wd X (fun q => s.heap.size ≤ q) s M H locs → lv_has ls 4 [(0, .ref b), (1, .ref (xA X 42)), (2, .ref (xA X 62)), (3, .int (jI x3))] → W p l e room_1 s m #[Value.ref b] below meth c H locs cells slots (lw_Z below #[Value.ref b] s) (F0 m 18 ls [])) : ∀ (x3 : Int) (M : Mem) (H : Heap) (locs : List Loc) (ls : Array Slot), wp_L_law_392 L xs k18 x3 M → Wd X (fun q => s.heap.size ≤ q) s M H locs → lv_has ls 4 [(0, .ref b), (1, .ref (xA X 42)), (2, .ref (xA X 62)), (3, .int (jI x3))] → W p l e room_1 s m #[Value.ref b] below meth c H locs cells slots (lw_Z below #[Value.ref b] s) (F0 m 392 ls []) := by
  intro x3 M H locs ls h hW hl
  unfold wp_L_law_392 at h
  refine q_aload_n (n := 393) (q := 1) E.1 hl rfl dL_law_392 rfl rfl ?_
  refine q_aload_n (n := 394) (q := 0) E.1 hl rfl dL_law_393 rfl rfl ?_
  refine q_iload_n (n := 395) (q := 3) E.1 hl rfl dL_law_394 rfl rfl ?_
  refine q_iconst (n := 396) E.1 dL_law_395 rfl ?_
  refine q_iadd (n := 397) E.1 dL_law_396 rfl ?_
  obtain ⟨g1, h⟩ := h
  refine q_sld (n := 398) E hW hX hbl g1 hL hxs dL_law_397 rfl ?_
  refine q_callVi (n := 401) (fs := (fs42 X)) [.int (jI (xs (x3 + 1).toNat))] E hW hl.1 (by decide) (fun _ => rfl) K7 (c_X7_fault l X E.2.2.1.1 (xs (x3 + 1).toNat)  _ _ h) (by decide) Y_RL_58 rfl (rest := []) rfl (Nat.le_of_ble_eq_true rfl) dL_law_398 rfl (fun r3 M2 H locs h hW => ?_)
  refine q_aload_n (n := 402) (q := 2) E.1 hl rfl dL_law_401 rfl rfl ?_
  refine q_aload_n (n := 403) (q := 0) E.1 hl rfl dL_law_402 rfl rfl ?_
  refine q_iload_n (n := 404) (q := 3) E.1 hl rfl dL_law_403 rfl rfl ?_
  refine q_iconst (n := 405) E.1 dL_law_404 rfl ?_
  refine q_iadd (n := 406) E.1 dL_law_405 rfl ?_
  obtain ⟨g4, h⟩ := h
  refine q_sld (n := 407) E hW hX hbl g4 hL hxs dL_law_406 rfl ?_
  refine q_callVi (n := 410) (fs := (fs62 X)) [.int (jI (xs (x3 + 1).toNat))] E hW hl.1 (by decide) (fun _ => rfl) K8 (c_X8_fault l X E.2.2.1.1 (xs (x3 + 1).toNat)  _ _ h) (by decide) Y_RL_61 rfl (rest := [.int (jI r3)]) rfl (Nat.le_of_ble_eq_true rfl) dL_law_407 rfl (fun r6 M5 H locs h hW => ?_)
  obtain ⟨g7, g8, h9, h10⟩ := h
  refine q_icmp_eq (t := 735) (n := 413) E.1 g7 g8 dL_law_410 (by decide) rfl (fun c11 => ?_) (fun c11 => ?_)
  · have h := h9 c11
    refine q_iinc (n := 738) (q := 3) [(3, .int (jI (x3 + 6))), (0, .ref b), (1, .ref (xA X 42)), (2, .ref (xA X 62))] E.1 hl rfl dL_law_735 (by decide) rfl rfl (fun ls hl => ?_)
    refine q_goto (n := 18) E.1 dL_law_738 (by decide) ?_
    exact Hk18 _ _ _ _ _ h hW (lv_sub hl [1, 2, 3, 0] rfl)
  · have h := h10 c11
    refine q_iconst (n := 414) E.1 dL_law_413 rfl ?_
    exact h.elim
def wp_L_law_415 (L : Nat) (xs : Nat → Int) (k18 : Int → Mem → Prop) (x3 : Int) (M : Mem) : Prop := wp_X7_take  M (fun r2 M1 => wp_X8_take  M1 (fun r4 M3 => (Rg r2 ∧ Rg r4 ∧ (r2 = r4 → k18 (x3 + 6) M3) ∧ (¬ (r2 = r4) → False))))
set_option maxHeartbeats 4000000 in
set_option maxRecDepth 100000 in
theorem v_L_law_415 {b L : Nat} {xs : Nat → Int} {xs32 : Nat → Int32} (hxs : ∀ j, xs j = (xs32 j).toInt) (hL : L < 2147483648) (hX : va_X b L xs32 s s.heap) (hbl : b < s.heap.size) {cells slots : Nat} (hcs : cells ≤ 600000 ∧ slots ≤ 7302250) (E : En X (fun q => s.heap.size ≤ q) 100 p room_1 s m #[Value.ref b] meth c cL_law RL 4 ret cells slots) (k18 : Int → Mem → Prop) (Hk18 : ∀ (x3 : Int) (M : Mem) (H : Heap) (locs : List Loc) (ls : Array Slot), k18 x3 M → Wd X (fun q => s.heap.size ≤ q) s M H locs → lv_has ls 4 [(0, .ref b), (1, .ref (xA X 42)), (2, .ref (xA X 62)), (3, .int (jI x3))] → W p l e room_1 s m #[Value.ref b] below meth c H locs cells slots (lw_Z below #[Value.ref b] s) (F0 m 18 ls [])) : ∀ (x3 : Int) (M : Mem) (H : Heap) (locs : List Loc) (ls : Array Slot), wp_L_law_415 L xs k18 x3 M → Wd X (fun q => s.heap.size ≤ q) s M H locs → lv_has ls 4 [(0, .ref b), (1, .ref (xA X 42)), (2, .ref (xA X 62)), (3, .int (jI x3))] → W p l e room_1 s m #[Value.ref b] below meth c H locs cells slots (lw_Z below #[Value.ref b] s) (F0 m 415 ls []) := by
  intro x3 M H locs ls h hW hl
  unfold wp_L_law_415 at h
  refine q_aload_n (n := 416) (q := 1) E.1 hl rfl dL_law_415 rfl rfl ?_
  refine q_callVi (n := 419) (fs := (fs42 X)) [] E hW hl.1 (by decide) (fun _ => rfl) K7 (c_X7_take l X E.2.2.1.1   _ _ h) (by decide) Y_RL_62 rfl (rest := []) rfl (Nat.le_of_ble_eq_true rfl) dL_law_416 rfl (fun r2 M1 H locs h hW => ?_)
  refine q_aload_n (n := 420) (q := 2) E.1 hl rfl dL_law_419 rfl rfl ?_
  refine q_callVi (n := 423) (fs := (fs62 X)) [] E hW hl.1 (by decide) (fun _ => rfl) K8 (c_X8_take l X E.2.2.1.1   _ _ h) (by decide) Y_RL_65 rfl (rest := [.int (jI r2)]) rfl (Nat.le_of_ble_eq_true rfl) dL_law_420 rfl (fun r4 M3 H locs h hW => ?_)
  obtain ⟨g5, g6, h7, h8⟩ := h
  refine q_icmp_eq (t := 735) (n := 426) E.1 g5 g6 dL_law_423 (by decide) rfl (fun c9 => ?_) (fun c9 => ?_)
  · have h := h7 c9
    refine q_iinc (n := 738) (q := 3) [(3, .int (jI (x3 + 6))), (0, .ref b), (1, .ref (xA X 42)), (2, .ref (xA X 62))] E.1 hl rfl dL_law_735 (by decide) rfl rfl (fun ls hl => ?_)
    refine q_goto (n := 18) E.1 dL_law_738 (by decide) ?_
    exact Hk18 _ _ _ _ _ h hW (lv_sub hl [1, 2, 3, 0] rfl)
  · have h := h8 c9
    refine q_iconst (n := 427) E.1 dL_law_426 rfl ?_
    exact h.elim
def wp_L_law_428 (L : Nat) (xs : Nat → Int) (k18 : Int → Mem → Prop) (x3 : Int) (M : Mem) : Prop := (0 ≤ (x3 + 1) ∧ (x3 + 1) < (L : Int)) ∧ (0 ≤ (x3 + 2) ∧ (x3 + 2) < (L : Int)) ∧ (0 ≤ (x3 + 3) ∧ (x3 + 3) < (L : Int)) ∧ wp_X7_sheet (xs (x3 + 1).toNat) (lOr (lShl (i2l (xs (x3 + 2).toNat)) 32) (lAnd (i2l (xs (x3 + 3).toNat)) 4294967295)) M (fun r5 M4 => (0 ≤ (x3 + 1) ∧ (x3 + 1) < (L : Int)) ∧ (0 ≤ (x3 + 2) ∧ (x3 + 2) < (L : Int)) ∧ (0 ≤ (x3 + 3) ∧ (x3 + 3) < (L : Int)) ∧ wp_X8_sheet (xs (x3 + 1).toNat) (lOr (lShl (i2l (xs (x3 + 2).toNat)) 32) (lAnd (i2l (xs (x3 + 3).toNat)) 4294967295)) M4 (fun r10 M9 => (Rg r5 ∧ Rg r10 ∧ (r5 = r10 → k18 (x3 + 6) M9) ∧ (¬ (r5 = r10) → False))))
set_option maxHeartbeats 4000000 in
set_option maxRecDepth 100000 in
theorem v_L_law_428 {b L : Nat} {xs : Nat → Int} {xs32 : Nat → Int32} (hxs : ∀ j, xs j = (xs32 j).toInt) (hL : L < 2147483648) (hX : va_X b L xs32 s s.heap) (hbl : b < s.heap.size) {cells slots : Nat} (hcs : cells ≤ 600000 ∧ slots ≤ 7302250) (E : En X (fun q => s.heap.size ≤ q) 100 p room_1 s m #[Value.ref b] meth c cL_law RL 4 ret cells slots) (k18 : Int → Mem → Prop) (Hk18 : ∀ (x3 : Int) (M : Mem) (H : Heap) (locs : List Loc) (ls : Array Slot), k18 x3 M → Wd X (fun q => s.heap.size ≤ q) s M H locs → lv_has ls 4 [(0, .ref b), (1, .ref (xA X 42)), (2, .ref (xA X 62)), (3, .int (jI x3))] → W p l e room_1 s m #[Value.ref b] below meth c H locs cells slots (lw_Z below #[Value.ref b] s) (F0 m 18 ls [])) : ∀ (x3 : Int) (M : Mem) (H : Heap) (locs : List Loc) (ls : Array Slot), wp_L_law_428 L xs k18 x3 M → Wd X (fun q => s.heap.size ≤ q) s M H locs → lv_has ls 4 [(0, .ref b), (1, .ref (xA X 42)), (2, .ref (xA X 62)), (3, .int (jI x3))] → W p l e room_1 s m #[Value.ref b] below meth c H locs cells slots (lw_Z below #[Value.ref b] s) (F0 m 428 ls []) := by
  intro x3 M H locs ls h hW hl
  unfold wp_L_law_428 at h
  refine q_aload_n (n := 429) (q := 1) E.1 hl rfl dL_law_428 rfl rfl ?_
  refine q_aload_n (n := 430) (q := 0) E.1 hl rfl dL_law_429 rfl rfl ?_
  refine q_iload_n (n := 431) (q := 3) E.1 hl rfl dL_law_430 rfl rfl ?_
  refine q_iconst (n := 432) E.1 dL_law_431 rfl ?_
  refine q_iadd (n := 433) E.1 dL_law_432 rfl ?_
  obtain ⟨g1, h⟩ := h
  refine q_sld (n := 434) E hW hX hbl g1 hL hxs dL_law_433 rfl ?_
  refine q_aload_n (n := 435) (q := 0) E.1 hl rfl dL_law_434 rfl rfl ?_
  refine q_iload_n (n := 436) (q := 3) E.1 hl rfl dL_law_435 rfl rfl ?_
  refine q_iconst (n := 437) E.1 dL_law_436 rfl ?_
  refine q_iadd (n := 438) E.1 dL_law_437 rfl ?_
  obtain ⟨g2, h⟩ := h
  refine q_sld (n := 439) E hW hX hbl g2 hL hxs dL_law_438 rfl ?_
  refine q_i2l (n := 440) E.1 dL_law_439 rfl ?_
  refine q_bipush (n := 442) E.1 dL_law_440 (by decide) rfl ?_
  refine q_lshl (n := 443) E.1 dL_law_442 rfl ?_
  refine q_aload_n (n := 444) (q := 0) E.1 hl rfl dL_law_443 rfl rfl ?_
  refine q_iload_n (n := 445) (q := 3) E.1 hl rfl dL_law_444 rfl rfl ?_
  refine q_iconst (n := 446) E.1 dL_law_445 rfl ?_
  refine q_iadd (n := 447) E.1 dL_law_446 rfl ?_
  obtain ⟨g3, h⟩ := h
  refine q_sld (n := 448) E hW hX hbl g3 hL hxs dL_law_447 rfl ?_
  refine q_i2l (n := 449) E.1 dL_law_448 rfl ?_
  refine q_ldc2 (n := 452) (z := 4294967295) E.1 w1030 (by decide) dL_law_449 rfl ?_
  refine q_land (n := 453) E.1 dL_law_452 rfl ?_
  refine q_lor (n := 454) E.1 dL_law_453 rfl ?_
  refine q_callVi (n := 457) (fs := (fs42 X)) [.int (jI (xs (x3 + 1).toNat)), .long (jL (lOr (lShl (i2l (xs (x3 + 2).toNat)) 32) (lAnd (i2l (xs (x3 + 3).toNat)) 4294967295)))] E hW hl.1 (by decide) (fun _ => rfl) K7 (c_X7_sheet l X E.2.2.1.1 (xs (x3 + 1).toNat) (lOr (lShl (i2l (xs (x3 + 2).toNat)) 32) (lAnd (i2l (xs (x3 + 3).toNat)) 4294967295))  _ _ h) (by decide) Y_RL_68 rfl (rest := []) rfl (Nat.le_of_ble_eq_true rfl) dL_law_454 rfl (fun r5 M4 H locs h hW => ?_)
  refine q_aload_n (n := 458) (q := 2) E.1 hl rfl dL_law_457 rfl rfl ?_
  refine q_aload_n (n := 459) (q := 0) E.1 hl rfl dL_law_458 rfl rfl ?_
  refine q_iload_n (n := 460) (q := 3) E.1 hl rfl dL_law_459 rfl rfl ?_
  refine q_iconst (n := 461) E.1 dL_law_460 rfl ?_
  refine q_iadd (n := 462) E.1 dL_law_461 rfl ?_
  obtain ⟨g6, h⟩ := h
  refine q_sld (n := 463) E hW hX hbl g6 hL hxs dL_law_462 rfl ?_
  refine q_aload_n (n := 464) (q := 0) E.1 hl rfl dL_law_463 rfl rfl ?_
  refine q_iload_n (n := 465) (q := 3) E.1 hl rfl dL_law_464 rfl rfl ?_
  refine q_iconst (n := 466) E.1 dL_law_465 rfl ?_
  refine q_iadd (n := 467) E.1 dL_law_466 rfl ?_
  obtain ⟨g7, h⟩ := h
  refine q_sld (n := 468) E hW hX hbl g7 hL hxs dL_law_467 rfl ?_
  refine q_i2l (n := 469) E.1 dL_law_468 rfl ?_
  refine q_bipush (n := 471) E.1 dL_law_469 (by decide) rfl ?_
  refine q_lshl (n := 472) E.1 dL_law_471 rfl ?_
  refine q_aload_n (n := 473) (q := 0) E.1 hl rfl dL_law_472 rfl rfl ?_
  refine q_iload_n (n := 474) (q := 3) E.1 hl rfl dL_law_473 rfl rfl ?_
  refine q_iconst (n := 475) E.1 dL_law_474 rfl ?_
  refine q_iadd (n := 476) E.1 dL_law_475 rfl ?_
  obtain ⟨g8, h⟩ := h
  refine q_sld (n := 477) E hW hX hbl g8 hL hxs dL_law_476 rfl ?_
  refine q_i2l (n := 478) E.1 dL_law_477 rfl ?_
  refine q_ldc2 (n := 481) (z := 4294967295) E.1 w1030 (by decide) dL_law_478 rfl ?_
  refine q_land (n := 482) E.1 dL_law_481 rfl ?_
  refine q_lor (n := 483) E.1 dL_law_482 rfl ?_
  refine q_callVi (n := 486) (fs := (fs62 X)) [.int (jI (xs (x3 + 1).toNat)), .long (jL (lOr (lShl (i2l (xs (x3 + 2).toNat)) 32) (lAnd (i2l (xs (x3 + 3).toNat)) 4294967295)))] E hW hl.1 (by decide) (fun _ => rfl) K8 (c_X8_sheet l X E.2.2.1.1 (xs (x3 + 1).toNat) (lOr (lShl (i2l (xs (x3 + 2).toNat)) 32) (lAnd (i2l (xs (x3 + 3).toNat)) 4294967295))  _ _ h) (by decide) Y_RL_72 rfl (rest := [.int (jI r5)]) rfl (Nat.le_of_ble_eq_true rfl) dL_law_483 rfl (fun r10 M9 H locs h hW => ?_)
  obtain ⟨g11, g12, h13, h14⟩ := h
  refine q_icmp_eq (t := 735) (n := 489) E.1 g11 g12 dL_law_486 (by decide) rfl (fun c15 => ?_) (fun c15 => ?_)
  · have h := h13 c15
    refine q_iinc (n := 738) (q := 3) [(3, .int (jI (x3 + 6))), (0, .ref b), (1, .ref (xA X 42)), (2, .ref (xA X 62))] E.1 hl rfl dL_law_735 (by decide) rfl rfl (fun ls hl => ?_)
    refine q_goto (n := 18) E.1 dL_law_738 (by decide) ?_
    exact Hk18 _ _ _ _ _ h hW (lv_sub hl [1, 2, 3, 0] rfl)
  · have h := h14 c15
    refine q_iconst (n := 490) E.1 dL_law_489 rfl ?_
    exact h.elim
def wp_L_law_491 (L : Nat) (xs : Nat → Int) (k18 : Int → Mem → Prop) (x3 : Int) (M : Mem) : Prop := (0 ≤ (x3 + 1) ∧ (x3 + 1) < (L : Int)) ∧ (0 ≤ (x3 + 2) ∧ (x3 + 2) < (L : Int)) ∧ wp_X7_come (xs (x3 + 1).toNat) (xs (x3 + 2).toNat) M (fun r4 M3 => (0 ≤ (x3 + 1) ∧ (x3 + 1) < (L : Int)) ∧ (0 ≤ (x3 + 2) ∧ (x3 + 2) < (L : Int)) ∧ wp_X8_come (xs (x3 + 1).toNat) (xs (x3 + 2).toNat) M3 (fun r8 M7 => (Rg r4 ∧ Rg r8 ∧ (r4 = r8 → k18 (x3 + 6) M7) ∧ (¬ (r4 = r8) → False))))
set_option maxHeartbeats 4000000 in
set_option maxRecDepth 100000 in
theorem v_L_law_491 {b L : Nat} {xs : Nat → Int} {xs32 : Nat → Int32} (hxs : ∀ j, xs j = (xs32 j).toInt) (hL : L < 2147483648) (hX : va_X b L xs32 s s.heap) (hbl : b < s.heap.size) {cells slots : Nat} (hcs : cells ≤ 600000 ∧ slots ≤ 7302250) (E : En X (fun q => s.heap.size ≤ q) 100 p room_1 s m #[Value.ref b] meth c cL_law RL 4 ret cells slots) (k18 : Int → Mem → Prop) (Hk18 : ∀ (x3 : Int) (M : Mem) (H : Heap) (locs : List Loc) (ls : Array Slot), k18 x3 M → Wd X (fun q => s.heap.size ≤ q) s M H locs → lv_has ls 4 [(0, .ref b), (1, .ref (xA X 42)), (2, .ref (xA X 62)), (3, .int (jI x3))] → W p l e room_1 s m #[Value.ref b] below meth c H locs cells slots (lw_Z below #[Value.ref b] s) (F0 m 18 ls [])) : ∀ (x3 : Int) (M : Mem) (H : Heap) (locs : List Loc) (ls : Array Slot), wp_L_law_491 L xs k18 x3 M → Wd X (fun q => s.heap.size ≤ q) s M H locs → lv_has ls 4 [(0, .ref b), (1, .ref (xA X 42)), (2, .ref (xA X 62)), (3, .int (jI x3))] → W p l e room_1 s m #[Value.ref b] below meth c H locs cells slots (lw_Z below #[Value.ref b] s) (F0 m 491 ls []) := by
  intro x3 M H locs ls h hW hl
  unfold wp_L_law_491 at h
  refine q_aload_n (n := 492) (q := 1) E.1 hl rfl dL_law_491 rfl rfl ?_
  refine q_aload_n (n := 493) (q := 0) E.1 hl rfl dL_law_492 rfl rfl ?_
  refine q_iload_n (n := 494) (q := 3) E.1 hl rfl dL_law_493 rfl rfl ?_
  refine q_iconst (n := 495) E.1 dL_law_494 rfl ?_
  refine q_iadd (n := 496) E.1 dL_law_495 rfl ?_
  obtain ⟨g1, h⟩ := h
  refine q_sld (n := 497) E hW hX hbl g1 hL hxs dL_law_496 rfl ?_
  refine q_aload_n (n := 498) (q := 0) E.1 hl rfl dL_law_497 rfl rfl ?_
  refine q_iload_n (n := 499) (q := 3) E.1 hl rfl dL_law_498 rfl rfl ?_
  refine q_iconst (n := 500) E.1 dL_law_499 rfl ?_
  refine q_iadd (n := 501) E.1 dL_law_500 rfl ?_
  obtain ⟨g2, h⟩ := h
  refine q_sld (n := 502) E hW hX hbl g2 hL hxs dL_law_501 rfl ?_
  refine q_callVi (n := 505) (fs := (fs42 X)) [.int (jI (xs (x3 + 1).toNat)), .int (jI (xs (x3 + 2).toNat))] E hW hl.1 (by decide) (fun _ => rfl) K7 (c_X7_come l X E.2.2.1.1 (xs (x3 + 1).toNat) (xs (x3 + 2).toNat)  _ _ h) (by decide) Y_RL_73 rfl (rest := []) rfl (Nat.le_of_ble_eq_true rfl) dL_law_502 rfl (fun r4 M3 H locs h hW => ?_)
  refine q_aload_n (n := 506) (q := 2) E.1 hl rfl dL_law_505 rfl rfl ?_
  refine q_aload_n (n := 507) (q := 0) E.1 hl rfl dL_law_506 rfl rfl ?_
  refine q_iload_n (n := 508) (q := 3) E.1 hl rfl dL_law_507 rfl rfl ?_
  refine q_iconst (n := 509) E.1 dL_law_508 rfl ?_
  refine q_iadd (n := 510) E.1 dL_law_509 rfl ?_
  obtain ⟨g5, h⟩ := h
  refine q_sld (n := 511) E hW hX hbl g5 hL hxs dL_law_510 rfl ?_
  refine q_aload_n (n := 512) (q := 0) E.1 hl rfl dL_law_511 rfl rfl ?_
  refine q_iload_n (n := 513) (q := 3) E.1 hl rfl dL_law_512 rfl rfl ?_
  refine q_iconst (n := 514) E.1 dL_law_513 rfl ?_
  refine q_iadd (n := 515) E.1 dL_law_514 rfl ?_
  obtain ⟨g6, h⟩ := h
  refine q_sld (n := 516) E hW hX hbl g6 hL hxs dL_law_515 rfl ?_
  refine q_callVi (n := 519) (fs := (fs62 X)) [.int (jI (xs (x3 + 1).toNat)), .int (jI (xs (x3 + 2).toNat))] E hW hl.1 (by decide) (fun _ => rfl) K8 (c_X8_come l X E.2.2.1.1 (xs (x3 + 1).toNat) (xs (x3 + 2).toNat)  _ _ h) (by decide) Y_RL_77 rfl (rest := [.int (jI r4)]) rfl (Nat.le_of_ble_eq_true rfl) dL_law_516 rfl (fun r8 M7 H locs h hW => ?_)
  obtain ⟨g9, g10, h11, h12⟩ := h
  refine q_icmp_eq (t := 735) (n := 522) E.1 g9 g10 dL_law_519 (by decide) rfl (fun c13 => ?_) (fun c13 => ?_)
  · have h := h11 c13
    refine q_iinc (n := 738) (q := 3) [(3, .int (jI (x3 + 6))), (0, .ref b), (1, .ref (xA X 42)), (2, .ref (xA X 62))] E.1 hl rfl dL_law_735 (by decide) rfl rfl (fun ls hl => ?_)
    refine q_goto (n := 18) E.1 dL_law_738 (by decide) ?_
    exact Hk18 _ _ _ _ _ h hW (lv_sub hl [1, 2, 3, 0] rfl)
  · have h := h12 c13
    refine q_iconst (n := 523) E.1 dL_law_522 rfl ?_
    exact h.elim
def wp_L_law_524 (L : Nat) (xs : Nat → Int) (k18 : Int → Mem → Prop) (x3 : Int) (M : Mem) : Prop := (0 ≤ (x3 + 1) ∧ (x3 + 1) < (L : Int)) ∧ wp_X7_look (xs (x3 + 1).toNat) M (fun r3 M2 => (0 ≤ (x3 + 1) ∧ (x3 + 1) < (L : Int)) ∧ wp_X8_look (xs (x3 + 1).toNat) M2 (fun r6 M5 => (Rg r3 ∧ Rg r6 ∧ (r3 = r6 → k18 (x3 + 6) M5) ∧ (¬ (r3 = r6) → False))))
set_option maxHeartbeats 4000000 in
set_option maxRecDepth 100000 in
theorem v_L_law_524 {b L : Nat} {xs : Nat → Int} {xs32 : Nat → Int32} (hxs : ∀ j, xs j = (xs32 j).toInt) (hL : L < 2147483648) (hX : va_X b L xs32 s s.heap) (hbl : b < s.heap.size) {cells slots : Nat} (hcs : cells ≤ 600000 ∧ slots ≤ 7302250) (E : En X (fun q => s.heap.size ≤ q) 100 p room_1 s m #[Value.ref b] meth c cL_law RL 4 ret cells slots) (k18 : Int → Mem → Prop) (Hk18 : ∀ (x3 : Int) (M : Mem) (H : Heap) (locs : List Loc) (ls : Array Slot), k18 x3 M → Wd X (fun q => s.heap.size ≤ q) s M H locs → lv_has ls 4 [(0, .ref b), (1, .ref (xA X 42)), (2, .ref (xA X 62)), (3, .int (jI x3))] → W p l e room_1 s m #[Value.ref b] below meth c H locs cells slots (lw_Z below #[Value.ref b] s) (F0 m 18 ls [])) : ∀ (x3 : Int) (M : Mem) (H : Heap) (locs : List Loc) (ls : Array Slot), wp_L_law_524 L xs k18 x3 M → Wd X (fun q => s.heap.size ≤ q) s M H locs → lv_has ls 4 [(0, .ref b), (1, .ref (xA X 42)), (2, .ref (xA X 62)), (3, .int (jI x3))] → W p l e room_1 s m #[Value.ref b] below meth c H locs cells slots (lw_Z below #[Value.ref b] s) (F0 m 524 ls []) := by
  intro x3 M H locs ls h hW hl
  unfold wp_L_law_524 at h
  refine q_aload_n (n := 525) (q := 1) E.1 hl rfl dL_law_524 rfl rfl ?_
  refine q_aload_n (n := 526) (q := 0) E.1 hl rfl dL_law_525 rfl rfl ?_
  refine q_iload_n (n := 527) (q := 3) E.1 hl rfl dL_law_526 rfl rfl ?_
  refine q_iconst (n := 528) E.1 dL_law_527 rfl ?_
  refine q_iadd (n := 529) E.1 dL_law_528 rfl ?_
  obtain ⟨g1, h⟩ := h
  refine q_sld (n := 530) E hW hX hbl g1 hL hxs dL_law_529 rfl ?_
  refine q_callVi (n := 533) (fs := (fs42 X)) [.int (jI (xs (x3 + 1).toNat))] E hW hl.1 (by decide) (fun _ => rfl) K7 (c_X7_look l X E.2.2.1.1 (xs (x3 + 1).toNat)  _ _ h) (by decide) Y_RL_78 rfl (rest := []) rfl (Nat.le_of_ble_eq_true rfl) dL_law_530 rfl (fun r3 M2 H locs h hW => ?_)
  refine q_aload_n (n := 534) (q := 2) E.1 hl rfl dL_law_533 rfl rfl ?_
  refine q_aload_n (n := 535) (q := 0) E.1 hl rfl dL_law_534 rfl rfl ?_
  refine q_iload_n (n := 536) (q := 3) E.1 hl rfl dL_law_535 rfl rfl ?_
  refine q_iconst (n := 537) E.1 dL_law_536 rfl ?_
  refine q_iadd (n := 538) E.1 dL_law_537 rfl ?_
  obtain ⟨g4, h⟩ := h
  refine q_sld (n := 539) E hW hX hbl g4 hL hxs dL_law_538 rfl ?_
  refine q_callVi (n := 542) (fs := (fs62 X)) [.int (jI (xs (x3 + 1).toNat))] E hW hl.1 (by decide) (fun _ => rfl) K8 (c_X8_look l X E.2.2.1.1 (xs (x3 + 1).toNat)  _ _ h) (by decide) Y_RL_81 rfl (rest := [.int (jI r3)]) rfl (Nat.le_of_ble_eq_true rfl) dL_law_539 rfl (fun r6 M5 H locs h hW => ?_)
  obtain ⟨g7, g8, h9, h10⟩ := h
  refine q_icmp_eq (t := 735) (n := 545) E.1 g7 g8 dL_law_542 (by decide) rfl (fun c11 => ?_) (fun c11 => ?_)
  · have h := h9 c11
    refine q_iinc (n := 738) (q := 3) [(3, .int (jI (x3 + 6))), (0, .ref b), (1, .ref (xA X 42)), (2, .ref (xA X 62))] E.1 hl rfl dL_law_735 (by decide) rfl rfl (fun ls hl => ?_)
    refine q_goto (n := 18) E.1 dL_law_738 (by decide) ?_
    exact Hk18 _ _ _ _ _ h hW (lv_sub hl [1, 2, 3, 0] rfl)
  · have h := h10 c11
    refine q_iconst (n := 546) E.1 dL_law_545 rfl ?_
    exact h.elim
def wp_L_law_547 (L : Nat) (xs : Nat → Int) (k18 : Int → Mem → Prop) (x3 : Int) (M : Mem) : Prop := (0 ≤ (x3 + 1) ∧ (x3 + 1) < (L : Int)) ∧ (0 ≤ (x3 + 2) ∧ (x3 + 2) < (L : Int)) ∧ wp_X7_heap (xs (x3 + 1).toNat) (xs (x3 + 2).toNat) M (fun r4 M3 => (0 ≤ (x3 + 1) ∧ (x3 + 1) < (L : Int)) ∧ (0 ≤ (x3 + 2) ∧ (x3 + 2) < (L : Int)) ∧ wp_X8_heap (xs (x3 + 1).toNat) (xs (x3 + 2).toNat) M3 (fun r8 M7 => (Rg r4 ∧ Rg r8 ∧ (r4 = r8 → k18 (x3 + 6) M7) ∧ (¬ (r4 = r8) → False))))
set_option maxHeartbeats 4000000 in
set_option maxRecDepth 100000 in
theorem v_L_law_547 {b L : Nat} {xs : Nat → Int} {xs32 : Nat → Int32} (hxs : ∀ j, xs j = (xs32 j).toInt) (hL : L < 2147483648) (hX : va_X b L xs32 s s.heap) (hbl : b < s.heap.size) {cells slots : Nat} (hcs : cells ≤ 600000 ∧ slots ≤ 7302250) (E : En X (fun q => s.heap.size ≤ q) 100 p room_1 s m #[Value.ref b] meth c cL_law RL 4 ret cells slots) (k18 : Int → Mem → Prop) (Hk18 : ∀ (x3 : Int) (M : Mem) (H : Heap) (locs : List Loc) (ls : Array Slot), k18 x3 M → Wd X (fun q => s.heap.size ≤ q) s M H locs → lv_has ls 4 [(0, .ref b), (1, .ref (xA X 42)), (2, .ref (xA X 62)), (3, .int (jI x3))] → W p l e room_1 s m #[Value.ref b] below meth c H locs cells slots (lw_Z below #[Value.ref b] s) (F0 m 18 ls [])) : ∀ (x3 : Int) (M : Mem) (H : Heap) (locs : List Loc) (ls : Array Slot), wp_L_law_547 L xs k18 x3 M → Wd X (fun q => s.heap.size ≤ q) s M H locs → lv_has ls 4 [(0, .ref b), (1, .ref (xA X 42)), (2, .ref (xA X 62)), (3, .int (jI x3))] → W p l e room_1 s m #[Value.ref b] below meth c H locs cells slots (lw_Z below #[Value.ref b] s) (F0 m 547 ls []) := by
  intro x3 M H locs ls h hW hl
  unfold wp_L_law_547 at h
  refine q_aload_n (n := 548) (q := 1) E.1 hl rfl dL_law_547 rfl rfl ?_
  refine q_aload_n (n := 549) (q := 0) E.1 hl rfl dL_law_548 rfl rfl ?_
  refine q_iload_n (n := 550) (q := 3) E.1 hl rfl dL_law_549 rfl rfl ?_
  refine q_iconst (n := 551) E.1 dL_law_550 rfl ?_
  refine q_iadd (n := 552) E.1 dL_law_551 rfl ?_
  obtain ⟨g1, h⟩ := h
  refine q_sld (n := 553) E hW hX hbl g1 hL hxs dL_law_552 rfl ?_
  refine q_aload_n (n := 554) (q := 0) E.1 hl rfl dL_law_553 rfl rfl ?_
  refine q_iload_n (n := 555) (q := 3) E.1 hl rfl dL_law_554 rfl rfl ?_
  refine q_iconst (n := 556) E.1 dL_law_555 rfl ?_
  refine q_iadd (n := 557) E.1 dL_law_556 rfl ?_
  obtain ⟨g2, h⟩ := h
  refine q_sld (n := 558) E hW hX hbl g2 hL hxs dL_law_557 rfl ?_
  refine q_callVi (n := 561) (fs := (fs42 X)) [.int (jI (xs (x3 + 1).toNat)), .int (jI (xs (x3 + 2).toNat))] E hW hl.1 (by decide) (fun _ => rfl) K7 (c_X7_heap l X E.2.2.1.1 (xs (x3 + 1).toNat) (xs (x3 + 2).toNat)  _ _ h) (by decide) Y_RL_82 rfl (rest := []) rfl (Nat.le_of_ble_eq_true rfl) dL_law_558 rfl (fun r4 M3 H locs h hW => ?_)
  refine q_aload_n (n := 562) (q := 2) E.1 hl rfl dL_law_561 rfl rfl ?_
  refine q_aload_n (n := 563) (q := 0) E.1 hl rfl dL_law_562 rfl rfl ?_
  refine q_iload_n (n := 564) (q := 3) E.1 hl rfl dL_law_563 rfl rfl ?_
  refine q_iconst (n := 565) E.1 dL_law_564 rfl ?_
  refine q_iadd (n := 566) E.1 dL_law_565 rfl ?_
  obtain ⟨g5, h⟩ := h
  refine q_sld (n := 567) E hW hX hbl g5 hL hxs dL_law_566 rfl ?_
  refine q_aload_n (n := 568) (q := 0) E.1 hl rfl dL_law_567 rfl rfl ?_
  refine q_iload_n (n := 569) (q := 3) E.1 hl rfl dL_law_568 rfl rfl ?_
  refine q_iconst (n := 570) E.1 dL_law_569 rfl ?_
  refine q_iadd (n := 571) E.1 dL_law_570 rfl ?_
  obtain ⟨g6, h⟩ := h
  refine q_sld (n := 572) E hW hX hbl g6 hL hxs dL_law_571 rfl ?_
  refine q_callVi (n := 575) (fs := (fs62 X)) [.int (jI (xs (x3 + 1).toNat)), .int (jI (xs (x3 + 2).toNat))] E hW hl.1 (by decide) (fun _ => rfl) K8 (c_X8_heap l X E.2.2.1.1 (xs (x3 + 1).toNat) (xs (x3 + 2).toNat)  _ _ h) (by decide) Y_RL_85 rfl (rest := [.int (jI r4)]) rfl (Nat.le_of_ble_eq_true rfl) dL_law_572 rfl (fun r8 M7 H locs h hW => ?_)
  obtain ⟨g9, g10, h11, h12⟩ := h
  refine q_icmp_eq (t := 735) (n := 578) E.1 g9 g10 dL_law_575 (by decide) rfl (fun c13 => ?_) (fun c13 => ?_)
  · have h := h11 c13
    refine q_iinc (n := 738) (q := 3) [(3, .int (jI (x3 + 6))), (0, .ref b), (1, .ref (xA X 42)), (2, .ref (xA X 62))] E.1 hl rfl dL_law_735 (by decide) rfl rfl (fun ls hl => ?_)
    refine q_goto (n := 18) E.1 dL_law_738 (by decide) ?_
    exact Hk18 _ _ _ _ _ h hW (lv_sub hl [1, 2, 3, 0] rfl)
  · have h := h12 c13
    refine q_iconst (n := 579) E.1 dL_law_578 rfl ?_
    exact h.elim
def wp_L_law_580 (L : Nat) (xs : Nat → Int) (k18 : Int → Mem → Prop) (x3 : Int) (M : Mem) : Prop := (0 ≤ (x3 + 1) ∧ (x3 + 1) < (L : Int)) ∧ (0 ≤ (x3 + 2) ∧ (x3 + 2) < (L : Int)) ∧ wp_X7_plan (xs (x3 + 1).toNat) (xs (x3 + 2).toNat) M (fun r4 M3 => (0 ≤ (x3 + 1) ∧ (x3 + 1) < (L : Int)) ∧ (0 ≤ (x3 + 2) ∧ (x3 + 2) < (L : Int)) ∧ wp_X8_plan (xs (x3 + 1).toNat) (xs (x3 + 2).toNat) M3 (fun r8 M7 => (Rg r4 ∧ Rg r8 ∧ (r4 = r8 → k18 (x3 + 6) M7) ∧ (¬ (r4 = r8) → False))))
set_option maxHeartbeats 4000000 in
set_option maxRecDepth 100000 in
theorem v_L_law_580 {b L : Nat} {xs : Nat → Int} {xs32 : Nat → Int32} (hxs : ∀ j, xs j = (xs32 j).toInt) (hL : L < 2147483648) (hX : va_X b L xs32 s s.heap) (hbl : b < s.heap.size) {cells slots : Nat} (hcs : cells ≤ 600000 ∧ slots ≤ 7302250) (E : En X (fun q => s.heap.size ≤ q) 100 p room_1 s m #[Value.ref b] meth c cL_law RL 4 ret cells slots) (k18 : Int → Mem → Prop) (Hk18 : ∀ (x3 : Int) (M : Mem) (H : Heap) (locs : List Loc) (ls : Array Slot), k18 x3 M → Wd X (fun q => s.heap.size ≤ q) s M H locs → lv_has ls 4 [(0, .ref b), (1, .ref (xA X 42)), (2, .ref (xA X 62)), (3, .int (jI x3))] → W p l e room_1 s m #[Value.ref b] below meth c H locs cells slots (lw_Z below #[Value.ref b] s) (F0 m 18 ls [])) : ∀ (x3 : Int) (M : Mem) (H : Heap) (locs : List Loc) (ls : Array Slot), wp_L_law_580 L xs k18 x3 M → Wd X (fun q => s.heap.size ≤ q) s M H locs → lv_has ls 4 [(0, .ref b), (1, .ref (xA X 42)), (2, .ref (xA X 62)), (3, .int (jI x3))] → W p l e room_1 s m #[Value.ref b] below meth c H locs cells slots (lw_Z below #[Value.ref b] s) (F0 m 580 ls []) := by
  intro x3 M H locs ls h hW hl
  unfold wp_L_law_580 at h
  refine q_aload_n (n := 581) (q := 1) E.1 hl rfl dL_law_580 rfl rfl ?_
  refine q_aload_n (n := 582) (q := 0) E.1 hl rfl dL_law_581 rfl rfl ?_
  refine q_iload_n (n := 583) (q := 3) E.1 hl rfl dL_law_582 rfl rfl ?_
  refine q_iconst (n := 584) E.1 dL_law_583 rfl ?_
  refine q_iadd (n := 585) E.1 dL_law_584 rfl ?_
  obtain ⟨g1, h⟩ := h
  refine q_sld (n := 586) E hW hX hbl g1 hL hxs dL_law_585 rfl ?_
  refine q_aload_n (n := 587) (q := 0) E.1 hl rfl dL_law_586 rfl rfl ?_
  refine q_iload_n (n := 588) (q := 3) E.1 hl rfl dL_law_587 rfl rfl ?_
  refine q_iconst (n := 589) E.1 dL_law_588 rfl ?_
  refine q_iadd (n := 590) E.1 dL_law_589 rfl ?_
  obtain ⟨g2, h⟩ := h
  refine q_sld (n := 591) E hW hX hbl g2 hL hxs dL_law_590 rfl ?_
  refine q_callVi (n := 594) (fs := (fs42 X)) [.int (jI (xs (x3 + 1).toNat)), .int (jI (xs (x3 + 2).toNat))] E hW hl.1 (by decide) (fun _ => rfl) K7 (c_X7_plan l X E.2.2.1.1 (xs (x3 + 1).toNat) (xs (x3 + 2).toNat)  _ _ h) (by decide) Y_RL_86 rfl (rest := []) rfl (Nat.le_of_ble_eq_true rfl) dL_law_591 rfl (fun r4 M3 H locs h hW => ?_)
  refine q_aload_n (n := 595) (q := 2) E.1 hl rfl dL_law_594 rfl rfl ?_
  refine q_aload_n (n := 596) (q := 0) E.1 hl rfl dL_law_595 rfl rfl ?_
  refine q_iload_n (n := 597) (q := 3) E.1 hl rfl dL_law_596 rfl rfl ?_
  refine q_iconst (n := 598) E.1 dL_law_597 rfl ?_
  refine q_iadd (n := 599) E.1 dL_law_598 rfl ?_
  obtain ⟨g5, h⟩ := h
  refine q_sld (n := 600) E hW hX hbl g5 hL hxs dL_law_599 rfl ?_
  refine q_aload_n (n := 601) (q := 0) E.1 hl rfl dL_law_600 rfl rfl ?_
  refine q_iload_n (n := 602) (q := 3) E.1 hl rfl dL_law_601 rfl rfl ?_
  refine q_iconst (n := 603) E.1 dL_law_602 rfl ?_
  refine q_iadd (n := 604) E.1 dL_law_603 rfl ?_
  obtain ⟨g6, h⟩ := h
  refine q_sld (n := 605) E hW hX hbl g6 hL hxs dL_law_604 rfl ?_
  refine q_callVi (n := 608) (fs := (fs62 X)) [.int (jI (xs (x3 + 1).toNat)), .int (jI (xs (x3 + 2).toNat))] E hW hl.1 (by decide) (fun _ => rfl) K8 (c_X8_plan l X E.2.2.1.1 (xs (x3 + 1).toNat) (xs (x3 + 2).toNat)  _ _ h) (by decide) Y_RL_89 rfl (rest := [.int (jI r4)]) rfl (Nat.le_of_ble_eq_true rfl) dL_law_605 rfl (fun r8 M7 H locs h hW => ?_)
  obtain ⟨g9, g10, h11, h12⟩ := h
  refine q_icmp_eq (t := 735) (n := 611) E.1 g9 g10 dL_law_608 (by decide) rfl (fun c13 => ?_) (fun c13 => ?_)
  · have h := h11 c13
    refine q_iinc (n := 738) (q := 3) [(3, .int (jI (x3 + 6))), (0, .ref b), (1, .ref (xA X 42)), (2, .ref (xA X 62))] E.1 hl rfl dL_law_735 (by decide) rfl rfl (fun ls hl => ?_)
    refine q_goto (n := 18) E.1 dL_law_738 (by decide) ?_
    exact Hk18 _ _ _ _ _ h hW (lv_sub hl [1, 2, 3, 0] rfl)
  · have h := h12 c13
    refine q_iconst (n := 612) E.1 dL_law_611 rfl ?_
    exact h.elim
def wp_L_law_613 (L : Nat) (xs : Nat → Int) (k18 : Int → Mem → Prop) (x3 : Int) (M : Mem) : Prop := (0 ≤ (x3 + 1) ∧ (x3 + 1) < (L : Int)) ∧ wp_X7_print (xs (x3 + 1).toNat) M (fun r3 M2 => (0 ≤ (x3 + 1) ∧ (x3 + 1) < (L : Int)) ∧ wp_X8_print (xs (x3 + 1).toNat) M2 (fun r6 M5 => (Rg r3 ∧ Rg r6 ∧ (r3 = r6 → k18 (x3 + 6) M5) ∧ (¬ (r3 = r6) → False))))
set_option maxHeartbeats 4000000 in
set_option maxRecDepth 100000 in
theorem v_L_law_613 {b L : Nat} {xs : Nat → Int} {xs32 : Nat → Int32} (hxs : ∀ j, xs j = (xs32 j).toInt) (hL : L < 2147483648) (hX : va_X b L xs32 s s.heap) (hbl : b < s.heap.size) {cells slots : Nat} (hcs : cells ≤ 600000 ∧ slots ≤ 7302250) (E : En X (fun q => s.heap.size ≤ q) 100 p room_1 s m #[Value.ref b] meth c cL_law RL 4 ret cells slots) (k18 : Int → Mem → Prop) (Hk18 : ∀ (x3 : Int) (M : Mem) (H : Heap) (locs : List Loc) (ls : Array Slot), k18 x3 M → Wd X (fun q => s.heap.size ≤ q) s M H locs → lv_has ls 4 [(0, .ref b), (1, .ref (xA X 42)), (2, .ref (xA X 62)), (3, .int (jI x3))] → W p l e room_1 s m #[Value.ref b] below meth c H locs cells slots (lw_Z below #[Value.ref b] s) (F0 m 18 ls [])) : ∀ (x3 : Int) (M : Mem) (H : Heap) (locs : List Loc) (ls : Array Slot), wp_L_law_613 L xs k18 x3 M → Wd X (fun q => s.heap.size ≤ q) s M H locs → lv_has ls 4 [(0, .ref b), (1, .ref (xA X 42)), (2, .ref (xA X 62)), (3, .int (jI x3))] → W p l e room_1 s m #[Value.ref b] below meth c H locs cells slots (lw_Z below #[Value.ref b] s) (F0 m 613 ls []) := by
  intro x3 M H locs ls h hW hl
  unfold wp_L_law_613 at h
  refine q_aload_n (n := 614) (q := 1) E.1 hl rfl dL_law_613 rfl rfl ?_
  refine q_aload_n (n := 615) (q := 0) E.1 hl rfl dL_law_614 rfl rfl ?_
  refine q_iload_n (n := 616) (q := 3) E.1 hl rfl dL_law_615 rfl rfl ?_
  refine q_iconst (n := 617) E.1 dL_law_616 rfl ?_
  refine q_iadd (n := 618) E.1 dL_law_617 rfl ?_
  obtain ⟨g1, h⟩ := h
  refine q_sld (n := 619) E hW hX hbl g1 hL hxs dL_law_618 rfl ?_
  refine q_callVi (n := 622) (fs := (fs42 X)) [.int (jI (xs (x3 + 1).toNat))] E hW hl.1 (by decide) (fun _ => rfl) K7 (c_X7_print l X E.2.2.1.1 (xs (x3 + 1).toNat)  _ _ h) (by decide) Y_RL_90 rfl (rest := []) rfl (Nat.le_of_ble_eq_true rfl) dL_law_619 rfl (fun r3 M2 H locs h hW => ?_)
  refine q_aload_n (n := 623) (q := 2) E.1 hl rfl dL_law_622 rfl rfl ?_
  refine q_aload_n (n := 624) (q := 0) E.1 hl rfl dL_law_623 rfl rfl ?_
  refine q_iload_n (n := 625) (q := 3) E.1 hl rfl dL_law_624 rfl rfl ?_
  refine q_iconst (n := 626) E.1 dL_law_625 rfl ?_
  refine q_iadd (n := 627) E.1 dL_law_626 rfl ?_
  obtain ⟨g4, h⟩ := h
  refine q_sld (n := 628) E hW hX hbl g4 hL hxs dL_law_627 rfl ?_
  refine q_callVi (n := 631) (fs := (fs62 X)) [.int (jI (xs (x3 + 1).toNat))] E hW hl.1 (by decide) (fun _ => rfl) K8 (c_X8_print l X E.2.2.1.1 (xs (x3 + 1).toNat)  _ _ h) (by decide) Y_RL_93 rfl (rest := [.int (jI r3)]) rfl (Nat.le_of_ble_eq_true rfl) dL_law_628 rfl (fun r6 M5 H locs h hW => ?_)
  obtain ⟨g7, g8, h9, h10⟩ := h
  refine q_icmp_eq (t := 735) (n := 634) E.1 g7 g8 dL_law_631 (by decide) rfl (fun c11 => ?_) (fun c11 => ?_)
  · have h := h9 c11
    refine q_iinc (n := 738) (q := 3) [(3, .int (jI (x3 + 6))), (0, .ref b), (1, .ref (xA X 42)), (2, .ref (xA X 62))] E.1 hl rfl dL_law_735 (by decide) rfl rfl (fun ls hl => ?_)
    refine q_goto (n := 18) E.1 dL_law_738 (by decide) ?_
    exact Hk18 _ _ _ _ _ h hW (lv_sub hl [1, 2, 3, 0] rfl)
  · have h := h10 c11
    refine q_iconst (n := 635) E.1 dL_law_634 rfl ?_
    exact h.elim
def wp_L_law_636 (L : Nat) (xs : Nat → Int) (k18 : Int → Mem → Prop) (x3 : Int) (M : Mem) : Prop := (0 ≤ (x3 + 1) ∧ (x3 + 1) < (L : Int)) ∧ (0 ≤ (x3 + 2) ∧ (x3 + 2) < (L : Int)) ∧ wp_X7_printed (xs (x3 + 1).toNat) (xs (x3 + 2).toNat) M (fun r4 M3 => (0 ≤ (x3 + 1) ∧ (x3 + 1) < (L : Int)) ∧ (0 ≤ (x3 + 2) ∧ (x3 + 2) < (L : Int)) ∧ wp_X8_printed (xs (x3 + 1).toNat) (xs (x3 + 2).toNat) M3 (fun r8 M7 => (Rg r4 ∧ Rg r8 ∧ (r4 = r8 → k18 (x3 + 6) M7) ∧ (¬ (r4 = r8) → False))))
set_option maxHeartbeats 4000000 in
set_option maxRecDepth 100000 in
theorem v_L_law_636 {b L : Nat} {xs : Nat → Int} {xs32 : Nat → Int32} (hxs : ∀ j, xs j = (xs32 j).toInt) (hL : L < 2147483648) (hX : va_X b L xs32 s s.heap) (hbl : b < s.heap.size) {cells slots : Nat} (hcs : cells ≤ 600000 ∧ slots ≤ 7302250) (E : En X (fun q => s.heap.size ≤ q) 100 p room_1 s m #[Value.ref b] meth c cL_law RL 4 ret cells slots) (k18 : Int → Mem → Prop) (Hk18 : ∀ (x3 : Int) (M : Mem) (H : Heap) (locs : List Loc) (ls : Array Slot), k18 x3 M → Wd X (fun q => s.heap.size ≤ q) s M H locs → lv_has ls 4 [(0, .ref b), (1, .ref (xA X 42)), (2, .ref (xA X 62)), (3, .int (jI x3))] → W p l e room_1 s m #[Value.ref b] below meth c H locs cells slots (lw_Z below #[Value.ref b] s) (F0 m 18 ls [])) : ∀ (x3 : Int) (M : Mem) (H : Heap) (locs : List Loc) (ls : Array Slot), wp_L_law_636 L xs k18 x3 M → Wd X (fun q => s.heap.size ≤ q) s M H locs → lv_has ls 4 [(0, .ref b), (1, .ref (xA X 42)), (2, .ref (xA X 62)), (3, .int (jI x3))] → W p l e room_1 s m #[Value.ref b] below meth c H locs cells slots (lw_Z below #[Value.ref b] s) (F0 m 636 ls []) := by
  intro x3 M H locs ls h hW hl
  unfold wp_L_law_636 at h
  refine q_aload_n (n := 637) (q := 1) E.1 hl rfl dL_law_636 rfl rfl ?_
  refine q_aload_n (n := 638) (q := 0) E.1 hl rfl dL_law_637 rfl rfl ?_
  refine q_iload_n (n := 639) (q := 3) E.1 hl rfl dL_law_638 rfl rfl ?_
  refine q_iconst (n := 640) E.1 dL_law_639 rfl ?_
  refine q_iadd (n := 641) E.1 dL_law_640 rfl ?_
  obtain ⟨g1, h⟩ := h
  refine q_sld (n := 642) E hW hX hbl g1 hL hxs dL_law_641 rfl ?_
  refine q_aload_n (n := 643) (q := 0) E.1 hl rfl dL_law_642 rfl rfl ?_
  refine q_iload_n (n := 644) (q := 3) E.1 hl rfl dL_law_643 rfl rfl ?_
  refine q_iconst (n := 645) E.1 dL_law_644 rfl ?_
  refine q_iadd (n := 646) E.1 dL_law_645 rfl ?_
  obtain ⟨g2, h⟩ := h
  refine q_sld (n := 647) E hW hX hbl g2 hL hxs dL_law_646 rfl ?_
  refine q_callVi (n := 650) (fs := (fs42 X)) [.int (jI (xs (x3 + 1).toNat)), .int (jI (xs (x3 + 2).toNat))] E hW hl.1 (by decide) (fun _ => rfl) K7 (c_X7_printed l X E.2.2.1.1 (xs (x3 + 1).toNat) (xs (x3 + 2).toNat)  _ _ h) (by decide) Y_RL_94 rfl (rest := []) rfl (Nat.le_of_ble_eq_true rfl) dL_law_647 rfl (fun r4 M3 H locs h hW => ?_)
  refine q_aload_n (n := 651) (q := 2) E.1 hl rfl dL_law_650 rfl rfl ?_
  refine q_aload_n (n := 652) (q := 0) E.1 hl rfl dL_law_651 rfl rfl ?_
  refine q_iload_n (n := 653) (q := 3) E.1 hl rfl dL_law_652 rfl rfl ?_
  refine q_iconst (n := 654) E.1 dL_law_653 rfl ?_
  refine q_iadd (n := 655) E.1 dL_law_654 rfl ?_
  obtain ⟨g5, h⟩ := h
  refine q_sld (n := 656) E hW hX hbl g5 hL hxs dL_law_655 rfl ?_
  refine q_aload_n (n := 657) (q := 0) E.1 hl rfl dL_law_656 rfl rfl ?_
  refine q_iload_n (n := 658) (q := 3) E.1 hl rfl dL_law_657 rfl rfl ?_
  refine q_iconst (n := 659) E.1 dL_law_658 rfl ?_
  refine q_iadd (n := 660) E.1 dL_law_659 rfl ?_
  obtain ⟨g6, h⟩ := h
  refine q_sld (n := 661) E hW hX hbl g6 hL hxs dL_law_660 rfl ?_
  refine q_callVi (n := 664) (fs := (fs62 X)) [.int (jI (xs (x3 + 1).toNat)), .int (jI (xs (x3 + 2).toNat))] E hW hl.1 (by decide) (fun _ => rfl) K8 (c_X8_printed l X E.2.2.1.1 (xs (x3 + 1).toNat) (xs (x3 + 2).toNat)  _ _ h) (by decide) Y_RL_97 rfl (rest := [.int (jI r4)]) rfl (Nat.le_of_ble_eq_true rfl) dL_law_661 rfl (fun r8 M7 H locs h hW => ?_)
  obtain ⟨g9, g10, h11, h12⟩ := h
  refine q_icmp_eq (t := 735) (n := 667) E.1 g9 g10 dL_law_664 (by decide) rfl (fun c13 => ?_) (fun c13 => ?_)
  · have h := h11 c13
    refine q_iinc (n := 738) (q := 3) [(3, .int (jI (x3 + 6))), (0, .ref b), (1, .ref (xA X 42)), (2, .ref (xA X 62))] E.1 hl rfl dL_law_735 (by decide) rfl rfl (fun ls hl => ?_)
    refine q_goto (n := 18) E.1 dL_law_738 (by decide) ?_
    exact Hk18 _ _ _ _ _ h hW (lv_sub hl [1, 2, 3, 0] rfl)
  · have h := h12 c13
    refine q_iconst (n := 668) E.1 dL_law_667 rfl ?_
    exact h.elim
def wp_L_law_669 (L : Nat) (xs : Nat → Int) (k18 : Int → Mem → Prop) (x3 : Int) (M : Mem) : Prop := (0 ≤ (x3 + 1) ∧ (x3 + 1) < (L : Int)) ∧ (0 ≤ (x3 + 2) ∧ (x3 + 2) < (L : Int)) ∧ wp_X7_spoil (xs (x3 + 1).toNat) (xs (x3 + 2).toNat) M (fun r4 M3 => (0 ≤ (x3 + 1) ∧ (x3 + 1) < (L : Int)) ∧ (0 ≤ (x3 + 2) ∧ (x3 + 2) < (L : Int)) ∧ wp_X8_spoil (xs (x3 + 1).toNat) (xs (x3 + 2).toNat) M3 (fun r8 M7 => (Rg r4 ∧ Rg r8 ∧ (r4 = r8 → k18 (x3 + 6) M7) ∧ (¬ (r4 = r8) → False))))
set_option maxHeartbeats 4000000 in
set_option maxRecDepth 100000 in
theorem v_L_law_669 {b L : Nat} {xs : Nat → Int} {xs32 : Nat → Int32} (hxs : ∀ j, xs j = (xs32 j).toInt) (hL : L < 2147483648) (hX : va_X b L xs32 s s.heap) (hbl : b < s.heap.size) {cells slots : Nat} (hcs : cells ≤ 600000 ∧ slots ≤ 7302250) (E : En X (fun q => s.heap.size ≤ q) 100 p room_1 s m #[Value.ref b] meth c cL_law RL 4 ret cells slots) (k18 : Int → Mem → Prop) (Hk18 : ∀ (x3 : Int) (M : Mem) (H : Heap) (locs : List Loc) (ls : Array Slot), k18 x3 M → Wd X (fun q => s.heap.size ≤ q) s M H locs → lv_has ls 4 [(0, .ref b), (1, .ref (xA X 42)), (2, .ref (xA X 62)), (3, .int (jI x3))] → W p l e room_1 s m #[Value.ref b] below meth c H locs cells slots (lw_Z below #[Value.ref b] s) (F0 m 18 ls [])) : ∀ (x3 : Int) (M : Mem) (H : Heap) (locs : List Loc) (ls : Array Slot), wp_L_law_669 L xs k18 x3 M → Wd X (fun q => s.heap.size ≤ q) s M H locs → lv_has ls 4 [(0, .ref b), (1, .ref (xA X 42)), (2, .ref (xA X 62)), (3, .int (jI x3))] → W p l e room_1 s m #[Value.ref b] below meth c H locs cells slots (lw_Z below #[Value.ref b] s) (F0 m 669 ls []) := by
  intro x3 M H locs ls h hW hl
  unfold wp_L_law_669 at h
  refine q_aload_n (n := 670) (q := 1) E.1 hl rfl dL_law_669 rfl rfl ?_
  refine q_aload_n (n := 671) (q := 0) E.1 hl rfl dL_law_670 rfl rfl ?_
  refine q_iload_n (n := 672) (q := 3) E.1 hl rfl dL_law_671 rfl rfl ?_
  refine q_iconst (n := 673) E.1 dL_law_672 rfl ?_
  refine q_iadd (n := 674) E.1 dL_law_673 rfl ?_
  obtain ⟨g1, h⟩ := h
  refine q_sld (n := 675) E hW hX hbl g1 hL hxs dL_law_674 rfl ?_
  refine q_aload_n (n := 676) (q := 0) E.1 hl rfl dL_law_675 rfl rfl ?_
  refine q_iload_n (n := 677) (q := 3) E.1 hl rfl dL_law_676 rfl rfl ?_
  refine q_iconst (n := 678) E.1 dL_law_677 rfl ?_
  refine q_iadd (n := 679) E.1 dL_law_678 rfl ?_
  obtain ⟨g2, h⟩ := h
  refine q_sld (n := 680) E hW hX hbl g2 hL hxs dL_law_679 rfl ?_
  refine q_callVi (n := 683) (fs := (fs42 X)) [.int (jI (xs (x3 + 1).toNat)), .int (jI (xs (x3 + 2).toNat))] E hW hl.1 (by decide) (fun _ => rfl) K7 (c_X7_spoil l X E.2.2.1.1 (xs (x3 + 1).toNat) (xs (x3 + 2).toNat)  _ _ h) (by decide) Y_RL_98 rfl (rest := []) rfl (Nat.le_of_ble_eq_true rfl) dL_law_680 rfl (fun r4 M3 H locs h hW => ?_)
  refine q_aload_n (n := 684) (q := 2) E.1 hl rfl dL_law_683 rfl rfl ?_
  refine q_aload_n (n := 685) (q := 0) E.1 hl rfl dL_law_684 rfl rfl ?_
  refine q_iload_n (n := 686) (q := 3) E.1 hl rfl dL_law_685 rfl rfl ?_
  refine q_iconst (n := 687) E.1 dL_law_686 rfl ?_
  refine q_iadd (n := 688) E.1 dL_law_687 rfl ?_
  obtain ⟨g5, h⟩ := h
  refine q_sld (n := 689) E hW hX hbl g5 hL hxs dL_law_688 rfl ?_
  refine q_aload_n (n := 690) (q := 0) E.1 hl rfl dL_law_689 rfl rfl ?_
  refine q_iload_n (n := 691) (q := 3) E.1 hl rfl dL_law_690 rfl rfl ?_
  refine q_iconst (n := 692) E.1 dL_law_691 rfl ?_
  refine q_iadd (n := 693) E.1 dL_law_692 rfl ?_
  obtain ⟨g6, h⟩ := h
  refine q_sld (n := 694) E hW hX hbl g6 hL hxs dL_law_693 rfl ?_
  refine q_callVi (n := 697) (fs := (fs62 X)) [.int (jI (xs (x3 + 1).toNat)), .int (jI (xs (x3 + 2).toNat))] E hW hl.1 (by decide) (fun _ => rfl) K8 (c_X8_spoil l X E.2.2.1.1 (xs (x3 + 1).toNat) (xs (x3 + 2).toNat)  _ _ h) (by decide) Y_RL_101 rfl (rest := [.int (jI r4)]) rfl (Nat.le_of_ble_eq_true rfl) dL_law_694 rfl (fun r8 M7 H locs h hW => ?_)
  obtain ⟨g9, g10, h11, h12⟩ := h
  refine q_icmp_eq (t := 735) (n := 700) E.1 g9 g10 dL_law_697 (by decide) rfl (fun c13 => ?_) (fun c13 => ?_)
  · have h := h11 c13
    refine q_iinc (n := 738) (q := 3) [(3, .int (jI (x3 + 6))), (0, .ref b), (1, .ref (xA X 42)), (2, .ref (xA X 62))] E.1 hl rfl dL_law_735 (by decide) rfl rfl (fun ls hl => ?_)
    refine q_goto (n := 18) E.1 dL_law_738 (by decide) ?_
    exact Hk18 _ _ _ _ _ h hW (lv_sub hl [1, 2, 3, 0] rfl)
  · have h := h12 c13
    refine q_iconst (n := 701) E.1 dL_law_700 rfl ?_
    exact h.elim
def wp_L_law_702 (L : Nat) (xs : Nat → Int) (k18 : Int → Mem → Prop) (x3 : Int) (M : Mem) : Prop := (0 ≤ (x3 + 1) ∧ (x3 + 1) < (L : Int)) ∧ (0 ≤ (x3 + 2) ∧ (x3 + 2) < (L : Int)) ∧ wp_X7_label (xs (x3 + 1).toNat) (xs (x3 + 2).toNat) M (fun r4 M3 => (0 ≤ (x3 + 1) ∧ (x3 + 1) < (L : Int)) ∧ (0 ≤ (x3 + 2) ∧ (x3 + 2) < (L : Int)) ∧ wp_X8_label (xs (x3 + 1).toNat) (xs (x3 + 2).toNat) M3 (fun r8 M7 => (Rg r4 ∧ Rg r8 ∧ (r4 = r8 → k18 (x3 + 6) M7) ∧ (¬ (r4 = r8) → False))))
set_option maxHeartbeats 4000000 in
set_option maxRecDepth 100000 in
theorem v_L_law_702 {b L : Nat} {xs : Nat → Int} {xs32 : Nat → Int32} (hxs : ∀ j, xs j = (xs32 j).toInt) (hL : L < 2147483648) (hX : va_X b L xs32 s s.heap) (hbl : b < s.heap.size) {cells slots : Nat} (hcs : cells ≤ 600000 ∧ slots ≤ 7302250) (E : En X (fun q => s.heap.size ≤ q) 100 p room_1 s m #[Value.ref b] meth c cL_law RL 4 ret cells slots) (k18 : Int → Mem → Prop) (Hk18 : ∀ (x3 : Int) (M : Mem) (H : Heap) (locs : List Loc) (ls : Array Slot), k18 x3 M → Wd X (fun q => s.heap.size ≤ q) s M H locs → lv_has ls 4 [(0, .ref b), (1, .ref (xA X 42)), (2, .ref (xA X 62)), (3, .int (jI x3))] → W p l e room_1 s m #[Value.ref b] below meth c H locs cells slots (lw_Z below #[Value.ref b] s) (F0 m 18 ls [])) : ∀ (x3 : Int) (M : Mem) (H : Heap) (locs : List Loc) (ls : Array Slot), wp_L_law_702 L xs k18 x3 M → Wd X (fun q => s.heap.size ≤ q) s M H locs → lv_has ls 4 [(0, .ref b), (1, .ref (xA X 42)), (2, .ref (xA X 62)), (3, .int (jI x3))] → W p l e room_1 s m #[Value.ref b] below meth c H locs cells slots (lw_Z below #[Value.ref b] s) (F0 m 702 ls []) := by
  intro x3 M H locs ls h hW hl
  unfold wp_L_law_702 at h
  refine q_aload_n (n := 703) (q := 1) E.1 hl rfl dL_law_702 rfl rfl ?_
  refine q_aload_n (n := 704) (q := 0) E.1 hl rfl dL_law_703 rfl rfl ?_
  refine q_iload_n (n := 705) (q := 3) E.1 hl rfl dL_law_704 rfl rfl ?_
  refine q_iconst (n := 706) E.1 dL_law_705 rfl ?_
  refine q_iadd (n := 707) E.1 dL_law_706 rfl ?_
  obtain ⟨g1, h⟩ := h
  refine q_sld (n := 708) E hW hX hbl g1 hL hxs dL_law_707 rfl ?_
  refine q_aload_n (n := 709) (q := 0) E.1 hl rfl dL_law_708 rfl rfl ?_
  refine q_iload_n (n := 710) (q := 3) E.1 hl rfl dL_law_709 rfl rfl ?_
  refine q_iconst (n := 711) E.1 dL_law_710 rfl ?_
  refine q_iadd (n := 712) E.1 dL_law_711 rfl ?_
  obtain ⟨g2, h⟩ := h
  refine q_sld (n := 713) E hW hX hbl g2 hL hxs dL_law_712 rfl ?_
  refine q_callVi (n := 716) (fs := (fs42 X)) [.int (jI (xs (x3 + 1).toNat)), .int (jI (xs (x3 + 2).toNat))] E hW hl.1 (by decide) (fun _ => rfl) K7 (c_X7_label l X E.2.2.1.1 (xs (x3 + 1).toNat) (xs (x3 + 2).toNat)  _ _ h) (by decide) Y_RL_102 rfl (rest := []) rfl (Nat.le_of_ble_eq_true rfl) dL_law_713 rfl (fun r4 M3 H locs h hW => ?_)
  refine q_aload_n (n := 717) (q := 2) E.1 hl rfl dL_law_716 rfl rfl ?_
  refine q_aload_n (n := 718) (q := 0) E.1 hl rfl dL_law_717 rfl rfl ?_
  refine q_iload_n (n := 719) (q := 3) E.1 hl rfl dL_law_718 rfl rfl ?_
  refine q_iconst (n := 720) E.1 dL_law_719 rfl ?_
  refine q_iadd (n := 721) E.1 dL_law_720 rfl ?_
  obtain ⟨g5, h⟩ := h
  refine q_sld (n := 722) E hW hX hbl g5 hL hxs dL_law_721 rfl ?_
  refine q_aload_n (n := 723) (q := 0) E.1 hl rfl dL_law_722 rfl rfl ?_
  refine q_iload_n (n := 724) (q := 3) E.1 hl rfl dL_law_723 rfl rfl ?_
  refine q_iconst (n := 725) E.1 dL_law_724 rfl ?_
  refine q_iadd (n := 726) E.1 dL_law_725 rfl ?_
  obtain ⟨g6, h⟩ := h
  refine q_sld (n := 727) E hW hX hbl g6 hL hxs dL_law_726 rfl ?_
  refine q_callVi (n := 730) (fs := (fs62 X)) [.int (jI (xs (x3 + 1).toNat)), .int (jI (xs (x3 + 2).toNat))] E hW hl.1 (by decide) (fun _ => rfl) K8 (c_X8_label l X E.2.2.1.1 (xs (x3 + 1).toNat) (xs (x3 + 2).toNat)  _ _ h) (by decide) Y_RL_105 rfl (rest := [.int (jI r4)]) rfl (Nat.le_of_ble_eq_true rfl) dL_law_727 rfl (fun r8 M7 H locs h hW => ?_)
  obtain ⟨g9, g10, h11, h12⟩ := h
  refine q_icmp_eq (t := 735) (n := 733) E.1 g9 g10 dL_law_730 (by decide) rfl (fun c13 => ?_) (fun c13 => ?_)
  · have h := h11 c13
    refine q_iinc (n := 738) (q := 3) [(3, .int (jI (x3 + 6))), (0, .ref b), (1, .ref (xA X 42)), (2, .ref (xA X 62))] E.1 hl rfl dL_law_735 (by decide) rfl rfl (fun ls hl => ?_)
    refine q_goto (n := 18) E.1 dL_law_738 (by decide) ?_
    exact Hk18 _ _ _ _ _ h hW (lv_sub hl [1, 2, 3, 0] rfl)
  · have h := h12 c13
    refine q_iconst (n := 734) E.1 dL_law_733 rfl ?_
    exact h.elim
def wp_L_law_18 (L : Nat) (xs : Nat → Int) : Nat → Int → Mem → Prop
  | 0, _, _ => False
  | n + 1, x3, M => (Rg x3 ∧ Rg ((L : Int) - 6) ∧ (((L : Int) - 6) < x3 → True) ∧ (¬ (((L : Int) - 6) < x3) → (0 ≤ x3 ∧ x3 < (L : Int)) ∧ (Rg (bAnd (xs x3.toNat) 31) ∧ ((bAnd (xs x3.toNat) 31) = 0 → wp_L_law_132 L xs (fun x3 M => wp_L_law_18 L xs n x3 M) x3 M) ∧ ((bAnd (xs x3.toNat) 31) = 1 → wp_L_law_165 L xs (fun x3 M => wp_L_law_18 L xs n x3 M) x3 M) ∧ ((bAnd (xs x3.toNat) 31) = 2 → wp_L_law_228 L xs (fun x3 M => wp_L_law_18 L xs n x3 M) x3 M) ∧ ((bAnd (xs x3.toNat) 31) = 3 → wp_L_law_251 L xs (fun x3 M => wp_L_law_18 L xs n x3 M) x3 M) ∧ ((bAnd (xs x3.toNat) 31) = 4 → wp_L_law_284 L xs (fun x3 M => wp_L_law_18 L xs n x3 M) x3 M) ∧ ((bAnd (xs x3.toNat) 31) = 5 → wp_L_law_307 L xs (fun x3 M => wp_L_law_18 L xs n x3 M) x3 M) ∧ ((bAnd (xs x3.toNat) 31) = 6 → wp_L_law_320 L xs (fun x3 M => wp_L_law_18 L xs n x3 M) x3 M) ∧ ((bAnd (xs x3.toNat) 31) = 7 → wp_L_law_343 L xs (fun x3 M => wp_L_law_18 L xs n x3 M) x3 M) ∧ ((bAnd (xs x3.toNat) 31) = 8 → wp_L_law_366 L xs (fun x3 M => wp_L_law_18 L xs n x3 M) x3 M) ∧ ((bAnd (xs x3.toNat) 31) = 9 → wp_L_law_379 L xs (fun x3 M => wp_L_law_18 L xs n x3 M) x3 M) ∧ ((bAnd (xs x3.toNat) 31) = 10 → wp_L_law_392 L xs (fun x3 M => wp_L_law_18 L xs n x3 M) x3 M) ∧ ((bAnd (xs x3.toNat) 31) = 11 → wp_L_law_415 L xs (fun x3 M => wp_L_law_18 L xs n x3 M) x3 M) ∧ ((bAnd (xs x3.toNat) 31) = 12 → wp_L_law_428 L xs (fun x3 M => wp_L_law_18 L xs n x3 M) x3 M) ∧ ((bAnd (xs x3.toNat) 31) = 13 → wp_L_law_491 L xs (fun x3 M => wp_L_law_18 L xs n x3 M) x3 M) ∧ ((bAnd (xs x3.toNat) 31) = 14 → wp_L_law_524 L xs (fun x3 M => wp_L_law_18 L xs n x3 M) x3 M) ∧ ((bAnd (xs x3.toNat) 31) = 15 → wp_L_law_547 L xs (fun x3 M => wp_L_law_18 L xs n x3 M) x3 M) ∧ ((bAnd (xs x3.toNat) 31) = 16 → wp_L_law_580 L xs (fun x3 M => wp_L_law_18 L xs n x3 M) x3 M) ∧ ((bAnd (xs x3.toNat) 31) = 17 → wp_L_law_613 L xs (fun x3 M => wp_L_law_18 L xs n x3 M) x3 M) ∧ ((bAnd (xs x3.toNat) 31) = 18 → wp_L_law_636 L xs (fun x3 M => wp_L_law_18 L xs n x3 M) x3 M) ∧ ((bAnd (xs x3.toNat) 31) = 19 → wp_L_law_669 L xs (fun x3 M => wp_L_law_18 L xs n x3 M) x3 M) ∧ ((bAnd (xs x3.toNat) 31) = 20 → wp_L_law_702 L xs (fun x3 M => wp_L_law_18 L xs n x3 M) x3 M) ∧ (((bAnd (xs x3.toNat) 31) < 0 ∨ 20 < (bAnd (xs x3.toNat) 31)) → wp_L_law_18 L xs n (x3 + 6) M))))
set_option maxHeartbeats 4000000 in
set_option maxRecDepth 100000 in
theorem v_L_law_18 {b L : Nat} {xs : Nat → Int} {xs32 : Nat → Int32} (hxs : ∀ j, xs j = (xs32 j).toInt) (hL : L < 2147483648) (hX : va_X b L xs32 s s.heap) (hbl : b < s.heap.size) {cells slots : Nat} (hcs : cells ≤ 600000 ∧ slots ≤ 7302250) (E : En X (fun q => s.heap.size ≤ q) 100 p room_1 s m #[Value.ref b] meth c cL_law RL 4 ret cells slots) : ∀ n : Nat, ∀ (x3 : Int) (M : Mem) (H : Heap) (locs : List Loc) (ls : Array Slot), wp_L_law_18 L xs n x3 M → Wd X (fun q => s.heap.size ≤ q) s M H locs → lv_has ls 4 [(0, .ref b), (1, .ref (xA X 42)), (2, .ref (xA X 62)), (3, .int (jI x3))] → W p l e room_1 s m #[Value.ref b] below meth c H locs cells slots (lw_Z below #[Value.ref b] s) (F0 m 18 ls []) := by
  intro n
  induction n with
  | zero => intro x3 M H locs ls h; exact absurd h (by simp [wp_L_law_18])
  | succ n ih =>
    intro x3 M H locs ls h hW hl
    rw [wp_L_law_18] at h
    refine q_iload_n (n := 19) (q := 3) E.1 hl rfl dL_law_18 rfl rfl ?_
    refine q_aload_n (n := 20) (q := 0) E.1 hl rfl dL_law_19 rfl rfl ?_
    refine q_slen (n := 21) E hW hX hbl dL_law_20 rfl ?_
    refine q_bipush (n := 23) E.1 dL_law_21 (by decide) rfl ?_
    refine q_isub (n := 24) E.1 dL_law_23 rfl ?_
    obtain ⟨g1, g2, h3, h4⟩ := h
    refine q_icmp_gt (t := 741) (n := 27) E.1 g1 g2 dL_law_24 (by decide) rfl (fun c5 => ?_) (fun c5 => ?_)
    · have h := h3 c5
      refine q_iconst (n := 742) E.1 dL_law_741 rfl ?_
      exact q_lret E hW hcs dL_law_742
    · have h := h4 c5
      refine q_aload_n (n := 28) (q := 0) E.1 hl rfl dL_law_27 rfl rfl ?_
      refine q_iload_n (n := 29) (q := 3) E.1 hl rfl dL_law_28 rfl rfl ?_
      obtain ⟨g6, h⟩ := h
      refine q_sld (n := 30) E hW hX hbl g6 hL hxs dL_law_29 rfl ?_
      refine q_bipush (n := 32) E.1 dL_law_30 (by decide) rfl ?_
      refine q_iand (n := 33) E.1 dL_law_32 rfl ?_
      obtain ⟨g7, h8, h9, h10, h11, h12, h13, h14, h15, h16, h17, h18, h19, h20, h21, h22, h23, h24, h25, h26, h27, h28, h29⟩ := h
      by_cases c30 : (bAnd (xs x3.toNat) 31) = 0
      · have h := h8 c30
        refine q_tin (t := 132) 0 E c30 (by decide) dL_law_33 (by decide) rfl (by decide) ?_
        exact v_L_law_132 hxs hL hX hbl hcs E _ ih _ _ _ _ _ h hW (lv_sub hl [0, 1, 2, 3] rfl)
      by_cases c31 : (bAnd (xs x3.toNat) 31) = 1
      · have h := h9 c31
        refine q_tin (t := 165) 1 E c31 (by decide) dL_law_33 (by decide) rfl (by decide) ?_
        exact v_L_law_165 hxs hL hX hbl hcs E _ ih _ _ _ _ _ h hW (lv_sub hl [0, 1, 2, 3] rfl)
      by_cases c32 : (bAnd (xs x3.toNat) 31) = 2
      · have h := h10 c32
        refine q_tin (t := 228) 2 E c32 (by decide) dL_law_33 (by decide) rfl (by decide) ?_
        exact v_L_law_228 hxs hL hX hbl hcs E _ ih _ _ _ _ _ h hW (lv_sub hl [0, 1, 2, 3] rfl)
      by_cases c33 : (bAnd (xs x3.toNat) 31) = 3
      · have h := h11 c33
        refine q_tin (t := 251) 3 E c33 (by decide) dL_law_33 (by decide) rfl (by decide) ?_
        exact v_L_law_251 hxs hL hX hbl hcs E _ ih _ _ _ _ _ h hW (lv_sub hl [0, 1, 2, 3] rfl)
      by_cases c34 : (bAnd (xs x3.toNat) 31) = 4
      · have h := h12 c34
        refine q_tin (t := 284) 4 E c34 (by decide) dL_law_33 (by decide) rfl (by decide) ?_
        exact v_L_law_284 hxs hL hX hbl hcs E _ ih _ _ _ _ _ h hW (lv_sub hl [0, 1, 2, 3] rfl)
      by_cases c35 : (bAnd (xs x3.toNat) 31) = 5
      · have h := h13 c35
        refine q_tin (t := 307) 5 E c35 (by decide) dL_law_33 (by decide) rfl (by decide) ?_
        exact v_L_law_307 hxs hL hX hbl hcs E _ ih _ _ _ _ _ h hW (lv_sub hl [0, 1, 2, 3] rfl)
      by_cases c36 : (bAnd (xs x3.toNat) 31) = 6
      · have h := h14 c36
        refine q_tin (t := 320) 6 E c36 (by decide) dL_law_33 (by decide) rfl (by decide) ?_
        exact v_L_law_320 hxs hL hX hbl hcs E _ ih _ _ _ _ _ h hW (lv_sub hl [0, 1, 2, 3] rfl)
      by_cases c37 : (bAnd (xs x3.toNat) 31) = 7
      · have h := h15 c37
        refine q_tin (t := 343) 7 E c37 (by decide) dL_law_33 (by decide) rfl (by decide) ?_
        exact v_L_law_343 hxs hL hX hbl hcs E _ ih _ _ _ _ _ h hW (lv_sub hl [0, 1, 2, 3] rfl)
      by_cases c38 : (bAnd (xs x3.toNat) 31) = 8
      · have h := h16 c38
        refine q_tin (t := 366) 8 E c38 (by decide) dL_law_33 (by decide) rfl (by decide) ?_
        exact v_L_law_366 hxs hL hX hbl hcs E _ ih _ _ _ _ _ h hW (lv_sub hl [0, 1, 2, 3] rfl)
      by_cases c39 : (bAnd (xs x3.toNat) 31) = 9
      · have h := h17 c39
        refine q_tin (t := 379) 9 E c39 (by decide) dL_law_33 (by decide) rfl (by decide) ?_
        exact v_L_law_379 hxs hL hX hbl hcs E _ ih _ _ _ _ _ h hW (lv_sub hl [0, 1, 2, 3] rfl)
      by_cases c40 : (bAnd (xs x3.toNat) 31) = 10
      · have h := h18 c40
        refine q_tin (t := 392) 10 E c40 (by decide) dL_law_33 (by decide) rfl (by decide) ?_
        exact v_L_law_392 hxs hL hX hbl hcs E _ ih _ _ _ _ _ h hW (lv_sub hl [0, 1, 2, 3] rfl)
      by_cases c41 : (bAnd (xs x3.toNat) 31) = 11
      · have h := h19 c41
        refine q_tin (t := 415) 11 E c41 (by decide) dL_law_33 (by decide) rfl (by decide) ?_
        exact v_L_law_415 hxs hL hX hbl hcs E _ ih _ _ _ _ _ h hW (lv_sub hl [0, 1, 2, 3] rfl)
      by_cases c42 : (bAnd (xs x3.toNat) 31) = 12
      · have h := h20 c42
        refine q_tin (t := 428) 12 E c42 (by decide) dL_law_33 (by decide) rfl (by decide) ?_
        exact v_L_law_428 hxs hL hX hbl hcs E _ ih _ _ _ _ _ h hW (lv_sub hl [0, 1, 2, 3] rfl)
      by_cases c43 : (bAnd (xs x3.toNat) 31) = 13
      · have h := h21 c43
        refine q_tin (t := 491) 13 E c43 (by decide) dL_law_33 (by decide) rfl (by decide) ?_
        exact v_L_law_491 hxs hL hX hbl hcs E _ ih _ _ _ _ _ h hW (lv_sub hl [0, 1, 2, 3] rfl)
      by_cases c44 : (bAnd (xs x3.toNat) 31) = 14
      · have h := h22 c44
        refine q_tin (t := 524) 14 E c44 (by decide) dL_law_33 (by decide) rfl (by decide) ?_
        exact v_L_law_524 hxs hL hX hbl hcs E _ ih _ _ _ _ _ h hW (lv_sub hl [0, 1, 2, 3] rfl)
      by_cases c45 : (bAnd (xs x3.toNat) 31) = 15
      · have h := h23 c45
        refine q_tin (t := 547) 15 E c45 (by decide) dL_law_33 (by decide) rfl (by decide) ?_
        exact v_L_law_547 hxs hL hX hbl hcs E _ ih _ _ _ _ _ h hW (lv_sub hl [0, 1, 2, 3] rfl)
      by_cases c46 : (bAnd (xs x3.toNat) 31) = 16
      · have h := h24 c46
        refine q_tin (t := 580) 16 E c46 (by decide) dL_law_33 (by decide) rfl (by decide) ?_
        exact v_L_law_580 hxs hL hX hbl hcs E _ ih _ _ _ _ _ h hW (lv_sub hl [0, 1, 2, 3] rfl)
      by_cases c47 : (bAnd (xs x3.toNat) 31) = 17
      · have h := h25 c47
        refine q_tin (t := 613) 17 E c47 (by decide) dL_law_33 (by decide) rfl (by decide) ?_
        exact v_L_law_613 hxs hL hX hbl hcs E _ ih _ _ _ _ _ h hW (lv_sub hl [0, 1, 2, 3] rfl)
      by_cases c48 : (bAnd (xs x3.toNat) 31) = 18
      · have h := h26 c48
        refine q_tin (t := 636) 18 E c48 (by decide) dL_law_33 (by decide) rfl (by decide) ?_
        exact v_L_law_636 hxs hL hX hbl hcs E _ ih _ _ _ _ _ h hW (lv_sub hl [0, 1, 2, 3] rfl)
      by_cases c49 : (bAnd (xs x3.toNat) 31) = 19
      · have h := h27 c49
        refine q_tin (t := 669) 19 E c49 (by decide) dL_law_33 (by decide) rfl (by decide) ?_
        exact v_L_law_669 hxs hL hX hbl hcs E _ ih _ _ _ _ _ h hW (lv_sub hl [0, 1, 2, 3] rfl)
      by_cases c50 : (bAnd (xs x3.toNat) 31) = 20
      · have h := h28 c50
        refine q_tin (t := 702) 20 E c50 (by decide) dL_law_33 (by decide) rfl (by decide) ?_
        exact v_L_law_702 hxs hL hX hbl hcs E _ ih _ _ _ _ _ h hW (lv_sub hl [0, 1, 2, 3] rfl)
      have c51 : (bAnd (xs x3.toNat) 31) < 0 ∨ 20 < (bAnd (xs x3.toNat) 31) := by omega
      have h := h29 c51
      refine q_tout (t := 735) E g7 c51 dL_law_33 (by decide) ?_
      refine q_iinc (n := 738) (q := 3) [(3, .int (jI (x3 + 6))), (0, .ref b), (1, .ref (xA X 42)), (2, .ref (xA X 62))] E.1 hl rfl dL_law_735 (by decide) rfl rfl (fun ls hl => ?_)
      refine q_goto (n := 18) E.1 dL_law_738 (by decide) ?_
      exact ih _ _ _ _ _ h hW (lv_sub hl [1, 2, 3, 0] rfl)
end
