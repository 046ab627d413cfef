/-! rows over the fixed memory: fields, arrays, calls, returns, switches -/
def ClsOK (ci : Nat) (C : String) (T : u_T) (N : Nat) (ty : Nat → FieldType) : Prop := vwCl[ci]? = some (C, T, N) ∧ (∀ w ∈ u_ws C T N, w ∈ gtbl) ∧ (∀ k, k < N → parseFieldDescriptor (T k).2.2.1 = some (ty k)) ∧ (∀ a, a < N → ∀ b, b < N → a ≠ b → (T a).2.1 ≠ (T b).2.1)
theorem K0 : ClsOK 0 RX0 TX0 10 tyX0 := ⟨rfl, in0, tyX0_ok, nmX0⟩
theorem K1 : ClsOK 1 RX1 TX1 5 tyX1 := ⟨rfl, in1, tyX1_ok, nmX1⟩
theorem K2 : ClsOK 2 RX2 TX2 7 tyX2 := ⟨rfl, in2, tyX2_ok, nmX2⟩
theorem K3 : ClsOK 3 RX3 TX3 4 tyX3 := ⟨rfl, in3, tyX3_ok, nmX3⟩
theorem K4 : ClsOK 4 RX4 TX4 2 tyX4 := ⟨rfl, in4, tyX4_ok, nmX4⟩
theorem K5 : ClsOK 5 RX5 TX5 3 tyX5 := ⟨rfl, in5, tyX5_ok, nmX5⟩
theorem K6 : ClsOK 6 RX6 TX6 8 tyX6 := ⟨rfl, in6, tyX6_ok, nmX6⟩
theorem K7 : ClsOK 7 RX7 TX7 7 tyX7 := ⟨rfl, in7, tyX7_ok, nmX7⟩
theorem K8 : ClsOK 8 RX8 TX8 46 tyX8 := ⟨rfl, in8, tyX8_ok, nmX8⟩
theorem jI_ix {i : Int} {n : Nat} (h : 0 ≤ i ∧ i < n) (hn : n < 2147483648) : vp_in (jI i) n ∧ (jI i).toNatClampNeg = i.toNat := by
  have h1 := h.1
  have h2 := h.2
  have hr : Rg i := ⟨by omega, by omega⟩
  refine ⟨vp_in_iff.mpr (by rw [jI_toInt hr]; exact h), ?_⟩
  show (jI i).toInt.toNat = i.toNat
  rw [jI_toInt hr]
theorem upr_fun (r : Nat → Int) (i : Nat) (v : Int) : upd (fun j => jI (r j)) i (jI v) = fun j => jI (upr r i v j) := by
  funext j
  simp only [upd, upr]
  split <;> rfl
theorem upr_funL (r : Nat → Int) (i : Nat) (v : Int) : vp_updL (fun j => jL (r j)) i (jL v) = fun j => jL (upr r i v j) := by
  funext j
  simp only [vp_updL, upr]
  split <;> rfl
theorem nar_bool {v : Int} (h : v = 0 ∨ v = 1) : narrow .boolean (.int (jI v)) = .int (jI v) := by rcases h with rfl | rfl <;> rfl
theorem fit_bool {v : Int} (h : v = 0 ∨ v = 1) : fits .boolean (.int (jI v)) = true := by rcases h with rfl | rfl <;> rfl
theorem vnar_bool {v : Int} (h : v = 0 ∨ v = 1) : vp_nar .boolean (jI v) = jI v := by rcases h with rfl | rfl <;> rfl
section QH
variable {X : Cx} {A : Nat → Prop} {d : Nat} {p : Program} {l : Launch} {e : Env} {R : Room} {s : State} {m : MethodId} {args : Array Value} {below : List Frame} {meth : Method} {c : Code} {cc : ByteArray} {own : String} {nL : Nat} {ret : Option FieldType} {H : Heap} {locs : List Loc} {cells slots : Nat} {Q : State → Prop} {pc n : Nat} {ls : Array Slot} {rest : List Value} {M : Mem}
theorem q_get {o ci N k i : Nat} {C ref : String} {T : u_T} {ty : Nat → FieldType} {fs : (Nat → Int) → List Value} {v : Value} (E : En X A d p R s m args meth c cc own nL ret cells slots) (hW : Wd X A s M H locs) (ho : o < NC) (he : ∀ r, entR X o r = .inr (ci, fs r)) (K : ClsOK ci C T N ty) (hk : k < N) (hw : Cond.fieldLink own i ref (T k).2.1 (T k).2.2.1 ∈ gtbl) (href : (T k).1 = ref) (hv : (fs (M o))[k]? = some v) (hd : decode cc pc = .ok (.getfield i, 3)) (hn : pc + 3 = n) (kk : W p l e R s m args below meth c H locs cells slots Q (F0 m n ls (v :: rest))) : W p l e R s m args below meth c H locs cells slots Q (F0 m pc ls (.ref (xA X o) :: rest)) := by
  subst hn
  subst href
  exact va_get (D := xD X) (ci := ci) (v := v) (C := C) (T := T) (N := N) E.1.1 E.1.2.1 E.1.2.2.2.2 K.2.1 E.1.2.2.2.1 E.2.1.1 hW.1 o ((pic_get X M ho).trans (by rw [he])) K.1 k hk (E.1.2.2.2.2 _ hw) (fun _ h => h) hv hd kk
theorem q_getN {o ci N k i : Nat} {C ref host : String} {T : u_T} {ty : Nat → FieldType} {fs : (Nat → Int) → List Value} {v : Value} (E : En X A d p R s m args meth c cc own nL ret cells slots) (hW : Wd X A s M H locs) (ho : o < NC) (he : ∀ r, entR X o r = .inr (ci, fs r)) (K : ClsOK ci C T N ty) (hk : k < N) (j : Nat) (hw : nstl[j]? = some (Cond.fieldLinkNest own i ref (T k).2.1 (T k).2.2.1 host)) (href : (T k).1 = ref) (hv : (fs (M o))[k]? = some v) (hd : decode cc pc = .ok (.getfield i, 3)) (hn : pc + 3 = n) (kk : W p l e R s m args below meth c H locs cells slots Q (F0 m n ls (v :: rest))) : W p l e R s m args below meth c H locs cells slots Q (F0 m pc ls (.ref (xA X o) :: rest)) := by
  subst hn
  subst href
  exact va_getN (D := xD X) (ci := ci) (v := v) (C := C) (T := T) (N := N) E.1.1 E.1.2.1 E.1.2.2.2.2 K.2.1 E.1.2.2.2.1 E.2.1.1 hW.1 o ((pic_get X M ho).trans (by rw [he])) K.1 k hk (nst_use E.2.1.2.1 j hw rfl) (fun _ h => h) hv hd kk
theorem q_put {o ci N k i : Nat} {C ref : String} {T : u_T} {ty : Nat → FieldType} {fs : (Nat → Int) → List Value} {v : Int} (E : En X A d p R s m args meth c cc own nL ret cells slots) (hW : Wd X A s M H locs) (ho : o < NC) (he : ∀ r, entR X o r = .inr (ci, fs r)) (K : ClsOK ci C T N ty) (hk : k < N) (hw : Cond.fieldLink own i ref (T k).2.1 (T k).2.2.1 ∈ gtbl) (href : (T k).1 = ref) (hfin : (T k).2.2.2 = false) (hnf : narrow (ty k) (.int (jI v)) = .int (jI v) ∧ fits (ty k) (.int (jI v)) = true) (hl : k < (fs (M o)).length) (hset : ∀ r : Nat → Int, fs (upr r k v) = (fs r).set k (.int (jI v))) (hd : decode cc pc = .ok (.putfield i, 3)) (hn : pc + 3 = n) (kk : ∀ (H : Heap) (locs : List Loc), Wd X A s (up M o k v) H locs → W p l e R s m args below meth c H locs cells slots Q (F0 m n ls rest)) : W p l e R s m args below meth c H locs cells slots Q (F0 m pc ls (.int (jI v) :: .ref (xA X o) :: rest)) := by
  subst hn
  subst href
  refine va_put (D := xD X) (ci := ci) (v := .int (jI v)) (ty := ty k) (C := C) (T := T) (N := N) E.1.1 E.1.2.1 E.1.2.2.2.2 K.2.1 ty K.2.2.1 K.2.2.2 E.1.2.2.2.1 E.2.1.1 hW.1 (pic_D E.2.2.1.1 E.2.2.1.2) hW.2 o ((pic_get X M ho).trans (by rw [he])) K.1 k hk (E.1.2.2.2.2 _ hw) (fun _ h => h) hfin (K.2.2.1 k hk) hnf.1 hnf.2 hl hd (fun H1 locs1 hP1 _ hS1 => kk H1 locs1 ⟨?_, hS1⟩)
  rw [pic_set X M (i := k) (v := v) ho (by rw [he, hset])] at hP1
  exact hP1
theorem q_iald {a len : Nat} {i : Int} (E : En X A d p R s m args meth c cc own nL ret cells slots) (hW : Wd X A s M H locs) (ha : a < NC) (he : ∀ r, entR X a r = arI X len r) (hlen : len < 2147483648) (hi : 0 ≤ i ∧ i < len) (hd : decode cc pc = .ok (.iaload, 1)) (hn : pc + 1 = n) (kk : W p l e R s m args below meth c H locs cells slots Q (F0 m n ls (.int (jI (M a i.toNat)) :: rest))) : W p l e R s m args below meth c H locs cells slots Q (F0 m pc ls (.int (jI i) :: .ref (xA X a) :: rest)) := by
  subst hn
  obtain ⟨h1, h2⟩ := jI_ix hi hlen
  exact va_iald (D := xD X) (f := fun j => jI (M a j)) E.1.1 E.1.2.1 E.2.1.1 hW.1 a 0 ((pic_get X M ha).trans (by rw [he]; rfl)) rfl h1 hd (by rw [h2]; exact kk)
theorem q_zald {a len : Nat} {i : Int} (E : En X A d p R s m args meth c cc own nL ret cells slots) (hW : Wd X A s M H locs) (ha : a < NC) (he : ∀ r, entR X a r = arZ X len r) (hlen : len < 2147483648) (hi : 0 ≤ i ∧ i < len) (hd : decode cc pc = .ok (.baload, 1)) (hn : pc + 1 = n) (kk : W p l e R s m args below meth c H locs cells slots Q (F0 m n ls (.int (jI (M a i.toNat)) :: rest))) : W p l e R s m args below meth c H locs cells slots Q (F0 m pc ls (.int (jI i) :: .ref (xA X a) :: rest)) := by
  subst hn
  obtain ⟨h1, h2⟩ := jI_ix hi hlen
  exact va_zald (D := xD X) (f := fun j => jI (M a j)) E.1.1 E.1.2.1 E.2.1.1 hW.1 a 1 ((pic_get X M ha).trans (by rw [he]; rfl)) rfl h1 hd (by rw [h2]; exact kk)
theorem q_lald {a len : Nat} {i : Int} (E : En X A d p R s m args meth c cc own nL ret cells slots) (hW : Wd X A s M H locs) (ha : a < NC) (he : ∀ r, entR X a r = arJ X len r) (hlen : len < 2147483648) (hi : 0 ≤ i ∧ i < len) (hd : decode cc pc = .ok (.laload, 1)) (hn : pc + 1 = n) (kk : W p l e R s m args below meth c H locs cells slots Q (F0 m n ls (.long (jL (M a i.toNat)) :: rest))) : W p l e R s m args below meth c H locs cells slots Q (F0 m pc ls (.int (jI i) :: .ref (xA X a) :: rest)) := by
  subst hn
  obtain ⟨h1, h2⟩ := jI_ix hi hlen
  exact va_lald (D := xD X) (f := fun j => jL (M a j)) E.1.1 E.1.2.1 E.2.1.1 hW.1 a 2 ((pic_get X M ha).trans (by rw [he]; rfl)) rfl h1 hd (by rw [h2]; exact kk)
theorem q_aald {a len : Nat} {i : Int} {f : Nat → Nat} (E : En X A d p R s m args meth c cc own nL ret cells slots) (hW : Wd X A s M H locs) (ha : a < NC) (he : ∀ r, entR X a r = arR X len f) (hlen : len < 2147483648) (hi : 0 ≤ i ∧ i < len) (hd : decode cc pc = .ok (.aaload, 1)) (hn : pc + 1 = n) (kk : W p l e R s m args below meth c H locs cells slots Q (F0 m n ls (.ref (xA X (f i.toNat)) :: rest))) : W p l e R s m args below meth c H locs cells slots Q (F0 m pc ls (.int (jI i) :: .ref (xA X a) :: rest)) := by
  subst hn
  obtain ⟨h1, h2⟩ := jI_ix hi hlen
  exact va_aldq (D := xD X) (C := "StickerPress$Row") (f := fun j => some (xA X (f j))) E.1.1 E.1.2.1 E.2.1.1 hW.1 a 3 ((pic_get X M ha).trans (by rw [he]; rfl)) rfl h1 hd (by rw [h2]; exact kk)
theorem q_iast {a len : Nat} {i v : Int} (E : En X A d p R s m args meth c cc own nL ret cells slots) (hW : Wd X A s M H locs) (ha : a < NC) (he : ∀ r, entR X a r = arI X len r) (hlen : len < 2147483648) (hi : 0 ≤ i ∧ i < len) (hd : decode cc pc = .ok (.iastore, 1)) (hn : pc + 1 = n) (kk : ∀ (H : Heap) (locs : List Loc), Wd X A s (up M a i.toNat v) H locs → W p l e R s m args below meth c H locs cells slots Q (F0 m n ls rest)) : W p l e R s m args below meth c H locs cells slots Q (F0 m pc ls (.int (jI v) :: .int (jI i) :: .ref (xA X a) :: rest)) := by
  subst hn
  obtain ⟨h1, h2⟩ := jI_ix hi hlen
  refine va_iast (D := xD X) (f := fun j => jI (M a j)) E.1.1 E.1.2.1 E.2.1.1 hW.1 (pic_D E.2.2.1.1 E.2.2.1.2) hW.2 a 0 ((pic_get X M ha).trans (by rw [he]; rfl)) rfl h1 hd (fun H1 locs1 hP1 _ hS1 => kk H1 locs1 ⟨?_, hS1⟩)
  rw [h2, upr_fun, pic_set X M (i := i.toNat) (v := v) ha (by rw [he]; rfl)] at hP1
  exact hP1
theorem q_zast {a len : Nat} {i v : Int} (E : En X A d p R s m args meth c cc own nL ret cells slots) (hW : Wd X A s M H locs) (ha : a < NC) (he : ∀ r, entR X a r = arZ X len r) (hlen : len < 2147483648) (hi : 0 ≤ i ∧ i < len) (hv : v = 0 ∨ v = 1) (hd : decode cc pc = .ok (.bastore, 1)) (hn : pc + 1 = n) (kk : ∀ (H : Heap) (locs : List Loc), Wd X A s (up M a i.toNat v) H locs → W p l e R s m args below meth c H locs cells slots Q (F0 m n ls rest)) : W p l e R s m args below meth c H locs cells slots Q (F0 m pc ls (.int (jI v) :: .int (jI i) :: .ref (xA X a) :: rest)) := by
  subst hn
  obtain ⟨h1, h2⟩ := jI_ix hi hlen
  refine va_zast (D := xD X) (f := fun j => jI (M a j)) E.1.1 E.1.2.1 E.2.1.1 hW.1 (pic_D E.2.2.1.1 E.2.2.1.2) hW.2 a 1 ((pic_get X M ha).trans (by rw [he]; rfl)) rfl h1 hd (fun H1 locs1 hP1 _ hS1 => kk H1 locs1 ⟨?_, hS1⟩)
  rw [h2, vnar_bool hv, upr_fun, pic_set X M (i := i.toNat) (v := v) ha (by rw [he]; rfl)] at hP1
  exact hP1
theorem q_last {a len : Nat} {i v : Int} (E : En X A d p R s m args meth c cc own nL ret cells slots) (hW : Wd X A s M H locs) (ha : a < NC) (he : ∀ r, entR X a r = arJ X len r) (hlen : len < 2147483648) (hi : 0 ≤ i ∧ i < len) (hd : decode cc pc = .ok (.lastore, 1)) (hn : pc + 1 = n) (kk : ∀ (H : Heap) (locs : List Loc), Wd X A s (up M a i.toNat v) H locs → W p l e R s m args below meth c H locs cells slots Q (F0 m n ls rest)) : W p l e R s m args below meth c H locs cells slots Q (F0 m pc ls (.long (jL v) :: .int (jI i) :: .ref (xA X a) :: rest)) := by
  subst hn
  obtain ⟨h1, h2⟩ := jI_ix hi hlen
  refine va_last (D := xD X) (f := fun j => jL (M a j)) E.1.1 E.1.2.1 E.2.1.1 hW.1 (pic_D E.2.2.1.1 E.2.2.1.2) hW.2 a 2 ((pic_get X M ha).trans (by rw [he]; rfl)) rfl h1 hd (fun H1 locs1 hP1 _ hS1 => kk H1 locs1 ⟨?_, hS1⟩)
  rw [h2, upr_funL, pic_set X M (i := i.toNat) (v := v) ha (by rw [he]; rfl)] at hP1
  exact hP1
theorem q_alen {a len : Nat} (E : En X A d p R s m args meth c cc own nL ret cells slots) (hW : Wd X A s M H locs) (ha : a < NC) (he : ∀ r, entR X a r = arI X len r) (hd : decode cc pc = .ok (.arraylength, 1)) (hn : pc + 1 = n) (kk : W p l e R s m args below meth c H locs cells slots Q (F0 m n ls (.int (jI (len : Int)) :: rest))) : W p l e R s m args below meth c H locs cells slots Q (F0 m pc ls (.ref (xA X a) :: rest)) := by
  subst hn
  exact va_alen (D := xD X) (x := (len, .inl (fun j => jI (M a j)))) E.1.1 E.1.2.1 E.2.1.1 hW.1 a 0 ((pic_get X M ha).trans (by rw [he]; rfl)) (ty := .int) rfl (v := jI (len : Int)) rfl hd kk
theorem q_gets {i : Nat} {host : String} (E : En X A d p R s m args meth c cc own nL ret cells slots) (hW : Wd X A s M H locs) (j : Nat) (hw : nstl[j]? = some (Cond.fieldLinkNest own i "StickerPress" "DIGIT_CODES" "[I" host)) (hd : decode cc pc = .ok (.getstatic i, 3)) (hn : pc + 3 = n) (kk : W p l e R s m args below meth c H locs cells slots Q (F0 m n ls (.ref (xT X) :: rest))) : W p l e R s m args below meth c H locs cells slots Q (F0 m pc ls rest) := by
  subst hn
  exact va_getsN E.1.1 E.1.2.1 E.2.1.2.2.1 hW.2 E.1.2.2.2.1 (nst_use E.2.1.2.1 j hw rfl) (fun _ h => h) hd kk
theorem q_tald {i : Int} (E : En X A d p R s m args meth c cc own nL ret cells slots) (hW : Wd X A s M H locs) (hi : 0 ≤ i ∧ i < 10) (hd : decode cc pc = .ok (.iaload, 1)) (hn : pc + 1 = n) (kk : W p l e R s m args below meth c H locs cells slots Q (F0 m n ls (.int (jI (dcode i.toNat)) :: rest))) : W p l e R s m args below meth c H locs cells slots Q (F0 m pc ls (.int (jI i) :: .ref (xT X) :: rest)) := by
  subst hn
  obtain ⟨h1, h2⟩ := jI_ix (n := 10) hi (by decide)
  exact va_ti E.1.1 E.1.2.1 E.2.1.2.2.2 hW.2 h1 (by rw [h2]) hd kk
theorem q_tlen (E : En X A d p R s m args meth c cc own nL ret cells slots) (hW : Wd X A s M H locs) (hd : decode cc pc = .ok (.arraylength, 1)) (hn : pc + 1 = n) (kk : W p l e R s m args below meth c H locs cells slots Q (F0 m n ls (.int (jI 10) :: rest))) : W p l e R s m args below meth c H locs cells slots Q (F0 m pc ls (.ref (xT X) :: rest)) := by
  subst hn
  exact va_tlen E.1.1 E.1.2.1 E.2.1.2.2.2 hW.2 rfl hd kk
/-! returns -/
theorem q_iret {v : Int} {QQ : Int → Mem → Prop} (E : En X (AW X) d p R s m args meth c cc own nL (some .int) 0 0) (hW : Wd X (AW X) s M H locs) (h : QQ v M) (hd : decode cc pc = .ok (.ireturn, 1)) : W p l e R s m args below meth c H locs 0 0 (MQ below (QI X QQ) args s 0 0 (AW X)) (F0 m pc ls [.int (jI v)]) :=
  W.iret (v := jI v) E.1.1 E.1.2.1 E.2.2.2.1.1 (fun t ht _ => ⟨⟨jI v, M, rfl, ⟨v, rfl, h⟩, by show va_P _ _ _ t.heap; rw [ht]; exact hW.1⟩, hW.2.F ht⟩) hW.2.2.2 hd E.2.2.2.1.2
theorem q_zret {v : Int} {QQ : Int → Mem → Prop} (E : En X (AW X) d p R s m args meth c cc own nL (some .boolean) 0 0) (hW : Wd X (AW X) s M H locs) (hv : v = 0 ∨ v = 1) (h : QQ v M) (hd : decode cc pc = .ok (.ireturn, 1)) : W p l e R s m args below meth c H locs 0 0 (MQ below (QI X QQ) args s 0 0 (AW X)) (F0 m pc ls [.int (jI v)]) :=
  W.zret (v := jI v) E.1.1 E.1.2.1 E.2.2.2.1.1 (nar_bool hv) (fun t ht _ => ⟨⟨jI v, M, rfl, ⟨v, rfl, h⟩, by show va_P _ _ _ t.heap; rw [ht]; exact hW.1⟩, hW.2.F ht⟩) hW.2.2.2 hd E.2.2.2.1.2
theorem q_vret {QQ : Mem → Prop} (E : En X (AW X) d p R s m args meth c cc own nL none 0 0) (hW : Wd X (AW X) s M H locs) (h : QQ M) (hd : decode cc pc = .ok (.return_, 1)) : W p l e R s m args below meth c H locs 0 0 (MQ below (QV X QQ) args s 0 0 (AW X)) (F0 m pc ls []) :=
  W.vret E.1.1 E.1.2.1 E.2.2.2.1.1 (fun t ht _ => ⟨⟨M, rfl, h, by show va_P _ _ _ t.heap; rw [ht]; exact hW.1⟩, hW.2.F ht⟩) hW.2.2.2 hd E.2.2.2.1.2
/-! calls -/
theorem gt_app {y : MethodName} {c2 : ByteArray} {nL2 : Nat} {ret2 : Option FieldType} (hcode : Cond.code y c2 nL2 ret2 ∈ gtbl) : GoodIn gtbl (Cond.code y c2 nL2 ret2 :: gtbl) := by
  intro w hw
  have h1 : w ∈ gtbl := by
    rcases List.mem_cons.mp hw with h | h
    · rw [h]; exact hcode
    · exact h
  exact ⟨h1, good_of_word (gtbl_good w h1)⟩
theorem rmd_ok {d d2 nL2 : Nat} {R : Room} (h : d2 + 1 ≤ d) (hm : nL2 ≤ 20) (h1 : d ≤ R.frames) (h2 : 40 * d ≤ R.locals) : (rmd d2).frames + 1 ≤ R.frames ∧ 8 + (nL2 + 11) + (rmd d2).locals ≤ R.locals := by
  unfold rmd
  dsimp only
  omega
/-- what a caller knows of a callee's tables -/
def YV (own : String) (i : Nat) (C : String) (y : MethodName) (c2 : ByteArray) (nL2 : Nat) (ret2 : Option FieldType) (k : Nat) : Prop := Cond.code y c2 nL2 ret2 ∈ gtbl ∧ Cond.methodLink own i y ∈ gtbl ∧ Cond.instanceMethod y ∈ gtbl ∧ Cond.selects C y y ∈ gtbl ∧ Cond.initialized y.cls ∈ gtbl ∧ (y.cls ≠ "java/lang/invoke/MethodHandle" ∧ y.cls ≠ "java/lang/invoke/VarHandle" ∧ (parseMethodDescriptor y.desc).map (fun d => d.parameters.length) = some k) ∧ nL2 ≤ 20
def YS (own : String) (i : Nat) (y : MethodName) (c2 : ByteArray) (nL2 : Nat) (ret2 : Option FieldType) (k : Nat) : Prop := Cond.code y c2 nL2 ret2 ∈ gtbl ∧ Cond.methodLink own i y ∈ gtbl ∧ Cond.static y ∈ gtbl ∧ Cond.initialized y.cls ∈ gtbl ∧ (y.cls ≠ "java/lang/invoke/MethodHandle" ∧ y.cls ≠ "java/lang/invoke/VarHandle" ∧ (parseMethodDescriptor y.desc).map (fun d => d.parameters.length) = some k) ∧ nL2 ≤ 20
def YN (own : String) (i : Nat) (y : MethodName) (c2 : ByteArray) (nL2 : Nat) (ret2 : Option FieldType) (k : Nat) (host : String) : Prop := Cond.code y c2 nL2 ret2 ∈ gtbl ∧ Cond.methodLinkNest own i y host ∈ nstl ∧ Cond.static y ∈ gtbl ∧ Cond.initialized y.cls ∈ gtbl ∧ (y.cls ≠ "java/lang/invoke/MethodHandle" ∧ y.cls ≠ "java/lang/invoke/VarHandle" ∧ (parseMethodDescriptor y.desc).map (fun d => d.parameters.length) = some k) ∧ nL2 ≤ 20
theorem CP_ready (E : En X A d p R s m args meth c cc own nL ret cells slots) (hW : Wd X A s M H locs) : ∀ U : State, U.heap = H → s.WarmedH U.vm → CP X M U := fun U hU hV => ⟨by rw [hU]; exact hW.1, E.2.1.call E.2.2.1.2 hW.2 hU hV⟩
theorem recv_ok {o ci N : Nat} {C : String} {T : u_T} {ty : Nat → FieldType} {fs : (Nat → Int) → List Value} (E : En X A d p R s m args meth c cc own nL ret cells slots) (hW : Wd X A s M H locs) (ho : o < NC) (he : ∀ r, entR X o r = .inr (ci, fs r)) (K : ClsOK ci C T N ty) : ∃ cell : Cell, H[xA X o]? = some cell ∧ cell.vm.isStatics = false ∧ s.vm.findClass C = some cell.cls := va_recv (q := (C, T, N)) E.2.1.1 hW.1 K.1 (q0 := o) ((pic_get X M ho).trans (by rw [he]))
theorem q_callVi {y : MethodName} {c2 : ByteArray} {nL2 d2 i k o ci N : Nat} {ret2 : Option FieldType} {C : String} {T : u_T} {ty : Nat → FieldType} {fs : (Nat → Int) → List Value} {QQ : Int → Mem → Prop} {st0 : List Value} (As : List Value) (E : En X A d p R s m args meth c cc own nL ret cells slots) (hW : Wd X A s M H locs) (hlv : ls.size = nL) (ho : o < NC) (he : ∀ r, entR X o r = .inr (ci, fs r)) (K : ClsOK ci C T N ty) (hM : MI X l y c2 nL2 ret2 d2 (.ref (xA X o) :: As) M QQ) (hdd : d2 + 1 ≤ d) (Y : YV own i C y c2 nL2 ret2 k) (hk : As.length = k) (hst : st0 = As.reverse ++ .ref (xA X o) :: rest) (hr : (rest.map fun v => v.category).sum ≤ 8) (hd : decode cc pc = .ok (.invokevirtual i, 3)) (hn : pc + 3 = n) (kk : ∀ (r : Int) (M : Mem) (H : Heap) (locs : List Loc), QQ r M → Wd X A s M H locs → W p l e R s m args below meth c H locs cells slots Q (F0 m n ls (.int (jI r) :: rest))) : W p l e R s m args below meth c H locs cells slots Q (F0 m pc ls st0) := by
  subst hn
  obtain ⟨y1, y2, y3, y4, y5, y6, y7⟩ := Y
  refine va_calli (A0 := A) (H0 := s.heap) (va_runV (g := F0 m pc ls st0) (As := As) (rest := rest) (b := xA X o) (C := C) (y := y) (bytes := c2) (maxL := nL2) (ret := ret2) (index := i) (n := k) E.1 hM ⟨callB_of k E.1.2.2.2.2 (gt_app y1) rfl rfl rfl (E.1.2.2.2.2 _ y5) (E.1.2.2.2.2 _ y2) y6 (rmd_ok hdd y7 E.2.2.2.2.1 E.2.2.2.2.2.1), E.1.2.2.2.2 _ y3, E.1.2.2.2.2 _ y4⟩ ⟨CP.blind X M _, recv_ok E hW ho he K, fun U hU hV => ⟨rfl, CP_ready E hW U hU hV⟩⟩ rfl hk hlv hst (lv_room (rest := st0) hr) hd ⟨E.2.2.2.2.2.2.1, E.2.2.2.2.2.2.2⟩) hW.2 (fun q _ h => E.2.2.1.2 q h) (fun q h => E.2.2.1.2 q h) (fun r u t H1 locs1 ht _ hw hB _ _ hS1 => ?_)
  obtain ⟨v, rfl, hq⟩ := hw
  exact kk v u H1 locs1 hq ⟨by rw [← ht]; exact hB, hS1⟩
theorem q_callVv {y : MethodName} {c2 : ByteArray} {nL2 d2 i k o ci N : Nat} {C : String} {T : u_T} {ty : Nat → FieldType} {fs : (Nat → Int) → List Value} {QQ : Mem → Prop} {st0 : List Value} (As : List Value) (E : En X A d p R s m args meth c cc own nL ret cells slots) (hW : Wd X A s M H locs) (hlv : ls.size = nL) (ho : o < NC) (he : ∀ r, entR X o r = .inr (ci, fs r)) (K : ClsOK ci C T N ty) (hM : MV X l y c2 nL2 d2 (.ref (xA X o) :: As) M QQ) (hdd : d2 + 1 ≤ d) (Y : YV own i C y c2 nL2 none k) (hk : As.length = k) (hst : st0 = As.reverse ++ .ref (xA X o) :: rest) (hr : (rest.map fun v => v.category).sum ≤ 8) (hd : decode cc pc = .ok (.invokevirtual i, 3)) (hn : pc + 3 = n) (kk : ∀ (M : Mem) (H : Heap) (locs : List Loc), QQ M → Wd X A s M H locs → W p l e R s m args below meth c H locs cells slots Q (F0 m n ls rest)) : W p l e R s m args below meth c H locs cells slots Q (F0 m pc ls st0) := by
  subst hn
  obtain ⟨y1, y2, y3, y4, y5, y6, y7⟩ := Y
  exact va_callv (A0 := A) (H0 := s.heap) (va_runV (g := F0 m pc ls st0) (As := As) (rest := rest) (b := xA X o) (C := C) (y := y) (bytes := c2) (maxL := nL2) (ret := none) (index := i) (n := k) E.1 hM ⟨callB_of k E.1.2.2.2.2 (gt_app y1) rfl rfl rfl (E.1.2.2.2.2 _ y5) (E.1.2.2.2.2 _ y2) y6 (rmd_ok hdd y7 E.2.2.2.2.1 E.2.2.2.2.2.1), E.1.2.2.2.2 _ y3, E.1.2.2.2.2 _ y4⟩ ⟨CP.blind X M _, recv_ok E hW ho he K, fun U hU hV => ⟨rfl, CP_ready E hW U hU hV⟩⟩ rfl hk hlv hst (lv_room (rest := st0) hr) hd ⟨E.2.2.2.2.2.2.1, E.2.2.2.2.2.2.2⟩) hW.2 (fun q _ h => E.2.2.1.2 q h) (fun q h => E.2.2.1.2 q h) (fun u t H1 locs1 ht _ hw hB _ _ hS1 => kk u H1 locs1 hw ⟨by rw [← ht]; exact hB, hS1⟩)
theorem q_callSi {y : MethodName} {c2 : ByteArray} {nL2 d2 i k : Nat} {ret2 : Option FieldType} {QQ : Int → Mem → Prop} {st0 : List Value} (As : List Value) (E : En X A d p R s m args meth c cc own nL ret cells slots) (hW : Wd X A s M H locs) (hlv : ls.size = nL) (hM : MI X l y c2 nL2 ret2 d2 As M QQ) (hdd : d2 + 1 ≤ d) (Y : YS own i y c2 nL2 ret2 k) (hk : As.length = k) (hst : st0 = As.reverse ++ rest) (hr : (rest.map fun v => v.category).sum ≤ 8) (hd : decode cc pc = .ok (.invokestatic i, 3)) (hn : pc + 3 = n) (kk : ∀ (r : Int) (M : Mem) (H : Heap) (locs : List Loc), QQ r M → Wd X A s M H locs → W p l e R s m args below meth c H locs cells slots Q (F0 m n ls (.int (jI r) :: rest))) : W p l e R s m args below meth c H locs cells slots Q (F0 m pc ls st0) := by
  subst hn
  obtain ⟨y1, y2, y3, y5, y6, y7⟩ := Y
  refine va_calli (A0 := A) (H0 := s.heap) (va_runS (g := F0 m pc ls st0) (As := As) (rest := rest) (y := y) (bytes := c2) (maxL := nL2) (ret := ret2) (index := i) (n := k) E.1 hM ⟨callB_of k E.1.2.2.2.2 (gt_app y1) rfl rfl rfl (E.1.2.2.2.2 _ y5) (E.1.2.2.2.2 _ y2) y6 (rmd_ok hdd y7 E.2.2.2.2.1 E.2.2.2.2.2.1), E.1.2.2.2.2 _ y3⟩ ⟨CP.blind X M _, fun U hU hV => ⟨rfl, CP_ready E hW U hU hV⟩⟩ rfl hk hlv hst (lv_room (rest := st0) hr) hd ⟨E.2.2.2.2.2.2.1, E.2.2.2.2.2.2.2⟩) hW.2 (fun q _ h => E.2.2.1.2 q h) (fun q h => E.2.2.1.2 q h) (fun r u t H1 locs1 ht _ hw hB _ _ hS1 => ?_)
  obtain ⟨v, rfl, hq⟩ := hw
  exact kk v u H1 locs1 hq ⟨by rw [← ht]; exact hB, hS1⟩
theorem q_callNi {y : MethodName} {c2 : ByteArray} {nL2 d2 i k : Nat} {ret2 : Option FieldType} {host : String} {QQ : Int → Mem → Prop} {st0 : List Value} (As : List Value) (E : En X A d p R s m args meth c cc own nL ret cells slots) (hW : Wd X A s M H locs) (hlv : ls.size = nL) (hM : MI X l y c2 nL2 ret2 d2 As M QQ) (hdd : d2 + 1 ≤ d) (Y : YN own i y c2 nL2 ret2 k host) (hk : As.length = k) (hst : st0 = As.reverse ++ rest) (hr : (rest.map fun v => v.category).sum ≤ 8) (hd : decode cc pc = .ok (.invokestatic i, 3)) (hn : pc + 3 = n) (kk : ∀ (r : Int) (M : Mem) (H : Heap) (locs : List Loc), QQ r M → Wd X A s M H locs → W p l e R s m args below meth c H locs cells slots Q (F0 m n ls (.int (jI r) :: rest))) : W p l e R s m args below meth c H locs cells slots Q (F0 m pc ls st0) := by
  subst hn
  obtain ⟨y1, y2, y3, y5, y6, y7⟩ := Y
  refine va_calli (A0 := A) (H0 := s.heap) (va_runSN (g := F0 m pc ls st0) (As := As) (rest := rest) (y := y) (bytes := c2) (maxL := nL2) (ret := ret2) (index := i) (host := host) (n := k) E.1 hM ⟨va_cnB k E.1.2.2.2.2 (gt_app y1) rfl rfl rfl (E.2.1.2.1 _ y2) (E.1.2.2.2.2 _ y5) y6 (rmd_ok hdd y7 E.2.2.2.2.1 E.2.2.2.2.2.1), E.1.2.2.2.2 _ y3, trivial⟩ ⟨CP.blind X M _, fun U hU hV => ⟨rfl, CP_ready E hW U hU hV⟩⟩ rfl hk hlv hst (lv_room (rest := st0) hr) hd ⟨E.2.2.2.2.2.2.1, E.2.2.2.2.2.2.2⟩) hW.2 (fun q _ h => E.2.2.1.2 q h) (fun q h => E.2.2.1.2 q h) (fun r u t H1 locs1 ht _ hw hB _ _ hS1 => ?_)
  obtain ⟨v, rfl, hq⟩ := hw
  exact kk v u H1 locs1 hq ⟨by rw [← ht]; exact hB, hS1⟩
end QH
section QS
variable {X : Cx} {A : Nat → Prop} {d : Nat} {p : Program} {l : Launch} {e : Env} {R : Room} {s : State} {m : MethodId} {args : Array Value} {below : List Frame} {meth : Method} {c : Code} {cc : ByteArray} {own : String} {nL : Nat} {ret : Option FieldType} {H : Heap} {locs : List Loc} {cells slots : Nat} {Q : State → Prop} {pc n : Nat} {ls : Array Slot} {rest : List Value} {M : Mem}
theorem q_tin {x lo hi df off : Int} {offs : Array Int} {len t : Nat} (k : Int) (E : En X A d p R s m args meth c cc own nL ret cells slots) (hx : x = k) (hr : Rg k) (hd : decode cc pc = .ok (.tableswitch df lo hi offs, len)) (h1 : lo ≤ k ∧ k ≤ hi) (ho : offs[(k - lo).toNat]? = some off) (ht : (pc : Int) + off = (t : Int)) (kk : W p l e R s m args below meth c H locs cells slots Q (F0 m t ls rest)) : W p l e R s m args below meth c H locs cells slots Q (F0 m pc ls (.int (jI x) :: rest)) := by
  subst hx
  have h2 := h1.1
  have h3 := h1.2
  exact lv_tableIn E.1.1 E.1.2.1 hd (by rw [jI_toInt hr]; omega) (by rw [jI_toInt hr]; omega) (by rw [jI_toInt hr]; exact ho) ht kk
theorem q_tout {x lo hi df : Int} {offs : Array Int} {len t : Nat} (E : En X A d p R s m args meth c cc own nL ret cells slots) (hr : Rg x) (h : x < lo ∨ hi < x) (hd : decode cc pc = .ok (.tableswitch df lo hi offs, len)) (ht : (pc : Int) + df = (t : Int)) (kk : W p l e R s m args below meth c H locs cells slots Q (F0 m t ls rest)) : W p l e R s m args below meth c H locs cells slots Q (F0 m pc ls (.int (jI x) :: rest)) :=
  lv_tableOut E.1.1 E.1.2.1 hd (by rw [jI_toInt hr]; exact h) ht kk
theorem q_lsw {x df off : Int} {ps : Array (Int × Int)} {len t : Nat} (E : En X A d p R s m args meth c cc own nL ret cells slots) (hr : Rg x) (hd : decode cc pc = .ok (.lookupswitch df ps, len)) (hp : (ps.toList.zip (ps.toList.drop 1)).all (fun (a, next) => a.1 < next.1) = true) (ho : Op.lookupswitch.offset ps.toList df x = off) (ht : (pc : Int) + off = (t : Int)) (kk : W p l e R s m args below meth c H locs cells slots Q (F0 m t ls rest)) : W p l e R s m args below meth c H locs cells slots Q (F0 m pc ls (.int (jI x) :: rest)) :=
  lv_lookup E.1.1 E.1.2.1 hd hp (by rw [jI_toInt hr]; exact ho) ht kk
theorem capR_lt (o : Nat) : capR o < 2147483648 := by
  unfold capR
  repeat' split
  all_goals decide
theorem mx_code : Cond.code Lib.Math.max.name Lib.Math.max.code 2 (some .int) ∈ gtbl := wMaxC
theorem mn_code : Cond.code Lib.Math.min.name Lib.Math.min.code 2 (some .int) ∈ gtbl := wMinC
theorem jI_max {a b : Int} (ha : Rg a) (hb : Rg b) : (if jI a < jI b then jI b else jI a) = jI (max a b) := by
  have h := jI_lt ha hb
  by_cases hc : a < b
  · rw [if_pos (h.mpr hc), Int.max_eq_right (by omega)]
  · rw [if_neg (fun q => hc (h.mp q)), Int.max_eq_left (by omega)]
theorem jI_min {a b : Int} (ha : Rg a) (hb : Rg b) : (if jI b < jI a then jI b else jI a) = jI (min a b) := by
  have h := jI_lt hb ha
  by_cases hc : b < a
  · rw [if_pos (h.mpr hc), Int.min_eq_right (by omega)]
  · rw [if_neg (fun q => hc (h.mp q)), Int.min_eq_left (by omega)]
theorem q_mmax {a b : Int} {i : Nat} (E : En X A d p R s m args meth c cc own nL ret cells slots) (hlv : ls.size = nL) (ha : Rg a) (hb : Rg b) (hdd : 1 ≤ d) (hw : Cond.methodLink own i yJ9_max_7cf53 ∈ gtbl) (hr : (rest.map fun v => v.category).sum ≤ 8) (hd : decode cc pc = .ok (.invokestatic i, 3)) (hn : pc + 3 = n) (kk : W p l e R s m args below meth c H locs cells slots Q (F0 m n ls (.int (jI (max a b)) :: rest))) : W p l e R s m args below meth c H locs cells slots Q (F0 m pc ls (.int (jI b) :: .int (jI a) :: rest)) := by
  subst hn
  have h1 := E.2.2.2.2.1
  have h2 := E.2.2.2.2.2.1
  exact va_mmax E.1.1 E.1.2.1 (E.1.2.2.1.trans hlv.symm) E.1.2.2.2.1 (E.1.2.2.2.2 _ hw) (E.1.2.2.2.2 _ wMaxS) (E.1.2.2.2.2 _ wMath) (E.1.2.2.2.2 _ mx_code) (by omega) (by omega) E.2.2.2.2.2.2.1 E.2.2.2.2.2.2.2 hd (by rw [jI_max ha hb]; exact kk)
theorem q_mmin {a b : Int} {i : Nat} (E : En X A d p R s m args meth c cc own nL ret cells slots) (hlv : ls.size = nL) (ha : Rg a) (hb : Rg b) (hdd : 1 ≤ d) (hw : Cond.methodLink own i yJ9_min_7cf53 ∈ gtbl) (hr : (rest.map fun v => v.category).sum ≤ 8) (hd : decode cc pc = .ok (.invokestatic i, 3)) (hn : pc + 3 = n) (kk : W p l e R s m args below meth c H locs cells slots Q (F0 m n ls (.int (jI (min a b)) :: rest))) : W p l e R s m args below meth c H locs cells slots Q (F0 m pc ls (.int (jI b) :: .int (jI a) :: rest)) := by
  subst hn
  have h1 := E.2.2.2.2.1
  have h2 := E.2.2.2.2.2.1
  exact va_mmin E.1.1 E.1.2.1 (E.1.2.2.1.trans hlv.symm) E.1.2.2.2.1 (E.1.2.2.2.2 _ hw) (E.1.2.2.2.2 _ wMinS) (E.1.2.2.2.2 _ wMath) (E.1.2.2.2.2 _ mn_code) (by omega) (by omega) E.2.2.2.2.2.2.1 E.2.2.2.2.2.2.2 hd (by rw [jI_min ha hb]; exact kk)
end QS
