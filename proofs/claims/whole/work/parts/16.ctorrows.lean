/-! constructors: rows over a world that is a list of cells -/
def Cw (X : Cx) (A : Nat → Prop) (s : State) (ws : va_W) (H : Heap) (locs : List Loc) : Prop := va_P (xD X) vwCl ws H ∧ va_D A ws ∧ va_S A s.heap H locs
def Kc (X : Cx) (U : State) : Prop := va_K (xD X) vwCl (xtys X) U ∧ va_AO "StickerPress$Row" U
def Ec (X : Cx) (A : Nat → Prop) (d mc ms : Nat) (p : Program) (R : Room) (s : State) (m : MethodId) (args : Array Value) (c : Code) (cc : ByteArray) (own : String) (nL : Nat) : Prop :=
  CallFix p m c cc nL s args gtbl own ∧ Kc X s ∧ (∀ q, s.heap.size ≤ q → A q) ∧ (d ≤ R.frames ∧ 40 * d ≤ R.locals ∧ mc ≤ R.cells ∧ ms ≤ R.slots)
def Ei (meth : Method) : Prop := meth.sig.returnType = none ∧ meth.locks = false ∧ meth.name = "<init>"
abbrev Sx : Type := (Nat → Nat) × (Nat → Nat → Int)
def rmc (d mc ms : Nat) : Room := { frames := d, cells := mc, slots := ms, locals := 40 * d }
def CC (X : Cx) (ws : va_W) (sz : Nat) (U : State) : Prop := U.heap.size = sz ∧ va_P (xD X) vwCl ws U.heap ∧ Kc X U ∧ va_D (fun _ => True) ws
def QC (X : Cx) (ws : va_W) (sz : Nat) (post : Sx → Prop) (out : Sx → va_W) : Array Value → State → Outcome → State → Prop := va_Qv post (fun u t => va_P (xD X) vwCl (out u) t.heap ∧ va_D (va_A ws sz) (out u)) (va_A ws sz)
def MC (X : Cx) (l : Launch) (y : MethodName) (cc : ByteArray) (nL d mc ms : Nat) (av : List Value) (ws : va_W) (post : Sx → Prop) (out : Sx → va_W) : Prop := ∀ sz : Nat, Met l y (Cond.code y cc nL none :: gtbl) (rmc d mc ms) (va_Pc av (CC X ws sz)) (QC X ws sz post out) mc ms (va_A ws sz)
theorem CC.blind (X : Cx) (ws : va_W) (sz : Nat) (av : List Value) : FrameBlind (va_Pc av (CC X ws sz)) := by
  intro a U g mk h
  obtain ⟨h1, h2, h3, h4, h5⟩ := h
  exact ⟨h1, h2, h3, ⟨va_K.moved (u := U) (U := U.calling g mk a) (Vm.Alike.refl U.vm) h4.1, va_AO.moved (u := U) (U := U.calling g mk a) (Vm.Alike.refl U.vm) h4.2⟩, h5⟩
theorem MC.of {X : Cx} {l : Launch} {y : MethodName} {cc : ByteArray} {nL d mc ms : Nat} {av : List Value} {ws : va_W} {post : Sx → Prop} {out : Sx → va_W} (hy : plainName y.cls = true) (hyn : y.name = "<init>") (hn : (lg_sl av).length ≤ nL)
    (body : ∀ (p : Program) (e : Env) (R : Room) (s : State) (m : MethodId) (args : Array Value) (below : List Frame) (meth : Method) (c : Code) (ls : Array Slot) (A : Nat → Prop), A = va_A ws s.heap.size → Ec X A d mc ms p R s m args c cc y.cls nL → Ei meth → Cw X A s ws s.heap [] → lv_has ls nL (lv_args 0 av) → W p l e R s m args below meth c s.heap [] 0 0 (MQ below (QC X ws s.heap.size post out) args s mc ms A) (F0 m 0 ls [])) : MC X l y cc nL d mc ms av ws post out := by
  intro sz
  refine Met.ofW (cc := cc) (maxL := nL) (ret := none) hy rfl ?_
  intro p e s m args below meth c s₁ B hml hv
  obtain ⟨rfl, hsz, hP, hK, hD⟩ := hv
  subst hsz
  have hts := atoms_spec (ws := Cond.code y cc nL none :: gtbl) B.pre
  have hl := lv_entry av (n := nL) hn
  rw [lg_entry_eq]
  exact body p e _ s m _ below meth c _ _ rfl ⟨⟨B.exec, B.bytes, hml, findClass_of_methodNamed B.named, fun w hw => hts w (List.mem_cons_of_mem _ hw)⟩, hK, fun q h => Or.inr h, ⟨Nat.le_refl _, Nat.le_refl _, Nat.le_refl _, Nat.le_refl _⟩⟩ ⟨B.returns, B.notSynchronized, ((name_of_methodNamed B.named B.method).1).trans hyn⟩ ⟨hP, hD.self, va_S.rf⟩ hl
section QC
variable {X : Cx} {A : Nat → Prop} {d mc ms : Nat} {p : Program} {l : Launch} {e : Env} {R : Room} {s : State} {m : MethodId} {args : Array Value} {below : List Frame} {meth : Method} {c : Code} {cc : ByteArray} {own : String} {nL : Nat} {H : Heap} {locs : List Loc} {cells slots : Nat} {Q : State → Prop} {pc n : Nat} {ls : Array Slot} {rest : List Value} {ws : va_W}
theorem z_obj {i a : Nat} (E : Ec X A d mc ms p R s m args c cc own nL) (hlv : ls.size = nL) (hw : Cond.methodLink own i (⟨"java/lang/Object", "<init>", "()V"⟩ : MethodName) ∈ gtbl) (hd : decode cc pc = .ok (.invokespecial i, 3)) (hdd : 1 ≤ d) (hn : pc + 3 = n) (k : W p l e R s m args below meth c H locs cells slots Q (F0 m n ls rest)) (hr : (rest.map fun v => v.category).sum ≤ 8) : W p l e R s m args below meth c H locs cells slots Q (F0 m pc ls (.ref a :: rest)) := by
  subst hn
  have h1 := E.2.2.2.1
  have h2 := E.2.2.2.2.1
  exact W.objInit E.1.1 E.1.2.1 E.1.2.2.2.1 (E.1.2.2.2.2 _ hw) (E.1.2.2.2.2 _ wObjI) (E.1.2.2.2.2 _ wObjC) rfl (hlv.trans E.1.2.2.1.symm) rfl hd (by omega) (by show 2 * 0 + _ + 12 ≤ _; omega) k
theorem z_get {a ci N k i : Nat} {C ref : String} {T : u_T} {ty : Nat → FieldType} {fs : List Value} {v : Value} (q : Nat) (E : Ec X A d mc ms p R s m args c cc own nL) (hC : Cw X A s ws H locs) (he : ws[q]? = some (a, .inr (ci, fs))) (K : ClsOK ci C T N ty) (hk : k < N) (hw : Cond.fieldLink own i ref (T k).2.1 (T k).2.2.1 ∈ gtbl) (href : (T k).1 = ref) (hv : fs[k]? = some v) (hd : decode cc pc = .ok (.getfield i, 3)) (hn : pc + 3 = n) (kk : W p l e R s m args below meth c H locs cells slots Q (F0 m n ls (v :: rest))) : W p l e R s m args below meth c H locs cells slots Q (F0 m pc ls (.ref a :: rest)) := by
  subst hn
  subst href
  exact va_get (D := xD X) (ci := ci) (v := v) (C := C) (T := T) (N := N) E.1.1 E.1.2.1 E.1.2.2.2.2 K.2.1 E.1.2.2.2.1 E.2.1.1 hC.1 q he K.1 k hk (E.1.2.2.2.2 _ hw) (fun _ h => h) hv hd kk
theorem z_put {a ci N k i : Nat} {C ref : String} {T : u_T} {ty : Nat → FieldType} {fs : List Value} {v : Value} (q : Nat) (ws' : va_W) (E : Ec X A d mc ms p R s m args c cc own nL) (hC : Cw X A s ws H locs) (he : ws[q]? = some (a, .inr (ci, fs))) (K : ClsOK ci C T N ty) (hk : k < N) (hw : Cond.fieldLink own i ref (T k).2.1 (T k).2.2.1 ∈ gtbl) (href : (T k).1 = ref) (hfin : (T k).2.2.2 = false) (hnf : narrow (ty k) v = v ∧ fits (ty k) v = true) (hl : k < fs.length) (hset : ws.set q (a, .inr (ci, fs.set k v)) = ws') (hd : decode cc pc = .ok (.putfield i, 3)) (hn : pc + 3 = n) (kk : ∀ (H : Heap) (locs : List Loc), Cw X A s ws' H locs → W p l e R s m args below meth c H locs cells slots Q (F0 m n ls rest)) : W p l e R s m args below meth c H locs cells slots Q (F0 m pc ls (v :: .ref a :: rest)) := by
  subst hn
  subst href
  subst hset
  exact va_put (D := xD X) (ci := ci) (v := v) (ty := ty k) (C := C) (T := T) (N := N) E.1.1 E.1.2.1 E.1.2.2.2.2 K.2.1 ty K.2.2.1 K.2.2.2 E.1.2.2.2.1 E.2.1.1 hC.1 hC.2.1 hC.2.2 q he K.1 k hk (E.1.2.2.2.2 _ hw) (fun _ h => h) hfin (K.2.2.1 k hk) hnf.1 hnf.2 hl hd (fun H1 locs1 h1 h2 h3 => kk H1 locs1 ⟨h1, h2, h3⟩)
theorem z_putF {a ci N k i : Nat} {C ref : String} {T : u_T} {ty : Nat → FieldType} {fs : List Value} {v : Value} (q : Nat) (ws' : va_W) (E : Ec X A d mc ms p R s m args c cc own nL) (Ej : Ei meth) (hC : Cw X A s ws H locs) (he : ws[q]? = some (a, .inr (ci, fs))) (K : ClsOK ci C T N ty) (hk : k < N) (hw : Cond.fieldLink own i ref (T k).2.1 (T k).2.2.1 ∈ gtbl) (href : (T k).1 = ref) (hfin : (T k).2.2.2 = true) (hdecl : (T k).1 = own) (hnf : narrow (ty k) v = v ∧ fits (ty k) v = true) (hl : k < fs.length) (hset : ws.set q (a, .inr (ci, fs.set k v)) = ws') (hd : decode cc pc = .ok (.putfield i, 3)) (hn : pc + 3 = n) (kk : ∀ (H : Heap) (locs : List Loc), Cw X A s ws' H locs → W p l e R s m args below meth c H locs cells slots Q (F0 m n ls rest)) : W p l e R s m args below meth c H locs cells slots Q (F0 m pc ls (v :: .ref a :: rest)) := by
  subst hn
  subst href
  subst hset
  exact va_putF (D := xD X) (ci := ci) (v := v) (ty := ty k) (C := C) (T := T) (N := N) E.1.1 E.1.2.1 E.1.2.2.2.2 K.2.1 ty K.2.2.1 K.2.2.2 E.1.2.2.2.1 E.2.1.1 hC.1 hC.2.1 hC.2.2 q he K.1 k hk (E.1.2.2.2.2 _ hw) (fun _ h => h) hfin Ej.2.2 hdecl (K.2.2.1 k hk) hnf.1 hnf.2 hl hd (fun H1 locs1 h1 h2 h3 => kk H1 locs1 ⟨h1, h2, h3⟩)
theorem z_new {C : String} {T : u_T} {ty : Nat → FieldType} {N ci i : Nat} (fs : List Value) (E : Ec X A d mc ms p R s m args c cc own nL) (hC : Cw X A s ws H locs) (K : ClsOK ci C T N ty) (hb : ∀ j, j < N → defaultValue (ty j) = vp_V fs j) (hcl : Cond.classLink own i C ∈ gtbl) (hinst : Cond.instantiable C N ∈ gtbl) (hini : Cond.initialized C ∈ gtbl) (hroom : cells + 1 ≤ mc ∧ slots + N ≤ ms) (hd : decode cc pc = .ok (.new i, 3)) (hn : pc + 3 = n) (kk : ∀ (q : Nat) (H : Heap), Cw X A s (ws ++ [(q, .inr (ci, fs))]) H locs → W p l e R s m args below meth c H locs (cells + 1) (slots + N) Q (F0 m n ls (.ref q :: rest))) : W p l e R s m args below meth c H locs cells slots Q (F0 m pc ls rest) := by
  subst hn
  exact va_new (ci := ci) (fs := fs) (C := C) (T := T) (N := N) E.1.1 E.1.2.1 E.1.2.2.2.2 K.2.1 ty K.2.2.1 E.1.2.2.2.1 (E.1.2.2.2.2 _ hcl) (E.1.2.2.2.2 _ hinst) (E.1.2.2.2.2 _ hini) E.2.1.1 hC.1 hC.2.1 hC.2.2 E.2.2.1 K.1 hb (Nat.le_trans hroom.1 E.2.2.2.2.2.1) (Nat.le_trans hroom.2 E.2.2.2.2.2.2) hd (fun q H1 h1 h2 h3 => kk q H1 ⟨h1, h2, h3⟩)
theorem z_newI {N : Nat} {z : Int} (E : Ec X A d mc ms p R s m args c cc own nL) (hC : Cw X A s ws H locs) (hz : z = (N : Int) ∧ N ≤ 1000) (hroom : cells + 1 ≤ mc ∧ slots + N ≤ ms) (hd : decode cc pc = .ok (.newarray .int, 2)) (hn : pc + 2 = n) (kk : ∀ (q : Nat) (H : Heap), Cw X A s (ws ++ [(q, arI X N (fun _ => 0))]) H locs → W p l e R s m args below meth c H locs (cells + 1) (slots + N) Q (F0 m n ls (.ref q :: rest))) : W p l e R s m args below meth c H locs cells slots Q (F0 m pc ls (.int (jI z) :: rest)) := by
  subst hn
  obtain ⟨rfl, hN⟩ := hz
  have hr : Rg (N : Int) := ⟨by omega, by omega⟩
  refine va_newa (atype := .int) (a0 := (N, .inl (fun _ => jI 0))) (ty := .int) (N' := N) E.1.1 E.1.2.1 (E.1.2.2.2.2 _ wArrI) rfl E.2.1.1 hC.1 hC.2.1 hC.2.2 E.2.2.1 (fun _ => rfl) (fun h => by have h1 := (jI_lt hr (by decide)).mp (show jI (N : Int) < jI 0 from h); omega) (by show (jI (N : Int)).toInt.toNat = N; rw [jI_toInt hr]; omega) (by simp [componentBytes]; omega) (Nat.le_trans hroom.1 E.2.2.2.2.2.1) (Nat.le_trans hroom.2 E.2.2.2.2.2.2) hd (fun q cA H1 h0 h1 h2 h3 => ?_)
  have e1 : cA = xC X 0 := by
    have g1 := (h0.2 4 (cA, .int) rfl).2
    have g2 := (E.2.1.1.2 0 (xC X 0, .int) rfl).2
    exact Option.some.inj (g1.symm.trans g2)
  subst e1
  exact kk q H1 ⟨h1, h2, h3⟩
theorem z_newZ {N : Nat} {z : Int} (E : Ec X A d mc ms p R s m args c cc own nL) (hC : Cw X A s ws H locs) (hz : z = (N : Int) ∧ N ≤ 1000) (hroom : cells + 1 ≤ mc ∧ slots + N ≤ ms) (hd : decode cc pc = .ok (.newarray .boolean, 2)) (hn : pc + 2 = n) (kk : ∀ (q : Nat) (H : Heap), Cw X A s (ws ++ [(q, arZ X N (fun _ => 0))]) H locs → W p l e R s m args below meth c H locs (cells + 1) (slots + N) Q (F0 m n ls (.ref q :: rest))) : W p l e R s m args below meth c H locs cells slots Q (F0 m pc ls (.int (jI z) :: rest)) := by
  subst hn
  obtain ⟨rfl, hN⟩ := hz
  have hr : Rg (N : Int) := ⟨by omega, by omega⟩
  refine va_newa (atype := .boolean) (a0 := (N, .inl (fun _ => jI 0))) (ty := .boolean) (N' := N) E.1.1 E.1.2.1 (E.1.2.2.2.2 _ wArrZ) rfl E.2.1.1 hC.1 hC.2.1 hC.2.2 E.2.2.1 (fun _ => rfl) (fun h => by have h1 := (jI_lt hr (by decide)).mp (show jI (N : Int) < jI 0 from h); omega) (by show (jI (N : Int)).toInt.toNat = N; rw [jI_toInt hr]; omega) (by simp [componentBytes]; omega) (Nat.le_trans hroom.1 E.2.2.2.2.2.1) (Nat.le_trans hroom.2 E.2.2.2.2.2.2) hd (fun q cA H1 h0 h1 h2 h3 => ?_)
  have e1 : cA = xC X 1 := by
    have g1 := (h0.2 4 (cA, .boolean) rfl).2
    have g2 := (E.2.1.1.2 1 (xC X 1, .boolean) rfl).2
    exact Option.some.inj (g1.symm.trans g2)
  subst e1
  exact kk q H1 ⟨h1, h2, h3⟩
theorem z_newJ {N : Nat} {z : Int} (E : Ec X A d mc ms p R s m args c cc own nL) (hC : Cw X A s ws H locs) (hz : z = (N : Int) ∧ N ≤ 1000) (hroom : cells + 1 ≤ mc ∧ slots + N ≤ ms) (hd : decode cc pc = .ok (.newarray .long, 2)) (hn : pc + 2 = n) (kk : ∀ (q : Nat) (H : Heap), Cw X A s (ws ++ [(q, arJ X N (fun _ => 0))]) H locs → W p l e R s m args below meth c H locs (cells + 1) (slots + N) Q (F0 m n ls (.ref q :: rest))) : W p l e R s m args below meth c H locs cells slots Q (F0 m pc ls (.int (jI z) :: rest)) := by
  subst hn
  obtain ⟨rfl, hN⟩ := hz
  have hr : Rg (N : Int) := ⟨by omega, by omega⟩
  refine va_newa (atype := .long) (a0 := (N, .inr (.inl (fun _ => jL 0)))) (ty := .long) (N' := N) E.1.1 E.1.2.1 (E.1.2.2.2.2 _ wArrJ) rfl E.2.1.1 hC.1 hC.2.1 hC.2.2 E.2.2.1 (fun _ => rfl) (fun h => by have h1 := (jI_lt hr (by decide)).mp (show jI (N : Int) < jI 0 from h); omega) (by show (jI (N : Int)).toInt.toNat = N; rw [jI_toInt hr]; omega) (by simp [componentBytes]; omega) (Nat.le_trans hroom.1 E.2.2.2.2.2.1) (Nat.le_trans hroom.2 E.2.2.2.2.2.2) hd (fun q cA H1 h0 h1 h2 h3 => ?_)
  have e1 : cA = xC X 2 := by
    have g1 := (h0.2 4 (cA, .long) rfl).2
    have g2 := (E.2.1.1.2 2 (xC X 2, .long) rfl).2
    exact Option.some.inj (g1.symm.trans g2)
  subst e1
  exact kk q H1 ⟨h1, h2, h3⟩
def arQ (X : Cx) (n : Nat) (f : Nat → Option Nat) : va_E := .inl (xC X 3, n, .inr (.inr (.inr (.inr f))))
theorem z_newQ {N i : Nat} {z : Int} (E : Ec X A d mc ms p R s m args c cc own nL) (hC : Cw X A s ws H locs) (hz : z = (N : Int) ∧ N ≤ 1000) (hcl : Cond.classLink own i "StickerPress$Row" ∈ gtbl) (hroom : cells + 1 ≤ mc ∧ slots + N ≤ ms) (hd : decode cc pc = .ok (.anewarray i, 3)) (hn : pc + 3 = n) (kk : ∀ (q : Nat) (H : Heap), Cw X A s (ws ++ [(q, arQ X N (fun _ => none))]) H locs → W p l e R s m args below meth c H locs (cells + 1) (slots + N) Q (F0 m n ls (.ref q :: rest))) : W p l e R s m args below meth c H locs cells slots Q (F0 m pc ls (.int (jI z) :: rest)) := by
  subst hn
  obtain ⟨rfl, hN⟩ := hz
  have hr : Rg (N : Int) := ⟨by omega, by omega⟩
  refine va_newq (C := "StickerPress$Row") (N' := N) E.1.1 E.1.2.1 E.1.2.2.2.1 (E.1.2.2.2.2 _ hcl) E.2.1.2 E.2.1.1 hC.1 hC.2.1 hC.2.2 E.2.2.1 (fun h => by have h1 := (jI_lt hr (by decide)).mp (show jI (N : Int) < jI 0 from h); omega) (by show (jI (N : Int)).toInt.toNat = N; rw [jI_toInt hr]; omega) (by omega) (Nat.le_trans hroom.1 E.2.2.2.2.2.1) (Nat.le_trans hroom.2 E.2.2.2.2.2.2) hd (fun q cA H1 h0 h1 h2 h3 => ?_)
  have e1 : cA = xC X 3 := by
    obtain ⟨_, _, _, _, _, g1⟩ := (h0.2 4 (cA, .object "StickerPress$Row") rfl).2
    obtain ⟨_, _, _, _, _, g2⟩ := (E.2.1.1.2 3 (xC X 3, .object "StickerPress$Row") rfl).2
    exact Option.some.inj (g1.symm.trans g2)
  subst e1
  exact kk q H1 ⟨h1, h2, h3⟩
theorem z_alen {a len : Nat} {r : Nat → Int} (q : Nat) (E : Ec X A d mc ms p R s m args c cc own nL) (hC : Cw X A s ws H locs) (he : ws[q]? = some (a, arI X len r)) (hd : decode cc pc = .ok (.arraylength, 1)) (hn : pc + 1 = n) (kk : W p l e R s m args below meth c H locs cells slots Q (F0 m n ls (.int (jI (len : Int)) :: rest))) : W p l e R s m args below meth c H locs cells slots Q (F0 m pc ls (.ref a :: rest)) := by
  subst hn
  exact va_alen (D := xD X) (x := (len, .inl (fun j => jI (r j)))) E.1.1 E.1.2.1 E.2.1.1 hC.1 q 0 he (ty := .int) rfl (v := jI (len : Int)) rfl hd kk
theorem z_iast {a len : Nat} {r : Nat → Int} {i v : Int} (q : Nat) (ws' : va_W) (E : Ec X A d mc ms p R s m args c cc own nL) (hC : Cw X A s ws H locs) (he : ws[q]? = some (a, arI X len r)) (hlen : len < 2147483648) (hi : 0 ≤ i ∧ i < len) (hset : ws.set q (a, arI X len (upr r i.toNat v)) = ws') (hd : decode cc pc = .ok (.iastore, 1)) (hn : pc + 1 = n) (kk : ∀ (H : Heap) (locs : List Loc), Cw X A s ws' H locs → W p l e R s m args below meth c H locs cells slots Q (F0 m n ls rest)) : W p l e R s m args below meth c H locs cells slots Q (F0 m pc ls (.int (jI v) :: .int (jI i) :: .ref a :: rest)) := by
  subst hn
  subst hset
  obtain ⟨h1, h2⟩ := jI_ix hi hlen
  refine va_iast (D := xD X) (f := fun j => jI (r j)) E.1.1 E.1.2.1 E.2.1.1 hC.1 hC.2.1 hC.2.2 q 0 he rfl h1 hd (fun H1 locs1 hP1 hD1 hS1 => kk H1 locs1 ⟨?_, ?_, hS1⟩)
  · rw [h2, upr_fun] at hP1
    exact hP1
  · rw [h2, upr_fun] at hD1
    exact hD1
theorem z_aast {a len v ci : Nat} {f : Nat → Option Nat} {i : Int} {vs : List Value} {T : u_T} {ty : Nat → FieldType} {N : Nat} (q qk : Nat) (ws' : va_W) (E : Ec X A d mc ms p R s m args c cc own nL) (hC : Cw X A s ws H locs) (he : ws[q]? = some (a, arQ X len f)) (hv : ws[qk]? = some (v, .inr (ci, vs))) (K : ClsOK ci "StickerPress$Row" T N ty) (hlen : len < 2147483648) (hi : 0 ≤ i ∧ i < len) (hset : ws.set q (a, arQ X len (va_up f i.toNat (some v))) = ws') (hd : decode cc pc = .ok (.aastore, 1)) (hn : pc + 1 = n) (kk : ∀ (H : Heap) (locs : List Loc), Cw X A s ws' H locs → W p l e R s m args below meth c H locs cells slots Q (F0 m n ls rest)) : W p l e R s m args below meth c H locs cells slots Q (F0 m pc ls (.ref v :: .int (jI i) :: .ref a :: rest)) := by
  subst hn
  subst hset
  obtain ⟨h1, h2⟩ := jI_ix hi hlen
  refine va_astq (D := xD X) (r := ("StickerPress$Row", T, N)) E.1.1 E.1.2.1 E.2.1.1 hC.1 hC.2.1 hC.2.2 q 3 qk ci he rfl hv K.1 h1 hd (fun H1 locs1 hP1 hD1 hS1 => kk H1 locs1 ⟨?_, ?_, hS1⟩)
  · rw [h2] at hP1
    exact hP1
  · rw [h2] at hD1
    exact hD1
def YI (own : String) (i : Nat) (y : MethodName) (c2 : ByteArray) (nL2 k : Nat) : Prop := Cond.code y c2 nL2 none ∈ gtbl ∧ Cond.methodLink own i y ∈ gtbl ∧ Cond.instanceMethod y ∈ gtbl ∧ Cond.initialized y.cls ∈ gtbl ∧ y.name = "<init>" ∧ (y.cls ≠ "java/lang/invoke/MethodHandle" ∧ y.cls ≠ "java/lang/invoke/VarHandle" ∧ (parseMethodDescriptor y.desc).map (fun d => d.parameters.length) = some k) ∧ nL2 ≤ 20
theorem z_call {y : MethodName} {c2 : ByteArray} {nL2 d2 mc2 ms2 i k b : Nat} {wc : va_W} {post : Sx → Prop} {out : Sx → va_W} {st0 : List Value} (As : List Value) (isC isR : List Nat) (wr : va_W) (E : Ec X A d mc ms p R s m args c cc own nL) (hC : Cw X A s ws H locs) (hlv : ls.size = nL) (hM : MC X l y c2 nL2 d2 mc2 ms2 (.ref b :: As) wc post out) (h1 : isC.map (fun i => ws[i]?) = wc.map some) (h2 : isR.map (fun i => ws[i]?) = wr.map some) (h3 : va_nd isR = true) (h4 : ∀ i ∈ isR, i ∉ isC) (h5 : va_nd isC = true) (hdd : d2 + 1 ≤ d) (hroom : cells + mc2 ≤ mc ∧ slots + ms2 ≤ ms) (Y : YI own i y c2 nL2 k) (hk : As.length = k) (hst : st0 = As.reverse ++ .ref b :: rest) (hr : (rest.map fun v => v.category).sum ≤ 8) (hd : decode cc pc = .ok (.invokespecial i, 3)) (hn : pc + 3 = n) (kk : ∀ (u : Sx) (H : Heap) (locs : List Loc), post u → Cw X A s (wr ++ out u) H locs → W p l e R s m args below meth c H locs (cells + mc2) (slots + ms2) Q (F0 m n ls rest)) : W p l e R s m args below meth c H locs cells slots Q (F0 m pc ls st0) := by
  subst hn
  obtain ⟨y1, y2, y3, y4, y5, y6, y7⟩ := Y
  have hPc : va_P (xD X) vwCl wc H := by
    intro j q hj
    have g1 : (isC.map (fun i => ws[i]?))[j]? = some (some q) := by rw [h1, List.getElem?_map, hj]; rfl
    rw [List.getElem?_map] at g1
    cases hi : isC[j]? with
    | none => rw [hi] at g1; cases g1
    | some i2 => rw [hi] at g1; exact hC.1 i2 q (Option.some.inj g1)
  have hDc : va_D A wc := hC.2.1.sub isC h5 h1
  have hFc := va_free (wc := wc) hC.2.1 hC.2.2 E.2.2.1 isC h1
  have hRm : (rmc d2 mc2 ms2).frames + 1 ≤ R.frames ∧ 8 + (nL2 + 11) + (rmc d2 mc2 ms2).locals ≤ R.locals := by
    have g1 := E.2.2.2.1
    have g2 := E.2.2.2.2.1
    unfold rmc
    dsimp only
    omega
  exact va_callv (A0 := A) (H0 := s.heap) (va_runI (g := F0 m pc ls st0) (As := As) (rest := rest) (b := b) (y := y) (bytes := c2) (maxL := nL2) (index := i) (n := k) E.1 (hM H.size) ⟨callB_of k E.1.2.2.2.2 (gt_app y1) rfl rfl rfl (E.1.2.2.2.2 _ y4) (E.1.2.2.2.2 _ y2) y6 hRm, y5, E.1.2.2.2.2 _ y3⟩ ⟨CC.blind X wc H.size _, fun U hU hV => ⟨rfl, by rw [hU], by rw [hU]; exact hPc, ⟨E.2.1.1.moved hV.alike, E.2.1.2.moved hV.alike⟩, hDc.weaken (fun _ _ _ _ => trivial)⟩⟩ rfl hk hlv hst (lv_room (rest := st0) hr) hd ⟨Nat.le_trans hroom.1 E.2.2.2.2.2.1, Nat.le_trans hroom.2 E.2.2.2.2.2.2⟩) hC.2.2 (fun q _ h => hFc q h) hFc (fun u t H1 locs1 ht _ hw hB _ hk1 hS1 => by
    obtain ⟨hP1, hD1⟩ := hB
    rw [ht] at hP1
    obtain ⟨g1, g2⟩ := va_join hC.1 hC.2.1 isC isR h1 h2 h3 h4 hk1 hFc hP1 hD1
    exact kk u H1 locs1 hw ⟨g1, g2, hS1⟩)
theorem z_max {a b : Int} {i : Nat} (E : Ec X A d mc ms p R s m args c cc own nL) (hlv : ls.size = nL) (ha : Rg a) (hb : Rg b) (hdd : 1 ≤ d) (hcs : cells ≤ mc ∧ slots ≤ ms) (hw : Cond.methodLink own i yJ9_max_7cf53 ∈ gtbl) (hr : (rest.map fun v => v.category).sum ≤ 8) (hd : decode cc pc = .ok (.invokestatic i, 3)) (hn : pc + 3 = n) (kk : W p l e R s m args below meth c H locs cells slots Q (F0 m n ls (.int (jI (max a b)) :: rest))) : W p l e R s m args below meth c H locs cells slots Q (F0 m pc ls (.int (jI b) :: .int (jI a) :: rest)) := by
  subst hn
  have h1 := E.2.2.2.1
  have h2 := E.2.2.2.2.1
  exact va_mmax E.1.1 E.1.2.1 (E.1.2.2.1.trans hlv.symm) E.1.2.2.2.1 (E.1.2.2.2.2 _ hw) (E.1.2.2.2.2 _ wMaxS) (E.1.2.2.2.2 _ wMath) (E.1.2.2.2.2 _ mx_code) (by omega) (by omega) (Nat.le_trans hcs.1 E.2.2.2.2.2.1) (Nat.le_trans hcs.2 E.2.2.2.2.2.2) hd (by rw [jI_max ha hb]; exact kk)
theorem z_ret {post : Sx → Prop} {out : Sx → va_W} {ws0 : va_W} (u : Sx) (E : Ec X A d cells slots p R s m args c cc own nL) (Ej : Ei meth) (hA : A = va_A ws0 s.heap.size) (hC : Cw X A s ws H locs) (hp : post u) (ho : out u = ws) (hd : decode cc pc = .ok (.return_, 1)) : W p l e R s m args below meth c H locs cells slots (MQ below (QC X ws0 s.heap.size post out) args s cells slots A) (F0 m pc ls []) := by
  subst hA
  subst ho
  exact W.vret E.1.1 E.1.2.1 Ej.1 (fun t ht _ => ⟨⟨u, rfl, hp, by show va_P _ _ _ t.heap; rw [ht]; exact hC.1, hC.2.1⟩, hC.2.2.F ht⟩) hC.2.2.2.2 hd Ej.2.1
end QC
