/-! rows over the fixed memory: one for each kind of instruction -/
section QR
variable {X : Cx} {A : Nat → Prop} {d : Nat} {p : Program} {l : Launch} {e : Env} {R : Room} {s : State} {m : MethodId} {args : Array Value} {below : List Frame} {meth : Method} {c : Code} {cc : ByteArray} {own : String} {nL : Nat} {ret : Option FieldType} {H : Heap} {locs : List Loc} {cells slots : Nat} {Q : State → Prop} {pc n : Nat} {ls : Array Slot} {rest : List Value} {M : Mem} {lv lv' : List (Nat × Value)}
theorem q_iconst {z : Int} (E : CallFix p m c cc nL s args gtbl own) (hd : decode cc pc = .ok (.iconst z, 1)) (hn : pc + 1 = n) (k : W p l e R s m args below meth c H locs cells slots Q (F0 m n ls (.int (jI z) :: rest))) : W p l e R s m args below meth c H locs cells slots Q (F0 m pc ls rest) := by
  subst hn
  exact lv_iconst E.1 E.2.1 hd rfl k
theorem q_bipush {z : Int} (E : CallFix p m c cc nL s args gtbl own) (hd : decode cc pc = .ok (.bipush z, 2)) (hv : (Int8.ofInt z).toInt32 = jI z) (hn : pc + 2 = n) (k : W p l e R s m args below meth c H locs cells slots Q (F0 m n ls (.int (jI z) :: rest))) : W p l e R s m args below meth c H locs cells slots Q (F0 m pc ls rest) := by
  subst hn
  exact lv_bipush E.1 E.2.1 hd hv k
theorem q_sipush {z : Int} (E : CallFix p m c cc nL s args gtbl own) (hd : decode cc pc = .ok (.sipush z, 3)) (hv : (Int16.ofInt z).toInt32 = jI z) (hn : pc + 3 = n) (k : W p l e R s m args below meth c H locs cells slots Q (F0 m n ls (.int (jI z) :: rest))) : W p l e R s m args below meth c H locs cells slots Q (F0 m pc ls rest) := by
  subst hn
  exact lv_sipush E.1 E.2.1 hd hv k
theorem q_ldc {z : Int} {i : Nat} {v : Int32} (E : CallFix p m c cc nL s args gtbl own) (hw : Cond.constant own i v ∈ gtbl) (hv : v = jI z) (hd : decode cc pc = .ok (.ldc i, 2)) (hn : pc + 2 = n) (k : W p l e R s m args below meth c H locs cells slots Q (F0 m n ls (.int (jI z) :: rest))) : W p l e R s m args below meth c H locs cells slots Q (F0 m pc ls rest) := by
  subst hn
  subst hv
  exact lv_ldc E.1 E.2.1 E.2.2.2.1 (E.2.2.2.2 _ hw) hd k
theorem q_ldcw {z : Int} {i : Nat} {v : Int32} (E : CallFix p m c cc nL s args gtbl own) (hw : Cond.constant own i v ∈ gtbl) (hv : v = jI z) (hd : decode cc pc = .ok (.ldc_w i, 3)) (hn : pc + 3 = n) (k : W p l e R s m args below meth c H locs cells slots Q (F0 m n ls (.int (jI z) :: rest))) : W p l e R s m args below meth c H locs cells slots Q (F0 m pc ls rest) := by
  subst hn
  subst hv
  exact lv_ldcw E.1 E.2.1 E.2.2.2.1 (E.2.2.2.2 _ hw) hd k
theorem q_ldc2 {z : Int} {i : Nat} {v : Int64} (E : CallFix p m c cc nL s args gtbl own) (hw : Cond.constantLong own i v ∈ gtbl) (hv : v = jL z) (hd : decode cc pc = .ok (.ldc2_w i, 3)) (hn : pc + 3 = n) (k : W p l e R s m args below meth c H locs cells slots Q (F0 m n ls (.long (jL z) :: rest))) : W p l e R s m args below meth c H locs cells slots Q (F0 m pc ls rest) := by
  subst hn
  subst hv
  exact lv_ldc2 E.1 E.2.1 E.2.2.2.1 (E.2.2.2.2 _ hw) hd k
theorem q_lconst {z : Fin 2} {w : Int} (E : CallFix p m c cc nL s args gtbl own) (hd : decode cc pc = .ok (.lconst z, 1)) (hv : Int64.ofNat (z : Nat) = jL w) (hn : pc + 1 = n) (k : W p l e R s m args below meth c H locs cells slots Q (F0 m n ls (.long (jL w) :: rest))) : W p l e R s m args below meth c H locs cells slots Q (F0 m pc ls rest) := by
  subst hn
  exact lv_lconst E.1 E.2.1 hd hv k
theorem q_iload_n {j : Fin 4} {i q : Nat} {x : Int32} (E : CallFix p m c cc nL s args gtbl own) (hl : lv_has ls nL lv) (hq : lv[q]? = some (i, .int x)) (hd : decode cc pc = .ok (.iload_n j, 1)) (hi : (j : Nat) = i) (hn : pc + 1 = n) (k : W p l e R s m args below meth c H locs cells slots Q (F0 m n ls (.int x :: rest))) : W p l e R s m args below meth c H locs cells slots Q (F0 m pc ls rest) := by
  subst hn
  exact lv_iload_n E.1 E.2.1 hd hi (lv_at hl q hq) k
theorem q_iload {i q : Nat} {x : Int32} (E : CallFix p m c cc nL s args gtbl own) (hl : lv_has ls nL lv) (hq : lv[q]? = some (i, .int x)) (hd : decode cc pc = .ok (.iload i, 2)) (hn : pc + 2 = n) (k : W p l e R s m args below meth c H locs cells slots Q (F0 m n ls (.int x :: rest))) : W p l e R s m args below meth c H locs cells slots Q (F0 m pc ls rest) := by
  subst hn
  exact lv_iload E.1 E.2.1 hd (lv_at hl q hq) k
theorem q_lload_n {j : Fin 4} {i q : Nat} {x : Int64} (E : CallFix p m c cc nL s args gtbl own) (hl : lv_has ls nL lv) (hq : lv[q]? = some (i, .long x)) (hd : decode cc pc = .ok (.lload_n j, 1)) (hi : (j : Nat) = i) (hn : pc + 1 = n) (k : W p l e R s m args below meth c H locs cells slots Q (F0 m n ls (.long x :: rest))) : W p l e R s m args below meth c H locs cells slots Q (F0 m pc ls rest) := by
  subst hn
  exact lv_lload_n E.1 E.2.1 hd hi (lv_at hl q hq) k
theorem q_aload_n {j : Fin 4} {i q x : Nat} (E : CallFix p m c cc nL s args gtbl own) (hl : lv_has ls nL lv) (hq : lv[q]? = some (i, .ref x)) (hd : decode cc pc = .ok (.aload_n j, 1)) (hi : (j : Nat) = i) (hn : pc + 1 = n) (k : W p l e R s m args below meth c H locs cells slots Q (F0 m n ls (.ref x :: rest))) : W p l e R s m args below meth c H locs cells slots Q (F0 m pc ls rest) := by
  subst hn
  exact lv_aload_n E.1 E.2.1 hd hi (lv_at hl q hq) k
theorem q_istore_n {j : Fin 4} {i : Nat} {x : Int32} (lv' : List (Nat × Value)) (E : CallFix p m c cc nL s args gtbl own) (hl : lv_has ls nL lv) (hd : decode cc pc = .ok (.istore_n j, 1)) (hi : (j : Nat) = i) (hi2 : i < nL) (he : (i, Value.int x) :: lv.filter (fun q => !(q.1 == i) && !(q.1 + 1 == i && q.2.category == 2)) = lv') (hn : pc + 1 = n) (k : ∀ ls : Array Slot, lv_has ls nL lv' → W p l e R s m args below meth c H locs cells slots Q (F0 m n ls rest)) : W p l e R s m args below meth c H locs cells slots Q (F0 m pc ls (.int x :: rest)) := by
  subst hn
  exact lv_istore_n E.1 E.2.1 hd hi hl hi2 he k
theorem q_istore {i : Nat} {x : Int32} (lv' : List (Nat × Value)) (E : CallFix p m c cc nL s args gtbl own) (hl : lv_has ls nL lv) (hd : decode cc pc = .ok (.istore i, 2)) (hi2 : i < nL) (he : (i, Value.int x) :: lv.filter (fun q => !(q.1 == i) && !(q.1 + 1 == i && q.2.category == 2)) = lv') (hn : pc + 2 = n) (k : ∀ ls : Array Slot, lv_has ls nL lv' → W p l e R s m args below meth c H locs cells slots Q (F0 m n ls rest)) : W p l e R s m args below meth c H locs cells slots Q (F0 m pc ls (.int x :: rest)) := by
  subst hn
  exact lv_istore E.1 E.2.1 hd hl hi2 he k
theorem q_lstore_n {j : Fin 4} {i : Nat} {x : Int64} (lv' : List (Nat × Value)) (E : CallFix p m c cc nL s args gtbl own) (hl : lv_has ls nL lv) (hd : decode cc pc = .ok (.lstore_n j, 1)) (hi : (j : Nat) = i) (hi2 : i + 1 < nL) (he : (i, Value.long x) :: lv.filter (fun q => !(q.1 == i) && (!(q.1 == i + 1) && !(q.1 + 1 == i && q.2.category == 2))) = lv') (hn : pc + 1 = n) (k : ∀ ls : Array Slot, lv_has ls nL lv' → W p l e R s m args below meth c H locs cells slots Q (F0 m n ls rest)) : W p l e R s m args below meth c H locs cells slots Q (F0 m pc ls (.long x :: rest)) := by
  subst hn
  exact lv_lstore_n E.1 E.2.1 hd hi hl hi2 he k
theorem q_iinc {i q : Nat} {z a : Int} (lv' : List (Nat × Value)) (E : CallFix p m c cc nL s args gtbl own) (hl : lv_has ls nL lv) (hq : lv[q]? = some (i, .int (jI a))) (hd : decode cc pc = .ok (.iinc i z, 3)) (hi2 : i < nL) (he : (i, Value.int (jI (a + z))) :: lv.filter (fun q => !(q.1 == i) && !(q.1 + 1 == i && q.2.category == 2)) = lv') (hn : pc + 3 = n) (k : ∀ ls : Array Slot, lv_has ls nL lv' → W p l e R s m args below meth c H locs cells slots Q (F0 m n ls rest)) : W p l e R s m args below meth c H locs cells slots Q (F0 m pc ls rest) := by
  subst hn
  exact lv_iinc E.1 E.2.1 hd hl hq (jI_add a z) hi2 he k
theorem q_iadd {a b : Int} (E : CallFix p m c cc nL s args gtbl own) (hd : decode cc pc = .ok (.iadd, 1)) (hn : pc + 1 = n) (k : W p l e R s m args below meth c H locs cells slots Q (F0 m n ls (.int (jI (a + b)) :: rest))) : W p l e R s m args below meth c H locs cells slots Q (F0 m pc ls (.int (jI b) :: .int (jI a) :: rest)) := by
  subst hn
  exact lv_iadd E.1 E.2.1 hd (by rw [jI_add]; exact k)
theorem q_isub {a b : Int} (E : CallFix p m c cc nL s args gtbl own) (hd : decode cc pc = .ok (.isub, 1)) (hn : pc + 1 = n) (k : W p l e R s m args below meth c H locs cells slots Q (F0 m n ls (.int (jI (a - b)) :: rest))) : W p l e R s m args below meth c H locs cells slots Q (F0 m pc ls (.int (jI b) :: .int (jI a) :: rest)) := by
  subst hn
  exact lv_isub E.1 E.2.1 hd (by rw [jI_sub]; exact k)
theorem q_imul {a b : Int} (E : CallFix p m c cc nL s args gtbl own) (hd : decode cc pc = .ok (.imul, 1)) (hn : pc + 1 = n) (k : W p l e R s m args below meth c H locs cells slots Q (F0 m n ls (.int (jI (a * b)) :: rest))) : W p l e R s m args below meth c H locs cells slots Q (F0 m pc ls (.int (jI b) :: .int (jI a) :: rest)) := by
  subst hn
  exact lv_imul E.1 E.2.1 hd (by rw [jI_mul]; exact k)
theorem q_idiv {a b : Int} (E : CallFix p m c cc nL s args gtbl own) (hr : Rg a ∧ 0 ≤ a) (hb : 0 < b ∧ Rg b) (hd : decode cc pc = .ok (.idiv, 1)) (hn : pc + 1 = n) (k : W p l e R s m args below meth c H locs cells slots Q (F0 m n ls (.int (jI (a / b)) :: rest))) : W p l e R s m args below meth c H locs cells slots Q (F0 m pc ls (.int (jI b) :: .int (jI a) :: rest)) := by
  subst hn
  exact lv_idiv E.1 E.2.1 hd (fun h => by have h1 := (jI_eq hb.2 (by decide)).mp (h.trans jI_0.symm); omega) (by rw [jI_div hr.1 hr.2 hb.1 hb.2]; exact k)
theorem q_irem {a b : Int} (E : CallFix p m c cc nL s args gtbl own) (hr : Rg a ∧ 0 ≤ a) (hb : 0 < b ∧ Rg b) (hd : decode cc pc = .ok (.irem, 1)) (hn : pc + 1 = n) (k : W p l e R s m args below meth c H locs cells slots Q (F0 m n ls (.int (jI (a % b)) :: rest))) : W p l e R s m args below meth c H locs cells slots Q (F0 m pc ls (.int (jI b) :: .int (jI a) :: rest)) := by
  subst hn
  exact lv_irem E.1 E.2.1 hd (fun h => by have h1 := (jI_eq hb.2 (by decide)).mp (h.trans jI_0.symm); omega) (by rw [jI_rem hr.1 hr.2 hb.1 hb.2]; exact k)
theorem q_iand {a b : Int} (E : CallFix p m c cc nL s args gtbl own) (hd : decode cc pc = .ok (.iand, 1)) (hn : pc + 1 = n) (k : W p l e R s m args below meth c H locs cells slots Q (F0 m n ls (.int (jI (bAnd a b)) :: rest))) : W p l e R s m args below meth c H locs cells slots Q (F0 m pc ls (.int (jI b) :: .int (jI a) :: rest)) := by
  subst hn
  exact lv_iand E.1 E.2.1 hd (by rw [bAnd, jI_of] at k; exact k)
theorem q_ior {a b : Int} (E : CallFix p m c cc nL s args gtbl own) (hd : decode cc pc = .ok (.ior, 1)) (hn : pc + 1 = n) (k : W p l e R s m args below meth c H locs cells slots Q (F0 m n ls (.int (jI (bOr a b)) :: rest))) : W p l e R s m args below meth c H locs cells slots Q (F0 m pc ls (.int (jI b) :: .int (jI a) :: rest)) := by
  subst hn
  exact lv_ior E.1 E.2.1 hd (by rw [bOr, jI_of] at k; exact k)
theorem q_ixor {a b : Int} (E : CallFix p m c cc nL s args gtbl own) (hd : decode cc pc = .ok (.ixor, 1)) (hn : pc + 1 = n) (k : W p l e R s m args below meth c H locs cells slots Q (F0 m n ls (.int (jI (bXor a b)) :: rest))) : W p l e R s m args below meth c H locs cells slots Q (F0 m pc ls (.int (jI b) :: .int (jI a) :: rest)) := by
  subst hn
  exact lv_ixor E.1 E.2.1 hd (by rw [bXor, jI_of] at k; exact k)
theorem q_ishl {a b : Int} (E : CallFix p m c cc nL s args gtbl own) (hd : decode cc pc = .ok (.ishl, 1)) (hn : pc + 1 = n) (k : W p l e R s m args below meth c H locs cells slots Q (F0 m n ls (.int (jI (bShl a b)) :: rest))) : W p l e R s m args below meth c H locs cells slots Q (F0 m pc ls (.int (jI b) :: .int (jI a) :: rest)) := by
  subst hn
  exact lv_ishl E.1 E.2.1 hd (by rw [bShl, jI_of] at k; exact k)
theorem q_ishr {a b : Int} (E : CallFix p m c cc nL s args gtbl own) (hd : decode cc pc = .ok (.ishr, 1)) (hn : pc + 1 = n) (k : W p l e R s m args below meth c H locs cells slots Q (F0 m n ls (.int (jI (bShr a b)) :: rest))) : W p l e R s m args below meth c H locs cells slots Q (F0 m pc ls (.int (jI b) :: .int (jI a) :: rest)) := by
  subst hn
  exact lv_ishr E.1 E.2.1 hd (by rw [bShr, jI_of] at k; exact k)
theorem q_iushr {a b : Int} (E : CallFix p m c cc nL s args gtbl own) (hd : decode cc pc = .ok (.iushr, 1)) (hn : pc + 1 = n) (k : W p l e R s m args below meth c H locs cells slots Q (F0 m n ls (.int (jI (bUshr a b)) :: rest))) : W p l e R s m args below meth c H locs cells slots Q (F0 m pc ls (.int (jI b) :: .int (jI a) :: rest)) := by
  subst hn
  exact lv_iushr E.1 E.2.1 hd (by rw [bUshr, jI_of]) k
theorem q_ladd {a b : Int} (E : CallFix p m c cc nL s args gtbl own) (hd : decode cc pc = .ok (.ladd, 1)) (hn : pc + 1 = n) (k : W p l e R s m args below meth c H locs cells slots Q (F0 m n ls (.long (jL (a + b)) :: rest))) : W p l e R s m args below meth c H locs cells slots Q (F0 m pc ls (.long (jL b) :: .long (jL a) :: rest)) := by
  subst hn
  exact lv_ladd E.1 E.2.1 hd (by rw [jL_add]; exact k)
theorem q_lsub {a b : Int} (E : CallFix p m c cc nL s args gtbl own) (hd : decode cc pc = .ok (.lsub, 1)) (hn : pc + 1 = n) (k : W p l e R s m args below meth c H locs cells slots Q (F0 m n ls (.long (jL (a - b)) :: rest))) : W p l e R s m args below meth c H locs cells slots Q (F0 m pc ls (.long (jL b) :: .long (jL a) :: rest)) := by
  subst hn
  exact lv_lsub E.1 E.2.1 hd (by rw [jL_sub]; exact k)
theorem q_land {a b : Int} (E : CallFix p m c cc nL s args gtbl own) (hd : decode cc pc = .ok (.land, 1)) (hn : pc + 1 = n) (k : W p l e R s m args below meth c H locs cells slots Q (F0 m n ls (.long (jL (lAnd a b)) :: rest))) : W p l e R s m args below meth c H locs cells slots Q (F0 m pc ls (.long (jL b) :: .long (jL a) :: rest)) := by
  subst hn
  exact lv_land E.1 E.2.1 hd (by rw [lAnd, jL_of] at k; exact k)
theorem q_lor {a b : Int} (E : CallFix p m c cc nL s args gtbl own) (hd : decode cc pc = .ok (.lor, 1)) (hn : pc + 1 = n) (k : W p l e R s m args below meth c H locs cells slots Q (F0 m n ls (.long (jL (lOr a b)) :: rest))) : W p l e R s m args below meth c H locs cells slots Q (F0 m pc ls (.long (jL b) :: .long (jL a) :: rest)) := by
  subst hn
  exact lv_lor E.1 E.2.1 hd (by rw [lOr, jL_of] at k; exact k)
theorem q_lxor {a b : Int} (E : CallFix p m c cc nL s args gtbl own) (hd : decode cc pc = .ok (.lxor, 1)) (hn : pc + 1 = n) (k : W p l e R s m args below meth c H locs cells slots Q (F0 m n ls (.long (jL (lXor a b)) :: rest))) : W p l e R s m args below meth c H locs cells slots Q (F0 m pc ls (.long (jL b) :: .long (jL a) :: rest)) := by
  subst hn
  exact lv_lxor E.1 E.2.1 hd (by rw [lXor, jL_of] at k; exact k)
theorem q_lshl {a b : Int} (E : CallFix p m c cc nL s args gtbl own) (hd : decode cc pc = .ok (.lshl, 1)) (hn : pc + 1 = n) (k : W p l e R s m args below meth c H locs cells slots Q (F0 m n ls (.long (jL (lShl a b)) :: rest))) : W p l e R s m args below meth c H locs cells slots Q (F0 m pc ls (.int (jI b) :: .long (jL a) :: rest)) := by
  subst hn
  exact lv_lshl E.1 E.2.1 hd (by rw [lShl, jL_of]) k
theorem q_lshr {a b : Int} (E : CallFix p m c cc nL s args gtbl own) (hd : decode cc pc = .ok (.lshr, 1)) (hn : pc + 1 = n) (k : W p l e R s m args below meth c H locs cells slots Q (F0 m n ls (.long (jL (lShr a b)) :: rest))) : W p l e R s m args below meth c H locs cells slots Q (F0 m pc ls (.int (jI b) :: .long (jL a) :: rest)) := by
  subst hn
  exact lv_lshr E.1 E.2.1 hd (by rw [lShr, jL_of]) k
theorem q_lushr {a b : Int} (E : CallFix p m c cc nL s args gtbl own) (hd : decode cc pc = .ok (.lushr, 1)) (hn : pc + 1 = n) (k : W p l e R s m args below meth c H locs cells slots Q (F0 m n ls (.long (jL (lUshr a b)) :: rest))) : W p l e R s m args below meth c H locs cells slots Q (F0 m pc ls (.int (jI b) :: .long (jL a) :: rest)) := by
  subst hn
  exact lv_lushr E.1 E.2.1 hd (by rw [lUshr, jL_of]) k
theorem q_lcmp {a b : Int} (E : CallFix p m c cc nL s args gtbl own) (hd : decode cc pc = .ok (.lcmp, 1)) (hn : pc + 1 = n) (k : W p l e R s m args below meth c H locs cells slots Q (F0 m n ls (.int (jI (lCmp a b)) :: rest))) : W p l e R s m args below meth c H locs cells slots Q (F0 m pc ls (.long (jL b) :: .long (jL a) :: rest)) := by
  subst hn
  exact W.lcmp E.1 E.2.1 hd (by rw [lCmp, jI_of] at k; exact k)
theorem q_i2l {a : Int} (E : CallFix p m c cc nL s args gtbl own) (hd : decode cc pc = .ok (.i2l, 1)) (hn : pc + 1 = n) (k : W p l e R s m args below meth c H locs cells slots Q (F0 m n ls (.long (jL (i2l a)) :: rest))) : W p l e R s m args below meth c H locs cells slots Q (F0 m pc ls (.int (jI a) :: rest)) := by
  subst hn
  exact lv_i2l E.1 E.2.1 hd (by rw [i2l, jL_of]) k
theorem q_l2i {a : Int} (E : CallFix p m c cc nL s args gtbl own) (hd : decode cc pc = .ok (.l2i, 1)) (hn : pc + 1 = n) (k : W p l e R s m args below meth c H locs cells slots Q (F0 m n ls (.int (jI (l2i a)) :: rest))) : W p l e R s m args below meth c H locs cells slots Q (F0 m pc ls (.long (jL a) :: rest)) := by
  subst hn
  exact lv_l2i E.1 E.2.1 hd (by rw [l2i, jI_of]) k
theorem q_dup {v : Value} (E : CallFix p m c cc nL s args gtbl own) (hd : decode cc pc = .ok (.dup, 1)) (hv : v.category = 1) (hn : pc + 1 = n) (k : W p l e R s m args below meth c H locs cells slots Q (F0 m n ls (v :: v :: rest))) : W p l e R s m args below meth c H locs cells slots Q (F0 m pc ls (v :: rest)) := by
  subst hn
  exact lv_dup E.1 E.2.1 hd hv k
theorem q_dup2 {v w : Value} (E : CallFix p m c cc nL s args gtbl own) (hd : decode cc pc = .ok (.dup2, 1)) (hv : v.category = 1) (hw : w.category = 1) (hn : pc + 1 = n) (k : W p l e R s m args below meth c H locs cells slots Q (F0 m n ls (v :: w :: v :: w :: rest))) : W p l e R s m args below meth c H locs cells slots Q (F0 m pc ls (v :: w :: rest)) := by
  subst hn
  exact lv_dup2_11 E.1 E.2.1 hd hv hw k
theorem q_pop {v : Value} (E : CallFix p m c cc nL s args gtbl own) (hd : decode cc pc = .ok (.pop, 1)) (hv : v.category = 1) (hn : pc + 1 = n) (k : W p l e R s m args below meth c H locs cells slots Q (F0 m n ls rest)) : W p l e R s m args below meth c H locs cells slots Q (F0 m pc ls (v :: rest)) := by
  subst hn
  exact lv_pop E.1 E.2.1 hd hv k
theorem q_goto {o : Int} (E : CallFix p m c cc nL s args gtbl own) (hd : decode cc pc = .ok (.goto o, 3)) (hn : (pc : Int) + o = (n : Int)) (k : W p l e R s m args below meth c H locs cells slots Q (F0 m n ls rest)) : W p l e R s m args below meth c H locs cells slots Q (F0 m pc ls rest) := lv_goto E.1 E.2.1 hd hn k
theorem q_icmp_eq {a b o : Int} {t : Nat} (E : CallFix p m c cc nL s args gtbl own) (ha : Rg a) (hb : Rg b) (hd : decode cc pc = .ok (.if_icmp .eq o, 3)) (ht : (pc : Int) + o = (t : Int)) (hn : pc + 3 = n) (kt : a = b → W p l e R s m args below meth c H locs cells slots Q (F0 m t ls rest)) (kf : ¬ (a = b) → W p l e R s m args below meth c H locs cells slots Q (F0 m n ls rest)) : W p l e R s m args below meth c H locs cells slots Q (F0 m pc ls (.int (jI b) :: .int (jI a) :: rest)) := by
  subst hn
  have hi := jI_eq ha hb
  exact lv_icmp_eq E.1 E.2.1 hd ht (fun h => kt (hi.mp h)) (fun h => kf (fun h2 => h (hi.mpr h2)))
theorem q_if_eq {a o : Int} {t : Nat} (E : CallFix p m c cc nL s args gtbl own) (ha : Rg a) (hd : decode cc pc = .ok (.ifCond .eq o, 3)) (ht : (pc : Int) + o = (t : Int)) (hn : pc + 3 = n) (kt : a = 0 → W p l e R s m args below meth c H locs cells slots Q (F0 m t ls rest)) (kf : ¬ (a = 0) → W p l e R s m args below meth c H locs cells slots Q (F0 m n ls rest)) : W p l e R s m args below meth c H locs cells slots Q (F0 m pc ls (.int (jI a) :: rest)) := by
  subst hn
  have hi := jI_eq ha (by decide : Rg 0)
  exact lv_if_eq E.1 E.2.1 hd ht (fun h => kt (hi.mp h)) (fun h => kf (fun h2 => h (hi.mpr h2)))
theorem q_icmp_ne {a b o : Int} {t : Nat} (E : CallFix p m c cc nL s args gtbl own) (ha : Rg a) (hb : Rg b) (hd : decode cc pc = .ok (.if_icmp .ne o, 3)) (ht : (pc : Int) + o = (t : Int)) (hn : pc + 3 = n) (kt : a ≠ b → W p l e R s m args below meth c H locs cells slots Q (F0 m t ls rest)) (kf : ¬ (a ≠ b) → W p l e R s m args below meth c H locs cells slots Q (F0 m n ls rest)) : W p l e R s m args below meth c H locs cells slots Q (F0 m pc ls (.int (jI b) :: .int (jI a) :: rest)) := by
  subst hn
  have hi := not_congr (jI_eq ha hb)
  exact lv_icmp_ne E.1 E.2.1 hd ht (fun h => kt (hi.mp h)) (fun h => kf (fun h2 => (hi.mpr h2) h))
theorem q_if_ne {a o : Int} {t : Nat} (E : CallFix p m c cc nL s args gtbl own) (ha : Rg a) (hd : decode cc pc = .ok (.ifCond .ne o, 3)) (ht : (pc : Int) + o = (t : Int)) (hn : pc + 3 = n) (kt : a ≠ 0 → W p l e R s m args below meth c H locs cells slots Q (F0 m t ls rest)) (kf : ¬ (a ≠ 0) → W p l e R s m args below meth c H locs cells slots Q (F0 m n ls rest)) : W p l e R s m args below meth c H locs cells slots Q (F0 m pc ls (.int (jI a) :: rest)) := by
  subst hn
  have hi := not_congr (jI_eq ha (by decide : Rg 0))
  exact lv_if_ne E.1 E.2.1 hd ht (fun h => kt (hi.mp h)) (fun h => kf (fun h2 => (hi.mpr h2) h))
theorem q_icmp_lt {a b o : Int} {t : Nat} (E : CallFix p m c cc nL s args gtbl own) (ha : Rg a) (hb : Rg b) (hd : decode cc pc = .ok (.if_icmp .lt o, 3)) (ht : (pc : Int) + o = (t : Int)) (hn : pc + 3 = n) (kt : a < b → W p l e R s m args below meth c H locs cells slots Q (F0 m t ls rest)) (kf : ¬ (a < b) → W p l e R s m args below meth c H locs cells slots Q (F0 m n ls rest)) : W p l e R s m args below meth c H locs cells slots Q (F0 m pc ls (.int (jI b) :: .int (jI a) :: rest)) := by
  subst hn
  have hi := jI_lt ha hb
  exact lv_icmp_lt E.1 E.2.1 hd ht (fun h => kt (hi.mp h)) (fun h => kf (fun h2 => h (hi.mpr h2)))
theorem q_if_lt {a o : Int} {t : Nat} (E : CallFix p m c cc nL s args gtbl own) (ha : Rg a) (hd : decode cc pc = .ok (.ifCond .lt o, 3)) (ht : (pc : Int) + o = (t : Int)) (hn : pc + 3 = n) (kt : a < 0 → W p l e R s m args below meth c H locs cells slots Q (F0 m t ls rest)) (kf : ¬ (a < 0) → W p l e R s m args below meth c H locs cells slots Q (F0 m n ls rest)) : W p l e R s m args below meth c H locs cells slots Q (F0 m pc ls (.int (jI a) :: rest)) := by
  subst hn
  have hi := jI_lt ha (by decide : Rg 0)
  exact lv_if_lt E.1 E.2.1 hd ht (fun h => kt (hi.mp h)) (fun h => kf (fun h2 => h (hi.mpr h2)))
theorem q_icmp_ge {a b o : Int} {t : Nat} (E : CallFix p m c cc nL s args gtbl own) (ha : Rg a) (hb : Rg b) (hd : decode cc pc = .ok (.if_icmp .ge o, 3)) (ht : (pc : Int) + o = (t : Int)) (hn : pc + 3 = n) (kt : b ≤ a → W p l e R s m args below meth c H locs cells slots Q (F0 m t ls rest)) (kf : ¬ (b ≤ a) → W p l e R s m args below meth c H locs cells slots Q (F0 m n ls rest)) : W p l e R s m args below meth c H locs cells slots Q (F0 m pc ls (.int (jI b) :: .int (jI a) :: rest)) := by
  subst hn
  have hi := jI_le hb ha
  exact lv_icmp_ge E.1 E.2.1 hd ht (fun h => kt (hi.mp h)) (fun h => kf (fun h2 => h (hi.mpr h2)))
theorem q_if_ge {a o : Int} {t : Nat} (E : CallFix p m c cc nL s args gtbl own) (ha : Rg a) (hd : decode cc pc = .ok (.ifCond .ge o, 3)) (ht : (pc : Int) + o = (t : Int)) (hn : pc + 3 = n) (kt : 0 ≤ a → W p l e R s m args below meth c H locs cells slots Q (F0 m t ls rest)) (kf : ¬ (0 ≤ a) → W p l e R s m args below meth c H locs cells slots Q (F0 m n ls rest)) : W p l e R s m args below meth c H locs cells slots Q (F0 m pc ls (.int (jI a) :: rest)) := by
  subst hn
  have hi := jI_le (by decide : Rg 0) ha
  exact lv_if_ge E.1 E.2.1 hd ht (fun h => kt (hi.mp h)) (fun h => kf (fun h2 => h (hi.mpr h2)))
theorem q_icmp_gt {a b o : Int} {t : Nat} (E : CallFix p m c cc nL s args gtbl own) (ha : Rg a) (hb : Rg b) (hd : decode cc pc = .ok (.if_icmp .gt o, 3)) (ht : (pc : Int) + o = (t : Int)) (hn : pc + 3 = n) (kt : b < a → W p l e R s m args below meth c H locs cells slots Q (F0 m t ls rest)) (kf : ¬ (b < a) → W p l e R s m args below meth c H locs cells slots Q (F0 m n ls rest)) : W p l e R s m args below meth c H locs cells slots Q (F0 m pc ls (.int (jI b) :: .int (jI a) :: rest)) := by
  subst hn
  have hi := jI_lt hb ha
  exact lv_icmp_gt E.1 E.2.1 hd ht (fun h => kt (hi.mp h)) (fun h => kf (fun h2 => h (hi.mpr h2)))
theorem q_if_gt {a o : Int} {t : Nat} (E : CallFix p m c cc nL s args gtbl own) (ha : Rg a) (hd : decode cc pc = .ok (.ifCond .gt o, 3)) (ht : (pc : Int) + o = (t : Int)) (hn : pc + 3 = n) (kt : 0 < a → W p l e R s m args below meth c H locs cells slots Q (F0 m t ls rest)) (kf : ¬ (0 < a) → W p l e R s m args below meth c H locs cells slots Q (F0 m n ls rest)) : W p l e R s m args below meth c H locs cells slots Q (F0 m pc ls (.int (jI a) :: rest)) := by
  subst hn
  have hi := jI_lt (by decide : Rg 0) ha
  exact lv_if_gt E.1 E.2.1 hd ht (fun h => kt (hi.mp h)) (fun h => kf (fun h2 => h (hi.mpr h2)))
theorem q_icmp_le {a b o : Int} {t : Nat} (E : CallFix p m c cc nL s args gtbl own) (ha : Rg a) (hb : Rg b) (hd : decode cc pc = .ok (.if_icmp .le o, 3)) (ht : (pc : Int) + o = (t : Int)) (hn : pc + 3 = n) (kt : a ≤ b → W p l e R s m args below meth c H locs cells slots Q (F0 m t ls rest)) (kf : ¬ (a ≤ b) → W p l e R s m args below meth c H locs cells slots Q (F0 m n ls rest)) : W p l e R s m args below meth c H locs cells slots Q (F0 m pc ls (.int (jI b) :: .int (jI a) :: rest)) := by
  subst hn
  have hi := jI_le ha hb
  exact lv_icmp_le E.1 E.2.1 hd ht (fun h => kt (hi.mp h)) (fun h => kf (fun h2 => h (hi.mpr h2)))
theorem q_if_le {a o : Int} {t : Nat} (E : CallFix p m c cc nL s args gtbl own) (ha : Rg a) (hd : decode cc pc = .ok (.ifCond .le o, 3)) (ht : (pc : Int) + o = (t : Int)) (hn : pc + 3 = n) (kt : a ≤ 0 → W p l e R s m args below meth c H locs cells slots Q (F0 m t ls rest)) (kf : ¬ (a ≤ 0) → W p l e R s m args below meth c H locs cells slots Q (F0 m n ls rest)) : W p l e R s m args below meth c H locs cells slots Q (F0 m pc ls (.int (jI a) :: rest)) := by
  subst hn
  have hi := jI_le ha (by decide : Rg 0)
  exact lv_if_le E.1 E.2.1 hd ht (fun h => kt (hi.mp h)) (fun h => kf (fun h2 => h (hi.mpr h2)))
end QR
