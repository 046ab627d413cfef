/-! The fixed memory: all objects of the class and of the reference are made in the constructors; afterwards a heap is a memory M (cell, slot, value). -/
def jI (a : Int) : Int32 := Int32.ofInt a
def jL (a : Int) : Int64 := Int64.ofInt a
abbrev Rg (a : Int) : Prop := -2147483648 ≤ a ∧ a ≤ 2147483647
abbrev RgL (a : Int) : Prop := -9223372036854775808 ≤ a ∧ a ≤ 9223372036854775807
theorem jI_toInt {a : Int} (h : Rg a) : (jI a).toInt = a := by
  have h1 := h.1
  have h2 := h.2
  exact Int32.toInt_ofInt_of_le (by omega) (by omega)
theorem jL_toInt {a : Int} (h : RgL a) : (jL a).toInt = a := by
  have h1 := h.1
  have h2 := h.2
  exact Int64.toInt_ofInt_of_le (by omega) (by omega)
theorem jI_of (x : Int32) : jI x.toInt = x := Int32.ofInt_toInt x
theorem jL_of (x : Int64) : jL x.toInt = x := Int64.ofInt_toInt x
theorem Rg_toInt (x : Int32) : Rg x.toInt := ⟨Int32.le_toInt x, by have := Int32.toInt_lt x; omega⟩
theorem RgL_toInt (x : Int64) : RgL x.toInt := ⟨Int64.le_toInt x, by have := Int64.toInt_lt x; omega⟩
theorem jI_add (a b : Int) : jI a + jI b = jI (a + b) := (Int32.ofInt_add a b).symm
theorem jI_sub (a b : Int) : jI a - jI b = jI (a - b) := (Int32.ofInt_sub a b).symm
theorem jI_mul (a b : Int) : jI a * jI b = jI (a * b) := (Int32.ofInt_mul a b).symm
theorem jL_add (a b : Int) : jL a + jL b = jL (a + b) := (Int64.ofInt_add a b).symm
theorem jL_sub (a b : Int) : jL a - jL b = jL (a - b) := (Int64.ofInt_sub a b).symm
theorem jI_lt {a b : Int} (ha : Rg a) (hb : Rg b) : jI a < jI b ↔ a < b := by
  rw [Int32.lt_iff_toInt_lt, jI_toInt ha, jI_toInt hb]
theorem jI_le {a b : Int} (ha : Rg a) (hb : Rg b) : jI a ≤ jI b ↔ a ≤ b := by
  rw [Int32.le_iff_toInt_le, jI_toInt ha, jI_toInt hb]
theorem jI_eq {a b : Int} (ha : Rg a) (hb : Rg b) : jI a = jI b ↔ a = b := by
  rw [← Int32.toInt_inj, jI_toInt ha, jI_toInt hb]
theorem jI_0 : jI 0 = 0 := rfl
theorem jI_div {a b : Int} (ha : Rg a) (h0 : 0 ≤ a) (hb : 0 < b) (hb2 : Rg b) : jI a / jI b = jI (a / b) := by
  apply Int32.toInt_inj.mp
  have hq : 0 ≤ a / b := Int.ediv_nonneg h0 (by omega)
  have hq2 : a / b ≤ a := Int.ediv_le_self b h0
  have h1 := ha.2
  rw [Int32.toInt_div, jI_toInt ha, jI_toInt hb2, jI_toInt ⟨by omega, by omega⟩, Int.tdiv_eq_ediv_of_nonneg h0]
  exact Int.bmod_eq_of_le (by omega) (by omega)
theorem jI_rem {a b : Int} (ha : Rg a) (h0 : 0 ≤ a) (hb : 0 < b) (hb2 : Rg b) : jI a - jI a / jI b * jI b = jI (a % b) := by
  rw [jI_div ha h0 hb hb2, jI_mul, jI_sub]
  congr 1
  have := Int.mul_ediv_add_emod a b
  rw [Int.mul_comm b] at this
  omega
/-! bits, as numbers -/
def bAnd (a b : Int) : Int := (jI a &&& jI b).toInt
def bOr (a b : Int) : Int := (jI a ||| jI b).toInt
def bXor (a b : Int) : Int := (jI a ^^^ jI b).toInt
def bShl (a b : Int) : Int := (jI a <<< (jI b &&& 31)).toInt
def bShr (a b : Int) : Int := (jI a >>> (jI b &&& 31)).toInt
def bUshr (a b : Int) : Int := ((jI a).toUInt32 >>> ((jI b).toUInt32 &&& Int32.toUInt32 31)).toInt32.toInt
def lAnd (a b : Int) : Int := (jL a &&& jL b).toInt
def lOr (a b : Int) : Int := (jL a ||| jL b).toInt
def lXor (a b : Int) : Int := (jL a ^^^ jL b).toInt
def lShl (a b : Int) : Int := (jL a <<< ((jI b).toInt64 &&& 63)).toInt
def lShr (a b : Int) : Int := (jL a >>> ((jI b).toInt64 &&& 63)).toInt
def lUshr (a b : Int) : Int := ((jL a).toUInt64 >>> ((jI b).toInt64.toUInt64 &&& Int64.toUInt64 63)).toInt64.toInt
def lCmp (a b : Int) : Int := (lg_cmp (jL a) (jL b)).toInt
def i2l (a : Int) : Int := (jI a).toInt64.toInt
def l2i (a : Int) : Int := (jL a).toInt32.toInt
/-! the memory -/
abbrev Mem : Type := Nat → Nat → Int
def upr (r : Nat → Int) (i : Nat) (v : Int) : Nat → Int := fun j => if j = i then v else r j
def up (M : Mem) (k i : Nat) (v : Int) : Mem := fun a => if a = k then upr (M a) i v else M a
theorem up_same (M : Mem) (k i : Nat) (v : Int) : up M k i v k = upr (M k) i v := by simp [up]
theorem up_ne (M : Mem) {k a : Nat} (i : Nat) (v : Int) (h : a ≠ k) : up M k i v a = M a := by simp [up, h]
/-- addresses, class numbers, array classes, the static table's address -/
abbrev Cx : Type := va_G × (Nat → ClassId) × Nat × (Nat → Nat)
def xD (X : Cx) : va_G := X.1
def xC (X : Cx) : Nat → ClassId := X.2.1
def xT (X : Cx) : Nat := X.2.2.1
def xA (X : Cx) : Nat → Nat := X.2.2.2
def NC : Nat := 91
/-- the places of a Row's array, by its cell (2 r + 1) -/
def capR (k : Nat) : Nat := if k < 2 then 200 else if k < 4 then 67 else if k < 28 then 6 else if k < 32 then 60 else if k < 34 then 12 else if k < 36 then 67 else 12
def arI (X : Cx) (n : Nat) (r : Nat → Int) : va_E := .inl (xC X 0, n, .inl (fun j => jI (r j)))
def arZ (X : Cx) (n : Nat) (r : Nat → Int) : va_E := .inl (xC X 1, n, .inl (fun j => jI (r j)))
def arJ (X : Cx) (n : Nat) (r : Nat → Int) : va_E := .inl (xC X 2, n, .inr (.inl (fun j => jL (r j))))
def arR (X : Cx) (n : Nat) (f : Nat → Nat) : va_E := .inl (xC X 3, n, .inr (.inr (.inr (.inr (fun j => some (xA X (f j)))))))
def iv (r : Nat → Int) (k : Nat) : Value := .int (jI (r k))
def rv (X : Cx) (k : Nat) : Value := .ref (xA X k)
def fsRow (X : Cx) (o : Nat) (r : Nat → Int) : List Value := [rv X (o + 1), iv r 1]
def fsRd (X : Cx) (o : Nat) (r : Nat → Int) : List Value := [iv r 0, rv X (2 * o - 44), iv r 2, iv r 3]
def fs42 (X : Cx) (_ : Nat → Int) : List Value := [rv X 0, rv X 2, rv X 43, rv X 47, rv X 48, rv X 53, rv X 57]
def fs43 (X : Cx) (r : Nat → Int) : List Value := [rv X 44, rv X 45, rv X 46, rv X 28, rv X 30, iv r 5, iv r 6]
def fs47 (X : Cx) (r : Nat → Int) : List Value := [rv X 32, rv X 34, rv X 40, rv X 41, iv r 4, iv r 5, iv r 6, iv r 7]
def fs48 (X : Cx) (r : Nat → Int) : List Value := [rv X 49, rv X 50, rv X 51, rv X 52, iv r 4]
def fs53 (X : Cx) (_ : Nat → Int) : List Value := [rv X 54, rv X 55, rv X 56]
def fs57 (X : Cx) (r : Nat → Int) : List Value := [rv X 58, rv X 90, rv X 59, rv X 60, rv X 61, iv r 5, iv r 6, iv r 7, iv r 8, iv r 9]
def fs62 (X : Cx) (r : Nat → Int) : List Value := [rv X 63, rv X 64, rv X 65, iv r 3, iv r 4, rv X 66, rv X 67, rv X 68, rv X 69, rv X 70, rv X 71, rv X 72, iv r 12, iv r 13, iv r 14, iv r 15, iv r 16, iv r 17, iv r 18, rv X 73, rv X 74, iv r 21, iv r 22, iv r 23, iv r 24, iv r 25, iv r 26, iv r 27, rv X 75, rv X 76, rv X 77, iv r 31, rv X 78, rv X 79, rv X 80, rv X 81, rv X 82, rv X 83, rv X 84, rv X 85, rv X 86, iv r 41, iv r 42, rv X 87, rv X 88, rv X 89]
def entR (X : Cx) (k : Nat) (r : Nat → Int) : va_E := if k < 40 then (if k % 2 = 0 then .inr (4, fsRow X k r) else arI X (capR k) r) else if k < 42 then .inr (3, fsRd X k r) else match k with
  | 42 => .inr (7, fs42 X r)
  | 43 => .inr (2, fs43 X r)
  | 44 => arI X 95 r
  | 45 => arR X 6 (fun j => 4 + 2 * j)
  | 46 => arR X 6 (fun j => 16 + 2 * j)
  | 47 => .inr (6, fs47 X r)
  | 48 => .inr (1, fs48 X r)
  | 49 => arI X 200 r
  | 50 => arI X 200 r
  | 51 => arZ X 200 r
  | 52 => arI X 6 r
  | 53 => .inr (5, fs53 X r)
  | 54 => arJ X 3 r
  | 55 => arI X 120 r
  | 56 => arZ X 120 r
  | 57 => .inr (0, fs57 X r)
  | 58 => arI X 6 r
  | 59 => arI X 3 r
  | 60 => arI X 3 r
  | 61 => arI X 120 r
  | 62 => .inr (8, fs62 X r)
  | 63 => arI X 127 r
  | 64 => arI X 200 r
  | 65 => arI X 200 r
  | 66 => arI X 6 r
  | 67 => arI X 6 r
  | 68 => arI X 36 r
  | 69 => arI X 36 r
  | 70 => arI X 61 r
  | 71 => arI X 61 r
  | 72 => arI X 61 r
  | 73 => arI X 12 r
  | 74 => arI X 130 r
  | 75 => arJ X 3 r
  | 76 => arI X 120 r
  | 77 => arZ X 120 r
  | 78 => arI X 200 r
  | 79 => arI X 200 r
  | 80 => arZ X 200 r
  | 81 => arI X 6 r
  | 82 => arI X 3 r
  | 83 => arI X 6 r
  | 84 => arI X 3 r
  | 85 => arI X 6 r
  | 86 => arI X 3 r
  | 87 => arI X 3 r
  | 88 => arI X 3 r
  | 89 => arI X 120 r
  | _ => arI X 3 r
def pic (X : Cx) (M : Mem) : va_W := (List.range NC).map (fun k => (xA X k, entR X k (M k)))
theorem pic_get (X : Cx) (M : Mem) {k : Nat} (h : k < NC) : (pic X M)[k]? = some (xA X k, entR X k (M k)) := by simp [pic, h]
theorem pic_set (X : Cx) (M : Mem) {k i : Nat} {v : Int} {e : va_E} (h : k < NC) (he : entR X k (upr (M k) i v) = e) : (pic X M).set k (xA X k, e) = pic X (up M k i v) := by
  subst he
  apply List.ext_getElem?
  intro j
  rw [List.getElem?_set]
  by_cases hj : k = j
  · subst hj
    rw [pic_get X (up M k i v) h, up_same]
    simp [pic, h]
  · rw [if_neg hj]
    simp only [pic, List.getElem?_map, List.getElem?_range]
    by_cases hn : j < NC
    · rw [List.getElem?_range hn]
      simp only [Option.map_some]
      rw [up_ne M i v (Ne.symm hj)]
    · rw [List.getElem?_eq_none (by simpa using hn)]
      rfl
def AW (X : Cx) : Nat → Prop := fun q => ∃ k, k < NC ∧ xA X k = q
def Inj (X : Cx) : Prop := ∀ i j : Nat, i < NC → j < NC → xA X i = xA X j → i = j
theorem pic_D {X : Cx} {M : Mem} {A : Nat → Prop} (hI : Inj X) (hA : ∀ q, AW X q → A q) : va_D A (pic X M) := by
  have key : ∀ (k : Nat) (q : Nat × va_E), (pic X M)[k]? = some q → k < NC ∧ q.1 = xA X k := by
    intro k q hk
    have hlt : k < NC := by
      have := (List.getElem?_eq_some_iff.mp hk).1
      simpa [pic] using this
    rw [pic_get X M hlt] at hk
    cases hk
    exact ⟨hlt, rfl⟩
  refine ⟨fun i j x y hi hj hxy => ?_, fun k q hk => ?_⟩
  · obtain ⟨h1, h2⟩ := key i x hi
    obtain ⟨h3, h4⟩ := key j y hj
    exact hI i j h1 h3 (by rw [← h2, ← h4]; exact hxy)
  · obtain ⟨h1, h2⟩ := key k q hk
    exact hA _ ⟨k, h1, h2.symm⟩
/-- a Row's cell; its array is the next one -/
abbrev isRow (o : Nat) : Prop := o < 40 ∧ o % 2 = 0
abbrev isRd (o : Nat) : Prop := o = 40 ∨ o = 41
theorem ent_row (X : Cx) {o : Nat} (h : isRow o) (r : Nat → Int) : entR X o r = .inr (4, fsRow X o r) := by simp [entR, h.1, h.2]
theorem ent_arr (X : Cx) {o : Nat} (h : isRow o) (r : Nat → Int) : entR X (o + 1) r = arI X (capR o) r := by
  have h1 := h.1
  have h2 := h.2
  have h3 : o + 1 < 40 := by omega
  have h4 : ¬ (o + 1) % 2 = 0 := by omega
  have h5 : capR (o + 1) = capR o := by
    unfold capR
    repeat' split
    all_goals first | rfl | omega
  simp [entR, h3, h4, h5]
theorem ent_rd (X : Cx) {o : Nat} (h : isRd o) (r : Nat → Int) : entR X o r = .inr (3, fsRd X o r) := by
  rcases h with rfl | rfl <;> rfl
theorem isRow_lt {o : Nat} (h : isRow o) : o < NC := Nat.lt_of_lt_of_le h.1 (by decide)
theorem isRow_lt1 {o : Nat} (h : isRow o) : o + 1 < NC := Nat.lt_of_le_of_lt h.1 (by decide)
theorem isRd_lt {o : Nat} (h : isRd o) : o < NC := by rcases h with rfl | rfl <;> decide
theorem isRd_row {o : Nat} (h : isRd o) : isRow (2 * o - 44) := by rcases h with rfl | rfl <;> decide
def xtys (X : Cx) : List (ClassId × FieldType) := [(xC X 0, .int), (xC X 1, .boolean), (xC X 2, .long), (xC X 3, .object "StickerPress$Row")]
def dcode : Nat → Int
  | 0 => 6 | 1 => 17 | 2 => 9 | 3 => 24 | 4 => 5 | 5 => 20 | 6 => 12 | 7 => 3 | 8 => 18 | _ => 10
def nstl : List Cond := [Cond.fieldLinkNest RX6 112 "StickerPress$Reading" "digits" "LStickerPress$Row;" "StickerPress", Cond.fieldLinkNest RX6 97 "StickerPress$Reading" "fault" "I" "StickerPress", Cond.fieldLinkNest RX6 98 "StickerPress$Reading" "place" "I" "StickerPress", Cond.fieldLinkNest RX6 113 "StickerPress" "DIGIT_CODES" "[I" "StickerPress", Cond.fieldLinkNest RX3 63 "StickerPress" "DIGIT_CODES" "[I" "StickerPress", Cond.methodLinkNest RX3 54 yX6_checkOf "StickerPress", Cond.methodLinkNest RX5 23 yX7_isSheet "StickerPress", Cond.methodLinkNest RX1 29 yX7_isGroup "StickerPress", Cond.methodLinkNest RX5 37 yX7_isPlace "StickerPress", Cond.methodLinkNest RX0 59 yX7_isGroup "StickerPress", Cond.methodLinkNest RX0 67 yX7_isSheet "StickerPress", Cond.methodLinkNest RX0 73 yX7_isPlace "StickerPress"]
def Nst (U : State) : Prop := ∀ w ∈ nstl, va_Nw w U
theorem nst_use {U : State} {args : Array Value} (h : Nst U) {w : Cond} (i : Nat) (hi : nstl[i]? = some w) (hw : w.onTables = true) : w.before args U = true := va_Nw.use hw (h w (List.mem_of_getElem? hi))
theorem Nst.warm {s U : State} (hW : s.WarmedH U.vm) (h : Nst s) : Nst U := by
  intro w hw
  have h1 := h w hw
  simp only [nstl, List.mem_cons, List.not_mem_nil, or_false] at hw
  rcases hw with rfl | rfl | rfl | rfl | rfl | rfl | rfl | rfl | rfl | rfl | rfl | rfl <;> first | exact va_Nw.warmF hW h1 | exact va_Nw.warmM hW h1
theorem nstl_tab : ∀ w ∈ nstl, w.onTables = true := by decide +kernel
theorem Nst.same {u U : State} (hv : u.vm = U.vm) (h : Nst u) : Nst U := fun w hw => va_Nw.same (nstl_tab w hw) hv (h w hw)
def Kx (X : Cx) (A : Nat → Prop) (U : State) : Prop := va_K (xD X) vwCl (xtys X) U ∧ Nst U ∧ va_Z "StickerPress" "DIGIT_CODES" "[I" (.ref (xT X)) A U U.heap ∧ va_T .int (xT X) 10 (fun j => .int (jI (dcode j))) A U U.heap
def Wd (X : Cx) (A : Nat → Prop) (s : State) (M : Mem) (H : Heap) (locs : List Loc) : Prop := va_P (xD X) vwCl (pic X M) H ∧ va_S A s.heap H locs
theorem Kx.call {X : Cx} {A : Nat → Prop} {s U : State} {H : Heap} {locs : List Loc} (hA : ∀ q, AW X q → A q) (h : Kx X A s) (hS : va_S A s.heap H locs) (hU : U.heap = H) (hW : s.WarmedH U.vm) : Kx X (AW X) U := by
  obtain ⟨h1, h2, h3, h4⟩ := h
  subst hU
  exact ⟨h1.moved hW.alike, h2.warm hW, ((h3.kept (fun a h5 h6 => hS.2.1 a h5 h6)).moved hW.alike).narrow hA, ((h4.kept (fun a h5 h6 => hS.2.1 a h5 h6)).moved hW.alike).narrow hA⟩
theorem Kx.blind {X : Cx} {A : Nat → Prop} {U U2 : State} (hv : U.vm = U2.vm) (hh : U2.heap = U.heap) (h : Kx X A U) : Kx X A U2 := by
  obtain ⟨h1, h2, h3, h4⟩ := h
  have hal : U.vm.Alike U2.vm := by rw [← hv]; exact Vm.Alike.refl _
  refine ⟨h1.moved hal, h2.same hv, ?_, ?_⟩
  · rw [hh]; exact h3.moved hal
  · rw [hh]; exact h4.moved hal
def CP (X : Cx) (M : Mem) (U : State) : Prop := va_P (xD X) vwCl (pic X M) U.heap ∧ Kx X (AW X) U
theorem CP.blind (X : Cx) (M : Mem) (av : List Value) : FrameBlind (va_Pc av (CP X M)) := by
  intro a U g mk h
  obtain ⟨h1, h2, h3⟩ := h
  exact ⟨h1, h2, h3.blind (U := U) (U2 := U.calling g mk a) rfl rfl⟩
/-! contracts -/
def rmd (d : Nat) : Room := { frames := d, cells := 0, slots := 0, locals := 40 * d }
def QI (X : Cx) (Q : Int → Mem → Prop) : Array Value → State → Outcome → State → Prop := va_Qi (fun (r : Int32) (M : Mem) => ∃ v : Int, r = jI v ∧ Q v M) (fun M t => va_P (xD X) vwCl (pic X M) t.heap) (AW X)
def QV (X : Cx) (Q : Mem → Prop) : Array Value → State → Outcome → State → Prop := va_Qv (fun M : Mem => Q M) (fun M t => va_P (xD X) vwCl (pic X M) t.heap) (AW X)
def MI (X : Cx) (l : Launch) (y : MethodName) (cc : ByteArray) (nL : Nat) (ret : Option FieldType) (d : Nat) (av : List Value) (M : Mem) (Q : Int → Mem → Prop) : Prop := Met l y (Cond.code y cc nL ret :: gtbl) (rmd d) (va_Pc av (CP X M)) (QI X Q) 0 0 (AW X)
def MV (X : Cx) (l : Launch) (y : MethodName) (cc : ByteArray) (nL : Nat) (d : Nat) (av : List Value) (M : Mem) (Q : Mem → Prop) : Prop := Met l y (Cond.code y cc nL none :: gtbl) (rmd d) (va_Pc av (CP X M)) (QV X Q) 0 0 (AW X)
def En (X : Cx) (A : Nat → Prop) (d : Nat) (p : Program) (R : Room) (s : State) (m : MethodId) (args : Array Value) (meth : Method) (c : Code) (cc : ByteArray) (own : String) (nL : Nat) (ret : Option FieldType) (cells slots : Nat) : Prop :=
  CallFix p m c cc nL s args gtbl own ∧ Kx X A s ∧ (Inj X ∧ ∀ q, AW X q → A q) ∧ (meth.sig.returnType = ret ∧ meth.locks = false) ∧ (d ≤ R.frames ∧ 40 * d ≤ R.locals ∧ cells ≤ R.cells ∧ slots ≤ R.slots)
theorem MI.of {X : Cx} {l : Launch} {y : MethodName} {cc : ByteArray} {nL : Nat} {ret : Option FieldType} {d : Nat} {av : List Value} {M : Mem} {Q : Int → Mem → Prop} (hI : Inj X) (hy : plainName y.cls = true) (hn : (lg_sl av).length ≤ nL)
    (body : ∀ (p : Program) (e : Env) (R : Room) (s : State) (m : MethodId) (args : Array Value) (below : List Frame) (meth : Method) (c : Code) (ls : Array Slot), En X (AW X) d p R s m args meth c cc y.cls nL ret 0 0 → Wd X (AW X) s M s.heap [] → lv_has ls nL (lv_args 0 av) → W p l e R s m args below meth c s.heap [] 0 0 (MQ below (QI X Q) args s 0 0 (AW X)) (F0 m 0 ls [])) : MI X l y cc nL ret d av M Q := by
  refine Met.ofW (cc := cc) (maxL := nL) (ret := ret) hy rfl ?_
  intro p e s m args below meth c s₁ B hml hv
  obtain ⟨rfl, hP, hK⟩ := hv
  have hts := atoms_spec (ws := Cond.code y cc nL ret :: gtbl) B.pre
  have hl := lv_entry av (n := nL) hn
  rw [lg_entry_eq]
  exact body p e _ s m _ below meth c _ ⟨⟨B.exec, B.bytes, hml, findClass_of_methodNamed B.named, fun w hw => hts w (List.mem_cons_of_mem _ hw)⟩, hK, ⟨hI, fun _ h => h⟩, ⟨B.returns, B.notSynchronized⟩, ⟨Nat.le_refl _, Nat.le_refl _, Nat.zero_le _, Nat.zero_le _⟩⟩ ⟨hP, va_S.rf⟩ hl
theorem MV.of {X : Cx} {l : Launch} {y : MethodName} {cc : ByteArray} {nL : Nat} {d : Nat} {av : List Value} {M : Mem} {Q : Mem → Prop} (hI : Inj X) (hy : plainName y.cls = true) (hn : (lg_sl av).length ≤ nL)
    (body : ∀ (p : Program) (e : Env) (R : Room) (s : State) (m : MethodId) (args : Array Value) (below : List Frame) (meth : Method) (c : Code) (ls : Array Slot), En X (AW X) d p R s m args meth c cc y.cls nL none 0 0 → Wd X (AW X) s M s.heap [] → lv_has ls nL (lv_args 0 av) → W p l e R s m args below meth c s.heap [] 0 0 (MQ below (QV X Q) args s 0 0 (AW X)) (F0 m 0 ls [])) : MV X l y cc nL d av M Q := by
  refine Met.ofW (cc := cc) (maxL := nL) (ret := none) hy rfl ?_
  intro p e s m args below meth c s₁ B hml hv
  obtain ⟨rfl, hP, hK⟩ := hv
  have hts := atoms_spec (ws := Cond.code y cc nL none :: gtbl) B.pre
  have hl := lv_entry av (n := nL) hn
  rw [lg_entry_eq]
  exact body p e _ s m _ below meth c _ ⟨⟨B.exec, B.bytes, hml, findClass_of_methodNamed B.named, fun w hw => hts w (List.mem_cons_of_mem _ hw)⟩, hK, ⟨hI, fun _ h => h⟩, ⟨B.returns, B.notSynchronized⟩, ⟨Nat.le_refl _, Nat.le_refl _, Nat.zero_le _, Nat.zero_le _⟩⟩ ⟨hP, va_S.rf⟩ hl
