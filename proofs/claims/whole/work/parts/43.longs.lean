/-! pure: long numbers (the family wb_ and pf_shr are pasted) -/
theorem wb_tb (n : Nat) : (lN n).toBitVec = BitVec.ofNat 64 n := rfl
theorem wb_inj {a b : Int64} (h : a.toBitVec = b.toBitVec) : a = b := Int64.toBitVec_inj.mp h
theorem wb_tn {n : Nat} (h : n < 2 ^ 64) : (lN n).toBitVec.toNat = n := by rw [wb_tb, BitVec.toNat_ofNat, Nat.mod_eq_of_lt h]
theorem wb_of (x : Int64) : ∃ n, n < 2 ^ 64 ∧ x = lN n := ⟨x.toBitVec.toNat, x.toBitVec.isLt, wb_inj (by rw [wb_tb]; simp)⟩
theorem wb_of32 (x : Int32) : ∃ n, n < 2 ^ 32 ∧ x = nI n := ⟨x.toBitVec.toNat, x.toBitVec.isLt, Int32.toBitVec_inj.mp (by show _ = BitVec.ofNat 32 _; simp)⟩
theorem wb_c : ∀ k, k < 64 → ((nI k).toInt64 &&& 63) = lN k := by decide +kernel
theorem wb_cu : ∀ k, k < 64 → ((nI k).toInt64.toUInt64 &&& Int64.toUInt64 63) = UInt64.ofNat k := by decide +kernel
theorem wb_sm : ∀ k, k < 64 → (BitVec.ofNat 64 k).smod 64 = BitVec.ofNat 64 k := by decide +kernel
theorem wb_pw {a b : Nat} (h : a ≤ b) : 2 ^ b = 2 ^ a * 2 ^ (b - a) := by rw [← Nat.pow_add]; congr 1; omega
theorem wb_lt2 {a b : Nat} (h : a < b) : 2 ^ a < 2 ^ b := Nat.pow_lt_pow_right (by decide) h
theorem wb_mod (n : Nat) : lN n = lN (n % 2 ^ 64) := wb_inj (by rw [wb_tb, wb_tb]; apply BitVec.eq_of_toNat_eq; rw [BitVec.toNat_ofNat, BitVec.toNat_ofNat, Nat.mod_mod])
theorem wb_shr {n k : Nat} (hn : n < 2 ^ 64) (hk : k < 64) : ((lN n).toUInt64 >>> ((nI k).toInt64.toUInt64 &&& Int64.toUInt64 63)).toInt64 = lN (n / 2 ^ k) := by
  rw [wb_cu k hk]
  apply wb_inj
  apply BitVec.eq_of_toNat_eq
  show ((lN n).toUInt64 >>> UInt64.ofNat k).toNat = (BitVec.ofNat 64 _).toNat
  have h1 : (UInt64.ofNat k).toNat = k := by
    show (BitVec.ofNat 64 k).toNat = k
    rw [BitVec.toNat_ofNat, Nat.mod_eq_of_lt (by omega)]
  have h2 : (lN n).toUInt64.toNat = n := wb_tn hn
  rw [UInt64.toNat_shiftRight, h1, h2, Nat.mod_eq_of_lt hk, Nat.shiftRight_eq_div_pow, BitVec.toNat_ofNat, Nat.mod_eq_of_lt (Nat.lt_of_le_of_lt (Nat.div_le_self _ _) hn)]
theorem wb_shl (n : Nat) {k : Nat} (hk : k < 64) : lN n <<< ((nI k).toInt64 &&& 63) = lN (n * 2 ^ k) := by
  rw [wb_c k hk]
  apply wb_inj
  rw [Int64.toBitVec_shiftLeft, wb_tb, wb_tb, wb_tb, wb_sm k hk]
  apply BitVec.eq_of_toNat_eq
  rw [BitVec.shiftLeft_eq', BitVec.toNat_shiftLeft, BitVec.toNat_ofNat, BitVec.toNat_ofNat, BitVec.toNat_ofNat, Nat.mod_eq_of_lt (show k < 2 ^ 64 by omega), Nat.shiftLeft_eq, Nat.mul_mod, Nat.mod_mod, ← Nat.mul_mod]
theorem wb_and {a b : Nat} (ha : a < 2 ^ 64) (hb : b < 2 ^ 64) : lN a &&& lN b = lN (a &&& b) := by
  apply wb_inj
  rw [Int64.toBitVec_and, wb_tb, wb_tb, wb_tb]
  apply BitVec.eq_of_toNat_eq
  rw [BitVec.toNat_and, BitVec.toNat_ofNat, BitVec.toNat_ofNat, BitVec.toNat_ofNat, Nat.mod_eq_of_lt ha, Nat.mod_eq_of_lt hb, Nat.mod_eq_of_lt (Nat.and_lt_two_pow _ hb)]
theorem jL_nat (n : Nat) : jL (n : Int) = lN n := rfl
theorem lN_i63 {n : Nat} (h : n < 2 ^ 63) : (lN n).toInt = (n : Int) := lg_ofNat_toInt h
theorem L_and {a b : Nat} (ha : a < 2 ^ 63) (hb : b < 2 ^ 63) : lAnd (a : Int) (b : Int) = ((a &&& b : Nat) : Int) := by
  unfold lAnd
  rw [jL_nat, jL_nat, wb_and (by omega) (by omega), lN_i63 (Nat.and_lt_two_pow _ hb)]
theorem L_ushr {a k : Nat} (ha : a < 2 ^ 63) (hk : k < 64) : lUshr (a : Int) (k : Int) = ((a / 2 ^ k : Nat) : Int) := by
  unfold lUshr
  rw [jL_nat, jI_nat, wb_shr (by omega) hk, lN_i63 (Nat.lt_of_le_of_lt (Nat.div_le_self _ _) ha)]
theorem L_shr {a : Int} {k : Nat} (ha : RgL a) (hk : k < 64) : lShr a (k : Int) = a / 2 ^ k := by
  unfold lShr
  rw [jI_nat, wb_c k hk]
  have e : (jL a >>> lN k).toInt = (jL a).toInt >>> ((lN k).toBitVec.smod 64).toNat := BitVec.toInt_sshiftRight ..
  have e2 : ((lN k).toBitVec.smod 64).toNat = k := by
    rw [wb_tb, wb_sm k hk, BitVec.toNat_ofNat, Nat.mod_eq_of_lt (by omega)]
  rw [e, e2, jL_toInt ha, Int.shiftRight_eq_div_pow]
  rfl
theorem L_cmp {a b : Int} (ha : RgL a) (hb : RgL b) : (a < b ∧ lCmp a b = -1) ∨ (a = b ∧ lCmp a b = 0) ∨ (b < a ∧ lCmp a b = 1) := by
  unfold lCmp lg_cmp
  have h1 : jL a > jL b ↔ b < a := by
    show jL b < jL a ↔ _
    rw [Int64.lt_iff_toInt_lt, jL_toInt ha, jL_toInt hb]
  have h2 : jL a = jL b ↔ a = b := by rw [← Int64.toInt_inj, jL_toInt ha, jL_toInt hb]
  by_cases c : b < a
  · rw [if_pos (h1.mpr c)]
    exact Or.inr (Or.inr ⟨c, by decide⟩)
  · rw [if_neg (fun q => c (h1.mp q))]
    by_cases d : a = b
    · rw [if_pos (h2.mpr d)]
      exact Or.inr (Or.inl ⟨d, by decide⟩)
    · rw [if_neg (fun q => d (h2.mp q))]
      exact Or.inl ⟨by omega, by decide⟩
/-! ===== how many bits: Long.bitCount ===== -/
def mkB (c : Nat) : Nat → Nat
  | 0 => 0
  | k + 1 => 256 * mkB c k + c
theorem and_split (a b m n : Nat) (hb : b < 256) (hn : n < 256) : (256 * a + b) &&& (256 * m + n) = 256 * (a &&& m) + (b &&& n) := by
  have h1 : b < 2 ^ 8 := hb
  have h2 : n < 2 ^ 8 := hn
  have h3 : (b &&& n) < 2 ^ 8 := Nat.and_lt_two_pow _ h2
  show (2 ^ 8 * a + b) &&& (2 ^ 8 * m + n) = 2 ^ 8 * (a &&& m) + (b &&& n)
  apply Nat.eq_of_testBit_eq
  intro i
  rw [Nat.testBit_and, Nat.testBit_two_pow_mul_add a h1, Nat.testBit_two_pow_mul_add m h2, Nat.testBit_two_pow_mul_add (a &&& m) h3]
  split
  · rw [Nat.testBit_and]
  · rw [Nat.testBit_and]
def xA1 (k v : Nat) : Nat := v - ((v / 2) &&& mkB 85 k)
def xA2 (k v : Nat) : Nat := (xA1 k v &&& mkB 51 k) + ((xA1 k v / 4) &&& mkB 51 k)
def xA3 (k v : Nat) : Nat := (xA2 k v + xA2 k v / 16) &&& mkB 15 k
def q8 (b : Nat) : Nat := b - ((b / 2) &&& 85)
def r8 (b : Nat) : Nat := (q8 b &&& 51) + ((q8 b / 4) &&& 51)
def p8 (b : Nat) : Nat := (r8 b + r8 b / 16) % 16
theorem by_q : ∀ b, b < 256 → ∀ t, t < 2 → ((b / 2 + 128 * t) &&& 85) = ((b / 2) &&& 85) := by decide +kernel
theorem by_r : ∀ b, b < 256 → ∀ t, t < 4 → ((b / 4 + 64 * t) &&& 51) = ((b / 4) &&& 51) := by decide +kernel
theorem by_b : ∀ b, b < 256 → q8 b < 256 ∧ r8 b ≤ 68 ∧ r8 b % 16 ≤ 4 ∧ p8 b ≤ 8 ∧ p8 b = b % 2 + b / 2 % 2 + b / 4 % 2 + b / 8 % 2 + b / 16 % 2 + b / 32 % 2 + b / 64 % 2 + b / 128 % 2 := by decide +kernel
theorem xA1_s (k a b : Nat) (hb : b < 256) : xA1 (k + 1) (256 * a + b) = 256 * xA1 k a + q8 b := by
  unfold xA1 q8
  rw [show (256 * a + b) / 2 = 256 * (a / 2) + (b / 2 + 128 * (a % 2)) by omega, show mkB 85 (k + 1) = 256 * mkB 85 k + 85 from rfl, and_split _ _ _ _ (by omega) (by decide), by_q b hb (a % 2) (by omega)]
  have h1 : ((a / 2) &&& mkB 85 k) ≤ a / 2 := Nat.and_le_left
  have h2 : ((b / 2) &&& 85) ≤ b / 2 := Nat.and_le_left
  omega
theorem xA2_s (k a b : Nat) (hb : b < 256) : xA2 (k + 1) (256 * a + b) = 256 * xA2 k a + r8 b := by
  have hq := (by_b b hb).1
  unfold xA2 r8
  rw [xA1_s k a b hb, show (256 * xA1 k a + q8 b) / 4 = 256 * (xA1 k a / 4) + (q8 b / 4 + 64 * (xA1 k a % 4)) by omega, show mkB 51 (k + 1) = 256 * mkB 51 k + 51 from rfl, and_split _ _ _ _ hq (by decide), and_split _ _ _ _ (by omega) (by decide), by_r _ hq (xA1 k a % 4) (by omega)]
  omega
theorem xA2_m (k v : Nat) : xA2 k v % 16 ≤ 4 := by
  cases k with
  | zero =>
    unfold xA2
    rw [show mkB 51 0 = 0 from rfl, Nat.and_zero, Nat.and_zero]
    decide
  | succ k =>
    have := (by_b (v % 256) (by omega)).2.2.1
    rw [show v = 256 * (v / 256) + v % 256 by omega, xA2_s k (v / 256) (v % 256) (by omega)]
    omega
theorem xA3_s (k a b : Nat) (hb : b < 256) : xA3 (k + 1) (256 * a + b) = 256 * xA3 k a + p8 b := by
  have h1 := (by_b b hb).2.1
  have h2 := xA2_m k a
  unfold xA3 p8
  rw [xA2_s k a b hb, show 256 * xA2 k a + r8 b + (256 * xA2 k a + r8 b) / 16 = 256 * (xA2 k a + xA2 k a / 16) + (r8 b + r8 b / 16 + 16 * (xA2 k a % 16)) by omega, show mkB 15 (k + 1) = 256 * mkB 15 k + 15 from rfl, and_split _ _ _ _ (by omega) (by decide)]
  have h3 : ((r8 b + r8 b / 16 + 16 * (xA2 k a % 16)) &&& 15) = (r8 b + r8 b / 16 + 16 * (xA2 k a % 16)) % 16 := Nat.and_two_pow_sub_one_eq_mod _ 4
  rw [h3]
  omega
theorem xA3_0 (k : Nat) : xA3 k 0 = 0 := by
  unfold xA3 xA2 xA1
  rw [Nat.zero_div, Nat.zero_and]
  simp
/-- how many of the first n bits -/
def pcN (v : Nat) (n : Nat) : Int := sm (fun c => if v.testBit c then 1 else 0) n
theorem sm_split (g : Nat → Int) (m : Nat) : ∀ n, sm g (m + n) = sm g m + sm (fun k => g (m + k)) n
  | 0 => by simp [sm]
  | n + 1 => by
    show sm g (m + n) + g (m + n) = _
    rw [sm_split g m n]
    simp only [sm]
    omega
theorem tb_i (v c : Nat) : (if v.testBit c then (1 : Int) else 0) = ((v / 2 ^ c % 2 : Nat) : Int) := by
  rw [Nat.testBit_eq_decide_div_mod_eq]
  by_cases h : v / 2 ^ c % 2 = 1
  · simp [h]
  · have : v / 2 ^ c % 2 = 0 := by omega
    simp [this]
theorem pcN_s (a b n : Nat) (hb : b < 256) : pcN (256 * a + b) (8 + n) = (p8 b : Int) + pcN a n := by
  unfold pcN
  rw [sm_split]
  have e1 : sm (fun c => if (256 * a + b).testBit c then (1 : Int) else 0) 8 = (p8 b : Int) := by
    rw [(by_b b hb).2.2.2.2]
    rw [sm_cong (g' := fun c => (((256 * a + b) / 2 ^ c % 2 : Nat) : Int)) (fun k _ => tb_i _ k)]
    simp only [sm]
    omega
  rw [e1]
  congr 1
  refine sm_cong (fun k _ => ?_)
  rw [tb_i, tb_i, Nat.pow_add, ← Nat.div_div_eq_div_mul, show (256 * a + b) / 2 ^ 8 = a by omega]
theorem pc_sum {p0 p1 p2 p3 p4 x y z w : Nat} (h0 : p0 ≤ 8) (h1 : p1 ≤ 8) (h2 : p2 ≤ 8) (h3 : p3 ≤ 8) (h4 : p4 ≤ 8) (hx : x = p0 + 256 * p1 + 65536 * p2 + 16777216 * p3 + 4294967296 * p4) (hy : y = x + x / 256) (hz : z = y + y / 65536) (hw : w = z + z / 4294967296) : w % 128 = p0 + p1 + p2 + p3 + p4 ∧ w < 2 ^ 63 := by
  have e1 : x / 256 = p1 + 256 * p2 + 65536 * p3 + 16777216 * p4 := by omega
  have e2 : y / 65536 = (p2 + p3) + 256 * (p3 + p4) + 65536 * p4 := by omega
  have e3 : z / 4294967296 = p4 := by omega
  constructor
  · omega
  · omega
theorem xA3_pc {v : Nat} (hv : v < 2 ^ 40) : ∃ p0 p1 p2 p3 p4, p0 ≤ 8 ∧ p1 ≤ 8 ∧ p2 ≤ 8 ∧ p3 ≤ 8 ∧ p4 ≤ 8 ∧ xA3 8 v = p0 + 256 * p1 + 65536 * p2 + 16777216 * p3 + 4294967296 * p4 ∧ pcN v 40 = ((p0 + p1 + p2 + p3 + p4 : Nat) : Int) := by
  obtain ⟨a1, b0, k0, rfl⟩ : ∃ a b, b < 256 ∧ v = 256 * a + b := ⟨v / 256, v % 256, by omega, by omega⟩
  obtain ⟨a2, b1, k1, rfl⟩ : ∃ a b, b < 256 ∧ a1 = 256 * a + b := ⟨a1 / 256, a1 % 256, by omega, by omega⟩
  obtain ⟨a3, b2, k2, rfl⟩ : ∃ a b, b < 256 ∧ a2 = 256 * a + b := ⟨a2 / 256, a2 % 256, by omega, by omega⟩
  obtain ⟨a4, b3, k3, rfl⟩ : ∃ a b, b < 256 ∧ a3 = 256 * a + b := ⟨a3 / 256, a3 % 256, by omega, by omega⟩
  obtain ⟨a5, b4, k4, rfl⟩ : ∃ a b, b < 256 ∧ a4 = 256 * a + b := ⟨a4 / 256, a4 % 256, by omega, by omega⟩
  have h5 : a5 = 0 := by omega
  subst h5
  refine ⟨p8 b0, p8 b1, p8 b2, p8 b3, p8 b4, (by_b b0 k0).2.2.2.1, (by_b b1 k1).2.2.2.1, (by_b b2 k2).2.2.2.1, (by_b b3 k3).2.2.2.1, (by_b b4 k4).2.2.2.1, ?_, ?_⟩
  · rw [xA3_s 7 _ b0 k0, xA3_s 6 _ b1 k1, xA3_s 5 _ b2 k2, xA3_s 4 _ b3 k3, xA3_s 3 _ b4 k4, xA3_0]
    omega
  · rw [show (40 : Nat) = 8 + 32 from rfl, pcN_s _ b0 32 k0, show (32 : Nat) = 8 + 24 from rfl, pcN_s _ b1 24 k1, show (24 : Nat) = 8 + 16 from rfl, pcN_s _ b2 16 k2, show (16 : Nat) = 8 + 8 from rfl, pcN_s _ b3 8 k3, show (8 : Nat) = 8 + 0 from rfl, pcN_s _ b4 0 k4, show pcN 0 0 = 0 from rfl]
    omega
theorem l2i_127 {w : Nat} (hw : w < 2 ^ 63) : bAnd (l2i (w : Int)) 127 = ((w % 128 : Nat) : Int) := by
  unfold bAnd l2i
  rw [jI_of, pk_and (jL (w : Int)).toInt32 (m := jI 127) 7 (by decide)]
  have e : (jL (w : Int)).toInt32.toBitVec.toNat = w % 2 ^ 64 % 2 ^ 32 := by
    rw [jL_nat]
    show ((lN w).toBitVec.signExtend 32).toNat = _
    rw [BitVec.signExtend_eq_setWidth_of_le _ (by decide), BitVec.toNat_setWidth, wb_tb, BitVec.toNat_ofNat]
  rw [e, show w % 2 ^ 64 % 2 ^ 32 % 2 ^ 7 = w % 128 by omega, nI_int (by omega)]
theorem L_and5 {a : Nat} (ha : a < 2 ^ 63) : lAnd (a : Int) 6148914691236517205 = ((a &&& mkB 85 8 : Nat) : Int) := L_and (b := 6148914691236517205) ha (by decide)
theorem L_and3 {a : Nat} (ha : a < 2 ^ 63) : lAnd (a : Int) 3689348814741910323 = ((a &&& mkB 51 8 : Nat) : Int) := L_and (b := 3689348814741910323) ha (by decide)
theorem L_andF {a : Nat} (ha : a < 2 ^ 63) : lAnd (a : Int) 1085102592571150095 = ((a &&& mkB 15 8 : Nat) : Int) := L_and (b := 1085102592571150095) ha (by decide)
theorem L_u1 {a : Nat} (ha : a < 2 ^ 63) : lUshr (a : Int) 1 = ((a / 2 : Nat) : Int) := L_ushr (k := 1) ha (by decide)
theorem L_u2 {a : Nat} (ha : a < 2 ^ 63) : lUshr (a : Int) 2 = ((a / 4 : Nat) : Int) := L_ushr (k := 2) ha (by decide)
theorem L_u4 {a : Nat} (ha : a < 2 ^ 63) : lUshr (a : Int) 4 = ((a / 16 : Nat) : Int) := L_ushr (k := 4) ha (by decide)
theorem L_u8 {a : Nat} (ha : a < 2 ^ 63) : lUshr (a : Int) 8 = ((a / 256 : Nat) : Int) := L_ushr (k := 8) ha (by decide)
theorem L_u16 {a : Nat} (ha : a < 2 ^ 63) : lUshr (a : Int) 16 = ((a / 65536 : Nat) : Int) := L_ushr (k := 16) ha (by decide)
theorem L_u32 {a : Nat} (ha : a < 2 ^ 63) : lUshr (a : Int) 32 = ((a / 4294967296 : Nat) : Int) := L_ushr (k := 32) ha (by decide)
theorem s_bit40 {f : Int} {M : Mem} {Q : Int → Mem → Prop} (h0 : 0 ≤ f) (h40 : f < 2 ^ 40) (h : Q (pcN f.toNat 40) M) : wp_J13_bitCount_95d88 f M Q := by
  obtain ⟨v, rfl⟩ : ∃ v : Nat, f = (v : Int) := ⟨f.toNat, by omega⟩
  have hv : v < 2 ^ 40 := by omega
  rw [Int.toNat_natCast] at h
  unfold wp_J13_bitCount_95d88
  have e1 : (v : Int) - lAnd (lUshr (v : Int) 1) 6148914691236517205 = ((xA1 8 v : Nat) : Int) := by
    rw [L_u1 (by omega), L_and5 (by omega)]
    unfold xA1
    have : ((v / 2) &&& mkB 85 8) ≤ v / 2 := Nat.and_le_left
    omega
  rw [e1]
  have b1 : xA1 8 v ≤ v := by unfold xA1; omega
  generalize hx1 : xA1 8 v = x1 at *
  have e2 : lAnd (x1 : Int) 3689348814741910323 + lAnd (lUshr (x1 : Int) 2) 3689348814741910323 = ((xA2 8 v : Nat) : Int) := by
    rw [L_u2 (by omega), L_and3 (by omega), L_and3 (by omega)]
    unfold xA2
    rw [hx1]
    omega
  rw [e2]
  have b2 : xA2 8 v ≤ 2 * v := by
    unfold xA2
    rw [hx1]
    have i1 : (x1 &&& mkB 51 8) ≤ x1 := Nat.and_le_left
    have i2 : ((x1 / 4) &&& mkB 51 8) ≤ x1 / 4 := Nat.and_le_left
    omega
  generalize hx2 : xA2 8 v = x2 at *
  have e3 : lAnd ((x2 : Int) + lUshr (x2 : Int) 4) 1085102592571150095 = ((xA3 8 v : Nat) : Int) := by
    rw [L_u4 (by omega), show (x2 : Int) + ((x2 / 16 : Nat) : Int) = ((x2 + x2 / 16 : Nat) : Int) by omega, L_andF (by omega)]
    unfold xA3
    rw [hx2]
  rw [e3]
  obtain ⟨p0, p1, p2, p3, p4, k0, k1, k2, k3, k4, hx3, hpc⟩ := xA3_pc hv
  generalize xA3 8 v = x3 at *
  have b3 : x3 < 2 ^ 50 := by omega
  rw [L_u8 (by omega), show (x3 : Int) + ((x3 / 256 : Nat) : Int) = ((x3 + x3 / 256 : Nat) : Int) by omega]
  generalize hy : x3 + x3 / 256 = y
  rw [L_u16 (by omega), show (y : Int) + ((y / 65536 : Nat) : Int) = ((y + y / 65536 : Nat) : Int) by omega]
  generalize hz : y + y / 65536 = z
  rw [L_u32 (by omega), show (z : Int) + ((z / 4294967296 : Nat) : Int) = ((z + z / 4294967296 : Nat) : Int) by omega]
  generalize hw : z + z / 4294967296 = w
  obtain ⟨g1, g2⟩ := pc_sum k0 k1 k2 k3 k4 hx3 hy.symm hz.symm hw.symm
  rw [l2i_127 g2, g1, ← hpc]
  exact h
theorem pcN_rng (v n : Nat) : 0 ≤ pcN v n ∧ pcN v n ≤ n := by
  have := sm_bound (g := fun c => if v.testBit c then (1 : Int) else 0) (c := 1) (n := n) (fun k _ => by split <;> decide)
  unfold pcN
  omega
/-- one bit of a set of cells -/
theorem L_bit {f : Int} {c : Nat} (h0 : 0 ≤ f) (h40 : f < 2 ^ 40) (hc : c < 40) : lAnd (lShr f (c : Int)) 1 = if f.toNat.testBit c then 1 else 0 := by
  obtain ⟨v, rfl⟩ : ∃ v : Nat, f = (v : Int) := ⟨f.toNat, by omega⟩
  have hv : v < 2 ^ 40 := by omega
  rw [L_shr ⟨by omega, by omega⟩ (by omega), Int.toNat_natCast, tb_i]
  have e : (v : Int) / 2 ^ c = ((v / 2 ^ c : Nat) : Int) := by
    rw [Int.natCast_ediv, Int.natCast_pow]
    rfl
  have hd : v / 2 ^ c ≤ v := Nat.div_le_self _ _
  rw [e]
  have g : lAnd ((v / 2 ^ c : Nat) : Int) 1 = ((v / 2 ^ c &&& 1 : Nat) : Int) := L_and (b := 1) (by omega) (by decide)
  rw [g, Nat.and_one_is_mod]
theorem nk_c : ∀ c, c < 40 → lN (2 ^ c) ^^^ jL (-1) = lN (2 ^ 64 - 1 - 2 ^ c) := by decide +kernel
theorem nk_b : ∀ c, c < 40 → ∀ j, j < 40 → (2 ^ 64 - 1 - 2 ^ c).testBit j = !decide (j = c) := by decide +kernel
/-- one cell is no more free -/
theorem L_clr {f : Int} {c : Nat} (h0 : 0 ≤ f) (h40 : f < 2 ^ 40) (hc : c < 40) : ∃ g : Nat, lAnd f (lXor (lShl 1 (c : Int)) (-1)) = (g : Int) ∧ (g : Int) < 2 ^ 40 ∧ ∀ j, j < 40 → g.testBit j = (f.toNat.testBit j && !decide (j = c)) := by
  obtain ⟨v, rfl⟩ : ∃ v : Nat, f = (v : Int) := ⟨f.toNat, by omega⟩
  have hv : v < 2 ^ 40 := by omega
  have e1 : lShl 1 (c : Int) = (lN (2 ^ c)).toInt := by
    unfold lShl
    have : jL 1 <<< ((jI (c : Int)).toInt64 &&& 63) = lN (1 * 2 ^ c) := wb_shl 1 (by omega)
    rw [this, Nat.one_mul]
  have e2 : lXor (lShl 1 (c : Int)) (-1) = (lN (2 ^ 64 - 1 - 2 ^ c)).toInt := by
    unfold lXor
    rw [e1, jL_of, nk_c c hc]
  have hp : 2 ^ c < 2 ^ 64 := wb_lt2 (by omega)
  refine ⟨v &&& (2 ^ 64 - 1 - 2 ^ c), ?_, ?_, fun j hj => ?_⟩
  · rw [e2]
    unfold lAnd
    rw [jL_of, jL_nat, wb_and (by omega) (Nat.lt_of_le_of_lt (Nat.sub_le _ _) (by decide)), lN_i63]
    have : (v &&& (2 ^ 64 - 1 - 2 ^ c)) ≤ v := Nat.and_le_left
    omega
  · have : (v &&& (2 ^ 64 - 1 - 2 ^ c)) ≤ v := Nat.and_le_left
    omega
  · rw [Nat.testBit_and, nk_b c hc j hj, Int.toNat_natCast]
