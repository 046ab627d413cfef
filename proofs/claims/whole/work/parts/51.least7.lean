/-! pure: the class's search for the best layout -/
theorem I_shr {a : Int} {k : Nat} (ha : Rg a) (hk : k < 32) : bShr a (k : Int) = a / 2 ^ k := by
  unfold bShr
  rw [jI_nat]
  have e : (jI a >>> (nI k &&& 31)).toInt = (jI a).toInt >>> ((nI k &&& 31).toBitVec.smod 32).toNat := BitVec.toInt_sshiftRight ..
  rw [e, s_l k hk, jI_toInt ha, Int.shiftRight_eq_div_pow]
  rfl
theorem I_and3 {v : Nat} (hv : v < 2147483648) : bAnd (v : Int) 3 = ((v % 4 : Nat) : Int) := by
  unfold bAnd
  rw [pk_and (jI (v : Int)) (m := jI 3) 2 (by decide)]
  have e : (jI (v : Int)).toBitVec.toNat = v := by
    show (BitVec.ofNat 32 v).toNat = v
    rw [BitVec.toNat_ofNat, Nat.mod_eq_of_lt (by omega)]
  rw [e, nI_int (by omega)]
theorem sHp : ∀ b, b < 64 → ∀ s, s < 3 → bAnd (bShr ((b : Nat) : Int) (2 * (2 - ((s : Nat) : Int)))) 3 = ((dB b s : Nat) : Int) := by decide +kernel
theorem gHp {d : Nat → Nat} (hd : dig3 d) {g : Nat} (hg : g < 6) : bAnd (bShr (c4 d : Int) (2 * (5 - (g : Int)))) 3 = (d g : Int) := by
  have a0 := hd 0 (by decide); have a1 := hd 1 (by decide); have a2 := hd 2 (by decide); have a3 := hd 3 (by decide); have a4 := hd 4 (by decide); have a5 := hd 5 (by decide)
  have h4 : c4 d < 4096 := by unfold c4; omega
  rw [show 2 * (5 - (g : Int)) = ((2 * (5 - g) : Nat) : Int) by omega, I_shr ⟨by omega, by omega⟩ (by omega)]
  have e : (c4 d : Int) / 2 ^ (2 * (5 - g)) = ((c4 d / 2 ^ (2 * (5 - g)) : Nat) : Int) := by
    rw [Int.natCast_ediv, Int.natCast_pow]
    rfl
  have hle : c4 d / 2 ^ (2 * (5 - g)) ≤ c4 d := Nat.div_le_self _ _
  rw [e, I_and3 (by omega)]
  congr 1
  unfold c4
  have : g = 0 ∨ g = 1 ∨ g = 2 ∨ g = 3 ∨ g = 4 ∨ g = 5 := by omega
  rcases this with rfl | rfl | rfl | rfl | rfl | rfl <;> simp only [Nat.reduceSub, Nat.reduceMul, Nat.reducePow] <;> omega
theorem s_sheetHeap {b s : Nat} {x : Int} {M : Mem} {Q : Int → Mem → Prop} (hb : b < 64) (hs : s < 3) (hx : x = (s : Int)) (h : Q (dB b s : Int) M) : wp_X0_sheetHeap (b : Int) x M Q := by
  subst hx
  unfold wp_X0_sheetHeap
  rw [sHp b hb s hs]
  exact h
/-! what the sheets add -/
def mkS (b : Nat) : Nat → Nat
  | 0 => 0
  | i + 1 => if dB b i = 3 then mkS b i else mkS b i ||| 2 ^ dB b i
def ctS (b : Nat) : Nat → Nat
  | 0 => 0
  | i + 1 => if dB b i = 3 then ctS b i else ctS b i + 1
theorem mkS_lt : ∀ b, b < 64 → ∀ i, i < 4 → mkS b i < 8 ∧ ctS b i ≤ 3 := by decide +kernel
theorem or_1h : ∀ m, m < 8 → ∀ h, h < 3 → bOr ((m : Nat) : Int) (bShl 1 ((h : Nat) : Int)) = ((m ||| 2 ^ h : Nat) : Int) := by decide +kernel
theorem rk_end : ∀ b, b < 64 → (((ctS b 3 : Nat) : Int) - bc6 (mkS b 3)) * 4 + ((ctS b 3 : Nat) : Int) = ((rkS (dB b) : Nat) : Int) := by decide +kernel
theorem s_rankOf_loop {b : Nat} {M : Mem} {Q : Int → Mem → Prop} (hb : b < 64) (h : Q (rkS (dB b) : Int) M) : ∀ (k i : Nat), i + k = 3 → wp_X0_rankOf_6 (b : Int) Q (k + 1) (ctS b i : Int) (mkS b i : Int) (i : Int) M := by
  intro k
  induction k with
  | zero =>
    intro i hi
    have e : i = 3 := by omega
    subst e
    rw [wp_X0_rankOf_6]
    refine ⟨by decide, fun _ => ?_, fun q => absurd (by decide) q⟩
    refine s_bit6 (v := mkS b 3) (by have := (mkS_lt b hb 3 (by decide)).1; omega) ?_
    rw [rk_end b hb]
    exact h
  | succ k ih =>
    intro i hi
    rw [wp_X0_rankOf_6]
    have hm := mkS_lt b hb i (by omega)
    have hd : dB b i < 4 := dB_dig b i (by omega)
    refine ⟨⟨by omega, by omega⟩, fun q => absurd q (by omega), fun _ => ?_⟩
    refine s_sheetHeap hb (by omega) rfl ?_
    have st := ih (i + 1) (by omega)
    rw [show ctS b (i + 1) = if dB b i = 3 then ctS b i else ctS b i + 1 from rfl, show mkS b (i + 1) = if dB b i = 3 then mkS b i else mkS b i ||| 2 ^ dB b i from rfl] at st
    refine ⟨⟨by omega, by omega⟩, fun q => ?_, fun q => ?_⟩
    · rw [if_pos (by omega), if_pos (by omega)] at st; exact st
    · rw [if_neg (by omega), if_neg (by omega)] at st
      rw [or_1h _ hm.1 _ (by omega)]
      exact st
theorem s_rankOf {b : Nat} {M : Mem} {Q : Int → Mem → Prop} (hb : b < 64) (h : Q (rkS (dB b) : Int) M) : wp_X0_rankOf (b : Int) M Q := by
  unfold wp_X0_rankOf
  exact ⟨4, s_rankOf_loop hb h 3 0 rfl⟩
/-! the room of the heaps -/
theorem s_allWaiting {M : Mem} {Q : Int → Mem → Prop} (h : Q (sm (M 52) 6) M) : wp_X1_allWaiting M Q := by
  have go : ∀ (k i : Nat), i + k = 6 → wp_X1_allWaiting_4 Q (k + 1) (sm (M 52) i) (i : Int) M := by
    intro k
    induction k with
    | zero =>
      intro i hi
      have e : i = 6 := by omega
      subst e
      rw [wp_X1_allWaiting_4]
      exact ⟨by decide, fun _ => h, fun q => absurd (by decide) q⟩
    | succ k ih =>
      intro i hi
      rw [wp_X1_allWaiting_4, Int.toNat_natCast]
      exact ⟨⟨by omega, by omega⟩, fun q => absurd q (by omega), fun _ => ⟨⟨by omega, by omega⟩, ih (i + 1) (by omega)⟩⟩
  unfold wp_X1_allWaiting
  exact ⟨7, go 6 0 rfl⟩
theorem s_freeIn {s : Nat} {x : Int} {M : Mem} {Q : Int → Mem → Prop} (hx : x = (s : Int)) (hs : s < 3) (h0 : 0 ≤ M 54 s) (h40 : M 54 s < 2 ^ 40) (h : Q (rmF (M 54) s) M) : wp_X5_freeIn x M Q := by
  subst hx
  unfold wp_X5_freeIn wp_X7_isSheet
  refine ⟨⟨by omega, by omega⟩, fun q => absurd q (by omega), fun _ => ⟨⟨by omega, by omega⟩, fun q => absurd q (by omega), fun _ => ⟨by decide, fun q => absurd q (by decide), fun _ => ⟨⟨by omega, by omega⟩, ?_⟩⟩⟩⟩
  rw [Int.toNat_natCast]
  exact s_bit40 h0 h40 h
def tot3 (r : Nat → Int) (s : Nat → Nat) : Int := sm (fun i => if s i < 3 then r i else 0) 3
theorem s_makeRoom {r : Nat → Int} {t : Int} {b : Nat} {M : Mem} {Q : Int → Mem → Prop} (hb : b < 64) (rr : ∀ i, i < 3 → 0 ≤ r i ∧ r i ≤ 40) (hr : ∀ i, i < 3 → M 90 i = r i) (ht : M 57 5 = t) (hw : Rg t)
    (h1 : ∀ M', (∀ k, k ≠ 59 → M' k = M k) → (∀ h, h < 3 → M' 59 h = hsH r (dB b) h) → t ≤ tot3 r (dB b) → Q 1 M')
    (h0 : ∀ M', (∀ k, k ≠ 59 → M' k = M k) → ¬ t ≤ tot3 r (dB b) → Q 0 M') : wp_X0_makeRoom (b : Int) M Q := by
  have tr : ∀ i, i ≤ 3 → 0 ≤ sm (fun j => if dB b j < 3 then r j else 0) i ∧ sm (fun j => if dB b j < 3 then r j else 0) i ≤ 40 * i := fun i hi => sm_bound (fun k hk => by
    have := rr k (by omega)
    split <;> omega)
  have go : ∀ (k i : Nat) (M1 : Mem), i + k = 3 → (∀ k, k ≠ 59 → M1 k = M k) → (∀ h, h < 3 → M1 59 h = sm (fun j => if dB b j = h then r j else 0) i) → wp_X0_makeRoom_24 (b : Int) Q (k + 1) (sm (fun j => if dB b j < 3 then r j else 0) i) (i : Int) M1 := by
    intro k
    induction k with
    | zero =>
      intro i M1 hi hk h59
      have e : i = 3 := by omega
      subst e
      rw [wp_X0_makeRoom_24]
      refine ⟨by decide, fun _ => ?_, fun q => absurd (by decide) q⟩
      have t3 := tr 3 (by decide)
      rw [hk 57 (by decide), ht]
      refine ⟨⟨by omega, by omega⟩, hw, fun q => h0 M1 hk (fun w => ?_), fun q => h1 M1 hk h59 ?_⟩
      · unfold tot3 at w; omega
      · unfold tot3; omega
    | succ k ih =>
      intro i M1 hi hk h59
      rw [wp_X0_makeRoom_24]
      have hd : dB b i < 4 := dB_dig b i (by omega)
      refine ⟨⟨by omega, by omega⟩, fun q => absurd q (by omega), fun _ => ?_⟩
      refine s_sheetHeap hb (by omega) rfl ?_
      simp only [Int.toNat_natCast]
      have et : sm (fun j => if dB b j < 3 then r j else 0) (i + 1) = sm (fun j => if dB b j < 3 then r j else 0) i + if dB b i < 3 then r i else 0 := rfl
      refine ⟨⟨by omega, by omega⟩, fun q => ?_, fun q => ⟨⟨by omega, by omega⟩, ⟨by omega, by omega⟩, ⟨by omega, by omega⟩, ⟨by omega, by omega⟩, ?_⟩⟩
      · have st := ih (i + 1) M1 (by omega) hk (fun h hh => by
          rw [h59 h hh]
          simp only [sm]
          rw [if_neg (by omega)]
          omega)
        rw [et, if_neg (by omega), Int.add_zero] at st
        exact st
      · rw [up_ne M1 _ _ (show 90 ≠ 59 by decide), hk 90 (by decide), hr i (by omega)]
        have hk2 : ∀ k, k ≠ 59 → up M1 59 (dB b i) (M1 59 (dB b i) + r i) k = M k := fun k q => by rw [up_ne _ _ _ q]; exact hk k q
        have st := ih (i + 1) _ (by omega) hk2 (fun h hh => by
          rw [up_same]
          simp only [sm]
          by_cases w : dB b i = h
          · subst w; rw [upr_at, if_pos rfl, h59 _ hh]
          · rw [upr_ne _ _ (fun e => w e.symm), if_neg w, h59 h hh]; omega)
        rw [et, if_pos (by omega)] at st
        exact st
  unfold wp_X0_makeRoom
  refine ⟨4, ?_⟩
  rw [wp_X0_makeRoom_2]
  refine ⟨by decide, fun q => absurd q (by decide), fun _ => ⟨by decide, ?_⟩⟩
  rw [wp_X0_makeRoom_2]
  refine ⟨by decide, fun q => absurd q (by decide), fun _ => ⟨by decide, ?_⟩⟩
  rw [wp_X0_makeRoom_2]
  refine ⟨by decide, fun q => absurd q (by decide), fun _ => ⟨by decide, ?_⟩⟩
  rw [wp_X0_makeRoom_2]
  refine ⟨by decide, fun _ => ⟨4, ?_⟩, fun q => absurd (by decide) q⟩
  refine go 3 0 _ rfl (fun k hk => by rw [up_ne _ _ _ hk, up_ne _ _ _ hk, up_ne _ _ _ hk]) (fun h hh => ?_)
  have : h = 0 ∨ h = 1 ∨ h = 2 := by omega
  rcases this with rfl | rfl | rfl <;> rfl
/-! the least heaps of the groups -/
theorem okD_cong {c : Nat → Int} {d d' : Nat → Nat} : ∀ (k g o : Nat) (rm : Nat → Int), (∀ j, g ≤ j → d j = d' j) → okD c d k g o rm → okD c d' k g o rm
  | 0, _, _, _, _, _ => trivial
  | k + 1, g, o, rm, h, ho => by
    have e := h g (Nat.le_refl g)
    refine ⟨fun c0 => ?_, fun c0 => ?_⟩
    · obtain ⟨o1, o2⟩ := ho.1 c0
      exact ⟨by rw [← e]; exact o1, okD_cong k (g + 1) o rm (fun j hj => h j (by omega)) o2⟩
    · obtain ⟨o1, o2, o3, o4⟩ := ho.2 c0
      rw [e] at o1 o2 o3 o4
      exact ⟨o1, o2, o3, okD_cong k (g + 1) _ _ (fun j hj => h j (by omega)) o4⟩
theorem cdD_cong {d d' : Nat → Nat} : ∀ (k g : Nat), (∀ j, g ≤ j → d j = d' j) → cdD d k g = cdD d' k g
  | 0, _, _ => rfl
  | k + 1, g, h => by
    simp only [cdD]
    rw [h g (Nat.le_refl g), cdD_cong k (g + 1) (fun j hj => h j (by omega))]
theorem cdD_lt {d : Nat → Nat} : ∀ (k g : Nat), g + k = 6 → (∀ j, g ≤ j → j < g + k → d j < 3) → cdD d k g < 4 ^ (6 - g)
  | 0, g, h, _ => by
    rw [show 6 - g = 0 by omega]
    simp [cdD]
  | k + 1, g, h, hd => by
    have i := cdD_lt (d := d) k (g + 1) (by omega) (fun j h1 h2 => hd j (by omega) (by omega))
    have d3 := hd g (by omega) (by omega)
    simp only [cdD]
    rw [show 6 - (g + 1) = 5 - g by omega] at i
    rw [show 6 - g = (5 - g) + 1 by omega, Nat.pow_succ]
    have : d g * 4 ^ (5 - g) ≤ 2 * 4 ^ (5 - g) := Nat.mul_le_mul_right _ (by omega)
    omega
theorem or_gh : ∀ g, g < 6 → ∀ h, h < 3 → ∀ v, v < 4 ^ (5 - g) → bOr (bShl ((h : Nat) : Int) (2 * (5 - ((g : Nat) : Int)))) ((v : Nat) : Int) = ((h * 4 ^ (5 - g) + v : Nat) : Int) := by decide +kernel
theorem up_back (M : Mem) (k i : Nat) (x y : Int) (h : x + y = M k i) : up (up M k i x) k i (up M k i x k i + y) = M := by
  rw [up_sn, up_set1, up_same, upr_upr, h, upr_self]
  funext j
  unfold set1
  by_cases e : j = k
  · rw [if_pos e, e]
  · rw [if_neg e, up_ne _ _ _ e]
theorem s_least {c : Nat → Int} (hc : ∀ g, g < 6 → 0 ≤ c g ∧ c g ≤ 40) : ∀ (k g n o : Nat) (M : Mem) (Q : Int → Mem → Prop), g + k = 6 → k < n → o ≤ 3 → (∀ g, g < 6 → M 58 g = c g) → (∀ h, h < 3 → 0 ≤ M 59 h ∧ M 59 h ≤ 120) →
    ((∀ d, ¬ okD c d k g o (M 59)) → Q (-1) M) → (∀ d, okD c d k g o (M 59) → (∀ d', okD c d' k g o (M 59) → cdD d k g ≤ cdD d' k g) → Q (cdD d k g : Int) M) → wp_X0_leastHeaps n (g : Int) (o : Int) M Q := by
  intro k
  induction k with
  | zero =>
    intro g n o M Q hg hn ho h58 h59 hno hyes
    obtain ⟨n0, rfl⟩ : ∃ n0, n = n0 + 1 := ⟨n - 1, by omega⟩
    rw [wp_X0_leastHeaps]
    refine ⟨⟨by omega, by omega⟩, fun q => absurd q (by omega), fun _ => ?_⟩
    exact hyes (fun _ => 0) trivial (fun _ _ => Nat.le_refl _)
  | succ k ih =>
    intro g n o M Q hg hn ho h58 h59 hno hyes
    obtain ⟨n0, rfl⟩ : ∃ n0, n = n0 + 1 := ⟨n - 1, by omega⟩
    rw [wp_X0_leastHeaps, Int.toNat_natCast, h58 g (by omega)]
    have cg := hc g (by omega)
    refine ⟨⟨by omega, by omega⟩, fun _ => ⟨⟨by omega, by omega⟩, ⟨by omega, by omega⟩, fun c0 => ⟨4, ?_⟩, fun c0 => ?_⟩, fun q => absurd (by omega) q⟩
    · have loop : ∀ (m h : Nat), h + m = 3 → (∀ d, okD c d (k + 1) g o (M 59) → h ≤ d g) → wp_X0_leastHeaps_27 (g : Int) (o : Int) (wp_X0_leastHeaps n0) Q (m + 1) (h : Int) M := by
        intro m
        induction m with
        | zero =>
          intro h hh hlo
          rw [wp_X0_leastHeaps_27]
          refine ⟨⟨by omega, by omega⟩, fun _ => hno (fun d hd => ?_), fun q => absurd (by omega) q⟩
          have := hlo d hd
          have := (hd.2 c0).1
          omega
        | succ m ihm =>
          intro h hh hlo
          rw [wp_X0_leastHeaps_27]
          refine ⟨⟨by omega, by omega⟩, fun q => absurd q (by omega), fun _ => ⟨⟨by omega, by omega⟩, ⟨by omega, by omega⟩, fun q => hno (fun d hd => ?_), fun q1 => ?_⟩⟩
          · have := hlo d hd
            have := (hd.2 c0).2.1
            omega
          · rw [Int.toNat_natCast, Int.toNat_natCast, h58 g (by omega)]
            have r59 := h59 h (by omega)
            have next : (∀ d, okD c d (k + 1) g o (M 59) → d g ≠ h) → wp_X0_leastHeaps_27 (g : Int) (o : Int) (wp_X0_leastHeaps n0) Q (m + 1) ((h : Int) + 1) M := by
              intro hne
              exact ihm (h + 1) (by omega) (fun d hd => by have := hlo d hd; have := hne d hd; omega)
            refine ⟨⟨by omega, by omega⟩, ⟨by omega, by omega⟩, ⟨by omega, by omega⟩, ⟨by omega, by omega⟩, fun q2 => ⟨⟨by omega, by omega⟩, ⟨by omega, by omega⟩, ⟨by omega, by omega⟩, ⟨by omega, by omega⟩, ⟨by omega, by omega⟩, ?_⟩, fun q2 => next (fun d hd e => ?_)⟩
            · have emx : max (o : Int) ((h : Int) + 1) = ((max o (h + 1) : Nat) : Int) := by omega
              rw [emx]
              have e59 : up M 59 h (M 59 h - c g) 59 = upr (M 59) h (M 59 h - c g) := up_same _ _ _ _
              have e58 : up M 59 h (M 59 h - c g) 58 = M 58 := up_ne _ _ _ (by decide)
              have back : up (up M 59 h (M 59 h - c g)) 59 h (up M 59 h (M 59 h - c g) 59 h + up M 59 h (M 59 h - c g) 58 g) = M := by
                rw [e58, h58 g (by omega)]
                exact up_back M 59 h _ _ (by omega)
              refine ih (g + 1) n0 (max o (h + 1)) (up M 59 h (M 59 h - c g)) _ (by omega) (by omega) (by omega) (by rw [e58]; exact h58) (fun h' hh' => ?_) (fun hn2 => ?_) (fun d hd hmin => ?_)
              · rw [e59]
                by_cases e : h' = h
                · subst e; rw [upr_at]; omega
                · rw [upr_ne _ _ e]; exact h59 h' hh'
              · rw [back]
                refine ⟨⟨by omega, by omega⟩, ⟨by omega, by omega⟩, ⟨by omega, by omega⟩, by decide, fun _ => next (fun d hd e => ?_), fun q => absurd rfl q⟩
                have o4 := (hd.2 c0).2.2.2
                rw [e] at o4
                exact hn2 d (by rw [e59]; exact o4)
              · rw [e59] at hd hmin
                have rm0 : ∀ h', h' < 3 → 0 ≤ upr (M 59) h (M 59 h - c g) h' := fun h' hh' => by
                  by_cases e : h' = h
                  · subst e; rw [upr_at]; omega
                  · rw [upr_ne _ _ e]; exact (h59 h' hh').1
                have dig := (okD_feas k (g + 1) _ _ rm0 hd).1
                have clt := cdD_lt (d := d) k (g + 1) (by omega) (fun j h1 h2 => (dig j h1 h2).1)
                rw [show 6 - (g + 1) = 5 - g by omega] at clt
                have p4 : 4 ^ (5 - g) ≤ 1024 := Nat.le_trans (Nat.pow_le_pow_right (by decide) (show 5 - g ≤ 5 by omega)) (by decide)
                rw [back]
                refine ⟨⟨by omega, by omega⟩, ⟨by omega, by omega⟩, ⟨by omega, by omega⟩, ⟨by omega, by omega⟩, fun q => absurd q (by omega), fun _ => ?_⟩
                unfold wp_X0_groupShift
                show Q (bOr (bShl (h : Int) (2 * (5 - (g : Int)))) ((cdD d k (g + 1) : Nat) : Int)) M
                rw [or_gh g (by omega) h (by omega) _ clt]
                have ed : ∀ j, g + 1 ≤ j → d j = (fun j => if j = g then h else d j) j := fun j hj => by
                  show d j = if j = g then h else d j
                  rw [if_neg (by omega)]
                have eg : (fun j => if j = g then h else d j) g = h := by
                  show (if g = g then h else d g) = h
                  rw [if_pos rfl]
                have eC : cdD (fun j => if j = g then h else d j) (k + 1) g = h * 4 ^ (5 - g) + cdD d k (g + 1) := by
                  show (if g = g then h else d g) * 4 ^ (5 - g) + cdD (fun j => if j = g then h else d j) k (g + 1) = _
                  rw [if_pos rfl, ← cdD_cong k (g + 1) ed]
                have st := hyes (fun j => if j = g then h else d j) ⟨fun z => absurd z c0, fun _ => by rw [eg]; exact ⟨by omega, by omega, q2, okD_cong k (g + 1) _ _ ed hd⟩⟩ (fun d' hd' => ?_)
                · rw [eC] at st; exact st
                · rw [eC]
                  have l1 := hlo d' hd'
                  show _ ≤ d' g * 4 ^ (5 - g) + cdD d' k (g + 1)
                  by_cases e : d' g = h
                  · have o4 := (hd'.2 c0).2.2.2
                    rw [e] at o4
                    have := hmin d' o4
                    rw [e]
                    omega
                  · have : (h + 1) * 4 ^ (5 - g) ≤ d' g * 4 ^ (5 - g) := Nat.mul_le_mul_right _ (by omega)
                    rw [Nat.add_mul] at this
                    omega
            · have o3 := (hd.2 c0).2.2.1
              rw [e] at o3
              exact q2 o3
      exact loop 3 0 rfl (fun d _ => Nat.zero_le _)
    · have z : c g = 0 := by omega
      refine ih (g + 1) n0 o M _ (by omega) (by omega) ho h58 h59 (fun hn2 => hno (fun d hd => hn2 d (hd.1 z).2)) (fun d hd hmin => ?_)
      have ed : ∀ j, g + 1 ≤ j → d j = (fun j => if j = g then 0 else d j) j := fun j hj => by
        show d j = if j = g then 0 else d j
        rw [if_neg (by omega)]
      have eC : cdD (fun j => if j = g then 0 else d j) (k + 1) g = cdD d k (g + 1) := by
        show (if g = g then 0 else d g) * 4 ^ (5 - g) + cdD (fun j => if j = g then 0 else d j) k (g + 1) = _
        rw [if_pos rfl, ← cdD_cong k (g + 1) ed, Nat.zero_mul, Nat.zero_add]
      have st := hyes (fun j => if j = g then 0 else d j) ⟨fun _ => ⟨by show (if g = g then 0 else d g) = 0; rw [if_pos rfl], okD_cong k (g + 1) _ _ ed hd⟩, fun q => absurd z q⟩ (fun d' hd' => ?_)
      · rw [eC] at st; exact st
      · rw [eC]
        obtain ⟨z1, z2⟩ := hd'.1 z
        have := hmin d' z2
        show _ ≤ d' g * 4 ^ (5 - g) + cdD d' k (g + 1)
        omega
