/-! pure: read(), the class, and promise 11 -/
def xRd (k j : Nat) : Prop := k = 2 ∨ k = 3 ∨ (34 ≤ k ∧ k ≤ 39) ∨ ((k = 40 ∨ k = 41) ∧ (j = 2 ∨ j = 3)) ∨ (k = 47 ∧ (j = 5 ∨ j = 6 ∨ j = 7)) ∨ (k = 0 ∧ j = 1)
def F7r (M M' : Mem) : Prop := ∀ k j, ¬ xRd k j → M' k j = M k j
theorem F7r.refl (M : Mem) : F7r M M := fun _ _ _ => rfl
theorem F7r.up {M M' : Mem} (h : F7r M M') {a i : Nat} (v : Int) (hi : xRd a i) : F7r M (up M' a i v) := by
  intro k j hk
  by_cases c : k = a
  · subst c
    by_cases d : j = i
    · subst d; exact absurd hi hk
    · rw [up_snn _ _ _ d]; exact h _ _ hk
  · rw [up_ne _ _ _ c]
    exact h _ _ hk
theorem F7r.row {M M' : Mem} (h : F7r M M') {o : Nat} (n : Int) (f : Nat → Int) (ho : o = 2 ∨ o = 34 ∨ o = 36 ∨ o = 38) : F7r M (setRow M' o n f) := by
  intro k j hk
  unfold xRd at hk
  rw [setRow_ne _ _ _ (by omega) (by omega)]
  exact h _ _ hk
theorem F7r.clear0 {M M' : Mem} (h : F7r M M') : F7r M (setRow M' 0 0 (M' (0 + 1))) := by
  rw [← up_row]
  exact h.up _ (by unfold xRd; omega)
theorem F7r.dec {M M' M'' : Mem} {o : Nat} (ho : isRd o) (h : F7r M M') (h2 : frD o M' M'') : F7r M M'' := by
  intro k j hk
  unfold xRd at hk
  rw [h2 k j (by rcases ho with rfl | rfl <;> omega) (by rcases ho with rfl | rfl <;> omega) (by rcases ho with rfl | rfl <;> omega)]
  exact h _ _ hk
theorem s_canBeBars {z : Nat} {M : Mem} {Q : Int → Mem → Prop} (hz : M 0 1 = (z : Int)) (hr : rok M 0) (hR : ∀ j, j < z → 0 ≤ M 1 j ∧ M 1 j ≤ 255) (h1 : rdC (M 1) z → Q 1 M) (h0 : ¬ rdC (M 1) z → Q 0 M) : wp_X6_canBeBars 0 M Q := by
  have g := hr.2
  have g2 : (capR 0 : Int) = 200 := rfl
  unfold wp_X6_canBeBars wp_X4_size
  rw [hz]
  refine ⟨⟨by omega, by omega⟩, fun c => h0 (fun q => by have := q.1; omega), fun c1 => ⟨⟨by omega, by omega⟩, fun c => h0 (fun q => by have := q.2.1; omega), fun c2 => ⟨⟨⟨by omega, by omega⟩, by omega⟩, ⟨by omega, by omega⟩, fun c => h0 (fun q => by have := q.2.2.1; omega), fun c3 => ?_⟩⟩⟩
  refine s_allWithin hr (by decide) (by decide) (fun j hj => by have := hR j (by omega); exact ⟨by show _ ≤ M 1 j; omega, by show M 1 j ≤ _; omega⟩) (fun q => ?_) (fun q => ?_)
  · exact ⟨by decide, fun c => absurd c (by decide), fun _ => h1 ⟨by omega, by omega, by omega, fun j hj => q j (by omega)⟩⟩
  · exact ⟨by decide, fun _ => h0 (fun c => q (fun j hj => c.2.2.2 j (by omega))), fun c => absurd rfl c⟩
theorem s_keepDigits_22 {o m : Nat} {a2 : Int} {M0 : Mem} {Q : Int → Mem → Prop} (ho : isRd o) (hm : M0 (2 * o - 44) 1 = (m : Int)) (hm12 : m ≤ 12) (h : ∀ f, (∀ j, j < m → f j = 48 + M0 (2 * o - 44 + 1) j) → Q (m : Int) (setRow M0 2 (m : Int) f)) :
    ∀ (k i : Nat) (f : Nat → Int), i + k = m → (∀ j, j < i → f j = 48 + M0 (2 * o - 44 + 1) j) → wp_X6_keepDigits_22 o a2 2 Q (k + 1) (i : Int) (setRow M0 2 (i : Int) f) := by
  have hcap : (capR (2 * o - 44) : Int) = 12 := by rcases ho with rfl | rfl <;> rfl
  have hcap2 : (capR 2 : Int) = 67 := rfl
  have e1 : ∀ (i : Int) (f : Nat → Int), setRow M0 2 i f (2 * o - 44) = M0 (2 * o - 44) := fun i f => setRow_ne _ _ _ (by rcases ho with rfl | rfl <;> decide) (by rcases ho with rfl | rfl <;> decide)
  have e2 : ∀ (i : Int) (f : Nat → Int), setRow M0 2 i f (2 * o - 44 + 1) = M0 (2 * o - 44 + 1) := fun i f => setRow_ne _ _ _ (by rcases ho with rfl | rfl <;> decide) (by rcases ho with rfl | rfl <;> decide)
  intro k
  induction k with
  | zero =>
    intro i f hi hf
    rw [wp_X6_keepDigits_22]
    unfold wp_X4_size
    rw [e1, hm]
    refine ⟨⟨by omega, by omega⟩, ⟨by omega, by omega⟩, fun _ => ?_, fun c => absurd (by omega) c⟩
    have him : i = m := by omega
    subst him
    show Q (setRow M0 2 (i : Int) f 2 1) _
    rw [setRow_n]
    exact h f hf
  | succ k ih =>
    intro i f hi hf
    rw [wp_X6_keepDigits_22]
    unfold wp_X4_size
    rw [e1, hm]
    refine ⟨⟨by omega, by omega⟩, ⟨by omega, by omega⟩, fun c => absurd c (by omega), fun _ => ?_⟩
    refine s_at_in (by unfold rok; rw [e1, hcap, hm]; omega) (by omega) (by rw [e1, hm]; omega) ?_
    rw [e2, Int.toNat_natCast]
    exact addF (F := fun j => 48 + M0 (2 * o - 44 + 1) j) (by rw [hcap2]; omega) hf rfl (fun f' hf' => ih (i + 1) f' (by omega) hf')
theorem s_keepDigits {o m : Nat} {a2 : Int} {M : Mem} {Q : Int → Mem → Prop} (ho : isRd o) (ha : a2 = 0 ∨ a2 = 1) (hm : M (2 * o - 44) 1 = (m : Int)) (hm12 : m ≤ 12) (h : ∀ f, (∀ j, j < m → f j = 48 + M (2 * o - 44 + 1) j) → Q (m : Int) (setRow (up (up (up M 47 5 0) 47 6 (-1)) 47 7 a2) 2 (m : Int) f)) : wp_X6_keepDigits o a2 2 M Q := by
  unfold wp_X6_keepDigits
  refine ⟨ha, s_clear ?_⟩
  have e1 : ∀ k, k ≠ 47 → up (up (up M 47 5 0) 47 6 (-1)) 47 7 a2 k = M k := fun k hk => by rw [up_ne _ _ _ hk, up_ne _ _ _ hk, up_ne _ _ _ hk]
  have n1 : 2 * o - 44 ≠ 47 := by rcases ho with rfl | rfl <;> decide
  have n2 : 2 * o - 44 + 1 ≠ 47 := by rcases ho with rfl | rfl <;> decide
  refine ⟨m + 1, s_keepDigits_22 ho (by rw [e1 _ n1]; exact hm) hm12 ?_ m 0 _ (by omega) (fun j hj => absurd hj (by omega))⟩
  rw [e1 _ n2]
  exact h
/-- the class's read -/
theorem s7_read {z : Nat} {M : Mem} {Q : Int → Mem → Prop} (hz : M 0 1 = (z : Int)) (hr : rok M 0) (hX : RX M) (hR : ∀ j, j < z → 0 ≤ M 1 j ∧ M 1 j ≤ 255)
    (hbad : ∀ M', ¬ rdC (M 1) z → F7r M M' → rok M' 34 → rok M' 36 → rok M' 38 → M' 0 1 = 0 → M' 47 5 = 1 → M' 47 6 = 0 → M' 47 7 = 0 → M' 2 = M 2 → M' 3 = M 3 → Q (-1) M')
    (hno : ∀ M' P k p k' p', rdC (M 1) z → z = 7 + 10 * P → rdIs (wt8 (M 1) z 0) P k p → k ≠ 0 → rdIs (wt8 (M 1) z 1) P k' p' → k' ≠ 0 → F7r M M' → rok M' 34 → rok M' 36 → rok M' 38 → M' 0 1 = 0 → M' 47 5 = k → M' 47 6 = p → M' 47 7 = 0 → M' 2 = M 2 → M' 3 = M 3 → Q (-1) M')
    (hok : ∀ M' P b, rdC (M 1) z → z = 7 + 10 * P → rdIs (wt8 (M 1) z b) P 0 (-1) → (b = 0 ∨ (b = 1 ∧ ∃ k p, k ≠ 0 ∧ rdIs (wt8 (M 1) z 0) P k p)) → F7r M M' → rok M' 34 → rok M' 36 → rok M' 38 → M' 0 1 = 0 → M' 47 5 = 0 → M' 47 6 = -1 → M' 47 7 = b → M' 2 1 = ((2 * P : Nat) : Int) → (∀ j, j < 2 * P → M' 3 j = 48 + dgt (wt8 (M 1) z b) j) → Q ((2 * P : Nat) : Int) M') : wp_X7_read M Q := by
  obtain ⟨x28, x30, x32, x34, x36, x38, x40, x41⟩ := hX
  unfold wp_X7_read wp_X6_readBars
  refine s_canBeBars hz hr hR (fun hC => ?_) (fun hC => ?_)
  · refine ⟨by decide, fun _ => ?_, fun c => absurd (by decide) c⟩
    obtain ⟨q1, q2, q3, q4⟩ := hC
    have hC : rdC (M 1) z := ⟨q1, q2, q3, q4⟩
    obtain ⟨P, hP⟩ : ∃ P, z = 7 + 10 * P := ⟨(z - 7) / 10, by omega⟩
    have hP1 : 1 ≤ P := by omega
    have hP6 : P ≤ 6 := by omega
    refine s_findWides hr hz q2 q4 (fun g hg => ?_)
    subst hP
    have F1 : F7r M (setRow M 34 ((7 + 10 * P : Nat) : Int) g) := (F7r.refl M).row _ _ (by omega)
    have a34 : setRow M 34 ((7 + 10 * P : Nat) : Int) g 34 1 = ((7 + 10 * P : Nat) : Int) := setRow_n _ _ _ _
    have a35 : setRow M 34 ((7 + 10 * P : Nat) : Int) g 35 = g := setRow_a _ _ _ _
    have ane : ∀ k, k ≠ 34 → k ≠ 35 → setRow M 34 ((7 + 10 * P : Nat) : Int) g k = M k := fun k h1 h2 => setRow_ne _ _ _ h1 h2
    generalize setRow M 34 ((7 + 10 * P : Nat) : Int) g = M1 at *
    have w40 : ∀ M', M' 35 = g → M' 34 1 = ((7 + 10 * P : Nat) : Int) → M' 40 0 = 0 → ∀ i, i < 7 + 10 * P → wv M' 40 i = wt8 (M 1) (7 + 10 * P) 0 i := by
      intro M' e1 _ e3 i hi
      unfold wv wt8
      rw [if_pos e3, if_pos rfl, e1, hg i hi]
    have w41 : ∀ M', M' 35 = g → M' 34 1 = ((7 + 10 * P : Nat) : Int) → M' 41 0 = 1 → ∀ i, i < 7 + 10 * P → wv M' 41 i = wt8 (M 1) (7 + 10 * P) 1 i := by
      intro M' e1 e2 e3 i hi
      unfold wv wt8
      rw [if_neg (by rw [e3]; decide), if_neg (by decide), e1, e2, Int.toNat_natCast, hg _ (by omega)]
    have b40 : M1 40 0 = 0 := by rw [ane 40 (by decide) (by decide)]; exact x40
    have b41 : M1 41 0 = 1 := by rw [ane 41 (by decide) (by decide)]; exact x41
    have c34 : (capR 34 : Int) = 67 := rfl
    have c36 : (capR 36 : Int) = 12 := rfl
    have c38 : (capR 38 : Int) = 12 := rfl
    have r34 : rok M1 34 := by unfold rok; rw [a34, c34]; omega
    refine s_decode2 (P := P) (Or.inl rfl) (Or.inl b40) r34 a34 hP1 hP6 (fun i hi => by rw [w40 M1 a35 a34 b40 i (by omega)]; exact wt8_01 _ _ _ _) (fun M8 k p hk1 hk2 f8 e3 e4 n0 n12 => ?_) (fun M8 hk1 f8 eN eD => ?_)
    · have hk1 := rdIs_cong hP1 (w40 M1 a35 a34 b40) hk1
      refine ⟨by decide, fun _ => ?_, fun c => absurd rfl c⟩
      have F8 := F1.dec (Or.inl rfl) f8
      have d34 : M8 34 1 = ((7 + 10 * P : Nat) : Int) := by rw [f8 34 1 (by decide) (by decide) (fun c => absurd c (by decide))]; exact a34
      have d35 : M8 35 = g := by rw [← a35]; funext j; exact f8 35 j (by decide) (by decide) (fun c => absurd c (by decide))
      have d41 : M8 41 0 = 1 := by rw [f8 41 0 (by decide) (by decide) (fun c => absurd c (by decide))]; exact b41
      have d2 : M8 2 = M 2 := by rw [← ane 2 (by decide) (by decide)]; funext j; exact f8 2 j (by decide) (by decide) (fun c => absurd c (by decide))
      have d3 : M8 3 = M 3 := by rw [← ane 3 (by decide) (by decide)]; funext j; exact f8 3 j (by decide) (by decide) (fun c => absurd c (by decide))
      have r36 : 0 ≤ M8 36 1 ∧ M8 36 1 ≤ 12 := ⟨n0, n12⟩
      have r34' : rok M8 34 := by unfold rok; rw [d34, c34]; omega
      refine s_decode2 (P := P) (Or.inr rfl) (Or.inr d41) r34' d34 hP1 hP6 (fun i hi => by rw [w41 M8 d35 d34 d41 i (by omega)]; exact wt8_01 _ _ _ _) (fun M14 k' p' hl1 hl2 f14 e3' e4' n0' n12' => ?_) (fun M14 hl1 f14 eN eD => ?_)
      · have hl1 := rdIs_cong hP1 (w41 M8 d35 d34 d41) hl1
        refine ⟨by decide, fun _ => ?_, fun c => absurd rfl c⟩
        unfold wp_X6_keepFault
        refine s_clear ?_
        have F14 := F8.dec (Or.inr rfl) f14
        have sm14 : ∀ k, k ≠ 38 → k ≠ 39 → k ≠ 41 → M14 k = M8 k := fun k h1 h2 h3 => funext (fun j => f14 k j h1 h2 (fun c => absurd c h3))
        have FF := (((F14.up (a := 47) (i := 5) (M14 40 2) (by unfold xRd; omega)).up (a := 47) (i := 6) (M14 40 3) (by unfold xRd; omega)).up (a := 47) (i := 7) 0 (by unfold xRd; omega)).clear0
        refine hno _ P k p k' p' hC rfl hk1 hk2 hl1 hl2 FF ?_ ?_ ?_ ?_ ?_ ?_ ?_ ?_ ?_
        · show 0 ≤ M14 34 1 ∧ M14 34 1 ≤ (capR 34 : Int)
          rw [sm14 34 (by decide) (by decide) (by decide)]; exact r34'
        · show 0 ≤ M14 36 1 ∧ M14 36 1 ≤ (capR 36 : Int)
          rw [sm14 36 (by decide) (by decide) (by decide)]; exact r36
        · exact ⟨n0', n12'⟩
        · rfl
        · show M14 40 2 = k
          rw [sm14 40 (by decide) (by decide) (by decide)]; exact e3
        · show M14 40 3 = p
          rw [sm14 40 (by decide) (by decide) (by decide)]; exact e4
        · rfl
        · show M14 2 = M 2
          rw [sm14 2 (by decide) (by decide) (by decide)]; exact d2
        · show M14 3 = M 3
          rw [sm14 3 (by decide) (by decide) (by decide)]; exact d3
      · have hl2 := rdIs_cong hP1 (w41 M8 d35 d34 d41) hl1
        refine ⟨by decide, fun c => absurd c (by decide), fun _ => ?_⟩
        refine s_keepDigits (m := 2 * P) (Or.inr rfl) (Or.inr rfl) eN (by omega) (fun f hf => ?_)
        refine s_clear ?_
        have F14 := F8.dec (Or.inr rfl) f14
        have sm14 : ∀ k, k ≠ 38 → k ≠ 39 → k ≠ 41 → M14 k = M8 k := fun k h1 h2 h3 => funext (fun j => f14 k j h1 h2 (fun c => absurd c h3))
        have FF := ((((F14.up (a := 47) (i := 5) 0 (by unfold xRd; omega)).up (a := 47) (i := 6) (-1) (by unfold xRd; omega)).up (a := 47) (i := 7) 1 (by unfold xRd; omega)).row (o := 2) ((2 * P : Nat) : Int) f (by omega)).clear0
        refine hok _ P 1 hC rfl hl2 (Or.inr ⟨rfl, k, p, hk2, hk1⟩) FF ?_ ?_ ?_ ?_ ?_ ?_ ?_ ?_ ?_
        · show 0 ≤ M14 34 1 ∧ M14 34 1 ≤ (capR 34 : Int)
          rw [sm14 34 (by decide) (by decide) (by decide)]; exact r34'
        · show 0 ≤ M14 36 1 ∧ M14 36 1 ≤ (capR 36 : Int)
          rw [sm14 36 (by decide) (by decide) (by decide)]; exact r36
        · show 0 ≤ M14 38 1 ∧ M14 38 1 ≤ (capR 38 : Int)
          have eN' : M14 38 1 = ((2 * P : Nat) : Int) := eN
          rw [eN', c38]; omega
        · rfl
        · rfl
        · rfl
        · rfl
        · rfl
        · intro j hj
          show f j = _
          rw [hf j hj, eD j hj, dgt_cong (w41 M8 d35 d34 d41) hj]
    · have hk2 := rdIs_cong hP1 (w40 M1 a35 a34 b40) hk1
      refine ⟨by decide, fun c => absurd c (by decide), fun _ => ?_⟩
      refine s_keepDigits (m := 2 * P) (Or.inl rfl) (Or.inl rfl) eN (by omega) (fun f hf => ?_)
      refine s_clear ?_
      have F8 := F1.dec (Or.inl rfl) f8
      have FF := ((((F8.up (a := 47) (i := 5) 0 (by unfold xRd; omega)).up (a := 47) (i := 6) (-1) (by unfold xRd; omega)).up (a := 47) (i := 7) 0 (by unfold xRd; omega)).row (o := 2) ((2 * P : Nat) : Int) f (by omega)).clear0
      refine hok _ P 0 hC rfl hk2 (Or.inl rfl) FF ?_ ?_ ?_ ?_ ?_ ?_ ?_ ?_ ?_
      · show 0 ≤ M8 34 1 ∧ M8 34 1 ≤ (capR 34 : Int)
        rw [f8 34 1 (by decide) (by decide) (fun c => absurd c (by decide))]; exact r34
      · show 0 ≤ M8 36 1 ∧ M8 36 1 ≤ (capR 36 : Int)
        have eN' : M8 36 1 = ((2 * P : Nat) : Int) := eN
        rw [eN', c36]; omega
      · show 0 ≤ M8 38 1 ∧ M8 38 1 ≤ (capR 38 : Int)
        rw [f8 38 1 (by decide) (by decide) (fun c => absurd c (by decide)), ane 38 (by decide) (by decide)]; exact x38
      · rfl
      · rfl
      · rfl
      · rfl
      · rfl
      · intro j hj
        show f j = _
        rw [hf j hj, eD j hj, dgt_cong (w40 M1 a35 a34 b40) hj]
  · refine ⟨by decide, fun c => absurd rfl c, fun _ => ?_⟩
    unfold wp_X6_keepFault
    refine s_clear ?_
    exact hbad _ hC ((((F7r.refl M).up (a := 47) (i := 5) 1 (by unfold xRd; omega)).up (a := 47) (i := 6) 0 (by unfold xRd; omega)).up (a := 47) (i := 7) 0 (by unfold xRd; omega)).clear0 x34 x36 x38 rfl rfl rfl rfl rfl rfl
