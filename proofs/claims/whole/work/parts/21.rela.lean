/-! pure: how the class's names, bars and faults stand to the reference's -/
def RT (c n : Int) (f : Nat → Int) (n' : Int) (f' : Nat → Int) : Prop := 0 ≤ n ∧ n ≤ c ∧ n' = n ∧ ∀ j : Nat, (j : Int) < n → f' j = f j ∧ 0 ≤ f j ∧ f j ≤ 255
def RW (w w' : Nat → Int) : Prop := ∀ j : Nat, j < 95 → w' (j + 32) = w j ∧ 1 ≤ w j ∧ w j ≤ 20
/-- shortening i: told in the class (bit i) if its FROM in the reference is not empty; then both hold the same signs -/
def RSi (M : Mem) (i : Nat) : Prop := (0 ≤ M (4 + 2 * i) 1 ∧ M (4 + 2 * i) 1 ≤ 6 ∧ 0 ≤ M (16 + 2 * i) 1 ∧ M (16 + 2 * i) 1 ≤ 6) ∧
  ((M 43 5).toNat.testBit i = false → M 66 i = 0) ∧
  ((M 43 5).toNat.testBit i = true → 1 ≤ M (4 + 2 * i) 1 ∧ M 66 i = M (4 + 2 * i) 1 ∧ M 67 i = M (16 + 2 * i) 1 ∧
    (∀ j : Nat, (j : Int) < M (4 + 2 * i) 1 → M 68 (6 * i + j) = M (5 + 2 * i) j ∧ 32 ≤ M (5 + 2 * i) j ∧ M (5 + 2 * i) j ≤ 126) ∧
    (∀ j : Nat, (j : Int) < M (16 + 2 * i) 1 → M 69 (6 * i + j) = M (17 + 2 * i) j ∧ 32 ≤ M (17 + 2 * i) j ∧ M (17 + 2 * i) j ≤ 126))
def RS (M : Mem) : Prop := 0 ≤ M 43 5 ∧ M 43 5 < 64 ∧ ∀ i, i < 6 → RSi M i
def RV (u u' r r' k k' p p' b b' : Int) : Prop := (u' = u ∧ -1 ≤ u ∧ u < 64) ∧ (r' = r ∧ (r = 2 ∨ r = 3)) ∧ (k' = k ∧ 0 ≤ k ∧ k ≤ 4) ∧ (p' = p ∧ -1 ≤ p ∧ p ≤ 12) ∧ (b' = b ∧ (b = 0 ∨ b = 1))
def RX (M : Mem) : Prop := rok M 28 ∧ rok M 30 ∧ rok M 32 ∧ rok M 34 ∧ rok M 36 ∧ rok M 38 ∧ M 40 0 = 0 ∧ M 41 0 = 1
def RelA (M : Mem) : Prop := RT 200 (M 0 1) (M 1) (M 62 3) (M 64) ∧ RT 67 (M 2 1) (M 3) (M 62 4) (M 65) ∧ RW (M 44) (M 63) ∧ RS M ∧ RV (M 43 6) (M 62 17) (M 47 4) (M 62 18) (M 47 5) (M 62 23) (M 47 6) (M 62 25) (M 47 7) (M 62 24) ∧ RX M
/-- the cells of labels and sheets, of both sides -/
def SameB (M M' : Mem) : Prop := (∀ k, 48 ≤ k → k < 62 → M' k = M k) ∧ (∀ k, 75 ≤ k → M' k = M k) ∧ M' 62 31 = M 62 31
/-- the class's own cells of names and bars are as they were -/
def SameC (M M' : Mem) : Prop := ∀ k, k < 62 → M' k = M k
theorem SameB.refl (M : Mem) : SameB M M := ⟨fun _ _ _ => rfl, fun _ _ => rfl, rfl⟩
theorem SameB.trans {M M1 M2 : Mem} (h : SameB M M1) (h2 : SameB M1 M2) : SameB M M2 := ⟨fun k a b => (h2.1 k a b).trans (h.1 k a b), fun k a => (h2.2.1 k a).trans (h.2.1 k a), h2.2.2.trans h.2.2⟩
theorem RSi_congr {M M' : Mem} {i : Nat} (h1 : M' (4 + 2 * i) = M (4 + 2 * i)) (h2 : M' (5 + 2 * i) = M (5 + 2 * i)) (h3 : M' (16 + 2 * i) = M (16 + 2 * i)) (h4 : M' (17 + 2 * i) = M (17 + 2 * i)) (h5 : (M' 43 5).toNat.testBit i = (M 43 5).toNat.testBit i) (h6 : M' 66 i = M 66 i) (h7 : M' 67 i = M 67 i) (h8 : ∀ j, j < 6 → M' 68 (6 * i + j) = M 68 (6 * i + j)) (h9 : ∀ j, j < 6 → M' 69 (6 * i + j) = M 69 (6 * i + j)) (h : RSi M i) : RSi M' i := by
  obtain ⟨⟨a1, a2, a3, a4⟩, b, c⟩ := h
  unfold RSi
  rw [h1, h2, h3, h4, h5, h6, h7]
  refine ⟨⟨a1, a2, a3, a4⟩, b, fun ht => ?_⟩
  obtain ⟨c1, c2, c3, c4, c5⟩ := c ht
  exact ⟨c1, c2, c3, fun j hj => by rw [h8 j (by omega)]; exact c4 j hj, fun j hj => by rw [h9 j (by omega)]; exact c5 j hj⟩
theorem RS_congr {M M' : Mem} (hc : ∀ k, 4 ≤ k → k < 28 → M' k = M k) (h43 : M' 43 5 = M 43 5) (h66 : M' 66 = M 66) (h67 : M' 67 = M 67) (h68 : M' 68 = M 68) (h69 : M' 69 = M 69) (h : RS M) : RS M' := by
  obtain ⟨a, b, c⟩ := h
  refine ⟨by rw [h43]; exact a, by rw [h43]; exact b, fun i hi => ?_⟩
  exact RSi_congr (hc _ (by omega) (by omega)) (hc _ (by omega) (by omega)) (hc _ (by omega) (by omega)) (hc _ (by omega) (by omega)) (by rw [h43]) (by rw [h66]) (by rw [h67]) (fun j _ => by rw [h68]) (fun j _ => by rw [h69]) (c i hi)
theorem RX_congr {M M' : Mem} (h1 : M' 28 1 = M 28 1) (h2 : M' 30 1 = M 30 1) (h3 : M' 32 1 = M 32 1) (h4 : M' 34 1 = M 34 1) (h5 : M' 36 1 = M 36 1) (h6 : M' 38 1 = M 38 1) (h7 : M' 40 0 = M 40 0) (h8 : M' 41 0 = M 41 0) (h : RX M) : RX M' := by
  unfold RX rok at *
  rw [h1, h2, h3, h4, h5, h6, h7, h8]
  exact h
theorem up_sn (M : Mem) (k i : Nat) (v : Int) : up M k i v k i = v := by rw [up_same, upr_at]
theorem up_snn (M : Mem) (k : Nat) {i j : Nat} (v : Int) (h : j ≠ i) : up M k i v k j = M k j := by rw [up_same, upr_ne _ _ h]
theorem rok0 {M : Mem} (h : RelA M) : rok M 0 := ⟨h.1.1, h.1.2.1⟩
theorem rok2 {M : Mem} (h : RelA M) : rok M 2 := ⟨h.2.1.1, h.2.1.2.1⟩
theorem s_isIn {v lo hi : Int} {M : Mem} {Q : Int → Mem → Prop} (hv : Rg v) (hlo : Rg lo) (hhi : Rg hi) (h1 : lo ≤ v → v ≤ hi → Q 1 M) (h0 : ¬ (lo ≤ v ∧ v ≤ hi) → Q 0 M) : wp_X8_isIn v lo hi M Q := by
  unfold wp_X8_isIn
  exact ⟨hv, hlo, fun c => h0 (by omega), fun c => ⟨hv, hhi, fun c2 => h0 (by omega), fun c2 => h1 (by omega) (by omega)⟩⟩
theorem s_isSign {v : Int} {M : Mem} {Q : Int → Mem → Prop} (hv : Rg v) (h1 : 32 ≤ v → v ≤ 126 → Q 1 M) (h0 : ¬ (32 ≤ v ∧ v ≤ 126) → Q 0 M) : wp_X8_isSign v M Q := by
  unfold wp_X8_isSign
  exact s_isIn hv (by decide) (by decide) (fun a b => ⟨Or.inr rfl, h1 a b⟩) (fun a => ⟨Or.inl rfl, h0 a⟩)
/-! promise 2 -/
theorem op_wide {a1 a2 : Int} {M : Mem} {G : Prop → Prop} {P : Int → Int → Mem → Prop} (hG : ∀ p, p → G p) (hR : RelA M) (h1 : Rg a1) (h2 : Rg a2) (h : ∀ r M', Rg r → RelA M' → SameB M M' → P r r M') : wp_X7_wide a1 a2 M (fun r1 M1 => G (wp_X8_wide a1 a2 M1 (fun r2 M2 => P r1 r2 M2))) := by
  obtain ⟨ht, ho, hw, hs, hv, hx⟩ := hR
  have hno : ¬ (32 ≤ a1 ∧ a1 ≤ 126 ∧ 1 ≤ a2 ∧ a2 ≤ 20) → G (wp_X8_wide a1 a2 M (fun r2 M2 => P 0 r2 M2)) := by
    intro hn
    apply hG
    unfold wp_X8_wide
    refine s_isSign h1 (fun c1 c2 => ?_) (fun c => ?_)
    · refine ⟨by decide, fun c => absurd c (by decide), fun _ => s_isIn h2 (by decide) (by decide) (fun c3 c4 => absurd ⟨c1, c2, c3, c4⟩ hn) (fun c => ?_)⟩
      exact ⟨by decide, fun c => absurd rfl c, fun _ => h 0 M (by decide) ⟨ht, ho, hw, hs, hv, hx⟩ (SameB.refl M)⟩
    · exact ⟨by decide, fun _ => h 0 M (by decide) ⟨ht, ho, hw, hs, hv, hx⟩ (SameB.refl M), fun c => absurd rfl c⟩
  unfold wp_X7_wide wp_X2_setWidth
  refine ⟨h1, fun c => ⟨Or.inl rfl, hno (by omega)⟩, fun c1 => ⟨h1, fun c => ⟨Or.inl rfl, hno (by omega)⟩, fun c2 => ⟨h2, fun c => ⟨Or.inl rfl, hno (by omega)⟩, fun c3 => ⟨h2, fun c4 => ⟨⟨by omega, by omega⟩, Or.inr rfl, ?_⟩, fun c => ⟨Or.inl rfl, hno (by omega)⟩⟩⟩⟩⟩
  apply hG
  unfold wp_X8_wide
  refine s_isSign h1 (fun _ _ => ⟨by decide, fun c => absurd c (by decide), fun _ => s_isIn h2 (by decide) (by decide) (fun _ _ => ?_) (fun c => absurd ⟨by omega, by omega⟩ c)⟩) (fun c => absurd ⟨by omega, by omega⟩ c)
  refine ⟨by decide, fun _ => ⟨⟨by omega, by omega⟩, ?_⟩, fun c => absurd (by decide) c⟩
  refine h 1 _ (by decide) ⟨ht, ho, ?_, RS_congr (M := M) (fun k _ _ => ?_) rfl rfl rfl rfl rfl hs, hv, RX_congr (M := M) rfl rfl rfl rfl rfl rfl rfl rfl hx⟩ ⟨fun k q1 q2 => ?_, fun k q => ?_, rfl⟩
  · intro j hj
    obtain ⟨w1, w2, w3⟩ := hw j hj
    show upr (M 63) a1.toNat a2 (j + 32) = upr (M 44) (a1 - 32).toNat a2 j ∧ _
    by_cases hja : (j : Int) + 32 = a1
    · rw [show j + 32 = a1.toNat by omega, show j = (a1 - 32).toNat by omega, upr_at, upr_at]
      refine ⟨rfl, ?_⟩
      show 1 ≤ upr (M 44) (a1 - 32).toNat a2 (a1 - 32).toNat ∧ upr (M 44) (a1 - 32).toNat a2 (a1 - 32).toNat ≤ 20
      rw [upr_at]
      omega
    · rw [upr_ne _ _ (by omega), upr_ne _ _ (by omega)]
      refine ⟨w1, ?_⟩
      show 1 ≤ upr (M 44) (a1 - 32).toNat a2 j ∧ upr (M 44) (a1 - 32).toNat a2 j ≤ 20
      rw [upr_ne _ _ (by omega)]
      exact ⟨w2, w3⟩
  · rw [up_ne _ _ _ (by omega), up_ne _ _ _ (by omega)]
  · rw [up_ne _ _ _ (by omega), up_ne _ _ _ (by omega)]
  · rw [up_ne _ _ _ (by omega), up_ne _ _ _ (by omega)]
/-! promise 4 -/
theorem op_end {a1 : Int} {M : Mem} {G : Prop → Prop} {P : Int → Int → Mem → Prop} (hG : ∀ p, p → G p) (hR : RelA M) (h1 : Rg a1) (h : ∀ r M', Rg r → RelA M' → SameB M M' → P r r M') : wp_X7_end a1 M (fun r1 M1 => G (wp_X8_end a1 M1 (fun r2 M2 => P r1 r2 M2))) := by
  have hR0 := hR
  obtain ⟨⟨t1, t2, t3, t4⟩, ho, hw, hs, hv, hx⟩ := hR
  unfold wp_X7_end
  refine s_cut h1 (rok0 hR0) (fun c1 c2 => ⟨Or.inr rfl, hG _ ?_⟩) (fun c => ⟨Or.inl rfl, hG _ ?_⟩)
  · unfold wp_X8_end
    have e : setRow M 0 a1 (M (0 + 1)) 62 = M 62 := setRow_ne M _ _ (by decide) (by decide)
    refine s_isIn h1 (by decide) (by rw [e]; constructor <;> omega) (fun _ _ => ?_) (fun c => absurd ⟨c1, by rw [e]; omega⟩ c)
    refine ⟨by decide, fun _ => ?_, fun c => absurd (by decide) c⟩
    refine h 1 _ (by decide) ⟨⟨?_, ?_, ?_, ?_⟩, ho, hw, RS_congr (M := M) (fun k _ _ => ?_) rfl rfl rfl rfl rfl hs, hv, RX_congr (M := M) rfl rfl rfl rfl rfl rfl rfl rfl hx⟩ ⟨fun k q1 q2 => ?_, fun k q => ?_, rfl⟩
    · exact c1
    · show a1 ≤ 200; omega
    · rfl
    · intro j hj
      exact t4 j (by have : (j : Int) < a1 := hj; omega)
    · rw [up_ne _ _ _ (by omega), setRow_ne _ _ _ (by omega) (by omega)]
    · rw [up_ne _ _ _ (by omega), setRow_ne _ _ _ (by omega) (by omega)]
    · rw [up_ne _ _ _ (by omega), setRow_ne _ _ _ (by omega) (by omega)]
  · unfold wp_X8_end
    refine s_isIn h1 (by decide) (by constructor <;> omega) (fun q1 q2 => absurd ⟨q1, by omega⟩ c) (fun _ => ?_)
    exact ⟨by decide, fun q => absurd rfl q, fun _ => h 0 M (by decide) hR0 (SameB.refl M)⟩
/-! promises 7, 8, 9, 12 -/
theorem op_used {M : Mem} {G : Prop → Prop} {P : Int → Int → Mem → Prop} (hG : ∀ p, p → G p) (hR : RelA M) (h : ∀ r M', Rg r → RelA M' → SameB M M' → P r r M') : wp_X7_used M (fun r1 M1 => G (wp_X8_used M1 (fun r2 M2 => P r1 r2 M2))) := by
  unfold wp_X7_used wp_X2_latestSet
  apply hG
  unfold wp_X8_used
  obtain ⟨⟨u1, u2, u3⟩, -⟩ := hR.2.2.2.2.1
  rw [u1]
  exact h _ M ⟨by omega, by omega⟩ hR (SameB.refl M)
theorem op_out {a1 : Int} {M : Mem} {G : Prop → Prop} {P : Int → Int → Mem → Prop} (hG : ∀ p, p → G p) (hR : RelA M) (h1 : Rg a1) (h : ∀ r M', Rg r → RelA M' → SameB M M' → P r r M') : wp_X7_out a1 M (fun r1 M1 => G (wp_X8_out a1 M1 (fun r2 M2 => P r1 r2 M2))) := by
  have hR0 := hR
  obtain ⟨ht, ⟨t1, t2, t3, t4⟩, hw, hs, hv, hx⟩ := hR
  unfold wp_X7_out
  refine s_at h1 (rok2 hR0) (hG _ ?_)
  unfold wp_X8_out
  refine s_isIn h1 (by decide) (by constructor <;> omega) (fun c1 c2 => ?_) (fun c => ?_)
  · refine ⟨by decide, fun c => absurd c (by decide), fun _ => ⟨⟨by omega, by omega⟩, ?_⟩⟩
    have g := t4 a1.toNat (by omega)
    rw [if_pos ⟨c1, by omega⟩, g.1]
    show P (M 3 a1.toNat) (M 3 a1.toNat) M
    exact h _ M ⟨by omega, by omega⟩ hR0 (SameB.refl M)
  · rw [if_neg (by omega)]
    exact ⟨by decide, fun _ => h _ M (by decide) hR0 (SameB.refl M), fun q => absurd rfl q⟩
theorem op_ratio {a1 : Int} {M : Mem} {G : Prop → Prop} {P : Int → Int → Mem → Prop} (hG : ∀ p, p → G p) (hR : RelA M) (h1 : Rg a1) (h : ∀ r M', Rg r → RelA M' → SameB M M' → P r r M') : wp_X7_ratio a1 M (fun r1 M1 => G (wp_X8_ratio a1 M1 (fun r2 M2 => P r1 r2 M2))) := by
  have hR0 := hR
  obtain ⟨ht, ho, hw, hs, hv, hx⟩ := hR
  have key : (a1 = 2 ∨ a1 = 3) → P 1 1 (up (up M 47 4 a1) 62 18 a1) := by
    intro ha
    refine h 1 _ (by decide) ⟨ht, ho, hw, RS_congr (M := M) (fun k _ _ => ?_) rfl rfl rfl rfl rfl hs, ⟨hv.1, ⟨rfl, ha⟩, hv.2.2⟩, RX_congr (M := M) rfl rfl rfl rfl rfl rfl rfl rfl hx⟩ ⟨fun k q1 q2 => ?_, fun k q => ?_, rfl⟩
    · rw [up_ne _ _ _ (by omega), up_ne _ _ _ (by omega)]
    · rw [up_ne _ _ _ (by omega), up_ne _ _ _ (by omega)]
    · rw [up_ne _ _ _ (by omega), up_ne _ _ _ (by omega)]
  unfold wp_X7_ratio wp_X6_setRatio
  refine ⟨h1, fun c => ⟨Or.inr rfl, hG _ ?_⟩, fun c => ⟨h1, fun c2 => ⟨Or.inr rfl, hG _ ?_⟩, fun c2 => ⟨Or.inl rfl, hG _ ?_⟩⟩⟩
  · unfold wp_X8_ratio
    exact ⟨h1, fun _ => key (Or.inl c), fun q => absurd c q⟩
  · unfold wp_X8_ratio
    exact ⟨h1, fun q => absurd q c, fun _ => ⟨h1, fun _ => key (Or.inr c2), fun q => absurd c2 q⟩⟩
  · unfold wp_X8_ratio
    exact ⟨h1, fun q => absurd q c, fun _ => ⟨h1, fun q => absurd q c2, fun _ => h 0 M (by decide) hR0 (SameB.refl M)⟩⟩
theorem op_fault {a1 : Int} {M : Mem} {G : Prop → Prop} {P : Int → Int → Mem → Prop} (hG : ∀ p, p → G p) (hR : RelA M) (h1 : Rg a1) (h : ∀ r M', Rg r → RelA M' → SameB M M' → P r r M') : wp_X7_fault a1 M (fun r1 M1 => G (wp_X8_fault a1 M1 (fun r2 M2 => P r1 r2 M2))) := by
  have hR0 := hR
  obtain ⟨ht, ho, hw, hs, ⟨-, -, ⟨k1, k2, k3⟩, ⟨p1, p2, p3⟩, b1, b2⟩, hx⟩ := hR
  have go : ∀ r1 r2 : Int, r2 = r1 → Rg r1 → P r1 r2 M := fun r1 r2 e g => by rw [e]; exact h r1 M g hR0 (SameB.refl M)
  unfold wp_X7_fault wp_X6_latestFault wp_X8_fault
  refine ⟨h1, fun c => hG _ ?_, fun c => hG _ ?_, fun c => ⟨?_, fun c2 => hG _ ?_, fun c2 => hG _ ?_⟩, fun c => hG _ ?_⟩
  · exact ⟨h1, fun q => absurd c q, fun _ => go _ _ k1 ⟨by omega, by omega⟩⟩
  · exact ⟨h1, fun _ => ⟨h1, fun q => absurd c q, fun _ => go _ _ p1 ⟨by omega, by omega⟩⟩, fun q => absurd (by omega) q⟩
  · rcases b2 with b | b <;> rw [b] <;> decide
  · exact ⟨h1, fun _ => ⟨h1, fun _ => ⟨h1, fun q => absurd c q, fun _ => go _ _ (by omega) (by decide)⟩, fun q => absurd (by omega) q⟩, fun q => absurd (by omega) q⟩
  · exact ⟨h1, fun _ => ⟨h1, fun _ => ⟨h1, fun q => absurd c q, fun _ => go _ _ (by omega) (by decide)⟩, fun q => absurd (by omega) q⟩, fun q => absurd (by omega) q⟩
  · exact ⟨h1, fun _ => ⟨h1, fun _ => ⟨h1, fun _ => go _ _ rfl (by decide), fun q => absurd (by omega) q⟩, fun q => absurd (by omega) q⟩, fun q => absurd (by omega) q⟩
