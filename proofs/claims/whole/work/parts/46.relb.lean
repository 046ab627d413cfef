/-! pure: how the class's labels and sheets stand to the reference's -/
def nL (M : Mem) : Nat := (M 48 4).toNat
def cwM (M : Mem) : Nat → Int := cwF (M 51) (M 49) (nL M)
def RLb (B : Int) (M : Mem) : Prop := (0 ≤ M 48 4 ∧ M 48 4 ≤ 200 ∧ M 62 31 = M 48 4) ∧
  (∀ i, i < nL M → M 78 i = M 49 i ∧ 0 ≤ M 49 i ∧ M 49 i < 6 ∧ M 80 i = M 51 i ∧ (M 51 i = 0 ∨ M 51 i = 1)) ∧
  (∀ i, i < 200 → M 79 i = M 50 i ∧ 0 ≤ M 50 i ∧ M 50 i ≤ B) ∧
  (∀ g, g < 6 → M 52 g = cwM M g ∧ M 52 g ≤ 40)
def RFb (M : Mem) : Prop := ∀ s, s < 3 → M 75 s = M 54 s ∧ 0 ≤ M 54 s ∧ M 54 s < 2 ^ 40
def RCb (M : Mem) : Prop := ∀ p, p < 120 → M 76 p = M 55 p ∧ -1 ≤ M 55 p ∧ M 55 p < M 48 4 ∧ M 77 p = M 56 p ∧ (M 56 p = 0 ∨ M 56 p = 1)
def RIb (M : Mem) : Prop := (∀ p, p < 120 → (M 54 (p / 40)).toNat.testBit (p % 40) = true → M 55 p = -1 ∧ M 56 p = 0) ∧
  (∀ p, p < 120 → M 55 p ≠ -1 → M 51 (M 55 p).toNat = 1 → M 56 p = 1) ∧
  (∀ p q, p < 120 → q < 120 → M 55 p ≠ -1 → M 55 p = M 55 q → M 56 p = 0 → M 56 q = 0 → p = q)
/-- the best layout that the class has found -/
def Cch (M : Mem) : Prop := (M 57 7 = 1048576 ∧ ∀ d s, ¬ feas (cwM M) (rmF (M 54)) d s) ∨
  ∃ d s, best (cwM M) (rmF (M 54)) d s ∧ (∀ g, g < 6 → M 58 g = cwM M g) ∧ M 57 7 = (rkS s : Int) ∧ M 57 8 = (c4 d : Int) ∧ M 57 9 = (cS s : Int) ∧ ∀ p, p < 120 → M 61 p = plF (M 51) (M 49) (nL M) (M 54) d s p
def RKb (M : Mem) : Prop := M 57 6 = 0 ∨ (M 57 6 = 1 ∧ Cch M)
def RelB (B : Int) (M : Mem) : Prop := RLb B M ∧ RFb M ∧ RCb M ∧ RIb M ∧ RKb M
def SameA (M M' : Mem) : Prop := (∀ k, k < 48 → M' k = M k) ∧ (∀ k, 63 ≤ k → k < 75 → M' k = M k) ∧ ∀ j, j ≠ 31 → j ≠ 41 → j ≠ 42 → M' 62 j = M 62 j
theorem SameA.refl (M : Mem) : SameA M M := ⟨fun _ _ => rfl, fun _ _ _ => rfl, fun _ _ _ _ => rfl⟩
theorem SameA.trans {M M1 M2 : Mem} (h : SameA M M1) (h2 : SameA M1 M2) : SameA M M2 := ⟨fun k a => (h2.1 k a).trans (h.1 k a), fun k a b => (h2.2.1 k a b).trans (h.2.1 k a b), fun j a b c => (h2.2.2 j a b c).trans (h.2.2 j a b c)⟩
theorem SameA.up {M M' : Mem} (h : SameA M M') {k i : Nat} (v : Int) (hk : (48 ≤ k ∧ k < 62) ∨ 75 ≤ k ∨ (k = 62 ∧ (i = 31 ∨ i = 41 ∨ i = 42))) : SameA M (up M' k i v) := by
  refine ⟨fun a ha => ?_, fun a ha hb => ?_, fun j h1 h2 h3 => ?_⟩
  · rw [up_ne _ _ _ (by omega)]; exact h.1 a ha
  · rw [up_ne _ _ _ (by omega)]; exact h.2.1 a ha hb
  · by_cases c : k = 62
    · subst c
      rw [up_snn _ _ _ (by omega)]; exact h.2.2 j h1 h2 h3
    · rw [up_ne _ _ _ (fun e => c e.symm)]; exact h.2.2 j h1 h2 h3
theorem RelA_same {M M' : Mem} (h : SameA M M') (hR : RelA M) : RelA M' := by
  obtain ⟨h1, h2, h3⟩ := h
  obtain ⟨a, b, c, d, e, f⟩ := hR
  refine ⟨?_, ?_, ?_, ?_, ?_, ?_⟩
  · rw [h1 0 (by decide), h1 1 (by decide), h3 3 (by decide) (by decide) (by decide), h2 64 (by decide) (by decide)]; exact a
  · rw [h1 2 (by decide), h1 3 (by decide), h3 4 (by decide) (by decide) (by decide), h2 65 (by decide) (by decide)]; exact b
  · rw [h1 44 (by decide), h2 63 (by decide) (by decide)]; exact c
  · exact RS_congr (fun k _ b => h1 k (by omega)) (by rw [h1 43 (by decide)]) (h2 66 (by decide) (by decide)) (h2 67 (by decide) (by decide)) (h2 68 (by decide) (by decide)) (h2 69 (by decide) (by decide)) d
  · rw [h1 43 (by decide), h1 47 (by decide), h3 17 (by decide) (by decide) (by decide), h3 18 (by decide) (by decide) (by decide), h3 23 (by decide) (by decide) (by decide), h3 25 (by decide) (by decide) (by decide), h3 24 (by decide) (by decide) (by decide)]; exact e
  · exact RX_congr (by rw [h1 28 (by decide)]) (by rw [h1 30 (by decide)]) (by rw [h1 32 (by decide)]) (by rw [h1 34 (by decide)]) (by rw [h1 36 (by decide)]) (by rw [h1 38 (by decide)]) (by rw [h1 40 (by decide)]) (by rw [h1 41 (by decide)]) f
theorem RelB_same {B : Int} {M M' : Mem} (h : ∀ k, ((48 ≤ k ∧ k < 62) ∨ (75 ≤ k ∧ k ≤ 80)) → M' k = M k) (h31 : M' 62 31 = M 62 31) (hR : RelB B M) : RelB B M' := by
  have e48 := h 48 (by omega); have e49 := h 49 (by omega); have e50 := h 50 (by omega); have e51 := h 51 (by omega); have e52 := h 52 (by omega)
  have e54 := h 54 (by omega); have e55 := h 55 (by omega); have e56 := h 56 (by omega); have e57 := h 57 (by omega); have e58 := h 58 (by omega); have e61 := h 61 (by omega)
  have e75 := h 75 (by omega); have e76 := h 76 (by omega); have e77 := h 77 (by omega); have e78 := h 78 (by omega); have e79 := h 79 (by omega); have e80 := h 80 (by omega)
  unfold RelB RLb RFb RCb RIb RKb Cch cwM nL at *
  rw [e48, e49, e50, e51, e52, e54, e55, e56, e57, e58, e61, e75, e76, e77, e78, e79, e80, h31]
  exact hR
theorem RelB_mono {B B' : Int} {M : Mem} (hb : B ≤ B') (h : RelB B M) : RelB B' M := by
  obtain ⟨⟨a, b, c, d⟩, e⟩ := h
  exact ⟨⟨a, b, fun i hi => by have := c i hi; omega, d⟩, e⟩
/-! how many wait in a group -/
theorem s_waitingIn {g : Nat} {x : Int} {M : Mem} {Q : Int → Mem → Prop} (hx : x = (g : Int)) (hg : g < 6) (h : Q (M 52 g) M) : wp_X1_waitingIn x M Q := by
  subst hx
  unfold wp_X1_waitingIn wp_X7_isGroup
  refine ⟨⟨by omega, by omega⟩, fun q => absurd q (by omega), fun _ => ⟨⟨by omega, by omega⟩, fun q => absurd q (by omega), fun _ => ⟨by decide, fun q => absurd q (by decide), fun _ => ⟨⟨by omega, by omega⟩, ?_⟩⟩⟩⟩
  rw [Int.toNat_natCast]
  exact h
theorem s_changeWaiting {g : Nat} {x v : Int} {M : Mem} {Q : Mem → Prop} (hx : x = (g : Int)) (hg : g < 6) (h : Q (up M 52 g (M 52 g + v))) : wp_X1_changeWaiting x v M Q := by
  subst hx
  unfold wp_X1_changeWaiting wp_X7_isGroup
  refine ⟨⟨by omega, by omega⟩, fun q => absurd q (by omega), fun _ => ⟨⟨by omega, by omega⟩, fun q => absurd q (by omega), fun _ => ⟨by decide, fun q => absurd q (by decide), fun _ => ⟨⟨by omega, by omega⟩, ⟨by omega, by omega⟩, ?_⟩⟩⟩⟩
  rw [Int.toNat_natCast]
  exact h
/-! promise 22 -/
theorem op_label {B a1 a2 : Int} {M : Mem} {G : Prop → Prop} {P : Int → Int → Mem → Prop} (hG : ∀ p, p → G p) (hB : 0 ≤ B ∧ B ≤ 1000) (hR : RelB B M) (h1 : Rg a1) (h2 : Rg a2) (h : ∀ r M', Rg r → RelB (B + 1) M' → SameA M M' → P r r M') : wp_X7_label a1 a2 M (fun r1 M1 => G (wp_X8_label a1 a2 M1 (fun r2 M2 => P r1 r2 M2))) := by
  have go : ∀ r1 r2 : Int, r2 = r1 → Rg r1 → P r1 r2 M := fun r1 r2 e g => by rw [e]; exact h r1 M g (RelB_mono (by omega) hR) (SameA.refl M)
  obtain ⟨⟨⟨n0, n1, n2⟩, hl, ht, hw⟩, -⟩ := hR
  unfold wp_X7_label wp_X1_tell wp_X1_isLabel
  have out : ¬ (0 ≤ a1 ∧ a1 < M 48 4) → wp_X8_label a1 a2 M (fun r2 M2 => P (-1) r2 M2) := by
    intro hn
    unfold wp_X8_label
    refine s_isIn h1 (by decide) ⟨by omega, by omega⟩ (fun q1 q2 => absurd ⟨q1, by omega⟩ hn) (fun _ => ?_)
    exact ⟨by decide, fun c => absurd rfl c, fun _ => go _ _ rfl (by decide)⟩
  refine ⟨h1, fun c => ⟨by decide, fun q => absurd rfl q, fun _ => hG _ (out (by omega))⟩, fun c1 => ⟨h1, ⟨by omega, by omega⟩, fun c => ⟨by decide, fun q => absurd rfl q, fun _ => hG _ (out (by omega))⟩, fun c2 => ⟨by decide, fun _ => ?_, fun q => absurd (by decide) q⟩⟩⟩
  have hi : a1.toNat < nL M := by unfold nL; omega
  obtain ⟨g1, g2, g3, g4, g5⟩ := hl a1.toNat hi
  obtain ⟨t1, t2, t3⟩ := ht a1.toNat (by unfold nL at hi; omega)
  have in8 : ∀ r1 : Int, ((Rg a2 ∧ (a2 ≠ 0 → (Rg a2 ∧ (a2 ≠ 1 → (Rg a2 ∧ (a2 ≠ 2 → P r1 (-1) M) ∧ (¬ (a2 ≠ 2) → (0 ≤ a1 ∧ a1 < 200) ∧ (Rg (M 80 a1.toNat) ∧ ((M 80 a1.toNat) = 0 → P r1 0 M) ∧ (¬ ((M 80 a1.toNat) = 0) → P r1 1 M))))) ∧ (¬ (a2 ≠ 1) → (0 ≤ a1 ∧ a1 < 200) ∧ P r1 (M 79 a1.toNat) M))) ∧ (¬ (a2 ≠ 0) → (0 ≤ a1 ∧ a1 < 200) ∧ P r1 (M 78 a1.toNat) M))) → wp_X8_label a1 a2 M (fun r2 M2 => P r1 r2 M2) := by
    intro r1 hx
    unfold wp_X8_label
    refine s_isIn h1 (by decide) ⟨by omega, by omega⟩ (fun _ _ => ⟨by decide, fun _ => hx, fun q => absurd (by decide) q⟩) (fun q => absurd ⟨by omega, by omega⟩ q)
  have rg80 : Rg (M 80 a1.toNat) := by rw [g4]; rcases g5 with e | e <;> rw [e] <;> decide
  have rg51 : Rg (M 51 a1.toNat) := by rcases g5 with e | e <;> rw [e] <;> decide
  refine ⟨h2, fun c => ⟨⟨by omega, by omega⟩, hG _ (in8 _ ?_)⟩, fun c => ⟨⟨by omega, by omega⟩, hG _ (in8 _ ?_)⟩, fun c => ⟨⟨by omega, by omega⟩, rg51, fun c3 => hG _ (in8 _ ?_), fun c3 => hG _ (in8 _ ?_)⟩, fun c => hG _ (in8 _ ?_)⟩
  · exact ⟨h2, fun q => absurd c q, fun _ => ⟨⟨by omega, by omega⟩, go _ _ g1 ⟨by omega, by omega⟩⟩⟩
  · exact ⟨h2, fun _ => ⟨h2, fun q => absurd c q, fun _ => ⟨⟨by omega, by omega⟩, go _ _ t1 ⟨by omega, by omega⟩⟩⟩, fun q => absurd (by omega) q⟩
  · exact ⟨h2, fun _ => ⟨h2, fun _ => ⟨h2, fun q => absurd c q, fun _ => ⟨⟨by omega, by omega⟩, rg80, fun _ => go _ _ rfl (by decide), fun q => absurd (by omega) q⟩⟩, fun q => absurd (by omega) q⟩, fun q => absurd (by omega) q⟩
  · exact ⟨h2, fun _ => ⟨h2, fun _ => ⟨h2, fun q => absurd c q, fun _ => ⟨⟨by omega, by omega⟩, rg80, fun q => absurd q (by omega), fun _ => go _ _ rfl (by decide)⟩⟩, fun q => absurd (by omega) q⟩, fun q => absurd (by omega) q⟩
  · exact ⟨h2, fun _ => ⟨h2, fun _ => ⟨h2, fun _ => go _ _ rfl (by decide), fun q => absurd (by omega) q⟩, fun q => absurd (by omega) q⟩, fun q => absurd (by omega) q⟩
/-! promise 20 -/
theorem s_placeOf {a b : Int} {M : Mem} {Q : Int → Mem → Prop} (ha : Rg a) (hb : Rg b) (h1 : 0 ≤ a → a < 3 → 0 ≤ b → b < 40 → Q (a * 40 + b) M) (h0 : ¬ ((0 ≤ a ∧ a < 3) ∧ 0 ≤ b ∧ b < 40) → Q (-1) M) : wp_X7_placeOf a b M Q := by
  unfold wp_X7_placeOf wp_X7_isSheet
  refine ⟨ha, fun c => ⟨by decide, fun _ => h0 (by omega), fun q => absurd rfl q⟩, fun c1 => ⟨ha, fun c => ⟨by decide, fun _ => h0 (by omega), fun q => absurd rfl q⟩, fun c2 => ⟨by decide, fun q => absurd q (by decide), fun _ => ⟨hb, fun c => h0 (by omega), fun c3 => ⟨hb, fun c4 => h1 (by omega) (by omega) (by omega) c4, fun c => h0 (by omega)⟩⟩⟩⟩⟩
theorem s_labelIn {a : Int} {M : Mem} {Q : Int → Mem → Prop} (ha : Rg a) (h1 : 0 ≤ a → a < 120 → Q (M 55 a.toNat) M) (h0 : ¬ (0 ≤ a ∧ a < 120) → Q (-1) M) : wp_X5_labelIn a M Q := by
  unfold wp_X5_labelIn wp_X7_isPlace
  refine ⟨ha, fun c => ⟨by decide, fun _ => h0 (by omega), fun q => absurd rfl q⟩, fun c1 => ⟨ha, fun c => ⟨by decide, fun _ => h0 (by omega), fun q => absurd rfl q⟩, fun c2 => ⟨by decide, fun q => absurd q (by decide), fun _ => ⟨⟨by omega, by omega⟩, h1 (by omega) (by omega)⟩⟩⟩⟩
theorem s8_isSheet {a : Int} {M : Mem} {Q : Int → Mem → Prop} (ha : Rg a) (h1 : 0 ≤ a → a < 3 → Q 1 M) (h0 : ¬ (0 ≤ a ∧ a < 3) → Q 0 M) : wp_X8_isSheet a M Q := by
  unfold wp_X8_isSheet
  exact s_isIn ha (by decide) (by decide) (fun a b => ⟨Or.inr rfl, h1 a (by omega)⟩) (fun a => ⟨Or.inl rfl, h0 (by omega)⟩)
theorem s8_isCell {a : Int} {M : Mem} {Q : Int → Mem → Prop} (ha : Rg a) (h1 : 0 ≤ a → a < 40 → Q 1 M) (h0 : ¬ (0 ≤ a ∧ a < 40) → Q 0 M) : wp_X8_isCell a M Q := by
  unfold wp_X8_isCell
  exact s_isIn ha (by decide) (by decide) (fun a b => ⟨Or.inr rfl, h1 a (by omega)⟩) (fun a => ⟨Or.inl rfl, h0 (by omega)⟩)
theorem s8_printed {a b : Int} {M : Mem} {Q : Int → Mem → Prop} (ha : Rg a) (hb : Rg b) (h1 : 0 ≤ a → a < 3 → 0 ≤ b → b < 40 → Q (M 76 (40 * a + b).toNat) M) (h0 : ¬ ((0 ≤ a ∧ a < 3) ∧ 0 ≤ b ∧ b < 40) → Q (-1) M) : wp_X8_printed a b M Q := by
  unfold wp_X8_printed
  refine s8_isSheet ha (fun c1 c2 => ⟨by decide, fun q => absurd q (by decide), fun _ => s8_isCell hb (fun c3 c4 => ⟨by decide, fun q => absurd q (by decide), fun _ => ⟨⟨by omega, by omega⟩, h1 c1 c2 c3 c4⟩⟩) (fun c => ⟨by decide, fun _ => h0 (by omega), fun q => absurd rfl q⟩)⟩) (fun c => ⟨by decide, fun _ => h0 (by omega), fun q => absurd rfl q⟩)
theorem op_printed {B a1 a2 : Int} {M : Mem} {G : Prop → Prop} {P : Int → Int → Mem → Prop} (hG : ∀ p, p → G p) (hR : RelB B M) (h1 : Rg a1) (h2 : Rg a2) (h : ∀ r M', Rg r → RelB (B + 1) M' → SameA M M' → P r r M') : wp_X7_printed a1 a2 M (fun r1 M1 => G (wp_X8_printed a1 a2 M1 (fun r2 M2 => P r1 r2 M2))) := by
  have go : ∀ r1 r2 : Int, r2 = r1 → Rg r1 → P r1 r2 M := fun r1 r2 e g => by rw [e]; exact h r1 M g (RelB_mono (by omega) hR) (SameA.refl M)
  obtain ⟨⟨⟨n0, n1, n2⟩, -⟩, -, hC, -⟩ := hR
  unfold wp_X7_printed
  refine s_placeOf h1 h2 (fun c1 c2 c3 c4 => ?_) (fun c => ?_)
  · refine s_labelIn ⟨by omega, by omega⟩ (fun q1 q2 => hG _ ?_) (fun q => absurd ⟨by omega, by omega⟩ q)
    refine s8_printed h1 h2 (fun _ _ _ _ => ?_) (fun q => absurd ⟨⟨c1, c2⟩, c3, c4⟩ q)
    obtain ⟨k1, k2, k3, -⟩ := hC (a1 * 40 + a2).toNat (by omega)
    rw [show 40 * a1 + a2 = a1 * 40 + a2 by omega]
    exact go _ _ k1 ⟨by omega, by omega⟩
  · refine s_labelIn (by decide) (fun q1 q2 => absurd q1 (by decide)) (fun _ => hG _ ?_)
    exact s8_printed h1 h2 (fun q1 q2 q3 q4 => absurd ⟨⟨q1, q2⟩, q3, q4⟩ c) (fun _ => go _ _ rfl (by decide))
