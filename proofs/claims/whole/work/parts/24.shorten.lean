/-! pure: shortenings: promise 5 -/
theorem told_set : ∀ t, t < 64 → ∀ i, i < 6 → (0 ≤ bOr ((t : Nat) : Int) (bShl 1 ((i : Nat) : Int)) ∧ bOr ((t : Nat) : Int) (bShl 1 ((i : Nat) : Int)) < 64) ∧ ∀ j, j < 6 → (bOr ((t : Nat) : Int) (bShl 1 ((i : Nat) : Int))).toNat.testBit j = (decide (j = i) || t.testBit j) := by decide +kernel
theorem told_clr : ∀ t, t < 64 → ∀ i, i < 6 → (0 ≤ bAnd ((t : Nat) : Int) (bXor (bShl 1 ((i : Nat) : Int)) (-1)) ∧ bAnd ((t : Nat) : Int) (bXor (bShl 1 ((i : Nat) : Int)) (-1)) < 64) ∧ ∀ j, j < 6 → (bAnd ((t : Nat) : Int) (bXor (bShl 1 ((i : Nat) : Int)) (-1))).toNat.testBit j = (!decide (j = i) && t.testBit j) := by decide +kernel
/-- n and the tape's z bytes f can be a shortening -/
def shC (f : Nat → Int) (z n : Int) : Prop := 1 ≤ n ∧ n ≤ 6 ∧ n ≤ z ∧ z - n ≤ 6 ∧ ∀ j : Nat, (j : Int) < z → 32 ≤ f j ∧ f j ≤ 126
theorem s_areShortening {n : Int} {M : Mem} {Q : Int → Mem → Prop} (hn : Rg n) (hr : rok M 0) (hR : ∀ j : Nat, (j : Int) < M 0 1 → 0 ≤ M 1 j ∧ M 1 j ≤ 255) (h1 : shC (M 1) (M 0 1) n → Q 1 M) (h0 : ¬ shC (M 1) (M 0 1) n → Q 0 M) : wp_X2_areShortening 0 n M Q := by
  have g1 := hr.1
  have g2 : M 0 1 ≤ 200 := hr.2
  unfold wp_X2_areShortening wp_X4_size wp_X2_areSigns
  refine ⟨hn, fun c => h0 (fun q => by have := q.1; omega), fun c1 => ⟨hn, fun c => h0 (fun q => by have := q.2.1; omega), fun c2 => ⟨hn, ⟨by omega, by omega⟩, fun c => h0 (fun q => by have := q.2.2.1; omega), fun c3 => ⟨⟨by omega, by omega⟩, fun c => h0 (fun q => by have := q.2.2.2.1; omega), fun c4 => ?_⟩⟩⟩⟩
  refine s_allWithin hr (by decide) (by decide) (fun j hj => ⟨by have := (hR j hj).1; show -2147483648 ≤ M 1 j; omega, by have := (hR j hj).2; show M 1 j ≤ 2147483647; omega⟩) (fun hd => ⟨Or.inr rfl, by decide, fun c => absurd c (by decide), fun _ => h1 ⟨by omega, by omega, by omega, by omega, hd⟩⟩) (fun hd => ⟨Or.inl rfl, by decide, fun _ => h0 (fun q => hd q.2.2.2.2), fun c => absurd rfl c⟩)
theorem s7_short_39 {n : Int} {i : Nat} {M : Mem} {Q : Int → Mem → Prop} (hi : i < 6) (hn : Rg n) (hr : rok M 0) (hR : ∀ j : Nat, (j : Int) < M 0 1 → 0 ≤ M 1 j ∧ M 1 j ≤ 255)
    (h1 : shC (M 1) (M 0 1) n → ∀ f1 f2, (∀ j : Nat, (j : Int) < n → f1 j = M 1 j) → (∀ j : Nat, (j : Int) < M 0 1 - n → f2 j = M 1 (n.toNat + j)) → Q 1 (up (setRow (setRow M (4 + 2 * i) n f1) (16 + 2 * i) (M 0 1 - n) f2) 43 5 (bOr (M 43 5) (bShl 1 (i : Int)))))
    (h0 : ¬ shC (M 1) (M 0 1) n → Q 0 M) : wp_X2_setShortening_39 (i : Int) 0 n Q M := by
  have g1 := hr.1
  have hb : (0 ≤ (i : Int) ∧ (i : Int) < 6) := ⟨by omega, by omega⟩
  unfold wp_X2_setShortening_39
  rw [Int.toNat_natCast]
  refine s_areShortening hn hr hR (fun hc => ⟨by decide, fun _ => ⟨hb, ?_⟩, fun c => absurd (by decide) c⟩) (fun hc => ⟨by decide, fun c => absurd rfl c, fun _ => h0 hc⟩)
  have hc2 := hc
  obtain ⟨k1, k2, k3, k4, k5⟩ := hc2
  have capF : (capR (4 + 2 * i) : Int) = 6 := by unfold capR; rw [if_neg (by omega), if_neg (by omega), if_pos (by omega)]; rfl
  have capT : (capR (16 + 2 * i) : Int) = 6 := by unfold capR; rw [if_neg (by omega), if_neg (by omega), if_pos (by omega)]; rfl
  have rF : isRow (4 + 2 * i) := ⟨by omega, by omega⟩
  have rT : isRow (16 + 2 * i) := ⟨by omega, by omega⟩
  refine s_clear ⟨hb, ?_⟩
  have e0 : setRow M (4 + 2 * i) 0 (M (4 + 2 * i + 1)) 0 = M 0 := setRow_ne _ _ _ (by omega) (by omega)
  have e1 : setRow M (4 + 2 * i) 0 (M (4 + 2 * i + 1)) (0 + 1) = M 1 := setRow_ne _ _ _ (by omega) (by omega)
  refine s_addPart rF (by decide) (by omega) (by decide) (by omega) (by rw [e0]; omega) (by unfold rok; rw [e0]; exact hr) (by unfold rok; rw [setRow_n, capF]; omega) (fun f1 _ _ q1 => ?_) (fun f m cc => by rw [setRow_n, capF] at cc; omega)
  rw [setRow_n, setRow_set, e1] at *
  refine ⟨hb, s_clear ⟨hb, ?_⟩⟩
  rw [show (0 : Int) + (n - 0) = n by omega]
  generalize hM1 : setRow M (4 + 2 * i) n f1 = M1
  have a0 : M1 0 = M 0 := by rw [← hM1]; exact setRow_ne _ _ _ (by omega) (by omega)
  have a1 : M1 1 = M 1 := by rw [← hM1]; exact setRow_ne _ _ _ (by omega) (by omega)
  have a43 : M1 43 = M 43 := by rw [← hM1]; exact setRow_ne _ _ _ (by omega) (by omega)
  have b0 : setRow M1 (16 + 2 * i) 0 (M1 (16 + 2 * i + 1)) 0 = M 0 := by rw [setRow_ne _ _ _ (by omega) (by omega), a0]
  have b1 : setRow M1 (16 + 2 * i) 0 (M1 (16 + 2 * i + 1)) (0 + 1) = M 1 := by rw [setRow_ne _ _ _ (by omega) (by omega)]; exact a1
  unfold wp_X4_size
  rw [b0]
  refine s_addPart rT (by decide) (by omega) (by omega) (by omega) (by rw [b0]; omega) (by unfold rok; rw [b0]; exact hr) (by unfold rok; rw [setRow_n, capT]; omega) (fun f2 _ _ q2 => ?_) (fun f m cc => by rw [setRow_n, capT] at cc; omega)
  rw [setRow_n, setRow_set] at *
  rw [b1] at q2
  rw [show (0 : Int) + (M 0 1 - n) = M 0 1 - n by omega]
  have := h1 hc f1 f2 (fun j hj => by have := q1 j (by omega); simpa using this) (fun j hj => by have := q2 j hj; simpa using this)
  rw [hM1] at this
  rw [setRow_ne _ _ _ (by omega) (by omega), a43]
  exact this
