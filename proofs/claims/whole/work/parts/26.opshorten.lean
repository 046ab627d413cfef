/-! pure: promise 5 alike -/
theorem RelA_mk {M M' : Mem} (hR : RelA M) (h0 : M' 0 1 = 0) (h623 : M' 62 3 = 0) (hk : ∀ k, k ≠ 0 → k ≠ 1 → k ≠ 62 → k ≠ 43 → ¬ (4 ≤ k ∧ k < 28) → ¬ (66 ≤ k ∧ k ≤ 69) → M' k = M k) (h43 : M' 43 6 = M 43 6) (h62 : ∀ a, a ≠ 3 → M' 62 a = M 62 a) (hRS : RS M') : RelA M' ∧ SameB M M' := by
  obtain ⟨ht, ho, hw, hs, hv, hx⟩ := hR
  have e : ∀ k, k ≠ 0 → k ≠ 1 → k ≠ 62 → k ≠ 43 → 28 ≤ k ∨ k < 4 → k < 66 ∨ 69 < k → M' k = M k := fun k a b c d f g => hk k a b c d (by omega) (by omega)
  refine ⟨⟨⟨?_, ?_, ?_, ?_⟩, ?_, ?_, hRS, ?_, RX_congr (M := M) ?_ ?_ ?_ ?_ ?_ ?_ ?_ ?_ hx⟩, fun k q1 q2 => ?_, fun k q => ?_, ?_⟩
  · rw [h0]; decide
  · rw [h0]; decide
  · rw [h0, h623]
  · rw [h0]; intro j hj; exact absurd hj (by omega)
  · rw [e 2 (by decide) (by decide) (by decide) (by decide) (by decide) (by decide), e 3 (by decide) (by decide) (by decide) (by decide) (by decide) (by decide), e 65 (by decide) (by decide) (by decide) (by decide) (by decide) (by decide), h62 4 (by decide)]
    exact ho
  · rw [e 44 (by decide) (by decide) (by decide) (by decide) (by decide) (by decide), e 63 (by decide) (by decide) (by decide) (by decide) (by decide) (by decide)]
    exact hw
  · rw [h43, e 47 (by decide) (by decide) (by decide) (by decide) (by decide) (by decide), h62 17 (by decide), h62 18 (by decide), h62 23 (by decide), h62 25 (by decide), h62 24 (by decide)]
    exact hv
  · rw [e 28 (by decide) (by decide) (by decide) (by decide) (by decide) (by decide)]
  · rw [e 30 (by decide) (by decide) (by decide) (by decide) (by decide) (by decide)]
  · rw [e 32 (by decide) (by decide) (by decide) (by decide) (by decide) (by decide)]
  · rw [e 34 (by decide) (by decide) (by decide) (by decide) (by decide) (by decide)]
  · rw [e 36 (by decide) (by decide) (by decide) (by decide) (by decide) (by decide)]
  · rw [e 38 (by decide) (by decide) (by decide) (by decide) (by decide) (by decide)]
  · rw [e 40 (by decide) (by decide) (by decide) (by decide) (by decide) (by decide)]
  · rw [e 41 (by decide) (by decide) (by decide) (by decide) (by decide) (by decide)]
  · exact e k (by omega) (by omega) (by omega) (by omega) (by omega) (by omega)
  · exact e k (by omega) (by omega) (by omega) (by omega) (by omega) (by omega)
  · exact h62 31 (by decide)
theorem clear0_ne (M : Mem) {k : Nat} (h : k ≠ 0) : setRow M 0 0 (M (0 + 1)) k = M k := by
  by_cases h1 : k = 1
  · subst h1; exact setRow_a M 0 _ _
  · exact setRow_ne _ _ _ h (by omega)
/-- the tape is emptied on both sides, nothing else -/
theorem RelA_empty {M : Mem} (hR : RelA M) : RelA (up (setRow M 0 0 (M (0 + 1))) 62 3 0) ∧ SameB M (up (setRow M 0 0 (M (0 + 1))) 62 3 0) := by
  have e : ∀ k, k ≠ 0 → k ≠ 62 → up (setRow M 0 0 (M (0 + 1))) 62 3 0 k = M k := fun k h0 h2 => by rw [up_ne _ _ _ h2, clear0_ne M h0]
  refine RelA_mk hR (by rw [up_ne _ _ _ (by decide), setRow_n]) (up_sn _ _ _ _) (fun k h0 _ h2 _ _ _ => e k h0 h2) (by rw [e 43 (by decide) (by decide)]) (fun a ha => by rw [up_snn _ _ _ ha, clear0_ne M (by decide)]) ?_
  exact RS_congr (M := M) (fun k _ _ => e k (by omega) (by omega)) (by rw [e 43 (by decide) (by decide)]) (e 66 (by decide) (by decide)) (e 67 (by decide) (by decide)) (e 68 (by decide) (by decide)) (e 69 (by decide) (by decide)) hR.2.2.2.1
theorem op_shorten {a1 a2 : Int} {M : Mem} {G : Prop → Prop} {P : Int → Int → Mem → Prop} (hG : ∀ p, p → G p) (hR : RelA M) (h1 : Rg a1) (h2 : Rg a2) (h : ∀ r M', Rg r → RelA M' → SameB M M' → P r r M') : wp_X7_shorten a1 a2 M (fun r1 M1 => G (wp_X8_shorten a1 a2 M1 (fun r2 M2 => P r1 r2 M2))) := by
  have hR0 := hR
  obtain ⟨⟨t1, t2, t3, t4⟩, ho, hw, hs, hv, hx⟩ := hR
  obtain ⟨z, hz⟩ : ∃ z : Nat, M 0 1 = (z : Int) := ⟨(M 0 1).toNat, by omega⟩
  have t5 : ∀ j, j < z → M 64 j = M 1 j ∧ 0 ≤ M 1 j ∧ M 1 j ≤ 255 := fun j hj => t4 j (by omega)
  have t6 : ∀ j : Nat, (j : Int) < M 0 1 → 0 ≤ M 1 j ∧ M 1 j ≤ 255 := fun j hj => (t4 j hj).2
  obtain ⟨hs1, hs2, hs3⟩ := hs
  obtain ⟨t, ht⟩ : ∃ t : Nat, M 43 5 = (t : Int) := ⟨(M 43 5).toNat, by omega⟩
  have empty := RelA_empty hR0
  have shc : ∀ n, shC (M 64) (z : Int) n ↔ shC (M 1) (M 0 1) n := by
    intro n
    rw [hz]
    unfold shC
    constructor
    · rintro ⟨q1, q2, q3, q4, q5⟩
      exact ⟨q1, q2, q3, q4, fun j hj => by have := q5 j hj; rw [(t5 j (by omega)).1] at this; exact this⟩
    · rintro ⟨q1, q2, q3, q4, q5⟩
      exact ⟨q1, q2, q3, q4, fun j hj => by rw [(t5 j (by omega)).1]; exact q5 j hj⟩
  have m62 : ∀ N : Mem, N 62 = M 62 → setRow N 0 0 (N (0 + 1)) 62 = M 62 := fun N hN => (clear0_ne N (by decide)).trans hN
  -- refused by i
  have no1 : ¬ (0 ≤ a1 ∧ a1 ≤ 5) → G (wp_X8_shorten a1 a2 (setRow M 0 0 (M (0 + 1))) (fun r2 M2 => P 0 r2 M2)) := by
    intro hc
    apply hG
    unfold wp_X8_shorten
    exact s_isIn h1 (by decide) (by decide) (fun c1 c2 => absurd ⟨c1, c2⟩ hc) (fun _ => ⟨by decide, fun c => absurd rfl c, fun _ => h 0 _ (by decide) empty.1 empty.2⟩)
  unfold wp_X7_shorten wp_X2_setShortening
  refine ⟨h1, fun c => s_clear ⟨Or.inl rfl, no1 (by omega)⟩, fun c1 => ⟨h1, fun c2 => ?_, fun c => s_clear ⟨Or.inl rfl, no1 (by omega)⟩⟩⟩
  obtain ⟨i, rfl⟩ : ∃ i : Nat, a1 = (i : Int) := ⟨a1.toNat, by omega⟩
  have hi : i < 6 := by omega
  -- the reference from its own start
  have ref : ∀ (N : Mem) (r : Int), N 62 = M 62 → (a2 = 0 → z = 0 → P r 1 (up (up N 62 3 0) 66 i 0)) → (¬ (a2 = 0 ∧ z = 0) → wp_X8_shorten_38 (i : Int) a2 (fun r2 M2 => P r r2 M2) (z : Int) (up N 62 3 0)) → wp_X8_shorten (i : Int) a2 N (fun r2 M2 => P r r2 M2) := by
    intro N r hN g1 g2
    unfold wp_X8_shorten
    rw [hN, t3, hz, Int.toNat_natCast]
    refine s_isIn h1 (by decide) (by decide) (fun _ _ => ⟨by decide, fun _ => ⟨h2, fun c => g2 (fun q => c q.1), fun c => ⟨⟨by omega, by omega⟩, fun c3 => g2 (fun q => by omega), fun c3 => ⟨⟨by omega, by omega⟩, g1 (by omega) (by omega)⟩⟩⟩, fun c => absurd (by decide) c⟩) (fun c => absurd ⟨by omega, by omega⟩ c)
  have main : ¬ (a2 = 0 ∧ z = 0) → wp_X2_setShortening_39 (i : Int) 0 a2 (fun r2 M1 => wp_X4_clear 0 M1 (fun M3 => (r2 = 0 ∨ r2 = 1) ∧ G (wp_X8_shorten (i : Int) a2 M3 (fun r3 M2 => P r2 r3 M2)))) M := by
    intro hne
    refine s7_short_39 hi h2 (rok0 hR0) t6 (fun hc f1 f2 q1 q2 => s_clear ⟨Or.inr rfl, hG _ ?_⟩) (fun hc => s_clear ⟨Or.inl rfl, hG _ ?_⟩)
    · generalize hN0 : up (setRow (setRow M (4 + 2 * i) a2 f1) (16 + 2 * i) (M 0 1 - a2) f2) 43 5 (bOr (M 43 5) (bShl 1 (i : Int))) = N0
      have n0 : ∀ k, k ≠ 43 → k ≠ 4 + 2 * i → k ≠ 5 + 2 * i → k ≠ 16 + 2 * i → k ≠ 17 + 2 * i → N0 k = M k := fun k q1 q2 q3 q4 q5 => by rw [← hN0, up_ne _ _ _ q1, setRow_ne _ _ _ q4 (by omega), setRow_ne _ _ _ q2 (by omega)]
      have n43 : N0 43 5 = bOr (M 43 5) (bShl 1 (i : Int)) := by rw [← hN0]; exact up_sn _ _ _ _
      have n436 : N0 43 6 = M 43 6 := by rw [← hN0, up_snn _ _ _ (by decide), setRow_ne _ _ _ (by omega) (by omega), setRow_ne _ _ _ (by omega) (by omega)]
      have nF : N0 (4 + 2 * i) 1 = a2 := by rw [← hN0, up_ne _ _ _ (by omega), setRow_ne _ _ _ (by omega) (by omega), setRow_n]
      have nFa : N0 (5 + 2 * i) = f1 := by rw [← hN0, up_ne _ _ _ (by omega), setRow_ne _ _ _ (by omega) (by omega), show 5 + 2 * i = 4 + 2 * i + 1 by omega]; exact setRow_a _ _ _ _
      have nT : N0 (16 + 2 * i) 1 = M 0 1 - a2 := by rw [← hN0, up_ne _ _ _ (by omega), setRow_n]
      have nTa : N0 (17 + 2 * i) = f2 := by rw [← hN0, up_ne _ _ _ (by omega), show 17 + 2 * i = 16 + 2 * i + 1 by omega]; exact setRow_a _ _ _ _
      refine ref _ 1 (m62 N0 (n0 62 (by decide) (by omega) (by omega) (by omega) (by omega))) (fun a b => absurd ⟨a, b⟩ hne) (fun _ => ?_)
      generalize hB : up (setRow N0 0 0 (N0 (0 + 1))) 62 3 0 = B
      have b0 : ∀ k, k ≠ 0 → k ≠ 62 → B k = N0 k := fun k q1 q2 => by rw [← hB, up_ne _ _ _ q2, clear0_ne _ q1]
      have b01 : B 0 1 = 0 := by rw [← hB, up_ne _ _ _ (by decide), setRow_n]
      have b64 : B 64 = M 64 := by rw [b0 64 (by decide) (by decide), n0 64 (by decide) (by omega) (by omega) (by omega) (by omega)]
      have b62 : ∀ a, a ≠ 3 → B 62 a = M 62 a := fun a ha => by rw [← hB, up_snn _ _ _ ha, m62 N0 (n0 62 (by decide) (by omega) (by omega) (by omega) (by omega))]
      have b623 : B 62 3 = 0 := by rw [← hB]; exact up_sn _ _ _ _
      refine s8_short_38 hi h2 (by omega) (fun j hj => by rw [b64, (t5 j hj).1]; exact (t5 j hj).2) (fun _ g1 g2 p0 p1 p2 => ?_) (fun q => absurd (by rw [b64]; exact (shc a2).mpr hc) q)
      rw [b64] at p1 p2
      obtain ⟨k1, k2, k3, k4, k5⟩ := hc
      generalize hM3 : set1 (set1 (up (up B 66 i a2) 67 i ((z : Int) - a2)) 68 g1) 69 g2 = M3
      have c0 : ∀ k, k ≠ 66 → k ≠ 67 → k ≠ 68 → k ≠ 69 → M3 k = B k := fun k q1 q2 q3 q4 => by rw [← hM3, set1_ne _ _ q4, set1_ne _ _ q3, up_ne _ _ _ q2, up_ne _ _ _ q1]
      have c66 : M3 66 = upr (B 66) i a2 := by rw [← hM3, set1_ne _ _ (by decide), set1_ne _ _ (by decide), up_ne _ _ _ (by decide), up_same]
      have c67 : M3 67 = upr (B 67) i ((z : Int) - a2) := by rw [← hM3, set1_ne _ _ (by decide), set1_ne _ _ (by decide), up_same, up_ne _ _ _ (by decide)]
      have c68 : M3 68 = g1 := by rw [← hM3, set1_ne _ _ (by decide), set1_a]
      have c69 : M3 69 = g2 := by rw [← hM3, set1_a]
      have b66 : ∀ k, 66 ≤ k → k ≤ 69 → B k = M k := fun k q1 q2 => by rw [b0 k (by omega) (by omega), n0 k (by omega) (by omega) (by omega) (by omega) (by omega)]
      have d43 : M3 43 5 = bOr (t : Int) (bShl 1 (i : Int)) := by rw [c0 43 (by decide) (by decide) (by decide) (by decide), b0 43 (by decide) (by decide), n43, ht]
      obtain ⟨⟨u1, u2⟩, u3⟩ := told_set t (by omega) i hi
      have fin := RelA_mk (M' := M3) hR0 (by rw [c0 0 (by decide) (by decide) (by decide) (by decide), b01]) (by rw [c0 62 (by decide) (by decide) (by decide) (by decide), b623]) (fun k q0 q1 q2 q3 q4 q5 => by rw [c0 k (by omega) (by omega) (by omega) (by omega), b0 k q0 q2, n0 k q3 (by omega) (by omega) (by omega) (by omega)]) (by rw [c0 43 (by decide) (by decide) (by decide) (by decide), b0 43 (by decide) (by decide), n436]) (fun a ha => by rw [c0 62 (by decide) (by decide) (by decide) (by decide), b62 a ha]) ⟨by rw [d43]; exact u1, by rw [d43]; exact u2, fun j hj => ?_⟩
      · exact h 1 M3 (by decide) fin.1 fin.2
      · have cN : ∀ k, k < 28 → k ≠ 0 → M3 k = N0 k := fun k q1 q2 => by rw [c0 k (by omega) (by omega) (by omega) (by omega), b0 k q2 (by omega)]
        by_cases hji : j = i
        · subst hji
          refine ⟨?_, fun q => ?_, fun _ => ?_⟩
          · rw [cN _ (by omega) (by omega), cN _ (by omega) (by omega), nF, nT]
            omega
          · rw [d43, u3 j hj] at q
            simp at q
          · rw [cN (4 + 2 * j) (by omega) (by omega), cN (16 + 2 * j) (by omega) (by omega), cN (5 + 2 * j) (by omega) (by omega), cN (17 + 2 * j) (by omega) (by omega), nF, nT, nFa, nTa, c66, c67, upr_at, upr_at, c68, c69]
            refine ⟨k1, rfl, by omega, fun q hq => ?_, fun q hq => ?_⟩
            · rw [p1 q hq, q1 q hq, (t5 q (by omega)).1]
              exact ⟨rfl, k5 q (by omega)⟩
            · rw [p2 q (by omega), q2 q hq, (t5 _ (by omega)).1]
              exact ⟨rfl, k5 _ (by omega)⟩
        · refine RSi_congr (M := M) ?_ ?_ ?_ ?_ ?_ ?_ ?_ (fun q hq => ?_) (fun q hq => ?_) (hs3 j hj)
          · rw [cN _ (by omega) (by omega), n0 _ (by omega) (by omega) (by omega) (by omega) (by omega)]
          · rw [cN _ (by omega) (by omega), n0 _ (by omega) (by omega) (by omega) (by omega) (by omega)]
          · rw [cN _ (by omega) (by omega), n0 _ (by omega) (by omega) (by omega) (by omega) (by omega)]
          · rw [cN _ (by omega) (by omega), n0 _ (by omega) (by omega) (by omega) (by omega) (by omega)]
          · rw [d43, u3 j hj, ht]
            simp [hji]
          · rw [c66, upr_ne _ _ hji, b66 66 (by decide) (by decide)]
          · rw [c67, upr_ne _ _ hji, b66 67 (by decide) (by decide)]
          · rw [c68, (p0 _ (by omega)).1, b66 68 (by decide) (by decide)]
          · rw [c69, (p0 _ (by omega)).2, b66 69 (by decide) (by decide)]
    · refine ref _ 0 (m62 M rfl) (fun a b => absurd ⟨a, b⟩ hne) (fun _ => ?_)
      have b64 : (up (setRow M 0 0 (M (0 + 1))) 62 3 0) 64 = M 64 := by rw [up_ne _ _ _ (by decide), clear0_ne M (by decide)]
      refine s8_short_38 hi h2 (by omega) (fun j hj => by rw [b64, (t5 j hj).1]; exact (t5 j hj).2) (fun q => absurd ((shc a2).mp (by rw [b64] at q; exact q)) hc) (fun _ => h 0 _ (by decide) empty.1 empty.2)
  refine ⟨h2, fun c => main (fun q => c q.1), fun c => ?_⟩
  unfold wp_X4_size
  rw [hz]
  refine ⟨⟨by omega, by omega⟩, fun c3 => main (fun q => by omega), fun c3 => s_clear ⟨Or.inr rfl, hG _ ?_⟩⟩
  generalize hN0 : up M 43 5 (bAnd (M 43 5) (bXor (bShl 1 (i : Int)) (-1))) = N0
  have n0 : ∀ k, k ≠ 43 → N0 k = M k := fun k q1 => by rw [← hN0, up_ne _ _ _ q1]
  have n43 : N0 43 5 = bAnd (M 43 5) (bXor (bShl 1 (i : Int)) (-1)) := by rw [← hN0]; exact up_sn _ _ _ _
  have n436 : N0 43 6 = M 43 6 := by rw [← hN0, up_snn _ _ _ (by decide)]
  refine ref _ 1 (m62 N0 (n0 62 (by decide))) (fun _ _ => ?_) (fun q => absurd ⟨by omega, by omega⟩ q)
  obtain ⟨⟨u1, u2⟩, u3⟩ := told_clr t (by omega) i hi
  generalize hM3 : up (up (setRow N0 0 0 (N0 (0 + 1))) 62 3 0) 66 i 0 = M3
  have c0 : ∀ k, k ≠ 66 → k ≠ 62 → k ≠ 0 → k ≠ 43 → M3 k = M k := fun k q1 q2 q3 q4 => by rw [← hM3, up_ne _ _ _ q1, up_ne _ _ _ q2, clear0_ne _ q3, n0 k q4]
  have d43 : M3 43 = N0 43 := by rw [← hM3, up_ne _ _ _ (by decide), up_ne _ _ _ (by decide), clear0_ne _ (by decide)]
  have c66 : M3 66 = upr (M 66) i 0 := by rw [← hM3, up_same, up_ne _ _ _ (by decide), clear0_ne _ (by decide), n0 66 (by decide)]
  have c62 : ∀ a, a ≠ 3 → M3 62 a = M 62 a := fun a ha => by rw [← hM3, up_ne _ _ _ (by decide), up_snn _ _ _ ha, m62 N0 (n0 62 (by decide))]
  have c623 : M3 62 3 = 0 := by rw [← hM3, up_ne _ _ _ (by decide)]; exact up_sn _ _ _ _
  have c01 : M3 0 1 = 0 := by rw [← hM3, up_ne _ _ _ (by decide), up_ne _ _ _ (by decide), setRow_n]
  have d435 : M3 43 5 = bAnd (t : Int) (bXor (bShl 1 (i : Int)) (-1)) := by rw [d43, n43, ht]
  have fin := RelA_mk (M' := M3) hR0 c01 c623 (fun k q0 q1 q2 q3 q4 q5 => c0 k (by omega) q2 q0 q3) (by rw [d43, n436]) c62 ⟨by rw [d435]; exact u1, by rw [d435]; exact u2, fun j hj => ?_⟩
  · exact h 1 M3 (by decide) fin.1 fin.2
  · by_cases hji : j = i
    · subst hji
      refine ⟨?_, fun q => ?_, fun q => ?_⟩
      · rw [c0 _ (by omega) (by omega) (by omega) (by omega), c0 _ (by omega) (by omega) (by omega) (by omega)]
        exact (hs3 j hj).1
      · rw [c66, upr_at]
      · rw [d435, u3 j hj] at q
        simp at q
    · refine RSi_congr (M := M) ?_ ?_ ?_ ?_ ?_ ?_ ?_ (fun q hq => ?_) (fun q hq => ?_) (hs3 j hj)
      · exact c0 _ (by omega) (by omega) (by omega) (by omega)
      · exact c0 _ (by omega) (by omega) (by omega) (by omega)
      · exact c0 _ (by omega) (by omega) (by omega) (by omega)
      · exact c0 _ (by omega) (by omega) (by omega) (by omega)
      · rw [d435, u3 j hj, ht]
        simp [hji]
      · rw [c66, upr_ne _ _ hji]
      · rw [c0 67 (by decide) (by decide) (by decide) (by decide)]
      · rw [c0 68 (by decide) (by decide) (by decide) (by decide)]
      · rw [c0 69 (by decide) (by decide) (by decide) (by decide)]
