/-! promise 6 -/
theorem s8_fit {tb : Nat → Bool} {fr to : Nat → List Int} {w f1 : Nat → Int} {z : Nat} {a : Int} {M : Mem} {Q : Int → Mem → Prop} (ha : Rg a) (hz : M 62 3 = (z : Int)) (hz200 : z ≤ 200) (hf : ∀ j, j < z → M 64 j = f1 j) (hR : ∀ j, j < z → 0 ≤ f1 j ∧ f1 j ≤ 255) (hRS : RSr tb fr to M) (hW : ∀ j, j < 95 → M 63 (j + 32) = w j ∧ 1 ≤ w j ∧ w j ≤ 20)
    (hbad : ¬ fitC f1 z a → Q (-1) (up M 62 3 0))
    (hno : fitC f1 z a → bst (fun i => chn tb fr to i 6 0 (lst z f1)) w a 64 = none → ∀ M', frF (up M 62 3 0) M' → Q (-1) (up M' 62 4 0))
    (hok : fitC f1 z a → ∀ M' s R f, frF (up M 62 3 0) M' → bst (fun i => chn tb fr to i 6 0 (lst z f1)) w a 64 = some (s, R) → R.length ≤ 60 → (∀ j, j < R.length → f j = R.getD j 0) → Q (wdt w R) (up (set1 (up M' 62 4 (R.length : Int)) 65 f) 62 17 (s : Int))) : wp_X8_fit a M Q := by
  unfold wp_X8_fit
  rw [hz]
  refine ⟨⟨by omega, by omega⟩, fun c => hbad (fun q => by have := q.2.1; omega), fun c1 => ?_⟩
  have e64 : up M 62 3 0 64 = M 64 := rfl
  refine s8_areSigns rfl hz200 (fun j hj => by rw [e64, hf j hj]; exact hR j hj) (fun q => ?_) (fun q => ?_)
  · refine ⟨by decide, fun c => absurd c (by decide), fun _ => ?_⟩
    refine s_isIn ha (by decide) (by decide) (fun c2 c3 => ?_) (fun c => ?_)
    · refine ⟨by decide, fun _ => ⟨65, ?_⟩, fun c => absurd (by decide) c⟩
      have hC : fitC f1 z a := ⟨⟨c2, c3⟩, by omega, fun j hj => by rw [← hf j hj]; exact q j hj⟩
      have hl := lst_len z f1
      have hS := isL_lst z f1
      have hfr : frF (up M 62 3 0) (up (up M 62 3 0) 62 15 (-1)) := (frF.refl _).up _ (by omega)
      have g := s_fit_44 (tb := tb) (fr := fr) (to := to) (S := lst z f1) (w := w) (most := a) (M0 := up M 62 3 0) (Q := Q) ⟨c2, c3⟩ (RSr_congr (M := M) rfl rfl rfl rfl hRS) hW (fun j hj => by rw [e64, hf j (by omega)]; exact hS.2 j hj) (by omega) (fun j hj => by rw [← hS.2 j hj]; exact hC.2.2 j (by omega)) (fun M' h1 h2 => hno hC h2 M' h1) (fun M' s R f h1 h2 h3 h4 => hok hC M' s R f h1 h2 h3 h4) 64 0 _ (by omega) hfr (Or.inl ⟨rfl, rfl⟩)
      rw [hl] at g
      exact g
    · exact ⟨by decide, fun x => absurd rfl x, fun _ => hbad (fun q2 => c q2.1)⟩
  · exact ⟨by decide, fun _ => hbad (fun q2 => q (fun j hj => by rw [e64, hf j hj]; exact q2.2.2 j hj)), fun x => absurd rfl x⟩
theorem RSr_of {M : Mem} (h : RS M) : RSr (tbN M) (frN M) (toN M) M := by
  intro i hi
  obtain ⟨⟨a1, a2, a3, a4⟩, b, c⟩ := h.2.2 i hi
  refine ⟨b, fun ht => ?_⟩
  obtain ⟨c1, c2, c3, c4, c5⟩ := c ht
  obtain ⟨l1, l2, l3, l4, l5, l6, l7⟩ := RS_lists h hi ht
  have n1 := l1.1
  have n2 := l4.1
  refine ⟨⟨by rw [c2]; exact n1, fun j hj => ?_⟩, l2, l3, ⟨by rw [c3]; exact n2, fun j hj => ?_⟩, l5, l6, l7⟩
  · show M 68 (6 * i + j) = _
    rw [(c4 j (by omega)).1, ← l1.2 j hj, show 5 + 2 * i = 4 + 2 * i + 1 by omega]
  · show M 69 (6 * i + j) = _
    rw [(c5 j (by omega)).1, ← l4.2 j hj, show 17 + 2 * i = 16 + 2 * i + 1 by omega]
theorem op_fit {a1 : Int} {M : Mem} {G : Prop → Prop} {P : Int → Int → Mem → Prop} (hG : ∀ p, p → G p) (hR : RelA M) (h1 : Rg a1) (h : ∀ r M', Rg r → RelA M' → SameB M M' → P r r M') : wp_X7_fit a1 M (fun r1 M1 => G (wp_X8_fit a1 M1 (fun r2 M2 => P r1 r2 M2))) := by
  have hR0 := hR
  obtain ⟨⟨t1, t2, t3, t4⟩, hO, hw, hs, hv, hx⟩ := hR
  obtain ⟨z, hz⟩ : ∃ z : Nat, M 0 1 = (z : Int) := ⟨(M 0 1).toNat, by omega⟩
  have hz200 : z ≤ 200 := by omega
  have hf : ∀ j, j < z → M 64 j = M 1 j := fun j hj => (t4 j (by omega)).1
  have hr1 : ∀ j, j < z → 0 ≤ M 1 j ∧ M 1 j ≤ 255 := fun j hj => (t4 j (by omega)).2
  have hW1 : ∀ j, j < 95 → 1 ≤ M 44 j ∧ M 44 j ≤ 20 := fun j hj => (hw j hj).2
  have fin : ∀ M1 M2 : Mem, F7f M M1 → rok M1 28 → rok M1 30 → (∀ k, k < 62 → M2 k = M1 k) → (∀ k, 62 < k → k ≠ 65 → k ≠ 70 → k ≠ 71 → k ≠ 72 → M2 k = M k) → (∀ j, (17 < j ∨ j = 18) → M2 62 j = M 62 j) → M1 0 1 = 0 → M2 62 3 = 0 → RT 67 (M1 2 1) (M1 3) (M2 62 4) (M2 65) → (M2 62 17 = M1 43 6 ∧ -1 ≤ M1 43 6 ∧ M1 43 6 < 64) → RelA M2 ∧ SameB M M2 := by
    intro M1 M2 f1 r28 r30 s2 s8 s62 e0 e3 hT v1
    have s1 : ∀ k, ¬ (k = 0 ∨ k = 2 ∨ k = 3 ∨ (28 ≤ k ∧ k ≤ 31) ∨ k = 43) → M1 k = M k := fun k hk => funext (fun j => f1 k j (by unfold xFt; omega))
    refine ⟨RelA_out hR0 (by rw [s2 0 (by decide)]; exact e0) e3 ?_ ?_ ?_ ?_ ?_, ?_, ?_, ?_⟩
    · rw [s2 2 (by decide), s2 3 (by decide)]; exact hT
    · rw [s2 43 (by decide), s2 47 (by decide), s1 47 (by omega), s62 18 (by omega), s62 23 (by omega), s62 25 (by omega), s62 24 (by omega)]
      exact ⟨v1, hv.2⟩
    · obtain ⟨x28, x30, x32, x34, x36, x38, x40, x41⟩ := hx
      refine ⟨?_, ?_, ?_, ?_, ?_, ?_, ?_, ?_⟩
      · unfold rok; rw [s2 28 (by decide)]; exact r28
      · unfold rok; rw [s2 30 (by decide)]; exact r30
      · unfold rok; rw [s2 32 (by decide), s1 32 (by omega)]; exact x32
      · unfold rok; rw [s2 34 (by decide), s1 34 (by omega)]; exact x34
      · unfold rok; rw [s2 36 (by decide), s1 36 (by omega)]; exact x36
      · unfold rok; rw [s2 38 (by decide), s1 38 (by omega)]; exact x38
      · rw [s2 40 (by decide), s1 40 (by omega)]; exact x40
      · rw [s2 41 (by decide), s1 41 (by omega)]; exact x41
    · intro k hk
      by_cases c : k < 62
      · rw [s2 k c]; exact s1 k (by omega)
      · exact s8 k (by omega) (by omega) (by omega) (by omega) (by omega)
    · rw [s2 43 (by decide)]; exact f1 43 5 (by unfold xFt; omega)
    · intro k a b
      rw [s2 k b, s1 k (by omega)]
    · intro k a
      exact s8 k (by omega) (by omega) (by omega) (by omega) (by omega)
    · exact s62 31 (by omega)
  have F8 : ∀ M1 M', F7f M M1 → frF (up M1 62 3 0) M' → (∀ k, k < 62 → M' k = M1 k) ∧ (∀ k, 62 < k → k ≠ 70 → k ≠ 71 → k ≠ 72 → M' k = M k) ∧ (∀ j, (j < 12 ∨ 16 < j) → j ≠ 3 → M' 62 j = M 62 j) ∧ M' 62 3 = 0 := by
    intro M1 M' f1 f2
    have s1 : ∀ k, 62 ≤ k → M1 k = M k := fun k hk => funext (fun j => f1 k j (by unfold xFt; omega))
    refine ⟨fun k hk => ?_, fun k hk a b c => ?_, fun j hj a => ?_, ?_⟩
    · rw [f2.cell (by omega) (by omega), up_ne _ _ _ (by omega)]
    · rw [f2.cell (by omega) (by omega), up_ne _ _ _ (by omega), s1 k (by omega)]
    · rw [f2 62 j (by decide) (by decide) (by decide) (fun _ => hj), up_snn _ _ _ a, s1 62 (by omega)]
    · rw [f2 62 3 (by decide) (by decide) (by decide) (fun _ => by omega), up_sn]
  have st : ∀ M1, F7f M M1 → M1 62 3 = (z : Int) ∧ (∀ j, j < z → M1 64 j = M 1 j) ∧ RSr (tbN M) (frN M) (toN M) M1 ∧ (∀ j, j < 95 → M1 63 (j + 32) = M 44 j ∧ 1 ≤ M 44 j ∧ M 44 j ≤ 20) := by
    intro M1 f1
    have s1 : ∀ k, 62 ≤ k → M1 k = M k := fun k hk => funext (fun j => f1 k j (by unfold xFt; omega))
    refine ⟨by rw [s1 62 (by omega), t3, hz], fun j hj => by rw [s1 64 (by omega)]; exact hf j hj, RSr_congr (s1 66 (by omega)) (s1 67 (by omega)) (s1 68 (by omega)) (s1 69 (by omega)) (RSr_of hs), fun j hj => by rw [s1 63 (by omega)]; exact hw j hj⟩
  refine s7_fit h1 hz ⟨t1, t2⟩ (rok2 hR0) hx hs hW1 hr1 ?_ ?_ ?_
  · intro M1 hc f1 r28 r30 e0 e43 o2 o3
    obtain ⟨y3, y64, yRS, yW⟩ := st M1 f1
    apply hG
    refine s8_fit h1 y3 hz200 y64 hr1 yRS yW (fun _ => ?_) (fun c => absurd c hc) (fun c => absurd c hc)
    obtain ⟨g1, g2, g3, g4⟩ := F8 M1 _ f1 (frF.refl _)
    obtain ⟨a, b⟩ := fin M1 _ f1 r28 r30 g1 (fun k a _ c d e => g2 k a c d e) (fun j hj => g3 j (by omega) (by omega)) e0 g4 (by rw [o2, o3, g3 4 (by omega) (by decide), g2 65 (by decide) (by decide) (by decide) (by decide)]; exact hO) (by rw [g3 17 (by omega) (by decide), e43]; exact hv.1)
    exact h (-1) _ (by decide) a b
  · intro M1 hc hb f1 r28 r30 e0 e43 o2
    obtain ⟨y3, y64, yRS, yW⟩ := st M1 f1
    apply hG
    refine s8_fit h1 y3 hz200 y64 hr1 yRS yW (fun c => absurd hc c) (fun _ _ M' hF => ?_) (fun _ M' s R f _ hb2 => ?_)
    · obtain ⟨g1, g2, g3, g4⟩ := F8 M1 M' f1 hF
      have u : ∀ k, k ≠ 62 → up M' 62 4 0 k = M' k := fun k hk => up_ne _ _ _ hk
      obtain ⟨a, b⟩ := fin M1 (up M' 62 4 0) f1 r28 r30 (fun k hk => by rw [u k (by omega)]; exact g1 k hk) (fun k a _ c d e => by rw [u k (by omega)]; exact g2 k a c d e) (fun j hj => by rw [up_snn _ _ _ (by omega)]; exact g3 j (by omega) (by omega)) e0 (by rw [up_snn _ _ _ (by decide)]; exact g4) (by rw [o2, up_sn]; exact ⟨by decide, by decide, rfl, fun j hj => absurd hj (by omega)⟩) (by rw [up_snn _ _ _ (by decide), g3 17 (by omega) (by decide), e43]; exact hv.1)
      exact h (-1) _ (by decide) a b
    · have hb' : bst (fun i => chn (tbN M) (frN M) (toN M) i 6 0 (lst z (M 1))) (M 44) a1 64 = none := hb
      rw [hb'] at hb2
      cases hb2
  · intro M1 s R hc hb f1 r28 r30 e0 e43 hL
    have hb' : bst (fun i => chn (tbN M) (frN M) (toN M) i 6 0 (lst z (M 1))) (M 44) a1 64 = some (s, R) := hb
    obtain ⟨y3, y64, yRS, yW⟩ := st M1 f1
    obtain ⟨b1, b2, b3⟩ := bst_in hb
    have hl := lst_len z (M 1)
    have hS := isL_lst z (M 1)
    have okR := chn_ok (RS_sgs hs) 6 0 _ R (by omega) (fun j hj => by rw [← hS.2 j hj]; exact hc.2.2 j (by omega)) (by have := hc.2.1; omega) b2
    have wr := wdt_rng hW1 okR.1 okR.2
    apply hG
    refine s8_fit h1 y3 hz200 y64 hr1 yRS yW (fun c => absurd hc c) (fun _ hb2 => ?_) (fun _ M' s2 R2 f hF hb2 hl60 hf2 => ?_)
    · rw [hb'] at hb2
      cases hb2
    · rw [hb'] at hb2
      cases hb2
      obtain ⟨g1, g2, g3, g4⟩ := F8 M1 M' f1 hF
      have u : ∀ k, k ≠ 62 → k ≠ 65 → up (set1 (up M' 62 4 (R.length : Int)) 65 f) 62 17 (s : Int) k = M' k := fun k hk hk2 => by rw [up_ne _ _ _ hk, set1_ne _ _ hk2, up_ne _ _ _ hk]
      have u62 : ∀ j, j ≠ 17 → j ≠ 4 → up (set1 (up M' 62 4 (R.length : Int)) 65 f) 62 17 (s : Int) 62 j = M' 62 j := fun j hj hj2 => by rw [up_snn _ _ _ hj, set1_ne _ _ (by decide), up_snn _ _ _ hj2]
      have u4 : up (set1 (up M' 62 4 (R.length : Int)) 65 f) 62 17 (s : Int) 62 4 = (R.length : Int) := rfl
      have u17 : up (set1 (up M' 62 4 (R.length : Int)) 65 f) 62 17 (s : Int) 62 17 = (s : Int) := rfl
      have u65 : up (set1 (up M' 62 4 (R.length : Int)) 65 f) 62 17 (s : Int) 65 = f := rfl
      have nL := hL.1
      obtain ⟨a, b⟩ := fin M1 (up (set1 (up M' 62 4 (R.length : Int)) 65 f) 62 17 (s : Int)) f1 r28 r30 (fun k hk => by rw [u k (by omega) (by omega)]; exact g1 k hk) (fun k a a2 c d e => by rw [u k (by omega) a2]; exact g2 k a c d e) (fun j hj => by rw [u62 j (by omega) (by omega)]; exact g3 j (by omega) (by omega)) e0 (by rw [u62 3 (by decide) (by decide)]; exact g4) (by
        rw [u4, u65]
        refine ⟨by omega, by omega, by omega, fun j hj => ?_⟩
        have hj' : j < R.length := by omega
        rw [hf2 j hj', hL.2 j hj']
        have := okR.1 j hj'
        omega) (by rw [u17, e43]; omega)
      exact h _ _ ⟨by omega, by omega⟩ a b
