/-! pure: the reference's best layout -/
theorem c3_dA {a : Nat} (h : a < 729) : c3 (dA a) = a := by
  unfold c3 dA
  simp only [Nat.reduceSub, Nat.reducePow]
  omega
theorem cS_dB {b : Nat} (h : b < 64) : cS (dB b) = b := by
  unfold cS dB
  simp only [Nat.reduceSub, Nat.reducePow]
  omega
theorem dA_dig (a : Nat) : dig3 (dA a) := fun g _ => by unfold dA; omega
theorem dB_dig (b : Nat) : dig4 (dB b) := fun i _ => by unfold dB; omega
theorem c3_lt {d : Nat → Nat} (h : dig3 d) : c3 d < 729 := by
  have a0 := h 0 (by decide); have a1 := h 1 (by decide); have a2 := h 2 (by decide); have a3 := h 3 (by decide); have a4 := h 4 (by decide); have a5 := h 5 (by decide)
  unfold c3
  omega
theorem cS_lt {s : Nat → Nat} (h : dig4 s) : cS s < 64 := by
  have a0 := h 0 (by decide); have a1 := h 1 (by decide); have a2 := h 2 (by decide)
  unfold cS
  omega
theorem feas_cong {c r : Nat → Int} {d d' s s' : Nat → Nat} (h1 : ∀ g, g < 6 → d g = d' g) (h2 : ∀ i, i < 3 → s i = s' i) (h : feas c r d s) : feas c r d' s' := by
  obtain ⟨a, b, e, f⟩ := h
  refine ⟨fun g hg => by rw [← h1 g hg]; exact a g hg, fun i hi => by rw [← h2 i hi]; exact b i hi, fun g hg hc => by rw [← h1 g hg]; exact e g hg hc, fun h hh => ?_⟩
  have e1 : ndH c d' h = ndH c d h := sm_cong (fun g hg => by rw [h1 g hg])
  have e2 : hsH r s' h = hsH r s h := sm_cong (fun i hi => by rw [h2 i hi])
  rw [e1, e2]
  exact f h hh
theorem rkS_cong {s s' : Nat → Nat} (h : ∀ i, i < 3 → s i = s' i) : rkS s = rkS s' ∧ shN s = shN s' ∧ hpN s = hpN s' := by
  unfold rkS shN hpN
  rw [h 0 (by decide), h 1 (by decide), h 2 (by decide)]
  exact ⟨rfl, rfl, rfl⟩
theorem hp_sh0 : ∀ p, p < 4 → ∀ q, q < 4 → ∀ r, r < 4 → hpN (fun i => if i = 0 then p else if i = 1 then q else r) ≤ shN (fun i => if i = 0 then p else if i = 1 then q else r) ∧ shN (fun i => if i = 0 then p else if i = 1 then q else r) ≤ 3 := by decide +kernel
theorem hp_sh {s : Nat → Nat} (hs : dig4 s) : hpN s ≤ shN s ∧ shN s ≤ 3 := hp_sh0 (s 0) (hs 0 (by decide)) (s 1) (hs 1 (by decide)) (s 2) (hs 2 (by decide))
/-- the best one among those that were tried: (a', b') ahead of (a, b) -/
def seen (d s : Nat → Nat) (a b : Nat) : Prop := c3 d < a ∨ (c3 d = a ∧ cS s < b)
def stR (c r : Nat → Int) (G : Int) (a b : Nat) (M : Mem) : Prop := (M 62 41 = -1 ∧ ∀ d s, feas c r d s → ¬ seen d s a b) ∨
  ∃ d s, feas c r d s ∧ seen d s a b ∧ M 62 41 = G + (shN s : Int) - (hpN s : Int) ∧ M 62 42 = (shN s : Int) ∧ (∀ g, g < 6 → M 83 g = (d g : Int)) ∧ (∀ i, i < 3 → M 84 i = (s i : Int)) ∧ ∀ d' s', feas c r d' s' → seen d' s' a b → le3 (rkS s) (c3 d) (cS s) (rkS s') (c3 d') (cS s')
theorem stR_frame {c r : Nat → Int} {G : Int} {a b : Nat} {M M' : Mem} (h62 : M' 62 = M 62) (h83 : M' 83 = M 83) (h84 : M' 84 = M 84) (h : stR c r G a b M) : stR c r G a b M' := by
  unfold stR at *
  rw [h62, h83, h84]
  exact h
/-- nothing new is seen -/
theorem stR_skip {c r : Nat → Int} {G : Int} {a b a' b' : Nat} {M : Mem} (hs : ∀ d s, feas c r d s → (seen d s a' b' ↔ seen d s a b)) (h : stR c r G a b M) : stR c r G a' b' M := by
  rcases h with ⟨h1, h2⟩ | ⟨d, s, h1, h2, h3, h4, h5, h6, h7⟩
  · exact Or.inl ⟨h1, fun d s hf q => h2 d s hf ((hs d s hf).mp q)⟩
  · exact Or.inr ⟨d, s, h1, (hs d s h1).mpr h2, h3, h4, h5, h6, fun d' s' hf q => h7 d' s' hf ((hs d' s' hf).mp q)⟩
theorem seen_next {c r : Nat → Int} {a b : Nat} (ha : a < 729) (hb : b < 64) {d s : Nat → Nat} (hf : feas c r d s) : seen d s a (b + 1) ↔ (seen d s a b ∨ ((∀ g, g < 6 → d g = dA a g) ∧ ∀ i, i < 3 → s i = dB b i)) := by
  unfold seen
  constructor
  · rintro (q | ⟨q1, q2⟩)
    · exact Or.inl (Or.inl q)
    · by_cases e : cS s < b
      · exact Or.inl (Or.inr ⟨q1, e⟩)
      · exact Or.inr ⟨c3_inj hf.1 (dA_dig a) (by rw [c3_dA ha]; exact q1), cS_inj hf.2.1 (dB_dig b) (by rw [cS_dB hb]; omega)⟩
  · rintro (q | ⟨q1, q2⟩)
    · rcases q with q | ⟨q, q'⟩
      · exact Or.inl q
      · exact Or.inr ⟨q, by omega⟩
    · have e1 : c3 d = a := by
        rw [← c3_dA ha]
        unfold c3
        rw [q1 0 (by decide), q1 1 (by decide), q1 2 (by decide), q1 3 (by decide), q1 4 (by decide), q1 5 (by decide)]
      have e2 : cS s = b := by
        rw [← cS_dB hb]
        unfold cS
        rw [q2 0 (by decide), q2 1 (by decide), q2 2 (by decide)]
      exact Or.inr ⟨e1, by omega⟩
def gN (c : Nat → Int) : Int := sm (fun g => if 0 < c g then 1 else 0) 6
theorem gN_rng (c : Nat → Int) : 0 ≤ gN c ∧ gN c ≤ 6 := by
  have := sm_bound (g := fun g => if 0 < c g then (1 : Int) else 0) (c := 1) (n := 6) (fun k _ => by split <;> decide)
  unfold gN
  omega
theorem s8_245 {s : Nat → Nat} {x1 x2 x3 : Int} {M0 : Mem} {k95 : Int → Int → Int → Mem → Prop} {Q : Int → Mem → Prop} (h82 : ∀ i, i < 3 → M0 82 i = (s i : Int)) (h : ∀ M', frK 84 84 M0 M' → (∀ i, i < 3 → M' 84 i = (s i : Int)) → k95 x1 x2 (x3 + 1) M') :
    ∀ (k i : Nat) (M : Mem), i + k = 3 → frK 84 84 M0 M → (∀ j, j < i → M 84 j = (s j : Int)) → wp_X8_lays_245 k95 Q (k + 1) x1 x2 x3 (i : Int) M := by
  intro k
  induction k with
  | zero =>
    intro i M hi hfr hd
    rw [wp_X8_lays_245]
    exact ⟨⟨by omega, by omega⟩, fun _ => h M hfr (fun j hj => hd j (by omega)), fun c => absurd (by omega) c⟩
  | succ k ih =>
    intro i M hi hfr hd
    rw [wp_X8_lays_245, Int.toNat_natCast]
    refine ⟨⟨by omega, by omega⟩, fun c => absurd c (by omega), fun _ => ⟨⟨by omega, by omega⟩, ⟨by omega, by omega⟩, ?_⟩⟩
    refine ih (i + 1) _ (by omega) (hfr.up _ _ (Or.inl rfl)) (fun j hj => ?_)
    rw [up_same]
    by_cases e : j = i
    · subst e; rw [upr_at, hfr 82 (by decide) (by decide)]; exact h82 j (by omega)
    · rw [upr_ne _ _ e]; exact hd j (by omega)
theorem s8_215 {d s : Nat → Nat} {x1 x2 x3 : Int} {M0 : Mem} {k95 : Int → Int → Int → Mem → Prop} {Q : Int → Mem → Prop} (h81 : ∀ g, g < 6 → M0 81 g = (d g : Int)) (h82 : ∀ i, i < 3 → M0 82 i = (s i : Int)) (h : ∀ M', frK 83 84 M0 M' → (∀ g, g < 6 → M' 83 g = (d g : Int)) → (∀ i, i < 3 → M' 84 i = (s i : Int)) → k95 x1 x2 (x3 + 1) M') :
    ∀ (k i : Nat) (M : Mem), i + k = 6 → frK 83 83 M0 M → (∀ j, j < i → M 83 j = (d j : Int)) → wp_X8_lays_215 k95 Q (k + 1) x1 x2 x3 (i : Int) M := by
  intro k
  induction k with
  | zero =>
    intro i M hi hfr hd
    rw [wp_X8_lays_215]
    refine ⟨⟨by omega, by omega⟩, fun _ => ⟨4, ?_⟩, fun c => absurd (by omega) c⟩
    refine s8_245 (s := s) (M0 := M) (fun i hi => by rw [hfr 82 (by decide) (by decide)]; exact h82 i hi) (fun M' h2 h3 => ?_) 3 0 M rfl (frK.refl _ _ _) (fun j hj => absurd hj (by omega))
    refine h M' (fun k a b => by rw [h2 k b b, hfr k a a]) (fun g hg => ?_) h3
    rw [h2 83 (by decide) (by decide)]
    exact hd g (by omega)
  | succ k ih =>
    intro i M hi hfr hd
    rw [wp_X8_lays_215, Int.toNat_natCast]
    refine ⟨⟨by omega, by omega⟩, fun c => absurd c (by omega), fun _ => ⟨⟨by omega, by omega⟩, ⟨by omega, by omega⟩, ?_⟩⟩
    refine ih (i + 1) _ (by omega) (hfr.up _ _ (Or.inl rfl)) (fun j hj => ?_)
    rw [up_same]
    by_cases e : j = i
    · subst e; rw [upr_at, hfr 81 (by decide) (by decide)]; exact h81 j (by omega)
    · rw [upr_ne _ _ e]; exact hd j (by omega)
def frL (M M' : Mem) : Prop := ∀ k j, (k < 81 ∨ 88 < k) → (k = 62 → j ≠ 41 ∧ j ≠ 42) → M' k j = M k j
theorem frL.refl (M : Mem) : frL M M := fun _ _ _ _ => rfl
theorem frL.trans {M M' M'' : Mem} (h : frL M M') (h2 : frL M' M'') : frL M M'' := fun k j a b => (h2 k j a b).trans (h k j a b)
theorem frL.ofK {a b : Nat} {M M' : Mem} (h : frK a b M M') (ha : 81 ≤ a ∧ a ≤ 88) (hb : 81 ≤ b ∧ b ≤ 88) : frL M M' := fun k j q _ => by rw [h k (by omega) (by omega)]
theorem frL.up62 {M M' : Mem} (h : frL M M') {i : Nat} (v : Int) (hi : i = 41 ∨ i = 42) : frL M (up M' 62 i v) := by
  intro k j a b
  by_cases e : k = 62
  · subst e
    have := b rfl
    rw [up_snn _ _ _ (by omega)]
    exact h _ _ a b
  · rw [up_ne _ _ _ e]; exact h _ _ a b
theorem frL.up8 {M M' : Mem} (h : frL M M') {k : Nat} (i : Nat) (v : Int) (hk : 81 ≤ k ∧ k ≤ 88) : frL M (up M' k i v) := by
  intro x j a b
  rw [up_ne _ _ _ (by omega)]
  exact h _ _ a b
/-- what stays in the loops -/
def LI (c r : Nat → Int) (M0 M : Mem) : Prop := frL M0 M ∧ (∀ g, g < 6 → M 85 g = c g ∧ 0 ≤ c g ∧ c g ≤ 200) ∧ (∀ i, i < 3 → M 86 i = r i ∧ 0 ≤ r i ∧ r i ≤ 40)
theorem LI.K {c r : Nat → Int} {M0 M M' : Mem} {a b : Nat} (h : LI c r M0 M) (h2 : frK a b M M') (ha : 81 ≤ a ∧ a ≤ 88 ∧ a ≠ 85 ∧ a ≠ 86) (hb : 81 ≤ b ∧ b ≤ 88 ∧ b ≠ 85 ∧ b ≠ 86) : LI c r M0 M' := by
  refine ⟨h.1.trans (frL.ofK h2 (by omega) (by omega)), ?_, ?_⟩
  · rw [h2 85 (by omega) (by omega)]; exact h.2.1
  · rw [h2 86 (by omega) (by omega)]; exact h.2.2
theorem LI.up62 {c r : Nat → Int} {M0 M : Mem} (h : LI c r M0 M) {i : Nat} (v : Int) (hi : i = 41 ∨ i = 42) : LI c r M0 (up M 62 i v) := by
  refine ⟨h.1.up62 v hi, ?_, ?_⟩
  · rw [up_ne _ _ _ (by decide)]; exact h.2.1
  · rw [up_ne _ _ _ (by decide)]; exact h.2.2
theorem b1_le (p : Prop) [Decidable p] : b1 p ≤ 1 := by unfold b1; split <;> decide
theorem s8_118 {c r : Nat → Int} {a b : Nat} {M0 M : Mem} {k95 : Int → Int → Int → Mem → Prop} {Q : Int → Mem → Prop} (ha : a < 729) (hb : b < 64) (hL : LI c r M0 M) (h81 : ∀ g, g < 6 → M 81 g = (dA a g : Int)) (h82 : ∀ i, i < 3 → M 82 i = (dB b i : Int)) (hf : feas c r (dA a) (dB b)) (hS : stR c r (gN c) a b M)
    (h : ∀ M', LI c r M0 M' → M' 81 = M 81 → M' 87 = M 87 → stR c r (gN c) a (b + 1) M' → k95 (gN c) (a : Int) ((b : Int) + 1) M') : ∃ n2, wp_X8_lays_118 k95 Q n2 (gN c) (a : Int) (b : Int) 0 0 M := by
  have hs4 := dB_dig b
  have step : ∀ (n i : Nat) (x4 : Int), i < 3 → wp_X8_lays_118 k95 Q n (gN c) (a : Int) (b : Int) (x4 + (b1 (dB b i < 3) : Nat)) ((i : Int) + 1) M → wp_X8_lays_118 k95 Q (n + 1) (gN c) (a : Int) (b : Int) x4 (i : Int) M := by
    intro n i x4 hi hq
    have := hs4 i hi
    rw [wp_X8_lays_118, Int.toNat_natCast, h82 i hi]
    refine ⟨⟨by omega, by omega⟩, fun q => absurd q (by omega), fun _ => ⟨⟨by omega, by omega⟩, ⟨by omega, by omega⟩, fun q => ?_, fun q => ?_⟩⟩
    · rw [show b1 (dB b i < 3) = 0 from if_neg (by omega)] at hq; exact hq
    · rw [show b1 (dB b i < 3) = 1 from if_pos (by omega)] at hq; exact hq
  refine ⟨4, step 3 0 0 (by decide) (step 2 1 _ (by decide) (step 1 2 _ (by decide) ?_))⟩
  have e4 : (0 : Int) + (b1 (dB b 0 < 3) : Nat) + (b1 (dB b 1 < 3) : Nat) + (b1 (dB b 2 < 3) : Nat) = (shN (dB b) : Int) := by unfold shN; omega
  rw [e4, wp_X8_lays_118]
  refine ⟨by decide, fun _ => ?_, fun q => absurd (by decide) q⟩
  refine s8_heaps (s := dB b) (fun i hi => ⟨h82 i hi, hs4 i hi⟩) ?_
  have g6 := gN_rng c
  have hh := hp_sh hs4
  have new : (∀ d' s', feas c r d' s' → seen d' s' a b → rkS (dB b) < rkS s') → ∃ n2, wp_X8_lays_215 k95 Q n2 (gN c) (a : Int) (b : Int) 0 (up (up M 62 41 (gN c + (shN (dB b) : Int) - (hpN (dB b) : Int))) 62 42 (shN (dB b) : Int)) := by
    intro hlt
    have L2 := (hL.up62 (i := 41) (gN c + (shN (dB b) : Int) - (hpN (dB b) : Int)) (Or.inl rfl)).up62 (i := 42) (shN (dB b) : Int) (Or.inr rfl)
    have e41 : up (up M 62 41 (gN c + (shN (dB b) : Int) - (hpN (dB b) : Int))) 62 42 (shN (dB b) : Int) 62 41 = gN c + (shN (dB b) : Int) - (hpN (dB b) : Int) := rfl
    have e42 : up (up M 62 41 (gN c + (shN (dB b) : Int) - (hpN (dB b) : Int))) 62 42 (shN (dB b) : Int) 62 42 = (shN (dB b) : Int) := rfl
    have ek : ∀ k, k ≠ 62 → up (up M 62 41 (gN c + (shN (dB b) : Int) - (hpN (dB b) : Int))) 62 42 (shN (dB b) : Int) k = M k := fun k hk => by rw [up_ne _ _ _ hk, up_ne _ _ _ hk]
    generalize up (up M 62 41 (gN c + (shN (dB b) : Int) - (hpN (dB b) : Int))) 62 42 (shN (dB b) : Int) = M1 at *
    refine ⟨7, s8_215 (d := dA a) (s := dB b) (M0 := M1) (by rw [ek 81 (by decide)]; exact h81) (by rw [ek 82 (by decide)]; exact h82) (fun M' hK q1 q2 => ?_) 6 0 M1 rfl (frK.refl _ _ _) (fun j hj => absurd hj (by omega))⟩
    refine h M' (L2.K hK (by omega) (by omega)) (by rw [hK 81 (by decide) (by decide), ek 81 (by decide)]) (by rw [hK 87 (by decide) (by decide), ek 87 (by decide)]) (Or.inr ⟨dA a, dB b, hf, (seen_next ha hb hf).mpr (Or.inr ⟨fun _ _ => rfl, fun _ _ => rfl⟩), by rw [hK 62 (by decide) (by decide)]; exact e41, by rw [hK 62 (by decide) (by decide)]; exact e42, q1, q2, fun d' s' hf' hs' => ?_⟩)
    rcases (seen_next ha hb hf').mp hs' with w | ⟨w1, w2⟩
    · exact Or.inl (hlt d' s' hf' w)
    · have r1 := (rkS_cong w2).1
      have c1 : c3 d' = a := by
        rw [← c3_dA ha]
        unfold c3
        rw [w1 0 (by decide), w1 1 (by decide), w1 2 (by decide), w1 3 (by decide), w1 4 (by decide), w1 5 (by decide)]
      have c2 : cS s' = b := by
        rw [← cS_dB hb]
        unfold cS
        rw [w2 0 (by decide), w2 1 (by decide), w2 2 (by decide)]
      rw [c3_dA ha, cS_dB hb, c1, c2, r1]
      exact Or.inr ⟨rfl, Or.inr ⟨rfl, Nat.le_refl _⟩⟩
  rcases hS with ⟨e41, hn⟩ | ⟨d, s, f1, f2, e41, e42, f3, f4, f5⟩
  · rw [e41]
    exact ⟨by decide, fun _ => new (fun d' s' q w => absurd w (hn d' s' q)), fun q => absurd rfl q⟩
  · have hh2 := hp_sh f1.2.1
    rw [e41, e42]
    have better : rkS (dB b) < rkS s → ∀ d' s', feas c r d' s' → seen d' s' a b → rkS (dB b) < rkS s' := by
      intro hlt d' s' q w
      have := f5 d' s' q w
      unfold le3 at this
      omega
    have keep : rkS s ≤ rkS (dB b) → k95 (gN c) (a : Int) ((b : Int) + 1) M := by
      intro hle
      refine h M hL rfl rfl (Or.inr ⟨d, s, f1, (seen_next ha hb f1).mpr (Or.inl f2), e41, e42, f3, f4, fun d' s' hf' hs' => ?_⟩)
      rcases (seen_next ha hb hf').mp hs' with w | ⟨w1, w2⟩
      · exact f5 d' s' hf' w
      · have r1 := (rkS_cong w2).1
        have c1 : c3 d' = a := by
          rw [← c3_dA ha]
          unfold c3
          rw [w1 0 (by decide), w1 1 (by decide), w1 2 (by decide), w1 3 (by decide), w1 4 (by decide), w1 5 (by decide)]
        have c2 : cS s' = b := by
          rw [← cS_dB hb]
          unfold cS
          rw [w2 0 (by decide), w2 1 (by decide), w2 2 (by decide)]
        rw [c1, c2, r1]
        unfold seen at f2
        unfold le3
        omega
    unfold rkS at better keep
    refine ⟨⟨by omega, by omega⟩, fun q => absurd q (by omega), fun _ => ⟨⟨by omega, by omega⟩, ⟨by omega, by omega⟩, fun q => keep (by omega), fun q => ⟨⟨by omega, by omega⟩, ⟨by omega, by omega⟩, fun q2 => new (better (by omega)), fun q2 => ⟨⟨by omega, by omega⟩, ⟨by omega, by omega⟩, fun q3 => new (better (by omega)), fun q3 => keep (by omega)⟩⟩⟩⟩
theorem s8_95 {c r : Nat → Int} {a : Nat} {M0 : Mem} {k75 : Int → Int → Mem → Prop} {Q : Int → Mem → Prop} (ha : a < 729) (hz : ∀ g, g < 6 → c g = 0 → dA a g = 0)
    (h : ∀ M', LI c r M0 M' → stR c r (gN c) (a + 1) 0 M' → k75 (gN c) ((a : Int) + 1) M') :
    ∀ (k b : Nat) (M : Mem), b + k = 64 → LI c r M0 M → (∀ g, g < 6 → M 81 g = (dA a g : Int)) → (∀ h, h < 3 → M 87 h = ndH c (dA a) h) → stR c r (gN c) a b M → wp_X8_lays_95 k75 Q (k + 1) (gN c) (a : Int) (b : Int) M := by
  intro k
  induction k with
  | zero =>
    intro b M hb hL h81 h87 hS
    rw [wp_X8_lays_95]
    refine ⟨⟨by omega, by omega⟩, fun _ => h M hL (stR_skip (fun d s hf => ?_) hS), fun c => absurd (by omega) c⟩
    have := cS_lt hf.2.1
    unfold seen
    omega
  | succ k ih =>
    intro b M hb hL h81 h87 hS
    rw [wp_X8_lays_95]
    have nr : ∀ h, h < 3 → Rg (M 87 h) := fun h hh => by
      have := ndk_rng (c := c) (d := dA a) (h := h) 6 0 (fun j _ h2 => (hL.2.1 j (by omega)).2)
      rw [h87 h hh, ← ndk_6]
      exact ⟨by omega, by omega⟩
    refine ⟨⟨by omega, by omega⟩, fun q => absurd q (by omega), fun _ => ?_⟩
    refine s8_sheets (r := r) (b := b) rfl (by omega) hL.2.2 nr (fun M1 hK q82 qf => ?_) (fun M1 hK qf => ?_)
    · refine ⟨by decide, fun _ => ?_, fun q => absurd (by decide) q⟩
      have e81 : M1 81 = M 81 := hK 81 (by decide) (by decide)
      have e87 : M1 87 = M 87 := hK 87 (by decide) (by decide)
      have hf : feas c r (dA a) (dB b) := ⟨dA_dig a, dB_dig b, hz, fun h hh => by have := qf h hh; rw [h87 h hh] at this; exact this⟩
      refine s8_118 (M0 := M0) ha (by omega) (hL.K hK (by omega) (by omega)) (by rw [e81]; exact h81) q82 hf (stR_frame (hK 62 (by decide) (by decide)) (hK 83 (by decide) (by decide)) (hK 84 (by decide) (by decide)) hS) (fun M2 L2 f81 f87 hS2 => ?_)
      exact ih (b + 1) M2 (by omega) L2 (by rw [f81, e81]; exact h81) (by rw [f87, e87]; exact h87) hS2
    · refine ⟨by decide, fun q => absurd rfl q, fun _ => ?_⟩
      refine ih (b + 1) M1 (by omega) (hL.K hK (by omega) (by omega)) (by rw [hK 81 (by decide) (by decide)]; exact h81) (by rw [hK 87 (by decide) (by decide)]; exact h87) (stR_skip (fun d s hf => ?_) (stR_frame (hK 62 (by decide) (by decide)) (hK 83 (by decide) (by decide)) (hK 84 (by decide) (by decide)) hS))
      rw [seen_next ha (by omega) hf]
      constructor
      · rintro (w | ⟨w1, w2⟩)
        · exact w
        · refine absurd (fun h hh => ?_) qf
          rw [h87 h hh]
          exact (feas_cong w1 w2 hf).2.2.2 h hh
      · exact Or.inl
theorem s8_75 {c r : Nat → Int} {M0 : Mem} {Q : Int → Mem → Prop}
    (h0 : ∀ M', LI c r M0 M' → (∀ d s, ¬ feas c r d s) → Q 0 M')
    (h1 : ∀ M' d s, LI c r M0 M' → best c r d s → M' 62 41 = gN c + (shN s : Int) - (hpN s : Int) → M' 62 42 = (shN s : Int) → (∀ g, g < 6 → M' 83 g = (d g : Int)) → (∀ i, i < 3 → M' 84 i = (s i : Int)) → Q 1 M') :
    ∀ (k a : Nat) (M : Mem), a + k = 729 → LI c r M0 M → stR c r (gN c) a 0 M → wp_X8_lays_75 Q (k + 1) (gN c) (a : Int) M := by
  have g6 := gN_rng c
  intro k
  induction k with
  | zero =>
    intro a M ha hL hS
    have e : a = 729 := by omega
    subst e
    rw [wp_X8_lays_75]
    refine ⟨by decide, fun _ => ?_, fun c => absurd (by decide) c⟩
    have sn : ∀ d s, feas c r d s → seen d s 729 0 := fun d s hf => Or.inl (c3_lt hf.1)
    rcases hS with ⟨e41, hn⟩ | ⟨d, s, f1, f2, e41, e42, f3, f4, f5⟩
    · rw [e41]
      exact ⟨by decide, fun _ => h0 M hL (fun d s hf => hn d s hf (sn d s hf)), fun q => absurd rfl q⟩
    · have hh2 := hp_sh f1.2.1
      rw [e41]
      exact ⟨⟨by omega, by omega⟩, fun q => absurd q (by omega), fun _ => h1 M d s hL ⟨f1, fun d' s' hf' => f5 d' s' hf' (sn d' s' hf')⟩ e41 e42 f3 f4⟩
  | succ k ih =>
    intro a M ha hL hS
    rw [wp_X8_lays_75]
    refine ⟨⟨by omega, by omega⟩, fun q => absurd q (by omega), fun _ => ?_⟩
    refine s8_groups (c := c) (a := a) rfl (by omega) hL.2.1 (fun M1 hK hz q81 q87 => ?_) (fun M1 hK hz => ?_)
    · refine ⟨by decide, fun _ => ⟨65, ?_⟩, fun q => absurd (by decide) q⟩
      exact s8_95 (M0 := M0) (by omega) hz (fun M2 L2 hS2 => ih (a + 1) M2 (by omega) L2 hS2) 64 0 M1 rfl (hL.K hK (by omega) (by omega)) q81 q87 (stR_frame (hK 62 (by decide) (by decide)) (hK 83 (by decide) (by decide)) (hK 84 (by decide) (by decide)) hS)
    · refine ⟨by decide, fun q => absurd rfl q, fun _ => ?_⟩
      refine ih (a + 1) M1 (by omega) (hL.K hK (by omega) (by omega)) (stR_skip (fun d s hf => ?_) (stR_frame (hK 62 (by decide) (by decide)) (hK 83 (by decide) (by decide)) (hK 84 (by decide) (by decide)) hS))
      have ne : c3 d ≠ a := fun e => hz (fun g hg hc => by
        have := c3_inj hf.1 (dA_dig a) (by rw [c3_dA (by omega)]; exact e) g hg
        rw [← this]
        exact hf.2.2.1 g hg hc)
      unfold seen
      omega
/-- lays(): the best layout, if there is one -/
theorem s8_lays {B : Int} {M : Mem} {Q : Int → Mem → Prop} (hL : RLb B M) (hF : RFb M)
    (h0 : ∀ M', frL M M' → (∀ d s, ¬ feas (cwM M) (rmF (M 54)) d s) → Q 0 M')
    (h1 : ∀ M' d s, frL M M' → best (cwM M) (rmF (M 54)) d s → M' 62 41 = gN (cwM M) + (shN s : Int) - (hpN s : Int) → M' 62 42 = (shN s : Int) → (∀ g, g < 6 → M' 83 g = (d g : Int)) → (∀ i, i < 3 → M' 84 i = (s i : Int)) → Q 1 M') : wp_X8_lays M Q := by
  generalize hc : cwM M = c at *
  generalize hr : rmF (M 54) = r at *
  have c40 : ∀ g, g < 6 → M 52 g = c g ∧ 0 ≤ c g ∧ c g ≤ 40 := fun g hg => by
    have w := hL.2.2.2 g hg
    have w1 : M 52 g = cwF (M 51) (M 49) (nL M) g := w.1
    have wr := (cwF_rng (M 51) (M 49) (nL M) g).1
    rw [← hc]
    exact ⟨w.1, by unfold cwM; omega, by rw [← w.1]; exact w.2⟩
  have r40 : ∀ i, i < 3 → rmF (M 75) i = r i ∧ 0 ≤ r i ∧ r i ≤ 40 := fun i hi => by
    have := pcN_rng (M 54 i).toNat 40
    rw [← hr]
    unfold rmF
    rw [(hF i hi).1]
    exact ⟨rfl, this.1, this.2⟩
  have go75 : ∀ M1, frL M M1 → (∀ g, g < 6 → M1 85 g = c g) → (∀ i, i < 3 → M1 86 i = r i) → ∃ n2, wp_X8_lays_75 Q n2 (gN c) 0 (up M1 62 41 (-1)) := by
    intro M1 f1 q85 q86
    refine ⟨730, s8_75 (c := c) (r := r) (M0 := M) (fun M' L h => h0 M' L.1 h) (fun M' d s L => h1 M' d s L.1) 729 0 _ rfl ⟨f1.up62 _ (Or.inl rfl), fun g hg => ?_, fun i hi => ?_⟩ (Or.inl ⟨rfl, fun d s _ q => ?_⟩)⟩
    · rw [up_ne _ _ _ (by decide)]; exact ⟨q85 g hg, (c40 g hg).2.1, by have := (c40 g hg).2.2; omega⟩
    · rw [up_ne _ _ _ (by decide)]; exact ⟨q86 i hi, (r40 i hi).2⟩
    · unfold seen at q; omega
  have go46 : ∀ (k i : Nat) (M1 : Mem), i + k = 3 → frL M M1 → (∀ g, g < 6 → M1 85 g = c g) → (∀ j, j < i → M1 86 j = r j) → wp_X8_lays_46 Q (k + 1) (gN c) (i : Int) M1 := by
    intro k
    induction k with
    | zero =>
      intro i M1 hi f1 q85 q86
      rw [wp_X8_lays_46]
      exact ⟨⟨by omega, by omega⟩, fun _ => go75 M1 f1 q85 (fun j hj => q86 j (by omega)), fun q => absurd (by omega) q⟩
    | succ k ih =>
      intro i M1 hi f1 q85 q86
      rw [wp_X8_lays_46]
      have e75 : M1 75 = M 75 := funext (fun j => f1 75 j (by omega) (fun q => absurd q (by decide)))
      refine ⟨⟨by omega, by omega⟩, fun q => absurd q (by omega), fun _ => ?_⟩
      have hf := hF i (by omega)
      refine s8_freeOn (s := i) rfl (by omega) (by rw [e75, hf.1]; exact hf.2.1) (by rw [e75, hf.1]; exact hf.2.2) ⟨⟨by omega, by omega⟩, ?_⟩
      rw [e75, Int.toNat_natCast, (r40 i (by omega)).1]
      refine ih (i + 1) _ (by omega) (f1.up8 _ _ (by omega)) (fun g hg => by rw [up_ne _ _ _ (by decide)]; exact q85 g hg) (fun j hj => ?_)
      rw [up_same]
      by_cases e : j = i
      · subst e; rw [upr_at]
      · rw [upr_ne _ _ e]; exact q86 j (by omega)
  have go4 : ∀ (k i : Nat) (M1 : Mem), i + k = 6 → frL M M1 → (∀ g, g < i → M1 85 g = c g) → wp_X8_lays_4 Q (k + 1) (sm (fun g => if 0 < c g then 1 else 0) i) (i : Int) M1 := by
    intro k
    induction k with
    | zero =>
      intro i M1 hi f1 q85
      have e : i = 6 := by omega
      subst e
      rw [wp_X8_lays_4]
      exact ⟨by decide, fun _ => ⟨4, go46 3 0 M1 rfl f1 q85 (fun j hj => absurd hj (by omega))⟩, fun q => absurd (by decide) q⟩
    | succ k ih =>
      intro i M1 hi f1 q85
      rw [wp_X8_lays_4]
      refine ⟨⟨by omega, by omega⟩, fun q => absurd q (by omega), fun _ => ?_⟩
      have e1 : ∀ k, k < 62 ∨ (62 < k ∧ k < 81) → M1 k = M k := fun k hk => funext (fun j => f1 k j (by omega) (fun q => absurd q (by omega)))
      have e31 : M1 62 31 = M 62 31 := f1 62 31 (by omega) (fun _ => by decide)
      have L1 : RLb B M1 := by
        unfold RLb cwM nL at *
        rw [e1 48 (by omega), e1 49 (by omega), e1 50 (by omega), e1 51 (by omega), e1 52 (by omega), e1 78 (by omega), e1 79 (by omega), e1 80 (by omega), e31]
        exact hL
      refine s8_waiting L1 (by omega) (by omega) ?_
      have e52 : M1 52 = M 52 := e1 52 (by omega)
      have cg := c40 i (by omega)
      rw [e52, Int.toNat_natCast, cg.1, up_sn]
      have st := ih (i + 1) (up M1 85 i (c i)) (by omega) (f1.up8 _ _ (by omega)) (fun j hj => by
        rw [up_same]
        by_cases e : j = i
        · subst e; rw [upr_at]
        · rw [upr_ne _ _ e]; exact q85 j (by omega))
      rw [show sm (fun g => if 0 < c g then (1 : Int) else 0) (i + 1) = sm (fun g => if 0 < c g then (1 : Int) else 0) i + if 0 < c i then 1 else 0 from rfl] at st
      refine ⟨⟨by omega, by omega⟩, ⟨by omega, by omega⟩, ⟨by omega, by omega⟩, fun q => ?_, fun q => ?_⟩
      · rw [if_neg (by omega)] at st; exact st
      · rw [if_pos (by omega)] at st; exact st
  unfold wp_X8_lays
  exact ⟨7, go4 6 0 M rfl (frL.refl M) (fun j hj => absurd hj (by omega))⟩
