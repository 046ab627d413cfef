/-! pure: the tape: promises 3 and 13 -/
/-- slot s of cell c becomes n, the cell a becomes f -/
def setA (M : Mem) (c s : Nat) (n : Int) (a : Nat) (f : Nat → Int) : Mem := fun k => if k = c then upr (M c) s n else if k = a then f else M k
theorem setA_n (M : Mem) (c s : Nat) (n : Int) (a : Nat) (f : Nat → Int) : setA M c s n a f c s = n := by simp [setA, upr]
theorem setA_o (M : Mem) {c s t : Nat} (n : Int) (a : Nat) (f : Nat → Int) (h : t ≠ s) : setA M c s n a f c t = M c t := by simp [setA, upr, h]
theorem setA_a (M : Mem) {c a : Nat} (s : Nat) (n : Int) (f : Nat → Int) (h : a ≠ c) : setA M c s n a f a = f := by simp [setA, h]
theorem setA_ne (M : Mem) {c a k : Nat} (s : Nat) (n : Int) (f : Nat → Int) (h1 : k ≠ c) (h2 : k ≠ a) : setA M c s n a f k = M k := by simp [setA, h1, h2]
theorem setA_set (M : Mem) {c a : Nat} (s : Nat) (n n2 : Int) (f f2 : Nat → Int) (h : a ≠ c) : setA (setA M c s n a f) c s n2 a f2 = setA M c s n2 a f2 := by
  funext k
  simp only [setA]
  by_cases h1 : k = c
  · subst h1; simp [upr_upr]
  · by_cases h2 : k = a
    · subst h2; simp [h1]
    · simp [h1, h2]
theorem upr_self (r : Nat → Int) (i : Nat) : upr r i (r i) = r := by
  funext j
  simp only [upr]
  split
  · rename_i h; rw [h]
  · rfl
theorem setA_self (M : Mem) (c s a : Nat) : setA M c s (M c s) a (M a) = M := by
  funext k
  simp only [setA, upr_self]
  split
  · rename_i h; rw [h]
  · split
    · rename_i h; rw [h]
    · rfl
theorem up_up_A (M : Mem) {c a : Nat} (s i : Nat) (n v : Int) (h : a ≠ c) : up (up M a i v) c s n = setA M c s n a (upr (M a) i v) := by
  funext k
  simp only [up, setA]
  by_cases h1 : k = c
  · subst h1; simp [Ne.symm h]
  · by_cases h2 : k = a
    · subst h2; simp [h1]
    · simp [h1, h2]
theorem up_A (M : Mem) {c a : Nat} (s : Nat) (n : Int) (h : a ≠ c) : up M c s n = setA M c s n a (M a) := by
  funext k
  simp only [up, setA]
  by_cases h1 : k = c
  · subst h1; simp
  · by_cases h2 : k = a
    · subst h2; simp [h1]
    · simp [h1, h2]
def byU (a : Int) (i : Nat) : Int := bAnd (bUshr a ((24 - 8 * i : Nat) : Int)) 255
theorem s_feedBytes_loop {a : Int} {Q : Mem → Prop} : ∀ (k i : Nat) (M : Mem), i + k = 4 → rok M 0 → M 0 1 + k ≤ 200 →
    (∀ f, (∀ j : Nat, (j : Int) < M 0 1 → f j = M 1 j) → (∀ t : Nat, t < k → f ((M 0 1).toNat + t) = byU a (i + t)) → Q (setRow M 0 (M 0 1 + k) f)) → wp_X7_feedBytes_3 a Q (k + 1) (24 - 8 * (i : Int)) M := by
  intro k
  induction k with
  | zero =>
    intro i M hi hr hc h
    rw [wp_X7_feedBytes_3]
    refine ⟨⟨by omega, by omega⟩, fun _ => ?_, fun c => absurd (by omega) c⟩
    have := h (M 1) (fun _ _ => rfl) (fun t ht => absurd ht (by omega))
    have e : setRow M 0 (M 0 1 + ((0 : Nat) : Int)) (M 1) = M := by
      have := setA_self M 0 1 1
      rw [show M 0 1 + ((0 : Nat) : Int) = M 0 1 by omega]
      exact this
    rw [e] at this
    exact this
  | succ k ih =>
    intro i M hi hr hc h
    rw [wp_X7_feedBytes_3]
    have g1 := hr.1
    refine ⟨⟨by omega, by omega⟩, fun c => absurd c (by omega), fun _ => ?_⟩
    have hcap : (capR 0 : Int) = 200 := rfl
    refine s_add hr (fun c => ?_) (fun c => absurd (by omega) c)
    have e0 : (24 - 8 * (i : Int)) = ((24 - 8 * i : Nat) : Int) := by omega
    rw [e0]
    generalize hM2 : setRow M 0 (M 0 1 + 1) (upr (M (0 + 1)) (M 0 1).toNat (bAnd (bUshr a ((24 - 8 * i : Nat) : Int)) 255)) = M2
    have e1 : M2 0 1 = M 0 1 + 1 := by rw [← hM2, setRow_n]
    have e2 : M2 1 = upr (M 1) (M 0 1).toNat (byU a i) := by rw [← hM2]; exact setRow_a M 0 _ _
    have := ih (i + 1) M2 (by omega) (by unfold rok; rw [e1, hcap]; omega) (by rw [e1]; omega) (fun f hf1 hf2 => by
      rw [e1] at hf1 hf2 ⊢
      rw [e2] at hf1
      have := h f (fun j hj => by rw [hf1 j (by omega), upr_ne _ _ (by omega)]) (fun t ht => by
        cases t with
        | zero =>
          rw [Nat.add_zero, hf1 _ (by omega), upr_at]
          rfl
        | succ t =>
          have := hf2 t (by omega)
          rw [show (M 0 1).toNat + (t + 1) = (M 0 1 + 1).toNat + t by omega, this]
          congr 1
          omega)
      rw [← hM2, setRow_set, show M 0 1 + 1 + (k : Int) = M 0 1 + ((k + 1 : Nat) : Int) by omega]
      exact this)
    rw [show ((24 - 8 * i : Nat) : Int) + (-8) = 24 - 8 * ((i + 1 : Nat) : Int) by omega]
    exact this
theorem s_feedBytes {a : Int} {M : Mem} {Q : Mem → Prop} (hr : rok M 0) (hc : M 0 1 + 4 ≤ 200) (h : ∀ f, (∀ j : Nat, (j : Int) < M 0 1 → f j = M 1 j) → (∀ t : Nat, t < 4 → f ((M 0 1).toNat + t) = byU a t) → Q (setRow M 0 (M 0 1 + 4) f)) : wp_X7_feedBytes a M Q := by
  unfold wp_X7_feedBytes
  refine ⟨5, ?_⟩
  have := s_feedBytes_loop (a := a) (Q := Q) 4 0 M rfl hr hc (fun f h1 h2 => h f h1 (fun t ht => by have := h2 t ht; rw [Nat.zero_add] at this; exact this))
  exact this
/-- byte k of the five numbers -/
def fvN (a1 a2 a3 a4 a5 : Int) (k : Nat) : Int := if k < 4 then a1 else if k < 8 then a2 else if k < 12 then a3 else if k < 16 then a4 else a5
def by5 (a1 a2 a3 a4 a5 : Int) (k : Nat) : Int := byU (fvN a1 a2 a3 a4 a5 k) (k % 4)
theorem by5_rng (a1 a2 a3 a4 a5 : Int) (k : Nat) : 0 ≤ by5 a1 a2 a3 a4 a5 k ∧ by5 a1 a2 a3 a4 a5 k ≤ 255 := bAnd_255 _
theorem s7_feed {a1 a2 a3 a4 a5 : Int} {M : Mem} {Q : Int → Mem → Prop} (hr : rok M 0) (h1 : ∀ f, M 0 1 + 20 ≤ 200 → (∀ j : Nat, (j : Int) < M 0 1 → f j = M 1 j) → (∀ k : Nat, k < 20 → f ((M 0 1).toNat + k) = by5 a1 a2 a3 a4 a5 k) → Q (M 0 1 + 20) (setRow M 0 (M 0 1 + 20) f)) (h0 : ¬ M 0 1 + 20 ≤ 200 → Q (-1) M) : wp_X7_feed a1 a2 a3 a4 a5 M Q := by
  have g0 := hr.1
  have g1 := hr.2
  have hcap : (capR 0 : Int) = 200 := rfl
  unfold wp_X7_feed wp_X4_size
  refine ⟨⟨by omega, by omega⟩, fun c => ?_, h0⟩
  refine s_feedBytes hr (by omega) (fun f1 p1 q1 => ?_)
  refine s_feedBytes (by unfold rok; rw [setRow_n, hcap]; omega) (by rw [setRow_n]; omega) (fun f2 p2 q2 => ?_)
  rw [setRow_n] at p2 q2 ⊢
  rw [setRow_set]
  refine s_feedBytes (by unfold rok; rw [setRow_n, hcap]; omega) (by rw [setRow_n]; omega) (fun f3 p3 q3 => ?_)
  rw [setRow_n] at p3 q3 ⊢
  rw [setRow_set]
  refine s_feedBytes (by unfold rok; rw [setRow_n, hcap]; omega) (by rw [setRow_n]; omega) (fun f4 p4 q4 => ?_)
  rw [setRow_n] at p4 q4 ⊢
  rw [setRow_set]
  refine s_feedBytes (by unfold rok; rw [setRow_n, hcap]; omega) (by rw [setRow_n]; omega) (fun f5 p5 q5 => ?_)
  rw [setRow_n] at p5 q5 ⊢
  rw [setRow_set, setRow_n]
  have e1 : ∀ (n : Int) (f : Nat → Int), setRow M 0 n f 1 = f := fun n f => setRow_a M 0 n f
  simp only [e1] at p2 p3 p4 p5
  rw [show M 0 1 + 4 + 4 + 4 + 4 + 4 = M 0 1 + 20 by omega]
  refine h1 f5 c (fun j hj => ?_) (fun k hk => ?_)
  · rw [p5 j (by omega), p4 j (by omega), p3 j (by omega), p2 j (by omega), p1 j hj]
  · unfold by5 fvN
    by_cases c1 : k < 4
    · rw [if_pos c1, p5 _ (by omega), p4 _ (by omega), p3 _ (by omega), p2 _ (by omega), q1 k c1, Nat.mod_eq_of_lt c1]
    · rw [if_neg c1]
      by_cases c2 : k < 8
      · rw [if_pos c2, p5 _ (by omega), p4 _ (by omega), p3 _ (by omega), show (M 0 1).toNat + k = (M 0 1 + 4).toNat + (k - 4) by omega, q2 _ (by omega), show k % 4 = k - 4 by omega]
      · rw [if_neg c2]
        by_cases c3 : k < 12
        · rw [if_pos c3, p5 _ (by omega), p4 _ (by omega), show (M 0 1).toNat + k = (M 0 1 + 4 + 4).toNat + (k - 8) by omega, q3 _ (by omega), show k % 4 = k - 8 by omega]
        · rw [if_neg c3]
          by_cases c4 : k < 16
          · rw [if_pos c4, p5 _ (by omega), show (M 0 1).toNat + k = (M 0 1 + 4 + 4 + 4).toNat + (k - 12) by omega, q4 _ (by omega), show k % 4 = k - 12 by omega]
          · rw [if_neg c4, show (M 0 1).toNat + k = (M 0 1 + 4 + 4 + 4 + 4).toNat + (k - 16) by omega, q5 _ (by omega), show k % 4 = k - 16 by omega]
theorem s8_feed_step {a1 a2 a3 a4 a5 : Int} {Q : Int → Mem → Prop} {n i : Nat} {M : Mem} (hi : i < 20) (h : wp_X8_feed_71 a1 a2 a3 a4 a5 (fun x6 M => wp_X8_feed_18 a1 a2 a3 a4 a5 Q n x6 M) Q (i : Int) (fvN a1 a2 a3 a4 a5 i) M) : wp_X8_feed_18 a1 a2 a3 a4 a5 Q (n + 1) (i : Int) M := by
  rw [wp_X8_feed_18]
  have hr : Rg (i : Int) := ⟨by omega, by omega⟩
  unfold fvN at h
  refine ⟨hr, fun c => absurd c (by omega), fun _ => ⟨hr, fun c1 => ⟨hr, fun c2 => ⟨hr, fun c3 => ⟨hr, fun c4 => ?_, fun c4 => ?_⟩, fun c3 => ?_⟩, fun c2 => ?_⟩, fun c1 => ?_⟩⟩
  · rw [if_neg (by omega), if_neg (by omega), if_neg (by omega), if_neg (by omega)] at h; exact h
  · rw [if_neg (by omega), if_neg (by omega), if_neg (by omega), if_pos (by omega)] at h; exact h
  · rw [if_neg (by omega), if_neg (by omega), if_pos (by omega)] at h; exact h
  · rw [if_neg (by omega), if_pos (by omega)] at h; exact h
  · rw [if_pos (by omega)] at h; exact h
theorem s8_feed_loop {a1 a2 a3 a4 a5 : Int} {Q : Int → Mem → Prop} : ∀ (k i : Nat) (M : Mem), i + k = 20 → 0 ≤ M 62 3 → M 62 3 + k ≤ 200 →
    (∀ f, (∀ j : Nat, (j : Int) < M 62 3 → f j = M 64 j) → (∀ t : Nat, t < k → f ((M 62 3).toNat + t) = by5 a1 a2 a3 a4 a5 (i + t)) → Q (M 62 3 + k) (setA M 62 3 (M 62 3 + k) 64 f)) → wp_X8_feed_18 a1 a2 a3 a4 a5 Q (k + 1) (i : Int) M := by
  intro k
  induction k with
  | zero =>
    intro i M hi h0 hc h
    rw [wp_X8_feed_18]
    refine ⟨⟨by omega, by omega⟩, fun _ => ?_, fun c => absurd (by omega) c⟩
    have := h (M 64) (fun _ _ => rfl) (fun t ht => absurd ht (by omega))
    rw [show M 62 3 + ((0 : Nat) : Int) = M 62 3 by omega, setA_self] at this
    exact this
  | succ k ih =>
    intro i M hi h0 hc h
    refine s8_feed_step (by omega) ?_
    unfold wp_X8_feed_71
    refine ⟨⟨⟨by omega, by omega⟩, by omega⟩, ⟨by omega, by omega⟩, ?_⟩
    have e0 : (24 - 8 * ((i : Int) % 4)) = ((24 - 8 * (i % 4) : Nat) : Int) := by omega
    have ev : bAnd (bShr (fvN a1 a2 a3 a4 a5 i) (24 - 8 * ((i : Int) % 4))) 255 = by5 a1 a2 a3 a4 a5 i := by
      rw [e0, ← byte_eq _ _ (by omega)]
      rfl
    rw [ev, up_ne M _ _ (by decide), up_up_A M 3 _ _ _ (by decide)]
    generalize hM2 : setA M 62 3 (M 62 3 + 1) 64 (upr (M 64) (M 62 3).toNat (by5 a1 a2 a3 a4 a5 i)) = M2
    have e1 : M2 62 3 = M 62 3 + 1 := by rw [← hM2, setA_n]
    have e2 : M2 64 = upr (M 64) (M 62 3).toNat (by5 a1 a2 a3 a4 a5 i) := by rw [← hM2, setA_a _ _ _ _ (by decide)]
    have := ih (i + 1) M2 (by omega) (by omega) (by omega) (fun f hf1 hf2 => by
      rw [e1] at hf1 hf2 ⊢
      rw [e2] at hf1
      have := h f (fun j hj => by rw [hf1 j (by omega), upr_ne _ _ (by omega)]) (fun t ht => by
        cases t with
        | zero =>
          rw [Nat.add_zero, hf1 _ (by omega), upr_at]
          rfl
        | succ t =>
          have := hf2 t (by omega)
          rw [show (M 62 3).toNat + (t + 1) = (M 62 3 + 1).toNat + t by omega, this]
          congr 1
          omega)
      rw [← hM2, setA_set _ _ _ _ _ _ (by decide), show M 62 3 + 1 + (k : Int) = M 62 3 + ((k + 1 : Nat) : Int) by omega]
      exact this)
    exact this
theorem op_feed {a1 a2 a3 a4 a5 : Int} {M : Mem} {G : Prop → Prop} {P : Int → Int → Mem → Prop} (hG : ∀ p, p → G p) (hR : RelA M) (h : ∀ r M', Rg r → RelA M' → SameB M M' → P r r M') : wp_X7_feed a1 a2 a3 a4 a5 M (fun r1 M1 => G (wp_X8_feed a1 a2 a3 a4 a5 M1 (fun r2 M2 => P r1 r2 M2))) := by
  have hR0 := hR
  obtain ⟨⟨t1, t2, t3, t4⟩, ho, hw, hs, hv, hx⟩ := hR
  refine s7_feed (rok0 hR0) (fun f c p q => hG _ ?_) (fun c => hG _ ?_)
  · unfold wp_X8_feed
    have e : setRow M 0 (M 0 1 + 20) f 62 = M 62 := setRow_ne M _ _ (by decide) (by decide)
    have e64 : setRow M 0 (M 0 1 + 20) f 64 = M 64 := setRow_ne M _ _ (by decide) (by decide)
    rw [e, t3]
    refine ⟨⟨by omega, by omega⟩, fun _ => ⟨21, ?_⟩, fun q => absurd c q⟩
    refine s8_feed_loop 20 0 _ rfl (by rw [e, t3]; exact t1) (by rw [e, t3]; exact c) (fun g p2 q2 => ?_)
    rw [e, t3] at p2 q2 ⊢
    rw [e64] at p2
    refine h _ _ ⟨by omega, by omega⟩ ⟨⟨?_, ?_, ?_, ?_⟩, ho, hw, RS_congr (M := M) (fun k _ _ => ?_) rfl rfl rfl rfl rfl hs, hv, RX_congr (M := M) rfl rfl rfl rfl rfl rfl rfl rfl hx⟩ ⟨fun k q1 q2 => ?_, fun k q => ?_, rfl⟩
    · show 0 ≤ M 0 1 + 20; omega
    · show M 0 1 + 20 ≤ 200; exact c
    · rfl
    · intro j hj
      have hj2 : (j : Int) < M 0 1 + 20 := hj
      show g j = f j ∧ 0 ≤ f j ∧ f j ≤ 255
      by_cases hc : (j : Int) < M 0 1
      · rw [p2 j hc, p j hc]
        exact t4 j hc
      · have e3 : j = (M 0 1).toNat + (j - (M 0 1).toNat) := by omega
        have g1 := q (j - (M 0 1).toNat) (by omega)
        have g2 := q2 (j - (M 0 1).toNat) (by omega)
        rw [Nat.zero_add, ← e3] at g2
        rw [← e3] at g1
        rw [g1, g2]
        exact ⟨rfl, by5_rng _ _ _ _ _ _⟩
    · rw [setA_ne _ _ _ _ (by omega) (by omega), setRow_ne _ _ _ (by omega) (by omega)]
    · rw [setA_ne _ _ _ _ (by omega) (by omega), setRow_ne _ _ _ (by omega) (by omega)]
    · rw [setA_ne _ _ _ _ (by omega) (by omega), setRow_ne _ _ _ (by omega) (by omega)]
  · unfold wp_X8_feed
    rw [t3]
    exact ⟨⟨by omega, by omega⟩, fun q => absurd q c, fun _ => h _ M (by decide) hR0 (SameB.refl M)⟩
/-! promise 13 -/
/-- a row of one array copied into another, from place i on -/
theorem s8_take_loop {Q : Int → Mem → Prop} : ∀ (k i : Nat) (M : Mem), ((i + k : Nat) : Int) = M 62 4 → M 62 4 ≤ 67 →
    (∀ f, (∀ j : Nat, j < i → f j = M 64 j) → (∀ j : Nat, i ≤ j → j < i + k → f j = M 65 j) → Q (M 62 4) (setA M 62 3 (M 62 3) 64 f)) → wp_X8_take_10 Q (k + 1) (i : Int) M := by
  intro k
  induction k with
  | zero =>
    intro i M hi hc h
    rw [wp_X8_take_10]
    refine ⟨⟨by omega, by omega⟩, ⟨by omega, by omega⟩, fun _ => ?_, fun c => absurd (by omega) c⟩
    have := h (M 64) (fun _ _ => rfl) (fun j h1 h2 => absurd h2 (by omega))
    rw [setA_self] at this
    exact this
  | succ k ih =>
    intro i M hi hc h
    rw [wp_X8_take_10]
    refine ⟨⟨by omega, by omega⟩, ⟨by omega, by omega⟩, fun c => absurd c (by omega), fun _ => ⟨⟨by omega, by omega⟩, ⟨by omega, by omega⟩, ?_⟩⟩
    rw [Int.toNat_natCast]
    generalize hM2 : up M 64 i (M 65 i) = M2
    have e1 : M2 62 = M 62 := by rw [← hM2]; exact up_ne M _ _ (by decide)
    have e2 : M2 64 = upr (M 64) i (M 65 i) := by rw [← hM2]; exact up_same M 64 i _
    have e3 : M2 65 = M 65 := by rw [← hM2]; exact up_ne M _ _ (by decide)
    have := ih (i + 1) M2 (by rw [e1]; omega) (by rw [e1]; exact hc) (fun f hf1 hf2 => by
      rw [e1]
      rw [e2] at hf1
      rw [e3] at hf2
      have := h f (fun j hj => by rw [hf1 j (by omega), upr_ne _ _ (by omega)]) (fun j h1 h2 => by
        rcases Nat.lt_or_ge j (i + 1) with h3 | h3
        · rw [show j = i by omega, hf1 i (by omega), upr_at]
        · exact hf2 j h3 (by omega))
      have e4 : setA M2 62 3 (M 62 3) 64 f = setA M 62 3 (M 62 3) 64 f := by
        funext k
        simp only [setA, e1]
        split
        · rfl
        · split
          · rfl
          · rename_i h1 h2
            rw [← hM2, up_ne M _ _ h2]
      rw [e4]
      exact this)
    exact this
theorem op_take {M : Mem} {G : Prop → Prop} {P : Int → Int → Mem → Prop} (hG : ∀ p, p → G p) (hR : RelA M) (h : ∀ r M', Rg r → RelA M' → SameB M M' → P r r M') : wp_X7_take M (fun r1 M1 => G (wp_X8_take M1 (fun r2 M2 => P r1 r2 M2))) := by
  have hR0 := hR
  obtain ⟨ht, ⟨t1, t2, t3, t4⟩, hw, hs, hv, hx⟩ := hR
  have hcap : (capR 0 : Int) = 200 := rfl
  unfold wp_X7_take
  refine s_copyFrom (by decide) (by decide) (by decide) (rok2 hR0) (by omega) (fun f p => ?_)
  unfold wp_X4_size
  rw [setRow_n]
  refine hG _ ?_
  unfold wp_X8_take
  have e62 : setRow M 0 (M 2 1) f 62 = M 62 := setRow_ne M _ _ (by decide) (by decide)
  have e65 : setRow M 0 (M 2 1) f 65 = M 65 := setRow_ne M _ _ (by decide) (by decide)
  generalize hM1 : setRow M 0 (M 2 1) f = M1 at e62 e65
  rw [e62, t3]
  generalize hM2 : up M1 62 3 (M 2 1) = M2
  have f62 : M2 62 = upr (M 62) 3 (M 2 1) := by rw [← hM2, up_same, e62]
  have f65 : M2 65 = M 65 := by rw [← hM2, up_ne _ _ _ (by decide), e65]
  have f624 : M2 62 4 = M 2 1 := by rw [f62, upr_ne _ _ (by decide), t3]
  refine ⟨(M 2 1).toNat + 1, s8_take_loop (M 2 1).toNat 0 M2 (by rw [f624]; omega) (by rw [f624]; exact t2) (fun g _ hg => ?_)⟩
  rw [f624, f65] at *
  have e3 : M2 62 3 = M 2 1 := by rw [f62, upr_at]
  rw [e3]
  have e4 : setA M2 62 3 (M 2 1) 64 g = setA (setRow M 0 (M 2 1) f) 62 3 (M 2 1) 64 g := by
    funext k
    simp only [setA, f62, hM1, e62, upr_upr]
    split
    · rfl
    · split
      · rfl
      · rename_i h1 h2
        rw [← hM2, up_ne _ _ _ h1]
  rw [e4]
  refine h _ _ ⟨by omega, by omega⟩ ⟨⟨?_, ?_, ?_, ?_⟩, ⟨t1, t2, t3, t4⟩, hw, RS_congr (M := M) (fun k _ _ => ?_) rfl rfl rfl rfl rfl hs, hv, RX_congr (M := M) rfl rfl rfl rfl rfl rfl rfl rfl hx⟩ ⟨fun k q1 q2 => ?_, fun k q => ?_, rfl⟩
  · exact t1
  · show M 2 1 ≤ 200; omega
  · rfl
  · intro j hj
    have hj2 : (j : Int) < M 2 1 := hj
    show g j = f j ∧ 0 ≤ f j ∧ f j ≤ 255
    have g1 := t4 j hj2
    rw [hg j (by omega) (by omega), p j hj2]
    exact g1
  · rw [setA_ne _ _ _ _ (by omega) (by omega), setRow_ne _ _ _ (by omega) (by omega)]
  · rw [setA_ne _ _ _ _ (by omega) (by omega), setRow_ne _ _ _ (by omega) (by omega)]
  · rw [setA_ne _ _ _ _ (by omega) (by omega), setRow_ne _ _ _ (by omega) (by omega)]
