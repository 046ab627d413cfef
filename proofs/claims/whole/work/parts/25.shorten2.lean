/-! pure: shortenings, the reference's side -/
theorem s8_short_90 {B : Mem} {i n z : Nat} {Q : Int → Mem → Prop} (hi : i < 6) (hn6 : n ≤ 6) (hnz : n ≤ z) (hz : z - n ≤ 6)
    (h : ∀ g1 g2, (∀ p, p < 6 * i ∨ 6 * i + 6 ≤ p → g1 p = B 68 p ∧ g2 p = B 69 p) → (∀ j, j < n → g1 (6 * i + j) = B 64 j) → (∀ j, j < z - n → g2 (6 * i + j) = B 64 (n + j)) → Q 1 (set1 (set1 B 68 g1) 69 g2)) :
    ∀ (k x : Nat) (g1 g2 : Nat → Int), x + k = z → (∀ p, p < 6 * i ∨ 6 * i + 6 ≤ p → g1 p = B 68 p ∧ g2 p = B 69 p) → (∀ j, j < n → j < x → g1 (6 * i + j) = B 64 j) → (∀ j, n + j < x → g2 (6 * i + j) = B 64 (n + j)) → wp_X8_shorten_90 (i : Int) (n : Int) Q (k + 1) (z : Int) (x : Int) (set1 (set1 B 68 g1) 69 g2) := by
  intro k
  induction k with
  | zero =>
    intro x g1 g2 hx p0 p1 p2
    rw [wp_X8_shorten_90]
    exact ⟨⟨by omega, by omega⟩, ⟨by omega, by omega⟩, fun _ => h g1 g2 p0 (fun j hj => p1 j hj (by omega)) (fun j hj => p2 j (by omega)), fun c => absurd (by omega) c⟩
  | succ k ih =>
    intro x g1 g2 hx p0 p1 p2
    rw [wp_X8_shorten_90]
    have e64 : set1 (set1 B 68 g1) 69 g2 64 = B 64 := by rw [set1_ne _ _ (by decide), set1_ne _ _ (by decide)]
    refine ⟨⟨by omega, by omega⟩, ⟨by omega, by omega⟩, fun c => absurd c (by omega), fun _ => ⟨⟨by omega, by omega⟩, ⟨by omega, by omega⟩, fun c => ⟨⟨by omega, by omega⟩, ⟨by omega, by omega⟩, ?_⟩, fun c => ⟨⟨by omega, by omega⟩, ⟨by omega, by omega⟩, ?_⟩⟩⟩
    · rw [e64, Int.toNat_natCast, show (6 * (i : Int) + (x : Int) - (n : Int)).toNat = 6 * i + (x - n) by omega, up_set1, set1_a, set1_set]
      refine ih (x + 1) g1 _ (by omega) (fun p hp => ⟨(p0 p hp).1, by rw [upr_ne _ _ (by omega)]; exact (p0 p hp).2⟩) (fun j h1 h2 => p1 j h1 (by omega)) (fun j hj => ?_)
      rcases Nat.lt_or_ge (n + j) x with q | q
      · rw [upr_ne _ _ (by omega)]; exact p2 j q
      · rw [show 6 * i + j = 6 * i + (x - n) by omega, upr_at, show n + j = x by omega]
    · rw [e64, Int.toNat_natCast, show (6 * (i : Int) + (x : Int)).toNat = 6 * i + x by omega, up_set1, set1_ne _ _ (by decide), set1_a]
      have e : set1 (set1 (set1 B 68 g1) 69 g2) 68 (upr g1 (6 * i + x) (B 64 x)) = set1 (set1 B 68 (upr g1 (6 * i + x) (B 64 x))) 69 g2 := by
        funext a
        simp only [set1]
        by_cases h1 : a = 68
        · subst h1; simp
        · simp [h1]
      rw [e]
      refine ih (x + 1) _ g2 (by omega) (fun p hp => ⟨by rw [upr_ne _ _ (by omega)]; exact (p0 p hp).1, (p0 p hp).2⟩) (fun j h1 h2 => ?_) (fun j hj => absurd hj (by omega))
      rcases Nat.lt_or_ge j x with q | q
      · rw [upr_ne _ _ (by omega)]; exact p1 j h1 q
      · rw [show j = x by omega, upr_at]
theorem s8_areSigns_loop {B : Mem} {z : Nat} {Q : Int → Mem → Prop} (hz : z ≤ 200) (hR : ∀ j, j < z → 0 ≤ B 64 j ∧ B 64 j ≤ 255) (h1 : (∀ j, j < z → 32 ≤ B 64 j ∧ B 64 j ≤ 126) → Q 1 B) (h0 : ¬ (∀ j, j < z → 32 ≤ B 64 j ∧ B 64 j ≤ 126) → Q 0 B) :
    ∀ (k x : Nat) (v : Int), x + k = z → ((v = 1 ∧ ∀ j, j < x → 32 ≤ B 64 j ∧ B 64 j ≤ 126) ∨ (v = 0 ∧ ¬ ∀ j, j < z → 32 ≤ B 64 j ∧ B 64 j ≤ 126)) → wp_X8_areSigns_4 (z : Int) Q (k + 1) v (x : Int) B := by
  intro k
  induction k with
  | zero =>
    intro x v hx hv
    rw [wp_X8_areSigns_4]
    refine ⟨⟨by omega, by omega⟩, ⟨by omega, by omega⟩, fun _ => ?_, fun c => absurd (by omega) c⟩
    rcases hv with ⟨rfl, hv⟩ | ⟨rfl, hv⟩
    · exact ⟨Or.inr rfl, h1 (fun j hj => hv j (by omega))⟩
    · exact ⟨Or.inl rfl, h0 hv⟩
  | succ k ih =>
    intro x v hx hv
    rw [wp_X8_areSigns_4]
    have hr := hR x (by omega)
    have hvr : Rg v := by rcases hv with ⟨rfl, _⟩ | ⟨rfl, _⟩ <;> decide
    refine ⟨⟨by omega, by omega⟩, ⟨by omega, by omega⟩, fun c => absurd c (by omega), fun _ => ⟨hvr, fun c => ?_, fun c => ⟨⟨by omega, by omega⟩, ?_⟩⟩⟩
    · rcases hv with ⟨rfl, _⟩ | ⟨rfl, hv⟩
      · exact absurd c (by decide)
      · exact ih (x + 1) 0 (by omega) (Or.inr ⟨rfl, hv⟩)
    · rcases hv with ⟨rfl, hv⟩ | ⟨rfl, _⟩
      · rw [Int.toNat_natCast]
        refine s_isSign ⟨by omega, by omega⟩ (fun c1 c2 => ⟨by decide, fun c => absurd c (by decide), fun _ => ih (x + 1) 1 (by omega) (Or.inl ⟨rfl, fun j hj => ?_⟩)⟩) (fun c => ⟨by decide, fun _ => ih (x + 1) 0 (by omega) (Or.inr ⟨rfl, fun q => c (q x (by omega))⟩), fun c => absurd rfl c⟩)
        rcases Nat.lt_or_ge j x with q | q
        · exact hv j q
        · rw [show j = x by omega]; exact ⟨c1, c2⟩
      · exact absurd rfl c
theorem s8_areSigns {B : Mem} {z : Nat} {a : Int} {Q : Int → Mem → Prop} (ha : a = (z : Int)) (hz : z ≤ 200) (hR : ∀ j, j < z → 0 ≤ B 64 j ∧ B 64 j ≤ 255) (h1 : (∀ j, j < z → 32 ≤ B 64 j ∧ B 64 j ≤ 126) → Q 1 B) (h0 : ¬ (∀ j, j < z → 32 ≤ B 64 j ∧ B 64 j ≤ 126) → Q 0 B) : wp_X8_areSigns a B Q := by
  subst ha
  unfold wp_X8_areSigns
  exact ⟨z + 1, s8_areSigns_loop hz hR h1 h0 z 0 1 (by omega) (Or.inl ⟨rfl, fun j hj => absurd hj (by omega)⟩)⟩
theorem s8_short_38 {B : Mem} {i z : Nat} {n : Int} {Q : Int → Mem → Prop} (hi : i < 6) (hn : Rg n) (hz : z ≤ 200) (hR : ∀ j, j < z → 0 ≤ B 64 j ∧ B 64 j ≤ 255)
    (h1 : shC (B 64) (z : Int) n → ∀ g1 g2, (∀ p, p < 6 * i ∨ 6 * i + 6 ≤ p → g1 p = B 68 p ∧ g2 p = B 69 p) → (∀ j : Nat, (j : Int) < n → g1 (6 * i + j) = B 64 j) → (∀ j : Nat, (j : Int) < (z : Int) - n → g2 (6 * i + j) = B 64 (n.toNat + j)) → Q 1 (set1 (set1 (up (up B 66 i n) 67 i ((z : Int) - n)) 68 g1) 69 g2))
    (h0 : ¬ shC (B 64) (z : Int) n → Q 0 B) : wp_X8_shorten_38 (i : Int) n Q (z : Int) B := by
  have hb : (0 ≤ (i : Int) ∧ (i : Int) < 6) := ⟨by omega, by omega⟩
  unfold wp_X8_shorten_38
  refine s_isIn hn (by decide) (by decide) (fun c1 c2 => ⟨by decide, fun c => absurd c (by decide), fun _ => ⟨⟨by omega, by omega⟩, hn, fun c => h0 (fun q => by have := q.2.2.1; omega), fun c3 => ⟨⟨by omega, by omega⟩, fun c => h0 (fun q => by have := q.2.2.2.1; omega), fun c4 => ?_⟩⟩⟩) (fun c => ⟨by decide, fun _ => h0 (fun q => c ⟨q.1, q.2.1⟩), fun c => absurd rfl c⟩)
  refine s8_areSigns rfl hz hR (fun hd => ⟨by decide, fun _ => ⟨hb, hb, z + 1, ?_⟩, fun c => absurd (by decide) c⟩) (fun hd => ⟨by decide, fun c => absurd rfl c, fun _ => h0 (fun q => hd (fun j hj => q.2.2.2.2 j (by omega)))⟩)
  obtain ⟨m, rfl⟩ : ∃ m : Nat, n = (m : Int) := ⟨n.toNat, by omega⟩
  rw [Int.toNat_natCast]
  generalize hC : up (up B 66 i (m : Int)) 67 i ((z : Int) - (m : Int)) = C at *
  have c64 : C 64 = B 64 := by rw [← hC, up_ne _ _ _ (by decide), up_ne _ _ _ (by decide)]
  have c68 : C 68 = B 68 := by rw [← hC, up_ne _ _ _ (by decide), up_ne _ _ _ (by decide)]
  have c69 : C 69 = B 69 := by rw [← hC, up_ne _ _ _ (by decide), up_ne _ _ _ (by decide)]
  have := s8_short_90 (B := C) (i := i) (n := m) (z := z) (Q := Q) hi (by omega) (by omega) (by omega) (fun g1 g2 q0 q1 q2 => by
    rw [c68, c69] at q0
    rw [c64] at q1 q2
    exact h1 ⟨c1, c2, by omega, by omega, fun j hj => hd j (by omega)⟩ g1 g2 q0 (fun j hj => q1 j (by omega)) (fun j hj => by rw [Int.toNat_natCast]; exact q2 j (by omega))) z 0 (C 68) (C 69) (by omega) (fun p _ => ⟨rfl, rfl⟩) (fun j _ h => absurd h (by omega)) (fun j h => absurd h (by omega))
  have e : set1 (set1 C 68 (C 68)) 69 (C 69) = C := by rw [set1_self, set1_self]
  rw [e] at this
  exact this
