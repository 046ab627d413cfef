/-! pure: read(), the reference -/
def F8r (M M' : Mem) : Prop := ∀ k j, k ≠ 65 → k ≠ 73 → k ≠ 74 → (k = 62 → j ≠ 3 ∧ j ≠ 4 ∧ (j < 21 ∨ 27 < j)) → M' k j = M k j
theorem F8r.refl (M : Mem) : F8r M M := fun _ _ _ _ _ _ => rfl
theorem F8r.up62 {M M' : Mem} (h : F8r M M') {i : Nat} (v : Int) (hi : i = 3 ∨ i = 4 ∨ (21 ≤ i ∧ i ≤ 27)) : F8r M (up M' 62 i v) := by
  intro k j h1 h2 h3 h4
  by_cases c : k = 62
  · subst c
    have := h4 rfl
    rw [up_snn _ _ _ (by omega)]
    exact h _ _ h1 h2 h3 h4
  · rw [up_ne _ _ _ c]
    exact h _ _ h1 h2 h3 h4
theorem F8r.set {M M' : Mem} (h : F8r M M') {a : Nat} (f : Nat → Int) (ha : a = 65 ∨ a = 74) : F8r M (set1 M' a f) := by
  intro k j h1 h2 h3 h4
  rw [set1_ne _ _ (by omega)]
  exact h _ _ h1 h2 h3 h4
theorem F8r.fr8 {M M' M'' : Mem} (h : F8r M M') (h2 : fr8 M' M'') : F8r M M'' := by
  intro k j a b c d
  rw [h2 k j b (fun e => by have := d e; omega)]
  exact h k j a b c d
theorem s8_read_178 {B : Mem} {m : Nat} {Q : Int → Mem → Prop} (hm : B 62 21 = (m : Int)) (hm12 : m ≤ 12) (h : ∀ f, (∀ j, j < m → f j = 48 + B 73 j) → Q (m : Int) (set1 B 65 f)) :
    ∀ (k i : Nat) (f : Nat → Int), i + k = m → (∀ j, j < i → f j = 48 + B 73 j) → wp_X8_read_178 Q (k + 1) (i : Int) (set1 B 65 f) := by
  intro k
  induction k with
  | zero =>
    intro i f hi hf
    rw [wp_X8_read_178, set1_ne _ _ (show 62 ≠ 65 by decide), hm]
    refine ⟨⟨by omega, by omega⟩, ⟨by omega, by omega⟩, fun _ => h f (fun j hj => hf j (by omega)), fun c => absurd (by omega) c⟩
  | succ k ih =>
    intro i f hi hf
    rw [wp_X8_read_178, set1_ne _ _ (show 62 ≠ 65 by decide), hm]
    refine ⟨⟨by omega, by omega⟩, ⟨by omega, by omega⟩, fun c => absurd c (by omega), fun _ => ⟨⟨by omega, by omega⟩, ⟨by omega, by omega⟩, ?_⟩⟩
    rw [up_set1, set1_set, set1_a, Int.toNat_natCast, set1_ne _ _ (show 73 ≠ 65 by decide)]
    refine ih (i + 1) _ (by omega) (fun j hj => ?_)
    rcases Nat.lt_or_ge j i with c | c
    · rw [upr_ne _ _ (by omega)]; exact hf j c
    · rw [show j = i by omega, upr_at]
theorem s8_read_66 {B : Mem} {z : Nat} {Q : Int → Mem → Prop} (hz : B 62 22 = (z : Int)) (hz67 : z ≤ 67) (hR : ∀ j, j < z → 0 ≤ B 64 j ∧ B 64 j ≤ 255)
    (h1 : ∀ f, (∀ j, j < z → 1 ≤ B 64 j ∧ B 64 j ≤ 99) → (∀ j, j < z → f j = B 64 j) → wp_X8_read_109 Q 1 (set1 B 74 f)) (h0 : ∀ f, ¬ (∀ j, j < z → 1 ≤ B 64 j ∧ B 64 j ≤ 99) → wp_X8_read_109 Q 0 (set1 B 74 f)) :
    ∀ (k i : Nat) (f : Nat → Int), i + k = z → (∀ j, j < i → f j = B 64 j ∧ 1 ≤ B 64 j ∧ B 64 j ≤ 99) → wp_X8_read_66 Q (k + 2) 1 (i : Int) (set1 B 74 f) := by
  intro k
  induction k with
  | zero =>
    intro i f hi hf
    rw [wp_X8_read_66, set1_ne _ _ (show 62 ≠ 74 by decide), hz]
    refine ⟨⟨by omega, by omega⟩, ⟨by omega, by omega⟩, fun _ => h1 f (fun j hj => (hf j (by omega)).2) (fun j hj => (hf j (by omega)).1), fun c => absurd (by omega) c⟩
  | succ k ih =>
    intro i f hi hf
    rw [wp_X8_read_66, set1_ne _ _ (show 62 ≠ 74 by decide), hz]
    have r := hR i (by omega)
    refine ⟨⟨by omega, by omega⟩, ⟨by omega, by omega⟩, fun c => absurd c (by omega), fun _ => ⟨by decide, fun c => absurd c (by decide), fun _ => ⟨⟨by omega, by omega⟩, ⟨by omega, by omega⟩, ⟨by omega, by omega⟩, ?_⟩⟩⟩
    rw [up_set1, set1_set, set1_a, Int.toNat_natCast, set1_ne _ _ (show 64 ≠ 74 by decide), set1_ne _ _ (show 64 ≠ 74 by decide)]
    refine s_isIn ⟨by omega, by omega⟩ (by decide) (by decide) (fun c1 c2 => ?_) (fun c => ?_)
    · refine ih (i + 1) _ (by omega) (fun j hj => ?_)
      rcases Nat.lt_or_ge j i with c | c
      · rw [upr_ne _ _ (by omega)]; exact hf j c
      · rw [show j = i by omega, upr_at]; exact ⟨rfl, c1, c2⟩
    · rw [wp_X8_read_66, set1_ne _ _ (show 62 ≠ 74 by decide), hz]
      have g := h0 (upr f i (B 64 i)) (fun q => c (q i (by omega)))
      exact ⟨⟨by omega, by omega⟩, ⟨by omega, by omega⟩, fun _ => g, fun _ => ⟨by decide, fun _ => g, fun q => absurd rfl q⟩⟩
theorem s8_read {z : Nat} {M : Mem} {Q : Int → Mem → Prop} (hz : M 62 3 = (z : Int)) (hz200 : z ≤ 200) (hR : ∀ j, j < z → 0 ≤ M 64 j ∧ M 64 j ≤ 255)
    (hbad : ∀ M', ¬ rdC (M 64) z → F8r M M' → M' 62 3 = 0 → M' 62 23 = 1 → M' 62 25 = 0 → M' 62 24 = 0 → M' 62 4 = M 62 4 → M' 65 = M 65 → Q (-1) M')
    (hno : ∀ M' P k p k' p', rdC (M 64) z → z = 7 + 10 * P → rdIs (wt8 (M 64) z 0) P k p → k ≠ 0 → rdIs (wt8 (M 64) z 1) P k' p' → k' ≠ 0 → F8r M M' → M' 62 3 = 0 → M' 62 23 = k → M' 62 25 = p → M' 62 24 = 0 → M' 62 4 = M 62 4 → M' 65 = M 65 → Q (-1) M')
    (hok : ∀ M' P b, rdC (M 64) z → z = 7 + 10 * P → rdIs (wt8 (M 64) z b) P 0 (-1) → (b = 0 ∨ (b = 1 ∧ ∃ k p, k ≠ 0 ∧ rdIs (wt8 (M 64) z 0) P k p)) → F8r M M' → M' 62 3 = 0 → M' 62 23 = 0 → M' 62 25 = -1 → M' 62 24 = b → M' 62 4 = ((2 * P : Nat) : Int) → (∀ j, j < 2 * P → M' 65 j = 48 + dgt (wt8 (M 64) z b) j) → Q ((2 * P : Nat) : Int) M') : wp_X8_read M Q := by
  unfold wp_X8_read
  have hF : F8r M (up (up (up (up (up M 62 22 (M 62 3)) 62 3 0) 62 23 0) 62 25 (-1)) 62 24 0) := ((((((F8r.refl M).up62 _ (by omega)).up62 _ (by omega)).up62 _ (by omega)).up62 _ (by omega)).up62 _ (by omega))
  have b3 : up (up (up (up (up M 62 22 (M 62 3)) 62 3 0) 62 23 0) 62 25 (-1)) 62 24 0 62 3 = 0 := rfl
  have b4 : up (up (up (up (up M 62 22 (M 62 3)) 62 3 0) 62 23 0) 62 25 (-1)) 62 24 0 62 4 = M 62 4 := rfl
  have b22 : up (up (up (up (up M 62 22 (M 62 3)) 62 3 0) 62 23 0) 62 25 (-1)) 62 24 0 62 22 = (z : Int) := hz
  have b23 : up (up (up (up (up M 62 22 (M 62 3)) 62 3 0) 62 23 0) 62 25 (-1)) 62 24 0 62 23 = 0 := rfl
  have b25 : up (up (up (up (up M 62 22 (M 62 3)) 62 3 0) 62 23 0) 62 25 (-1)) 62 24 0 62 25 = -1 := rfl
  have b24 : up (up (up (up (up M 62 22 (M 62 3)) 62 3 0) 62 23 0) 62 25 (-1)) 62 24 0 62 24 = 0 := rfl
  have b64 : up (up (up (up (up M 62 22 (M 62 3)) 62 3 0) 62 23 0) 62 25 (-1)) 62 24 0 64 = M 64 := rfl
  have b65 : up (up (up (up (up M 62 22 (M 62 3)) 62 3 0) 62 23 0) 62 25 (-1)) 62 24 0 65 = M 65 := rfl
  generalize up (up (up (up (up M 62 22 (M 62 3)) 62 3 0) 62 23 0) 62 25 (-1)) 62 24 0 = B at *
  rw [b22]
  have no : ∀ f, ¬ rdC (M 64) z → wp_X8_read_109 Q 0 (set1 B 74 f) := by
    intro f hc
    unfold wp_X8_read_109
    refine ⟨by decide, fun c => absurd rfl c, fun _ => ?_⟩
    refine hbad _ hc (((hF.set f (Or.inr rfl)).up62 _ (by omega)).up62 _ (by omega)) b3 rfl rfl b24 b4 b65
  have cnt : ¬ rdC (M 64) z → ∃ n, wp_X8_read_66 Q n 0 0 B := by
    intro hc
    refine ⟨1, ?_⟩
    have g := no (B 74) hc
    rw [set1_self] at g
    rw [wp_X8_read_66, b22]
    exact ⟨by decide, ⟨by omega, by omega⟩, fun _ => g, fun _ => ⟨by decide, fun _ => g, fun q => absurd rfl q⟩⟩
  refine ⟨⟨by omega, by omega⟩, fun c => cnt (fun q => by have := q.1; omega), fun c1 => ⟨⟨by omega, by omega⟩, fun c => cnt (fun q => by have := q.2.1; omega), fun c2 => ⟨⟨⟨by omega, by omega⟩, by omega⟩, ⟨by omega, by omega⟩, fun c => cnt (fun q => by have := q.2.2.1; omega), fun c3 => ⟨z + 2, ?_⟩⟩⟩⟩
  have start := s8_read_66 (B := B) (z := z) (Q := Q) b22 (by omega) (by rw [b64]; exact hR) ?_ (fun f hc => no f (fun q => hc (by rw [b64]; exact q.2.2.2))) z 0 (B 74) (by omega) (fun j hj => absurd hj (by omega))
  · rw [set1_self] at start
    exact start
  intro f hin hf
  rw [b64] at hin hf
  have hC : rdC (M 64) z := ⟨by omega, by omega, by omega, hin⟩
  obtain ⟨P, hP⟩ : ∃ P, z = 7 + 10 * P := ⟨(z - 7) / 10, by omega⟩
  have hP1 : 1 ≤ P := by omega
  have hP6 : P ≤ 6 := by omega
  subst hP
  have hF2 : F8r M (set1 B 74 f) := hF.set f (Or.inr rfl)
  have c22 : set1 B 74 f 62 22 = ((7 + 10 * P : Nat) : Int) := by rw [set1_ne _ _ (by decide)]; exact b22
  have c74 : set1 B 74 f 74 = f := set1_a _ _ _
  have c62 : set1 B 74 f 62 = B 62 := set1_ne _ _ (by decide)
  have c65 : set1 B 74 f 65 = M 65 := by rw [set1_ne _ _ (by decide)]; exact b65
  rw [← c62] at b3 b4 b22 b23 b25 b24
  generalize set1 B 74 f = B2 at *
  have cg : ∀ (a : Int) (i : Nat), i < 7 + 10 * P → wt8 f (7 + 10 * P) a i = wt8 (M 64) (7 + 10 * P) a i := fun a i hi => wt8_cong hf a hi
  unfold wp_X8_read_109
  refine ⟨by decide, fun _ => ?_, fun c => absurd (by decide) c⟩
  refine s_reads2 hP1 hP6 c22 (by rw [c74]; intro j hj; rw [hf j hj]; exact hin j hj) (Or.inl rfl) (fun M5 k p hr hk hfr e26 e27 => ?_) (fun M5 hr hfr e21 e73 => ?_)
  · rw [c74] at hr
    have hr := rdIs_cong hP1 (cg 0) hr
    have f74 : M5 74 = B2 74 := funext (fun j => hfr 74 j (by decide) (fun c => absurd c (by decide)))
    refine ⟨by decide, fun c => absurd rfl c, fun _ => ?_⟩
    refine s_reads2 hP1 hP6 (by rw [hfr 62 22 (by decide) (fun _ => by decide)]; exact c22) (by rw [f74, c74]; intro j hj; rw [hf j hj]; exact hin j hj) (Or.inr rfl) (fun M12 k' p' hr' hk' hfr' e26' e27' => ?_) (fun M12 hr' hfr' e21 e73 => ?_)
    · rw [f74, c74] at hr'
      have hr' := rdIs_cong hP1 (cg 1) hr'
      refine ⟨by decide, fun c => absurd rfl c, fun _ => ?_⟩
      have s62 : ∀ j, j ≠ 21 → j ≠ 26 → j ≠ 27 → M12 62 j = B2 62 j := fun j h1 h2 h3 => by rw [hfr' 62 j (by decide) (fun _ => ⟨h1, h2, h3⟩), hfr 62 j (by decide) (fun _ => ⟨h1, h2, h3⟩)]
      refine hno _ P k p k' p' hC rfl hr hk hr' hk' ((((hF2.fr8 hfr).fr8 hfr').up62 _ (by omega)).up62 _ (by omega)) ?_ ?_ ?_ ?_ ?_ ?_
      · show M12 62 3 = 0
        rw [s62 3 (by decide) (by decide) (by decide)]; exact b3
      · exact e26
      · exact e27
      · show M12 62 24 = 0
        rw [s62 24 (by decide) (by decide) (by decide)]; exact b24
      · show M12 62 4 = M 62 4
        rw [s62 4 (by decide) (by decide) (by decide)]; exact b4
      · show M12 65 = M 65
        rw [← c65]
        funext j
        rw [hfr' 65 j (by decide) (fun c => absurd c (by decide)), hfr 65 j (by decide) (fun c => absurd c (by decide))]
    · rw [f74, c74] at hr' e73
      have hr' := rdIs_cong hP1 (cg 1) hr'
      refine ⟨by decide, fun _ => ⟨2 * P + 1, ?_⟩, fun c => absurd (by decide) c⟩
      have s62 : ∀ j, j ≠ 21 → j ≠ 26 → j ≠ 27 → M12 62 j = B2 62 j := fun j h1 h2 h3 => by rw [hfr' 62 j (by decide) (fun _ => ⟨h1, h2, h3⟩), hfr 62 j (by decide) (fun _ => ⟨h1, h2, h3⟩)]
      have hF3 := (((hF2.fr8 hfr).fr8 hfr').up62 (i := 24) 1 (by omega)).up62 (i := 4) ((up M12 62 24 1) 62 21) (by omega)
      have g3 : up (up M12 62 24 1) 62 4 ((up M12 62 24 1) 62 21) 62 3 = 0 := by
        show M12 62 3 = 0
        rw [s62 3 (by decide) (by decide) (by decide)]; exact b3
      have g23 : up (up M12 62 24 1) 62 4 ((up M12 62 24 1) 62 21) 62 23 = 0 := by
        show M12 62 23 = 0
        rw [s62 23 (by decide) (by decide) (by decide)]; exact b23
      have g25 : up (up M12 62 24 1) 62 4 ((up M12 62 24 1) 62 21) 62 25 = -1 := by
        show M12 62 25 = -1
        rw [s62 25 (by decide) (by decide) (by decide)]; exact b25
      have g24 : up (up M12 62 24 1) 62 4 ((up M12 62 24 1) 62 21) 62 24 = 1 := rfl
      have g4 : up (up M12 62 24 1) 62 4 ((up M12 62 24 1) 62 21) 62 4 = ((2 * P : Nat) : Int) := e21
      have g21 : up (up M12 62 24 1) 62 4 ((up M12 62 24 1) 62 21) 62 21 = ((2 * P : Nat) : Int) := e21
      have g73 : up (up M12 62 24 1) 62 4 ((up M12 62 24 1) 62 21) 73 = M12 73 := rfl
      generalize up (up M12 62 24 1) 62 4 ((up M12 62 24 1) 62 21) = B3 at *
      have start := s8_read_178 (B := B3) (m := 2 * P) (Q := Q) g21 (by omega) ?_ (2 * P) 0 (B3 65) (by omega) (fun j hj => absurd hj (by omega))
      · rw [set1_self] at start
        exact start
      intro f' hf'
      rw [g73] at hf'
      have s6 : set1 B3 65 f' 62 = B3 62 := set1_ne _ _ (by decide)
      refine hok _ P 1 hC rfl hr' (Or.inr ⟨rfl, k, p, hk, hr⟩) (hF3.set f' (Or.inl rfl)) (by rw [s6]; exact g3) (by rw [s6]; exact g23) (by rw [s6]; exact g25) (by rw [s6]; exact g24) (by rw [s6]; exact g4) (fun j hj => ?_)
      rw [set1_a, hf' j hj, e73 j hj, dgt_cong (cg 1) hj]
  · rw [c74] at hr e73
    have hr := rdIs_cong hP1 (cg 0) hr
    refine ⟨by decide, fun _ => ⟨2 * P + 1, ?_⟩, fun c => absurd (by decide) c⟩
    have s62 : ∀ j, j ≠ 21 → j ≠ 26 → j ≠ 27 → M5 62 j = B2 62 j := fun j h1 h2 h3 => hfr 62 j (by decide) (fun _ => ⟨h1, h2, h3⟩)
    have hF3 := (hF2.fr8 hfr).up62 (i := 4) (M5 62 21) (by omega)
    have g3 : up M5 62 4 (M5 62 21) 62 3 = 0 := by
      show M5 62 3 = 0
      rw [s62 3 (by decide) (by decide) (by decide)]; exact b3
    have g23 : up M5 62 4 (M5 62 21) 62 23 = 0 := by
      show M5 62 23 = 0
      rw [s62 23 (by decide) (by decide) (by decide)]; exact b23
    have g25 : up M5 62 4 (M5 62 21) 62 25 = -1 := by
      show M5 62 25 = -1
      rw [s62 25 (by decide) (by decide) (by decide)]; exact b25
    have g24 : up M5 62 4 (M5 62 21) 62 24 = 0 := by
      show M5 62 24 = 0
      rw [s62 24 (by decide) (by decide) (by decide)]; exact b24
    have g4 : up M5 62 4 (M5 62 21) 62 4 = ((2 * P : Nat) : Int) := e21
    have g21 : up M5 62 4 (M5 62 21) 62 21 = ((2 * P : Nat) : Int) := e21
    have g73 : up M5 62 4 (M5 62 21) 73 = M5 73 := rfl
    generalize up M5 62 4 (M5 62 21) = B3 at *
    have start := s8_read_178 (B := B3) (m := 2 * P) (Q := Q) g21 (by omega) ?_ (2 * P) 0 (B3 65) (by omega) (fun j hj => absurd hj (by omega))
    · rw [set1_self] at start
      exact start
    intro f' hf'
    rw [g73] at hf'
    have s6 : set1 B3 65 f' 62 = B3 62 := set1_ne _ _ (by decide)
    refine hok _ P 0 hC rfl hr (Or.inl rfl) (hF3.set f' (Or.inl rfl)) (by rw [s6]; exact g3) (by rw [s6]; exact g23) (by rw [s6]; exact g25) (by rw [s6]; exact g24) (by rw [s6]; exact g4) (fun j hj => ?_)
    rw [set1_a, hf' j hj, e73 j hj, dgt_cong (cg 0) hj]
