/-! pure: the reference's layouts -/
def frK (a b : Nat) (M M' : Mem) : Prop := ∀ k, k ≠ a → k ≠ b → M' k = M k
theorem frK.refl (a b : Nat) (M : Mem) : frK a b M M := fun _ _ _ => rfl
theorem frK.trans {a b : Nat} {M M' M'' : Mem} (h : frK a b M M') (h2 : frK a b M' M'') : frK a b M M'' := fun k p q => (h2 k p q).trans (h k p q)
theorem frK.up {a b : Nat} {M M' : Mem} (h : frK a b M M') {k : Nat} (i : Nat) (v : Int) (hk : k = a ∨ k = b) : frK a b M (up M' k i v) := fun x p q => by rw [up_ne _ _ _ (by omega)]; exact h x p q
def dA (a g : Nat) : Nat := a / 3 ^ (5 - g) % 3
def dB (b i : Nat) : Nat := b / 4 ^ (2 - i) % 4
theorem l2i_01 : l2i 0 = 0 ∧ l2i 1 = 1 := by decide
theorem s8_freeOn_loop {s : Nat} {M : Mem} {Q : Int → Mem → Prop} (hs : s < 3) (h0 : 0 ≤ M 75 s) (h40 : M 75 s < 2 ^ 40) (h : Q (rmF (M 75) s) M) :
    ∀ (k i : Nat), i + k = 40 → wp_X8_freeOn_4 (s : Int) Q (k + 1) (pcN (M 75 s).toNat i) (i : Int) M := by
  intro k
  induction k with
  | zero =>
    intro i hi
    rw [wp_X8_freeOn_4]
    have e : i = 40 := by omega
    subst e
    exact ⟨by decide, fun _ => h, fun c => absurd (by decide) c⟩
  | succ k ih =>
    intro i hi
    rw [wp_X8_freeOn_4, Int.toNat_natCast, L_bit h0 h40 (by omega)]
    have st := ih (i + 1) (by omega)
    rw [show pcN (M 75 s).toNat (i + 1) = pcN (M 75 s).toNat i + if (M 75 s).toNat.testBit i = true then 1 else 0 from rfl] at st
    refine ⟨⟨by omega, by omega⟩, fun c => absurd c (by omega), fun _ => ⟨⟨by omega, by omega⟩, ?_⟩⟩
    have e : l2i (if (M 75 s).toNat.testBit i = true then 1 else 0) = if (M 75 s).toNat.testBit i = true then 1 else 0 := by
      split
      · exact l2i_01.2
      · exact l2i_01.1
    rw [e]
    exact st
theorem s8_freeOn {s : Nat} {x : Int} {M : Mem} {Q : Int → Mem → Prop} (hx : x = (s : Int)) (hs : s < 3) (h0 : 0 ≤ M 75 s) (h40 : M 75 s < 2 ^ 40) (h : Q (rmF (M 75) s) M) : wp_X8_freeOn x M Q := by
  subst hx
  unfold wp_X8_freeOn
  exact ⟨41, s8_freeOn_loop hs h0 h40 h 40 0 rfl⟩
theorem ndk_rng {c : Nat → Int} {d : Nat → Nat} {h : Nat} : ∀ (k g : Nat), (∀ j, g ≤ j → j < g + k → 0 ≤ c j ∧ c j ≤ 200) → 0 ≤ ndk c d h k g ∧ ndk c d h k g ≤ 200 * k
  | 0, _, _ => by simp [ndk]
  | k + 1, g, hc => by
    have := ndk_rng (d := d) (h := h) k (g + 1) (fun j h1 h2 => hc j (by omega) (by omega))
    have h2 := hc g (by omega) (by omega)
    simp only [ndk]
    split <;> omega
theorem s8_groups_24 {c : Nat → Int} {a : Nat} {a1 : Int} {M0 : Mem} {Q : Int → Mem → Prop} (ha : a < 729) (hc : ∀ g, g < 6 → M0 85 g = c g ∧ 0 ≤ c g ∧ c g ≤ 200)
    (h1 : ∀ M', frK 81 87 M0 M' → (∀ g, g < 6 → c g = 0 → dA a g = 0) → (∀ g, g < 6 → M' 81 g = (dA a g : Int)) → (∀ h, h < 3 → M' 87 h = ndH c (dA a) h) → Q 1 M')
    (h0 : ∀ M', frK 81 87 M0 M' → ¬ (∀ g, g < 6 → c g = 0 → dA a g = 0) → Q 0 M') :
    ∀ (g k : Nat) (M : Mem), g + k = 6 → frK 81 87 M0 M → (∀ j, g ≤ j → j < 6 → M 81 j = (dA a j : Int) ∧ (c j = 0 → dA a j = 0)) → (∀ h, h < 3 → M 87 h = ndk c (dA a) h k g) → wp_X8_groups_24 a1 Q (g + 1) ((a / 3 ^ (6 - g) : Nat) : Int) ((g : Int) - 1) M := by
  intro g
  induction g with
  | zero =>
    intro k M hk hfr hd hn
    have e : k = 6 := by omega
    subst e
    rw [wp_X8_groups_24]
    refine ⟨by decide, fun _ => ?_, fun q => absurd (by decide) q⟩
    exact h1 M hfr (fun g hg => (hd g (by omega) hg).2) (fun g hg => (hd g (by omega) hg).1) (fun h hh => by rw [hn h hh, ndk_6])
  | succ g ih =>
    intro k M hk hfr hd hn
    rw [wp_X8_groups_24]
    have ex : ((g + 1 : Nat) : Int) - 1 = (g : Int) := by omega
    rw [ex, Int.toNat_natCast]
    have hdv : a / 3 ^ (6 - (g + 1)) ≤ a := Nat.div_le_self _ _
    have hdw : (0 : Int) ≤ ((a / 3 ^ (6 - (g + 1)) : Nat) : Int) := Int.natCast_nonneg _
    have e6 : 6 - (g + 1) = 5 - g := by omega
    have edig : ((a / 3 ^ (6 - (g + 1)) : Nat) : Int) % 3 = (dA a g : Int) := by
      unfold dA
      rw [e6]
      omega
    have erest : ((a / 3 ^ (6 - (g + 1)) : Nat) : Int) / 3 = ((a / 3 ^ (6 - g) : Nat) : Int) := by
      rw [show 6 - g = 6 - (g + 1) + 1 by omega, Nat.pow_succ, ← Nat.div_div_eq_div_mul]
      omega
    have d3 : dA a g < 3 := by unfold dA; omega
    rw [edig, erest]
    obtain ⟨hc1, hc2, hc3⟩ := hc g (by omega)
    have e85 : up M 81 g (dA a g : Int) 85 g = c g := by rw [up_ne _ _ _ (by decide), hfr 85 (by decide) (by decide)]; exact hc1
    have e81 : up M 81 g (dA a g : Int) 81 g = (dA a g : Int) := up_sn _ _ _ _
    have hfr1 : frK 81 87 M0 (up M 81 g (dA a g : Int)) := hfr.up _ _ (Or.inl rfl)
    rw [e85, e81]
    have go : (c g = 0 → dA a g = 0) → wp_X8_groups_61 a1 (fun x2 x3 M => wp_X8_groups_24 a1 Q (g + 1) x2 x3 M) Q ((a / 3 ^ (6 - g) : Nat) : Int) (g : Int) (up M 81 g (dA a g : Int)) := by
      intro hz
      unfold wp_X8_groups_61
      rw [Int.toNat_natCast, e81, Int.toNat_natCast, e85]
      refine ⟨⟨by omega, by omega⟩, ⟨by omega, by omega⟩, ⟨by omega, by omega⟩, ⟨by omega, by omega⟩, ?_⟩
      have st := ih (k + 1) (up (up M 81 g (dA a g : Int)) 87 (dA a g) (up M 81 g (dA a g : Int) 87 (dA a g) + c g)) (by omega) (hfr1.up _ _ (Or.inr rfl)) (fun j h1 h2 => ?_) (fun h hh => ?_)
      · rw [show (g : Int) + -1 = (g : Int) - 1 by omega]
        exact st
      · rw [up_ne _ _ _ (by decide), up_same]
        by_cases q : j = g
        · subst q; rw [upr_at]; exact ⟨rfl, hz⟩
        · rw [upr_ne _ _ q]; exact hd j (by omega) h2
      · rw [up_same]
        have e87 : up M 81 g (dA a g : Int) 87 = M 87 := up_ne _ _ _ (by decide)
        rw [e87]
        simp only [ndk]
        by_cases q : dA a g = h
        · subst q
          rw [upr_at, if_pos rfl, hn _ hh]
          omega
        · rw [upr_ne _ _ (fun e => q e.symm), if_neg q, hn h hh]
          omega
    refine ⟨⟨by omega, by omega⟩, fun q => absurd q (by omega), fun _ => ⟨⟨⟨by omega, by omega⟩, by omega⟩, ⟨by omega, by omega⟩, ⟨⟨by omega, by omega⟩, by omega⟩, ⟨by omega, by omega⟩, ⟨by omega, by omega⟩, fun q => go (fun e => absurd e q), fun q => ⟨⟨by omega, by omega⟩, ⟨by omega, by omega⟩, fun q2 => go (fun _ => by omega), fun q2 => ?_⟩⟩⟩
    exact h0 _ hfr1 (fun w => q2 (by have := w g (by omega) (by omega); omega))
theorem s8_groups {c : Nat → Int} {a : Nat} {x : Int} {M : Mem} {Q : Int → Mem → Prop} (hx : x = (a : Int)) (ha : a < 729) (hc : ∀ g, g < 6 → M 85 g = c g ∧ 0 ≤ c g ∧ c g ≤ 200)
    (h1 : ∀ M', frK 81 87 M M' → (∀ g, g < 6 → c g = 0 → dA a g = 0) → (∀ g, g < 6 → M' 81 g = (dA a g : Int)) → (∀ h, h < 3 → M' 87 h = ndH c (dA a) h) → Q 1 M')
    (h0 : ∀ M', frK 81 87 M M' → ¬ (∀ g, g < 6 → c g = 0 → dA a g = 0) → Q 0 M') : wp_X8_groups x M Q := by
  subst hx
  unfold wp_X8_groups
  refine ⟨4, ?_⟩
  rw [wp_X8_groups_4]
  refine ⟨by decide, fun q => absurd q (by decide), fun _ => ⟨by decide, ?_⟩⟩
  rw [wp_X8_groups_4]
  refine ⟨by decide, fun q => absurd q (by decide), fun _ => ⟨by decide, ?_⟩⟩
  rw [wp_X8_groups_4]
  refine ⟨by decide, fun q => absurd q (by decide), fun _ => ⟨by decide, ?_⟩⟩
  rw [wp_X8_groups_4]
  refine ⟨by decide, fun _ => ⟨7, ?_⟩, fun q => absurd (by decide) q⟩
  have F : frK 81 87 M (up (up (up M 87 (0 : Int).toNat 0) 87 ((0 : Int) + 1).toNat 0) 87 ((0 : Int) + 1 + 1).toNat 0) := (((frK.refl 81 87 M).up _ _ (Or.inr rfl)).up _ _ (Or.inr rfl)).up _ _ (Or.inr rfl)
  have st := s8_groups_24 (c := c) (a := a) (a1 := (a : Int)) (M0 := M) (Q := Q) ha hc h1 h0 6 0 _ rfl F (fun j h1 h2 => absurd h1 (by omega)) (fun h hh => ?_)
  · rw [Nat.sub_self, Nat.pow_zero, Nat.div_one] at st
    exact st
  · have : h = 0 ∨ h = 1 ∨ h = 2 := by omega
    rcases this with rfl | rfl | rfl <;> rfl
theorem s8_sheets_24 {r : Nat → Int} {b : Nat} {a1 : Int} {M0 : Mem} {Q : Int → Mem → Prop} (hb : b < 64) (hr : ∀ i, i < 3 → M0 86 i = r i ∧ 0 ≤ r i ∧ r i ≤ 40) (h87 : ∀ h, h < 3 → Rg (M0 87 h))
    (h1 : ∀ M', frK 82 88 M0 M' → (∀ i, i < 3 → M' 82 i = (dB b i : Int)) → (∀ h, h < 3 → M0 87 h ≤ hsH r (dB b) h) → Q 1 M')
    (h0 : ∀ M', frK 82 88 M0 M' → ¬ (∀ h, h < 3 → M0 87 h ≤ hsH r (dB b) h) → Q 0 M') :
    ∀ (g k : Nat) (M : Mem), g + k = 3 → frK 82 88 M0 M → (∀ j, g ≤ j → j < 3 → M 82 j = (dB b j : Int)) → (∀ h, h < 3 → M 88 h = ndk r (dB b) h k g) → wp_X8_sheets_24 a1 Q (g + 1) ((b / 4 ^ (3 - g) : Nat) : Int) ((g : Int) - 1) M := by
  have hrr : ∀ j, 0 ≤ j → j < 0 + 3 → 0 ≤ r j ∧ r j ≤ 200 := fun j _ h2 => by have := hr j (by omega); omega
  intro g
  induction g with
  | zero =>
    intro k M hk hfr hd hn
    have e : k = 3 := by omega
    subst e
    rw [wp_X8_sheets_24]
    refine ⟨by decide, fun _ => ?_, fun q => absurd (by decide) q⟩
    have e87 : M 87 = M0 87 := hfr 87 (by decide) (by decide)
    have e3 : ∀ h, ndk r (dB b) h 3 0 = hsH r (dB b) h := fun h => by
      unfold hsH
      simp only [ndk, sm, Nat.reduceAdd]
      omega
    have rg : ∀ h, h < 3 → Rg (M 88 h) := fun h hh => by
      have := ndk_rng (d := dB b) (h := h) 3 0 hrr
      rw [hn h hh]
      exact ⟨by omega, by omega⟩
    have hn' : ∀ h, h < 3 → M 88 h = hsH r (dB b) h := fun h hh => by rw [hn h hh, e3]
    rw [e87]
    refine ⟨h87 0 (by decide), rg 0 (by decide), fun q => h0 M hfr (fun w => ?_), fun q0 => ⟨h87 1 (by decide), rg 1 (by decide), fun q => h0 M hfr (fun w => ?_), fun q1 => ⟨h87 2 (by decide), rg 2 (by decide), fun q => h0 M hfr (fun w => ?_), fun q2 => h1 M hfr (fun i hi => hd i (by omega) hi) (fun h hh => ?_)⟩⟩⟩
    · have := w 0 (by decide); rw [hn' 0 (by decide)] at q; omega
    · have := w 1 (by decide); rw [hn' 1 (by decide)] at q; omega
    · have := w 2 (by decide); rw [hn' 2 (by decide)] at q; omega
    · have : h = 0 ∨ h = 1 ∨ h = 2 := by omega
      rcases this with rfl | rfl | rfl
      · rw [hn' 0 (by decide)] at q0; omega
      · rw [hn' 1 (by decide)] at q1; omega
      · rw [hn' 2 (by decide)] at q2; omega
  | succ g ih =>
    intro k M hk hfr hd hn
    rw [wp_X8_sheets_24]
    have ex : ((g + 1 : Nat) : Int) - 1 = (g : Int) := by omega
    rw [ex, Int.toNat_natCast]
    have hdv : b / 4 ^ (3 - (g + 1)) ≤ b := Nat.div_le_self _ _
    have hdw : (0 : Int) ≤ ((b / 4 ^ (3 - (g + 1)) : Nat) : Int) := Int.natCast_nonneg _
    have e6 : 3 - (g + 1) = 2 - g := by omega
    have edig : ((b / 4 ^ (3 - (g + 1)) : Nat) : Int) % 4 = (dB b g : Int) := by
      unfold dB
      rw [e6]
      omega
    have erest : ((b / 4 ^ (3 - (g + 1)) : Nat) : Int) / 4 = ((b / 4 ^ (3 - g) : Nat) : Int) := by
      rw [show 3 - g = 3 - (g + 1) + 1 by omega, Nat.pow_succ, ← Nat.div_div_eq_div_mul]
      omega
    have d4 : dB b g < 4 := by unfold dB; omega
    rw [edig, erest]
    obtain ⟨hr1, hr2, hr3⟩ := hr g (by omega)
    have e86 : up M 82 g (dB b g : Int) 86 g = r g := by rw [up_ne _ _ _ (by decide), hfr 86 (by decide) (by decide)]; exact hr1
    have e82 : up M 82 g (dB b g : Int) 82 g = (dB b g : Int) := up_sn _ _ _ _
    have hfr1 : frK 82 88 M0 (up M 82 g (dB b g : Int)) := hfr.up _ _ (Or.inl rfl)
    rw [e86, e82, Int.toNat_natCast]
    have nx : (g : Int) + -1 = (g : Int) - 1 := by omega
    rw [nx]
    refine ⟨⟨by omega, by omega⟩, fun q => absurd q (by omega), fun _ => ⟨⟨⟨by omega, by omega⟩, by omega⟩, ⟨by omega, by omega⟩, ⟨⟨by omega, by omega⟩, by omega⟩, ⟨by omega, by omega⟩, ⟨by omega, by omega⟩, fun q => ?_, fun q => ⟨⟨by omega, by omega⟩, ⟨by omega, by omega⟩, ⟨by omega, by omega⟩, ⟨by omega, by omega⟩, ?_⟩⟩⟩
    · refine ih (k + 1) _ (by omega) hfr1 (fun j h1 h2 => ?_) (fun h hh => ?_)
      · rw [up_same]
        by_cases w : j = g
        · subst w; rw [upr_at]
        · rw [upr_ne _ _ w]; exact hd j (by omega) h2
      · rw [up_ne _ _ _ (by decide), hn h hh]
        simp only [ndk]
        rw [if_neg (by omega)]
        omega
    · refine ih (k + 1) _ (by omega) (hfr1.up _ _ (Or.inr rfl)) (fun j h1 h2 => ?_) (fun h hh => ?_)
      · rw [up_ne _ _ _ (by decide), up_same]
        by_cases w : j = g
        · subst w; rw [upr_at]
        · rw [upr_ne _ _ w]; exact hd j (by omega) h2
      · rw [up_same]
        have e88 : up M 82 g (dB b g : Int) 88 = M 88 := up_ne _ _ _ (by decide)
        rw [e88]
        simp only [ndk]
        by_cases w : dB b g = h
        · subst w
          rw [upr_at, if_pos rfl, hn _ hh]
          omega
        · rw [upr_ne _ _ (fun e => w e.symm), if_neg w, hn h hh]
          omega
theorem s8_sheets {r : Nat → Int} {b : Nat} {x : Int} {M : Mem} {Q : Int → Mem → Prop} (hx : x = (b : Int)) (hb : b < 64) (hr : ∀ i, i < 3 → M 86 i = r i ∧ 0 ≤ r i ∧ r i ≤ 40) (h87 : ∀ h, h < 3 → Rg (M 87 h))
    (h1 : ∀ M', frK 82 88 M M' → (∀ i, i < 3 → M' 82 i = (dB b i : Int)) → (∀ h, h < 3 → M 87 h ≤ hsH r (dB b) h) → Q 1 M')
    (h0 : ∀ M', frK 82 88 M M' → ¬ (∀ h, h < 3 → M 87 h ≤ hsH r (dB b) h) → Q 0 M') : wp_X8_sheets x M Q := by
  subst hx
  unfold wp_X8_sheets
  refine ⟨4, ?_⟩
  rw [wp_X8_sheets_4]
  refine ⟨by decide, fun q => absurd q (by decide), fun _ => ⟨by decide, ?_⟩⟩
  rw [wp_X8_sheets_4]
  refine ⟨by decide, fun q => absurd q (by decide), fun _ => ⟨by decide, ?_⟩⟩
  rw [wp_X8_sheets_4]
  refine ⟨by decide, fun q => absurd q (by decide), fun _ => ⟨by decide, ?_⟩⟩
  rw [wp_X8_sheets_4]
  refine ⟨by decide, fun _ => ⟨4, ?_⟩, fun q => absurd (by decide) q⟩
  have F : frK 82 88 M (up (up (up M 88 (0 : Int).toNat 0) 88 ((0 : Int) + 1).toNat 0) 88 ((0 : Int) + 1 + 1).toNat 0) := (((frK.refl 82 88 M).up _ _ (Or.inr rfl)).up _ _ (Or.inr rfl)).up _ _ (Or.inr rfl)
  have st := s8_sheets_24 (r := r) (b := b) (a1 := (b : Int)) (M0 := M) (Q := Q) hb hr h87 h1 h0 3 0 _ rfl F (fun j h1 h2 => absurd h1 (by omega)) (fun h hh => ?_)
  · rw [Nat.sub_self, Nat.pow_zero, Nat.div_one] at st
    exact st
  · have : h = 0 ∨ h = 1 ∨ h = 2 := by omega
    rcases this with rfl | rfl | rfl <;> rfl
theorem s8_heaps {s : Nat → Nat} {M : Mem} {Q : Int → Mem → Prop} (hs : ∀ i, i < 3 → M 82 i = (s i : Int) ∧ s i < 4) (h : Q (hpN s : Int) M) : wp_X8_heaps M Q := by
  obtain ⟨a0, z0⟩ := hs 0 (by decide)
  obtain ⟨a1, z1⟩ := hs 1 (by decide)
  obtain ⟨a2, z2⟩ := hs 2 (by decide)
  have step : ∀ (n x2 : Nat) (x1 : Int), x2 < 3 → wp_X8_heaps_4 Q n (x1 + (b1 (s 0 = x2 ∨ s 1 = x2 ∨ s 2 = x2) : Nat)) ((x2 : Int) + 1) M → wp_X8_heaps_4 Q (n + 1) x1 (x2 : Int) M := by
    intro n x2 x1 hx2 hq
    rw [wp_X8_heaps_4, a0, a1, a2]
    refine ⟨⟨by omega, by omega⟩, fun c => absurd c (by omega), fun _ => ⟨⟨by omega, by omega⟩, ⟨by omega, by omega⟩, fun c => ?_, fun c => ⟨⟨by omega, by omega⟩, ⟨by omega, by omega⟩, fun c2 => ?_, fun c2 => ⟨⟨by omega, by omega⟩, ⟨by omega, by omega⟩, fun c3 => ?_, fun c3 => ?_⟩⟩⟩⟩
    · rw [show b1 (s 0 = x2 ∨ s 1 = x2 ∨ s 2 = x2) = 1 from if_pos (by omega)] at hq; exact hq
    · rw [show b1 (s 0 = x2 ∨ s 1 = x2 ∨ s 2 = x2) = 1 from if_pos (by omega)] at hq; exact hq
    · rw [show b1 (s 0 = x2 ∨ s 1 = x2 ∨ s 2 = x2) = 0 from if_neg (by omega)] at hq; exact hq
    · rw [show b1 (s 0 = x2 ∨ s 1 = x2 ∨ s 2 = x2) = 1 from if_pos (by omega)] at hq; exact hq
  unfold wp_X8_heaps
  refine ⟨4, step 3 0 0 (by decide) (step 2 1 _ (by decide) (step 1 2 _ (by decide) ?_))⟩
  rw [wp_X8_heaps_4]
  refine ⟨by decide, fun _ => ?_, fun q => absurd (by decide) q⟩
  have e : (0 : Int) + (b1 (s 0 = 0 ∨ s 1 = 0 ∨ s 2 = 0) : Nat) + (b1 (s 0 = 1 ∨ s 1 = 1 ∨ s 2 = 1) : Nat) + (b1 (s 0 = 2 ∨ s 1 = 2 ∨ s 2 = 2) : Nat) = (hpN s : Int) := by
    unfold hpN
    omega
  rw [e]
  exact h
