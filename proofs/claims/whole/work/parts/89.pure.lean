/-! the pure part: for every script the two answer alike -/
theorem law_c132 {L : Nat} {xs : Nat → Int} {k18 : Int → Mem → Prop} {x3 : Int} {M : Mem} (hxs : ∀ j, Rg (xs j)) (h0 : 0 ≤ x3) (hL : x3 + 5 < (L : Int)) (hR : RelA M) (hk : ∀ r M', Rg r → RelA M' → SameB M M' → k18 (x3 + 6) M') : wp_L_law_132 L xs k18 x3 M := by
  unfold wp_L_law_132
  exact ⟨⟨by omega, by omega⟩, ⟨by omega, by omega⟩, op_wide (G := fun p => (0 ≤ x3 + 1 ∧ x3 + 1 < (L : Int)) ∧ (0 ≤ x3 + 2 ∧ x3 + 2 < (L : Int)) ∧ p) (P := fun r1 r2 M2 => Rg r1 ∧ Rg r2 ∧ (r1 = r2 → k18 (x3 + 6) M2) ∧ (¬ (r1 = r2) → False)) (fun p hp => ⟨⟨by omega, by omega⟩, ⟨by omega, by omega⟩, hp⟩) hR (hxs _) (hxs _) (fun r M' h1 h2 h3 => ⟨h1, h1, fun _ => hk r M' h1 h2 h3, fun q => q rfl⟩)⟩
theorem law_c165 {L : Nat} {xs : Nat → Int} {k18 : Int → Mem → Prop} {x3 : Int} {M : Mem} (hxs : ∀ j, Rg (xs j)) (h0 : 0 ≤ x3) (hL : x3 + 5 < (L : Int)) (hR : RelA M) (hk : ∀ r M', Rg r → RelA M' → SameB M M' → k18 (x3 + 6) M') : wp_L_law_165 L xs k18 x3 M := by
  unfold wp_L_law_165
  exact ⟨⟨by omega, by omega⟩, ⟨by omega, by omega⟩, ⟨by omega, by omega⟩, ⟨by omega, by omega⟩, ⟨by omega, by omega⟩, op_feed (G := fun p => (0 ≤ x3 + 1 ∧ x3 + 1 < (L : Int)) ∧ (0 ≤ x3 + 2 ∧ x3 + 2 < (L : Int)) ∧ (0 ≤ x3 + 3 ∧ x3 + 3 < (L : Int)) ∧ (0 ≤ x3 + 4 ∧ x3 + 4 < (L : Int)) ∧ (0 ≤ x3 + 5 ∧ x3 + 5 < (L : Int)) ∧ p) (P := fun r1 r2 M2 => Rg r1 ∧ Rg r2 ∧ (r1 = r2 → k18 (x3 + 6) M2) ∧ (¬ (r1 = r2) → False)) (fun p hp => ⟨⟨by omega, by omega⟩, ⟨by omega, by omega⟩, ⟨by omega, by omega⟩, ⟨by omega, by omega⟩, ⟨by omega, by omega⟩, hp⟩) hR (fun r M' h1 h2 h3 => ⟨h1, h1, fun _ => hk r M' h1 h2 h3, fun q => q rfl⟩)⟩
theorem law_c228 {L : Nat} {xs : Nat → Int} {k18 : Int → Mem → Prop} {x3 : Int} {M : Mem} (hxs : ∀ j, Rg (xs j)) (h0 : 0 ≤ x3) (hL : x3 + 5 < (L : Int)) (hR : RelA M) (hk : ∀ r M', Rg r → RelA M' → SameB M M' → k18 (x3 + 6) M') : wp_L_law_228 L xs k18 x3 M := by
  unfold wp_L_law_228
  exact ⟨⟨by omega, by omega⟩, op_end (G := fun p => (0 ≤ x3 + 1 ∧ x3 + 1 < (L : Int)) ∧ p) (P := fun r1 r2 M2 => Rg r1 ∧ Rg r2 ∧ (r1 = r2 → k18 (x3 + 6) M2) ∧ (¬ (r1 = r2) → False)) (fun p hp => ⟨⟨by omega, by omega⟩, hp⟩) hR (hxs _) (fun r M' h1 h2 h3 => ⟨h1, h1, fun _ => hk r M' h1 h2 h3, fun q => q rfl⟩)⟩
theorem law_c251 {L : Nat} {xs : Nat → Int} {k18 : Int → Mem → Prop} {x3 : Int} {M : Mem} (hxs : ∀ j, Rg (xs j)) (h0 : 0 ≤ x3) (hL : x3 + 5 < (L : Int)) (hR : RelA M) (hk : ∀ r M', Rg r → RelA M' → SameB M M' → k18 (x3 + 6) M') : wp_L_law_251 L xs k18 x3 M := by
  unfold wp_L_law_251
  exact ⟨⟨by omega, by omega⟩, ⟨by omega, by omega⟩, op_shorten (G := fun p => (0 ≤ x3 + 1 ∧ x3 + 1 < (L : Int)) ∧ (0 ≤ x3 + 2 ∧ x3 + 2 < (L : Int)) ∧ p) (P := fun r1 r2 M2 => Rg r1 ∧ Rg r2 ∧ (r1 = r2 → k18 (x3 + 6) M2) ∧ (¬ (r1 = r2) → False)) (fun p hp => ⟨⟨by omega, by omega⟩, ⟨by omega, by omega⟩, hp⟩) hR (hxs _) (hxs _) (fun r M' h1 h2 h3 => ⟨h1, h1, fun _ => hk r M' h1 h2 h3, fun q => q rfl⟩)⟩
theorem law_c284 {L : Nat} {xs : Nat → Int} {k18 : Int → Mem → Prop} {x3 : Int} {M : Mem} (hxs : ∀ j, Rg (xs j)) (h0 : 0 ≤ x3) (hL : x3 + 5 < (L : Int)) (hR : RelA M) (hk : ∀ r M', Rg r → RelA M' → SameB M M' → k18 (x3 + 6) M') : wp_L_law_284 L xs k18 x3 M := by
  unfold wp_L_law_284
  exact ⟨⟨by omega, by omega⟩, op_fit (G := fun p => (0 ≤ x3 + 1 ∧ x3 + 1 < (L : Int)) ∧ p) (P := fun r1 r2 M2 => Rg r1 ∧ Rg r2 ∧ (r1 = r2 → k18 (x3 + 6) M2) ∧ (¬ (r1 = r2) → False)) (fun p hp => ⟨⟨by omega, by omega⟩, hp⟩) hR (hxs _) (fun r M' h1 h2 h3 => ⟨h1, h1, fun _ => hk r M' h1 h2 h3, fun q => q rfl⟩)⟩
theorem law_c307 {L : Nat} {xs : Nat → Int} {k18 : Int → Mem → Prop} {x3 : Int} {M : Mem} (hxs : ∀ j, Rg (xs j)) (h0 : 0 ≤ x3) (hL : x3 + 5 < (L : Int)) (hR : RelA M) (hk : ∀ r M', Rg r → RelA M' → SameB M M' → k18 (x3 + 6) M') : wp_L_law_307 L xs k18 x3 M := by
  unfold wp_L_law_307
  exact op_used (G := fun p => p) (P := fun r1 r2 M2 => Rg r1 ∧ Rg r2 ∧ (r1 = r2 → k18 (x3 + 6) M2) ∧ (¬ (r1 = r2) → False)) (fun p hp => hp) hR (fun r M' h1 h2 h3 => ⟨h1, h1, fun _ => hk r M' h1 h2 h3, fun q => q rfl⟩)
theorem law_c320 {L : Nat} {xs : Nat → Int} {k18 : Int → Mem → Prop} {x3 : Int} {M : Mem} (hxs : ∀ j, Rg (xs j)) (h0 : 0 ≤ x3) (hL : x3 + 5 < (L : Int)) (hR : RelA M) (hk : ∀ r M', Rg r → RelA M' → SameB M M' → k18 (x3 + 6) M') : wp_L_law_320 L xs k18 x3 M := by
  unfold wp_L_law_320
  exact ⟨⟨by omega, by omega⟩, op_out (G := fun p => (0 ≤ x3 + 1 ∧ x3 + 1 < (L : Int)) ∧ p) (P := fun r1 r2 M2 => Rg r1 ∧ Rg r2 ∧ (r1 = r2 → k18 (x3 + 6) M2) ∧ (¬ (r1 = r2) → False)) (fun p hp => ⟨⟨by omega, by omega⟩, hp⟩) hR (hxs _) (fun r M' h1 h2 h3 => ⟨h1, h1, fun _ => hk r M' h1 h2 h3, fun q => q rfl⟩)⟩
theorem law_c343 {L : Nat} {xs : Nat → Int} {k18 : Int → Mem → Prop} {x3 : Int} {M : Mem} (hxs : ∀ j, Rg (xs j)) (h0 : 0 ≤ x3) (hL : x3 + 5 < (L : Int)) (hR : RelA M) (hk : ∀ r M', Rg r → RelA M' → SameB M M' → k18 (x3 + 6) M') : wp_L_law_343 L xs k18 x3 M := by
  unfold wp_L_law_343
  exact ⟨⟨by omega, by omega⟩, op_ratio (G := fun p => (0 ≤ x3 + 1 ∧ x3 + 1 < (L : Int)) ∧ p) (P := fun r1 r2 M2 => Rg r1 ∧ Rg r2 ∧ (r1 = r2 → k18 (x3 + 6) M2) ∧ (¬ (r1 = r2) → False)) (fun p hp => ⟨⟨by omega, by omega⟩, hp⟩) hR (hxs _) (fun r M' h1 h2 h3 => ⟨h1, h1, fun _ => hk r M' h1 h2 h3, fun q => q rfl⟩)⟩
theorem law_c366 {L : Nat} {xs : Nat → Int} {k18 : Int → Mem → Prop} {x3 : Int} {M : Mem} (hxs : ∀ j, Rg (xs j)) (h0 : 0 ≤ x3) (hL : x3 + 5 < (L : Int)) (hR : RelA M) (hk : ∀ r M', Rg r → RelA M' → SameB M M' → k18 (x3 + 6) M') : wp_L_law_366 L xs k18 x3 M := by
  unfold wp_L_law_366
  exact op_bars (G := fun p => p) (P := fun r1 r2 M2 => Rg r1 ∧ Rg r2 ∧ (r1 = r2 → k18 (x3 + 6) M2) ∧ (¬ (r1 = r2) → False)) (fun p hp => hp) hR (fun r M' h1 h2 h3 => ⟨h1, h1, fun _ => hk r M' h1 h2 h3, fun q => q rfl⟩)
theorem law_c379 {L : Nat} {xs : Nat → Int} {k18 : Int → Mem → Prop} {x3 : Int} {M : Mem} (hxs : ∀ j, Rg (xs j)) (h0 : 0 ≤ x3) (hL : x3 + 5 < (L : Int)) (hR : RelA M) (hk : ∀ r M', Rg r → RelA M' → SameB M M' → k18 (x3 + 6) M') : wp_L_law_379 L xs k18 x3 M := by
  unfold wp_L_law_379
  exact op_read (G := fun p => p) (P := fun r1 r2 M2 => Rg r1 ∧ Rg r2 ∧ (r1 = r2 → k18 (x3 + 6) M2) ∧ (¬ (r1 = r2) → False)) (fun p hp => hp) hR (fun r M' h1 h2 h3 => ⟨h1, h1, fun _ => hk r M' h1 h2 h3, fun q => q rfl⟩)
theorem law_c392 {L : Nat} {xs : Nat → Int} {k18 : Int → Mem → Prop} {x3 : Int} {M : Mem} (hxs : ∀ j, Rg (xs j)) (h0 : 0 ≤ x3) (hL : x3 + 5 < (L : Int)) (hR : RelA M) (hk : ∀ r M', Rg r → RelA M' → SameB M M' → k18 (x3 + 6) M') : wp_L_law_392 L xs k18 x3 M := by
  unfold wp_L_law_392
  exact ⟨⟨by omega, by omega⟩, op_fault (G := fun p => (0 ≤ x3 + 1 ∧ x3 + 1 < (L : Int)) ∧ p) (P := fun r1 r2 M2 => Rg r1 ∧ Rg r2 ∧ (r1 = r2 → k18 (x3 + 6) M2) ∧ (¬ (r1 = r2) → False)) (fun p hp => ⟨⟨by omega, by omega⟩, hp⟩) hR (hxs _) (fun r M' h1 h2 h3 => ⟨h1, h1, fun _ => hk r M' h1 h2 h3, fun q => q rfl⟩)⟩
theorem law_c415 {L : Nat} {xs : Nat → Int} {k18 : Int → Mem → Prop} {x3 : Int} {M : Mem} (hxs : ∀ j, Rg (xs j)) (h0 : 0 ≤ x3) (hL : x3 + 5 < (L : Int)) (hR : RelA M) (hk : ∀ r M', Rg r → RelA M' → SameB M M' → k18 (x3 + 6) M') : wp_L_law_415 L xs k18 x3 M := by
  unfold wp_L_law_415
  exact op_take (G := fun p => p) (P := fun r1 r2 M2 => Rg r1 ∧ Rg r2 ∧ (r1 = r2 → k18 (x3 + 6) M2) ∧ (¬ (r1 = r2) → False)) (fun p hp => hp) hR (fun r M' h1 h2 h3 => ⟨h1, h1, fun _ => hk r M' h1 h2 h3, fun q => q rfl⟩)
theorem law_c428 {L : Nat} {xs : Nat → Int} {k18 : Int → Mem → Prop} {x3 : Int} {M : Mem} {B : Int} (hB : 0 ≤ B ∧ B ≤ 1000) (hxs : ∀ j, Rg (xs j)) (h0 : 0 ≤ x3) (hL : x3 + 5 < (L : Int)) (hR : RelB B M) (hk : ∀ r M', Rg r → RelB (B + 1) M' → SameA M M' → k18 (x3 + 6) M') : wp_L_law_428 L xs k18 x3 M := by
  unfold wp_L_law_428
  exact ⟨⟨by omega, by omega⟩, ⟨by omega, by omega⟩, ⟨by omega, by omega⟩, op_sheet (G := fun p => (0 ≤ x3 + 1 ∧ x3 + 1 < (L : Int)) ∧ (0 ≤ x3 + 2 ∧ x3 + 2 < (L : Int)) ∧ (0 ≤ x3 + 3 ∧ x3 + 3 < (L : Int)) ∧ p) (P := fun r1 r2 M2 => Rg r1 ∧ Rg r2 ∧ (r1 = r2 → k18 (x3 + 6) M2) ∧ (¬ (r1 = r2) → False)) (fun p hp => ⟨⟨by omega, by omega⟩, ⟨by omega, by omega⟩, ⟨by omega, by omega⟩, hp⟩) hR (hxs _) (RgL_toInt _) (fun r M' h1 h2 h3 => ⟨h1, h1, fun _ => hk r M' h1 h2 h3, fun q => q rfl⟩)⟩
theorem law_c491 {L : Nat} {xs : Nat → Int} {k18 : Int → Mem → Prop} {x3 : Int} {M : Mem} {B : Int} (hB : 0 ≤ B ∧ B ≤ 1000) (hxs : ∀ j, Rg (xs j)) (h0 : 0 ≤ x3) (hL : x3 + 5 < (L : Int)) (hR : RelB B M) (hk : ∀ r M', Rg r → RelB (B + 1) M' → SameA M M' → k18 (x3 + 6) M') : wp_L_law_491 L xs k18 x3 M := by
  unfold wp_L_law_491
  exact ⟨⟨by omega, by omega⟩, ⟨by omega, by omega⟩, op_come (G := fun p => (0 ≤ x3 + 1 ∧ x3 + 1 < (L : Int)) ∧ (0 ≤ x3 + 2 ∧ x3 + 2 < (L : Int)) ∧ p) (P := fun r1 r2 M2 => Rg r1 ∧ Rg r2 ∧ (r1 = r2 → k18 (x3 + 6) M2) ∧ (¬ (r1 = r2) → False)) (fun p hp => ⟨⟨by omega, by omega⟩, ⟨by omega, by omega⟩, hp⟩) hR (hxs _) (hxs _) (fun r M' h1 h2 h3 => ⟨h1, h1, fun _ => hk r M' h1 h2 h3, fun q => q rfl⟩)⟩
theorem law_c524 {L : Nat} {xs : Nat → Int} {k18 : Int → Mem → Prop} {x3 : Int} {M : Mem} {B : Int} (hB : 0 ≤ B ∧ B ≤ 1000) (hxs : ∀ j, Rg (xs j)) (h0 : 0 ≤ x3) (hL : x3 + 5 < (L : Int)) (hR : RelB B M) (hk : ∀ r M', Rg r → RelB (B + 1) M' → SameA M M' → k18 (x3 + 6) M') : wp_L_law_524 L xs k18 x3 M := by
  unfold wp_L_law_524
  exact ⟨⟨by omega, by omega⟩, op_look (G := fun p => (0 ≤ x3 + 1 ∧ x3 + 1 < (L : Int)) ∧ p) (P := fun r1 r2 M2 => Rg r1 ∧ Rg r2 ∧ (r1 = r2 → k18 (x3 + 6) M2) ∧ (¬ (r1 = r2) → False)) (fun p hp => ⟨⟨by omega, by omega⟩, hp⟩) hR (hxs _) (fun r M' h1 h2 h3 => ⟨h1, h1, fun _ => hk r M' h1 h2 h3, fun q => q rfl⟩)⟩
theorem law_c547 {L : Nat} {xs : Nat → Int} {k18 : Int → Mem → Prop} {x3 : Int} {M : Mem} {B : Int} (hB : 0 ≤ B ∧ B ≤ 1000) (hxs : ∀ j, Rg (xs j)) (h0 : 0 ≤ x3) (hL : x3 + 5 < (L : Int)) (hR : RelB B M) (hk : ∀ r M', Rg r → RelB (B + 1) M' → SameA M M' → k18 (x3 + 6) M') : wp_L_law_547 L xs k18 x3 M := by
  unfold wp_L_law_547
  exact ⟨⟨by omega, by omega⟩, ⟨by omega, by omega⟩, op_heap (G := fun p => (0 ≤ x3 + 1 ∧ x3 + 1 < (L : Int)) ∧ (0 ≤ x3 + 2 ∧ x3 + 2 < (L : Int)) ∧ p) (P := fun r1 r2 M2 => Rg r1 ∧ Rg r2 ∧ (r1 = r2 → k18 (x3 + 6) M2) ∧ (¬ (r1 = r2) → False)) (fun p hp => ⟨⟨by omega, by omega⟩, ⟨by omega, by omega⟩, hp⟩) hR (hxs _) (hxs _) (fun r M' h1 h2 h3 => ⟨h1, h1, fun _ => hk r M' h1 h2 h3, fun q => q rfl⟩)⟩
theorem law_c580 {L : Nat} {xs : Nat → Int} {k18 : Int → Mem → Prop} {x3 : Int} {M : Mem} {B : Int} (hB : 0 ≤ B ∧ B ≤ 1000) (hxs : ∀ j, Rg (xs j)) (h0 : 0 ≤ x3) (hL : x3 + 5 < (L : Int)) (hR : RelB B M) (hk : ∀ r M', Rg r → RelB (B + 1) M' → SameA M M' → k18 (x3 + 6) M') : wp_L_law_580 L xs k18 x3 M := by
  unfold wp_L_law_580
  exact ⟨⟨by omega, by omega⟩, ⟨by omega, by omega⟩, op_plan (G := fun p => (0 ≤ x3 + 1 ∧ x3 + 1 < (L : Int)) ∧ (0 ≤ x3 + 2 ∧ x3 + 2 < (L : Int)) ∧ p) (P := fun r1 r2 M2 => Rg r1 ∧ Rg r2 ∧ (r1 = r2 → k18 (x3 + 6) M2) ∧ (¬ (r1 = r2) → False)) (fun p hp => ⟨⟨by omega, by omega⟩, ⟨by omega, by omega⟩, hp⟩) hR (hxs _) (hxs _) (fun r M' h1 h2 h3 => ⟨h1, h1, fun _ => hk r M' h1 h2 h3, fun q => q rfl⟩)⟩
theorem law_c613 {L : Nat} {xs : Nat → Int} {k18 : Int → Mem → Prop} {x3 : Int} {M : Mem} {B : Int} (hB : 0 ≤ B ∧ B ≤ 1000) (hxs : ∀ j, Rg (xs j)) (h0 : 0 ≤ x3) (hL : x3 + 5 < (L : Int)) (hR : RelB B M) (hk : ∀ r M', Rg r → RelB (B + 1) M' → SameA M M' → k18 (x3 + 6) M') : wp_L_law_613 L xs k18 x3 M := by
  unfold wp_L_law_613
  exact ⟨⟨by omega, by omega⟩, op_print (G := fun p => (0 ≤ x3 + 1 ∧ x3 + 1 < (L : Int)) ∧ p) (P := fun r1 r2 M2 => Rg r1 ∧ Rg r2 ∧ (r1 = r2 → k18 (x3 + 6) M2) ∧ (¬ (r1 = r2) → False)) (fun p hp => ⟨⟨by omega, by omega⟩, hp⟩) hR (hxs _) (fun r M' h1 h2 h3 => ⟨h1, h1, fun _ => hk r M' h1 h2 h3, fun q => q rfl⟩)⟩
theorem law_c636 {L : Nat} {xs : Nat → Int} {k18 : Int → Mem → Prop} {x3 : Int} {M : Mem} {B : Int} (hB : 0 ≤ B ∧ B ≤ 1000) (hxs : ∀ j, Rg (xs j)) (h0 : 0 ≤ x3) (hL : x3 + 5 < (L : Int)) (hR : RelB B M) (hk : ∀ r M', Rg r → RelB (B + 1) M' → SameA M M' → k18 (x3 + 6) M') : wp_L_law_636 L xs k18 x3 M := by
  unfold wp_L_law_636
  exact ⟨⟨by omega, by omega⟩, ⟨by omega, by omega⟩, op_printed (G := fun p => (0 ≤ x3 + 1 ∧ x3 + 1 < (L : Int)) ∧ (0 ≤ x3 + 2 ∧ x3 + 2 < (L : Int)) ∧ p) (P := fun r1 r2 M2 => Rg r1 ∧ Rg r2 ∧ (r1 = r2 → k18 (x3 + 6) M2) ∧ (¬ (r1 = r2) → False)) (fun p hp => ⟨⟨by omega, by omega⟩, ⟨by omega, by omega⟩, hp⟩) hR (hxs _) (hxs _) (fun r M' h1 h2 h3 => ⟨h1, h1, fun _ => hk r M' h1 h2 h3, fun q => q rfl⟩)⟩
theorem law_c669 {L : Nat} {xs : Nat → Int} {k18 : Int → Mem → Prop} {x3 : Int} {M : Mem} {B : Int} (hB : 0 ≤ B ∧ B ≤ 1000) (hxs : ∀ j, Rg (xs j)) (h0 : 0 ≤ x3) (hL : x3 + 5 < (L : Int)) (hR : RelB B M) (hk : ∀ r M', Rg r → RelB (B + 1) M' → SameA M M' → k18 (x3 + 6) M') : wp_L_law_669 L xs k18 x3 M := by
  unfold wp_L_law_669
  exact ⟨⟨by omega, by omega⟩, ⟨by omega, by omega⟩, op_spoil (G := fun p => (0 ≤ x3 + 1 ∧ x3 + 1 < (L : Int)) ∧ (0 ≤ x3 + 2 ∧ x3 + 2 < (L : Int)) ∧ p) (P := fun r1 r2 M2 => Rg r1 ∧ Rg r2 ∧ (r1 = r2 → k18 (x3 + 6) M2) ∧ (¬ (r1 = r2) → False)) (fun p hp => ⟨⟨by omega, by omega⟩, ⟨by omega, by omega⟩, hp⟩) hR (hxs _) (hxs _) (fun r M' h1 h2 h3 => ⟨h1, h1, fun _ => hk r M' h1 h2 h3, fun q => q rfl⟩)⟩
theorem law_c702 {L : Nat} {xs : Nat → Int} {k18 : Int → Mem → Prop} {x3 : Int} {M : Mem} {B : Int} (hB : 0 ≤ B ∧ B ≤ 1000) (hxs : ∀ j, Rg (xs j)) (h0 : 0 ≤ x3) (hL : x3 + 5 < (L : Int)) (hR : RelB B M) (hk : ∀ r M', Rg r → RelB (B + 1) M' → SameA M M' → k18 (x3 + 6) M') : wp_L_law_702 L xs k18 x3 M := by
  unfold wp_L_law_702
  exact ⟨⟨by omega, by omega⟩, ⟨by omega, by omega⟩, op_label (G := fun p => (0 ≤ x3 + 1 ∧ x3 + 1 < (L : Int)) ∧ (0 ≤ x3 + 2 ∧ x3 + 2 < (L : Int)) ∧ p) (P := fun r1 r2 M2 => Rg r1 ∧ Rg r2 ∧ (r1 = r2 → k18 (x3 + 6) M2) ∧ (¬ (r1 = r2) → False)) (fun p hp => ⟨⟨by omega, by omega⟩, ⟨by omega, by omega⟩, hp⟩) hB hR (hxs _) (hxs _) (fun r M' h1 h2 h3 => ⟨h1, h1, fun _ => hk r M' h1 h2 h3, fun q => q rfl⟩)⟩
theorem law_loop {L : Nat} {xs : Nat → Int} (hL : L ≤ 3072) (hxs : ∀ j, Rg (xs j)) : ∀ (k c : Nat) (x3 : Int) (M : Mem), x3 = 6 * (c : Int) → c + k = L / 6 → RelA M → RelB (c : Int) M → wp_L_law_18 L xs (k + 1) x3 M := by
  intro k
  induction k with
  | zero =>
    intro c x3 M hx hc hA hB
    rw [wp_L_law_18]
    exact ⟨⟨by omega, by omega⟩, ⟨by omega, by omega⟩, fun _ => trivial, fun q => absurd (by omega) q⟩
  | succ k ih =>
    intro c x3 M hx hc hA hB
    rw [wp_L_law_18]
    have kA : ∀ (r : Int) M', Rg r → RelA M' → SameB M M' → wp_L_law_18 L xs (k + 1) (x3 + 6) M' := fun r M' _ h1 h2 => ih (c + 1) (x3 + 6) M' (by omega) (by omega) h1 (RelB_mono (by omega) (RelB_same (fun q hq => by
      rcases hq with hq | hq
      · exact h2.1 q hq.1 hq.2
      · exact h2.2.1 q hq.1) h2.2.2 hB))
    have kB : ∀ (r : Int) M', Rg r → RelB ((c : Int) + 1) M' → SameA M M' → wp_L_law_18 L xs (k + 1) (x3 + 6) M' := fun r M' _ h1 h2 => ih (c + 1) (x3 + 6) M' (by omega) (by omega) (RelA_same h2 hA) h1
    have b0 : 0 ≤ x3 := by omega
    have b5 : x3 + 5 < (L : Int) := by omega
    have bB : 0 ≤ (c : Int) ∧ (c : Int) ≤ 1000 := by omega
    refine ⟨⟨by omega, by omega⟩, ⟨by omega, by omega⟩, fun q => absurd q (by omega), fun _ => ⟨⟨by omega, by omega⟩, bAnd_Rg _ _, fun _ => law_c132 hxs b0 b5 hA kA, fun _ => law_c165 hxs b0 b5 hA kA, fun _ => law_c228 hxs b0 b5 hA kA, fun _ => law_c251 hxs b0 b5 hA kA, fun _ => law_c284 hxs b0 b5 hA kA, fun _ => law_c307 hxs b0 b5 hA kA, fun _ => law_c320 hxs b0 b5 hA kA, fun _ => law_c343 hxs b0 b5 hA kA, fun _ => law_c366 hxs b0 b5 hA kA, fun _ => law_c379 hxs b0 b5 hA kA, fun _ => law_c392 hxs b0 b5 hA kA, fun _ => law_c415 hxs b0 b5 hA kA, fun _ => law_c428 bB hxs b0 b5 hB kB, fun _ => law_c491 bB hxs b0 b5 hB kB, fun _ => law_c524 bB hxs b0 b5 hB kB, fun _ => law_c547 bB hxs b0 b5 hB kB, fun _ => law_c580 bB hxs b0 b5 hB kB, fun _ => law_c613 bB hxs b0 b5 hB kB, fun _ => law_c636 bB hxs b0 b5 hB kB, fun _ => law_c669 bB hxs b0 b5 hB kB, fun _ => law_c702 bB hxs b0 b5 hB kB, fun _ => ih (c + 1) (x3 + 6) M (by omega) (by omega) hA (RelB_mono (by omega) hB)⟩⟩
theorem start_A {r1 r2 r3 r4 : Nat → Int} (h1 : ∀ j : Nat, 0 ≤ j → j < 95 → r1 j = (if j = 0 then 3 else 5)) (h3 : ∀ j : Nat, 32 ≤ j → j < 127 → r3 j = (if j = 32 then 3 else 5)) : RelA (M00 r1 r2 r3 r4) := by
  refine ⟨⟨Int.le_refl 0, (by decide : (0 : Int) ≤ 200), rfl, fun j hj => ?_⟩, ⟨Int.le_refl 0, (by decide : (0 : Int) ≤ 67), rfl, fun j hj => ?_⟩, fun j hj => ?_, ⟨Int.le_refl 0, (by decide : (0 : Int) < 64), fun i hi => ?_⟩, ⟨⟨rfl, Int.le_refl (-1), (by decide : (-1 : Int) < 64)⟩, ⟨rfl, Or.inl rfl⟩, ⟨rfl, Int.le_refl 0, (by decide : (0 : Int) ≤ 4)⟩, ⟨rfl, Int.le_refl (-1), (by decide : (-1 : Int) ≤ 12)⟩, ⟨rfl, Or.inl rfl⟩⟩, ⟨?_, ?_, ?_, ?_, ?_, ?_, rfl, rfl⟩⟩
  · have hj : (j : Int) < 0 := hj
    omega
  · have hj : (j : Int) < 0 := hj
    omega
  · show r3 (j + 32) = r1 j ∧ 1 ≤ r1 j ∧ r1 j ≤ 20
    rw [h1 j (by omega) hj, h3 (j + 32) (by omega) (by omega)]
    by_cases e : j = 0
    · rw [if_pos e, if_pos (by omega)]; decide
    · rw [if_neg e, if_neg (by omega)]; decide
  · have hb : (M00 r1 r2 r3 r4 43 5).toNat.testBit i = false := Nat.zero_testBit i
    refine ⟨?_, fun _ => ?_, fun q => absurd q (by rw [hb]; decide)⟩
    · have : i = 0 ∨ i = 1 ∨ i = 2 ∨ i = 3 ∨ i = 4 ∨ i = 5 := by omega
      rcases this with rfl | rfl | rfl | rfl | rfl | rfl <;> exact (by decide : (0 : Int) ≤ 0 ∧ (0 : Int) ≤ 6 ∧ (0 : Int) ≤ 0 ∧ (0 : Int) ≤ 6)
    · rfl
  · exact (by decide : (0 : Int) ≤ 0 ∧ (0 : Int) ≤ (capR 28 : Int))
  · exact (by decide : (0 : Int) ≤ 0 ∧ (0 : Int) ≤ (capR 30 : Int))
  · exact (by decide : (0 : Int) ≤ 0 ∧ (0 : Int) ≤ (capR 32 : Int))
  · exact (by decide : (0 : Int) ≤ 0 ∧ (0 : Int) ≤ (capR 34 : Int))
  · exact (by decide : (0 : Int) ≤ 0 ∧ (0 : Int) ≤ (capR 36 : Int))
  · exact (by decide : (0 : Int) ≤ 0 ∧ (0 : Int) ≤ (capR 38 : Int))
theorem start_B {r1 r2 r3 r4 : Nat → Int} (h2 : ∀ j : Nat, 0 ≤ j → j < 120 → r2 j = (-1)) (h4 : ∀ j : Nat, 0 ≤ j → j < 120 → r4 j = (-1)) : RelB 0 (M00 r1 r2 r3 r4) := by
  have n0 : nL (M00 r1 r2 r3 r4) = 0 := rfl
  refine ⟨⟨⟨Int.le_refl 0, (by decide : (0 : Int) ≤ 200), rfl⟩, fun i hi => ?_, fun i _ => ⟨rfl, Int.le_refl 0, Int.le_refl 0⟩, fun g _ => ⟨?_, (by decide : (0 : Int) ≤ 40)⟩⟩, fun s _ => ⟨rfl, Int.le_refl 0, (by decide : (0 : Int) < 2 ^ 40)⟩, fun p hp => ?_, ⟨fun p hp q => ?_, fun p hp q => ?_, fun p q hp _ e => ?_⟩, Or.inl rfl⟩
  · rw [n0] at hi; omega
  · unfold cwM
    rw [n0]
    rfl
  · refine ⟨?_, ?_, ?_, rfl, Or.inl rfl⟩
    · show r4 p = r2 p
      rw [h2 p (by omega) hp, h4 p (by omega) hp]
    · show -1 ≤ r2 p
      rw [h2 p (by omega) hp]; decide
    · show r2 p < 0
      rw [h2 p (by omega) hp]; decide
  · have q : (0 : Nat).testBit (p % 40) = true := q
    rw [Nat.zero_testBit] at q
    cases q
  · exact absurd (h2 p (by omega) hp) q
  · exact absurd (h2 p (by omega) hp) e
theorem law_pure (L : Nat) (xs : Nat → Int) (r1 r2 r3 r4 : Nat → Int) (hL : L ≤ 3072) (hxs : ∀ j, Rg (xs j)) (h1 : ∀ j : Nat, 0 ≤ j → j < 95 → r1 j = (if j = 0 then 3 else 5)) (h2 : ∀ j : Nat, 0 ≤ j → j < 120 → r2 j = (-1)) (h3 : ∀ j : Nat, 32 ≤ j → j < 127 → r3 j = (if j = 32 then 3 else 5)) (h4 : ∀ j : Nat, 0 ≤ j → j < 120 → r4 j = (-1)) : ∃ n : Nat, wp_L_law_18 L xs n 0 (M00 r1 r2 r3 r4) :=
  ⟨L / 6 + 1, law_loop hL hxs (L / 6) 0 0 _ rfl (by omega) (start_A h1 h3) (start_B h2 h4)⟩
