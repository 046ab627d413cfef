/-! pure: reading bars: which stripes are wide -/
def mnS (f : Nat → Int) : Nat → Int
  | 0 => 99
  | n + 1 => min (mnS f n) (f n)
def mxS (f : Nat → Int) : Nat → Int
  | 0 => 1
  | n + 1 => max (mxS f n) (f n)
theorem mn_rng {f : Nat → Int} : ∀ {n : Nat}, (∀ j, j < n → 1 ≤ f j ∧ f j ≤ 99) → (1 ≤ mnS f n ∧ mnS f n ≤ 99) ∧ (1 ≤ mxS f n ∧ mxS f n ≤ 99)
  | 0, _ => by simp [mnS, mxS]
  | n + 1, h => by
    have h1 := mn_rng (n := n) (fun j hj => h j (by omega))
    have h2 := h n (by omega)
    simp only [mnS, mxS]
    omega
/-- 1 if stripe i is wide -/
def wid (f : Nat → Int) (n : Nat) (i : Nat) : Int := if 2 * f i ≤ mnS f n + mxS f n then 0 else 1
theorem s_wides_55 {n : Nat} {M0 : Mem} {x2 x3 : Int} {Q : Mem → Prop} (hr : rok M0 0) (hn : M0 0 1 = (n : Int)) (hn67 : n ≤ 67) (hf : ∀ j, j < n → 1 ≤ M0 1 j ∧ M0 1 j ≤ 99) (h2 : x2 = mnS (M0 1) n) (h3 : x3 = mxS (M0 1) n)
    (h : ∀ g, (∀ j, j < n → g j = wid (M0 1) n j) → Q (setRow M0 34 (n : Int) g)) :
    ∀ (k i : Nat) (g : Nat → Int), i + k = n → (∀ j, j < i → g j = wid (M0 1) n j) → wp_X6_findWides_55 0 Q (k + 1) x2 x3 (i : Int) (setRow M0 34 (i : Int) g) := by
  have hcap : (capR 34 : Int) = 67 := rfl
  have e0 : ∀ (m : Int) (f : Nat → Int), setRow M0 34 m f 0 = M0 0 := fun m f => setRow_ne M0 m f (by decide) (by decide)
  have e1 : ∀ (m : Int) (f : Nat → Int), setRow M0 34 m f 1 = M0 1 := fun m f => setRow_ne M0 m f (by decide) (by decide)
  have hb := mn_rng hf
  subst h2
  subst h3
  intro k
  induction k with
  | zero =>
    intro i g hi hg
    rw [wp_X6_findWides_55]
    unfold wp_X4_size
    rw [e0, hn]
    refine ⟨⟨by omega, by omega⟩, ⟨by omega, by omega⟩, fun _ => ?_, fun c => absurd (by omega) c⟩
    rw [show i = n by omega]
    exact h g (fun j hj => hg j (by omega))
  | succ k ih =>
    intro i g hi hg
    rw [wp_X6_findWides_55]
    unfold wp_X4_size
    rw [e0, hn]
    have hfi := hf i (by omega)
    refine ⟨⟨by omega, by omega⟩, ⟨by omega, by omega⟩, fun c => absurd c (by omega), fun _ => ?_⟩
    refine s_at_in (by unfold rok; rw [e0]; exact hr) (by omega) (by rw [e0, hn]; omega) ?_
    rw [e1, Int.toNat_natCast]
    refine ⟨⟨by omega, by omega⟩, ⟨by omega, by omega⟩, fun c => ?_, fun c => ?_⟩
    · exact addF (F := wid (M0 1) n) (by rw [hcap]; omega) hg (by unfold wid; rw [if_pos c]) (fun g' hg' => ih (i + 1) g' (by omega) hg')
    · exact addF (F := wid (M0 1) n) (by rw [hcap]; omega) hg (by unfold wid; rw [if_neg c]) (fun g' hg' => ih (i + 1) g' (by omega) hg')
theorem s_wides_8 {n : Nat} {M0 : Mem} {Q : Mem → Prop} (hr : rok M0 0) (hn : M0 0 1 = (n : Int)) (hn67 : n ≤ 67) (hf : ∀ j, j < n → 1 ≤ M0 1 j ∧ M0 1 j ≤ 99)
    (h : ∀ g, (∀ j, j < n → g j = wid (M0 1) n j) → Q (setRow M0 34 (n : Int) g)) :
    ∀ (k i : Nat), i + k = n → wp_X6_findWides_8 0 Q (k + 1) (mnS (M0 1) i) (mxS (M0 1) i) (i : Int) M0 := by
  intro k
  induction k with
  | zero =>
    intro i hi
    rw [wp_X6_findWides_8]
    unfold wp_X4_size
    rw [hn]
    refine ⟨⟨by omega, by omega⟩, ⟨by omega, by omega⟩, fun _ => s_clear ⟨n + 1, ?_⟩, fun c => absurd (by omega) c⟩
    rw [show i = n by omega]
    exact s_wides_55 hr hn hn67 hf rfl rfl h n 0 _ (by omega) (fun j hj => absurd hj (by omega))
  | succ k ih =>
    intro i hi
    rw [wp_X6_findWides_8]
    unfold wp_X4_size
    rw [hn]
    have hfi := hf i (by omega)
    have hb := mn_rng (f := M0 1) (n := i) (fun j hj => hf j (by omega))
    refine ⟨⟨by omega, by omega⟩, ⟨by omega, by omega⟩, fun c => absurd c (by omega), fun _ => ?_⟩
    refine s_at_in hr (by omega) (by omega) ?_
    show Rg (mnS (M0 1) i) ∧ Rg (M0 1 ((i : Int)).toNat) ∧ _
    rw [Int.toNat_natCast]
    refine ⟨⟨by omega, by omega⟩, ⟨by omega, by omega⟩, ?_⟩
    refine s_at_in hr (by omega) (by omega) ?_
    show Rg (mxS (M0 1) i) ∧ Rg (M0 1 ((i : Int)).toNat) ∧ _
    rw [Int.toNat_natCast]
    exact ⟨⟨by omega, by omega⟩, ⟨by omega, by omega⟩, ih (i + 1) (by omega)⟩
theorem s_findWides {n : Nat} {M0 : Mem} {Q : Mem → Prop} (hr : rok M0 0) (hn : M0 0 1 = (n : Int)) (hn67 : n ≤ 67) (hf : ∀ j, j < n → 1 ≤ M0 1 j ∧ M0 1 j ≤ 99) (h : ∀ g, (∀ j, j < n → g j = wid (M0 1) n j) → Q (setRow M0 34 (n : Int) g)) : wp_X6_findWides 0 M0 Q := by
  unfold wp_X6_findWides
  exact ⟨n + 1, s_wides_8 hr hn hn67 hf h n 0 (by omega)⟩
