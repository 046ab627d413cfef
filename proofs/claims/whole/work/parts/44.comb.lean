/-! pure: layouts: heaps of groups d (0 .. 2), heaps of sheets s (0 .. 3, 3 none) -/
def dig3 (d : Nat → Nat) : Prop := ∀ g, g < 6 → d g < 3
def dig4 (s : Nat → Nat) : Prop := ∀ i, i < 3 → s i < 4
def c3 (d : Nat → Nat) : Nat := 243 * d 0 + 81 * d 1 + 27 * d 2 + 9 * d 3 + 3 * d 4 + d 5
def c4 (d : Nat → Nat) : Nat := 1024 * d 0 + 256 * d 1 + 64 * d 2 + 16 * d 3 + 4 * d 4 + d 5
def cS (s : Nat → Nat) : Nat := 16 * s 0 + 4 * s 1 + s 2
def ndH (c : Nat → Int) (d : Nat → Nat) (h : Nat) : Int := sm (fun g => if d g = h then c g else 0) 6
def hsH (r : Nat → Int) (s : Nat → Nat) (h : Nat) : Int := sm (fun i => if s i = h then r i else 0) 3
def feas (c r : Nat → Int) (d s : Nat → Nat) : Prop := dig3 d ∧ dig4 s ∧ (∀ g, g < 6 → c g = 0 → d g = 0) ∧ ∀ h, h < 3 → ndH c d h ≤ hsH r s h
def b1 (p : Prop) [Decidable p] : Nat := if p then 1 else 0
def shN (s : Nat → Nat) : Nat := b1 (s 0 < 3) + b1 (s 1 < 3) + b1 (s 2 < 3)
def hpN (s : Nat → Nat) : Nat := b1 (s 0 = 0 ∨ s 1 = 0 ∨ s 2 = 0) + b1 (s 0 = 1 ∨ s 1 = 1 ∨ s 2 = 1) + b1 (s 0 = 2 ∨ s 1 = 2 ∨ s 2 = 2)
def rkS (s : Nat → Nat) : Nat := 4 * (shN s - hpN s) + shN s
def le3 (r1 a1 b1 r2 a2 b2 : Nat) : Prop := r1 < r2 ∨ (r1 = r2 ∧ (a1 < a2 ∨ (a1 = a2 ∧ b1 ≤ b2)))
def best (c r : Nat → Int) (d s : Nat → Nat) : Prop := feas c r d s ∧ ∀ d' s', feas c r d' s' → le3 (rkS s) (c3 d) (cS s) (rkS s') (c3 d') (cS s')
theorem c3_inj {d d' : Nat → Nat} (h : dig3 d) (h' : dig3 d') (e : c3 d = c3 d') : ∀ g, g < 6 → d g = d' g := by
  have a0 := h 0 (by decide); have a1 := h 1 (by decide); have a2 := h 2 (by decide); have a3 := h 3 (by decide); have a4 := h 4 (by decide); have a5 := h 5 (by decide)
  have z0 := h' 0 (by decide); have z1 := h' 1 (by decide); have z2 := h' 2 (by decide); have z3 := h' 3 (by decide); have z4 := h' 4 (by decide); have z5 := h' 5 (by decide)
  unfold c3 at e
  intro g hg
  have e0 : d 0 = d' 0 := by omega
  have e1 : d 1 = d' 1 := by omega
  have e2 : d 2 = d' 2 := by omega
  have e3 : d 3 = d' 3 := by omega
  have e4 : d 4 = d' 4 := by omega
  have e5 : d 5 = d' 5 := by omega
  have : g = 0 ∨ g = 1 ∨ g = 2 ∨ g = 3 ∨ g = 4 ∨ g = 5 := by omega
  rcases this with rfl | rfl | rfl | rfl | rfl | rfl <;> assumption
theorem cS_inj {s s' : Nat → Nat} (h : dig4 s) (h' : dig4 s') (e : cS s = cS s') : ∀ i, i < 3 → s i = s' i := by
  have a0 := h 0 (by decide); have a1 := h 1 (by decide); have a2 := h 2 (by decide)
  have z0 := h' 0 (by decide); have z1 := h' 1 (by decide); have z2 := h' 2 (by decide)
  unfold cS at e
  intro g hg
  have e0 : s 0 = s' 0 := by omega
  have e1 : s 1 = s' 1 := by omega
  have e2 : s 2 = s' 2 := by omega
  have : g = 0 ∨ g = 1 ∨ g = 2 := by omega
  rcases this with rfl | rfl | rfl <;> assumption
theorem best_uniq {c r : Nat → Int} {d s d' s' : Nat → Nat} (h : best c r d s) (h' : best c r d' s') : (∀ g, g < 6 → d g = d' g) ∧ ∀ i, i < 3 → s i = s' i := by
  have h1 := h.2 d' s' h'.1
  have h2 := h'.2 d s h.1
  unfold le3 at h1 h2
  exact ⟨c3_inj h.1.1 h'.1.1 (by omega), cS_inj h.1.2.1 h'.1.2.1 (by omega)⟩
/-- the codes of groups in base 3 and in base 4 have one order -/
theorem c34 {d d' : Nat → Nat} (h : dig3 d) (h' : dig3 d') (hl : c4 d < c4 d') : c3 d < c3 d' := by
  have a0 := h 0 (by decide); have a1 := h 1 (by decide); have a2 := h 2 (by decide); have a3 := h 3 (by decide); have a4 := h 4 (by decide); have a5 := h 5 (by decide)
  have z0 := h' 0 (by decide); have z1 := h' 1 (by decide); have z2 := h' 2 (by decide); have z3 := h' 3 (by decide); have z4 := h' 4 (by decide); have z5 := h' 5 (by decide)
  unfold c4 at hl
  unfold c3
  rcases Nat.lt_trichotomy (d 0) (d' 0) with q | q | q
  · omega
  · rcases Nat.lt_trichotomy (d 1) (d' 1) with q1 | q1 | q1
    · omega
    · rcases Nat.lt_trichotomy (d 2) (d' 2) with q2 | q2 | q2
      · omega
      · rcases Nat.lt_trichotomy (d 3) (d' 3) with q3 | q3 | q3
        · omega
        · rcases Nat.lt_trichotomy (d 4) (d' 4) with q4 | q4 | q4 <;> omega
        · omega
      · omega
    · omega
  · omega
theorem c34e {d d' : Nat → Nat} (h : dig3 d) (h' : dig3 d') (hl : c4 d = c4 d') : c3 d = c3 d' := by
  have a0 := h 0 (by decide); have a1 := h 1 (by decide); have a2 := h 2 (by decide); have a3 := h 3 (by decide); have a4 := h 4 (by decide); have a5 := h 5 (by decide)
  have z0 := h' 0 (by decide); have z1 := h' 1 (by decide); have z2 := h' 2 (by decide); have z3 := h' 3 (by decide); have z4 := h' 4 (by decide); have z5 := h' 5 (by decide)
  unfold c4 at hl
  unfold c3
  omega
/-! heaps by other names -/
def sw (x y v : Nat) : Nat := if v = x then y else if v = y then x else v
theorem sw_lt {x y v : Nat} (hx : x < 3) (hy : y < 3) (hv : v < 3) : sw x y v < 3 := by unfold sw; split; · omega
                                                                                        · split <;> omega
theorem sw_eq {x y v h : Nat} : sw x y v = h ↔ v = sw x y h := by
  unfold sw
  constructor
  · intro q
    split at q
    · subst q; split <;> simp_all
    · split at q
      · subst q; simp_all
      · subst q; simp_all
  · intro q
    split at q
    · subst q; split <;> simp_all
    · split at q
      · subst q; simp_all
      · subst q; simp_all
theorem sw_rk0 : ∀ x, x < 3 → ∀ y, y < 3 → ∀ p, p < 4 → ∀ q, q < 4 → ∀ r, r < 4 → rkS (fun i => sw x y (if i = 0 then p else if i = 1 then q else r)) = rkS (fun i => if i = 0 then p else if i = 1 then q else r) := by decide +kernel
theorem sw_rk {x y : Nat} {s : Nat → Nat} (hx : x < 3) (hy : y < 3) (hs : dig4 s) : rkS (fun i => sw x y (s i)) = rkS s := by
  have := sw_rk0 x hx y hy (s 0) (hs 0 (by decide)) (s 1) (hs 1 (by decide)) (s 2) (hs 2 (by decide))
  exact this
/-- heaps are opened in their order -/
def can (c : Nat → Int) (d : Nat → Nat) : Nat → Nat → Nat → Prop
  | 0, _, _ => True
  | k + 1, g, o => (c g = 0 → can c d k (g + 1) o) ∧ (c g ≠ 0 → d g ≤ o ∧ can c d k (g + 1) (max o (d g + 1)))
theorem can_viol {c : Nat → Int} {d : Nat → Nat} : ∀ (k g o : Nat), g + k = 6 → (∀ g', g' < g → c g' ≠ 0 → d g' < o) → ¬ can c d k g o → ∃ g0 x, g0 < 6 ∧ c g0 ≠ 0 ∧ x < d g0 ∧ ∀ g', g' < g0 → c g' ≠ 0 → d g' < x
  | 0, _, _, _, _, h => absurd trivial h
  | k + 1, g, o, hg, hp, h => by
    by_cases c0 : c g = 0
    · refine can_viol k (g + 1) o (by omega) (fun g' h1 h2 => ?_) (fun q => h ⟨fun _ => q, fun x => absurd c0 x⟩)
      by_cases e : g' = g
      · subst e; exact absurd c0 h2
      · exact hp g' (by omega) h2
    · by_cases ho : d g ≤ o
      · refine can_viol k (g + 1) (max o (d g + 1)) (by omega) (fun g' h1 h2 => ?_) (fun q => h ⟨fun x => absurd x c0, fun _ => ⟨ho, q⟩⟩)
        by_cases e : g' = g
        · subst e; omega
        · have := hp g' (by omega) h2; omega
      · exact ⟨g, o, by omega, c0, by omega, hp⟩
/-- a layout whose heaps are not opened in order has an earlier one of the same rank -/
theorem can_better {c r : Nat → Int} {d s : Nat → Nat} (hf : feas c r d s) (hn : ¬ can c d 6 0 0) : ∃ d' s', feas c r d' s' ∧ rkS s' = rkS s ∧ c3 d' < c3 d := by
  obtain ⟨h1, h2, h3, h4⟩ := hf
  obtain ⟨g0, x, hg0, hc0, hx, hb⟩ := can_viol 6 0 0 rfl (fun g' h => absurd h (by omega)) hn
  have hy : d g0 < 3 := h1 g0 hg0
  have hx3 : x < 3 := by omega
  generalize hyy : d g0 = y at *
  have D : ∀ g, g < 6 → (if c g = 0 then 0 else sw x y (d g)) < 3 := by
    intro g hg
    split
    · decide
    · exact sw_lt hx3 hy (h1 g hg)
  refine ⟨fun g => if c g = 0 then 0 else sw x y (d g), fun i => sw x y (s i), ⟨D, fun i hi => ?_, fun g _ e => by simp [e], fun h hh => ?_⟩, sw_rk hx3 hy h2, ?_⟩
  · have := h2 i hi
    show sw x y (s i) < 4
    unfold sw
    split
    · omega
    · split <;> omega
  · have e1 : ndH c (fun g => if c g = 0 then 0 else sw x y (d g)) h = ndH c d (sw x y h) := by
      unfold ndH
      refine sm_cong (fun g hg => ?_)
      by_cases e : c g = 0
      · simp [e]
      · simp only [if_neg e]
        by_cases q : d g = sw x y h
        · rw [if_pos q, if_pos (sw_eq.mpr q)]
        · rw [if_neg q, if_neg (fun w => q (sw_eq.mp w))]
    have e2 : hsH r (fun i => sw x y (s i)) h = hsH r s (sw x y h) := by
      unfold hsH
      refine sm_cong (fun i hi => ?_)
      by_cases q : s i = sw x y h
      · simp only [if_pos q, if_pos (sw_eq.mpr q)]
      · simp only [if_neg q, if_neg (fun w => q (sw_eq.mp w))]
    rw [e1, e2]
    exact h4 _ (sw_lt hx3 hy hh)
  · generalize hd' : (fun g => if c g = 0 then 0 else sw x y (d g)) = d' at *
    have s1 : ∀ g, g < g0 → d' g = d g := by
      intro g hg
      rw [← hd']
      show (if c g = 0 then 0 else sw x y (d g)) = d g
      by_cases e : c g = 0
      · rw [if_pos e, h3 g (by omega) e]
      · have := hb g hg e
        rw [if_neg e]
        unfold sw
        rw [if_neg (by omega), if_neg (by omega)]
    have s2 : d' g0 = x := by
      rw [← hd']
      show (if c g0 = 0 then 0 else sw x y (d g0)) = x
      rw [if_neg hc0, hyy]
      unfold sw
      rw [if_neg (by omega), if_pos rfl]
    have s3 : ∀ g, g < 6 → d' g < 3 := fun g hg => by rw [← hd']; exact D g hg
    have a1 := s3 1 (by decide); have a2 := s3 2 (by decide); have a3 := s3 3 (by decide); have a4 := s3 4 (by decide); have a5 := s3 5 (by decide)
    unfold c3
    have : g0 = 0 ∨ g0 = 1 ∨ g0 = 2 ∨ g0 = 3 ∨ g0 = 4 ∨ g0 = 5 := by omega
    rcases this with rfl | rfl | rfl | rfl | rfl | rfl
    · omega
    · rw [s1 0 (by decide)]; omega
    · rw [s1 0 (by decide), s1 1 (by decide)]; omega
    · rw [s1 0 (by decide), s1 1 (by decide), s1 2 (by decide)]; omega
    · rw [s1 0 (by decide), s1 1 (by decide), s1 2 (by decide), s1 3 (by decide)]; omega
    · rw [s1 0 (by decide), s1 1 (by decide), s1 2 (by decide), s1 3 (by decide), s1 4 (by decide)]; omega
/-! the least heaps of groups from g on -/
def okD (c : Nat → Int) (d : Nat → Nat) : Nat → Nat → Nat → (Nat → Int) → Prop
  | 0, _, _, _ => True
  | k + 1, g, o, rm => (c g = 0 → d g = 0 ∧ okD c d k (g + 1) o rm) ∧ (c g ≠ 0 → d g < 3 ∧ d g ≤ o ∧ c g ≤ rm (d g) ∧ okD c d k (g + 1) (max o (d g + 1)) (upr rm (d g) (rm (d g) - c g)))
def cdD (d : Nat → Nat) : Nat → Nat → Nat
  | 0, _ => 0
  | k + 1, g => d g * 4 ^ (5 - g) + cdD d k (g + 1)
def ndk (c : Nat → Int) (d : Nat → Nat) (h : Nat) : Nat → Nat → Int
  | 0, _ => 0
  | k + 1, g => (if d g = h then c g else 0) + ndk c d h k (g + 1)
theorem okD_feas {c : Nat → Int} {d : Nat → Nat} : ∀ (k g o : Nat) (rm : Nat → Int), (∀ h, h < 3 → 0 ≤ rm h) → okD c d k g o rm → (∀ j, g ≤ j → j < g + k → d j < 3 ∧ (c j = 0 → d j = 0)) ∧ ∀ h, h < 3 → ndk c d h k g ≤ rm h
  | 0, _, _, rm, hr, _ => ⟨fun j h1 h2 => absurd h1 (by omega), fun h hh => hr h hh⟩
  | k + 1, g, o, rm, hr, ho => by
    obtain ⟨o1, o2⟩ := ho
    by_cases c0 : c g = 0
    · obtain ⟨z, o3⟩ := o1 c0
      obtain ⟨i1, i2⟩ := okD_feas k (g + 1) o rm hr o3
      refine ⟨fun j h1 h2 => ?_, fun h hh => ?_⟩
      · by_cases e : j = g
        · subst e; exact ⟨by omega, fun _ => z⟩
        · exact i1 j (by omega) (by omega)
      · have := i2 h hh
        simp only [ndk, c0, ite_self]
        omega
    · obtain ⟨o3, o4, o5, o6⟩ := o2 c0
      have hr' : ∀ h, h < 3 → 0 ≤ upr rm (d g) (rm (d g) - c g) h := by
        intro h hh
        by_cases e : h = d g
        · rw [e, upr_at]; omega
        · rw [upr_ne _ _ e]; exact hr h hh
      obtain ⟨i1, i2⟩ := okD_feas k (g + 1) _ _ hr' o6
      refine ⟨fun j h1 h2 => ?_, fun h hh => ?_⟩
      · by_cases e : j = g
        · subst e; exact ⟨o3, fun q => absurd q c0⟩
        · exact i1 j (by omega) (by omega)
      · have := i2 h hh
        simp only [ndk]
        by_cases e : d g = h
        · subst e
          rw [upr_at] at this
          rw [if_pos rfl]; omega
        · rw [upr_ne _ _ (fun q => e q.symm)] at this
          rw [if_neg e]; omega
theorem ndk_nn {c : Nat → Int} {d : Nat → Nat} {h : Nat} : ∀ (k g : Nat), (∀ j, g ≤ j → j < g + k → 0 ≤ c j) → 0 ≤ ndk c d h k g
  | 0, _, _ => Int.le_refl _
  | k + 1, g, hc => by
    have := ndk_nn (d := d) (h := h) k (g + 1) (fun j h1 h2 => hc j (by omega) (by omega))
    have h2 := hc g (by omega) (by omega)
    simp only [ndk]
    split <;> omega
theorem feas_okD {c : Nat → Int} {d : Nat → Nat} : ∀ (k g o : Nat) (rm : Nat → Int), (∀ j, g ≤ j → j < g + k → 0 ≤ c j ∧ d j < 3 ∧ (c j = 0 → d j = 0)) → can c d k g o → (∀ h, h < 3 → ndk c d h k g ≤ rm h) → okD c d k g o rm
  | 0, _, _, _, _, _, _ => trivial
  | k + 1, g, o, rm, hj, hc, hs => by
    obtain ⟨q1, q2, q3⟩ := hj g (by omega) (by omega)
    refine ⟨fun c0 => ⟨q3 c0, feas_okD k (g + 1) o rm (fun j h1 h2 => hj j (by omega) (by omega)) (hc.1 c0) (fun h hh => ?_)⟩, fun c0 => ?_⟩
    · have := hs h hh
      simp only [ndk, c0, ite_self] at this
      omega
    · obtain ⟨q4, q5⟩ := hc.2 c0
      have s := hs (d g) q2
      have nn := ndk_nn (c := c) (d := d) (h := d g) k (g + 1) (fun j h1 h2 => (hj j (by omega) (by omega)).1)
      simp only [ndk, if_pos] at s
      refine ⟨q2, q4, by omega, feas_okD k (g + 1) _ _ (fun j h1 h2 => hj j (by omega) (by omega)) q5 (fun h hh => ?_)⟩
      have := hs h hh
      simp only [ndk] at this
      by_cases e : d g = h
      · subst e
        rw [upr_at]
        rw [if_pos rfl] at this
        omega
      · rw [upr_ne _ _ (fun q => e q.symm)]
        rw [if_neg e] at this
        omega
theorem ndk_6 (c : Nat → Int) (d : Nat → Nat) (h : Nat) : ndk c d h 6 0 = ndH c d h := by
  unfold ndH
  simp only [ndk, sm, Nat.reduceAdd]
  omega
theorem cdD_6 (d : Nat → Nat) : cdD d 6 0 = c4 d := by
  unfold c4
  simp only [cdD, Nat.reduceAdd]
  omega
