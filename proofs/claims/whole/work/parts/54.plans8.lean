/-! pure: labels laid by the reference -/
theorem s8_84 {k41 : Int → Int → Int → Int → Mem → Prop} {Q : Mem → Prop} {fre : Nat → Int} {s : Nat → Nat} {h P0 : Nat} {x3 x4 : Int} {M : Mem} (hh : h < 3) (hs : dig4 s) (h84 : ∀ i, i < 3 → M 84 i = (s i : Int)) (h75 : ∀ i, i < 3 → M 75 i = fre i ∧ 0 ≤ fre i ∧ fre i < 2 ^ 40) (hP : P0 < 120) (hq : k41 (h : Int) ((P0 : Int) + 1) x3 (x4 + 1) (up M 89 P0 x4)) :
    ∀ (f k : Nat), k + f = 120 → nxt (okP fre s h) k = P0 → wp_X8_plans_84 k41 Q (f + 1) (h : Int) (k : Int) x3 x4 M := by
  intro f
  induction f with
  | zero =>
    intro k hk hn
    rw [nxt_end (by omega)] at hn
    omega
  | succ f ih =>
    intro k hk hn
    have e1 : ((k : Int) / 40).toNat = k / 40 := by omega
    have e2 : (k : Int) % 40 = ((k % 40 : Nat) : Int) := by omega
    rw [wp_X8_plans_84, e1, e2, h84 _ (by omega)]
    have s4 := hs (k / 40) (by omega)
    obtain ⟨g1, g2, g3⟩ := h75 (k / 40) (by omega)
    rw [g1, L_bit g2 g3 (by omega), Int.toNat_natCast]
    refine ⟨⟨⟨by omega, by omega⟩, by omega⟩, ⟨by omega, by omega⟩, ⟨by omega, by omega⟩, ⟨by omega, by omega⟩, fun q => ?_, fun q => ⟨⟨⟨by omega, by omega⟩, by omega⟩, ⟨by omega, by omega⟩, ⟨⟨by omega, by omega⟩, by omega⟩, ?_⟩⟩
    · have no : ¬ okP fre s h k = true := by
        unfold okP
        simp
        intro e
        omega
      exact ih (k + 1) (by omega) (by rw [← nxt_no (by omega) no]; exact hn)
    · have es : s (k / 40) = h := by omega
      by_cases c : (fre (k / 40)).toNat.testBit (k % 40) = true
      · rw [if_pos c]
        have yes : okP fre s h k = true := by
          unfold okP
          simp [es, c]
        rw [nxt_yes (by omega) yes] at hn
        subst hn
        exact ⟨by decide, fun _ => ⟨⟨by omega, by omega⟩, hq⟩, fun z => absurd (by decide) z⟩
      · rw [if_neg c]
        have no : ¬ okP fre s h k = true := by
          unfold okP
          simp [c]
        exact ⟨by decide, fun z => absurd (by decide) z, fun _ => ih (k + 1) (by omega) (by rw [← nxt_no (by omega) no]; exact hn)⟩
def RPl (w gr : Nat → Int) (n : Nat) (fre : Nat → Int) (d s : Nat → Nat) (h t : Nat) (M : Mem) : Prop := ∀ p, p < 120 → M 89 p = if s (p / 40) < h then plF w gr n fre d s p else if s (p / 40) = h then (stH (okP fre s h) (acP w gr n d h) t).2 p else -1
theorem s8_plans {w gr fre : Nat → Int} {n : Nat} {d s : Nat → Nat} {M0 : Mem} {Q : Mem → Prop} (hn : n ≤ 200) (hf : feas (cwF w gr n) (rmF fre) d s)
    (e31 : M0 62 31 = (n : Int)) (e80 : ∀ i, i < n → M0 80 i = w i ∧ (w i = 0 ∨ w i = 1)) (e78 : ∀ i, i < n → M0 78 i = gr i ∧ 0 ≤ gr i ∧ gr i < 6) (e75 : ∀ i, i < 3 → M0 75 i = fre i ∧ 0 ≤ fre i ∧ fre i < 2 ^ 40) (e83 : ∀ g, g < 6 → M0 83 g = (d g : Int)) (e84 : ∀ i, i < 3 → M0 84 i = (s i : Int))
    (h : ∀ M', frK 89 89 M0 M' → (∀ p, p < 120 → M' 89 p = plF w gr n fre d s p) → Q M') : wp_X8_plans M0 Q := by
  have fr : ∀ M, frK 89 89 M0 M → M 62 = M0 62 ∧ M 80 = M0 80 ∧ M 78 = M0 78 ∧ M 75 = M0 75 ∧ M 83 = M0 83 ∧ M 84 = M0 84 := fun M hM => ⟨hM 62 (by decide) (by decide), hM 80 (by decide) (by decide), hM 78 (by decide) (by decide), hM 75 (by decide) (by decide), hM 83 (by decide) (by decide), hM 84 (by decide) (by decide)⟩
  have go41 : ∀ (k32 : Int → Int → Int → Mem → Prop) (hp g : Nat), hp < 3 → g < 6 → (∀ M', frK 89 89 M0 M' → RPl w gr n fre d s hp (200 * (g + 1)) M' → k32 (hp : Int) ((stH (okP fre s hp) (acP w gr n d hp) (200 * (g + 1))).1 : Int) ((g : Int) + 1) M') → ∀ (k i : Nat) (M : Mem), i + k = n → frK 89 89 M0 M → RPl w gr n fre d s hp (200 * g + i) M → wp_X8_plans_41 k32 Q (k + 1) (hp : Int) ((stH (okP fre s hp) (acP w gr n d hp) (200 * g + i)).1 : Int) (g : Int) (i : Int) M := by
    intro k32 hp g hp3 hg hq k
    induction k with
    | zero =>
      intro i M hi hM hR
      obtain ⟨f62, -⟩ := fr M hM
      rw [wp_X8_plans_41, f62, e31]
      have e : i = n := by omega
      subst e
      have sk : stH (okP fre s hp) (acP w gr i d hp) (200 * (g + 1)) = stH (okP fre s hp) (acP w gr i d hp) (200 * g + i) := by
        rw [show 200 * (g + 1) = 200 * g + i + (200 - i) by omega]
        refine stH_skip _ (fun j q1 q2 z => ?_)
        unfold acP at z
        simp only [decide_eq_true_eq] at z
        have := z.1
        omega
      refine ⟨⟨by omega, by omega⟩, ⟨by omega, by omega⟩, fun _ => ?_, fun q => absurd (by omega) q⟩
      have := hq M hM (fun p hp' => by rw [sk]; exact hR p hp')
      rw [sk] at this
      exact this
    | succ k ih =>
      intro i M hi hM hR
      obtain ⟨f62, f80, f78, f75, f83, f84⟩ := fr M hM
      rw [wp_X8_plans_41, f62, e31, f80, f78, f83, Int.toNat_natCast, Int.toNat_natCast]
      obtain ⟨w1, w2⟩ := e80 i (by omega)
      obtain ⟨v1, v2, v3⟩ := e78 i (by omega)
      have m1 : (200 * g + i) % 200 = i := by omega
      have m2 : (200 * g + i) / 200 = g := by omega
      have d3 := hf.1 g hg
      have dg := e83 g hg
      have skip : ¬ (w i = 1 ∧ gr i = (g : Int) ∧ d g = hp) → wp_X8_plans_41 k32 Q (k + 1) (hp : Int) ((stH (okP fre s hp) (acP w gr n d hp) (200 * g + i)).1 : Int) (g : Int) ((i : Int) + 1) M := by
        intro hn2
        have sk : stH (okP fre s hp) (acP w gr n d hp) (200 * g + (i + 1)) = stH (okP fre s hp) (acP w gr n d hp) (200 * g + i) := by
          show stH _ _ (200 * g + i + 1) = _
          refine stH_no (fun q => hn2 ?_)
          unfold acP at q
          simp only [decide_eq_true_eq, m1, m2] at q
          exact q.2
        have st := ih (i + 1) M (by omega) hM (fun p hp' => by rw [sk]; exact hR p hp')
        rw [sk] at st
        exact st
      rw [w1, v1, dg]
      refine ⟨⟨by omega, by omega⟩, ⟨by omega, by omega⟩, fun q => absurd q (by omega), fun _ => ⟨⟨by omega, by omega⟩, ⟨by omega, by omega⟩, fun q => skip (fun z => by have := z.1; omega), fun q => ⟨⟨by omega, by omega⟩, ⟨by omega, by omega⟩, ⟨by omega, by omega⟩, fun q2 => skip (fun z => q2 z.2.1), fun q2 => ⟨⟨by omega, by omega⟩, ⟨by omega, by omega⟩, ⟨by omega, by omega⟩, fun q3 => ?_, fun q3 => skip (fun z => q3 (by have := z.2.2; omega))⟩⟩⟩⟩
      have ac : acP w gr n d hp (200 * g + i) = true := by
        unfold acP
        simp only [decide_eq_true_eq, m1, m2]
        exact ⟨by omega, by omega, by omega, by omega⟩
      have cap := pl_cap hn hf (h := hp) hp3
      obtain ⟨n1, n2, n3⟩ := stH_next cap (show 200 * g + i < 1200 by omega) ac
      obtain ⟨i1, i2⟩ := stH_inv cap (200 * g + i) (by omega)
      have st1 := stH_yes (ok := okP fre s hp) ac
      generalize hk0 : (stH (okP fre s hp) (acP w gr n d hp) (200 * g + i)).1 = k0 at *
      generalize hP0 : nxt (okP fre s hp) k0 = P0 at *
      have sP : s (P0 / 40) = hp := by
        unfold okP at n2
        simp at n2
        exact n2.1
      refine ⟨120 - k0 + 1, s8_84 (fre := fre) (s := s) hp3 hf.2.1 (by rw [f84]; exact e84) (by rw [f75]; exact e75) n1 ?_ (120 - k0) k0 (by omega) hP0⟩
      have st := ih (i + 1) (up M 89 P0 (i : Int)) (by omega) (hM.up _ _ (Or.inl rfl)) (fun p hp' => ?_)
      · rw [show 200 * g + (i + 1) = 200 * g + i + 1 from rfl, st1] at st
        exact st
      · rw [up_same, show 200 * g + (i + 1) = 200 * g + i + 1 from rfl, st1]
        show _ = if s (p / 40) < hp then _ else if s (p / 40) = hp then upr _ P0 (((200 * g + i) % 200 : Nat) : Int) p else -1
        rw [m1]
        by_cases e : p = P0
        · subst e
          rw [upr_at, upr_at, if_neg (by omega), if_pos sP]
        · rw [upr_ne _ _ e, upr_ne _ _ e]
          exact hR p hp'
  have go32 : ∀ (k23 : Int → Mem → Prop) (hp : Nat), hp < 3 → (∀ M', frK 89 89 M0 M' → RPl w gr n fre d s hp 1200 M' → k23 ((hp : Int) + 1) M') → ∀ (k g : Nat) (M : Mem), g + k = 6 → frK 89 89 M0 M → RPl w gr n fre d s hp (200 * g) M → wp_X8_plans_32 k23 Q (k + 1) (hp : Int) ((stH (okP fre s hp) (acP w gr n d hp) (200 * g)).1 : Int) (g : Int) M := by
    intro k23 hp hp3 hq k
    induction k with
    | zero =>
      intro g M hg hM hR
      have e : g = 6 := by omega
      subst e
      rw [wp_X8_plans_32]
      exact ⟨by decide, fun _ => hq M hM hR, fun q => absurd (by decide) q⟩
    | succ k ih =>
      intro g M hg hM hR
      rw [wp_X8_plans_32]
      refine ⟨⟨by omega, by omega⟩, fun q => absurd q (by omega), fun _ => ⟨n + 1, ?_⟩⟩
      exact go41 (fun x1 x2 x3 M => wp_X8_plans_32 k23 Q (k + 1) x1 x2 x3 M) hp g hp3 (by omega) (fun M' h1 h2 => ih (g + 1) M' (by omega) h1 h2) n 0 M (by omega) hM hR
  have go23 : ∀ (k hp : Nat) (M : Mem), hp + k = 3 → frK 89 89 M0 M → RPl w gr n fre d s hp 0 M → wp_X8_plans_23 Q (k + 1) (hp : Int) M := by
    intro k
    induction k with
    | zero =>
      intro hp M hh hM hR
      have e : hp = 3 := by omega
      subst e
      rw [wp_X8_plans_23]
      refine ⟨by decide, fun _ => h M hM (fun p hp => ?_), fun q => absurd (by decide) q⟩
      rw [hR p hp]
      by_cases c : s (p / 40) < 3
      · rw [if_pos c]
      · have s4 := hf.2.1 (p / 40) (by omega)
        rw [if_neg c, if_pos (by omega)]
        unfold plF
        rw [if_neg c]
        rfl
    | succ k ih =>
      intro hp M hh hM hR
      rw [wp_X8_plans_23]
      refine ⟨⟨by omega, by omega⟩, fun q => absurd q (by omega), fun _ => ⟨7, ?_⟩⟩
      refine go32 (fun x1 M => wp_X8_plans_23 Q (k + 1) x1 M) hp (by omega) (fun M' h1 h2 => ih (hp + 1) M' (by omega) h1 (fun p hp' => ?_)) 6 0 M rfl hM hR
      rw [h2 p hp']
      by_cases c : s (p / 40) < hp
      · rw [if_pos c, if_pos (by omega)]
      · rw [if_neg c]
        by_cases c2 : s (p / 40) = hp
        · rw [if_pos c2, if_pos (by omega)]
          unfold plF
          rw [if_pos (by omega), c2]
        · rw [if_neg c2, if_neg (by omega)]
          split <;> rfl
  have go2 : ∀ (k i : Nat) (M : Mem), i + k = 120 → frK 89 89 M0 M → (∀ p, p < i → M 89 p = -1) → wp_X8_plans_2 Q (k + 1) (i : Int) M := by
    intro k
    induction k with
    | zero =>
      intro i M hi hM hR
      rw [wp_X8_plans_2]
      refine ⟨⟨by omega, by omega⟩, fun _ => ⟨4, go23 3 0 M rfl hM (fun p hp => ?_)⟩, fun q => absurd (by omega) q⟩
      rw [hR p (by omega), if_neg (by omega)]
      split <;> rfl
    | succ k ih =>
      intro i M hi hM hR
      rw [wp_X8_plans_2, Int.toNat_natCast]
      refine ⟨⟨by omega, by omega⟩, fun q => absurd q (by omega), fun _ => ⟨⟨by omega, by omega⟩, ?_⟩⟩
      refine ih (i + 1) _ (by omega) (hM.up _ _ (Or.inl rfl)) (fun p hp => ?_)
      rw [up_same]
      by_cases c : p = i
      · rw [c, upr_at]
      · rw [upr_ne _ _ c]; exact hR p (by omega)
  unfold wp_X8_plans
  exact ⟨121, go2 120 0 M0 rfl (frK.refl _ _ _) (fun p hp => absurd hp (by omega))⟩
