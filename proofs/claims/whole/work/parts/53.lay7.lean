/-! pure: labels laid by the class -/
theorem sm_nn0 {f : Nat → Int} : ∀ {n : Nat}, (∀ k, k < n → 0 ≤ f k) → sm f n = 0 → ∀ k, k < n → f k = 0
  | 0, _, _, k, hk => absurd hk (by omega)
  | n + 1, h, e, k, hk => by
    have s0 : 0 ≤ sm f n := by
      have : ∀ m, m ≤ n → 0 ≤ sm f m := by
        intro m
        induction m with
        | zero => intro _; exact Int.le_refl _
        | succ m ih =>
          intro hm
          have := ih (by omega)
          have := h m (by omega)
          simp only [sm]
          omega
      exact this n (Nat.le_refl _)
    have fn := h n (by omega)
    simp only [sm] at e
    by_cases q : k = n
    · subst q; omega
    · exact sm_nn0 (n := n) (fun j hj => h j (by omega)) (by omega) k (by omega)
def PlI (w gr : Nat → Int) (n : Nat) (fre : Nat → Int) (d s : Nat → Nat) (t : Nat) (M : Mem) : Prop := (∀ h, h < 3 → M 60 h = ((stH (okP fre s h) (acP w gr n d h) t).1 : Int)) ∧ ∀ p, p < 120 → M 61 p = if s (p / 40) < 3 then (stH (okP fre s (s (p / 40))) (acP w gr n d (s (p / 40))) t).2 p else -1
theorem PlI_skip {w gr fre : Nat → Int} {n : Nat} {d s : Nat → Nat} {t t' : Nat} {M : Mem} (he : ∀ h, h < 3 → stH (okP fre s h) (acP w gr n d h) t' = stH (okP fre s h) (acP w gr n d h) t) (h : PlI w gr n fre d s t M) : PlI w gr n fre d s t' M := by
  refine ⟨fun h' hh => by rw [he h' hh]; exact h.1 h' hh, fun p hp => ?_⟩
  rw [h.2 p hp]
  by_cases c : s (p / 40) < 3
  · rw [if_pos c, if_pos c, he _ c]
  · rw [if_neg c, if_neg c]
theorem s_isFree {p : Nat} {x : Int} {M : Mem} {Q : Int → Mem → Prop} (hx : x = (p : Int)) (hp : p < 120) (h0 : 0 ≤ M 54 (p / 40)) (h40 : M 54 (p / 40) < 2 ^ 40) (h : Q (if (M 54 (p / 40)).toNat.testBit (p % 40) = true then 1 else 0) M) : wp_X5_isFree x M Q := by
  subst hx
  unfold wp_X5_isFree wp_X7_isPlace
  refine ⟨⟨by omega, by omega⟩, fun q => absurd q (by omega), fun _ => ⟨⟨by omega, by omega⟩, fun q => absurd q (by omega), fun _ => ⟨by decide, fun q => absurd q (by decide), fun _ => ⟨⟨⟨by omega, by omega⟩, by omega⟩, ⟨by omega, by omega⟩, ⟨⟨by omega, by omega⟩, by omega⟩, ?_⟩⟩⟩⟩
  have e1 : ((p : Int) / 40).toNat = p / 40 := by omega
  have e2 : (p : Int) % 40 = ((p % 40 : Nat) : Int) := by omega
  rw [e1, e2, L_bit h0 h40 (by omega)]
  by_cases c : (M 54 (p / 40)).toNat.testBit (p % 40) = true
  · rw [if_pos c] at h ⊢
    exact ⟨by decide, fun q => absurd (by decide) q, fun _ => h⟩
  · rw [if_neg c] at h ⊢
    exact ⟨by decide, fun _ => h, fun q => absurd (by decide) q⟩
theorem s_waitsIn {i : Nat} {a2 : Int} {M : Mem} {Q : Int → Mem → Prop} (hi : (i : Int) < M 48 4) (h200 : M 48 4 ≤ 200) (hw : M 51 i = 0 ∨ M 51 i = 1) (hg : Rg (M 49 i)) (ha : Rg a2) (h1 : M 51 i = 1 → M 49 i = a2 → Q 1 M) (h0 : ¬ (M 51 i = 1 ∧ M 49 i = a2) → Q 0 M) : wp_X1_waitsIn (i : Int) a2 M Q := by
  unfold wp_X1_waitsIn wp_X1_isLabel
  refine ⟨⟨by omega, by omega⟩, fun q => absurd q (by omega), fun _ => ⟨⟨by omega, by omega⟩, ⟨by omega, by omega⟩, fun q => absurd q (by omega), fun _ => ⟨by decide, fun q => absurd q (by decide), fun _ => ⟨⟨by omega, by omega⟩, ?_⟩⟩⟩⟩
  rw [Int.toNat_natCast]
  exact ⟨⟨by omega, by omega⟩, fun q => h0 (fun z => by have := z.1; omega), fun q => ⟨⟨by omega, by omega⟩, hg, ha, fun q2 => h0 (fun z => q2 z.2), fun q2 => h1 (by omega) (by omega)⟩⟩
theorem s_groupHeap {d : Nat → Nat} {g : Nat} {M : Mem} {Q : Int → Mem → Prop} (hd : dig3 d) (hg : g < 6) (h : Q (d g : Int) M) : wp_X0_groupHeap (c4 d : Int) (g : Int) M Q := by
  unfold wp_X0_groupHeap wp_X0_groupShift
  show Q (bAnd (bShr (c4 d : Int) (2 * (5 - (g : Int)))) 3) M
  rw [gHp hd hg]
  exact h
theorem s_layLabel_loop {a1 : Int} {h P0 : Nat} {s : Nat → Nat} {M : Mem} {Q : Mem → Prop} (hh : h < 3) (hs : dig4 s) (h9 : M 57 9 = (cS s : Int)) (hF : ∀ i, i < 3 → 0 ≤ M 54 i ∧ M 54 i < 2 ^ 40) (hP : P0 < 120) (hq : Q (up (up M 61 P0 a1) 60 h ((P0 : Int) + 1))) :
    ∀ (f k : Nat), k + f = 120 → nxt (okP (M 54) s h) k = P0 → wp_X0_layLabel_14 a1 (h : Int) Q (f + 1) (k : Int) M := by
  have eS : ∀ i, i < 3 → dB (cS s) i = s i := fun i hi => (cS_inj hs (dB_dig (cS s)) (by rw [cS_dB (cS_lt hs)]) i hi).symm
  intro f
  induction f with
  | zero =>
    intro k hk hn
    rw [nxt_end (by omega)] at hn
    omega
  | succ f ih =>
    intro k hk hn
    rw [wp_X0_layLabel_14, h9]
    refine ⟨⟨by omega, by omega⟩, fun q => absurd q (by omega), fun _ => ⟨⟨⟨by omega, by omega⟩, by omega⟩, ?_⟩⟩
    refine s_sheetHeap (s := k / 40) (cS_lt hs) (by omega) (by omega) ?_
    rw [eS _ (by omega)]
    have s4 := hs (k / 40) (by omega)
    refine ⟨⟨by omega, by omega⟩, ⟨by omega, by omega⟩, fun q => ?_, fun q => ?_⟩
    · have no : ¬ okP (M 54) s h k = true := by
        unfold okP
        simp
        intro e
        omega
      exact ih (k + 1) (by omega) (by rw [← nxt_no (by omega) no]; exact hn)
    · have e1 : s (k / 40) = h := by omega
      refine s_isFree rfl (by omega) (hF _ (by omega)).1 (hF _ (by omega)).2 ?_
      by_cases c : (M 54 (k / 40)).toNat.testBit (k % 40) = true
      · rw [if_pos c]
        refine ⟨by decide, fun w => absurd w (by decide), fun _ => ⟨⟨by omega, by omega⟩, ⟨by omega, by omega⟩, ?_⟩⟩
        have yes : okP (M 54) s h k = true := by
          unfold okP
          simp [e1, c]
        rw [nxt_yes (by omega) yes] at hn
        subst hn
        rw [Int.toNat_natCast, Int.toNat_natCast]
        exact hq
      · rw [if_neg c]
        refine ⟨by decide, fun _ => ?_, fun w => absurd rfl w⟩
        have no : ¬ okP (M 54) s h k = true := by
          unfold okP
          simp [c]
        exact ih (k + 1) (by omega) (by rw [← nxt_no (by omega) no]; exact hn)
theorem s_layGroup_23 {w gr fre : Nat → Int} {n : Nat} {d s : Nat → Nat} {g : Nat} {M0 : Mem} {Q : Mem → Prop} (hg : g < 6) (hn : n ≤ 200) (hf : feas (cwF w gr n) (rmF fre) d s) (hF : ∀ i, i < 3 → 0 ≤ fre i ∧ fre i < 2 ^ 40)
    (e48 : M0 48 4 = (n : Int)) (e51 : M0 51 = w) (e49 : M0 49 = gr) (e54 : M0 54 = fre) (h9 : M0 57 9 = (cS s : Int)) (hw : ∀ i, i < n → (w i = 0 ∨ w i = 1) ∧ 0 ≤ gr i ∧ gr i < 6)
    (h : ∀ M', frK 60 61 M0 M' → PlI w gr n fre d s (200 * g + n) M' → Q M') :
    ∀ (k i : Nat) (M : Mem), i + k = n → frK 60 61 M0 M → PlI w gr n fre d s (200 * g + i) M → wp_X0_layGroup_23 (g : Int) Q (k + 1) (d g : Int) (i : Int) M := by
  have d3 := hf.1 g hg
  intro k
  induction k with
  | zero =>
    intro i M hi hfr hP
    rw [wp_X0_layGroup_23]
    unfold wp_X1_count
    rw [hfr 48 (by decide) (by decide), e48]
    have e : i = n := by omega
    subst e
    exact ⟨⟨by omega, by omega⟩, ⟨by omega, by omega⟩, fun _ => h M hfr hP, fun q => absurd (by omega) q⟩
  | succ k ih =>
    intro i M hi hfr hP
    rw [wp_X0_layGroup_23]
    unfold wp_X1_count
    have f48 : M 48 = M0 48 := hfr 48 (by decide) (by decide)
    have f51 : M 51 = w := by rw [hfr 51 (by decide) (by decide), e51]
    have f49 : M 49 = gr := by rw [hfr 49 (by decide) (by decide), e49]
    have f54 : M 54 = fre := by rw [hfr 54 (by decide) (by decide), e54]
    have f57 : M 57 = M0 57 := hfr 57 (by decide) (by decide)
    rw [f48, e48]
    obtain ⟨w1, w2, w3⟩ := hw i (by omega)
    have m1 : (200 * g + i) % 200 = i := by omega
    have m2 : (200 * g + i) / 200 = g := by omega
    refine ⟨⟨by omega, by omega⟩, ⟨by omega, by omega⟩, fun q => absurd q (by omega), fun _ => ?_⟩
    have skip : ¬ (w i = 1 ∧ gr i = (g : Int)) → wp_X0_layGroup_23 (g : Int) Q (k + 1) (d g : Int) ((i : Int) + 1) M := by
      intro hn2
      refine ih (i + 1) M (by omega) hfr (PlI_skip (fun h' hh => ?_) hP)
      show stH _ _ (200 * g + i + 1) = _
      refine stH_no (fun q => hn2 ?_)
      unfold acP at q
      simp only [decide_eq_true_eq, m1, m2] at q
      exact ⟨q.2.1, q.2.2.1⟩
    refine s_waitsIn (by rw [f48, e48]; omega) (by rw [f48, e48]; omega) (by rw [f51]; exact w1) (by rw [f49]; exact ⟨by omega, by omega⟩) ⟨by omega, by omega⟩ (fun q q2 => ⟨by decide, fun z => absurd z (by decide), fun _ => ?_⟩) (fun q => ⟨by decide, fun _ => skip (by rw [f51, f49] at q; exact q), fun z => absurd rfl z⟩)
    rw [f51] at q
    rw [f49] at q2
    have ac : acP w gr n d (d g) (200 * g + i) = true := by
      unfold acP
      simp only [decide_eq_true_eq, m1, m2]
      exact ⟨by omega, by omega, by omega, trivial⟩
    have cap := pl_cap hn hf (h := d g) d3
    obtain ⟨n1, n2, n3⟩ := stH_next cap (show 200 * g + i < 1200 by omega) ac
    obtain ⟨i1, i2⟩ := stH_inv cap (200 * g + i) (by omega)
    generalize hk0 : (stH (okP fre s (d g)) (acP w gr n d (d g)) (200 * g + i)).1 = k0 at *
    generalize hP0 : nxt (okP fre s (d g)) k0 = P0 at *
    have sP : s (P0 / 40) = d g := by
      unfold okP at n2
      simp at n2
      exact n2.1
    unfold wp_X0_layLabel
    refine ⟨⟨by omega, by omega⟩, fun _ => ⟨⟨by omega, by omega⟩, 120 - k0 + 1, ?_⟩, fun q3 => absurd (by omega) q3⟩
    rw [Int.toNat_natCast, hP.1 (d g) d3, hk0]
    refine s_layLabel_loop (s := s) d3 hf.2.1 (by rw [f57]; exact h9) (by rw [f54]; exact hF) n1 ?_ (120 - k0) k0 (by omega) (by rw [f54]; exact hP0)
    refine ih (i + 1) _ (by omega) ((hfr.up _ _ (Or.inr rfl)).up _ _ (Or.inl rfl)) ⟨fun h' hh => ?_, fun p hp => ?_⟩
    · rw [up_same, up_ne _ _ _ (by decide)]
      show upr (M 60) (d g) ((P0 : Int) + 1) h' = ((stH _ _ (200 * g + i + 1)).1 : Int)
      by_cases c : h' = d g
      · subst c
        rw [upr_at, stH_yes ac, hk0, hP0]
        rfl
      · rw [upr_ne _ _ c, stH_no, hP.1 h' hh]
        intro z
        unfold acP at z
        simp only [decide_eq_true_eq, m1, m2] at z
        exact c z.2.2.2.symm
    · rw [up_ne _ _ _ (by decide), up_same]
      show upr (M 61) P0 (i : Int) p = if s (p / 40) < 3 then (stH _ _ (200 * g + i + 1)).2 p else -1
      by_cases c : s (p / 40) = d g
      · rw [c, if_pos d3, stH_yes ac, hk0, hP0, m1]
        show upr (M 61) P0 (i : Int) p = upr _ P0 (i : Int) p
        by_cases e : p = P0
        · rw [e, upr_at, upr_at]
        · rw [upr_ne _ _ e, upr_ne _ _ e, hP.2 p hp, c, if_pos d3]
      · have e : p ≠ P0 := fun e => c (by rw [e]; exact sP)
        rw [upr_ne _ _ e, hP.2 p hp]
        by_cases c2 : s (p / 40) < 3
        · rw [if_pos c2, if_pos c2, stH_no]
          intro z
          unfold acP at z
          simp only [decide_eq_true_eq, m1, m2] at z
          exact c z.2.2.2.symm
        · rw [if_neg c2, if_neg c2]
/-- layAll() -/
theorem s_layAll {w gr fre : Nat → Int} {n : Nat} {d s : Nat → Nat} {M : Mem} {Q : Mem → Prop} (hn : n ≤ 200) (hF : ∀ i, i < 3 → 0 ≤ fre i ∧ fre i < 2 ^ 40)
    (e48 : M 48 4 = (n : Int)) (e51 : M 51 = w) (e49 : M 49 = gr) (e54 : M 54 = fre) (e58 : ∀ g, g < 6 → M 58 g = cwF w gr n g ∧ M 58 g ≤ 40) (hw : ∀ i, i < n → (w i = 0 ∨ w i = 1) ∧ 0 ≤ gr i ∧ gr i < 6)
    (h0 : M 57 7 = 1048576 → ∀ M', frK 60 61 M M' → Q M')
    (h1 : M 57 7 ≠ 1048576 → Rg (M 57 7) ∧ feas (cwF w gr n) (rmF fre) d s ∧ M 57 8 = (c4 d : Int) ∧ M 57 9 = (cS s : Int) ∧ ∀ M', frK 60 61 M M' → (∀ p, p < 120 → M' 61 p = plF w gr n fre d s p) → Q M') : wp_X0_layAll M Q := by
  have go51 : feas (cwF w gr n) (rmF fre) d s → M 57 8 = (c4 d : Int) → M 57 9 = (cS s : Int) → (∀ M', frK 60 61 M M' → (∀ p, p < 120 → M' 61 p = plF w gr n fre d s p) → Q M') → ∀ (k g : Nat) (M1 : Mem), g + k = 6 → frK 60 61 M M1 → PlI w gr n fre d s (200 * g) M1 → wp_X0_layAll_51 Q (k + 1) (g : Int) M1 := by
    intro hf h8 h9 hq k
    induction k with
    | zero =>
      intro g M1 hg hfr hP
      have e : g = 6 := by omega
      subst e
      rw [wp_X0_layAll_51]
      exact ⟨by decide, fun _ => hq M1 hfr (fun p hp => hP.2 p hp), fun q => absurd (by decide) q⟩
    | succ k ih =>
      intro g M1 hg hfr hP
      rw [wp_X0_layAll_51]
      refine ⟨⟨by omega, by omega⟩, fun q => absurd q (by omega), fun _ => ?_⟩
      have f58 : M1 58 = M 58 := hfr 58 (by decide) (by decide)
      have f57 : M1 57 = M 57 := hfr 57 (by decide) (by decide)
      obtain ⟨g1, g2⟩ := e58 g (by omega)
      have gr0 := cwF_rng w gr n g
      unfold wp_X0_layGroup
      rw [Int.toNat_natCast, f58, f57, h8]
      have toNext : ∀ M2 t, frK 60 61 M M2 → 200 * g ≤ t → t ≤ 200 * g + 200 → (∀ j, t ≤ j → j < 200 * g + 200 → ∀ h', ¬ acP w gr n d h' j = true) → PlI w gr n fre d s t M2 → wp_X0_layAll_51 Q (k + 1) ((g : Int) + 1) M2 := by
        intro M2 t hfr2 ht1 ht2 hno hP2
        refine ih (g + 1) M2 (by omega) hfr2 (PlI_skip (fun h' hh => ?_) hP2)
        rw [show 200 * (g + 1) = t + (200 * g + 200 - t) by omega]
        exact stH_skip _ (fun j q1 q2 => hno j q1 (by omega) h')
      refine ⟨⟨by omega, by omega⟩, ⟨by omega, by omega⟩, fun q => ?_, fun q => ?_⟩
      · refine s_groupHeap hf.1 (by omega) ?_
        refine ⟨n + 1, s_layGroup_23 (M0 := M1) (by omega) hn hf hF (by rw [hfr 48 (by decide) (by decide)]; exact e48) (by rw [hfr 51 (by decide) (by decide)]; exact e51) (by rw [hfr 49 (by decide) (by decide)]; exact e49) (by rw [hfr 54 (by decide) (by decide)]; exact e54) (by rw [f57]; exact h9) hw (fun M2 f2 hP2 => ?_) n 0 M1 (by omega) (frK.refl _ _ _) hP⟩
        refine toNext M2 (200 * g + n) (hfr.trans f2) (by omega) (by omega) (fun j q1 q2 h' z => ?_) hP2
        unfold acP at z
        simp only [decide_eq_true_eq] at z
        have := z.1
        omega
      · refine toNext M1 (200 * g) hfr (Nat.le_refl _) (by omega) (fun j q1 q2 h' z => ?_) hP
        unfold acP at z
        simp only [decide_eq_true_eq] at z
        have e0 : cwF w gr n g = 0 := by omega
        unfold cwF at e0
        have := sm_nn0 (f := fun i => if w i = 1 ∧ gr i = (g : Int) then (1 : Int) else 0) (fun k _ => by split <;> decide) e0 (j % 200) z.1
        rw [if_pos ⟨z.2.1, by rw [z.2.2.1, show j / 200 = g by omega]⟩] at this
        omega
  have go31 : feas (cwF w gr n) (rmF fre) d s → M 57 8 = (c4 d : Int) → M 57 9 = (cS s : Int) → (∀ M', frK 60 61 M M' → (∀ p, p < 120 → M' 61 p = plF w gr n fre d s p) → Q M') → ∀ (k i : Nat) (M1 : Mem), i + k = 3 → frK 60 61 M M1 → (∀ h, h < i → M1 60 h = 0) → (∀ p, p < 120 → M1 61 p = -1) → wp_X0_layAll_31 Q (k + 1) (i : Int) M1 := by
    intro hf h8 h9 hq k
    induction k with
    | zero =>
      intro i M1 hi hfr h60 h61
      rw [wp_X0_layAll_31]
      refine ⟨⟨by omega, by omega⟩, fun _ => ⟨7, go51 hf h8 h9 hq 6 0 M1 rfl hfr ⟨fun h hh => ?_, fun p hp => ?_⟩⟩, fun q => absurd (by omega) q⟩
      · rw [h60 h (by omega)]; rfl
      · rw [h61 p hp]
        split <;> rfl
    | succ k ih =>
      intro i M1 hi hfr h60 h61
      rw [wp_X0_layAll_31, Int.toNat_natCast]
      refine ⟨⟨by omega, by omega⟩, fun q => absurd q (by omega), fun _ => ⟨⟨by omega, by omega⟩, ?_⟩⟩
      refine ih (i + 1) _ (by omega) (hfr.up _ _ (Or.inl rfl)) (fun h hh => ?_) (fun p hp => by rw [up_ne _ _ _ (by decide)]; exact h61 p hp)
      rw [up_same]
      by_cases c : h = i
      · rw [c, upr_at]
      · rw [upr_ne _ _ c]; exact h60 h (by omega)
  have go2 : ∀ (k i : Nat) (M1 : Mem), i + k = 120 → frK 60 61 M M1 → (∀ p, p < i → M1 61 p = -1) → wp_X0_layAll_2 Q (k + 1) (i : Int) M1 := by
    intro k
    induction k with
    | zero =>
      intro i M1 hi hfr h61
      rw [wp_X0_layAll_2]
      refine ⟨⟨by omega, by omega⟩, fun _ => ?_, fun q => absurd (by omega) q⟩
      unfold wp_X0_exists
      have f57 : M1 57 = M 57 := hfr 57 (by decide) (by decide)
      rw [f57]
      by_cases c : M 57 7 = 1048576
      · rw [c]
        exact ⟨by decide, fun _ => ⟨by decide, fun q => absurd rfl q, fun _ => h0 c M1 hfr⟩, fun q => absurd rfl q⟩
      · obtain ⟨r7, hf, h8, h9, hq⟩ := h1 c
        exact ⟨r7, fun q => absurd q c, fun _ => ⟨by decide, fun _ => ⟨4, go31 hf h8 h9 hq 3 0 M1 rfl hfr (fun h hh => absurd hh (by omega)) (fun p hp => h61 p (by omega))⟩, fun q => absurd (by decide) q⟩⟩
    | succ k ih =>
      intro i M1 hi hfr h61
      rw [wp_X0_layAll_2, Int.toNat_natCast]
      refine ⟨⟨by omega, by omega⟩, fun q => absurd q (by omega), fun _ => ⟨⟨by omega, by omega⟩, ?_⟩⟩
      refine ih (i + 1) _ (by omega) (hfr.up _ _ (Or.inr rfl)) (fun p hp => ?_)
      rw [up_same]
      by_cases c : p = i
      · rw [c, upr_at]
      · rw [upr_ne _ _ c]; exact h61 p (by omega)
  unfold wp_X0_layAll
  exact ⟨121, go2 120 0 M rfl (frK.refl _ _ _) (fun p hp => absurd hp (by omega))⟩
