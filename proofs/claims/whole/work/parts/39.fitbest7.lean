/-! pure: fit(), the class: the best set -/
theorem sub6 : ∀ t, t < 64 → ∀ s, s < 64 → (bAnd ((s : Nat) : Int) (bXor ((t : Nat) : Int) (-1)) = 0 ↔ ∀ i, i < 6 → s.testBit i = true → t.testBit i = true) := by decide +kernel
theorem s_bit6 {v : Nat} {M : Mem} {Q : Int → Mem → Prop} (hv : v < 64) (h : Q (bc6 v) M) : wp_J6_bitCount_0f7a4 (v : Int) M Q := by
  have key : ∀ v, v < 64 → wp_J6_bitCount_0f7a4 ((v : Nat) : Int) (fun _ _ => 0) (fun r _ => r = bc6 v) := by
    unfold wp_J6_bitCount_0f7a4
    decide +kernel
  unfold wp_J6_bitCount_0f7a4 at key ⊢
  have e := key v hv
  rw [e]
  exact h
/-- how a set that was tried changes the best one -/
theorem bst_none {res : Nat → Option (List Int)} {w : Nat → Int} {most : Int} {i : Nat} (h : res i = none) : bst res w most (i + 1) = bst res w most i := by simp only [bst]; rw [h]
theorem bst_wide {res : Nat → Option (List Int)} {w : Nat → Int} {most : Int} {i : Nat} {T : List Int} (h : res i = some T) (hw : most < wdt w T) : bst res w most (i + 1) = bst res w most i := by simp only [bst]; rw [h]; simp only [if_pos hw]
theorem bst_first {res : Nat → Option (List Int)} {w : Nat → Int} {most : Int} {i : Nat} {T : List Int} (h : res i = some T) (hw : ¬ most < wdt w T) (hn : bst res w most i = none) : bst res w most (i + 1) = some (i, T) := by simp only [bst]; rw [h]; simp only [if_neg hw]; rw [hn]
theorem bst_keep {res : Nat → Option (List Int)} {w : Nat → Int} {most : Int} {i s : Nat} {T R : List Int} (h : res i = some T) (hw : ¬ most < wdt w T) (hn : bst res w most i = some (s, R)) (hc : bc6 s < bc6 i ∨ (bc6 s = bc6 i ∧ wdt w T ≤ wdt w R)) : bst res w most (i + 1) = some (s, R) := by simp only [bst]; rw [h]; simp only [if_neg hw]; rw [hn]; simp only [if_pos hc]
theorem bst_take {res : Nat → Option (List Int)} {w : Nat → Int} {most : Int} {i s : Nat} {T R : List Int} (h : res i = some T) (hw : ¬ most < wdt w T) (hn : bst res w most i = some (s, R)) (hc : ¬ (bc6 s < bc6 i ∨ (bc6 s = bc6 i ∧ wdt w T ≤ wdt w R))) : bst res w most (i + 1) = some (i, T) := by simp only [bst]; rw [h]; simp only [if_neg hw]; rw [hn]; simp only [if_neg hc]
def rsN (M : Mem) (S : List Int) (set : Nat) : Option (List Int) := chn (tbN M) (frN M) (toN M) set 6 0 S
theorem rsN_frT {M M' : Mem} (h : frT M M') (S : List Int) (set : Nat) : chn (tbN M') (frN M') (toN M') set 6 0 S = chn (tbN M) (frN M) (toN M) set 6 0 S := by
  have hc : ∀ (k i : Nat) (T : List Int), i + k ≤ 6 → chn (tbN M') (frN M') (toN M') set k i T = chn (tbN M) (frN M) (toN M) set k i T := by
    intro k
    induction k with
    | zero => intro i T _; rfl
    | succ k ih =>
      intro i T hi
      simp only [chn]
      have e1 : tbN M' i = tbN M i := by unfold tbN; rw [h 43 (by omega)]
      have e2 : frN M' i = frN M i := by unfold frN; rw [h _ (by omega), h _ (by omega)]
      have e3 : toN M' i = toN M i := by unfold toN; rw [h _ (by omega), h _ (by omega)]
      rw [e1, e2, e3, ih (i + 1) _ (by omega), ih (i + 1) _ (by omega)]
  exact hc 6 0 S (by omega)
theorem RS_frT {M M' : Mem} (h : frT M M') (h2 : RS M) : RS M' := RS_congr (fun k _ b => h k (by omega)) (by rw [h 43 (by omega)]) (h 66 (by omega)) (h 67 (by omega)) (h 68 (by omega)) (h 69 (by omega)) h2
theorem frT.trans {M M' M'' : Mem} (h : frT M M') (h2 : frT M' M'') : frT M M'' := fun k hk => (h2 k hk).trans (h k hk)
theorem RS_sgs {M : Mem} (h : RS M) : ∀ i, i < 6 → tbN M i = true → sgs (toN M i) := fun i hi ht => (RS_lists h hi ht).2.2.2.2.2.2
/-- best set so far, as the class keeps it -/
def bsC (w : Nat → Int) (b : Option (Nat × List Int)) (x3 x4 x5 : Int) : Prop := (b = none ∧ x3 = -1 ∧ x4 = 6 ∧ x5 = -1) ∨ ∃ s R, b = some (s, R) ∧ x3 = (s : Int) ∧ x4 = bc6 s ∧ x5 = wdt w R
theorem s_bestSet_loop {S : List Int} {most : Int} {M0 : Mem} {Q : Int → Mem → Prop} (hm : 0 ≤ most ∧ most ≤ 999) (hRS : RS M0) (hW : ∀ j, j < 95 → 1 ≤ M0 44 j ∧ M0 44 j ≤ 20) (hr : rok M0 0) (hS : isL S (M0 0 1) (M0 1)) (hS30 : S.length ≤ 30) (sS : sgs S)
    (h : ∀ M' x, frT M0 M' → rok M' 28 → rok M' 30 → ((bst (rsN M0 S) (M0 44) most 64 = none ∧ x = -1) ∨ ∃ s R, bst (rsN M0 S) (M0 44) most 64 = some (s, R) ∧ x = (s : Int)) → Q x M') :
    ∀ (k i : Nat) (x3 x4 x5 : Int) (M : Mem), i + k = 64 → frT M0 M → rok M 28 → rok M 30 → bsC (M0 44) (bst (rsN M0 S) (M0 44) most i) x3 x4 x5 → wp_X2_bestSet_12 0 most Q (k + 1) x3 x4 x5 (i : Int) M := by
  have c28 : (capR 28 : Int) = 60 := rfl
  intro k
  induction k with
  | zero =>
    intro i x3 x4 x5 M hi hfr r28 r30 hb
    rw [wp_X2_bestSet_12]
    refine ⟨⟨by omega, by omega⟩, fun _ => ?_, fun c => absurd (by omega) c⟩
    have hi64 : i = 64 := by omega
    subst hi64
    refine h M x3 hfr r28 r30 ?_
    rcases hb with ⟨e, e3, -⟩ | ⟨s, R, e, e3, -⟩
    · exact Or.inl ⟨e, e3⟩
    · exact Or.inr ⟨s, R, e, e3⟩
  | succ k ih =>
    intro i x3 x4 x5 M hi hfr r28 r30 hb
    rw [wp_X2_bestSet_12]
    have hi64 : i < 64 := by omega
    have bci := bc6_rng i
    have t0 := hRS.1
    have t1 := hRS.2.1
    have hx : (-1 ≤ x3 ∧ x3 < 64) ∧ (0 ≤ x4 ∧ x4 ≤ 6) ∧ (-1 ≤ x5 ∧ x5 ≤ 1200) := by
      rcases hb with ⟨-, e3, e4, e5⟩ | ⟨s, R, e, e3, e4, e5⟩
      · omega
      · have bcs := bc6_rng s
        obtain ⟨h1, h2, -⟩ := bst_in e
        have h3 := chn_ok (RS_sgs hRS) 6 0 S R (by omega) sS (by omega) h2
        have h4 := wdt_rng hW h3.1 h3.2
        omega
    refine ⟨⟨by omega, by omega⟩, fun c => absurd c (by omega), fun _ => ?_⟩
    refine s_bit6 hi64 ?_
    have m43 : M 43 5 = (((M0 43 5).toNat : Nat) : Int) := by rw [hfr 43 (by omega)]; omega
    have hsub := sub6 (M0 43 5).toNat (by omega) i hi64
    rw [m43]
    refine ⟨bAnd_Rg _ _, fun c => ?_, fun c => ?_⟩
    · have hn : rsN M0 S i = none := by
        cases hR : rsN M0 S i with
        | none => rfl
        | some R => exact absurd (hsub.mpr (fun j hj hb => chn_told 6 0 S R hR j (by omega) (by omega) hb)) c
      exact ih (i + 1) x3 x4 x5 M (by omega) hfr r28 r30 (by rw [bst_none hn]; exact hb)
    · have hin : ∀ j, j < 6 → i.testBit j = true → tbN M j = true := by
        intro j hj hbj
        have := hsub.mp (by omega) j hj hbj
        unfold tbN
        rw [hfr 43 (by omega)]
        exact this
      refine ⟨⟨by omega, by omega⟩, ⟨by omega, by omega⟩, fun c2 => ?_, fun c2 => ?_⟩
      · have hst : bst (rsN M0 S) (M0 44) most (i + 1) = bst (rsN M0 S) (M0 44) most i := by
          rcases hb with ⟨-, e3, e4, e5⟩ | ⟨s, R, e, e3, e4, e5⟩
          · omega
          · cases hR : rsN M0 S i with
            | none => exact bst_none hR
            | some T =>
              by_cases hw : most < wdt (M0 44) T
              · exact bst_wide hR hw
              · rw [bst_keep hR hw e (Or.inl (by omega)), e]
        exact ih (i + 1) x3 x4 x5 M (by omega) hfr r28 r30 (by rw [hst]; exact hb)
      · have e0 : M 0 = M0 0 := hfr 0 (by omega)
        have e1 : M 1 = M0 1 := hfr 1 (by omega)
        refine s_applySet (S := S) hi64 (RS_frT hfr hRS) (by unfold rok; rw [e0]; exact hr) r30 (by rw [e0, e1]; exact hS) hS30 sS hin (fun M' R hR hfr' hL r30' => ?_) (fun M' hR hfr' r28' r30' => ?_)
        · rw [rsN_frT hfr] at hR
          have hR : rsN M0 S i = some R := hR
          have hok := chn_ok (RS_sgs hRS) 6 0 S R (by omega) sS (by omega) hR
          have hfr2 := hfr.trans hfr'
          have w44 : M' 44 = M0 44 := hfr2 44 (by omega)
          have hwr := wdt_rng hW hok.1 hok.2
          have n28 := hL.1
          have hl60 := hok.2
          have r28' : rok M' 28 := by unfold rok; rw [c28]; omega
          refine ⟨by decide, fun _ => ?_, fun x => absurd (by decide) x⟩
          refine s_textWidth hL hok.2 hok.1 ?_
          rw [w44]
          refine ⟨⟨by omega, by omega⟩, ⟨by omega, by omega⟩, fun c3 => ?_, fun c3 => ⟨⟨by omega, by omega⟩, ⟨by omega, by omega⟩, fun c4 => ?_, fun c4 => ⟨⟨by omega, by omega⟩, ⟨by omega, by omega⟩, fun c5 => ?_, fun c5 => ?_⟩⟩⟩
          · exact ih (i + 1) x3 x4 x5 M' (by omega) hfr2 r28' r30' (by rw [bst_wide hR c3]; exact hb)
          · refine ih (i + 1) _ _ _ M' (by omega) hfr2 r28' r30' (Or.inr ⟨i, R, ?_, rfl, rfl, rfl⟩)
            rcases hb with ⟨e, e3, e4, e5⟩ | ⟨s, R', e, e3, e4, e5⟩
            · exact bst_first hR c3 e
            · exact bst_take hR c3 e (by omega)
          · refine ih (i + 1) x3 x4 x5 M' (by omega) hfr2 r28' r30' ?_
            rcases hb with ⟨e, e3, e4, e5⟩ | ⟨s, R', e, e3, e4, e5⟩
            · omega
            · exact Or.inr ⟨s, R', bst_keep hR c3 e (by omega), e3, e4, e5⟩
          · refine ih (i + 1) _ _ _ M' (by omega) hfr2 r28' r30' (Or.inr ⟨i, R, ?_, rfl, rfl, rfl⟩)
            rcases hb with ⟨e, e3, e4, e5⟩ | ⟨s, R', e, e3, e4, e5⟩
            · exact bst_first hR c3 e
            · exact bst_take hR c3 e (by omega)
        · rw [rsN_frT hfr] at hR
          refine ⟨by decide, fun x => absurd rfl x, fun _ => ?_⟩
          exact ih (i + 1) x3 x4 x5 M' (by omega) (hfr.trans hfr') r28' r30' (by rw [bst_none hR]; exact hb)
def fitC (f : Nat → Int) (z : Nat) (a : Int) : Prop := (0 ≤ a ∧ a ≤ 999) ∧ z ≤ 30 ∧ ∀ j, j < z → 32 ≤ f j ∧ f j ≤ 126
def xFt (k j : Nat) : Prop := (k = 0 ∧ j = 1) ∨ k = 2 ∨ k = 3 ∨ (28 ≤ k ∧ k ≤ 31) ∨ (k = 43 ∧ j = 6)
def F7f (M M' : Mem) : Prop := ∀ k j, ¬ xFt k j → M' k j = M k j
theorem F7f.ofT {M M' : Mem} (h : frT M M') : F7f M M' := fun k j hk => by unfold xFt at hk; rw [h k (by omega)]
theorem F7f.trans {M M' M'' : Mem} (h : F7f M M') (h2 : F7f M' M'') : F7f M M'' := fun k j hk => (h2 k j hk).trans (h k j hk)
theorem F7f.up {M M' : Mem} (h : F7f M M') {a i : Nat} (v : Int) (hi : xFt a i) : F7f M (up M' a i v) := by
  intro k j hk
  by_cases c : k = a
  · subst c
    by_cases d : j = i
    · subst d; exact absurd hi hk
    · rw [up_snn _ _ _ d]; exact h _ _ hk
  · rw [up_ne _ _ _ c]
    exact h _ _ hk
theorem F7f.row2 {M M' : Mem} (h : F7f M M') (n : Int) (f : Nat → Int) : F7f M (setRow M' 2 n f) := by
  intro k j hk
  unfold xFt at hk
  rw [setRow_ne _ _ _ (by omega) (by omega)]
  exact h _ _ hk
theorem F7f.clear0 {M M' : Mem} (h : F7f M M') : F7f M (setRow M' 0 0 (M' (0 + 1))) := by
  rw [← up_row]
  exact h.up _ (by unfold xFt; omega)
/-- the class's fit -/
theorem s7_fit {z : Nat} {a : Int} {M : Mem} {Q : Int → Mem → Prop} (ha : Rg a) (hz : M 0 1 = (z : Int)) (hr : rok M 0) (hr2 : rok M 2) (hX : RX M) (hRS : RS M) (hW : ∀ j, j < 95 → 1 ≤ M 44 j ∧ M 44 j ≤ 20) (hR : ∀ j, j < z → 0 ≤ M 1 j ∧ M 1 j ≤ 255)
    (hbad : ∀ M', ¬ fitC (M 1) z a → F7f M M' → rok M' 28 → rok M' 30 → M' 0 1 = 0 → M' 43 6 = M 43 6 → M' 2 = M 2 → M' 3 = M 3 → Q (-1) M')
    (hno : ∀ M', fitC (M 1) z a → bst (rsN M (lst z (M 1))) (M 44) a 64 = none → F7f M M' → rok M' 28 → rok M' 30 → M' 0 1 = 0 → M' 43 6 = M 43 6 → M' 2 1 = 0 → Q (-1) M')
    (hok : ∀ M' s R, fitC (M 1) z a → bst (rsN M (lst z (M 1))) (M 44) a 64 = some (s, R) → F7f M M' → rok M' 28 → rok M' 30 → M' 0 1 = 0 → M' 43 6 = (s : Int) → isL R (M' 2 1) (M' 3) → Q (wdt (M 44) R) M') : wp_X7_fit a M Q := by
  have c28 : (capR 28 : Int) = 60 := rfl
  have c2 : (capR 2 : Int) = 67 := rfl
  have c0 : (capR 0 : Int) = 200 := rfl
  have hr' := hr.2
  have x28 := hX.1
  have x30 := hX.2.1
  unfold wp_X7_fit wp_X2_fitText
  have no : ¬ fitC (M 1) z a → wp_X4_clear 0 M (fun M3 => Q (-1) M3) := fun hc => s_clear (hbad _ hc (F7f.ofT (frT.refl M)).clear0 x28 x30 rfl rfl rfl rfl)
  refine ⟨ha, fun c => no (fun q => by have := q.1; omega), fun c1 => ⟨ha, fun c => no (fun q => by have := q.1; omega), fun c3 => ?_⟩⟩
  unfold wp_X4_size
  rw [hz]
  refine ⟨⟨by omega, by omega⟩, fun c => no (fun q => by have := q.2.1; omega), fun c4 => ?_⟩
  unfold wp_X2_areSigns
  refine s_allWithin hr (by decide) (by decide) (fun j hj => by have := hR j (by omega); exact ⟨by show _ ≤ M 1 j; omega, by show M 1 j ≤ _; omega⟩) (fun q => ?_) (fun q => ?_)
  · refine ⟨Or.inr rfl, by decide, fun _ => ?_, fun c => absurd (by decide) c⟩
    have hC : fitC (M 1) z a := ⟨by omega, by omega, fun j hj => q j (by omega)⟩
    have hS : isL (lst z (M 1)) (M 0 1) (M 1) := by rw [hz]; exact isL_lst z (M 1)
    have hlen := lst_len z (M 1)
    have sS : sgs (lst z (M 1)) := fun j hj => by rw [← hS.2 j hj]; exact hC.2.2 j (by omega)
    unfold wp_X2_bestSet
    refine ⟨65, s_bestSet_loop (S := lst z (M 1)) hC.1 hRS hW hr hS (by omega) sS ?_ 64 0 (-1) 6 (-1) M (by omega) (frT.refl M) x28 x30 (Or.inl ⟨rfl, rfl, rfl, rfl⟩)⟩
    intro M1 x hfr r28 r30 hb
    rcases hb with ⟨hb, e⟩ | ⟨s, R, hb, e⟩
    · subst e
      refine ⟨by decide, fun c => absurd rfl c, fun _ => s_clear (s_clear ?_)⟩
      refine hno _ hC hb ((F7f.ofT hfr).row2 0 (M1 (2 + 1))).clear0 r28 r30 rfl ?_ rfl
      show M1 43 6 = M 43 6
      rw [hfr 43 (by omega)]
    · subst e
      obtain ⟨b1, b2, b3⟩ := bst_in hb
      have hok2 := chn_ok (RS_sgs hRS) 6 0 _ R (by omega) sS (by omega) b2
      refine ⟨⟨by omega, by omega⟩, fun _ => ?_, fun c => absurd (by omega) c⟩
      have hfu : F7f M (up M1 43 6 (s : Int)) := (F7f.ofT hfr).up _ (by unfold xFt; omega)
      have k43 : ∀ k, k ≠ 43 → up M1 43 6 (s : Int) k = M1 k := fun k hk => up_ne _ _ _ hk
      have e435 : up M1 43 6 (s : Int) 43 5 = M 43 5 := by rw [up_snn _ _ _ (by decide), hfr 43 (by omega)]
      have e436 : up M1 43 6 (s : Int) 43 6 = (s : Int) := up_sn _ _ _ _
      have kM : ∀ k, k ≠ 43 → (k < 28 ∨ 31 < k) → up M1 43 6 (s : Int) k = M k := fun k h1 h2 => by rw [k43 k h1, hfr k h2]
      have rk30 : rok (up M1 43 6 (s : Int)) 30 := by unfold rok; rw [k43 30 (by decide)]; exact r30
      generalize up M1 43 6 (s : Int) = M2 at *
      have RS2 : RS M2 := RS_congr (fun k a b => kM k (by omega) (by omega)) e435 (kM 66 (by omega) (by omega)) (kM 67 (by omega) (by omega)) (kM 68 (by omega) (by omega)) (kM 69 (by omega) (by omega)) hRS
      have tb2 : tbN M2 = tbN M := by funext i; unfold tbN; rw [e435]
      have hch : ∀ (k i : Nat) (T : List Int), i + k ≤ 6 → chn (tbN M2) (frN M2) (toN M2) s k i T = chn (tbN M) (frN M) (toN M) s k i T := by
        intro k
        induction k with
        | zero => intro i T _; rfl
        | succ k ih =>
          intro i T hi
          simp only [chn]
          have e2 : frN M2 i = frN M i := by unfold frN; rw [kM _ (by omega) (by omega), kM _ (by omega) (by omega)]
          have e3 : toN M2 i = toN M i := by unfold toN; rw [kM _ (by omega) (by omega), kM _ (by omega) (by omega)]
          rw [e2, e3, ih (i + 1) _ (by omega), ih (i + 1) _ (by omega), tb2]
      refine s_applySet (S := lst z (M 1)) (by omega) RS2 (by unfold rok; rw [kM 0 (by omega) (by omega)]; exact hr) rk30 (by rw [kM 0 (by omega) (by omega), kM 1 (by omega) (by omega)]; exact hS) (by omega) sS (fun i hi hbi => by rw [tb2]; exact chn_told 6 0 _ R b2 i (by omega) (by omega) hbi) (fun M3 R2 hR2 hfr3 hL r30' => ?_) (fun M3 hR2 => ?_)
      · rw [hch 6 0 _ (by omega)] at hR2
        have b2' : chn (tbN M) (frN M) (toN M) s 6 0 (lst z (M 1)) = some R := b2
        rw [b2'] at hR2
        cases hR2
        have n28 := hL.1
        have l60 := hok2.2
        have rk28 : rok M3 28 := by unfold rok; rw [c28]; omega
        refine s_copyFrom (by decide) (by decide) (by decide) rk28 (by rw [c2]; omega) (fun g hg => ?_)
        have e28 : setRow M3 2 (M3 28 1) g 28 = M3 28 := setRow_ne _ _ _ (by decide) (by decide)
        have e29 : setRow M3 2 (M3 28 1) g 29 = M3 29 := setRow_ne _ _ _ (by decide) (by decide)
        have e44 : setRow M3 2 (M3 28 1) g 44 = M 44 := by rw [setRow_ne _ _ _ (by decide) (by decide), hfr3 44 (by omega), kM 44 (by omega) (by omega)]
        refine s_textWidth (T := R) (by rw [e28, e29]; exact hL) hok2.2 hok2.1 ?_
        rw [e44]
        refine s_clear ?_
        refine hok _ s R hC hb ((hfu.trans (F7f.ofT hfr3)).row2 _ g).clear0 rk28 r30' rfl ?_ ⟨n28, fun j hj => ?_⟩
        · show M3 43 6 = (s : Int)
          rw [hfr3 43 (by omega)]; exact e436
        · show g j = _
          rw [hg j (by omega)]
          exact hL.2 j hj
      · rw [hch 6 0 _ (by omega)] at hR2
        have b2' : chn (tbN M) (frN M) (toN M) s 6 0 (lst z (M 1)) = some R := b2
        rw [b2'] at hR2
        cases hR2
  · exact ⟨Or.inl rfl, by decide, fun c => absurd rfl c, fun _ => no (fun c => q (fun j hj => c.2.2 j (by omega)))⟩
