/-! pure: fit(), the class -/
theorem bit6 : ∀ t, t < 64 → ∀ i, i < 6 → bAnd (bShr ((t : Nat) : Int) ((i : Nat) : Int)) 1 = if t.testBit i = true then 1 else 0 := by decide +kernel
theorem s_applyOne_loop {T fr to : List Int} {a1 a2 : Nat} {M0 : Mem} {Q : Int → Mem → Prop} (r1 : isRow a1) (r2 : isRow a2) (l1 : a1 < 28) (l2 : a2 < 28) (hT : isL T (M0 28 1) (M0 29)) (hT60 : T.length ≤ 60) (hfr : isL fr (M0 a1 1) (M0 (a1 + 1))) (hf1 : 1 ≤ fr.length) (hf6 : fr.length ≤ 6) (hc1 : (capR a1 : Int) = 6) (hto : isL to (M0 a2 1) (M0 (a2 + 1))) (ht6 : to.length ≤ 6) (hc2 : (capR a2 : Int) = 6) (sT : sgs T) (sf : sgs fr)
    (h1 : (subL T fr to).length ≤ 60 → ∀ n f, isL (subL T fr to) n f → Q 1 (setRow M0 30 n f)) (h0 : 60 < (subL T fr to).length → ∀ n f, 0 ≤ n → n ≤ 60 → Q 0 (setRow M0 30 n f)) :
    ∀ (k p b : Nat) (A : List Int) (f : Nat → Int), p + k = T.length → A ++ gL T fr to (max p b) = subL T fr to → A.length ≤ 60 → b ≤ 100 → (∀ j, j < A.length → f j = A.getD j 0) → wp_X2_applyOne_12 a1 a2 Q (k + 1) (b : Int) (p : Int) (setRow M0 30 (A.length : Int) f) := by
  have c28 : (capR 28 : Int) = 60 := rfl
  have c30 : (capR 30 : Int) = 60 := rfl
  have e28 : ∀ (n : Int) (f : Nat → Int), setRow M0 30 n f 28 = M0 28 := fun n f => setRow_ne _ _ _ (by decide) (by decide)
  have e29 : ∀ (n : Int) (f : Nat → Int), setRow M0 30 n f 29 = M0 29 := fun n f => setRow_ne _ _ _ (by decide) (by decide)
  have ea1 : ∀ (n : Int) (f : Nat → Int), setRow M0 30 n f a1 = M0 a1 := fun n f => setRow_ne _ _ _ (by omega) (by omega)
  have ea1' : ∀ (n : Int) (f : Nat → Int), setRow M0 30 n f (a1 + 1) = M0 (a1 + 1) := fun n f => setRow_ne _ _ _ (by omega) (by omega)
  have ea2 : ∀ (n : Int) (f : Nat → Int), setRow M0 30 n f a2 = M0 a2 := fun n f => setRow_ne _ _ _ (by omega) (by omega)
  have ea2' : ∀ (n : Int) (f : Nat → Int), setRow M0 30 n f (a2 + 1) = M0 (a2 + 1) := fun n f => setRow_ne _ _ _ (by omega) (by omega)
  have n28 := hT.1
  have n1 := hfr.1
  have n2 := hto.1
  have rk28 : ∀ (n : Int) (f : Nat → Int), rok (setRow M0 30 n f) 28 := fun n f => by unfold rok; rw [e28, n28, c28]; omega
  have rka1 : ∀ (n : Int) (f : Nat → Int), rok (setRow M0 30 n f) a1 := fun n f => by unfold rok; rw [ea1, n1, hc1]; omega
  have rka2 : ∀ (n : Int) (f : Nat → Int), rok (setRow M0 30 n f) a2 := fun n f => by unfold rok; rw [ea2, n2, hc2]; omega
  intro k
  induction k with
  | zero =>
    intro p b A f hp hA hA60 hb hf
    rw [wp_X2_applyOne_12]
    unfold wp_X4_size
    rw [e28, n28]
    refine ⟨⟨by omega, by omega⟩, ⟨by omega, by omega⟩, fun _ => ?_, fun c => absurd (by omega) c⟩
    rw [gL_end (by omega), List.append_nil] at hA
    rw [← hA] at h1
    exact h1 hA60 _ f ⟨rfl, hf⟩
  | succ k ih =>
    intro p b A f hp hA hA60 hb hf
    rw [wp_X2_applyOne_12]
    unfold wp_X4_size
    rw [e28, n28]
    refine ⟨⟨by omega, by omega⟩, ⟨by omega, by omega⟩, fun c => absurd c (by omega), fun _ => ⟨⟨by omega, by omega⟩, ⟨by omega, by omega⟩, fun c => ?_, fun c => ?_⟩⟩
    · rw [show max p b = p by omega] at hA
      have hst : (M0 a1 1 ≤ M0 28 1 - (p : Int) ∧ ∀ j : Nat, (j : Int) < M0 a1 1 → M0 29 (p + j) = M0 (a1 + 1) j) ↔ stP T fr p := by
        unfold stP
        constructor
        · intro q
          have q1 := q.1
          refine ⟨by omega, fun j hj => ?_⟩
          rw [← hT.2 _ (by omega), ← hfr.2 _ hj]
          exact q.2 j (by omega)
        · intro q
          have q1 := q.1
          refine ⟨by omega, fun j hj => ?_⟩
          rw [hT.2 _ (by omega), hfr.2 _ (by omega)]
          exact q.2 j (by omega)
      refine s_standsAt (rk28 _ _) (rka1 _ _) (by omega) (by omega) ⟨fun j hj => ?_, fun j hj => ?_⟩ (fun q1 q2 => ?_) (fun q => ?_)
      · rw [e28, n28] at hj
        show Rg (setRow M0 30 (A.length : Int) f 29 j)
        rw [e29, hT.2 j (by omega)]
        have := sT j (by omega)
        exact ⟨by omega, by omega⟩
      · rw [ea1, n1] at hj
        rw [ea1', hfr.2 j (by omega)]
        have := sf j (by omega)
        exact ⟨by omega, by omega⟩
      · rw [e28, ea1] at q1
        rw [ea1, ea1', show (28 : Nat) + 1 = 29 from rfl, e29, Int.toNat_natCast] at q2
        have hs := hst.mp ⟨q1, q2⟩
        rw [gL_yes hf1 (by omega) hs, ← List.append_assoc] at hA
        refine ⟨by decide, fun q => absurd q (by decide), fun _ => ?_⟩
        rw [ea2, n2]
        refine s_addPart (by decide) r2 (by omega) (by decide) (by omega) (by rw [ea2, n2]; exact Int.le_refl _) (rka2 _ _) (by unfold rok; rw [setRow_n, c30]; omega) (fun g hc g1 g2 => ?_) (fun g n hc hn => ?_)
        · rw [setRow_n, c30] at hc
          rw [setRow_n, setRow_a] at g1
          rw [setRow_n, ea2', Int.toNat_natCast] at g2
          rw [setRow_n, setRow_set]
          have hl := isL_app (A := A) (B := to) hf (fun j hj => g1 j (by omega)) (fun j hj => by
            have := g2 j (by omega)
            rw [this, ← hto.2 j hj]
            congr 1
            omega)
          show Rg 1 ∧ _
          refine ⟨by decide, fun _ => ?_, fun q => absurd (by decide) q⟩
          rw [ea1, n1]
          have := ih (p + 1) (p + fr.length) (A ++ to) g (by omega) (by rw [show max (p + 1) (p + fr.length) = p + fr.length by omega]; exact hA) (by rw [List.length_append]; omega) (by omega) hl.2
          rw [List.length_append] at this
          rw [show (A.length : Int) + ((to.length : Int) - 0) = ((A.length + to.length : Nat) : Int) by omega]
          exact this
        · rw [setRow_n, c30] at hc
          rw [setRow_set]
          have hl : 60 < (subL T fr to).length := by
            rw [← hA, List.length_append, List.length_append]
            omega
          exact ⟨by decide, fun q => absurd rfl q, fun _ => h0 hl n g (by omega) (by omega)⟩
      · rw [e28, ea1, ea1', show (28 : Nat) + 1 = 29 from rfl, e29, Int.toNat_natCast] at q
        have hs : ¬ stP T fr p := fun x => q (hst.mpr x)
        rw [gL_no hf1 (by omega) hs, show A ++ T.getD p 0 :: gL T fr to (p + 1) = A ++ [T.getD p 0] ++ gL T fr to (p + 1) by simp] at hA
        refine ⟨by decide, fun _ => ?_, fun x => absurd rfl x⟩
        refine s_at_in (rk28 _ _) (by omega) (by rw [e28, n28]; omega) ?_
        rw [show (28 : Nat) + 1 = 29 from rfl, e29, Int.toNat_natCast, hT.2 p (by omega)]
        refine s_add (by unfold rok; rw [setRow_n, c30]; omega) (fun hc => ?_) (fun hc => ?_)
        · rw [setRow_n, c30] at hc
          rw [setRow_n, setRow_a, setRow_set, Int.toNat_natCast]
          refine ⟨by decide, fun _ => ?_, fun x => absurd (by decide) x⟩
          have hl := isL_snoc (c := T.getD p 0) hf
          have := ih (p + 1) b (A ++ [T.getD p 0]) (upr f A.length (T.getD p 0)) (by omega) (by rw [show max (p + 1) b = p + 1 by omega]; exact hA) (by rw [List.length_append]; simp; omega) hb hl.2
          rw [List.length_append] at this
          exact this
        · rw [setRow_n, c30] at hc
          have hl : 60 < (subL T fr to).length := by
            rw [← hA, List.length_append, List.length_append]
            simp only [List.length_cons, List.length_nil]
            omega
          exact ⟨by decide, fun x => absurd rfl x, fun _ => h0 hl _ f (by omega) (by omega)⟩
    · exact ih (p + 1) b A f (by omega) (by rw [show max (p + 1) b = max p b by omega]; exact hA) hA60 hb hf
theorem s_applyOne {T fr to : List Int} {a1 a2 : Nat} {M : Mem} {Q : Int → Mem → Prop} (r1 : isRow a1) (r2 : isRow a2) (l1 : a1 < 28) (l2 : a2 < 28) (hT : isL T (M 28 1) (M 29)) (hT60 : T.length ≤ 60) (hfr : isL fr (M a1 1) (M (a1 + 1))) (hf1 : 1 ≤ fr.length) (hf6 : fr.length ≤ 6) (hc1 : (capR a1 : Int) = 6) (hto : isL to (M a2 1) (M (a2 + 1))) (ht6 : to.length ≤ 6) (hc2 : (capR a2 : Int) = 6) (sT : sgs T) (sf : sgs fr)
    (h1 : (subL T fr to).length ≤ 60 → ∀ n f, isL (subL T fr to) n f → Q 1 (setRow M 30 n f)) (h0 : 60 < (subL T fr to).length → ∀ n f, 0 ≤ n → n ≤ 60 → Q 0 (setRow M 30 n f)) : wp_X2_applyOne a1 a2 M Q := by
  unfold wp_X2_applyOne
  refine s_clear ⟨T.length + 1, ?_⟩
  exact s_applyOne_loop r1 r2 l1 l2 hT hT60 hfr hf1 hf6 hc1 hto ht6 hc2 sT sf h1 h0 T.length 0 0 [] _ (by omega) (by rw [List.nil_append]; rfl) (by simp) (by omega) (fun j hj => absurd hj (by simp))
/-- the rows of the text on its way alone -/
def frT (M M' : Mem) : Prop := ∀ k, (k < 28 ∨ 31 < k) → M' k = M k
theorem frT.refl (M : Mem) : frT M M := fun _ _ => rfl
theorem frT.row {M M' : Mem} (h : frT M M') {o : Nat} (n : Int) (f : Nat → Int) (ho : o = 28 ∨ o = 30) : frT M (setRow M' o n f) := by
  intro k hk
  rw [setRow_ne _ _ _ (by omega) (by omega)]
  exact h k hk
def tbN (M : Mem) (i : Nat) : Bool := (M 43 5).toNat.testBit i
def frN (M : Mem) (i : Nat) : List Int := lst (M (4 + 2 * i) 1).toNat (M (4 + 2 * i + 1))
def toN (M : Mem) (i : Nat) : List Int := lst (M (16 + 2 * i) 1).toNat (M (16 + 2 * i + 1))
/-- what the told shortenings are, as lists -/
theorem RS_lists {M : Mem} (h : RS M) {i : Nat} (hi : i < 6) (ht : tbN M i = true) : isL (frN M i) (M (4 + 2 * i) 1) (M (4 + 2 * i + 1)) ∧ 1 ≤ (frN M i).length ∧ (frN M i).length ≤ 6 ∧ isL (toN M i) (M (16 + 2 * i) 1) (M (16 + 2 * i + 1)) ∧ (toN M i).length ≤ 6 ∧ sgs (frN M i) ∧ sgs (toN M i) := by
  obtain ⟨⟨a1, a2, a3, a4⟩, -, c⟩ := h.2.2 i hi
  obtain ⟨c1, c2, c3, c4, c5⟩ := c ht
  have l1 : isL (frN M i) (M (4 + 2 * i) 1) (M (4 + 2 * i + 1)) := by
    have := isL_lst (M (4 + 2 * i) 1).toNat (M (4 + 2 * i + 1))
    rw [show (((M (4 + 2 * i) 1).toNat : Nat) : Int) = M (4 + 2 * i) 1 by omega] at this
    exact this
  have l2 : isL (toN M i) (M (16 + 2 * i) 1) (M (16 + 2 * i + 1)) := by
    have := isL_lst (M (16 + 2 * i) 1).toNat (M (16 + 2 * i + 1))
    rw [show (((M (16 + 2 * i) 1).toNat : Nat) : Int) = M (16 + 2 * i) 1 by omega] at this
    exact this
  have n1 := l1.1
  have n2 := l2.1
  refine ⟨l1, by omega, by omega, l2, by omega, fun j hj => ?_, fun j hj => ?_⟩
  · rw [← l1.2 j hj, show 4 + 2 * i + 1 = 5 + 2 * i by omega]; exact (c4 j (by omega)).2
  · rw [← l2.2 j hj, show 16 + 2 * i + 1 = 17 + 2 * i by omega]; exact (c5 j (by omega)).2
theorem s_applySet_loop {S : List Int} {set : Nat} {M0 : Mem} {Q : Int → Mem → Prop} (hs : set < 64) (hRS : RS M0) (hsub : ∀ i, i < 6 → set.testBit i = true → tbN M0 i = true)
    (h1 : ∀ M' R, chn (tbN M0) (frN M0) (toN M0) set 6 0 S = some R → frT M0 M' → isL R (M' 28 1) (M' 29) → rok M' 30 → Q 1 M')
    (h0 : ∀ M', chn (tbN M0) (frN M0) (toN M0) set 6 0 S = none → frT M0 M' → rok M' 28 → rok M' 30 → Q 0 M') :
    ∀ (k i : Nat) (T : List Int) (M : Mem), i + k = 6 → frT M0 M → isL T (M 28 1) (M 29) → T.length ≤ 60 → sgs T → rok M 30 → chn (tbN M0) (frN M0) (toN M0) set 6 0 S = chn (tbN M0) (frN M0) (toN M0) set k i T → wp_X2_applySet_10 0 (set : Int) Q (k + 1) (i : Int) M := by
  have c28 : (capR 28 : Int) = 60 := rfl
  have c30 : (capR 30 : Int) = 60 := rfl
  generalize chn (tbN M0) (frN M0) (toN M0) set 6 0 S = C at *
  intro k
  induction k with
  | zero =>
    intro i T M hi hfr hT hT60 sT r30 hch
    rw [wp_X2_applySet_10]
    refine ⟨⟨by omega, by omega⟩, fun _ => ?_, fun c => absurd (by omega) c⟩
    exact h1 M T hch hfr hT r30
  | succ k ih =>
    intro i T M hi hfr hT hT60 sT r30 hch
    rw [wp_X2_applySet_10, bit6 set hs i (by omega), Int.toNat_natCast]
    refine ⟨⟨by omega, by omega⟩, fun c => absurd c (by omega), fun _ => ⟨by split <;> decide, fun c => ?_, fun c => ⟨⟨by omega, by omega⟩, ⟨by omega, by omega⟩, ?_⟩⟩⟩
    · have hb : ¬ set.testBit i = true := fun q => c (by rw [if_pos q])
      rw [chn, if_neg hb] at hch
      exact ih (i + 1) T M (by omega) hfr hT hT60 sT r30 hch
    · have hb : set.testBit i = true := by
        by_cases q : set.testBit i = true
        · exact q
        · rw [if_neg q] at c
          exact absurd (by decide) c
      have ht := hsub i (by omega) hb
      obtain ⟨l1, l2, l3, l4, l5, l6, l7⟩ := RS_lists hRS (i := i) (by omega) ht
      rw [chn, if_pos hb, if_pos ht] at hch
      have k1 : (capR (4 + 2 * i) : Int) = 6 := by
        unfold capR
        rw [if_neg (by omega), if_neg (by omega), if_pos (by omega)]
        rfl
      have k2 : (capR (16 + 2 * i) : Int) = 6 := by
        unfold capR
        rw [if_neg (by omega), if_neg (by omega), if_pos (by omega)]
        rfl
      refine s_applyOne (T := T) (fr := frN M0 i) (to := toN M0 i) ⟨by omega, by omega⟩ ⟨by omega, by omega⟩ (by omega) (by omega) hT hT60 (by rw [hfr _ (by omega), hfr _ (by omega)]; exact l1) l2 l3 k1 (by rw [hfr _ (by omega), hfr _ (by omega)]; exact l4) l5 k2 sT l6 (fun hl n f hR => ?_) (fun hl n f hn0 hn60 => ?_)
      · rw [if_pos hl] at hch
        refine ⟨by decide, fun _ => ?_, fun x => absurd (by decide) x⟩
        have n30 := hR.1
        refine s_copyFrom (by decide) (by decide) (by decide) (by unfold rok; rw [setRow_n, c30]; omega) (by rw [setRow_n, c28]; omega) (fun g hg => ?_)
        rw [setRow_n] at hg ⊢
        have e31 : setRow M 30 n f (30 + 1) = f := setRow_a _ _ _ _
        rw [e31] at hg
        refine ih (i + 1) _ _ (by omega) ((hfr.row (o := 30) n f (Or.inr rfl)).row (o := 28) n g (Or.inl rfl)) ⟨?_, fun j hj => ?_⟩ hl (sgs_subL sT l7) ?_ hch
        · rw [setRow_n]; exact n30
        · show setRow (setRow M 30 n f) 28 n g (28 + 1) j = _
          rw [setRow_a, hg j (by omega), hR.2 j hj]
        · unfold rok
          rw [setRow_ne _ _ _ (by decide) (by decide), setRow_n, c30]
          omega
      · rw [if_neg (by omega)] at hch
        refine ⟨by decide, fun x => absurd rfl x, fun _ => ?_⟩
        have n28 := hT.1
        refine h0 _ hch (hfr.row (o := 30) n f (Or.inr rfl)) ?_ ?_
        · unfold rok
          rw [setRow_ne _ _ _ (by decide) (by decide), c28]; omega
        · unfold rok
          rw [setRow_n, c30]; omega
theorem s_applySet {S : List Int} {set : Nat} {M : Mem} {Q : Int → Mem → Prop} (hs : set < 64) (hRS : RS M) (hr : rok M 0) (hr30 : rok M 30) (hS : isL S (M 0 1) (M 1)) (hS30 : S.length ≤ 30) (sS : sgs S) (hsub : ∀ i, i < 6 → set.testBit i = true → tbN M i = true)
    (h1 : ∀ M' R, chn (tbN M) (frN M) (toN M) set 6 0 S = some R → frT M M' → isL R (M' 28 1) (M' 29) → rok M' 30 → Q 1 M')
    (h0 : ∀ M', chn (tbN M) (frN M) (toN M) set 6 0 S = none → frT M M' → rok M' 28 → rok M' 30 → Q 0 M') : wp_X2_applySet 0 (set : Int) M Q := by
  have c28 : (capR 28 : Int) = 60 := rfl
  have n0 := hS.1
  unfold wp_X2_applySet
  refine s_copyFrom (by decide) (by decide) (by decide) hr (by rw [c28]; omega) (fun g hg => ⟨7, ?_⟩)
  refine s_applySet_loop hs hRS hsub h1 h0 6 0 S _ (by omega) ((frT.refl M).row _ _ (Or.inl rfl)) ⟨?_, fun j hj => ?_⟩ (by omega) sS ?_ rfl
  · rw [setRow_n]; exact n0
  · show setRow M 28 (M 0 1) g (28 + 1) j = _
    rw [setRow_a, hg j (by omega)]
    exact hS.2 j hj
  · unfold rok
    rw [setRow_ne _ _ _ (by decide) (by decide)]
    exact hr30
theorem s_textWidth_loop {T : List Int} {M : Mem} {Q : Int → Mem → Prop} (hT : isL T (M 28 1) (M 29)) (hT60 : T.length ≤ 60) (sT : sgs T) (h : Q (wdt (M 44) T) M) :
    ∀ (k i : Nat), i + k = T.length → wp_X2_textWidth_4 Q (k + 1) (sm (fun j => M 44 (T.getD j 0 - 32).toNat) i) (i : Int) M := by
  have c28 : (capR 28 : Int) = 60 := rfl
  have n28 := hT.1
  intro k
  induction k with
  | zero =>
    intro i hi
    rw [wp_X2_textWidth_4]
    unfold wp_X4_size
    rw [n28]
    refine ⟨⟨by omega, by omega⟩, ⟨by omega, by omega⟩, fun _ => ?_, fun c => absurd (by omega) c⟩
    have : i = T.length := by omega
    subst this
    exact h
  | succ k ih =>
    intro i hi
    rw [wp_X2_textWidth_4]
    unfold wp_X4_size
    rw [n28]
    have hs := sT i (by omega)
    refine ⟨⟨by omega, by omega⟩, ⟨by omega, by omega⟩, fun c => absurd c (by omega), fun _ => ?_⟩
    refine s_at_in (by unfold rok; rw [n28, c28]; omega) (by omega) (by omega) ?_
    rw [Int.toNat_natCast, show (28 : Nat) + 1 = 29 from rfl, hT.2 i (by omega)]
    refine ⟨⟨by omega, by omega⟩, fun c => absurd c (by omega), fun _ => ⟨⟨by omega, by omega⟩, fun c => absurd c (by omega), fun _ => ⟨⟨by omega, by omega⟩, ?_⟩⟩⟩
    exact ih (i + 1) (by omega)
theorem s_textWidth {T : List Int} {M : Mem} {Q : Int → Mem → Prop} (hT : isL T (M 28 1) (M 29)) (hT60 : T.length ≤ 60) (sT : sgs T) (h : Q (wdt (M 44) T) M) : wp_X2_textWidth M Q := by
  unfold wp_X2_textWidth
  exact ⟨T.length + 1, s_textWidth_loop hT hT60 sT h T.length 0 (by omega)⟩
