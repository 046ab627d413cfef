/-! pure: fit(), the reference: one shortening -/
def frP (M M' : Mem) : Prop := ∀ k j, k ≠ 71 → (k = 62 → j ≠ 13) → M' k j = M k j
theorem frP.refl (M : Mem) : frP M M := fun _ _ _ _ => rfl
theorem frP.trans {M M' M'' : Mem} (h : frP M M') (h2 : frP M' M'') : frP M M'' := fun k j a b => (h2 k j a b).trans (h k j a b)
theorem frP.cell {M M' : Mem} (h : frP M M') {k : Nat} (h1 : k ≠ 71) (h2 : k ≠ 62) : M' k = M k := funext (fun j => h k j h1 (fun c => absurd c h2))
theorem s_puts {A : List Int} {c : Int} {M : Mem} {Q : Int → Mem → Prop} (hA : isL A (M 62 13) (M 71)) (hA60 : A.length ≤ 60) (h1 : A.length < 60 → ∀ M', frP M M' → isL (A ++ [c]) (M' 62 13) (M' 71) → Q 1 M') (h0 : A.length = 60 → Q 0 M) : wp_X8_puts c M Q := by
  have n := hA.1
  unfold wp_X8_puts
  refine ⟨⟨by omega, by omega⟩, fun q => ⟨⟨by omega, by omega⟩, ?_⟩, fun q => h0 (by omega)⟩
  refine h1 (by omega) _ (fun k j a b => ?_) ?_
  · by_cases e : k = 62
    · subst e
      rw [up_snn _ _ _ (b rfl), up_ne _ _ _ (by decide)]
    · rw [up_ne _ _ _ e, up_ne _ _ _ a]
  · rw [up_sn, up_ne _ _ _ (show 62 ≠ 71 by decide), up_ne _ _ _ (show 71 ≠ 62 by decide), up_same, n, Int.toNat_natCast]
    exact isL_snoc hA.2
theorem s_stands_loop {T fr : List Int} {i p : Nat} {M : Mem} {Q : Int → Mem → Prop} (hi : i < 6) (hT : isL T (M 62 12) (M 70)) (hT60 : T.length ≤ 60) (hfr : isL fr (M 66 i) (fun j => M 68 (6 * i + j))) (hf6 : fr.length ≤ 6) (sT : sgs T) (sf : sgs fr) (hp : p + fr.length ≤ T.length) (h1 : stP T fr p → Q 1 M) (h0 : ¬ stP T fr p → Q 0 M) :
    ∀ (k j : Nat) (x : Int), j + k = fr.length → ((x = 1 ∧ ∀ t, t < j → T.getD (p + t) 0 = fr.getD t 0) ∨ (x = 0 ∧ ¬ stP T fr p)) → wp_X8_stands_22 (i : Int) (p : Int) Q (k + 1) x (j : Int) M := by
  have n1 := hfr.1
  intro k
  induction k with
  | zero =>
    intro j x hj hx
    rw [wp_X8_stands_22, Int.toNat_natCast, n1]
    refine ⟨⟨by omega, by omega⟩, ⟨by omega, by omega⟩, ⟨by omega, by omega⟩, fun _ => ?_, fun c => absurd (by omega) c⟩
    rcases hx with ⟨e, h⟩ | ⟨e, h⟩ <;> subst e
    · exact ⟨Or.inr rfl, h1 ⟨hp, fun t ht => h t (by omega)⟩⟩
    · exact ⟨Or.inl rfl, h0 h⟩
  | succ k ih =>
    intro j x hj hx
    rw [wp_X8_stands_22, Int.toNat_natCast, n1]
    refine ⟨⟨by omega, by omega⟩, ⟨by omega, by omega⟩, ⟨by omega, by omega⟩, fun c => absurd c (by omega), fun _ => ?_⟩
    rcases hx with ⟨e, h⟩ | ⟨e, h⟩ <;> subst e
    · refine ⟨by decide, fun c => absurd c (by decide), fun _ => ⟨⟨by omega, by omega⟩, ⟨by omega, by omega⟩, ?_⟩⟩
      have e1 : M 68 (6 * (i : Int) + (j : Int)).toNat = fr.getD j 0 := by
        rw [show (6 * (i : Int) + (j : Int)).toNat = 6 * i + j by omega]
        exact hfr.2 j (by omega)
      have e2 : M 70 ((p : Int) + (j : Int)).toNat = T.getD (p + j) 0 := by
        rw [show ((p : Int) + (j : Int)).toNat = p + j by omega]
        exact hT.2 _ (by omega)
      rw [e1, e2]
      have s1 := sT (p + j) (by omega)
      have s2 := sf j (by omega)
      refine ⟨⟨by omega, by omega⟩, ⟨by omega, by omega⟩, fun c => ?_, fun c => ?_⟩
      · exact ih (j + 1) 0 (by omega) (Or.inr ⟨rfl, fun q => c (q.2 j (by omega))⟩)
      · refine ih (j + 1) 1 (by omega) (Or.inl ⟨rfl, fun t ht => ?_⟩)
        rcases Nat.lt_or_ge t j with q | q
        · exact h t q
        · rw [show t = j by omega]; omega
    · exact ⟨by decide, fun _ => ih (j + 1) 0 (by omega) (Or.inr ⟨rfl, h⟩), fun c => absurd rfl c⟩
theorem s_stands {T fr : List Int} {i p : Nat} {M : Mem} {Q : Int → Mem → Prop} (hi : i < 6) (hT : isL T (M 62 12) (M 70)) (hT60 : T.length ≤ 60) (hfr : isL fr (M 66 i) (fun j => M 68 (6 * i + j))) (hf6 : fr.length ≤ 6) (sT : sgs T) (sf : sgs fr) (hp : p < T.length) (h1 : stP T fr p → Q 1 M) (h0 : ¬ stP T fr p → Q 0 M) : wp_X8_stands (i : Int) (p : Int) M Q := by
  have n1 := hfr.1
  have n2 := hT.1
  unfold wp_X8_stands
  rw [Int.toNat_natCast, n1, n2]
  refine ⟨⟨by omega, by omega⟩, ⟨by omega, by omega⟩, ⟨by omega, by omega⟩, fun c => ⟨fr.length + 1, ?_⟩, fun c => h0 (fun q => by have := q.1; omega)⟩
  exact s_stands_loop hi hT hT60 hfr hf6 sT sf (by omega) h1 h0 fr.length 0 1 (by omega) (Or.inl ⟨rfl, fun t ht => absurd ht (by omega)⟩)
/-- TO is put -/
theorem s_goes_26 {to C : List Int} {i p : Nat} {M0 : Mem} {k7 : Int → Mem → Prop} {Q : Int → Mem → Prop} (hi : i < 6) (hto : isL to (M0 67 i) (fun j => M0 69 (6 * i + j))) (ht6 : to.length ≤ 6)
    (h1 : C.length ≤ 60 → ∀ M', frP M0 M' → isL C (M' 62 13) (M' 71) → k7 ((p : Int) + M0 66 i) M') (h0 : 60 < C.length → ∀ M', frP M0 M' → Q 0 M') :
    ∀ (k j : Nat) (A : List Int) (M : Mem), j + k = to.length → frP M0 M → isL A (M 62 13) (M 71) → A.length ≤ 60 → A ++ to.drop j = C → wp_X8_goes_26 (i : Int) k7 Q (k + 1) (p : Int) (j : Int) M := by
  have n1 := hto.1
  intro k
  induction k with
  | zero =>
    intro j A M hj hfr hA hA60 hC
    rw [wp_X8_goes_26, Int.toNat_natCast, hfr.cell (show 67 ≠ 71 by decide) (by decide), hfr.cell (show 66 ≠ 71 by decide) (by decide), n1]
    refine ⟨⟨by omega, by omega⟩, ⟨by omega, by omega⟩, ⟨by omega, by omega⟩, fun _ => ⟨⟨by omega, by omega⟩, ?_⟩, fun c => absurd (by omega) c⟩
    rw [List.drop_eq_nil_of_le (by omega), List.append_nil] at hC
    subst hC
    exact h1 hA60 M hfr hA
  | succ k ih =>
    intro j A M hj hfr hA hA60 hC
    rw [wp_X8_goes_26, Int.toNat_natCast, hfr.cell (show 67 ≠ 71 by decide) (by decide), hfr.cell (show 69 ≠ 71 by decide) (by decide), n1]
    refine ⟨⟨by omega, by omega⟩, ⟨by omega, by omega⟩, ⟨by omega, by omega⟩, fun c => absurd c (by omega), fun _ => ⟨⟨by omega, by omega⟩, ?_⟩⟩
    have hd : to.drop j = to.getD j 0 :: to.drop (j + 1) := by
      rw [List.drop_eq_getElem_cons (by omega), List.getD_eq_getElem?_getD, List.getElem?_eq_getElem (by omega), Option.getD_some]
    rw [hd, show A ++ to.getD j 0 :: to.drop (j + 1) = A ++ [to.getD j 0] ++ to.drop (j + 1) by simp] at hC
    have e : M0 69 (6 * (i : Int) + (j : Int)).toNat = to.getD j 0 := by
      rw [show (6 * (i : Int) + (j : Int)).toNat = 6 * i + j by omega]
      exact hto.2 j (by omega)
    rw [e]
    refine s_puts hA hA60 (fun hl M' hfr' hA' => ?_) (fun hl => ?_)
    · refine ⟨by decide, fun _ => ?_, fun x => absurd (by decide) x⟩
      exact ih (j + 1) _ M' (by omega) (hfr.trans hfr') hA' (by rw [List.length_append]; simp; omega) hC
    · refine ⟨by decide, fun x => absurd rfl x, fun _ => h0 ?_ M hfr⟩
      rw [← hC, List.length_append, List.length_append]
      simp only [List.length_cons, List.length_nil]
      omega
theorem s_goes_97 {R : List Int} {i : Int} {M0 : Mem} {Q : Int → Mem → Prop} (hR : isL R (M0 62 13) (M0 71)) (hR60 : R.length ≤ 60) (h : ∀ f, (∀ j, j < R.length → f j = R.getD j 0) → Q 1 (up (set1 M0 70 f) 62 12 (R.length : Int))) :
    ∀ (k j : Nat) (f : Nat → Int), j + k = R.length → (∀ t, t < j → f t = R.getD t 0) → wp_X8_goes_97 i Q (k + 1) (j : Int) (set1 M0 70 f) := by
  have n := hR.1
  have e62 : ∀ f, set1 M0 70 f 62 = M0 62 := fun f => set1_ne _ _ (by decide)
  have e71 : ∀ f, set1 M0 70 f 71 = M0 71 := fun f => set1_ne _ _ (by decide)
  intro k
  induction k with
  | zero =>
    intro j f hj hf
    rw [wp_X8_goes_97, e62, n]
    exact ⟨⟨by omega, by omega⟩, ⟨by omega, by omega⟩, fun _ => h f (fun t ht => hf t (by omega)), fun c => absurd (by omega) c⟩
  | succ k ih =>
    intro j f hj hf
    rw [wp_X8_goes_97, e62, e71, n]
    refine ⟨⟨by omega, by omega⟩, ⟨by omega, by omega⟩, fun c => absurd c (by omega), fun _ => ⟨⟨by omega, by omega⟩, ⟨by omega, by omega⟩, ?_⟩⟩
    rw [up_set1, set1_set, set1_a, Int.toNat_natCast, hR.2 j (by omega)]
    refine ih (j + 1) _ (by omega) (fun t ht => ?_)
    rcases Nat.lt_or_ge t j with c | c
    · rw [upr_ne _ _ (by omega)]; exact hf t c
    · rw [show t = j by omega, upr_at]
def frG (M M' : Mem) : Prop := ∀ k j, k ≠ 70 → k ≠ 71 → (k = 62 → j ≠ 12 ∧ j ≠ 13) → M' k j = M k j
theorem frG.refl (M : Mem) : frG M M := fun _ _ _ _ _ => rfl
theorem frG.trans {M M' M'' : Mem} (h : frG M M') (h2 : frG M' M'') : frG M M'' := fun k j a b c => (h2 k j a b c).trans (h k j a b c)
theorem frG.ofP {M M' : Mem} (h : frP M M') : frG M M' := fun k j a b c => h k j b (fun e => (c e).2)
theorem frG.cell {M M' : Mem} (h : frG M M') {k : Nat} (h0 : k ≠ 70) (h1 : k ≠ 71) (h2 : k ≠ 62) : M' k = M k := funext (fun j => h k j h0 h1 (fun c => absurd c h2))
theorem frG.up {M M' : Mem} (h : frG M M') {i : Nat} (v : Int) (hi : i = 12 ∨ i = 13) : frG M (up M' 62 i v) := by
  intro k j a b c
  by_cases e : k = 62
  · subst e
    have := c rfl
    rw [up_snn _ _ _ (by omega)]
    exact h _ _ a b c
  · rw [up_ne _ _ _ e]
    exact h _ _ a b c
theorem frG.set {M M' : Mem} (h : frG M M') (f : Nat → Int) : frG M (set1 M' 70 f) := by
  intro k j a b c
  rw [set1_ne _ _ a]
  exact h _ _ a b c
theorem s_goes_7 {T fr to : List Int} {i : Nat} {M0 : Mem} {Q : Int → Mem → Prop} (hi : i < 6) (hT : isL T (M0 62 12) (M0 70)) (hT60 : T.length ≤ 60) (hfr : isL fr (M0 66 i) (fun j => M0 68 (6 * i + j))) (hf1 : 1 ≤ fr.length) (hf6 : fr.length ≤ 6) (hto : isL to (M0 67 i) (fun j => M0 69 (6 * i + j))) (ht6 : to.length ≤ 6) (sT : sgs T) (sf : sgs fr)
    (h1 : (subL T fr to).length ≤ 60 → ∀ M', frG M0 M' → isL (subL T fr to) (M' 62 12) (M' 70) → Q 1 M') (h0 : 60 < (subL T fr to).length → ∀ M', frG M0 M' → Q 0 M') :
    ∀ (k p : Nat) (A : List Int) (M : Mem), T.length ≤ p + k → p ≤ T.length → frP M0 M → isL A (M 62 13) (M 71) → A.length ≤ 60 → A ++ gL T fr to p = subL T fr to → wp_X8_goes_7 (i : Int) Q (k + 1) (p : Int) M := by
  have n12 := hT.1
  have n66 := hfr.1
  have tl : ∀ M, frP M0 M → isL T (M 62 12) (M 70) := fun M h => by rw [h 62 12 (by decide) (fun _ => by decide), h.cell (show 70 ≠ 71 by decide) (by decide)]; exact hT
  have fin : ∀ (A : List Int) (M : Mem), frP M0 M → isL A (M 62 13) (M 71) → A.length ≤ 60 → A = subL T fr to → ∃ n2, wp_X8_goes_97 (i : Int) Q n2 0 M := by
    intro A M hM hA hA60 hAe
    refine ⟨A.length + 1, ?_⟩
    have g := s_goes_97 (i := (i : Int)) (Q := Q) hA hA60 (fun f hf => ?_) A.length 0 (M 70) (by omega) (fun t ht => absurd ht (by omega))
    · rw [set1_self] at g
      exact g
    · subst hAe
      refine h1 hA60 _ (((frG.ofP hM).set f).up _ (Or.inl rfl)) ⟨up_sn _ _ _ _, fun j hj => ?_⟩
      rw [up_ne _ _ _ (by decide), set1_a]
      exact hf j hj
  intro k
  induction k with
  | zero =>
    intro p A M hp hpT hM hA hA60 hE
    rw [wp_X8_goes_7, hM 62 12 (by decide) (fun _ => by decide), n12]
    rw [gL_end (by omega), List.append_nil] at hE
    exact ⟨⟨by omega, by omega⟩, ⟨by omega, by omega⟩, fun _ => fin A M hM hA hA60 hE, fun c => absurd (by omega) c⟩
  | succ k ih =>
    intro p A M hp hpT hM hA hA60 hE
    rw [wp_X8_goes_7, hM 62 12 (by decide) (fun _ => by decide), n12]
    refine ⟨⟨by omega, by omega⟩, ⟨by omega, by omega⟩, fun c => ?_, fun c => ?_⟩
    · rw [gL_end (by omega), List.append_nil] at hE
      exact fin A M hM hA hA60 hE
    · refine s_stands hi (tl M hM) hT60 (by rw [hM.cell (show 66 ≠ 71 by decide) (by decide), hM.cell (show 68 ≠ 71 by decide) (by decide)]; exact hfr) hf6 sT sf (by omega) (fun hs => ?_) (fun hs => ?_)
      · refine ⟨by decide, fun q => absurd q (by decide), fun _ => ⟨to.length + 1, ?_⟩⟩
        rw [gL_yes hf1 (by omega) hs, ← List.append_assoc] at hE
        refine s_goes_26 (to := to) (C := A ++ to) hi (by rw [hM.cell (show 67 ≠ 71 by decide) (by decide), hM.cell (show 69 ≠ 71 by decide) (by decide)]; exact hto) ht6 (fun hl M' hM' hA' => ?_) (fun hl M' hM' => ?_) to.length 0 A M (by omega) (frP.refl M) hA hA60 (by rw [List.drop_zero])
        · rw [hM.cell (show 66 ≠ 71 by decide) (by decide), n66]
          exact ih (p + fr.length) (A ++ to) M' (by omega) (by have := hs.1; omega) (hM.trans hM') hA' hl hE
        · refine h0 ?_ M' (frG.ofP (hM.trans hM'))
          rw [← hE, List.length_append]
          omega
      · refine ⟨by decide, fun _ => ⟨⟨by omega, by omega⟩, ?_⟩, fun q => absurd rfl q⟩
        rw [gL_no hf1 (by omega) hs, show A ++ T.getD p 0 :: gL T fr to (p + 1) = A ++ [T.getD p 0] ++ gL T fr to (p + 1) by simp] at hE
        rw [Int.toNat_natCast, (tl M hM).2 p (by omega)]
        refine s_puts hA hA60 (fun hl M' hM' hA' => ?_) (fun hl => ?_)
        · refine ⟨by decide, fun _ => ?_, fun x => absurd (by decide) x⟩
          exact ih (p + 1) _ M' (by omega) (by omega) (hM.trans hM') hA' (by rw [List.length_append]; simp; omega) hE
        · refine ⟨by decide, fun x => absurd rfl x, fun _ => h0 ?_ M (frG.ofP hM)⟩
          rw [← hE, List.length_append, List.length_append]
          simp only [List.length_cons, List.length_nil]
          omega
theorem s_goes {T fr to : List Int} {i : Nat} {M : Mem} {Q : Int → Mem → Prop} (hi : i < 6) (hT : isL T (M 62 12) (M 70)) (hT60 : T.length ≤ 60) (hfr : isL fr (M 66 i) (fun j => M 68 (6 * i + j))) (hf1 : 1 ≤ fr.length) (hf6 : fr.length ≤ 6) (hto : isL to (M 67 i) (fun j => M 69 (6 * i + j))) (ht6 : to.length ≤ 6) (sT : sgs T) (sf : sgs fr)
    (h1 : (subL T fr to).length ≤ 60 → ∀ M', frG M M' → isL (subL T fr to) (M' 62 12) (M' 70) → Q 1 M') (h0 : 60 < (subL T fr to).length → ∀ M', frG M M' → Q 0 M') : wp_X8_goes (i : Int) M Q := by
  unfold wp_X8_goes
  have hG : frG M (up M 62 13 0) := (frG.refl M).up _ (Or.inr rfl)
  refine ⟨T.length + 1, s_goes_7 (M0 := up M 62 13 0) hi hT hT60 hfr hf1 hf6 hto ht6 sT sf (fun hl M' hM' => h1 hl M' (hG.trans hM')) (fun hl M' hM' => h0 hl M' (hG.trans hM')) T.length 0 [] _ (by omega) (by omega) (frP.refl _) ⟨rfl, fun j hj => absurd hj (by simp)⟩ (by simp) rfl⟩
