/-! pure: fit(), the reference -/
def RSr (tb : Nat → Bool) (fr to : Nat → List Int) (M : Mem) : Prop := ∀ i, i < 6 → (tb i = false → M 66 i = 0) ∧ (tb i = true → isL (fr i) (M 66 i) (fun j => M 68 (6 * i + j)) ∧ 1 ≤ (fr i).length ∧ (fr i).length ≤ 6 ∧ isL (to i) (M 67 i) (fun j => M 69 (6 * i + j)) ∧ (to i).length ≤ 6 ∧ sgs (fr i) ∧ sgs (to i))
theorem RSr_congr {tb : Nat → Bool} {fr to : Nat → List Int} {M M' : Mem} (h66 : M' 66 = M 66) (h67 : M' 67 = M 67) (h68 : M' 68 = M 68) (h69 : M' 69 = M 69) (h : RSr tb fr to M) : RSr tb fr to M' := by
  intro i hi
  rw [h66, h67, h68, h69]
  exact h i hi
theorem s_becomes_32 {tb : Nat → Bool} {fr to : Nat → List Int} {S : List Int} {set : Nat} {a2 : Int} {M0 : Mem} {Q : Int → Mem → Prop} (hs : set < 64) (hRS : RSr tb fr to M0)
    (h1 : ∀ M' R, chn tb fr to set 6 0 S = some R → frG M0 M' → isL R (M' 62 12) (M' 70) → Q 1 M') (h0 : ∀ M', chn tb fr to set 6 0 S = none → frG M0 M' → Q 0 M') :
    ∀ (k i : Nat) (T : List Int) (M : Mem), i + k = 6 → frG M0 M → isL T (M 62 12) (M 70) → T.length ≤ 60 → sgs T → chn tb fr to set 6 0 S = chn tb fr to set k i T → wp_X8_becomes_32 (set : Int) a2 Q (k + 1) (i : Int) M := by
  generalize chn tb fr to set 6 0 S = C at *
  intro k
  induction k with
  | zero =>
    intro i T M hi hfr hT hT60 sT hch
    rw [wp_X8_becomes_32]
    exact ⟨⟨by omega, by omega⟩, fun _ => h1 M T hch hfr hT, fun c => absurd (by omega) c⟩
  | succ k ih =>
    intro i T M hi hfr hT hT60 sT hch
    rw [wp_X8_becomes_32, bit6 set hs i (by omega), Int.toNat_natCast, hfr.cell (show 66 ≠ 70 by decide) (by decide) (by decide)]
    refine ⟨⟨by omega, by omega⟩, fun c => absurd c (by omega), fun _ => ⟨by split <;> decide, fun c => ?_, fun c => ⟨⟨by omega, by omega⟩, ?_⟩⟩⟩
    · have hb : ¬ set.testBit i = true := fun q => c (by rw [if_pos q])
      rw [chn, if_neg hb] at hch
      exact ih (i + 1) T M (by omega) hfr hT hT60 sT hch
    · have hb : set.testBit i = true := by
        by_cases q : set.testBit i = true
        · exact q
        · rw [if_neg q] at c
          exact absurd (by decide) c
      rw [chn, if_pos hb] at hch
      obtain ⟨q0, q1⟩ := hRS i (by omega)
      cases ht : tb i with
      | false =>
        rw [ht, if_neg (by decide)] at hch
        have z := q0 ht
        rw [z]
        exact ⟨by decide, fun _ => h0 M hch hfr, fun x => absurd rfl x⟩
      | true =>
        rw [if_pos ht] at hch
        obtain ⟨l1, l2, l3, l4, l5, l6, l7⟩ := q1 ht
        have n66 := l1.1
        refine ⟨⟨by omega, by omega⟩, fun x => absurd x (by omega), fun _ => ?_⟩
        refine s_goes (T := T) (fr := fr i) (to := to i) (by omega) hT hT60 (by rw [hfr.cell (show 66 ≠ 70 by decide) (by decide) (by decide), hfr.cell (show 68 ≠ 70 by decide) (by decide) (by decide)]; exact l1) l2 l3 (by rw [hfr.cell (show 67 ≠ 70 by decide) (by decide) (by decide), hfr.cell (show 69 ≠ 70 by decide) (by decide) (by decide)]; exact l4) l5 sT l6 (fun hl M' hM' hL => ?_) (fun hl M' hM' => ?_)
        · rw [if_pos hl] at hch
          exact ⟨by decide, fun _ => ih (i + 1) _ M' (by omega) (hfr.trans hM') hL hl (sgs_subL sT l7) hch, fun x => absurd (by decide) x⟩
        · rw [if_neg (by omega)] at hch
          exact ⟨by decide, fun x => absurd rfl x, fun _ => h0 M' hch (hfr.trans hM')⟩
theorem s_becomes_7 {S : List Int} {set : Nat} {M0 : Mem} {Q : Int → Mem → Prop} (hS : ∀ j, j < S.length → M0 64 j = S.getD j 0) (hS30 : S.length ≤ 30)
    (h : ∀ f, (∀ j, j < S.length → f j = S.getD j 0) → ∃ n2, wp_X8_becomes_32 (set : Int) (S.length : Int) Q n2 0 (set1 M0 70 f)) :
    ∀ (k i : Nat) (f : Nat → Int), i + k = S.length → (∀ j, j < i → f j = S.getD j 0) → wp_X8_becomes_7 (set : Int) (S.length : Int) Q (k + 1) (i : Int) (set1 M0 70 f) := by
  intro k
  induction k with
  | zero =>
    intro i f hi hf
    rw [wp_X8_becomes_7]
    exact ⟨⟨by omega, by omega⟩, ⟨by omega, by omega⟩, fun _ => h f (fun j hj => hf j (by omega)), fun c => absurd (by omega) c⟩
  | succ k ih =>
    intro i f hi hf
    rw [wp_X8_becomes_7]
    refine ⟨⟨by omega, by omega⟩, ⟨by omega, by omega⟩, fun c => absurd c (by omega), fun _ => ⟨⟨by omega, by omega⟩, ⟨by omega, by omega⟩, ?_⟩⟩
    rw [up_set1, set1_set, set1_a, Int.toNat_natCast, set1_ne _ _ (show 64 ≠ 70 by decide), hS i (by omega)]
    refine ih (i + 1) _ (by omega) (fun t ht => ?_)
    rcases Nat.lt_or_ge t i with c | c
    · rw [upr_ne _ _ (by omega)]; exact hf t c
    · rw [show t = i by omega, upr_at]
theorem s_becomes {tb : Nat → Bool} {fr to : Nat → List Int} {S : List Int} {set : Nat} {M : Mem} {Q : Int → Mem → Prop} (hs : set < 64) (hRS : RSr tb fr to M) (hS : ∀ j, j < S.length → M 64 j = S.getD j 0) (hS30 : S.length ≤ 30) (sS : sgs S)
    (h1 : ∀ M' R, chn tb fr to set 6 0 S = some R → frG M M' → isL R (M' 62 12) (M' 70) → Q 1 M') (h0 : ∀ M', chn tb fr to set 6 0 S = none → frG M M' → Q 0 M') : wp_X8_becomes (set : Int) (S.length : Int) M Q := by
  unfold wp_X8_becomes
  have hG : frG M (up M 62 12 (S.length : Int)) := (frG.refl M).up _ (Or.inl rfl)
  refine ⟨S.length + 1, ?_⟩
  have g := s_becomes_7 (S := S) (set := set) (M0 := up M 62 12 (S.length : Int)) (Q := Q) hS hS30 (fun f hf => ⟨7, ?_⟩) S.length 0 (M 70) (by omega) (fun j hj => absurd hj (by omega))
  · have e : set1 (up M 62 12 (S.length : Int)) 70 (M 70) = up M 62 12 (S.length : Int) := set1_self (up M 62 12 (S.length : Int)) 70
    rw [e] at g
    exact g
  · have hG2 := hG.set f
    refine s_becomes_32 (M0 := set1 (up M 62 12 (S.length : Int)) 70 f) hs (RSr_congr (M := M) rfl rfl rfl rfl hRS) (fun M' R hR hM' hL => h1 M' R hR (hG2.trans hM') hL) (fun M' hR hM' => h0 M' hR (hG2.trans hM')) 6 0 S _ (by omega) (frG.refl _) ⟨rfl, fun j hj => ?_⟩ (by omega) sS rfl
    exact hf j hj
theorem s_wideOf_loop {T : List Int} {w : Nat → Int} {M : Mem} {Q : Int → Mem → Prop} (hT : isL T (M 62 12) (M 70)) (hT60 : T.length ≤ 60) (sT : sgs T) (hw : ∀ j, j < 95 → M 63 (j + 32) = w j) (h : Q (wdt w T) M) :
    ∀ (k i : Nat), i + k = T.length → wp_X8_wideOf_4 Q (k + 1) (sm (fun j => w (T.getD j 0 - 32).toNat) i) (i : Int) M := by
  have n := hT.1
  intro k
  induction k with
  | zero =>
    intro i hi
    rw [wp_X8_wideOf_4, n]
    have e : i = T.length := by omega
    subst e
    exact ⟨⟨by omega, by omega⟩, ⟨by omega, by omega⟩, fun _ => h, fun c => absurd (by omega) c⟩
  | succ k ih =>
    intro i hi
    rw [wp_X8_wideOf_4, n, Int.toNat_natCast, hT.2 i (by omega)]
    have hs := sT i (by omega)
    refine ⟨⟨by omega, by omega⟩, ⟨by omega, by omega⟩, fun c => absurd c (by omega), fun _ => ⟨⟨by omega, by omega⟩, ⟨by omega, by omega⟩, ?_⟩⟩
    have e : M 63 (T.getD i 0).toNat = w (T.getD i 0 - 32).toNat := by
      rw [← hw _ (by omega)]
      congr 1
      omega
    rw [e]
    exact ih (i + 1) (by omega)
theorem s_wideOf {T : List Int} {w : Nat → Int} {M : Mem} {Q : Int → Mem → Prop} (hT : isL T (M 62 12) (M 70)) (hT60 : T.length ≤ 60) (sT : sgs T) (hw : ∀ j, j < 95 → M 63 (j + 32) = w j) (h : Q (wdt w T) M) : wp_X8_wideOf M Q := by
  unfold wp_X8_wideOf
  exact ⟨T.length + 1, s_wideOf_loop hT hT60 sT hw h T.length 0 (by omega)⟩
theorem s_bits_loop {v : Nat} {M : Mem} {Q : Int → Mem → Prop} (hv : v < 64) (h : Q (bc6 v) M) : ∀ (k i : Nat), i + k = 6 → wp_X8_bits_4 (v : Int) Q (k + 1) (sm (fun k => if v.testBit k then 1 else 0) i) (i : Int) M := by
  intro k
  induction k with
  | zero =>
    intro i hi
    rw [wp_X8_bits_4]
    have e : i = 6 := by omega
    subst e
    exact ⟨by decide, fun _ => h, fun c => absurd (by decide) c⟩
  | succ k ih =>
    intro i hi
    rw [wp_X8_bits_4, bit6 v hv i (by omega)]
    exact ⟨⟨by omega, by omega⟩, fun c => absurd c (by omega), fun _ => ih (i + 1) (by omega)⟩
theorem s_bits {v : Nat} {x : Int} {M : Mem} {Q : Int → Mem → Prop} (hx : x = (v : Int)) (hv : v < 64) (h : Q (bc6 v) M) : wp_X8_bits x M Q := by
  subst hx
  unfold wp_X8_bits
  exact ⟨7, s_bits_loop hv h 6 0 rfl⟩
def frF (M M' : Mem) : Prop := ∀ k j, k ≠ 70 → k ≠ 71 → k ≠ 72 → (k = 62 → j < 12 ∨ 16 < j) → M' k j = M k j
theorem frF.refl (M : Mem) : frF M M := fun _ _ _ _ _ _ => rfl
theorem frF.trans {M M' M'' : Mem} (h : frF M M') (h2 : frF M' M'') : frF M M'' := fun k j a b c d => (h2 k j a b c d).trans (h k j a b c d)
theorem frF.ofG {M M' : Mem} (h : frG M M') : frF M M' := fun k j a b _ d => h k j a b (fun e => by have := d e; omega)
theorem frF.cell {M M' : Mem} (h : frF M M') {k : Nat} (h0 : k < 70 ∨ 72 < k) (h2 : k ≠ 62) : M' k = M k := funext (fun j => h k j (by omega) (by omega) (by omega) (fun c => absurd c h2))
theorem frF.up {M M' : Mem} (h : frF M M') {i : Nat} (v : Int) (hi : 12 ≤ i ∧ i ≤ 16) : frF M (up M' 62 i v) := by
  intro k j a b c d
  by_cases e : k = 62
  · subst e
    have := d rfl
    rw [up_snn _ _ _ (by omega)]
    exact h _ _ a b c d
  · rw [up_ne _ _ _ e]
    exact h _ _ a b c d
theorem frF.set {M M' : Mem} (h : frF M M') (f : Nat → Int) : frF M (set1 M' 72 f) := by
  intro k j a b c d
  rw [set1_ne _ _ c]
  exact h _ _ a b c d
theorem s_fit_144 {R : List Int} {a1 x2 x3 : Int} {M0 : Mem} {k44 : Int → Int → Mem → Prop} {Q : Int → Mem → Prop} (hR : isL R (M0 62 12) (M0 70)) (hR60 : R.length ≤ 60) (h : ∀ f, (∀ j, j < R.length → f j = R.getD j 0) → k44 x2 (x3 + 1) (set1 M0 72 f)) :
    ∀ (k j : Nat) (f : Nat → Int), j + k = R.length → (∀ t, t < j → f t = R.getD t 0) → wp_X8_fit_144 a1 k44 Q (k + 1) x2 x3 (j : Int) (set1 M0 72 f) := by
  have n := hR.1
  have e62 : ∀ f, set1 M0 72 f 62 = M0 62 := fun f => set1_ne _ _ (by decide)
  have e70 : ∀ f, set1 M0 72 f 70 = M0 70 := fun f => set1_ne _ _ (by decide)
  intro k
  induction k with
  | zero =>
    intro j f hj hf
    rw [wp_X8_fit_144, e62, n]
    exact ⟨⟨by omega, by omega⟩, ⟨by omega, by omega⟩, fun _ => h f (fun t ht => hf t (by omega)), fun c => absurd (by omega) c⟩
  | succ k ih =>
    intro j f hj hf
    rw [wp_X8_fit_144, e62, e70, n]
    refine ⟨⟨by omega, by omega⟩, ⟨by omega, by omega⟩, fun c => absurd c (by omega), fun _ => ⟨⟨by omega, by omega⟩, ⟨by omega, by omega⟩, ?_⟩⟩
    rw [up_set1, set1_set, set1_a, Int.toNat_natCast, hR.2 j (by omega)]
    refine ih (j + 1) _ (by omega) (fun t ht => ?_)
    rcases Nat.lt_or_ge t j with c | c
    · rw [upr_ne _ _ (by omega)]; exact hf t c
    · rw [show t = j by omega, upr_at]
theorem s_fit_211 {R : List Int} {a1 : Int} {M0 : Mem} {Q : Int → Mem → Prop} (hR : isL R (M0 62 14) (M0 72)) (hR60 : R.length ≤ 60) (h : ∀ f, (∀ j, j < R.length → f j = R.getD j 0) → Q (M0 62 16) (up (set1 M0 65 f) 62 17 (M0 62 15))) :
    ∀ (k j : Nat) (f : Nat → Int), j + k = R.length → (∀ t, t < j → f t = R.getD t 0) → wp_X8_fit_211 a1 Q (k + 1) (j : Int) (set1 M0 65 f) := by
  have n := hR.1
  have e62 : ∀ f, set1 M0 65 f 62 = M0 62 := fun f => set1_ne _ _ (by decide)
  have e72 : ∀ f, set1 M0 65 f 72 = M0 72 := fun f => set1_ne _ _ (by decide)
  intro k
  induction k with
  | zero =>
    intro j f hj hf
    rw [wp_X8_fit_211, up_snn _ _ _ (show 16 ≠ 17 by decide), e62, n]
    exact ⟨⟨by omega, by omega⟩, ⟨by omega, by omega⟩, fun _ => h f (fun t ht => hf t (by omega)), fun c => absurd (by omega) c⟩
  | succ k ih =>
    intro j f hj hf
    rw [wp_X8_fit_211, e62, e72, n]
    refine ⟨⟨by omega, by omega⟩, ⟨by omega, by omega⟩, fun c => absurd c (by omega), fun _ => ⟨⟨by omega, by omega⟩, ⟨by omega, by omega⟩, ?_⟩⟩
    rw [up_set1, set1_set, set1_a, Int.toNat_natCast, hR.2 j (by omega)]
    refine ih (j + 1) _ (by omega) (fun t ht => ?_)
    rcases Nat.lt_or_ge t j with c | c
    · rw [upr_ne _ _ (by omega)]; exact hf t c
    · rw [show t = j by omega, upr_at]
/-- best set so far, as the reference keeps it -/
def bsR (w : Nat → Int) (b : Option (Nat × List Int)) (M : Mem) : Prop := (b = none ∧ M 62 15 = -1) ∨ ∃ s R, b = some (s, R) ∧ M 62 15 = (s : Int) ∧ M 62 16 = wdt w R ∧ isL R (M 62 14) (M 72)
theorem bsR_G {w : Nat → Int} {b : Option (Nat × List Int)} {M M' : Mem} (h : frG M M') (hb : bsR w b M) : bsR w b M' := by
  unfold bsR
  rw [h 62 15 (by decide) (by decide) (fun _ => by decide), h 62 16 (by decide) (by decide) (fun _ => by decide), h 62 14 (by decide) (by decide) (fun _ => by decide), h.cell (show 72 ≠ 70 by decide) (by decide) (by decide)]
  exact hb
theorem s_fit_44 {tb : Nat → Bool} {fr to : Nat → List Int} {S : List Int} {w : Nat → Int} {most : Int} {M0 : Mem} {Q : Int → Mem → Prop} (hm : 0 ≤ most ∧ most ≤ 999) (hRS : RSr tb fr to M0) (hW : ∀ j, j < 95 → M0 63 (j + 32) = w j ∧ 1 ≤ w j ∧ w j ≤ 20) (hS : ∀ j, j < S.length → M0 64 j = S.getD j 0) (hS30 : S.length ≤ 30) (sS : sgs S)
    (h0 : ∀ M', frF M0 M' → bst (fun i => chn tb fr to i 6 0 S) w most 64 = none → Q (-1) (up M' 62 4 0))
    (h1 : ∀ M' s R f, frF M0 M' → bst (fun i => chn tb fr to i 6 0 S) w most 64 = some (s, R) → R.length ≤ 60 → (∀ j, j < R.length → f j = R.getD j 0) → Q (wdt w R) (up (set1 (up M' 62 4 (R.length : Int)) 65 f) 62 17 (s : Int))) :
    ∀ (k i : Nat) (M : Mem), i + k = 64 → frF M0 M → bsR w (bst (fun i => chn tb fr to i 6 0 S) w most i) M → wp_X8_fit_44 most Q (k + 1) (S.length : Int) (i : Int) M := by
  have hsg : ∀ i, i < 6 → tb i = true → sgs (to i) := fun i hi ht => ((hRS i hi).2 ht).2.2.2.2.2.2
  have hok : ∀ {i : Nat} {R : List Int}, chn tb fr to i 6 0 S = some R → sgs R ∧ R.length ≤ 60 := fun {i R} h => chn_ok hsg 6 0 S R (by omega) sS (by omega) h
  have hW2 : ∀ j, j < 95 → 1 ≤ w j ∧ w j ≤ 20 := fun j hj => (hW j hj).2
  intro k
  induction k with
  | zero =>
    intro i M hi hfr hb
    rw [wp_X8_fit_44]
    have e : i = 64 := by omega
    subst e
    refine ⟨by decide, fun _ => ?_, fun c => absurd (by decide) c⟩
    rcases hb with ⟨hn, e15⟩ | ⟨s, R, hn, e15, e16, hL⟩
    · rw [e15]
      refine ⟨by decide, fun c => absurd rfl c, fun _ => ?_⟩
      have g : up M 62 4 0 62 15 = -1 := e15
      rw [g]
      exact ⟨by decide, fun c => absurd rfl c, fun _ => h0 M hfr hn⟩
    · obtain ⟨b1, b2, b3⟩ := bst_in hn
      have o2 := hok b2
      rw [e15]
      have hs64 : s < 64 := b1
      refine ⟨⟨by omega, by omega⟩, fun _ => ?_, fun c => absurd (by omega) c⟩
      have g : up M 62 4 (M 62 14) 62 15 = (s : Int) := e15
      have g16 : up M 62 4 (M 62 14) 62 16 = wdt w R := e16
      have g14 : isL R (up M 62 4 (M 62 14) 62 14) (up M 62 4 (M 62 14) 72) := hL
      rw [g]
      refine ⟨⟨by omega, by omega⟩, fun _ => ⟨R.length + 1, ?_⟩, fun c => absurd (by omega) c⟩
      have n14 := hL.1
      have st := s_fit_211 (a1 := most) (Q := Q) g14 o2.2 (fun f hf => ?_) R.length 0 (up M 62 4 (M 62 14) 65) (by omega) (fun t ht => absurd ht (by omega))
      · rw [set1_self] at st
        exact st
      · rw [g, g16, n14]
        exact h1 M s R f hfr hn o2.2 hf
  | succ k ih =>
    intro i M hi hfr hb
    rw [wp_X8_fit_44]
    have hi64 : i < 64 := by omega
    refine ⟨⟨by omega, by omega⟩, fun c => absurd c (by omega), fun _ => ?_⟩
    refine s_becomes (tb := tb) (fr := fr) (to := to) (S := S) hi64 (RSr_congr (hfr.cell (by omega) (by decide)) (hfr.cell (by omega) (by decide)) (hfr.cell (by omega) (by decide)) (hfr.cell (by omega) (by decide)) hRS) (by rw [hfr.cell (k := 64) (by omega) (by decide)]; exact hS) hS30 sS (fun M1 T hT hG hL => ?_) (fun M1 hT hG => ?_)
    · have o1 := hok hT
      have hfr1 := hfr.trans (frF.ofG hG)
      have hb1 := bsR_G hG hb
      have wr := wdt_rng hW2 o1.1 o1.2
      refine ⟨by decide, fun _ => ?_, fun c => absurd (by decide) c⟩
      refine s_wideOf (w := w) hL o1.2 o1.1 (by rw [hfr1.cell (k := 63) (by omega) (by decide)]; exact fun j hj => (hW j hj).1) ?_
      have n12 := hL.1
      have take : ∀ (hx : bst (fun i => chn tb fr to i 6 0 S) w most (i + 1) = some (i, T)), ∃ n2, wp_X8_fit_144 most (fun x2 x3 M => wp_X8_fit_44 most Q (k + 1) x2 x3 M) Q n2 (S.length : Int) (i : Int) 0 (up (up (up M1 62 15 (i : Int)) 62 16 (wdt w T)) 62 14 ((up (up M1 62 15 (i : Int)) 62 16 (wdt w T)) 62 12)) := by
        intro hx
        have e12 : (up (up M1 62 15 (i : Int)) 62 16 (wdt w T)) 62 12 = (T.length : Int) := n12
        rw [e12]
        have hfr2 := ((hfr1.up (i := 15) (i : Int) (by omega)).up (i := 16) (wdt w T) (by omega)).up (i := 14) (T.length : Int) (by omega)
        have l12 : isL T (up (up (up M1 62 15 (i : Int)) 62 16 (wdt w T)) 62 14 (T.length : Int) 62 12) (up (up (up M1 62 15 (i : Int)) 62 16 (wdt w T)) 62 14 (T.length : Int) 70) := hL
        have l15 : up (up (up M1 62 15 (i : Int)) 62 16 (wdt w T)) 62 14 (T.length : Int) 62 15 = (i : Int) := rfl
        have l16 : up (up (up M1 62 15 (i : Int)) 62 16 (wdt w T)) 62 14 (T.length : Int) 62 16 = wdt w T := rfl
        have l14 : up (up (up M1 62 15 (i : Int)) 62 16 (wdt w T)) 62 14 (T.length : Int) 62 14 = (T.length : Int) := rfl
        generalize up (up (up M1 62 15 (i : Int)) 62 16 (wdt w T)) 62 14 (T.length : Int) = M2 at *
        refine ⟨T.length + 1, ?_⟩
        have st := s_fit_144 (a1 := most) (x2 := (S.length : Int)) (x3 := (i : Int)) (k44 := fun x2 x3 M => wp_X8_fit_44 most Q (k + 1) x2 x3 M) (Q := Q) l12 o1.2 (fun f hf => ?_) T.length 0 (M2 72) (by omega) (fun t ht => absurd ht (by omega))
        · rw [set1_self] at st
          exact st
        · refine ih (i + 1) (set1 M2 72 f) (by omega) (hfr2.set f) (Or.inr ⟨i, T, hx, ?_, ?_, ?_⟩)
          · rw [set1_ne _ _ (by decide)]; exact l15
          · rw [set1_ne _ _ (by decide)]; exact l16
          · rw [set1_ne _ _ (show 62 ≠ 72 by decide), l14, set1_a]; exact ⟨rfl, hf⟩
      have keep : ∀ (hx : bst (fun i => chn tb fr to i 6 0 S) w most (i + 1) = bst (fun i => chn tb fr to i 6 0 S) w most i), wp_X8_fit_44 most Q (k + 1) (S.length : Int) ((i : Int) + 1) M1 := by
        intro hx
        exact ih (i + 1) M1 (by omega) hfr1 (by rw [hx]; exact hb1)
      refine ⟨⟨by omega, by omega⟩, ⟨by omega, by omega⟩, fun c => ?_, fun c => ?_⟩
      · exact keep (bst_wide hT c)
      · rcases hb1 with ⟨hn, e15⟩ | ⟨s, R, hn, e15, e16, hL2⟩
        · rw [e15]
          exact ⟨by decide, fun _ => take (bst_first hT c hn), fun x => absurd rfl x⟩
        · obtain ⟨b1, b2, b3⟩ := bst_in hn
          have o2 := hok b2
          have wr2 := wdt_rng hW2 o2.1 o2.2
          have r1 := bc6_rng i
          have r2 := bc6_rng s
          rw [e15]
          refine ⟨⟨by omega, by omega⟩, fun x => absurd x (by omega), fun _ => ?_⟩
          refine s_bits rfl hi64 ?_
          rw [e15]
          refine s_bits rfl (by omega) ?_
          refine ⟨⟨by omega, by omega⟩, ⟨by omega, by omega⟩, fun c2 => ?_, fun c2 => ?_⟩
          · exact keep (by rw [bst_keep hT c hn (Or.inl c2), hn])
          · refine s_bits rfl hi64 ?_
            rw [e15]
            refine s_bits rfl (by omega) ?_
            refine ⟨⟨by omega, by omega⟩, ⟨by omega, by omega⟩, fun c3 => take (bst_take hT c hn (by omega)), fun c3 => ?_⟩
            rw [e16]
            refine ⟨⟨by omega, by omega⟩, ⟨by omega, by omega⟩, fun c4 => take (bst_take hT c hn (by omega)), fun c4 => ?_⟩
            exact keep (by rw [bst_keep hT c hn (Or.inr ⟨by omega, by omega⟩), hn])
    · refine ⟨by decide, fun c => absurd rfl c, fun _ => ?_⟩
      exact ih (i + 1) M1 (by omega) (hfr.trans (frF.ofG hG)) (by rw [bst_none hT]; exact bsR_G hG hb)
