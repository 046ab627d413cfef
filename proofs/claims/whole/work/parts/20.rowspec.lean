/-! pure: what Row's methods do to the memory -/
def setRow (M : Mem) (o : Nat) (n : Int) (f : Nat → Int) : Mem := fun k => if k = o then upr (M o) 1 n else if k = o + 1 then f else M k
theorem setRow_o (M : Mem) (o : Nat) (n : Int) (f : Nat → Int) : setRow M o n f o = upr (M o) 1 n := by simp [setRow]
theorem setRow_n (M : Mem) (o : Nat) (n : Int) (f : Nat → Int) : setRow M o n f o 1 = n := by simp [setRow, upr]
theorem setRow_a (M : Mem) (o : Nat) (n : Int) (f : Nat → Int) : setRow M o n f (o + 1) = f := by simp [setRow]
theorem setRow_ne (M : Mem) {o k : Nat} (n : Int) (f : Nat → Int) (h1 : k ≠ o) (h2 : k ≠ o + 1) : setRow M o n f k = M k := by simp [setRow, h1, h2]
theorem upr_upr (r : Nat → Int) (i : Nat) (v w : Int) : upr (upr r i v) i w = upr r i w := by
  funext j
  simp only [upr]
  split <;> rfl
theorem setRow_set (M : Mem) (o : Nat) (n n2 : Int) (f f2 : Nat → Int) : setRow (setRow M o n f) o n2 f2 = setRow M o n2 f2 := by
  funext k
  simp only [setRow]
  by_cases h : k = o
  · subst h
    simp [upr_upr]
  · by_cases h2 : k = o + 1
    · subst h2
      simp
    · simp [h, h2]
theorem up_row (M : Mem) (o : Nat) (n : Int) : up M o 1 n = setRow M o n (M (o + 1)) := by
  funext k
  simp only [setRow, up]
  by_cases h : k = o
  · subst h; simp
  · by_cases h2 : k = o + 1
    · subst h2; simp
    · simp [h, h2]
theorem up_add (M : Mem) (o i : Nat) (v n : Int) : up (up M (o + 1) i v) o 1 n = setRow M o n (upr (M (o + 1)) i v) := by
  rw [up_row]
  funext k
  simp only [setRow, up]
  by_cases h : k = o
  · subst h; simp
  · by_cases h2 : k = o + 1
    · subst h2; simp
    · simp [h, h2]
theorem upr_at (r : Nat → Int) (i : Nat) (v : Int) : upr r i v i = v := by simp [upr]
theorem upr_ne (r : Nat → Int) {i j : Nat} (v : Int) (h : j ≠ i) : upr r i v j = r j := by simp [upr, h]
/-- a Row's size is one that it can have -/
abbrev rok (M : Mem) (o : Nat) : Prop := 0 ≤ M o 1 ∧ M o 1 ≤ (capR o : Int)
theorem capR_le (o : Nat) : (capR o : Int) ≤ 200 := by
  unfold capR
  repeat' split
  all_goals decide
theorem rok_Rg {M : Mem} {o : Nat} (h : rok M o) : Rg (M o 1) := by
  have := capR_le o
  have h1 := h.1
  have h2 := h.2
  constructor <;> omega
theorem s_at {o : Nat} {i : Int} {M : Mem} {Q : Int → Mem → Prop} (hi : Rg i) (hr : rok M o) (h : Q (if 0 ≤ i ∧ i < M o 1 then M (o + 1) i.toNat else -1) M) : wp_X4_at o i M Q := by
  have h1 := hr.1
  have h2 := hr.2
  unfold wp_X4_at
  refine ⟨hi, fun c => ?_, fun c => ⟨hi, rok_Rg hr, fun c2 => ⟨⟨by omega, by omega⟩, ?_⟩, fun c2 => ?_⟩⟩
  · rw [if_neg (by omega)] at h; exact h
  · rw [if_pos (by omega)] at h; exact h
  · rw [if_neg (by omega)] at h; exact h
theorem s_at_in {o : Nat} {i : Int} {M : Mem} {Q : Int → Mem → Prop} (hr : rok M o) (h0 : 0 ≤ i) (h1 : i < M o 1) (h : Q (M (o + 1) i.toNat) M) : wp_X4_at o i M Q := by
  have h2 := hr.2
  have h3 := capR_le o
  refine s_at ⟨by omega, by omega⟩ hr ?_
  rw [if_pos ⟨h0, h1⟩]
  exact h
theorem s_add {o : Nat} {v : Int} {M : Mem} {Q : Int → Mem → Prop} (hr : rok M o) (h1 : M o 1 < (capR o : Int) → Q 1 (setRow M o (M o 1 + 1) (upr (M (o + 1)) (M o 1).toNat v))) (h0 : ¬ M o 1 < (capR o : Int) → Q 0 M) : wp_X4_add o v M Q := by
  have g1 := hr.1
  have g2 := hr.2
  have g3 := capR_le o
  unfold wp_X4_add
  refine ⟨rok_Rg hr, ⟨by omega, by omega⟩, fun c => ⟨⟨by omega, by omega⟩, ?_⟩, h0⟩
  have e : (up M (o + 1) (M o 1).toNat v) o 1 = M o 1 := by rw [up_ne M _ _ (by omega)]
  rw [e, up_add]
  exact h1 c
theorem s_clear {o : Nat} {M : Mem} {Q : Mem → Prop} (h : Q (setRow M o 0 (M (o + 1)))) : wp_X4_clear o M Q := by
  unfold wp_X4_clear
  rw [up_row]
  exact h
theorem s_cut {o : Nat} {n : Int} {M : Mem} {Q : Int → Mem → Prop} (hn : Rg n) (hr : rok M o) (h1 : 0 ≤ n → n ≤ M o 1 → Q 1 (setRow M o n (M (o + 1)))) (h0 : ¬ (0 ≤ n ∧ n ≤ M o 1) → Q 0 M) : wp_X4_cut o n M Q := by
  unfold wp_X4_cut
  refine ⟨hn, fun c => h0 (by omega), fun c => ⟨hn, rok_Rg hr, fun c2 => ?_, fun c2 => h0 (by omega)⟩⟩
  rw [up_row]
  exact h1 (by omega) c2
theorem isRow_apart {o p : Nat} (ho : isRow o) (hp : isRow p) (h : p ≠ o) : p ≠ o + 1 ∧ p + 1 ≠ o ∧ p + 1 ≠ o + 1 := by
  have h1 := ho.2
  have h2 := hp.2
  omega
/-- addPart: places a2 .. a3 of the other row come behind -/
theorem s_addPart_loop {o q : Nat} {a2 a3 : Int} {Q : Int → Mem → Prop} (ho : isRow o) (hq : isRow q) (hne : q ≠ o) :
    ∀ (k : Nat) (x : Int) (M : Mem), 0 ≤ x → x + k = a3 → a3 ≤ M q 1 → rok M q → rok M o →
      (∀ f, M o 1 + k ≤ (capR o : Int) → (∀ j : Nat, (j : Int) < M o 1 → f j = M (o + 1) j) → (∀ j : Nat, j < k → f ((M o 1).toNat + j) = M (q + 1) (x.toNat + j)) → Q 1 (setRow M o (M o 1 + k) f)) →
      (∀ f n, (capR o : Int) < M o 1 + k → n = (capR o : Int) → Q 0 (setRow M o n f)) → wp_X4_addPart_3 o q a2 a3 Q (k + 1) x M := by
  intro k
  induction k with
  | zero =>
    intro x M hx hk h3 hrq hro h1 h0
    rw [wp_X4_addPart_3]
    have g1 := hrq.2
    have g2 := capR_le q
    refine ⟨⟨by omega, by omega⟩, ⟨by omega, by omega⟩, fun _ => ?_, fun c => absurd (by omega) c⟩
    have e := h1 (M (o + 1)) (by have := hro.2; omega) (fun _ _ => rfl) (fun j hj => absurd hj (by omega))
    rw [← up_row] at e
    have e2 : up M o 1 (M o 1 + ((0 : Nat) : Int)) = M := by
      funext a
      simp only [up]
      split
      · rename_i ha
        subst ha
        funext j
        simp only [upr]
        split
        · rename_i hj; subst hj; simp
        · rfl
      · rfl
    rw [e2] at e
    exact e
  | succ k ih =>
    intro x M hx hk h3 hrq hro h1 h0
    rw [wp_X4_addPart_3]
    have g1 := hrq.2
    have g2 := capR_le q
    have g3 := hro.1
    have g4 := hro.2
    obtain ⟨n1, n2, n3⟩ := isRow_apart ho hq hne
    refine ⟨⟨by omega, by omega⟩, ⟨by omega, by omega⟩, fun c => absurd c (by omega), fun _ => ?_⟩
    refine s_at_in hrq hx (by omega) ?_
    refine s_add hro (fun c => ?_) (fun c => ?_)
    · refine ⟨by decide, fun _ => ?_, fun c2 => absurd (by decide) c2⟩
      generalize hM2 : setRow M o (M o 1 + 1) (upr (M (o + 1)) (M o 1).toNat (M (q + 1) x.toNat)) = M2
      have e1 : M2 o 1 = M o 1 + 1 := by rw [← hM2, setRow_n]
      have e2 : M2 (o + 1) = upr (M (o + 1)) (M o 1).toNat (M (q + 1) x.toNat) := by rw [← hM2, setRow_a]
      have e3 : M2 q = M q := by rw [← hM2]; exact setRow_ne M _ _ hne n1
      have e4 : M2 (q + 1) = M (q + 1) := by rw [← hM2]; exact setRow_ne M _ _ n2 n3
      refine ih (x + 1) M2 (by omega) (by omega) (by rw [e3]; exact h3) (by unfold rok; rw [e3]; exact hrq) (by unfold rok; rw [e1]; omega) ?_ ?_
      · intro f hc hf1 hf2
        rw [e1] at hc hf1 hf2 ⊢
        rw [e2] at hf1
        rw [e4] at hf2
        have := h1 f (by omega) (fun j hj => by rw [hf1 j (by omega), upr_ne _ _ (by omega)]) (fun j hj => by
          cases j with
          | zero =>
            rw [Nat.add_zero, hf1 _ (by omega), upr_at]
            rfl
          | succ j =>
            have := hf2 j (by omega)
            rw [show (M o 1).toNat + (j + 1) = (M o 1 + 1).toNat + j by omega, this]
            congr 1
            omega)
        rw [← hM2, setRow_set]
        rw [show M o 1 + 1 + (k : Int) = M o 1 + ((k + 1 : Nat) : Int) by omega]
        exact this
      · intro f n hc hn
        rw [e1] at hc
        rw [← hM2, setRow_set]
        exact h0 f n (by omega) hn
    · refine ⟨by decide, fun c2 => absurd rfl c2, fun _ => ?_⟩
      have := h0 (M (o + 1)) (M o 1) (by omega) (by omega)
      rw [← up_row] at this
      have e2 : up M o 1 (M o 1) = M := by
        funext a
        simp only [up]
        split
        · rename_i ha
          subst ha
          funext j
          simp only [upr]
          split
          · rename_i hj; subst hj; rfl
          · rfl
        · rfl
      rw [e2] at this
      exact this
theorem s_addPart {o q : Nat} {a2 a3 : Int} {M : Mem} {Q : Int → Mem → Prop} (ho : isRow o) (hq : isRow q) (hne : q ≠ o) (h2 : 0 ≤ a2) (h23 : a2 ≤ a3) (h3 : a3 ≤ M q 1) (hrq : rok M q) (hro : rok M o)
    (h1 : ∀ f, M o 1 + (a3 - a2) ≤ (capR o : Int) → (∀ j : Nat, (j : Int) < M o 1 → f j = M (o + 1) j) → (∀ j : Nat, (j : Int) < a3 - a2 → f ((M o 1).toNat + j) = M (q + 1) (a2.toNat + j)) → Q 1 (setRow M o (M o 1 + (a3 - a2)) f))
    (h0 : ∀ f n, (capR o : Int) < M o 1 + (a3 - a2) → n = (capR o : Int) → Q 0 (setRow M o n f)) : wp_X4_addPart o q a2 a3 M Q := by
  unfold wp_X4_addPart
  refine ⟨(a3 - a2).toNat + 1, s_addPart_loop ho hq hne _ a2 M h2 (by omega) h3 hrq hro ?_ ?_⟩
  · intro f hc hf1 hf2
    have := h1 f (by omega) hf1 (fun j hj => hf2 j (by omega))
    rw [show M o 1 + (((a3 - a2).toNat : Nat) : Int) = M o 1 + (a3 - a2) by omega]
    exact this
  · intro f n hc hn
    exact h0 f n (by omega) hn
theorem s_copyFrom {o q : Nat} {M : Mem} {Q : Mem → Prop} (ho : isRow o) (hq : isRow q) (hne : q ≠ o) (hrq : rok M q) (hc : M q 1 ≤ (capR o : Int))
    (h : ∀ f, (∀ j : Nat, (j : Int) < M q 1 → f j = M (q + 1) j) → Q (setRow M o (M q 1) f)) : wp_X4_copyFrom o q M Q := by
  obtain ⟨n1, n2, n3⟩ := isRow_apart ho hq hne
  unfold wp_X4_copyFrom
  refine s_clear ?_
  have e3 : setRow M o 0 (M (o + 1)) q = M q := setRow_ne M _ _ hne n1
  have e4 : setRow M o 0 (M (o + 1)) (q + 1) = M (q + 1) := setRow_ne M _ _ n2 n3
  have g1 := hrq.1
  refine s_addPart ho hq hne (by decide) (by rw [e3]; exact g1) (by omega) (by unfold rok; rw [e3]; exact hrq) (by unfold rok; rw [setRow_n]; omega) ?_ ?_
  · intro f _ _ hf2
    rw [setRow_n, e3, e4] at hf2
    rw [setRow_n, e3, setRow_set]
    have := h f (fun j hj => by have := hf2 j (by omega); simpa using this)
    rw [show (0 : Int) + (M q 1 - 0) = M q 1 by omega]
    exact this
  · intro f n hcc
    rw [setRow_n, e3] at hcc
    omega
theorem s_standsAt_loop {o q : Nat} {a1 : Int} {M : Mem} {Q : Int → Mem → Prop} (hro : rok M o) (hrq : rok M q) (ha : 0 ≤ a1) (hl : M q 1 ≤ M o 1 - a1) (hR : (∀ j : Nat, (j : Int) < M o 1 → Rg (M (o + 1) j)) ∧ ∀ j : Nat, (j : Int) < M q 1 → Rg (M (q + 1) j))
    (h1 : (∀ j : Nat, (j : Int) < M q 1 → M (o + 1) (a1.toNat + j) = M (q + 1) j) → Q 1 M) (h0 : ¬ (∀ j : Nat, (j : Int) < M q 1 → M (o + 1) (a1.toNat + j) = M (q + 1) j) → Q 0 M) :
    ∀ (k i : Nat), ((i + k : Nat) : Int) = M q 1 → (∀ j : Nat, j < i → M (o + 1) (a1.toNat + j) = M (q + 1) j) → wp_X4_standsAt_17 o a1 q Q (k + 1) (i : Int) M := by
  have g1 := hro.2
  have g2 := hrq.2
  have g3 := capR_le o
  have g4 := capR_le q
  have g5 := hrq.1
  intro k
  induction k with
  | zero =>
    intro i hi hp
    rw [wp_X4_standsAt_17]
    exact ⟨⟨by omega, by omega⟩, rok_Rg hrq, fun _ => h1 (fun j hj => hp j (by omega)), fun c => absurd (by omega) c⟩
  | succ k ih =>
    intro i hi hp
    rw [wp_X4_standsAt_17]
    refine ⟨⟨by omega, by omega⟩, rok_Rg hrq, fun c => absurd c (by omega), fun _ => ?_⟩
    refine s_at_in hro (by omega) (by omega) ?_
    refine s_at_in hrq (by omega) (by omega) ?_
    have e1 : (a1 + (i : Int)).toNat = a1.toNat + i := by omega
    rw [e1, Int.toNat_natCast]
    refine ⟨hR.1 _ (by omega), hR.2 _ (by omega), fun c => ?_, fun c => h0 (fun q => c (q i (by omega)))⟩
    have := ih (i + 1) (by omega) (fun j hj => by
      rcases Nat.lt_or_ge j i with h | h
      · exact hp j h
      · rw [show j = i by omega]; exact c)
    exact this
theorem s_standsAt {o q : Nat} {a1 : Int} {M : Mem} {Q : Int → Mem → Prop} (hro : rok M o) (hrq : rok M q) (ha : 0 ≤ a1) (ha2 : a1 ≤ 1000) (hR : (∀ j : Nat, (j : Int) < M o 1 → Rg (M (o + 1) j)) ∧ ∀ j : Nat, (j : Int) < M q 1 → Rg (M (q + 1) j))
    (h1 : M q 1 ≤ M o 1 - a1 → (∀ j : Nat, (j : Int) < M q 1 → M (o + 1) (a1.toNat + j) = M (q + 1) j) → Q 1 M)
    (h0 : ¬ (M q 1 ≤ M o 1 - a1 ∧ ∀ j : Nat, (j : Int) < M q 1 → M (o + 1) (a1.toNat + j) = M (q + 1) j) → Q 0 M) : wp_X4_standsAt o a1 q M Q := by
  have g1 := hro.2
  have g3 := capR_le o
  have g5 := hro.1
  have g6 := hrq.1
  unfold wp_X4_standsAt
  refine ⟨rok_Rg hrq, ⟨by omega, by omega⟩, fun c => ⟨(M q 1).toNat + 1, ?_⟩, fun c => h0 (fun q => c q.1)⟩
  have := s_standsAt_loop hro hrq ha c hR (h1 c) (fun h => h0 (fun q => h q.2)) (M q 1).toNat 0 (by omega) (fun j hj => absurd hj (by omega))
  exact this
theorem s_allWithin_loop {o : Nat} {lo hi : Int} {M : Mem} {Q : Int → Mem → Prop} (hro : rok M o) (hlo : Rg lo) (hhi : Rg hi) (hR : ∀ j : Nat, (j : Int) < M o 1 → Rg (M (o + 1) j))
    (h1 : (∀ j : Nat, (j : Int) < M o 1 → lo ≤ M (o + 1) j ∧ M (o + 1) j ≤ hi) → Q 1 M) (h0 : ¬ (∀ j : Nat, (j : Int) < M o 1 → lo ≤ M (o + 1) j ∧ M (o + 1) j ≤ hi) → Q 0 M) :
    ∀ (k i : Nat), ((i + k : Nat) : Int) = M o 1 → (∀ j : Nat, j < i → lo ≤ M (o + 1) j ∧ M (o + 1) j ≤ hi) → wp_X4_allWithin_2 o lo hi Q (k + 1) (i : Int) M := by
  have g1 := hro.2
  have g3 := capR_le o
  intro k
  induction k with
  | zero =>
    intro i hi2 hp
    rw [wp_X4_allWithin_2]
    exact ⟨⟨by omega, by omega⟩, rok_Rg hro, fun _ => h1 (fun j hj => hp j (by omega)), fun c => absurd (by omega) c⟩
  | succ k ih =>
    intro i hi2 hp
    rw [wp_X4_allWithin_2]
    refine ⟨⟨by omega, by omega⟩, rok_Rg hro, fun c => absurd c (by omega), fun _ => ?_⟩
    refine s_at_in hro (by omega) (by omega) ?_
    rw [Int.toNat_natCast]
    refine ⟨hR i (by omega), hlo, fun c => h0 (fun q => by have := q i (by omega); omega), fun c => ?_⟩
    refine s_at_in hro (by omega) (by omega) ?_
    rw [Int.toNat_natCast]
    refine ⟨hR i (by omega), hhi, fun c2 => ?_, fun c2 => h0 (fun q => by have := q i (by omega); omega)⟩
    exact ih (i + 1) (by omega) (fun j hj => by
      rcases Nat.lt_or_ge j i with h | h
      · exact hp j h
      · rw [show j = i by omega]; exact ⟨by omega, c2⟩)
theorem s_allWithin {o : Nat} {lo hi : Int} {M : Mem} {Q : Int → Mem → Prop} (hro : rok M o) (hlo : Rg lo) (hhi : Rg hi) (hR : ∀ j : Nat, (j : Int) < M o 1 → Rg (M (o + 1) j))
    (h1 : (∀ j : Nat, (j : Int) < M o 1 → lo ≤ M (o + 1) j ∧ M (o + 1) j ≤ hi) → Q 1 M) (h0 : ¬ (∀ j : Nat, (j : Int) < M o 1 → lo ≤ M (o + 1) j ∧ M (o + 1) j ≤ hi) → Q 0 M) : wp_X4_allWithin o lo hi M Q := by
  have g := hro.1
  unfold wp_X4_allWithin
  exact ⟨(M o 1).toNat + 1, s_allWithin_loop hro hlo hhi hR h1 h0 (M o 1).toNat 0 (by omega) (fun j hj => absurd hj (by omega))⟩
