/-! pure: texts as lists, a text by shortenings -/
def isL (l : List Int) (n : Int) (f : Nat → Int) : Prop := n = (l.length : Int) ∧ ∀ j, j < l.length → f j = l.getD j 0
theorem gd_l {A B : List Int} {j : Nat} (h : j < A.length) : (A ++ B).getD j 0 = A.getD j 0 := by
  rw [List.getD_eq_getElem?_getD, List.getD_eq_getElem?_getD, List.getElem?_append_left h]
theorem gd_r {A B : List Int} (j : Nat) : (A ++ B).getD (A.length + j) 0 = B.getD j 0 := by
  rw [List.getD_eq_getElem?_getD, List.getD_eq_getElem?_getD, List.getElem?_append_right (by omega), Nat.add_sub_cancel_left]
theorem isL_app {A B : List Int} {f g : Nat → Int} (hA : ∀ j, j < A.length → f j = A.getD j 0) (hg : ∀ j, j < A.length → g j = f j) (hB : ∀ j, j < B.length → g (A.length + j) = B.getD j 0) : isL (A ++ B) ((A.length : Int) + (B.length : Int)) g := by
  refine ⟨by rw [List.length_append]; omega, fun j hj => ?_⟩
  rw [List.length_append] at hj
  rcases Nat.lt_or_ge j A.length with c | c
  · rw [gd_l c, hg j c, hA j c]
  · obtain ⟨d, rfl⟩ : ∃ d, j = A.length + d := ⟨j - A.length, by omega⟩
    rw [gd_r, hB d (by omega)]
theorem isL_snoc {A : List Int} {f : Nat → Int} {c : Int} (hA : ∀ j, j < A.length → f j = A.getD j 0) : isL (A ++ [c]) ((A.length : Int) + 1) (upr f A.length c) := by
  refine isL_app hA (fun j hj => upr_ne _ _ (by omega)) (fun j hj => ?_)
  have : j = 0 := by simp at hj; omega
  subst this
  rw [Nat.add_zero, upr_at]
  rfl
theorem isL_ext {A B : List Int} {n : Int} {f : Nat → Int} (hA : isL A n f) (hB : isL B n f) : A = B := by
  have hl : A.length = B.length := by have := hA.1; have := hB.1; omega
  apply List.ext_getElem hl
  intro i h1 h2
  have e1 := hA.2 i h1
  have e2 := hB.2 i h2
  rw [List.getD_eq_getElem?_getD, List.getElem?_eq_getElem h1, Option.getD_some] at e1
  rw [List.getD_eq_getElem?_getD, List.getElem?_eq_getElem h2, Option.getD_some] at e2
  rw [← e1, ← e2]
def lst (n : Nat) (f : Nat → Int) : List Int := (List.range n).map f
theorem isL_lst (n : Nat) (f : Nat → Int) : isL (lst n f) (n : Int) f := by
  refine ⟨by simp [lst], fun j hj => ?_⟩
  have hj' : j < n := by simpa [lst] using hj
  rw [List.getD_eq_getElem?_getD]
  simp [lst, hj']
theorem lst_len (n : Nat) (f : Nat → Int) : (lst n f).length = n := by simp [lst]
def sgs (l : List Int) : Prop := ∀ j, j < l.length → 32 ≤ l.getD j 0 ∧ l.getD j 0 ≤ 126
theorem sgs_app {A B : List Int} (hA : sgs A) (hB : sgs B) : sgs (A ++ B) := by
  intro j hj
  rw [List.length_append] at hj
  rcases Nat.lt_or_ge j A.length with c | c
  · rw [gd_l c]; exact hA j c
  · obtain ⟨d, rfl⟩ : ∃ d, j = A.length + d := ⟨j - A.length, by omega⟩
    rw [gd_r]; exact hB d (by omega)
theorem sgs_one {c : Int} (h : 32 ≤ c ∧ c ≤ 126) : sgs [c] := by
  intro j hj
  have : j = 0 := by simp at hj; omega
  subst this
  exact h
/-- FROM stands in the text at a place -/
def stP (T fr : List Int) (p : Nat) : Prop := p + fr.length ≤ T.length ∧ ∀ j, j < fr.length → T.getD (p + j) 0 = fr.getD j 0
def goL (T fr to : List Int) : Nat → Nat → List Int
  | 0, _ => []
  | k + 1, p => if T.length ≤ p then [] else if p + fr.length ≤ T.length ∧ ∀ j, j < fr.length → T.getD (p + j) 0 = fr.getD j 0 then to ++ goL T fr to k (p + fr.length) else T.getD p 0 :: goL T fr to k (p + 1)
theorem goL_fuel {T fr to : List Int} (hf : 1 ≤ fr.length) : ∀ (k k' p : Nat), T.length ≤ p + k → T.length ≤ p + k' → goL T fr to k p = goL T fr to k' p
  | 0, 0, _, _, _ => rfl
  | 0, k' + 1, p, h, _ => by
    rw [goL, goL, if_pos (by omega)]
  | k + 1, 0, p, _, h => by
    rw [goL, goL, if_pos (by omega)]
  | k + 1, k' + 1, p, h, h' => by
    rw [goL, goL]
    split
    · rfl
    · split
      · rw [goL_fuel hf k k' (p + fr.length) (by omega) (by omega)]
      · rw [goL_fuel hf k k' (p + 1) (by omega) (by omega)]
def gL (T fr to : List Int) (p : Nat) : List Int := goL T fr to (T.length - p) p
theorem gL_end {T fr to : List Int} {p : Nat} (h : T.length ≤ p) : gL T fr to p = [] := by
  unfold gL
  rw [show T.length - p = 0 by omega, goL]
theorem gL_yes {T fr to : List Int} {p : Nat} (hf : 1 ≤ fr.length) (h : p < T.length) (hs : stP T fr p) : gL T fr to p = to ++ gL T fr to (p + fr.length) := by
  unfold gL
  unfold stP at hs
  obtain ⟨d, hd⟩ : ∃ d, T.length - p = d + 1 := ⟨T.length - p - 1, by omega⟩
  rw [hd, goL, if_neg (by omega), if_pos hs, goL_fuel hf d (T.length - (p + fr.length)) (p + fr.length) (by omega) (by omega)]
theorem gL_no {T fr to : List Int} {p : Nat} (hf : 1 ≤ fr.length) (h : p < T.length) (hs : ¬ stP T fr p) : gL T fr to p = T.getD p 0 :: gL T fr to (p + 1) := by
  unfold gL
  unfold stP at hs
  obtain ⟨d, hd⟩ : ∃ d, T.length - p = d + 1 := ⟨T.length - p - 1, by omega⟩
  rw [hd, goL, if_neg (by omega), if_neg hs, goL_fuel hf d (T.length - (p + 1)) (p + 1) (by omega) (by omega)]
def subL (T fr to : List Int) : List Int := gL T fr to 0
theorem sgs_goL {T fr to : List Int} (hT : sgs T) (hto : sgs to) : ∀ (k p : Nat), sgs (goL T fr to k p)
  | 0, _ => fun j hj => absurd hj (by simp [goL])
  | k + 1, p => by
    rw [goL]
    split
    · exact fun j hj => absurd hj (by simp)
    · split
      · exact sgs_app hto (sgs_goL hT hto k _)
      · exact sgs_app (A := [T.getD p 0]) (sgs_one (hT p (by omega))) (sgs_goL hT hto k _)
theorem sgs_subL {T fr to : List Int} (hT : sgs T) (hto : sgs to) : sgs (subL T fr to) := sgs_goL hT hto _ _
/-- a text by a set of shortenings, from number i on -/
def chn (tb : Nat → Bool) (fr to : Nat → List Int) (set : Nat) : Nat → Nat → List Int → Option (List Int)
  | 0, _, T => some T
  | k + 1, i, T => if set.testBit i = true then (if tb i = true then (if (subL T (fr i) (to i)).length ≤ 60 then chn tb fr to set k (i + 1) (subL T (fr i) (to i)) else none) else none) else chn tb fr to set k (i + 1) T
theorem chn_ok {tb : Nat → Bool} {fr to : Nat → List Int} {set : Nat} (hto : ∀ i, i < 6 → tb i = true → sgs (to i)) : ∀ (k i : Nat) (T R : List Int), i + k ≤ 6 → sgs T → T.length ≤ 60 → chn tb fr to set k i T = some R → sgs R ∧ R.length ≤ 60
  | 0, _, T, R, _, h1, h2, h => by
    simp only [chn, Option.some.injEq] at h
    subst h
    exact ⟨h1, h2⟩
  | k + 1, i, T, R, hi, h1, h2, h => by
    simp only [chn] at h
    split at h
    · split at h
      · rename_i ht
        split at h
        · rename_i h3
          exact chn_ok hto k (i + 1) _ R (by omega) (sgs_subL h1 (hto i (by omega) ht)) h3 h
        · cases h
      · cases h
    · exact chn_ok hto k (i + 1) T R (by omega) h1 h2 h
theorem chn_told {tb : Nat → Bool} {fr to : Nat → List Int} {set : Nat} : ∀ (k i : Nat) (T R : List Int), chn tb fr to set k i T = some R → ∀ j, i ≤ j → j < i + k → set.testBit j = true → tb j = true
  | 0, _, _, _, _ => fun j h1 h2 => absurd h1 (by omega)
  | k + 1, i, T, R, h => by
    intro j h1 h2 h3
    simp only [chn] at h
    split at h
    · split at h
      · rename_i ht
        split at h
        · by_cases c : j = i
          · rw [c]; exact ht
          · exact chn_told k (i + 1) _ R h j (by omega) (by omega) h3
        · cases h
      · cases h
    · rename_i hb
      by_cases c : j = i
      · rw [c] at h3; exact absurd h3 hb
      · exact chn_told k (i + 1) T R h j (by omega) (by omega) h3
def wdt (w : Nat → Int) (T : List Int) : Int := sm (fun j => w (T.getD j 0 - 32).toNat) T.length
theorem wdt_rng {w : Nat → Int} {T : List Int} (hw : ∀ j, j < 95 → 1 ≤ w j ∧ w j ≤ 20) (hT : sgs T) (hl : T.length ≤ 60) : 0 ≤ wdt w T ∧ wdt w T ≤ 1200 := by
  have := sm_bound (g := fun j => w (T.getD j 0 - 32).toNat) (c := 20) (n := T.length) (fun k hk => by
    have h1 := hT k hk
    have h2 := hw (T.getD k 0 - 32).toNat (by omega)
    exact ⟨by omega, by omega⟩)
  unfold wdt
  omega
/-- how many bits of six -/
def bc6 (v : Nat) : Int := sm (fun k => if v.testBit k then 1 else 0) 6
theorem bc6_rng (v : Nat) : 0 ≤ bc6 v ∧ bc6 v ≤ 6 := by
  have := sm_bound (g := fun k => if v.testBit k then (1 : Int) else 0) (c := 1) (n := 6) (fun k _ => by split <;> decide)
  unfold bc6
  omega
/-- the best set among the first ones -/
def bst (res : Nat → Option (List Int)) (w : Nat → Int) (most : Int) : Nat → Option (Nat × List Int)
  | 0 => none
  | i + 1 => match res i with
    | none => bst res w most i
    | some T => if most < wdt w T then bst res w most i else match bst res w most i with
      | none => some (i, T)
      | some (s, R) => if bc6 s < bc6 i ∨ (bc6 s = bc6 i ∧ wdt w T ≤ wdt w R) then some (s, R) else some (i, T)
theorem bst_in {res : Nat → Option (List Int)} {w : Nat → Int} {most : Int} : ∀ {i s : Nat} {R : List Int}, bst res w most i = some (s, R) → s < i ∧ res s = some R ∧ wdt w R ≤ most
  | 0, _, _, h => by cases h
  | i + 1, s, R, h => by
    simp only [bst] at h
    split at h
    · have := bst_in h; exact ⟨by omega, this.2⟩
    · rename_i T hT
      split at h
      · have := bst_in h; exact ⟨by omega, this.2⟩
      · rename_i hm
        split at h
        · simp only [Option.some.injEq, Prod.mk.injEq] at h
          obtain ⟨rfl, rfl⟩ := h
          exact ⟨by omega, hT, by omega⟩
        · rename_i s' R' he
          split at h
          · simp only [Option.some.injEq, Prod.mk.injEq] at h
            obtain ⟨rfl, rfl⟩ := h
            have := bst_in he; exact ⟨by omega, this.2⟩
          · simp only [Option.some.injEq, Prod.mk.injEq] at h
            obtain ⟨rfl, rfl⟩ := h
            exact ⟨by omega, hT, by omega⟩
