/-! pure: a sheet is printed: what comes of it, cell by cell -/
def sqW (pl : Nat → Int) (o : Nat) (w : Nat → Int) : Nat → Nat → Int
  | 0 => w
  | c + 1 => if pl (o + c) = -1 then sqW pl o w c else upr (sqW pl o w c) (pl (o + c)).toNat 0
def sqT (pl : Nat → Int) (o : Nat) (t : Nat → Int) : Nat → Nat → Int
  | 0 => t
  | c + 1 => if pl (o + c) = -1 then sqT pl o t c else upr (sqT pl o t c) (pl (o + c)).toNat (sqT pl o t c (pl (o + c)).toNat + 1)
def sqF (pl : Nat → Int) (o : Nat) (f : Int) : Nat → Int
  | 0 => f
  | c + 1 => if pl (o + c) = -1 then sqF pl o f c else lAnd (sqF pl o f c) (lXor (lShl 1 (c : Int)) (-1))
def sqN (pl : Nat → Int) (o : Nat) (N : Nat → Int) : Nat → Nat → Int
  | 0 => N
  | c + 1 => if pl (o + c) = -1 then sqN pl o N c else upr (sqN pl o N c) (o + c) (pl (o + c))
def sqC (pl : Nat → Int) (o : Nat) : Nat → Int
  | 0 => 0
  | c + 1 => if pl (o + c) = -1 then sqC pl o c else sqC pl o c + 1
def sqV (pl : Nat → Int) (o : Nat) (gr v : Nat → Int) : Nat → Nat → Int
  | 0 => v
  | c + 1 => if pl (o + c) = -1 then sqV pl o gr v c else upr (sqV pl o gr v c) (gr (pl (o + c)).toNat).toNat (sqV pl o gr v c (gr (pl (o + c)).toNat).toNat - 1)
/-- printed so far -/
def pr (pl : Nat → Int) (o c i : Nat) : Prop := ∃ j, j < c ∧ pl (o + j) = (i : Int)
theorem pr_s {pl : Nat → Int} {o c i : Nat} : pr pl o (c + 1) i ↔ (pr pl o c i ∨ pl (o + c) = (i : Int)) := by
  unfold pr
  constructor
  · rintro ⟨j, h1, h2⟩
    by_cases e : j = c
    · subst e; exact Or.inr h2
    · exact Or.inl ⟨j, by omega, h2⟩
  · rintro (⟨j, h1, h2⟩ | h)
    · exact ⟨j, by omega, h2⟩
    · exact ⟨c, by omega, h⟩
theorem sqW_sp {pl w : Nat → Int} {o : Nat} : ∀ c, (∀ j, j < c → pl (o + j) = -1 ∨ 0 ≤ pl (o + j)) → ∀ i, (pr pl o c i → sqW pl o w c i = 0) ∧ (¬ pr pl o c i → sqW pl o w c i = w i)
  | 0, _, i => ⟨fun ⟨j, h, _⟩ => absurd h (by omega), fun _ => rfl⟩
  | c + 1, h, i => by
    obtain ⟨a, b⟩ := sqW_sp (w := w) c (fun j hj => h j (by omega)) i
    simp only [sqW]
    rcases h c (by omega) with e | e
    · rw [if_pos e]
      refine ⟨fun q => ?_, fun q => b (fun z => q (pr_s.mpr (Or.inl z)))⟩
      rcases pr_s.mp q with z | z
      · exact a z
      · omega
    · rw [if_neg (by omega)]
      by_cases k : i = (pl (o + c)).toNat
      · rw [k, upr_at]
        exact ⟨fun _ => rfl, fun q => absurd (pr_s.mpr (Or.inr (by omega))) q⟩
      · rw [upr_ne _ _ k]
        refine ⟨fun q => ?_, fun q => b (fun z => q (pr_s.mpr (Or.inl z)))⟩
        rcases pr_s.mp q with z | z
        · exact a z
        · omega
theorem sqN_sp {pl N : Nat → Int} {o : Nat} : ∀ c p, sqN pl o N c p = if o ≤ p ∧ p < o + c ∧ pl p ≠ -1 then pl p else N p
  | 0, p => by
    rw [if_neg (by omega)]
    rfl
  | c + 1, p => by
    have i := sqN_sp (pl := pl) (N := N) (o := o) c p
    simp only [sqN]
    by_cases e : pl (o + c) = -1
    · rw [if_pos e, i]
      by_cases k : o ≤ p ∧ p < o + c ∧ pl p ≠ -1
      · rw [if_pos k, if_pos ⟨k.1, by omega, k.2.2⟩]
      · rw [if_neg k, if_neg]
        intro q
        by_cases z : p = o + c
        · rw [z] at q; exact q.2.2 e
        · exact k ⟨q.1, by omega, q.2.2⟩
    · rw [if_neg e]
      by_cases z : p = o + c
      · rw [z, upr_at, if_pos ⟨by omega, by omega, e⟩]
      · rw [upr_ne _ _ z, i]
        by_cases k : o ≤ p ∧ p < o + c ∧ pl p ≠ -1
        · rw [if_pos k, if_pos ⟨k.1, by omega, k.2.2⟩]
        · rw [if_neg k, if_neg (fun q => k ⟨q.1, by omega, q.2.2⟩)]
theorem sqF_sp {pl : Nat → Int} {o : Nat} {f : Int} (h0 : 0 ≤ f) (h40 : f < 2 ^ 40) : ∀ c, c ≤ 40 → (0 ≤ sqF pl o f c ∧ sqF pl o f c < 2 ^ 40) ∧ ∀ j, j < 40 → (sqF pl o f c).toNat.testBit j = true → f.toNat.testBit j = true ∧ ¬ (j < c ∧ pl (o + j) ≠ -1)
  | 0, _ => ⟨⟨h0, h40⟩, fun j _ h => ⟨h, fun q => absurd q.1 (by omega)⟩⟩
  | c + 1, hc => by
    obtain ⟨⟨a1, a2⟩, b⟩ := sqF_sp (pl := pl) (o := o) h0 h40 c (by omega)
    simp only [sqF]
    by_cases e : pl (o + c) = -1
    · rw [if_pos e]
      refine ⟨⟨a1, a2⟩, fun j hj q => ?_⟩
      obtain ⟨b1, b2⟩ := b j hj q
      refine ⟨b1, fun z => ?_⟩
      by_cases k : j = c
      · rw [k] at z; exact z.2 e
      · exact b2 ⟨by omega, z.2⟩
    · rw [if_neg e]
      obtain ⟨g, g1, g2, g3⟩ := L_clr (c := c) a1 a2 (by omega)
      rw [g1]
      refine ⟨⟨by omega, g2⟩, fun j hj q => ?_⟩
      rw [Int.toNat_natCast, g3 j hj] at q
      simp only [Bool.and_eq_true, Bool.not_eq_true', decide_eq_false_iff_not] at q
      obtain ⟨b1, b2⟩ := b j hj q.1
      exact ⟨b1, fun z => b2 ⟨by have := q.2; omega, z.2⟩⟩
theorem sqC_rng {pl : Nat → Int} {o : Nat} : ∀ c, 0 ≤ sqC pl o c ∧ sqC pl o c ≤ c
  | 0 => ⟨Int.le_refl _, Int.le_refl _⟩
  | c + 1 => by
    have := sqC_rng (pl := pl) (o := o) c
    simp only [sqC]
    split <;> omega
theorem sqT_sp {pl t : Nat → Int} {o : Nat} (hinj : ∀ j k, j < 40 → k < 40 → pl (o + j) ≠ -1 → pl (o + j) = pl (o + k) → j = k) : ∀ c, c ≤ 40 → (∀ j, j < c → pl (o + j) = -1 ∨ 0 ≤ pl (o + j)) → ∀ i, (pr pl o c i → sqT pl o t c i = t i + 1) ∧ (¬ pr pl o c i → sqT pl o t c i = t i)
  | 0, _, _, i => ⟨fun ⟨j, h, _⟩ => absurd h (by omega), fun _ => rfl⟩
  | c + 1, hc, h, i => by
    obtain ⟨a, b⟩ := sqT_sp hinj (t := t) c (by omega) (fun j hj => h j (by omega)) i
    simp only [sqT]
    rcases h c (by omega) with e | e
    · rw [if_pos e]
      refine ⟨fun q => ?_, fun q => b (fun z => q (pr_s.mpr (Or.inl z)))⟩
      rcases pr_s.mp q with z | z
      · exact a z
      · omega
    · rw [if_neg (by omega)]
      by_cases k : i = (pl (o + c)).toNat
      · have np : ¬ pr pl o c i := by
          rintro ⟨j, q1, q2⟩
          have := hinj j c (by omega) (by omega) (by omega) (by omega)
          omega
        rw [← k, upr_at, b np]
        exact ⟨fun _ => rfl, fun q => absurd (pr_s.mpr (Or.inr (by omega))) q⟩
      · rw [upr_ne _ _ k]
        refine ⟨fun q => ?_, fun q => b (fun z => q (pr_s.mpr (Or.inl z)))⟩
        rcases pr_s.mp q with z | z
        · exact a z
        · omega
/-- what is known of a plan -/
def plOk (pl w gr : Nat → Int) (n : Nat) (o : Nat) : Prop := (∀ j, j < 40 → pl (o + j) = -1 ∨ (0 ≤ pl (o + j) ∧ (pl (o + j)).toNat < n ∧ w (pl (o + j)).toNat = 1)) ∧ ∀ j k, j < 40 → k < 40 → pl (o + j) ≠ -1 → pl (o + j) = pl (o + k) → j = k
theorem sqW_now {pl w gr : Nat → Int} {n o : Nat} (h : plOk pl w gr n o) {c : Nat} (hc : c < 40) (e : pl (o + c) ≠ -1) : sqW pl o w c (pl (o + c)).toNat = 1 := by
  have hw := h.1 c hc
  have np : ¬ pr pl o c (pl (o + c)).toNat := by
    rintro ⟨j, q1, q2⟩
    have := h.2 j c (by omega) hc (by omega) (by omega)
    omega
  rw [(sqW_sp c (fun j hj => by have := h.1 j (by omega); omega) _).2 np]
  omega
theorem sqV_sp {pl w gr v : Nat → Int} {n o : Nat} (h : plOk pl w gr n o) (hg : ∀ i, i < n → 0 ≤ gr i ∧ gr i < 6) (hv : ∀ g, g < 6 → v g = cwF w gr n g) : ∀ c, c ≤ 40 → ∀ g, g < 6 → sqV pl o gr v c g = cwF (sqW pl o w c) gr n g
  | 0, _, g, hgg => hv g hgg
  | c + 1, hc, g, hgg => by
    have i := sqV_sp h hg hv c (by omega)
    simp only [sqV, sqW]
    by_cases e : pl (o + c) = -1
    · rw [if_pos e, if_pos e]; exact i g hgg
    · rw [if_neg e, if_neg e]
      have hw := h.1 c (by omega)
      have now := sqW_now h (show c < 40 by omega) e
      generalize (pl (o + c)).toNat = k at *
      have hk : k < n := by omega
      obtain ⟨g0, g6⟩ := hg k hk
      have u : cwF (upr (sqW pl o w c) k 0) gr n g = cwF (sqW pl o w c) gr n g - (if gr k = (g : Int) then 1 else 0) := by
        unfold cwF
        rw [sm_upd (f := fun j => if sqW pl o w c j = 1 ∧ gr j = (g : Int) then (1 : Int) else 0) (i := k) hk (fun j _ hj => by rw [upr_ne _ _ hj])]
        rw [upr_at, now]
        by_cases z : gr k = (g : Int)
        · simp [z]; omega
        · simp [z]
      rw [u]
      by_cases z : g = (gr k).toNat
      · rw [z, upr_at, i _ (by omega), if_pos (by omega)]
      · rw [upr_ne _ _ z, i g hgg, if_neg (by omega)]
        omega
theorem sqW_cong {pl w w' : Nat → Int} {o n : Nat} (h : ∀ i, i < n → w' i = w i) : ∀ c i, i < n → sqW pl o w' c i = sqW pl o w c i
  | 0, i, hi => h i hi
  | c + 1, i, hi => by
    have := sqW_cong (pl := pl) (o := o) h c i hi
    simp only [sqW]
    split
    · exact this
    · unfold upr
      split
      · rfl
      · exact this
theorem sqT_cong {pl t t' : Nat → Int} {o : Nat} (h : ∀ i, i < 200 → t' i = t i) (hp : ∀ j, j < 40 → pl (o + j) < 200) : ∀ c, c ≤ 40 → ∀ i, i < 200 → sqT pl o t' c i = sqT pl o t c i
  | 0, _, i, hi => h i hi
  | c + 1, hc, i, hi => by
    have ih := sqT_cong h hp c (by omega)
    have := hp c (by omega)
    simp only [sqT]
    split
    · exact ih i hi
    · unfold upr
      split
      · rw [ih _ (by omega)]
      · exact ih i hi
theorem sqN_cong {pl N N' : Nat → Int} {o : Nat} {p : Nat} (h : N' p = N p) (c : Nat) : sqN pl o N' c p = sqN pl o N c p := by
  rw [sqN_sp, sqN_sp, h]
