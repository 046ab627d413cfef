/-! pure: a sheet is printed: what comes of it, cell by cell -/
def sqW (pl : Nat → Int) (o : Nat) (w : Nat → Int) : Nat → Nat → Int
  | 0 => w
  | c + 1 => if pl (o + c) = -1 then sqW pl o w c else upr (sqW pl o w c) (pl (o + c)).toNat 0
def sqT (pl : Nat → Int) (o : Nat) (t : Nat → Int) : Nat → Nat → Int
  | 0 => t
  | c + 1 => if pl (o + c) = -1 then sqT pl o t c else upr (sqT pl o t c) (pl (o + c)).toNat (sqT pl o t c (pl (o + c)).toNat + 1)
def sqF (pl : Nat → Int) (o : Nat) (f : Int) : Nat → Int
  | 0 => f
  | c + 1 => if pl (o + c) = -1 then sqF pl o f c else lAnd (sqF pl o f c) (lXor (lShl 1 (c : Int)) (-1))
def sqN (pl : Nat → Int) (o : Nat) (N : Nat → Int) : Nat → Nat → Int
  | 0 => N
  | c + 1 => if pl (o + c) = -1 then sqN pl o N c else upr (sqN pl o N c) (o + c) (pl (o + c))
def sqC (pl : Nat → Int) (o : Nat) : Nat → Int
  | 0 => 0
  | c + 1 => if pl (o + c) = -1 then sqC pl o c else sqC pl o c + 1
def sqV (pl : Nat → Int) (o : Nat) (gr v : Nat → Int) : Nat → Nat → Int
  | 0 => v
  | c + 1 => if pl (o + c) = -1 then sqV pl o gr v c else upr (sqV pl o gr v c) (gr (pl (o + c)).toNat).toNat (sqV pl o gr v c (gr (pl (o + c)).toNat).toNat - 1)
/-- printed so far -/
def pr (pl : Nat → Int) (o c i : Nat) : Prop := ∃ j, j < c ∧ pl (o + j) = (i : Int)
theorem pr_s {pl : Nat → Int} {o c i : Nat} : pr pl o (c + 1) i ↔ (pr pl o c i ∨ pl (o + c) = (i : Int)) := by
  unfold pr
  constructor
  · rintro ⟨j, h1, h2⟩
    by_cases e : j = c
    · subst e; exact Or.inr h2
    · exact Or.inl ⟨j, by omega, h2⟩
  · rintro (⟨j, h1, h2⟩ | h)
    · exact ⟨j, by omega, h2⟩
    · exact ⟨c, by omega, h⟩
theorem sqW_sp {pl w : Nat → Int} {o : Nat} : ∀ c, (∀ j, j < c → pl (o + j) = -1 ∨ 0 ≤ pl (o + j)) → ∀ i, (pr pl o c i → sqW pl o w c i = 0) ∧ (¬ pr pl o c i → sqW pl o w c i = w i)
  | 0, _, i => ⟨fun ⟨j, h, _⟩ => absurd h (by omega), fun _ => rfl⟩
  | c + 1, h, i => by
    obtain ⟨a, b⟩ := sqW_sp (w := w) c (fun j hj => h j (by omega)) i
    simp only [sqW]
    rcases h c (by omega) with e | e
    · rw [if_pos e]
      refine ⟨fun q => ?_, fun q => b (fun z => q (pr_s.mpr (Or.inl z)))⟩
      rcases pr_s.mp q with z | z
      · exact a z
      · omega
    · rw [if_neg (by omega)]
      by_cases k : i = (pl (o + c)).toNat
      · rw [k, upr_at]
        exact ⟨fun _ => rfl, fun q => absurd (pr_s.mpr (Or.inr (by omega))) q⟩
      · rw [upr_ne _ _ k]
        refine ⟨fun q => ?_, fun q => b (fun z => q (pr_s.mpr (Or.inl z)))⟩
        rcases pr_s.mp q with z | z
        · exact a z
        · omega
theorem sqN_sp {pl N : Nat → Int} {o : Nat} : ∀ c p, sqN pl o N c p = if o ≤ p ∧ p < o + c ∧ pl p ≠ -1 then pl p else N p
  | 0, p => by
    rw [if_neg (by omega)]
    rfl
  | c + 1, p => by
    have i := sqN_sp (pl := pl) (N := N) (o := o) c p
    simp only [sqN]
    by_cases e : pl (o + c) = -1
    · rw [if_pos e, i]
      by_cases k : o ≤ p ∧ p < o + c ∧ pl p ≠ -1
      · rw [if_pos k, if_pos ⟨k.1, by omega, k.2.2⟩]
      · rw [if_neg k, if_neg]
        intro q
        by_cases z : p = o + c
        · rw [z] at q; exact q.2.2 e
        · exact k ⟨q.1, by omega, q.2.2⟩
    · rw [if_neg e]
      by_cases z : p = o + c
      · rw [z, upr_at, if_pos ⟨by omega, by omega, e⟩]
      · rw [upr_ne _ _ z, i]
        by_cases k : o ≤ p ∧ p < o + c ∧ pl p ≠ -1
        · rw [if_pos k, if_pos ⟨k.1, by omega, k.2.2⟩]
        · rw [if_neg k, if_neg (fun q => k ⟨q.1, by omega, q.2.2⟩)]
theorem sqF_sp {pl : Nat → Int} {o : Nat} {f : Int} (h0 : 0 ≤ f) (h40 : f < 2 ^ 40) : ∀ c, c ≤ 40 → (0 ≤ sqF pl o f c ∧ sqF pl o f c < 2 ^ 40) ∧ ∀ j, j < 40 → (sqF pl o f c).toNat.testBit j = true → f.toNat.testBit j = true ∧ ¬ (j < c ∧ pl (o + j) ≠ -1)
  | 0, _ => ⟨⟨h0, h40⟩, fun j _ h => ⟨h, fun q => absurd q.1 (by omega)⟩⟩
  | c + 1, hc => by
    obtain ⟨⟨a1, a2⟩, b⟩ := sqF_sp (pl := pl) (o := o) h0 h40 c (by omega)
    simp only [sqF]
    by_cases e : pl (o + c) = -1
    · rw [if_pos e]
      refine ⟨⟨a1, a2⟩, fun j hj q => ?_⟩
      obtain ⟨b1, b2⟩ := b j hj q
      refine ⟨b1, fun z => ?_⟩
      by_cases k : j = c
      · rw [k] at z; exact z.2 e
      · exact b2 ⟨by omega, z.2⟩
    · rw [if_neg e]
      obtain ⟨g, g1, g2, g3⟩ := L_clr (c := c) a1 a2 (by omega)
      rw [g1]
      refine ⟨⟨by omega, g2⟩, fun j hj q => ?_⟩
      rw [Int.toNat_natCast, g3 j hj] at q
      simp only [Bool.and_eq_true, Bool.not_eq_true', decide_eq_false_iff_not] at q
      obtain ⟨b1, b2⟩ := b j hj q.1
      exact ⟨b1, fun z => b2 ⟨by have := q.2; omega, z.2⟩⟩
theorem sqC_rng {pl : Nat → Int} {o : Nat} : ∀ c, 0 ≤ sqC pl o c ∧ sqC pl o c ≤ c
  | 0 => ⟨Int.le_refl _, Int.le_refl _⟩
  | c + 1 => by
    have := sqC_rng (pl := pl) (o := o) c
    simp only [sqC]
    split <;> omega
theorem sqT_sp {pl t : Nat → Int} {o : Nat} (hinj : ∀ j k, j < 40 → k < 40 → pl (o + j) ≠ -1 → pl (o + j) = pl (o + k) → j = k) : ∀ c, c ≤ 40 → (∀ j, j < c → pl (o + j) = -1 ∨ 0 ≤ pl (o + j)) → ∀ i, (pr pl o c i → sqT pl o t c i = t i + 1) ∧ (¬ pr pl o c i → sqT pl o t c i = t i)
  | 0, _, _, i => ⟨fun ⟨j, h, _⟩ => absurd h (by omega), fun _ => rfl⟩
  | c + 1, hc, h, i => by
    obtain ⟨a, b⟩ := sqT_sp hinj (t := t) c (by omega) (fun j hj => h j (by omega)) i
    simp only [sqT]
    rcases h c (by omega) with e | e
    · rw [if_pos e]
      refine ⟨fun q => ?_, fun q => b (fun z => q (pr_s.mpr (Or.inl z)))⟩
      rcases pr_s.mp q with z | z
      · exact a z
      · omega
    · rw [if_neg (by omega)]
      by_cases k : i = (pl (o + c)).toNat
      · have np : ¬ pr pl o c i := by
          rintro ⟨j, q1, q2⟩
          have := hinj j c (by omega) (by omega) (by omega) (by omega)
          omega
        rw [← k, upr_at, b np]
        exact ⟨fun _ => rfl, fun q => absurd (pr_s.mpr (Or.inr (by omega))) q⟩
      · rw [upr_ne _ _ k]
        refine ⟨fun q => ?_, fun q => b (fun z => q (pr_s.mpr (Or.inl z)))⟩
        rcases pr_s.mp q with z | z
        · exact a z
        · omega
/-- what is known of a plan -/
def plOk (pl w gr : Nat → Int) (n : Nat) (o : Nat) : Prop := (∀ j, j < 40 → pl (o + j) = -1 ∨ (0 ≤ pl (o + j) ∧ (pl (o + j)).toNat < n ∧ w (pl (o + j)).toNat = 1)) ∧ ∀ j k, j < 40 → k < 40 → pl (o + j) ≠ -1 → pl (o + j) = pl (o + k) → j = k
theorem sqW_now {pl w gr : Nat → Int} {n o : Nat} (h : plOk pl w gr n o) {c : Nat} (hc : c < 40) (e : pl (o + c) ≠ -1) : sqW pl o w c (pl (o + c)).toNat = 1 := by
  have hw := h.1 c hc
  have np : ¬ pr pl o c (pl (o + c)).toNat := by
    rintro ⟨j, q1, q2⟩
    have := h.2 j c (by omega) hc (by omega) (by omega)
    omega
  rw [(sqW_sp c (fun j hj => by have := h.1 j (by omega); omega) _).2 np]
  omega
theorem sqV_sp {pl w gr v : Nat → Int} {n o : Nat} (h : plOk pl w gr n o) (hg : ∀ i, i < n → 0 ≤ gr i ∧ gr i < 6) (hv : ∀ g, g < 6 → v g = cwF w gr n g) : ∀ c, c ≤ 40 → ∀ g, g < 6 → sqV pl o gr v c g = cwF (sqW pl o w c) gr n g
  | 0, _, g, hgg => hv g hgg
  | c + 1, hc, g, hgg => by
    have i := sqV_sp h hg hv c (by omega)
    simp only [sqV, sqW]
    by_cases e : pl (o + c) = -1
    · rw [if_pos e, if_pos e]; exact i g hgg
    · rw [if_neg e, if_neg e]
      have hw := h.1 c (by omega)
      have now := sqW_now h (show c < 40 by omega) e
      generalize (pl (o + c)).toNat = k at *
      have hk : k < n := by omega
      obtain ⟨g0, g6⟩ := hg k hk
      have u : cwF (upr (sqW pl o w c) k 0) gr n g = cwF (sqW pl o w c) gr n g - (if gr k = (g : Int) then 1 else 0) := by
        unfold cwF
        rw [sm_upd (f := fun j => if sqW pl o w c j = 1 ∧ gr j = (g : Int) then (1 : Int) else 0) (i := k) hk (fun j _ hj => by rw [upr_ne _ _ hj])]
        rw [upr_at, now]
        by_cases z : gr k = (g : Int)
        · simp [z]; omega
        · simp [z]
      rw [u]
      by_cases z : g = (gr k).toNat
      · rw [z, upr_at, i _ (by omega), if_pos (by omega)]
      · rw [upr_ne _ _ z, i g hgg, if_neg (by omega)]
        omega
theorem sqW_cong {pl w w' : Nat → Int} {o n : Nat} (h : ∀ i, i < n → w' i = w i) : ∀ c i, i < n → sqW pl o w' c i = sqW pl o w c i
  | 0, i, hi => h i hi
  | c + 1, i, hi => by
    have := sqW_cong (pl := pl) (o := o) h c i hi
    simp only [sqW]
    split
    · exact this
    · unfold upr
      split
      · rfl
      · exact this
theorem sqT_cong {pl t t' : Nat → Int} {o : Nat} (h : ∀ i, i < 200 → t' i = t i) (hp : ∀ j, j < 40 → pl (o + j) < 200) : ∀ c, c ≤ 40 → ∀ i, i < 200 → sqT pl o t' c i = sqT pl o t c i
  | 0, _, i, hi => h i hi
  | c + 1, hc, i, hi => by
    have ih := sqT_cong h hp c (by omega)
    have := hp c (by omega)
    simp only [sqT]
    split
    · exact ih i hi
    · unfold upr
      split
      · rw [ih _ (by omega)]
      · exact ih i hi
theorem sqN_cong {pl N N' : Nat → Int} {o : Nat} {p : Nat} (h : N' p = N p) (c : Nat) : sqN pl o N' c p = sqN pl o N c p := by
  rw [sqN_sp, sqN_sp, h]
/-- lays() reads the reference's own cells alone -/
theorem s8_lays_ref {B : Int} {M Y : Mem} {Q : Int → Mem → Prop} (hL : RLb B M) (hF : RFb M) (hY : ∀ k, 75 ≤ k → Y k = M k) (h31 : Y 62 31 = M 62 31)
    (h0 : ∀ M', frL Y M' → (∀ d s, ¬ feas (cwM M) (rmF (M 54)) d s) → Q 0 M')
    (h1 : ∀ M' d s, frL Y M' → best (cwM M) (rmF (M 54)) d s → (∀ g, g < 6 → M' 83 g = (d g : Int)) → (∀ i, i < 3 → M' 84 i = (s i : Int)) → Q 1 M') : wp_X8_lays Y Q := by
  generalize hc : cwM M = c at *
  generalize hr : rmF (M 54) = r at *
  have n0 := hL.1.1
  have n1 := hL.1.2.1
  have n2 := hL.1.2.2
  have nn : (M 62 31).toNat = nL M := by unfold nL; rw [n2]
  have c40 : ∀ g, g < 6 → 0 ≤ c g ∧ c g ≤ 40 := fun g hg => by
    have w := hL.2.2.2 g hg
    have wr := (cwF_rng (M 51) (M 49) (nL M) g).1
    rw [← hc]
    exact ⟨by unfold cwM; omega, by rw [← w.1]; exact w.2⟩
  have r40 : ∀ i, i < 3 → rmF (M 75) i = r i ∧ 0 ≤ r i ∧ r i ≤ 40 := fun i hi => by
    have := pcN_rng (M 54 i).toNat 40
    rw [← hr]
    unfold rmF
    rw [(hF i hi).1]
    exact ⟨rfl, this.1, this.2⟩
  have go75 : ∀ M1, frL Y M1 → (∀ g, g < 6 → M1 85 g = c g) → (∀ i, i < 3 → M1 86 i = r i) → ∃ n2, wp_X8_lays_75 Q n2 (gN c) 0 (up M1 62 41 (-1)) := by
    intro M1 f1 q85 q86
    refine ⟨730, s8_75 (c := c) (r := r) (M0 := Y) (fun M' L h => h0 M' L.1 h) (fun M' d s L hb _ _ => h1 M' d s L.1 hb) 729 0 _ rfl ⟨f1.up62 _ (Or.inl rfl), fun g hg => ?_, fun i hi => ?_⟩ (Or.inl ⟨rfl, fun d s _ q => ?_⟩)⟩
    · rw [up_ne _ _ _ (by decide)]; exact ⟨q85 g hg, (c40 g hg).1, by have := (c40 g hg).2; omega⟩
    · rw [up_ne _ _ _ (by decide)]; exact ⟨q86 i hi, (r40 i hi).2⟩
    · unfold seen at q; omega
  have go46 : ∀ (k i : Nat) (M1 : Mem), i + k = 3 → frL Y M1 → (∀ g, g < 6 → M1 85 g = c g) → (∀ j, j < i → M1 86 j = r j) → wp_X8_lays_46 Q (k + 1) (gN c) (i : Int) M1 := by
    intro k
    induction k with
    | zero =>
      intro i M1 hi f1 q85 q86
      rw [wp_X8_lays_46]
      exact ⟨⟨by omega, by omega⟩, fun _ => go75 M1 f1 q85 (fun j hj => q86 j (by omega)), fun q => absurd (by omega) q⟩
    | succ k ih =>
      intro i M1 hi f1 q85 q86
      rw [wp_X8_lays_46]
      have e75 : M1 75 = M 75 := by rw [← hY 75 (by omega)]; exact funext (fun j => f1 75 j (by omega) (fun q => absurd q (by decide)))
      refine ⟨⟨by omega, by omega⟩, fun q => absurd q (by omega), fun _ => ?_⟩
      have hf := hF i (by omega)
      refine s8_freeOn (s := i) rfl (by omega) (by rw [e75, hf.1]; exact hf.2.1) (by rw [e75, hf.1]; exact hf.2.2) ⟨⟨by omega, by omega⟩, ?_⟩
      rw [e75, Int.toNat_natCast, (r40 i (by omega)).1]
      refine ih (i + 1) _ (by omega) (f1.up8 _ _ (by omega)) (fun g hg => by rw [up_ne _ _ _ (by decide)]; exact q85 g hg) (fun j hj => ?_)
      rw [up_same]
      by_cases e : j = i
      · subst e; rw [upr_at]
      · rw [upr_ne _ _ e]; exact q86 j (by omega)
  have go4 : ∀ (k i : Nat) (M1 : Mem), i + k = 6 → frL Y M1 → (∀ g, g < i → M1 85 g = c g) → wp_X8_lays_4 Q (k + 1) (sm (fun g => if 0 < c g then 1 else 0) i) (i : Int) M1 := by
    intro k
    induction k with
    | zero =>
      intro i M1 hi f1 q85
      have e : i = 6 := by omega
      subst e
      rw [wp_X8_lays_4]
      exact ⟨by decide, fun _ => ⟨4, go46 3 0 M1 rfl f1 q85 (fun j hj => absurd hj (by omega))⟩, fun q => absurd (by decide) q⟩
    | succ k ih =>
      intro i M1 hi f1 q85
      rw [wp_X8_lays_4]
      refine ⟨⟨by omega, by omega⟩, fun q => absurd q (by omega), fun _ => ?_⟩
      have e78 : M1 78 = M 78 := by rw [← hY 78 (by omega)]; exact funext (fun j => f1 78 j (by omega) (fun q => absurd q (by decide)))
      have e80 : M1 80 = M 80 := by rw [← hY 80 (by omega)]; exact funext (fun j => f1 80 j (by omega) (fun q => absurd q (by decide)))
      have e31 : M1 62 31 = M 62 31 := by rw [← h31]; exact f1 62 31 (by omega) (fun _ => by decide)
      have wt : ∀ Q2 : Int → Mem → Prop, Q2 (c i) M1 → wp_X8_waiting (i : Int) M1 Q2 := by
        intro Q2 hq
        unfold wp_X8_waiting
        refine ⟨(M 62 31).toNat + 1, ?_⟩
        have st := s8_waiting_loop (g := i) (M := M1) (Q := Q2) (by rw [e31]; exact ⟨by omega, by omega⟩) (fun j hj => ?_) (by omega) ?_ (M 62 31).toNat 0 (by rw [e31]; omega)
        · exact st
        · rw [e31] at hj
          obtain ⟨a1, a2, a3, a4, a5⟩ := hL.2.1 j (by omega)
          rw [e80, e78, a4, a1]
          exact ⟨a5, ⟨by omega, by omega⟩⟩
        · rw [e31, e80, e78, cwF_cong (w := M 51) (gr := M 49) (fun j hj => (hL.2.1 j (by omega)).2.2.2.1) (fun j hj => (hL.2.1 j (by omega)).1), nn]
          have : cwF (M 51) (M 49) (nL M) i = c i := by rw [← hc]; rfl
          rw [this]
          exact hq
      refine wt _ ?_
      have cg := c40 i (by omega)
      rw [Int.toNat_natCast, up_sn]
      have st := ih (i + 1) (up M1 85 i (c i)) (by omega) (f1.up8 _ _ (by omega)) (fun j hj => by
        rw [up_same]
        by_cases e : j = i
        · subst e; rw [upr_at]
        · rw [upr_ne _ _ e]; exact q85 j (by omega))
      rw [show sm (fun g => if 0 < c g then (1 : Int) else 0) (i + 1) = sm (fun g => if 0 < c g then (1 : Int) else 0) i + if 0 < c i then 1 else 0 from rfl] at st
      refine ⟨⟨by omega, by omega⟩, ⟨by omega, by omega⟩, ⟨by omega, by omega⟩, fun q => ?_, fun q => ?_⟩
      · rw [if_neg (by omega)] at st; exact st
      · rw [if_pos (by omega)] at st; exact st
  unfold wp_X8_lays
  exact ⟨7, go4 6 0 Y rfl (frL.refl Y) (fun j hj => absurd hj (by omega))⟩
