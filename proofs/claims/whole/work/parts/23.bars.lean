/-! pure: bars: promise 10 -/
theorem addF {o m : Nat} {M0 : Mem} {f F : Nat → Int} {v : Int} {Q : Int → Mem → Prop} (hm : (m : Int) < (capR o : Int)) (hf : ∀ p, p < m → f p = F p) (hv : v = F m) (h : ∀ f', (∀ p, p < m + 1 → f' p = F p) → Q 1 (setRow M0 o ((m + 1 : Nat) : Int) f')) : wp_X4_add o v (setRow M0 o (m : Int) f) Q := by
  refine s_add (by unfold rok; rw [setRow_n]; omega) (fun _ => ?_) (fun c => absurd (by rw [setRow_n]; exact hm) c)
  rw [setRow_n, setRow_a, setRow_set]
  refine h _ (fun p hp => ?_)
  rw [Int.toNat_natCast]
  rcases Nat.lt_or_ge p m with h1 | h1
  · rw [upr_ne _ _ (by omega)]; exact hf p h1
  · rw [show p = m by omega, upr_at]; exact hv
def sm (g : Nat → Int) : Nat → Int
  | 0 => 0
  | n + 1 => sm g n + g n
theorem sm_bound {g : Nat → Int} {c : Int} : ∀ {n : Nat}, (∀ k, k < n → 0 ≤ g k ∧ g k ≤ c) → 0 ≤ sm g n ∧ sm g n ≤ c * n
  | 0, _ => by simp [sm]
  | n + 1, h => by
    have h1 := sm_bound (n := n) (fun k hk => h k (by omega))
    have h2 := h n (by omega)
    simp only [sm]
    rw [show ((n + 1 : Nat) : Int) = (n : Int) + 1 by omega, Int.mul_add]
    omega
theorem sm_cong {g g' : Nat → Int} : ∀ {n : Nat}, (∀ k, k < n → g k = g' k) → sm g n = sm g' n
  | 0, _ => rfl
  | n + 1, h => by simp only [sm]; rw [sm_cong (fun k hk => h k (by omega)), h n (by omega)]
/-- the check's parts -/
def gW (f : Nat → Int) (n : Nat) (k : Nat) : Int := (if (n - 1 - k) % 2 = 0 then 3 else 1) * f k
def chk (f : Nat → Int) (n : Nat) : Int := (10 - sm (gW f n) n % 10) % 10
theorem gW_rng {f : Nat → Int} {n : Nat} (h : ∀ j, j < n → 0 ≤ f j ∧ f j ≤ 9) : ∀ k, k < n → 0 ≤ gW f n k ∧ gW f n k ≤ 27 := by
  intro k hk
  have := h k hk
  unfold gW
  split <;> omega
theorem chk_rng (f : Nat → Int) (n : Nat) : 0 ≤ chk f n ∧ chk f n ≤ 9 := by unfold chk; omega
theorem chk_cong {f g : Nat → Int} {n : Nat} (h : ∀ k, k < n → f k = g k) : chk f n = chk g n := by
  unfold chk
  rw [sm_cong (g' := gW g n) (fun k hk => by unfold gW; rw [h k hk])]
theorem s_checkOf_loop {o n : Nat} {a1 : Int} {M : Mem} {Q : Int → Mem → Prop} (hr : rok M o) (hn : (n : Int) ≤ M o 1) (hn12 : n ≤ 12) (hd : ∀ j, j < n → 0 ≤ M (o + 1) j ∧ M (o + 1) j ≤ 9) (h : Q (chk (M (o + 1)) n) M) :
    ∀ i : Nat, i ≤ n → wp_X6_checkOf_9 o a1 Q (i + 1) (sm (gW (M (o + 1)) n) n - sm (gW (M (o + 1)) n) i) (if (n - i) % 2 = 0 then 3 else 1) ((i : Int) - 1) M := by
  have hb := sm_bound (gW_rng hd)
  intro i
  induction i with
  | zero =>
    intro _
    rw [wp_X6_checkOf_9]
    have e : sm (gW (M (o + 1)) n) n - sm (gW (M (o + 1)) n) 0 = sm (gW (M (o + 1)) n) n := by simp [sm]
    rw [e]
    refine ⟨by decide, fun _ => ⟨⟨⟨by omega, by omega⟩, by omega⟩, ⟨⟨by omega, by omega⟩, by omega⟩, h⟩, fun c => absurd (by decide) c⟩
  | succ i ih =>
    intro hi
    rw [wp_X6_checkOf_9]
    refine ⟨⟨by omega, by omega⟩, fun c => absurd c (by omega), fun _ => ?_⟩
    refine s_at_in hr (by omega) (by omega) ?_
    have e1 : (((i + 1 : Nat) : Int) - 1).toNat = i := by omega
    rw [e1]
    have := ih (by omega)
    have e2 : sm (gW (M (o + 1)) n) n - sm (gW (M (o + 1)) n) (i + 1) + (if (n - (i + 1)) % 2 = 0 then 3 else 1) * M (o + 1) i = sm (gW (M (o + 1)) n) n - sm (gW (M (o + 1)) n) i := by
      simp only [sm]
      have : gW (M (o + 1)) n i = (if (n - (i + 1)) % 2 = 0 then 3 else 1) * M (o + 1) i := by
        unfold gW
        rw [show n - 1 - i = n - (i + 1) by omega]
      omega
    have e3 : (4 : Int) - (if (n - (i + 1)) % 2 = 0 then 3 else 1) = (if (n - i) % 2 = 0 then 3 else 1) := by
      by_cases hp : (n - i) % 2 = 0
      · rw [if_pos hp, if_neg (by omega)]; rfl
      · rw [if_neg hp, if_pos (by omega)]; rfl
    rw [e2, e3, show ((i + 1 : Nat) : Int) - 1 + (-1) = (i : Int) - 1 by omega]
    exact this
theorem s_checkOf {o n : Nat} {a1 : Int} {M : Mem} {Q : Int → Mem → Prop} (ha : a1 = (n : Int)) (hr : rok M o) (hn : (n : Int) ≤ M o 1) (hn12 : n ≤ 12) (hd : ∀ j, j < n → 0 ≤ M (o + 1) j ∧ M (o + 1) j ≤ 9) (h : Q (chk (M (o + 1)) n) M) : wp_X6_checkOf o a1 M Q := by
  subst ha
  unfold wp_X6_checkOf
  have := s_checkOf_loop (a1 := (n : Int)) hr hn hn12 hd h n (Nat.le_refl n)
  rw [show sm (gW (M (o + 1)) n) n - sm (gW (M (o + 1)) n) n = 0 by omega, Nat.sub_self] at this
  exact ⟨n + 1, this⟩
theorem s_check_loop {n : Nat} {a1 : Int} {M : Mem} {Q : Int → Mem → Prop} (ha : a1 = (n : Int)) (hn12 : n ≤ 12) (hd : ∀ j, j < n → 0 ≤ M 73 j ∧ M 73 j ≤ 9) (h : Q (chk (M 73) n) M) :
    ∀ (k i : Nat), i + k = n → wp_X8_check_4 a1 Q (k + 1) (sm (gW (M 73) n) i) (i : Int) M := by
  have hb := sm_bound (gW_rng hd)
  subst ha
  intro k
  induction k with
  | zero =>
    intro i hi
    rw [wp_X8_check_4, show i = n by omega]
    exact ⟨⟨by omega, by omega⟩, ⟨by omega, by omega⟩, fun _ => ⟨⟨⟨by omega, by omega⟩, by omega⟩, ⟨⟨by omega, by omega⟩, by omega⟩, h⟩, fun c => absurd (by omega) c⟩
  | succ k ih =>
    intro i hi
    rw [wp_X8_check_4]
    have := ih (i + 1) (by omega)
    simp only [sm] at this
    refine ⟨⟨by omega, by omega⟩, ⟨by omega, by omega⟩, fun c => absurd c (by omega), fun _ => ⟨⟨⟨by omega, by omega⟩, by omega⟩, ⟨by omega, by omega⟩, fun c => ⟨⟨by omega, by omega⟩, ?_⟩, fun c => ⟨⟨by omega, by omega⟩, ?_⟩⟩⟩
    · have e : gW (M 73) n i = M 73 i := by unfold gW; rw [if_neg (by omega)]; omega
      rw [e] at this
      rw [Int.toNat_natCast]
      exact this
    · have e : gW (M 73) n i = 3 * M 73 i := by unfold gW; rw [if_pos (by omega)]
      rw [e] at this
      rw [Int.toNat_natCast]
      exact this
theorem s_check {n : Nat} {a1 : Int} {M : Mem} {Q : Int → Mem → Prop} (ha : a1 = (n : Int)) (hn12 : n ≤ 12) (hd : ∀ j, j < n → 0 ≤ M 73 j ∧ M 73 j ≤ 9) (h : Q (chk (M 73) n) M) : wp_X8_check a1 M Q := by
  unfold wp_X8_check
  exact ⟨n + 1, s_check_loop ha hn12 hd h n 0 (by omega)⟩
theorem s_five {d : Int} {M : Mem} {Q : Int → Mem → Prop} (h1 : 0 ≤ d) (h2 : d ≤ 9) (h : Q (dcode d.toNat) M) : wp_X8_five d M Q := by
  unfold wp_X8_five
  refine ⟨⟨by omega, by omega⟩, fun c => ?_, fun c => ?_, fun c => ?_, fun c => ?_, fun c => ?_, fun c => ?_, fun c => ?_, fun c => ?_, fun c => ?_, fun c => ?_⟩
  all_goals first | (subst c; exact h) | skip
  have e : d = 9 := by omega
  subst e
  exact h
theorem s_codeOf {d : Int} {M : Mem} {Q : Int → Mem → Prop} (h1 : 0 ≤ d) (h2 : d ≤ 9) (h : Q (dcode d.toNat) M) : wp_X6_codeOf d M Q := by
  unfold wp_X6_codeOf
  exact ⟨⟨by omega, by omega⟩, fun c => absurd c (by omega), fun _ => ⟨⟨by omega, by omega⟩, fun c => absurd c (by omega), fun _ => ⟨⟨by omega, by omega⟩, h⟩⟩⟩
theorem bAnd_Rg (a b : Int) : Rg (bAnd a b) := Rg_toInt _
/-- the digits of n bytes f: a 0 ahead if they are even in number -/
def ahd (n : Nat) : Nat := if n % 2 = 0 then 1 else 0
def dg0 (f : Nat → Int) (n : Nat) (k : Nat) : Int := if k < ahd n then 0 else f (k - ahd n) - 48
def dgs (f : Nat → Int) (n : Nat) (k : Nat) : Int := if k < n + ahd n then dg0 f n k else chk (dg0 f n) (n + ahd n)
/-- stripe p of the bars of the digits d, t of them -/
def stp (r : Int) (d : Nat → Int) (t : Nat) (p : Nat) : Int :=
  if p < 4 then 1 else if p < 4 + 5 * t then (if bAnd (bShr (dcode (d (2 * ((p - 4) / 10) + (p - 4) % 2)).toNat) ((4 - (p - 4) % 10 / 2 : Nat) : Int)) 1 = 1 then r else 1) else if p = 4 + 5 * t then r else 1
theorem dg0_rng {f : Nat → Int} {n : Nat} (h : ∀ j, j < n → 48 ≤ f j ∧ f j ≤ 57) : ∀ k, k < n + ahd n → 0 ≤ dg0 f n k ∧ dg0 f n k ≤ 9 := by
  intro k hk
  unfold dg0
  split
  · omega
  · have := h (k - ahd n) (by omega)
    omega
theorem dgs_rng {f : Nat → Int} {n : Nat} (h : ∀ j, j < n → 48 ≤ f j ∧ f j ≤ 57) (k : Nat) : 0 ≤ dgs f n k ∧ dgs f n k ≤ 9 := by
  unfold dgs
  split
  · rename_i hk; exact dg0_rng h k hk
  · exact chk_rng _ _
theorem s_takeDigits_loop {n : Nat} {M0 : Mem} {Q : Mem → Prop} (hr : rok M0 0) (hn : M0 0 1 = (n : Int)) (hn11 : n ≤ 11) (hd : ∀ j, j < n → 48 ≤ M0 1 j ∧ M0 1 j ≤ 57)
    (h : ∀ f, (∀ k, k < n + ahd n + 1 → f k = dgs (M0 1) n k) → Q (setRow M0 32 ((n + ahd n + 1 : Nat) : Int) f)) :
    ∀ (k i : Nat) (f : Nat → Int), i + k = n → (∀ p, p < ahd n + i → f p = dg0 (M0 1) n p) → wp_X6_takeDigits_27 0 Q (k + 1) (i : Int) (setRow M0 32 ((ahd n + i : Nat) : Int) f) := by
  have ha : ahd n ≤ 1 := by unfold ahd; split <;> omega
  have hna : n + ahd n ≤ 11 := by unfold ahd; split <;> omega
  have hcap : (capR 32 : Int) = 12 := rfl
  have e0 : ∀ (m : Int) (f : Nat → Int), setRow M0 32 m f 0 = M0 0 := fun m f => setRow_ne M0 m f (by decide) (by decide)
  have e1 : ∀ (m : Int) (f : Nat → Int), setRow M0 32 m f 1 = M0 1 := fun m f => setRow_ne M0 m f (by decide) (by decide)
  intro k
  induction k with
  | zero =>
    intro i f hi hf
    rw [wp_X6_takeDigits_27]
    unfold wp_X4_size
    rw [e0, hn]
    refine ⟨⟨by omega, by omega⟩, ⟨by omega, by omega⟩, fun _ => ?_, fun c => absurd (by omega) c⟩
    rw [setRow_n]
    have hfa : ∀ j, j < n + ahd n → f j = dg0 (M0 1) n j := fun j hj => hf j (by omega)
    refine s_checkOf (n := n + ahd n) (by omega) (by unfold rok; rw [setRow_n, hcap]; omega) (by rw [setRow_n]; omega) (by omega) (fun j hj => by rw [setRow_a, hfa j hj]; exact dg0_rng hd j hj) ?_
    rw [setRow_a, chk_cong hfa]
    refine addF (F := dgs (M0 1) n) (by rw [hcap]; omega) (fun p hp => by rw [hf p hp]; unfold dgs; rw [if_pos (by omega)]) (by unfold dgs; rw [if_neg (by omega)]) (fun f' hf' => ?_)
    have := h f' (fun q hq => hf' q (by omega))
    rw [show n + ahd n + 1 = ahd n + i + 1 by omega] at this
    exact this
  | succ k ih =>
    intro i f hi hf
    rw [wp_X6_takeDigits_27]
    unfold wp_X4_size
    rw [e0, hn]
    refine ⟨⟨by omega, by omega⟩, ⟨by omega, by omega⟩, fun c => absurd c (by omega), fun _ => ?_⟩
    refine s_at_in (by unfold rok; rw [e0]; exact hr) (by omega) (by rw [e0, hn]; omega) ?_
    rw [e1, Int.toNat_natCast]
    refine addF (F := dg0 (M0 1) n) (by rw [hcap]; omega) hf ?_ (fun f' hf' => ?_)
    · unfold dg0
      rw [if_neg (by omega), show ahd n + i - ahd n = i by omega]
    · exact ih (i + 1) f' (by omega) (fun p hp => hf' p (by omega))
theorem s_takeDigits {n : Nat} {M0 : Mem} {Q : Mem → Prop} (hr : rok M0 0) (hn : M0 0 1 = (n : Int)) (hn11 : n ≤ 11) (hd : ∀ j, j < n → 48 ≤ M0 1 j ∧ M0 1 j ≤ 57)
    (h : ∀ f, (∀ k, k < n + ahd n + 1 → f k = dgs (M0 1) n k) → Q (setRow M0 32 ((n + ahd n + 1 : Nat) : Int) f)) : wp_X6_takeDigits 0 M0 Q := by
  unfold wp_X6_takeDigits
  refine s_clear ?_
  unfold wp_X4_size
  have e0 : ∀ (m : Int) (f : Nat → Int), setRow M0 32 m f 0 = M0 0 := fun m f => setRow_ne M0 m f (by decide) (by decide)
  rw [e0, hn]
  refine ⟨⟨⟨by omega, by omega⟩, by omega⟩, ⟨by omega, by omega⟩, fun c => ⟨n + 1, ?_⟩, fun c => ?_⟩
  · have ha : ahd n = 0 := by unfold ahd; rw [if_neg (by omega)]
    have := s_takeDigits_loop hr hn hn11 hd h n 0 (M0 (32 + 1)) (by omega) (fun p hp => absurd hp (by omega))
    rw [ha] at this
    exact this
  · have ha : ahd n = 1 := by unfold ahd; rw [if_pos (by omega)]
    refine addF (m := 0) (F := dg0 (M0 1) n) (by decide) (fun p hp => absurd hp (by omega)) (by unfold dg0; rw [if_pos (by omega)]) (fun f' hf' => ⟨n + 1, ?_⟩)
    have := s_takeDigits_loop hr hn hn11 hd h n 0 f' (by omega) (fun p hp => hf' p (by omega))
    rw [ha] at this
    exact this
/-- one pair of digits: ten stripes -/
theorem s_drawPair_loop {M0 : Mem} {r : Int} {d : Nat → Int} {t x : Nat} {Q : Mem → Prop} (hr : M0 47 4 = r) (hx : 2 * x + 1 < t) (ht : t ≤ 12)
    (h : ∀ f, (∀ p, p < 4 + 10 * (x + 1) → f p = stp r d t p) → Q (setRow M0 2 ((4 + 10 * (x + 1) : Nat) : Int) f)) :
    ∀ (k i : Nat) (f : Nat → Int), i + k = 5 → (∀ p, p < 4 + 10 * x + 2 * i → f p = stp r d t p) → wp_X6_drawPair_3 (dcode (d (2 * x)).toNat) (dcode (d (2 * x + 1)).toNat) 2 Q (k + 1) (4 - (i : Int)) (setRow M0 2 ((4 + 10 * x + 2 * i : Nat) : Int) f) := by
  have hcap : (capR 2 : Int) = 67 := rfl
  have e47 : ∀ (m : Int) (f : Nat → Int), setRow M0 2 m f 47 = M0 47 := fun m f => setRow_ne M0 m f (by decide) (by decide)
  intro k
  induction k with
  | zero =>
    intro i f hi hf
    rw [wp_X6_drawPair_3]
    refine ⟨⟨by omega, by omega⟩, fun _ => ?_, fun c => absurd (by omega) c⟩
    have := h f (fun p hp => hf p (by omega))
    rw [show 4 + 10 * x + 2 * i = 4 + 10 * (x + 1) by omega]
    exact this
  | succ k ih =>
    intro i f hi hf
    rw [wp_X6_drawPair_3]
    have hb : (4 : Int) - (i : Int) = ((4 - i : Nat) : Int) := by omega
    refine ⟨⟨by omega, by omega⟩, fun c => absurd c (by omega), fun _ => ?_⟩
    have v0 : stp r d t (4 + 10 * x + 2 * i) = (if bAnd (bShr (dcode (d (2 * x)).toNat) (4 - (i : Int))) 1 = 1 then r else 1) := by
      unfold stp
      rw [if_neg (by omega), if_pos (by omega), hb, show 2 * ((4 + 10 * x + 2 * i - 4) / 10) + (4 + 10 * x + 2 * i - 4) % 2 = 2 * x by omega, show 4 - (4 + 10 * x + 2 * i - 4) % 10 / 2 = 4 - i by omega]
    have v1 : stp r d t (4 + 10 * x + 2 * i + 1) = (if bAnd (bShr (dcode (d (2 * x + 1)).toNat) (4 - (i : Int))) 1 = 1 then r else 1) := by
      unfold stp
      rw [if_neg (by omega), if_pos (by omega), hb, show 2 * ((4 + 10 * x + 2 * i + 1 - 4) / 10) + (4 + 10 * x + 2 * i + 1 - 4) % 2 = 2 * x + 1 by omega, show 4 - (4 + 10 * x + 2 * i + 1 - 4) % 10 / 2 = 4 - i by omega]
    have key : ∀ v, v = stp r d t (4 + 10 * x + 2 * i) → wp_X6_drawPair_27 (dcode (d (2 * x)).toNat) (dcode (d (2 * x + 1)).toNat) 2 (fun x4 M => wp_X6_drawPair_3 (dcode (d (2 * x)).toNat) (dcode (d (2 * x + 1)).toNat) 2 Q (k + 1) x4 M) Q (4 - (i : Int)) v (setRow M0 2 ((4 + 10 * x + 2 * i : Nat) : Int) f) := by
      intro v hv
      unfold wp_X6_drawPair_27
      refine addF (F := stp r d t) (by rw [hcap]; omega) hf hv (fun f1 hf1 => ⟨bAnd_Rg _ _, fun c => ?_, fun c => ?_⟩)
      · refine addF (F := stp r d t) (by rw [hcap]; omega) hf1 (by rw [v1, if_neg c]) (fun f2 hf2 => ?_)
        have := ih (i + 1) f2 (by omega) (fun p hp => hf2 p (by omega))
        rw [show (4 : Int) - ((i + 1 : Nat) : Int) = 4 - (i : Int) + (-1) by omega] at this
        exact this
      · refine addF (F := stp r d t) (by rw [hcap]; omega) hf1 (by rw [v1, e47, hr, if_pos (by omega)]) (fun f2 hf2 => ?_)
        have := ih (i + 1) f2 (by omega) (fun p hp => hf2 p (by omega))
        rw [show (4 : Int) - ((i + 1 : Nat) : Int) = 4 - (i : Int) + (-1) by omega] at this
        exact this
    refine ⟨bAnd_Rg _ _, fun c => key 1 ?_, fun c => key _ ?_⟩
    · rw [v0, if_neg c]
    · rw [v0, e47, hr, if_pos (by omega)]
theorem s_drawBars_60 {M0 : Mem} {r : Int} {d : Nat → Int} {x2 : Nat} {Q : Int → Mem → Prop} (hr : M0 47 4 = r) (ht : 2 * x2 ≤ 12) (hdr : ∀ k, 0 ≤ d k ∧ d k ≤ 9) (h32 : M0 32 1 = ((2 * x2 : Nat) : Int)) (hdd : ∀ k, k < 2 * x2 → M0 33 k = d k)
    (h : ∀ f, (∀ p, p < 7 + 10 * x2 → f p = stp r d (2 * x2) p) → Q ((7 + 10 * x2 : Nat) : Int) (setRow M0 2 ((7 + 10 * x2 : Nat) : Int) f)) :
    ∀ (k i : Nat) (f : Nat → Int), i + k = x2 → (∀ p, p < 4 + 10 * i → f p = stp r d (2 * x2) p) → wp_X6_drawBars_60 0 2 Q (k + 1) ((2 * i : Nat) : Int) (setRow M0 2 ((4 + 10 * i : Nat) : Int) f) := by
  have hcap : (capR 2 : Int) = 67 := rfl
  have e47 : ∀ (m : Int) (f : Nat → Int), setRow M0 2 m f 47 = M0 47 := fun m f => setRow_ne M0 m f (by decide) (by decide)
  have e32 : ∀ (m : Int) (f : Nat → Int), setRow M0 2 m f 32 = M0 32 := fun m f => setRow_ne M0 m f (by decide) (by decide)
  have e33 : ∀ (m : Int) (f : Nat → Int), setRow M0 2 m f 33 = M0 33 := fun m f => setRow_ne M0 m f (by decide) (by decide)
  have hrk : ∀ (m : Int) (f : Nat → Int), rok (setRow M0 2 m f) 32 := fun m f => by unfold rok; rw [e32, h32, show (capR 32 : Int) = 12 from rfl]; omega
  intro k
  induction k with
  | zero =>
    intro i f hi hf
    rw [wp_X6_drawBars_60]
    unfold wp_X4_size
    rw [e32, h32]
    refine ⟨⟨by omega, by omega⟩, ⟨by omega, by omega⟩, fun _ => ?_, fun c => absurd (by omega) c⟩
    have s1 : stp r d (2 * x2) (4 + 10 * i) = r := by unfold stp; rw [if_neg (by omega), if_neg (by omega), if_pos (by omega)]
    have s2 : stp r d (2 * x2) (4 + 10 * i + 1) = 1 := by unfold stp; rw [if_neg (by omega), if_neg (by omega), if_neg (by omega)]
    have s3 : stp r d (2 * x2) (4 + 10 * i + 1 + 1) = 1 := by unfold stp; rw [if_neg (by omega), if_neg (by omega), if_neg (by omega)]
    refine addF (F := stp r d (2 * x2)) (by rw [hcap]; omega) hf (by rw [e47, hr, s1]) (fun f1 hf1 => ?_)
    refine addF (F := stp r d (2 * x2)) (by rw [hcap]; omega) hf1 s2.symm (fun f2 hf2 => ?_)
    refine addF (F := stp r d (2 * x2)) (by rw [hcap]; omega) hf2 s3.symm (fun f3 hf3 => ?_)
    rw [setRow_n]
    have := h f3 (fun p hp => hf3 p (by omega))
    rw [show 4 + 10 * i + 1 + 1 + 1 = 7 + 10 * x2 by omega]
    exact this
  | succ k ih =>
    intro i f hi hf
    rw [wp_X6_drawBars_60]
    unfold wp_X4_size
    rw [e32, h32]
    refine ⟨⟨by omega, by omega⟩, ⟨by omega, by omega⟩, fun c => absurd c (by omega), fun _ => ?_⟩
    have d0 := hdr (2 * i)
    have d1 := hdr (2 * i + 1)
    refine s_at_in (hrk _ _) (by omega) (by rw [e32, h32]; omega) ?_
    rw [e33, Int.toNat_natCast, hdd _ (by omega)]
    refine s_codeOf d0.1 d0.2 ?_
    refine s_at_in (hrk _ _) (by omega) (by rw [e32, h32]; omega) ?_
    rw [e33, show (((2 * i : Nat) : Int) + 1).toNat = 2 * i + 1 by omega, hdd _ (by omega)]
    refine s_codeOf d1.1 d1.2 ?_
    unfold wp_X6_drawPair
    refine ⟨6, ?_⟩
    have := s_drawPair_loop (M0 := M0) (r := r) (d := d) (t := 2 * x2) (x := i) (Q := fun M24 => wp_X6_drawBars_60 0 2 Q (k + 1) (((2 * i : Nat) : Int) + 2) M24) hr (by omega) ht (fun f2 hf2 => by
      have := ih (i + 1) f2 (by omega) hf2
      rw [show ((2 * (i + 1) : Nat) : Int) = ((2 * i : Nat) : Int) + 2 by omega] at this
      exact this) 5 0 f rfl (fun p hp => hf p (by omega))
    exact this
theorem s_drawBars_41 {M0 : Mem} {r : Int} {d : Nat → Int} {x2 : Nat} {Q : Int → Mem → Prop} (h : ∀ f, (∀ p, p < 4 → f p = stp r d (2 * x2) p) → ∃ n, wp_X6_drawBars_60 0 2 Q n 0 (setRow M0 2 4 f)) :
    ∀ (k i : Nat) (f : Nat → Int), i + k = 4 → (∀ p, p < i → f p = stp r d (2 * x2) p) → wp_X6_drawBars_41 0 2 Q (k + 1) (i : Int) (setRow M0 2 (i : Int) f) := by
  have hcap : (capR 2 : Int) = 67 := rfl
  intro k
  induction k with
  | zero =>
    intro i f hi hf
    rw [wp_X6_drawBars_41]
    refine ⟨⟨by omega, by omega⟩, fun _ => ?_, fun c => absurd (by omega) c⟩
    rw [show i = 4 by omega]
    exact h f (fun p hp => hf p (by omega))
  | succ k ih =>
    intro i f hi hf
    rw [wp_X6_drawBars_41]
    refine ⟨⟨by omega, by omega⟩, fun c => absurd c (by omega), fun _ => ?_⟩
    refine addF (F := stp r d (2 * x2)) (by rw [hcap]; omega) hf (by unfold stp; rw [if_pos (by omega)]) (fun f' hf' => ?_)
    exact ih (i + 1) f' (by omega) hf'
theorem s_drawBars {M0 : Mem} {r : Int} {n : Nat} {Q : Int → Mem → Prop} (hr0 : rok M0 0) (hr : M0 47 4 = r) (hn : M0 0 1 = (n : Int)) (hR : ∀ j : Nat, j < n → 0 ≤ M0 1 j ∧ M0 1 j ≤ 255)
    (h1 : 1 ≤ n → n ≤ 11 → (∀ j, j < n → 48 ≤ M0 1 j ∧ M0 1 j ≤ 57) → ∀ g f, (∀ p, p < 7 + 5 * (n + ahd n + 1) → f p = stp r (dgs (M0 1) n) (n + ahd n + 1) p) → Q ((7 + 5 * (n + ahd n + 1) : Nat) : Int) (setRow (setRow M0 32 ((n + ahd n + 1 : Nat) : Int) g) 2 ((7 + 5 * (n + ahd n + 1) : Nat) : Int) f))
    (h0 : ¬ (1 ≤ n ∧ n ≤ 11 ∧ ∀ j, j < n → 48 ≤ M0 1 j ∧ M0 1 j ≤ 57) → Q (-1) M0) : wp_X6_drawBars 0 2 M0 Q := by
  have hcap : (capR 0 : Int) = 200 := rfl
  have hn2 := hr0.2
  unfold wp_X6_drawBars wp_X4_size
  rw [hn]
  refine ⟨⟨by omega, by omega⟩, fun c => h0 (fun q => by omega), fun c1 => ⟨⟨by omega, by omega⟩, fun c => h0 (fun q => by omega), fun c2 => ?_⟩⟩
  refine s_allWithin hr0 (by decide) (by decide) (fun j hj => ⟨by have := (hR j (by omega)).1; show -2147483648 ≤ M0 1 j; omega, by have := (hR j (by omega)).2; show M0 1 j ≤ 2147483647; omega⟩) (fun hd => ?_) (fun hd => ?_)
  · refine ⟨by decide, fun _ => ?_, fun c => absurd (by decide) c⟩
    have hdd : ∀ j, j < n → 48 ≤ M0 1 j ∧ M0 1 j ≤ 57 := fun j hj => hd j (by omega)
    refine s_takeDigits hr0 hn (by omega) hdd (fun g hg => ?_)
    refine s_clear ?_
    obtain ⟨x2, hx2⟩ : ∃ x2, n + ahd n + 1 = 2 * x2 := ⟨(n + ahd n + 1) / 2, by unfold ahd; split <;> omega⟩
    have hx6 : 2 * x2 ≤ 12 := by rw [← hx2]; unfold ahd; split <;> omega
    rw [hx2] at hg h1 ⊢
    generalize hM1 : setRow M0 32 ((2 * x2 : Nat) : Int) g = M1 at *
    refine ⟨5, ?_⟩
    refine s_drawBars_41 (r := r) (d := dgs (M0 1) n) (x2 := x2) (fun f hf => ⟨x2 + 1, ?_⟩) 4 0 _ rfl (fun p hp => absurd hp (by omega))
    refine s_drawBars_60 (M0 := M1) (by rw [← hM1]; exact (congrFun (setRow_ne M0 _ _ (by decide) (by decide)) 4).trans hr) hx6 (dgs_rng hdd) (by rw [← hM1, setRow_n]) (fun k hk => by rw [← hM1]; exact (congrFun (setRow_a M0 32 _ _) k).trans (hg k hk)) (fun f2 hf2 => ?_) x2 0 f (by omega) (fun p hp => hf p (by omega))
    have := h1 (by omega) (by omega) hdd g f2 (fun p hp => hf2 p (by omega))
    rw [hM1, show 7 + 5 * (2 * x2) = 7 + 10 * x2 by omega] at this
    exact this
  · exact ⟨by decide, fun c => absurd rfl c, fun _ => h0 (fun q => hd (fun j hj => q.2.2 j (by omega)))⟩
/-! the reference's bars -/
theorem s_draws {M0 : Mem} {m : Nat} {f F : Nat → Int} {v : Int} {Q : Mem → Prop} (hm : m < 200) (hv : Rg v) (hf : ∀ p, p < m → f p = F p) (hF : F m = (if v = 0 then 1 else M0 62 18)) (h : ∀ f', (∀ p, p < m + 1 → f' p = F p) → Q (setA M0 62 4 ((m + 1 : Nat) : Int) 65 f')) : wp_X8_draws v (setA M0 62 4 (m : Int) 65 f) Q := by
  unfold wp_X8_draws
  have en : setA M0 62 4 (m : Int) 65 f 62 4 = (m : Int) := setA_n _ _ _ _ _ _
  have e65 : setA M0 62 4 (m : Int) 65 f 65 = f := setA_a _ _ _ _ (by decide)
  have er : setA M0 62 4 (m : Int) 65 f 62 18 = M0 62 18 := setA_o _ _ _ _ (by decide)
  have go : ∀ w, w = F m → Q (up (up (setA M0 62 4 (m : Int) 65 f) 65 ((setA M0 62 4 (m : Int) 65 f) 62 4).toNat w) 62 4 (((up (setA M0 62 4 (m : Int) 65 f) 65 ((setA M0 62 4 (m : Int) 65 f) 62 4).toNat w) 62 4) + 1)) := by
    intro w hw
    rw [up_up_A _ _ _ _ _ (by decide), up_ne _ _ _ (by decide), en, e65, setA_set _ _ _ _ _ _ (by decide)]
    refine h _ (fun p hp => ?_)
    rw [Int.toNat_natCast]
    rcases Nat.lt_or_ge p m with h1 | h1
    · rw [upr_ne _ _ (by omega)]; exact hf p h1
    · rw [show p = m by omega, upr_at]; exact hw
  refine ⟨hv, fun c => ⟨⟨by rw [en]; omega, by rw [en]; omega⟩, go 1 (by rw [hF, if_pos c])⟩, fun c => ⟨⟨by rw [en]; omega, by rw [en]; omega⟩, go _ (by rw [er, hF, if_neg c])⟩⟩
theorem s8_bars_162 {M0 : Mem} {d : Nat → Int} {t x : Nat} {k151 : Int → Mem → Prop} {Q : Int → Mem → Prop} (hx : 2 * x + 1 < t) (ht : t ≤ 12) (hdr : ∀ k, 0 ≤ d k ∧ d k ≤ 9) (hdd : ∀ k, k < t → M0 73 k = d k) (hr : M0 62 18 ≠ 1 ∨ True)
    (h : ∀ f, (∀ p, p < 4 + 10 * (x + 1) → f p = stp (M0 62 18) d t p) → k151 (((2 * x : Nat) : Int) + 2) (setA M0 62 4 ((4 + 10 * (x + 1) : Nat) : Int) 65 f)) :
    ∀ (k i : Nat) (f : Nat → Int), i + k = 5 → (∀ p, p < 4 + 10 * x + 2 * i → f p = stp (M0 62 18) d t p) → wp_X8_bars_162 k151 Q (k + 1) ((2 * x : Nat) : Int) (4 - (i : Int)) (setA M0 62 4 ((4 + 10 * x + 2 * i : Nat) : Int) 65 f) := by
  have e73 : ∀ (m : Int) (f : Nat → Int), setA M0 62 4 m 65 f 73 = M0 73 := fun m f => setA_ne M0 _ m f (by decide) (by decide)
  intro k
  induction k with
  | zero =>
    intro i f hi hf
    rw [wp_X8_bars_162]
    refine ⟨⟨by omega, by omega⟩, fun _ => ?_, fun c => absurd (by omega) c⟩
    have := h f (fun p hp => hf p (by omega))
    rw [show 4 + 10 * x + 2 * i = 4 + 10 * (x + 1) by omega]
    exact this
  | succ k ih =>
    intro i f hi hf
    rw [wp_X8_bars_162]
    have hb : (4 : Int) - (i : Int) = ((4 - i : Nat) : Int) := by omega
    have d0 := hdr (2 * x)
    have d1 := hdr (2 * x + 1)
    refine ⟨⟨by omega, by omega⟩, fun c => absurd c (by omega), fun _ => ⟨⟨by omega, by omega⟩, ?_⟩⟩
    rw [e73, Int.toNat_natCast, hdd _ (by omega)]
    refine s_five d0.1 d0.2 ?_
    have v0 : stp (M0 62 18) d t (4 + 10 * x + 2 * i) = (if bAnd (bShr (dcode (d (2 * x)).toNat) (4 - (i : Int))) 1 = 1 then M0 62 18 else 1) := by
      unfold stp
      rw [if_neg (by omega), if_pos (by omega), hb, show 2 * ((4 + 10 * x + 2 * i - 4) / 10) + (4 + 10 * x + 2 * i - 4) % 2 = 2 * x by omega, show 4 - (4 + 10 * x + 2 * i - 4) % 10 / 2 = 4 - i by omega]
    have v1 : stp (M0 62 18) d t (4 + 10 * x + 2 * i + 1) = (if bAnd (bShr (dcode (d (2 * x + 1)).toNat) (4 - (i : Int))) 1 = 1 then M0 62 18 else 1) := by
      unfold stp
      rw [if_neg (by omega), if_pos (by omega), hb, show 2 * ((4 + 10 * x + 2 * i + 1 - 4) / 10) + (4 + 10 * x + 2 * i + 1 - 4) % 2 = 2 * x + 1 by omega, show 4 - (4 + 10 * x + 2 * i + 1 - 4) % 10 / 2 = 4 - i by omega]
    have key : ∀ v, Rg v → stp (M0 62 18) d t (4 + 10 * x + 2 * i) = (if v = 0 then 1 else M0 62 18) → wp_X8_bars_191 (fun x3 x4 M => wp_X8_bars_162 k151 Q (k + 1) x3 x4 M) Q ((2 * x : Nat) : Int) (4 - (i : Int)) v (setA M0 62 4 ((4 + 10 * x + 2 * i : Nat) : Int) 65 f) := by
      intro v hv hF
      unfold wp_X8_bars_191
      refine s_draws (F := stp (M0 62 18) d t) (by omega) hv hf hF (fun f1 hf1 => ⟨⟨by omega, by omega⟩, ?_⟩)
      rw [e73, show (((2 * x : Nat) : Int) + 1).toNat = 2 * x + 1 by omega, hdd _ (by omega)]
      refine s_five d1.1 d1.2 ?_
      have nx : ∀ f2, (∀ p, p < 4 + 10 * x + 2 * i + 1 + 1 → f2 p = stp (M0 62 18) d t p) → wp_X8_bars_162 k151 Q (k + 1) ((2 * x : Nat) : Int) (4 - (i : Int) + (-1)) (setA M0 62 4 ((4 + 10 * x + 2 * i + 1 + 1 : Nat) : Int) 65 f2) := by
        intro f2 hf2
        have := ih (i + 1) f2 (by omega) (fun p hp => hf2 p (by omega))
        rw [show (4 : Int) - ((i + 1 : Nat) : Int) = 4 - (i : Int) + (-1) by omega] at this
        exact this
      refine ⟨bAnd_Rg _ _, fun c => ?_, fun c => ?_⟩
      · exact s_draws (F := stp (M0 62 18) d t) (by omega) (by decide) hf1 (by rw [v1, if_neg c]; rfl) nx
      · exact s_draws (F := stp (M0 62 18) d t) (by omega) (by decide) hf1 (by rw [v1, if_pos (by omega)]; rfl) nx
    refine ⟨bAnd_Rg _ _, fun c => key 0 (by decide) ?_, fun c => key 1 (by decide) ?_⟩
    · rw [v0, if_neg c]; rfl
    · rw [v0, if_pos (by omega)]; rfl
theorem s8_bars_151 {M0 : Mem} {d : Nat → Int} {x2 : Nat} {Q : Int → Mem → Prop} (ht : 2 * x2 ≤ 12) (hdr : ∀ k, 0 ≤ d k ∧ d k ≤ 9) (h21 : M0 62 21 = ((2 * x2 : Nat) : Int)) (hdd : ∀ k, k < 2 * x2 → M0 73 k = d k)
    (h : ∀ f, (∀ p, p < 7 + 10 * x2 → f p = stp (M0 62 18) d (2 * x2) p) → Q ((7 + 10 * x2 : Nat) : Int) (setA M0 62 4 ((7 + 10 * x2 : Nat) : Int) 65 f)) :
    ∀ (k i : Nat) (f : Nat → Int), i + k = x2 → (∀ p, p < 4 + 10 * i → f p = stp (M0 62 18) d (2 * x2) p) → wp_X8_bars_151 Q (k + 1) ((2 * i : Nat) : Int) (setA M0 62 4 ((4 + 10 * i : Nat) : Int) 65 f) := by
  have e21 : ∀ (m : Int) (f : Nat → Int), setA M0 62 4 m 65 f 62 21 = M0 62 21 := fun m f => setA_o M0 m _ f (by decide)
  intro k
  induction k with
  | zero =>
    intro i f hi hf
    rw [wp_X8_bars_151, e21, h21]
    refine ⟨⟨by omega, by omega⟩, ⟨by omega, by omega⟩, fun _ => ?_, fun c => absurd (by omega) c⟩
    have s1 : stp (M0 62 18) d (2 * x2) (4 + 10 * i) = M0 62 18 := by unfold stp; rw [if_neg (by omega), if_neg (by omega), if_pos (by omega)]
    have s2 : stp (M0 62 18) d (2 * x2) (4 + 10 * i + 1) = 1 := by unfold stp; rw [if_neg (by omega), if_neg (by omega), if_neg (by omega)]
    have s3 : stp (M0 62 18) d (2 * x2) (4 + 10 * i + 1 + 1) = 1 := by unfold stp; rw [if_neg (by omega), if_neg (by omega), if_neg (by omega)]
    refine s_draws (F := stp (M0 62 18) d (2 * x2)) (by omega) (by decide) hf (by rw [s1]; rfl) (fun f1 hf1 => ?_)
    refine s_draws (F := stp (M0 62 18) d (2 * x2)) (by omega) (by decide) hf1 (by rw [s2]; rfl) (fun f2 hf2 => ?_)
    refine s_draws (F := stp (M0 62 18) d (2 * x2)) (by omega) (by decide) hf2 (by rw [s3]; rfl) (fun f3 hf3 => ?_)
    rw [setA_n]
    have := h f3 (fun p hp => hf3 p (by omega))
    rw [show 4 + 10 * i + 1 + 1 + 1 = 7 + 10 * x2 by omega]
    exact this
  | succ k ih =>
    intro i f hi hf
    rw [wp_X8_bars_151, e21, h21]
    refine ⟨⟨by omega, by omega⟩, ⟨by omega, by omega⟩, fun c => absurd c (by omega), fun _ => ⟨6, ?_⟩⟩
    exact s8_bars_162 (M0 := M0) (d := d) (t := 2 * x2) (x := i) (by omega) ht hdr hdd (Or.inr trivial) (fun f2 hf2 => by
      have := ih (i + 1) f2 (by omega) hf2
      rw [show ((2 * (i + 1) : Nat) : Int) = ((2 * i : Nat) : Int) + 2 by omega] at this
      exact this) 5 0 f rfl (fun p hp => hf p (by omega))
theorem s8_bars_133 {M0 : Mem} {r : Int} {d : Nat → Int} {x2 : Nat} {Q : Int → Mem → Prop} (h : ∀ f, (∀ p, p < 4 → f p = stp r d (2 * x2) p) → ∃ n, wp_X8_bars_151 Q n 0 (setA M0 62 4 4 65 f)) :
    ∀ (k i : Nat) (f : Nat → Int), i + k = 4 → (∀ p, p < i → f p = stp r d (2 * x2) p) → wp_X8_bars_133 Q (k + 1) (i : Int) (setA M0 62 4 (i : Int) 65 f) := by
  intro k
  induction k with
  | zero =>
    intro i f hi hf
    rw [wp_X8_bars_133]
    refine ⟨⟨by omega, by omega⟩, fun _ => ?_, fun c => absurd (by omega) c⟩
    rw [show i = 4 by omega]
    exact h f (fun p hp => hf p (by omega))
  | succ k ih =>
    intro i f hi hf
    rw [wp_X8_bars_133]
    refine ⟨⟨by omega, by omega⟩, fun c => absurd c (by omega), fun _ => ?_⟩
    exact s_draws (F := stp r d (2 * x2)) (by omega) (by decide) hf (by unfold stp; rw [if_pos (by omega), if_pos rfl]) (fun f' hf' => ih (i + 1) f' (by omega) hf')
/-- the cell a becomes f -/
def set1 (M : Mem) (a : Nat) (f : Nat → Int) : Mem := fun k => if k = a then f else M k
theorem set1_a (M : Mem) (a : Nat) (f : Nat → Int) : set1 M a f a = f := by simp [set1]
theorem set1_ne (M : Mem) {a k : Nat} (f : Nat → Int) (h : k ≠ a) : set1 M a f k = M k := by simp [set1, h]
theorem set1_set (M : Mem) (a : Nat) (f g : Nat → Int) : set1 (set1 M a f) a g = set1 M a g := by
  funext k
  simp only [set1]
  split <;> rfl
theorem up_set1 (M : Mem) (a i : Nat) (v : Int) : up M a i v = set1 M a (upr (M a) i v) := by
  funext k
  simp only [up, set1]
  split
  · rename_i h; rw [h]
  · rfl
theorem set1_self (M : Mem) (a : Nat) : set1 M a (M a) = M := by
  funext k
  simp only [set1]
  split
  · rename_i h; rw [h]
  · rfl
theorem s8_bars_74 {B : Mem} {n : Nat} {x1 x2 : Int} {Q : Int → Mem → Prop} (hx1 : x1 = (n : Int)) (hx2 : x2 = (ahd n : Int)) (hn11 : n ≤ 11) (hd : ∀ j, j < n → 48 ≤ B 64 j ∧ B 64 j ≤ 57)
    (h : ∀ g, (∀ k, k < n + ahd n + 1 → g k = dgs (B 64) n k) → ∃ n2, wp_X8_bars_133 Q n2 0 (up (up (set1 B 73 g) 62 21 ((n + ahd n + 1 : Nat) : Int)) 62 4 0)) :
    ∀ (k i : Nat) (g : Nat → Int), i + k = n → (∀ p, p < ahd n + i → g p = dg0 (B 64) n p) → wp_X8_bars_74 Q (k + 1) x1 x2 (i : Int) (set1 B 73 g) := by
  subst hx1
  subst hx2
  have hna : n + ahd n ≤ 11 := by unfold ahd; split <;> omega
  have e64 : ∀ g, set1 B 73 g 64 = B 64 := fun g => set1_ne B g (by decide)
  intro k
  induction k with
  | zero =>
    intro i g hi hg
    rw [wp_X8_bars_74]
    refine ⟨⟨by omega, by omega⟩, ⟨by omega, by omega⟩, fun _ => ?_, fun c => absurd (by omega) c⟩
    have hga : ∀ j, j < n + ahd n → g j = dg0 (B 64) n j := fun j hj => hg j (by omega)
    refine s_check (n := n + ahd n) (by omega) (by omega) (fun j hj => by rw [set1_a, hga j hj]; exact dg0_rng hd j hj) ?_
    refine ⟨⟨by omega, by omega⟩, ?_⟩
    rw [set1_a, chk_cong hga, up_set1 (set1 B 73 g) 73, set1_a, set1_set, show ((n : Int) + (ahd n : Int)).toNat = n + ahd n by omega, show (n : Int) + (ahd n : Int) + 1 = ((n + ahd n + 1 : Nat) : Int) by omega]
    refine h _ (fun k hk => ?_)
    unfold dgs
    by_cases hc : k < n + ahd n
    · rw [if_pos hc, upr_ne _ _ (by omega), hga k hc]
    · rw [if_neg hc, show k = n + ahd n by omega, upr_at]
  | succ k ih =>
    intro i g hi hg
    rw [wp_X8_bars_74]
    refine ⟨⟨by omega, by omega⟩, ⟨by omega, by omega⟩, fun c => absurd c (by omega), fun _ => ⟨⟨by omega, by omega⟩, ⟨by omega, by omega⟩, ?_⟩⟩
    rw [up_set1, set1_a, set1_set, e64, Int.toNat_natCast, show ((i : Int) + (ahd n : Int)).toNat = ahd n + i by omega]
    refine ih (i + 1) _ (by omega) (fun p hp => ?_)
    rcases Nat.lt_or_ge p (ahd n + i) with h1 | h1
    · rw [upr_ne _ _ (by omega)]; exact hg p h1
    · rw [show p = ahd n + i by omega, upr_at]
      unfold dg0
      rw [if_neg (by omega), show ahd n + i - ahd n = i by omega]
theorem s8_bars_24 {B : Mem} {n : Nat} {Q : Int → Mem → Prop} (hn11 : n ≤ 11) (hR : ∀ j, j < n → 0 ≤ B 64 j ∧ B 64 j ≤ 255)
    (h1 : (∀ j, j < n → 48 ≤ B 64 j ∧ B 64 j ≤ 57) → ∃ n2, wp_X8_bars_74 Q n2 (n : Int) (ahd n : Int) 0 (up B 73 0 0)) (h0 : ¬ (∀ j, j < n → 48 ≤ B 64 j ∧ B 64 j ≤ 57) → Q (-1) B) :
    ∀ (k i : Nat), i + k = n → (∀ j, j < i → 48 ≤ B 64 j ∧ B 64 j ≤ 57) → wp_X8_bars_24 Q (k + 1) (n : Int) (i : Int) B := by
  intro k
  induction k with
  | zero =>
    intro i hi hd
    rw [wp_X8_bars_24]
    have hh := h1 (fun j hj => hd j (by omega))
    refine ⟨⟨by omega, by omega⟩, ⟨by omega, by omega⟩, fun _ => ⟨⟨⟨by omega, by omega⟩, by omega⟩, ⟨by omega, by omega⟩, fun c => ?_, fun c => ?_⟩, fun c => absurd (by omega) c⟩
    · have e : ahd n = 0 := by unfold ahd; rw [if_neg (by omega)]
      rw [e] at hh
      exact hh
    · have e : ahd n = 1 := by unfold ahd; rw [if_pos (by omega)]
      rw [e] at hh
      exact hh
  | succ k ih =>
    intro i hi hd
    rw [wp_X8_bars_24]
    have hr := hR i (by omega)
    refine ⟨⟨by omega, by omega⟩, ⟨by omega, by omega⟩, fun c => absurd c (by omega), fun _ => ⟨⟨by omega, by omega⟩, ?_⟩⟩
    rw [Int.toNat_natCast]
    refine s_isIn ⟨by omega, by omega⟩ (by decide) (by decide) (fun c1 c2 => ?_) (fun c => ?_)
    · refine ⟨by decide, fun _ => ih (i + 1) (by omega) (fun j hj => ?_), fun c => absurd (by decide) c⟩
      rcases Nat.lt_or_ge j i with h | h
      · exact hd j h
      · rw [show j = i by omega]; exact ⟨c1, c2⟩
    · exact ⟨by decide, fun c => absurd rfl c, fun _ => h0 (fun q => c (q i (by omega)))⟩
theorem stp_cong {r : Int} {d e : Nat → Int} {t p : Nat} (h : ∀ k, k < t → d k = e k) (ht : t % 2 = 0) : stp r d t p = stp r e t p := by
  unfold stp
  by_cases h1 : p < 4
  · rw [if_pos h1, if_pos h1]
  · rw [if_neg h1, if_neg h1]
    by_cases h2 : p < 4 + 5 * t
    · rw [if_pos h2, if_pos h2, h _ (by omega)]
    · rw [if_neg h2, if_neg h2]
theorem stp_rng {r : Int} (hr : r = 2 ∨ r = 3) (d : Nat → Int) (t p : Nat) : 0 ≤ stp r d t p ∧ stp r d t p ≤ 255 := by
  unfold stp
  repeat' split
  all_goals omega
theorem dgs_cong {f g : Nat → Int} {n : Nat} (h : ∀ k, k < n → f k = g k) (k : Nat) : dgs f n k = dgs g n k := by
  have h0 : ∀ k, k < n + ahd n → dg0 f n k = dg0 g n k := fun k hk => by
    unfold dg0
    split
    · rfl
    · rw [h _ (by omega)]
  unfold dgs
  split
  · rename_i hk; exact h0 k hk
  · exact chk_cong h0
theorem op_bars {M : Mem} {G : Prop → Prop} {P : Int → Int → Mem → Prop} (hG : ∀ p, p → G p) (hR : RelA M) (h : ∀ r M', Rg r → RelA M' → SameB M M' → P r r M') : wp_X7_bars M (fun r1 M1 => G (wp_X8_bars M1 (fun r2 M2 => P r1 r2 M2))) := by
  have hR0 := hR
  obtain ⟨⟨t1, t2, t3, t4⟩, ho, hw, hs, hv, hx⟩ := hR
  obtain ⟨n, hn⟩ : ∃ n : Nat, M 0 1 = (n : Int) := ⟨(M 0 1).toNat, by omega⟩
  obtain ⟨hvu, ⟨hr1, hr2⟩, hvk⟩ := hv
  rw [hn] at t3 t4
  have t5 : ∀ j, j < n → M 64 j = M 1 j ∧ 0 ≤ M 1 j ∧ M 1 j ≤ 255 := fun j hj => t4 j (by omega)
  unfold wp_X7_bars
  refine s_drawBars (n := n) (rok0 hR0) rfl hn (fun j hj => (t5 j hj).2) (fun n1 n11 hd g f hf => s_clear (hG _ ?_)) (fun hno => s_clear (hG _ ?_))
  · obtain ⟨x2, hx2⟩ : ∃ x2, n + ahd n + 1 = 2 * x2 := ⟨(n + ahd n + 1) / 2, by unfold ahd; split <;> omega⟩
    have hx6 : 2 * x2 ≤ 12 := by rw [← hx2]; unfold ahd; split <;> omega
    rw [hx2] at hf ⊢
    rw [show 7 + 5 * (2 * x2) = 7 + 10 * x2 by omega] at hf ⊢
    generalize hM1 : setRow (setRow (setRow M 32 ((2 * x2 : Nat) : Int) g) 2 ((7 + 10 * x2 : Nat) : Int) f) 0 0 (setRow (setRow M 32 ((2 * x2 : Nat) : Int) g) 2 ((7 + 10 * x2 : Nat) : Int) f (0 + 1)) = M1
    have m62 : M1 62 = M 62 := by rw [← hM1, setRow_ne _ _ _ (by decide) (by decide), setRow_ne _ _ _ (by decide) (by decide), setRow_ne _ _ _ (by decide) (by decide)]
    have m64 : M1 64 = M 64 := by rw [← hM1, setRow_ne _ _ _ (by decide) (by decide), setRow_ne _ _ _ (by decide) (by decide), setRow_ne _ _ _ (by decide) (by decide)]
    unfold wp_X8_bars
    rw [m62, t3]
    refine s_isIn ⟨by omega, by omega⟩ (by decide) (by decide) (fun _ _ => ?_) (fun c => absurd ⟨by omega, by omega⟩ c)
    refine ⟨by decide, fun _ => ⟨n + 1, ?_⟩, fun c => absurd (by decide) c⟩
    generalize hB : up M1 62 3 0 = B
    have b64 : B 64 = M 64 := by rw [← hB, up_ne _ _ _ (by decide), m64]
    have b62 : B 62 = upr (M 62) 3 0 := by rw [← hB, up_same, m62]
    have hd64 : ∀ j, j < n → 48 ≤ B 64 j ∧ B 64 j ≤ 57 := fun j hj => by rw [b64, (t5 j hj).1]; exact hd j hj
    refine s8_bars_24 n11 (fun j hj => by rw [b64, (t5 j hj).1]; exact (t5 j hj).2) (fun _ => ⟨n + 1, ?_⟩) (fun q => absurd hd64 q) n 0 (by omega) (fun j hj => absurd hj (by omega))
    rw [up_set1]
    have ha1 : ahd n ≤ 1 := by unfold ahd; split <;> omega
    refine s8_bars_74 (B := B) (n := n) rfl rfl n11 hd64 (fun g2 hg2 => ⟨5, ?_⟩) n 0 _ (by omega) (fun p hp => ?_)
    · rw [hx2] at hg2 ⊢
      generalize hB2 : up (set1 B 73 g2) 62 21 ((2 * x2 : Nat) : Int) = B2
      have c62 : B2 62 = upr (upr (M 62) 3 0) 21 ((2 * x2 : Nat) : Int) := by rw [← hB2, up_same, set1_ne _ _ (by decide), b62]
      have c73 : B2 73 = g2 := by rw [← hB2, up_ne _ _ _ (by decide), set1_a]
      have c18 : B2 62 18 = M 47 4 := by rw [c62, upr_ne _ _ (by decide), upr_ne _ _ (by decide), hr1]
      have c21 : B2 62 21 = ((2 * x2 : Nat) : Int) := by rw [c62, upr_at]
      rw [up_A B2 4 0 (show 65 ≠ 62 by decide)]
      have hdd : ∀ j, j < n → 48 ≤ M 1 j ∧ M 1 j ≤ 57 := hd
      refine s8_bars_133 (M0 := B2) (r := M 47 4) (d := dgs (M 1) n) (x2 := x2) (fun f2 hf2 => ⟨x2 + 1, ?_⟩) 4 0 _ rfl (fun p hp => absurd hp (by omega))
      refine s8_bars_151 (M0 := B2) (d := dgs (M 1) n) (x2 := x2) hx6 (dgs_rng hdd) c21 (fun k hk => by rw [c73, hg2 k (by omega), b64]; exact dgs_cong (fun j hj => (t5 j hj).1) k) (fun f3 hf3 => ?_) x2 0 f2 (by omega) (fun p hp => by rw [c18]; exact hf2 p (by omega))
      rw [c18] at hf3
      have q62 : ∀ (a : Nat), a ≠ 4 → a ≠ 21 → a ≠ 3 → setA B2 62 4 ((7 + 10 * x2 : Nat) : Int) 65 f3 62 a = M 62 a := fun a h1 h2 h3 => by rw [setA_o _ _ _ _ h1, c62, upr_ne _ _ h2, upr_ne _ _ h3]
      have qk : ∀ k, k ≠ 62 → k ≠ 65 → k ≠ 73 → setA B2 62 4 ((7 + 10 * x2 : Nat) : Int) 65 f3 k = M1 k := fun k h1 h2 h3 => by rw [setA_ne _ _ _ _ h1 h2, ← hB2, up_ne _ _ _ h1, set1_ne _ _ h3, ← hB, up_ne _ _ _ h1]
      have rk : ∀ k, k ≠ 0 → k ≠ 1 → k ≠ 2 → k ≠ 3 → k ≠ 32 → k ≠ 33 → M1 k = M k := fun k h0 h1 h2 h3 h4 h5 => by rw [← hM1, setRow_ne _ _ _ h0 (by omega), setRow_ne _ _ _ h2 (by omega), setRow_ne _ _ _ h4 (by omega)]
      have p0 : M1 0 1 = 0 := by rw [← hM1, setRow_n]
      have p2 : M1 2 = upr (M 2) 1 ((7 + 10 * x2 : Nat) : Int) := by rw [← hM1, setRow_ne _ _ _ (by decide) (by decide), setRow_o, setRow_ne _ _ _ (by decide) (by decide)]
      have p3 : M1 3 = f := by rw [← hM1, setRow_ne _ _ _ (by decide) (by decide)]; exact setRow_a _ 2 _ _
      have p32 : M1 32 1 = ((2 * x2 : Nat) : Int) := by rw [← hM1, setRow_ne _ _ _ (by decide) (by decide), setRow_ne _ _ _ (by decide) (by decide), setRow_n]
      generalize hM3 : setA B2 62 4 ((7 + 10 * x2 : Nat) : Int) 65 f3 = M3 at q62 qk
      have s4 : M3 62 4 = ((7 + 10 * x2 : Nat) : Int) := by rw [← hM3, setA_n]
      have s3 : M3 62 3 = 0 := by rw [← hM3, setA_o _ _ _ _ (by decide), c62, upr_ne _ _ (by decide), upr_at]
      have s65 : M3 65 = f3 := by rw [← hM3, setA_a _ _ _ _ (by decide)]
      refine h _ _ ⟨by omega, by omega⟩ ⟨⟨?_, ?_, ?_, ?_⟩, ⟨?_, ?_, ?_, ?_⟩, ?_, RS_congr (M := M) (fun k _ _ => ?_) ?_ ?_ ?_ ?_ ?_ hs, ?_, ?_⟩ ⟨fun k q1 q2 => ?_, fun k q => ?_, ?_⟩
      · rw [qk 0 (by decide) (by decide) (by decide), p0]; decide
      · rw [qk 0 (by decide) (by decide) (by decide), p0]; decide
      · rw [qk 0 (by decide) (by decide) (by decide), p0, s3]
      · rw [qk 0 (by decide) (by decide) (by decide), p0]
        intro j hj
        exact absurd hj (by omega)
      · rw [qk 2 (by decide) (by decide) (by decide), p2, upr_at]; omega
      · rw [qk 2 (by decide) (by decide) (by decide), p2, upr_at]; omega
      · rw [qk 2 (by decide) (by decide) (by decide), p2, upr_at, s4]
      · rw [qk 2 (by decide) (by decide) (by decide), qk 3 (by decide) (by decide) (by decide), p2, p3, s65, upr_at]
        intro j hj
        rw [hf3 j (by omega), hf j (by omega)]
        exact ⟨rfl, stp_rng hr2 _ _ _⟩
      · rw [qk 44 (by decide) (by decide) (by decide), qk 63 (by decide) (by decide) (by decide), rk 44 (by decide) (by decide) (by decide) (by decide) (by decide) (by decide), rk 63 (by decide) (by decide) (by decide) (by decide) (by decide) (by decide)]
        exact hw
      · rw [qk k (by omega) (by omega) (by omega), rk k (by omega) (by omega) (by omega) (by omega) (by omega) (by omega)]
      · rw [qk 43 (by decide) (by decide) (by decide), rk 43 (by decide) (by decide) (by decide) (by decide) (by decide) (by decide)]
      · rw [qk 66 (by decide) (by decide) (by decide), rk 66 (by decide) (by decide) (by decide) (by decide) (by decide) (by decide)]
      · rw [qk 67 (by decide) (by decide) (by decide), rk 67 (by decide) (by decide) (by decide) (by decide) (by decide) (by decide)]
      · rw [qk 68 (by decide) (by decide) (by decide), rk 68 (by decide) (by decide) (by decide) (by decide) (by decide) (by decide)]
      · rw [qk 69 (by decide) (by decide) (by decide), rk 69 (by decide) (by decide) (by decide) (by decide) (by decide) (by decide)]
      · rw [qk 43 (by decide) (by decide) (by decide), qk 47 (by decide) (by decide) (by decide), rk 43 (by decide) (by decide) (by decide) (by decide) (by decide) (by decide), rk 47 (by decide) (by decide) (by decide) (by decide) (by decide) (by decide), q62 17 (by decide) (by decide) (by decide), q62 18 (by decide) (by decide) (by decide), q62 23 (by decide) (by decide) (by decide), q62 25 (by decide) (by decide) (by decide), q62 24 (by decide) (by decide) (by decide)]
        exact ⟨hvu, ⟨hr1, hr2⟩, hvk⟩
      · obtain ⟨x28, x30, x32, x34, x36, x38, x40, x41⟩ := hx
        unfold RX rok
        rw [qk 28 (by decide) (by decide) (by decide), qk 30 (by decide) (by decide) (by decide), qk 32 (by decide) (by decide) (by decide), qk 34 (by decide) (by decide) (by decide), qk 36 (by decide) (by decide) (by decide), qk 38 (by decide) (by decide) (by decide), qk 40 (by decide) (by decide) (by decide), qk 41 (by decide) (by decide) (by decide), p32, rk 28 (by decide) (by decide) (by decide) (by decide) (by decide) (by decide), rk 30 (by decide) (by decide) (by decide) (by decide) (by decide) (by decide), rk 34 (by decide) (by decide) (by decide) (by decide) (by decide) (by decide), rk 36 (by decide) (by decide) (by decide) (by decide) (by decide) (by decide), rk 38 (by decide) (by decide) (by decide) (by decide) (by decide) (by decide), rk 40 (by decide) (by decide) (by decide) (by decide) (by decide) (by decide), rk 41 (by decide) (by decide) (by decide) (by decide) (by decide) (by decide)]
        exact ⟨x28, x30, ⟨by omega, by show ((2 * x2 : Nat) : Int) ≤ 12; omega⟩, x34, x36, x38, x40, x41⟩
      · rw [qk k (by omega) (by omega) (by omega), rk k (by omega) (by omega) (by omega) (by omega) (by omega) (by omega)]
      · rw [qk k (by omega) (by omega) (by omega), rk k (by omega) (by omega) (by omega) (by omega) (by omega) (by omega)]
      · exact q62 31 (by decide) (by decide) (by decide)
    · rw [show p = 0 by omega, upr_at]
      unfold dg0
      rw [if_pos (by omega)]
  · generalize hM1 : setRow M 0 0 (M (0 + 1)) = M1
    have m62 : M1 62 = M 62 := by rw [← hM1, setRow_ne _ _ _ (by decide) (by decide)]
    have rk : ∀ k, k ≠ 0 → M1 k = M k := fun k h0 => by
      rw [← hM1]
      by_cases h1 : k = 1
      · subst h1; exact setRow_a M 0 _ _
      · exact setRow_ne _ _ _ h0 (by omega)
    have p0 : M1 0 1 = 0 := by rw [← hM1, setRow_n]
    have fin : P (-1) (-1) (up M1 62 3 0) := by
      have qk : ∀ k, k ≠ 62 → up M1 62 3 0 k = M1 k := fun k h1 => up_ne _ _ _ h1
      have q62 : ∀ a, a ≠ 3 → up M1 62 3 0 62 a = M 62 a := fun a h1 => by rw [up_snn _ _ _ h1, m62]
      have s3 : up M1 62 3 0 62 3 = 0 := up_sn _ _ _ _
      generalize up M1 62 3 0 = M3 at *
      refine h _ _ (by decide) ⟨⟨?_, ?_, ?_, ?_⟩, ?_, ?_, RS_congr (M := M) (fun k _ _ => ?_) ?_ ?_ ?_ ?_ ?_ hs, ?_, RX_congr (M := M) ?_ ?_ ?_ ?_ ?_ ?_ ?_ ?_ hx⟩ ⟨fun k q1 q2 => ?_, fun k q => ?_, ?_⟩
      · rw [qk 0 (by decide), p0]; decide
      · rw [qk 0 (by decide), p0]; decide
      · rw [qk 0 (by decide), p0, s3]
      · rw [qk 0 (by decide), p0]
        intro j hj
        exact absurd hj (by omega)
      · rw [qk 2 (by decide), qk 3 (by decide), qk 65 (by decide), rk 2 (by decide), rk 3 (by decide), rk 65 (by decide), q62 4 (by decide)]
        exact ho
      · rw [qk 44 (by decide), qk 63 (by decide), rk 44 (by decide), rk 63 (by decide)]
        exact hw
      · rw [qk k (by omega), rk k (by omega)]
      · rw [qk 43 (by decide), rk 43 (by decide)]
      · rw [qk 66 (by decide), rk 66 (by decide)]
      · rw [qk 67 (by decide), rk 67 (by decide)]
      · rw [qk 68 (by decide), rk 68 (by decide)]
      · rw [qk 69 (by decide), rk 69 (by decide)]
      · rw [qk 43 (by decide), qk 47 (by decide), rk 43 (by decide), rk 47 (by decide), q62 17 (by decide), q62 18 (by decide), q62 23 (by decide), q62 25 (by decide), q62 24 (by decide)]
        exact ⟨hvu, ⟨hr1, hr2⟩, hvk⟩
      · rw [qk 28 (by decide), rk 28 (by decide)]
      · rw [qk 30 (by decide), rk 30 (by decide)]
      · rw [qk 32 (by decide), rk 32 (by decide)]
      · rw [qk 34 (by decide), rk 34 (by decide)]
      · rw [qk 36 (by decide), rk 36 (by decide)]
      · rw [qk 38 (by decide), rk 38 (by decide)]
      · rw [qk 40 (by decide), rk 40 (by decide)]
      · rw [qk 41 (by decide), rk 41 (by decide)]
      · rw [qk k (by omega), rk k (by omega)]
      · rw [qk k (by omega), rk k (by omega)]
      · exact q62 31 (by decide)
    unfold wp_X8_bars
    rw [m62, t3]
    refine s_isIn ⟨by omega, by omega⟩ (by decide) (by decide) (fun c1 c2 => ?_) (fun c => ?_)
    · refine ⟨by decide, fun _ => ⟨n + 1, ?_⟩, fun c => absurd (by decide) c⟩
      have b64 : (up M1 62 3 0) 64 = M 64 := by rw [up_ne _ _ _ (by decide), rk 64 (by decide)]
      refine s8_bars_24 (by omega) (fun j hj => by rw [b64, (t5 j hj).1]; exact (t5 j hj).2) (fun q => absurd ⟨by omega, by omega, fun j hj => by have := q j hj; rw [b64, (t5 j hj).1] at this; exact this⟩ hno) (fun _ => fin) n 0 (by omega) (fun j hj => absurd hj (by omega))
    · exact ⟨by decide, fun c => absurd rfl c, fun _ => fin⟩
