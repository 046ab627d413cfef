/-! pure: reading bars in one direction: the reference -/
def fr8 (M M' : Mem) : Prop := ∀ k j, k ≠ 73 → (k = 62 → j ≠ 21 ∧ j ≠ 26 ∧ j ≠ 27) → M' k j = M k j
theorem fr8.refl (M : Mem) : fr8 M M := fun _ _ _ _ => rfl
theorem fr8.up62 {M M' : Mem} (h : fr8 M M') {i : Nat} (v : Int) (hi : i = 21 ∨ i = 26 ∨ i = 27) : fr8 M (up M' 62 i v) := by
  intro k j hk hj
  by_cases c : k = 62
  · subst c
    have := hj rfl
    rw [up_snn _ _ _ (by omega)]
    exact h _ _ hk hj
  · rw [up_ne _ _ _ c]
    exact h _ _ hk hj
theorem fr8.up73 {M M' : Mem} (h : fr8 M M') (i : Nat) (v : Int) : fr8 M (up M' 73 i v) := by
  intro k j hk hj
  rw [up_ne _ _ _ hk]
  exact h _ _ hk hj
theorem mn_le {f : Nat → Int} : ∀ {n j : Nat}, j < n → mnS f n ≤ f j ∧ f j ≤ mxS f n
  | 0, _, h => absurd h (by omega)
  | n + 1, j, h => by
    simp only [mnS, mxS]
    rcases Nat.lt_or_ge j n with c | c
    · have := mn_le (f := f) c
      omega
    · rw [show j = n by omega]
      omega
theorem wt8_01 (f : Nat → Int) (n : Nat) (a : Int) (k : Nat) : wt8 f n a k = 0 ∨ wt8 f n a k = 1 := by
  unfold wt8
  generalize (if a = 0 then k else n - 1 - k) = i
  unfold wid
  split
  · exact Or.inl rfl
  · exact Or.inr rfl
theorem wt8_Rg (f : Nat → Int) (n : Nat) (a : Int) (k : Nat) : Rg (wt8 f n a k) := by
  rcases wt8_01 f n a k with e | e <;> rw [e] <;> decide
theorem s_reads_29 {n : Nat} {a1 x2 : Int} {M : Mem} {Q : Int → Mem → Prop} (hn : M 62 22 = (n : Int)) (h1 : 1 ≤ n) (hn67 : n ≤ 67) (hf : ∀ j, j < n → 1 ≤ M 74 j ∧ M 74 j ≤ 99)
    (h : ∃ n2, wp_X8_reads_105 a1 Q n2 x2 (mnS (M 74) n + mxS (M 74) n) 1 0 M) :
    ∀ (k i : Nat) (x3 x4 : Int), i + k = n → x3 = min (M 74 0) (mnS (M 74) i) → x4 = max (M 74 0) (mxS (M 74) i) → wp_X8_reads_29 a1 Q (k + 1) x2 x3 x4 (i : Int) M := by
  have f0 := hf 0 (by omega)
  intro k
  induction k with
  | zero =>
    intro i x3 x4 hi e3 e4
    rw [wp_X8_reads_29]
    have hin : i = n := by omega
    subst hin
    have g := mn_le (f := M 74) (n := i) (j := 0) (by omega)
    have g3 : x3 = mnS (M 74) i := by omega
    have g4 : x4 = mxS (M 74) i := by omega
    refine ⟨⟨by omega, by omega⟩, ⟨by omega, by omega⟩, fun _ => by rw [g3, g4]; exact h, fun c => absurd (by omega) c⟩
  | succ k ih =>
    intro i x3 x4 hi e3 e4
    rw [wp_X8_reads_29]
    have fi := hf i (by omega)
    have hb := mn_rng (f := M 74) (n := i) (fun j hj => hf j (by omega))
    rw [Int.toNat_natCast]
    have go : ∀ s0 : Int, s0 = min x3 (M 74 i) → wp_X8_reads_60 a1 (fun x2 x3 x4 x5 M => wp_X8_reads_29 a1 Q (k + 1) x2 x3 x4 x5 M) Q x2 x4 (i : Int) s0 M := by
      intro s0 hs0
      unfold wp_X8_reads_60
      rw [Int.toNat_natCast]
      have e3' : s0 = min (M 74 0) (mnS (M 74) (i + 1)) := by simp only [mnS]; omega
      refine ⟨⟨by omega, by omega⟩, ⟨by omega, by omega⟩, ⟨by omega, by omega⟩, fun c => ?_, fun c => ⟨⟨by omega, by omega⟩, ?_⟩⟩
      · exact ih (i + 1) s0 x4 (by omega) e3' (by simp only [mxS]; omega)
      · exact ih (i + 1) s0 _ (by omega) e3' (by simp only [mxS]; omega)
    refine ⟨⟨by omega, by omega⟩, ⟨by omega, by omega⟩, fun c => absurd c (by omega), fun _ => ⟨⟨by omega, by omega⟩, ⟨by omega, by omega⟩, ⟨by omega, by omega⟩, fun c => go _ (by omega), fun c => ⟨⟨by omega, by omega⟩, go _ (by omega)⟩⟩⟩
theorem s_reads_105 {n : Nat} {a1 x2 x5 : Int} {M : Mem} {Q : Int → Mem → Prop} (hn : M 62 22 = (n : Int)) (h7 : 7 ≤ n) (hn67 : n ≤ 67) (hf : ∀ j, j < n → 1 ≤ M 74 j ∧ M 74 j ≤ 99) (ha : a1 = 0 ∨ a1 = 1) (h5 : x5 = mnS (M 74) n + mxS (M 74) n)
    (h1 : endsC (wt8 (M 74) n a1) n → wp_X8_reads_199 a1 Q x2 x5 1 M) (h0 : ¬ endsC (wt8 (M 74) n a1) n → wp_X8_reads_199 a1 Q x2 x5 0 M) :
    ∀ (k i : Nat) (x6 : Int), i + k = 4 → ((x6 = 1 ∧ ∀ j, j < i → wt8 (M 74) n a1 j = 0) ∨ (x6 = 0 ∧ ¬ ∀ j, j < 4 → wt8 (M 74) n a1 j = 0)) → wp_X8_reads_105 a1 Q (k + 1) x2 x5 x6 (i : Int) M := by
  have st : ∀ (j : Nat) (x : Int) (Q2 : Int → Mem → Prop), x = (j : Int) → j < n → Q2 (wt8 (M 74) n a1 j) M → wp_X8_isWide x a1 x5 M Q2 := fun j x Q2 hx hj hq => s_isWide hx hj hn hn67 hf ha h5 hq
  intro k
  induction k with
  | zero =>
    intro i x6 hi hx
    rw [wp_X8_reads_105]
    have hi4 : i = 4 := by omega
    subst hi4
    refine ⟨by decide, fun _ => ?_, fun c => absurd (by omega) c⟩
    rcases hx with ⟨e, hp⟩ | ⟨e, hp⟩ <;> subst e
    · refine ⟨by decide, fun c => absurd c (by decide), fun _ => ?_⟩
      rw [hn]
      refine st (n - 3) _ _ (by omega) (by omega) ?_
      refine ⟨wt8_Rg _ _ _ _, fun c => h0 (fun q => by have := q.2.1; omega), fun c1 => ?_⟩
      rw [hn]
      refine st (n - 2) _ _ (by omega) (by omega) ?_
      refine ⟨wt8_Rg _ _ _ _, fun c => h0 (fun q => by have := q.2.2.1; omega), fun c2 => ?_⟩
      rw [hn]
      refine st (n - 1) _ _ (by omega) (by omega) ?_
      have z1 := wt8_01 (M 74) n a1 (n - 3)
      exact ⟨wt8_Rg _ _ _ _, fun c => h0 (fun q => by have := q.2.2.2; omega), fun c3 => h1 ⟨hp, by omega, by omega, by omega⟩⟩
    · exact ⟨by decide, fun _ => h0 (fun q => hp q.1), fun c => absurd rfl c⟩
  | succ k ih =>
    intro i x6 hi hx
    rw [wp_X8_reads_105]
    refine ⟨⟨by omega, by omega⟩, fun c => absurd c (by omega), fun _ => ?_⟩
    rcases hx with ⟨e, hp⟩ | ⟨e, hp⟩ <;> subst e
    · refine ⟨by decide, fun c => absurd c (by decide), fun _ => ?_⟩
      refine st i _ _ rfl (by omega) ?_
      refine ⟨wt8_Rg _ _ _ _, fun c => ih (i + 1) 0 (by omega) (Or.inr ⟨rfl, fun q => c (q i (by omega))⟩), fun c => ih (i + 1) 1 (by omega) (Or.inl ⟨rfl, fun j hj => ?_⟩)⟩
      rcases Nat.lt_or_ge j i with q | q
      · exact hp j q
      · rw [show j = i by omega]; omega
    · exact ⟨by decide, fun _ => ih (i + 1) 0 (by omega) (Or.inr ⟨rfl, hp⟩), fun c => absurd rfl c⟩
theorem s_reads_294 {a1 x2 x5 x7 x8 c : Int} {M : Mem} {k230 : Int → Int → Int → Int → Mem → Prop} {Q : Int → Mem → Prop} (hc : Rg c) (hd0 : 0 ≤ M 62 21) (hd : M 62 21 < 12)
    (h1 : ∀ d, d < 10 → fnd c 10 0 = d → k230 x2 x5 x7 (x8 + 1) (up (up M 73 (M 62 21).toNat (d : Int)) 62 21 (M 62 21 + 1))) (h0 : fnd c 10 0 = 10 → Q 0 (up (up M 62 26 3) 62 27 (2 * x7))) :
    ∀ (k d : Nat), d + k = 10 → fnd c 10 0 = fnd c k d → wp_X8_reads_294 a1 k230 Q (k + 1) x2 x5 x7 x8 c (d : Int) M := by
  intro k
  induction k with
  | zero =>
    intro d hd2 he
    rw [wp_X8_reads_294]
    refine ⟨⟨by omega, by omega⟩, fun _ => ?_, fun q => absurd (by omega) q⟩
    unfold wp_X8_reads_317 wp_X8_bad
    refine ⟨⟨by omega, by omega⟩, fun q => absurd (by omega) q, fun _ => ⟨Or.inl rfl, h0 (by rw [he]; simp only [fnd]; omega)⟩⟩
  | succ k ih =>
    intro d hd2 he
    rw [wp_X8_reads_294]
    have hdr : Rg (dcode d) := by
      unfold dcode
      split <;> decide
    refine ⟨⟨by omega, by omega⟩, fun q => absurd q (by omega), fun _ => ?_⟩
    refine s_five (by omega) (by omega) ?_
    rw [Int.toNat_natCast]
    rw [show fnd c (k + 1) d = if dcode d = c then d else fnd c k (d + 1) from rfl] at he
    refine ⟨hdr, hc, fun q => ?_, fun q => ?_⟩
    · rw [if_pos q] at he
      unfold wp_X8_reads_317
      refine ⟨⟨by omega, by omega⟩, fun _ => ⟨⟨hd0, hd⟩, ?_⟩, fun q2 => absurd (by omega) q2⟩
      exact h1 d (by omega) he
    · rw [if_neg q] at he
      exact ih (d + 1) (by omega) he
theorem s_reads_242 {n p s : Nat} {a1 x2 x5 x7 x8 : Int} {M : Mem} {k230 : Int → Int → Int → Int → Mem → Prop} {Q : Int → Mem → Prop} (hn : M 62 22 = (n : Int)) (hn67 : n ≤ 67) (hf : ∀ j, j < n → 1 ≤ M 74 j ∧ M 74 j ≤ 99) (ha : a1 = 0 ∨ a1 = 1) (h5 : x5 = mnS (M 74) n + mxS (M 74) n) (h7 : x7 = (p : Int)) (h8 : x8 = (s : Int)) (hs : s < 2) (hp : 4 + 10 * p + s + 8 < n) (hd0 : 0 ≤ M 62 21) (hd : M 62 21 < 12)
    (h1 : ∀ d, d < 10 → fnd (cod (wt8 (M 74) n a1) (4 + 10 * p + s) 5) 10 0 = d → k230 x2 x5 x7 (x8 + 1) (up (up M 73 (M 62 21).toNat (d : Int)) 62 21 (M 62 21 + 1))) (h0 : fnd (cod (wt8 (M 74) n a1) (4 + 10 * p + s) 5) 10 0 = 10 → Q 0 (up (up M 62 26 3) 62 27 (2 * x7))) :
    ∀ (k i : Nat), i + k = 5 → wp_X8_reads_242 a1 k230 Q (k + 1) x2 x5 x7 x8 (cod (wt8 (M 74) n a1) (4 + 10 * p + s) i) (i : Int) M := by
  intro k
  induction k with
  | zero =>
    intro i hi
    rw [wp_X8_reads_242]
    have hi5 : i = 5 := by omega
    subst hi5
    have hc := cod_rng (v := wt8 (M 74) n a1) (s := 4 + 10 * p + s) (fun k _ => wt8_01 _ _ _ _) 5 (by omega)
    refine ⟨⟨by omega, by omega⟩, fun _ => ⟨11, s_reads_294 ⟨by omega, by omega⟩ hd0 hd h1 h0 10 0 rfl rfl⟩, fun c => absurd (by omega) c⟩
  | succ k ih =>
    intro i hi
    rw [wp_X8_reads_242]
    refine ⟨⟨by omega, by omega⟩, fun c => absurd c (by omega), fun _ => ?_⟩
    refine s_isWide (k := 4 + 10 * p + s + 2 * i) (by omega) (by omega) hn hn67 hf ha h5 ?_
    have e : cod (wt8 (M 74) n a1) (4 + 10 * p + s) (i + 1) = cod (wt8 (M 74) n a1) (4 + 10 * p + s) i * 2 + wt8 (M 74) n a1 (4 + 10 * p + s + 2 * i) := rfl
    have z := wt8_01 (M 74) n a1 (4 + 10 * p + s + 2 * i)
    have g := ih (i + 1) (by omega)
    refine ⟨wt8_Rg _ _ _ _, fun c => ?_, fun c => ?_⟩
    · rw [show 2 * cod (wt8 (M 74) n a1) (4 + 10 * p + s) i + 0 = cod (wt8 (M 74) n a1) (4 + 10 * p + s) (i + 1) by omega]
      exact g
    · rw [show 2 * cod (wt8 (M 74) n a1) (4 + 10 * p + s) i + 1 = cod (wt8 (M 74) n a1) (4 + 10 * p + s) (i + 1) by omega]
      exact g
theorem s_reads_221 {P : Nat} {a1 x5 : Int} {M0 : Mem} {Q : Int → Mem → Prop} (hP1 : 1 ≤ P) (hP6 : P ≤ 6) (hn : M0 62 22 = ((7 + 10 * P : Nat) : Int)) (hf : ∀ j, j < 7 + 10 * P → 1 ≤ M0 74 j ∧ M0 74 j ≤ 99) (ha : a1 = 0 ∨ a1 = 1) (h5 : x5 = mnS (M0 74) (7 + 10 * P) + mxS (M0 74) (7 + 10 * P))
    (hB : ∀ M', fbad (wt8 (M0 74) (7 + 10 * P) a1) P 0 < P → fr8 M0 M' → M' 62 26 = 3 → M' 62 27 = 2 * (fbad (wt8 (M0 74) (7 + 10 * P) a1) P 0 : Int) → Q 0 M')
    (hC : ∀ M', fbad (wt8 (M0 74) (7 + 10 * P) a1) P 0 = P → dgt (wt8 (M0 74) (7 + 10 * P) a1) (2 * P - 1) ≠ chk (dgt (wt8 (M0 74) (7 + 10 * P) a1)) (2 * P - 1) → fr8 M0 M' → M' 62 26 = 4 → M' 62 27 = 0 → Q 0 M')
    (hO : ∀ M', fbad (wt8 (M0 74) (7 + 10 * P) a1) P 0 = P → dgt (wt8 (M0 74) (7 + 10 * P) a1) (2 * P - 1) = chk (dgt (wt8 (M0 74) (7 + 10 * P) a1)) (2 * P - 1) → fr8 M0 M' → M' 62 21 = ((2 * P : Nat) : Int) → (∀ j, j < 2 * P → M' 73 j = dgt (wt8 (M0 74) (7 + 10 * P) a1) j) → Q 1 M') :
    ∀ (k p : Nat) (M : Mem), p + k = P → fr8 M0 M → fbad (wt8 (M0 74) (7 + 10 * P) a1) P 0 = fbad (wt8 (M0 74) (7 + 10 * P) a1) k p → M 62 21 = ((2 * p : Nat) : Int) → (∀ j, j < 2 * p → M 73 j = dgt (wt8 (M0 74) (7 + 10 * P) a1) j ∧ dgt (wt8 (M0 74) (7 + 10 * P) a1) j ≤ 9) → wp_X8_reads_221 a1 Q (k + 1) (P : Int) x5 (p : Int) M := by
  generalize hv : wt8 (M0 74) (7 + 10 * P) a1 = v at *
  intro k
  induction k with
  | zero =>
    intro p M hp hfr he h21 h73
    rw [wp_X8_reads_221]
    have hpP : p = P := by omega
    subst hpP
    have hfb : fbad v p 0 = p := by rw [he]; rfl
    refine ⟨⟨by omega, by omega⟩, ⟨by omega, by omega⟩, fun _ => ?_, fun c => absurd (by omega) c⟩
    rw [h21]
    refine s_check (n := 2 * p - 1) (by omega) (by omega) (fun j hj => by rw [(h73 j (by omega)).1]; exact ⟨(dgt_rng _ _).1, (h73 j (by omega)).2⟩) ?_
    rw [h21, show (((2 * p : Nat) : Int) - 1).toNat = 2 * p - 1 by omega, (h73 _ (by omega)).1, chk_cong (g := dgt v) (fun j hj => (h73 j (by omega)).1)]
    have r1 := dgt_rng v (2 * p - 1)
    have r2 := chk_rng (dgt v) (2 * p - 1)
    refine ⟨⟨by omega, by omega⟩, ⟨by omega, by omega⟩, ⟨by omega, by omega⟩, fun c => hO M hfb c.symm hfr h21 (fun j hj => (h73 j hj).1), fun c => ?_⟩
    unfold wp_X8_bad
    exact ⟨Or.inl rfl, hC _ hfb (fun q => c q.symm) ((hfr.up62 _ (by omega)).up62 _ (by omega)) rfl rfl⟩
  | succ k ih =>
    intro p M hp hfr he h21 h73
    rw [wp_X8_reads_221]
    refine ⟨⟨by omega, by omega⟩, ⟨by omega, by omega⟩, fun c => absurd c (by omega), fun _ => ⟨3, ?_⟩⟩
    rw [show fbad v (k + 1) p = if dgt v (2 * p) = 10 ∨ dgt v (2 * p + 1) = 10 then p else fbad v k (p + 1) from rfl] at he
    have g0 : dgt v (2 * p) = ((fnd (cod v (4 + 10 * p + 0) 5) 10 0 : Nat) : Int) := by unfold dgt; rw [show 4 + 10 * (2 * p / 2) + 2 * p % 2 = 4 + 10 * p + 0 by omega]
    have g1 : dgt v (2 * p + 1) = ((fnd (cod v (4 + 10 * p + 1) 5) 10 0 : Nat) : Int) := by unfold dgt; rw [show 4 + 10 * ((2 * p + 1) / 2) + (2 * p + 1) % 2 = 4 + 10 * p + 1 by omega]
    have e74 : ∀ M', fr8 M0 M' → M' 74 = M0 74 := fun M' h => funext (fun j => h 74 j (by decide) (fun c => absurd c (by decide)))
    have e22 : ∀ M', fr8 M0 M' → M' 62 22 = ((7 + 10 * P : Nat) : Int) := fun M' h => by rw [h 62 22 (by decide) (fun _ => by decide), hn]
    have bad : ∀ M', fr8 M0 M' → (dgt v (2 * p) = 10 ∨ dgt v (2 * p + 1) = 10) → Q 0 (up (up M' 62 26 3) 62 27 (2 * (p : Int))) := by
      intro M' hM' hc
      rw [if_pos hc] at he
      exact hB _ (by omega) ((hM'.up62 _ (by omega)).up62 _ (by omega)) rfl (by rw [he]; rfl)
    rw [wp_X8_reads_230]
    refine ⟨by decide, fun c => absurd c (by decide), fun _ => ⟨6, ?_⟩⟩
    refine s_reads_242 (n := 7 + 10 * P) (p := p) (s := 0) (e22 M hfr) (by omega) (by rw [e74 M hfr]; exact hf) ha (by rw [e74 M hfr]; exact h5) rfl rfl (by omega) (by omega) (by omega) (by omega) (fun d hd hfd => ?_) (fun hfd => ?_) 5 0 rfl
    · rw [e74 M hfr, hv] at hfd
      have hfr2 := (hfr.up73 (M 62 21).toNat (d : Int)).up62 (i := 21) (M 62 21 + 1) (by omega)
      generalize hM2 : up (up M 73 (M 62 21).toNat (d : Int)) 62 21 (M 62 21 + 1) = M2 at hfr2
      have e21 : M2 62 21 = ((2 * p + 1 : Nat) : Int) := by
        rw [← hM2, up_sn, h21]; omega
      have e73 : M2 73 = upr (M 73) (2 * p) (d : Int) := by
        rw [← hM2, up_ne _ _ _ (by decide), up_same, h21, Int.toNat_natCast]
      show wp_X8_reads_230 a1 _ Q 2 (P : Int) x5 (p : Int) (0 + 1) M2
      rw [wp_X8_reads_230]
      refine ⟨by decide, fun c => absurd c (by decide), fun _ => ⟨6, ?_⟩⟩
      refine s_reads_242 (n := 7 + 10 * P) (p := p) (s := 1) (e22 M2 hfr2) (by omega) (by rw [e74 M2 hfr2]; exact hf) ha (by rw [e74 M2 hfr2]; exact h5) rfl rfl (by omega) (by omega) (by omega) (by omega) (fun d2 hd2 hfd2 => ?_) (fun hfd2 => ?_) 5 0 rfl
      · rw [e74 M2 hfr2, hv] at hfd2
        have hfr3 := (hfr2.up73 (M2 62 21).toNat (d2 : Int)).up62 (i := 21) (M2 62 21 + 1) (by omega)
        generalize hM3 : up (up M2 73 (M2 62 21).toNat (d2 : Int)) 62 21 (M2 62 21 + 1) = M3 at hfr3
        have e21' : M3 62 21 = ((2 * (p + 1) : Nat) : Int) := by
          rw [← hM3, up_sn, e21]; omega
        have e73' : M3 73 = upr (upr (M 73) (2 * p) (d : Int)) (2 * p + 1) (d2 : Int) := by
          rw [← hM3, up_ne _ _ _ (by decide), up_same, e21, Int.toNat_natCast, e73]
        show wp_X8_reads_230 a1 _ Q 1 (P : Int) x5 (p : Int) (1 + 1) M3
        rw [wp_X8_reads_230]
        refine ⟨by decide, fun _ => ?_, fun c => absurd (by decide) c⟩
        rw [if_neg (by omega)] at he
        refine ih (p + 1) M3 (by omega) hfr3 he e21' (fun j hj => ?_)
        rw [e73']
        by_cases q1 : j < 2 * p
        · rw [upr_ne _ _ (by omega), upr_ne _ _ (by omega)]; exact h73 j q1
        · by_cases q2 : j = 2 * p
          · subst q2; rw [upr_ne _ _ (by omega), upr_at, g0, hfd]; exact ⟨rfl, by omega⟩
          · rw [show j = 2 * p + 1 by omega, upr_at, g1, hfd2]; exact ⟨rfl, by omega⟩
      · rw [e74 M2 hfr2, hv] at hfd2
        exact bad _ hfr2 (Or.inr (by rw [g1, hfd2]; rfl))
    · rw [e74 M hfr, hv] at hfd
      exact bad _ hfr (Or.inl (by rw [g0, hfd]; rfl))
/-- reads(turned): what it leaves -/
theorem s_reads {P : Nat} {a1 : Int} {M : Mem} {Q : Int → Mem → Prop} (hP1 : 1 ≤ P) (hP6 : P ≤ 6) (hn : M 62 22 = ((7 + 10 * P : Nat) : Int)) (hf : ∀ j, j < 7 + 10 * P → 1 ≤ M 74 j ∧ M 74 j ≤ 99) (ha : a1 = 0 ∨ a1 = 1)
    (hE : ∀ M', ¬ endsC (wt8 (M 74) (7 + 10 * P) a1) (7 + 10 * P) → fr8 M M' → M' 62 26 = 2 → M' 62 27 = 0 → Q 0 M')
    (hB : ∀ M', endsC (wt8 (M 74) (7 + 10 * P) a1) (7 + 10 * P) → fbad (wt8 (M 74) (7 + 10 * P) a1) P 0 < P → fr8 M M' → M' 62 26 = 3 → M' 62 27 = 2 * (fbad (wt8 (M 74) (7 + 10 * P) a1) P 0 : Int) → Q 0 M')
    (hC : ∀ M', endsC (wt8 (M 74) (7 + 10 * P) a1) (7 + 10 * P) → fbad (wt8 (M 74) (7 + 10 * P) a1) P 0 = P → dgt (wt8 (M 74) (7 + 10 * P) a1) (2 * P - 1) ≠ chk (dgt (wt8 (M 74) (7 + 10 * P) a1)) (2 * P - 1) → fr8 M M' → M' 62 26 = 4 → M' 62 27 = 0 → Q 0 M')
    (hO : ∀ M', endsC (wt8 (M 74) (7 + 10 * P) a1) (7 + 10 * P) → fbad (wt8 (M 74) (7 + 10 * P) a1) P 0 = P → dgt (wt8 (M 74) (7 + 10 * P) a1) (2 * P - 1) = chk (dgt (wt8 (M 74) (7 + 10 * P) a1)) (2 * P - 1) → fr8 M M' → M' 62 21 = ((2 * P : Nat) : Int) → (∀ j, j < 2 * P → M' 73 j = dgt (wt8 (M 74) (7 + 10 * P) a1) j) → Q 1 M') : wp_X8_reads a1 M Q := by
  unfold wp_X8_reads
  rw [hn]
  have f0 := hf 0 (by omega)
  refine ⟨⟨⟨by omega, by omega⟩, by omega⟩, 7 + 10 * P + 1, ?_⟩
  rw [show (((7 + 10 * P : Nat) : Int) - 7) / 10 = (P : Int) by omega]
  refine s_reads_29 hn (by omega) (by omega) hf ⟨5, ?_⟩ (7 + 10 * P) 0 _ _ (by omega) (by simp only [mnS]; omega) (by simp only [mxS]; omega)
  refine s_reads_105 hn (by omega) (by omega) hf ha rfl (fun he => ?_) (fun he => ?_) 4 0 1 rfl (Or.inl ⟨rfl, fun j hj => absurd hj (by omega)⟩)
  · unfold wp_X8_reads_199
    refine ⟨by decide, fun _ => ⟨P + 1, ?_⟩, fun c => absurd (by decide) c⟩
    refine s_reads_221 hP1 hP6 hn hf ha rfl (fun M' => hB M' he) (fun M' => hC M' he) (fun M' => hO M' he) P 0 _ (by omega) ((fr8.refl M).up62 _ (by omega)) rfl rfl (fun j hj => absurd hj (by omega))
  · unfold wp_X8_reads_199 wp_X8_bad
    exact ⟨by decide, fun c => absurd rfl c, fun _ => ⟨Or.inl rfl, hE _ he (((fr8.refl M).up62 _ (by omega)).up62 _ (by omega)) rfl rfl⟩⟩
