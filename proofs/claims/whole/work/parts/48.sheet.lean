/-! promise 14 -/
theorem cond40 {a : Int} {Q0 Q1 : Prop} (h : RgL a) (h1 : 0 ≤ a → a < 2 ^ 40 → Q1) (h0 : ¬ (0 ≤ a ∧ a < 2 ^ 40) → Q0) : Rg (lCmp a 0) ∧ (lCmp a 0 < 0 → Q0) ∧ (¬ (lCmp a 0 < 0) → (Rg (lCmp (lShr a 40) 0) ∧ (lCmp (lShr a 40) 0 = 0 → Q1) ∧ (¬ (lCmp (lShr a 40) 0 = 0) → Q0))) := by
  have e : lShr a 40 = a / 2 ^ 40 := L_shr (k := 40) h (by decide)
  have g1 := h.1
  have g2 := h.2
  have r1 : ∀ x y : Int, RgL x → RgL y → Rg (lCmp x y) := fun x y hx hy => by rcases L_cmp hx hy with ⟨-, q⟩ | ⟨-, q⟩ | ⟨-, q⟩ <;> rw [q] <;> decide
  have hd : RgL (a / 2 ^ 40) := ⟨by omega, by omega⟩
  have c1 := L_cmp h (show RgL 0 by decide)
  have c2 := L_cmp hd (show RgL 0 by decide)
  rw [e]
  refine ⟨r1 _ _ h (by decide), fun c => h0 (by omega), fun c => ⟨r1 _ _ hd (by decide), fun c3 => h1 (by omega) (by omega), fun c3 => h0 (by omega)⟩⟩
theorem s7_rep_loop {s : Nat} {a2 : Int} {M0 : Mem} {Q : Int → Mem → Prop} (hs : s < 3) (h : Q 1 (set2 M0 55 (fillR (M0 55) (40 * s) (40 * s + 40) (-1)) 56 (fillR (M0 56) (40 * s) (40 * s + 40) 0))) :
    ∀ (k i : Nat), i + k = 40 * s + 40 → 40 * s ≤ i → wp_X5_replace_37 (s : Int) a2 Q (k + 1) (i : Int) (set2 M0 55 (fillR (M0 55) (40 * s) i (-1)) 56 (fillR (M0 56) (40 * s) i 0)) := by
  intro k
  induction k with
  | zero =>
    intro i hi h0
    rw [wp_X5_replace_37]
    have e : i = 40 * s + 40 := by omega
    subst e
    exact ⟨⟨by omega, by omega⟩, ⟨by omega, by omega⟩, fun _ => h, fun c => absurd (by omega) c⟩
  | succ k ih =>
    intro i hi h0
    rw [wp_X5_replace_37]
    refine ⟨⟨by omega, by omega⟩, ⟨by omega, by omega⟩, fun c => absurd c (by omega), fun _ => ⟨⟨by omega, by omega⟩, ⟨by omega, by omega⟩, ?_⟩⟩
    rw [set2_up _ _ _ _ _ _ _ (by decide), Int.toNat_natCast, fillR_s _ _ h0, fillR_s _ _ h0]
    exact ih (i + 1) (by omega) (by omega)
theorem s8_sheet_loop {s : Nat} {a2 : Int} {M0 : Mem} {Q : Int → Mem → Prop} (hs : s < 3) (h : Q 1 (set2 M0 76 (fillR (M0 76) (40 * s) (40 * s + 40) (-1)) 77 (fillR (M0 77) (40 * s) (40 * s + 40) 0))) :
    ∀ (k i : Nat), i + k = 40 → wp_X8_sheet_34 (s : Int) a2 Q (k + 1) (i : Int) (set2 M0 76 (fillR (M0 76) (40 * s) (40 * s + i) (-1)) 77 (fillR (M0 77) (40 * s) (40 * s + i) 0)) := by
  intro k
  induction k with
  | zero =>
    intro i hi
    rw [wp_X8_sheet_34]
    have e : i = 40 := by omega
    subst e
    exact ⟨⟨by omega, by omega⟩, fun _ => h, fun c => absurd (by omega) c⟩
  | succ k ih =>
    intro i hi
    rw [wp_X8_sheet_34]
    refine ⟨⟨by omega, by omega⟩, fun c => absurd c (by omega), fun _ => ⟨⟨by omega, by omega⟩, ⟨by omega, by omega⟩, ?_⟩⟩
    rw [set2_up _ _ _ _ _ _ _ (by decide), show (40 * (s : Int) + (i : Int)).toNat = 40 * s + i by omega, fillR_s _ _ (by omega), fillR_s _ _ (by omega)]
    exact ih (i + 1) (by omega)
theorem op_sheet {B a1 a2 : Int} {M : Mem} {G : Prop → Prop} {P : Int → Int → Mem → Prop} (hG : ∀ p, p → G p) (hR : RelB B M) (h1 : Rg a1) (h2 : RgL a2) (h : ∀ r M', Rg r → RelB (B + 1) M' → SameA M M' → P r r M') : wp_X7_sheet a1 a2 M (fun r1 M1 => G (wp_X8_sheet a1 a2 M1 (fun r2 M2 => P r1 r2 M2))) := by
  have go : P 0 0 M := h 0 M (by decide) (RelB_mono (by omega) hR) (SameA.refl M)
  obtain ⟨⟨⟨n0, n1, n2⟩, hl, ht, hw⟩, hF, hC, hI, -⟩ := hR
  have no : ¬ ((0 ≤ a1 ∧ a1 < 3) ∧ 0 ≤ a2 ∧ a2 < 2 ^ 40) → (fun r2 M1 => (Rg r2 ∧ (r2 ≠ 0 → wp_X0_forget M1 (fun M7 => G (wp_X8_sheet a1 a2 M7 (fun r3 M2 => P 1 r3 M2)))) ∧ (¬ (r2 ≠ 0) → G (wp_X8_sheet a1 a2 M1 (fun r3 M2 => P 0 r3 M2))))) 0 M := by
    intro hn
    refine ⟨by decide, fun q => absurd rfl q, fun _ => hG _ ?_⟩
    unfold wp_X8_sheet
    refine s8_isSheet h1 (fun c1 c2 => ⟨by decide, fun q => absurd q (by decide), fun _ => cond40 h2 (fun c3 c4 => absurd ⟨⟨c1, c2⟩, c3, c4⟩ hn) (fun _ => go)⟩) (fun _ => ⟨by decide, fun _ => go, fun q => absurd rfl q⟩)
  unfold wp_X7_sheet wp_X5_replace wp_X7_isSheet
  refine ⟨h1, fun c => ⟨by decide, fun _ => no (by omega), fun q => absurd rfl q⟩, fun c1 => ⟨h1, fun c => ⟨by decide, fun _ => no (by omega), fun q => absurd rfl q⟩, fun c2 => ⟨by decide, fun q => absurd q (by decide), fun _ => cond40 h2 (fun c3 c4 => ⟨⟨by omega, by omega⟩, ?_⟩) (fun c => no (fun q => c q.2))⟩⟩⟩
  obtain ⟨s, rfl⟩ : ∃ s : Nat, a1 = (s : Int) := ⟨a1.toNat, by omega⟩
  have hs3 : s < 3 := by omega
  refine ⟨41, ?_⟩
  rw [Int.toNat_natCast]
  have st := s7_rep_loop (s := s) (a2 := a2) (M0 := up M 54 s a2) (Q := fun r2 M1 => (Rg r2 ∧ (r2 ≠ 0 → wp_X0_forget M1 (fun M7 => G (wp_X8_sheet (s : Int) a2 M7 (fun r3 M2 => P 1 r3 M2)))) ∧ (¬ (r2 ≠ 0) → G (wp_X8_sheet (s : Int) a2 M1 (fun r3 M2 => P 0 r3 M2))))) hs3 ?_ 40 (40 * s) (by omega) (Nat.le_refl _)
  · rw [fillR_0, fillR_0, set2_self] at st
    rw [show (s : Int) * 40 = ((40 * s : Nat) : Int) by omega]
    exact st
  refine ⟨by decide, fun _ => ?_, fun q => absurd (by decide) q⟩
  unfold wp_X0_forget
  apply hG
  have e55 : up M 54 s a2 55 = M 55 := up_ne _ _ _ (by decide)
  have e56 : up M 54 s a2 56 = M 56 := up_ne _ _ _ (by decide)
  rw [e55, e56]
  generalize hA : fillR (M 55) (40 * s) (40 * s + 40) (-1) = A
  generalize hBB : fillR (M 56) (40 * s) (40 * s + 40) 0 = W
  have v : ∀ k, k ≠ 54 → k ≠ 55 → k ≠ 56 → k ≠ 57 → up (set2 (up M 54 s a2) 55 A 56 W) 57 6 0 k = M k := fun k q1 q2 q3 q4 => by rw [up_ne _ _ _ q4, set2_ne _ _ _ q2 q3, up_ne _ _ _ q1]
  have v54 : up (set2 (up M 54 s a2) 55 A 56 W) 57 6 0 54 = upr (M 54) s a2 := by rw [up_ne _ _ _ (by decide), set2_ne _ _ _ (by decide) (by decide), up_same]
  have v55 : up (set2 (up M 54 s a2) 55 A 56 W) 57 6 0 55 = A := by rw [up_ne _ _ _ (by decide), set2_a]
  have v56 : up (set2 (up M 54 s a2) 55 A 56 W) 57 6 0 56 = W := by rw [up_ne _ _ _ (by decide), set2_b _ _ _ (by decide)]
  have v57 : up (set2 (up M 54 s a2) 55 A 56 W) 57 6 0 57 6 = 0 := up_sn _ _ _ _
  have vS : SameA M (up (set2 (up M 54 s a2) 55 A 56 W) 57 6 0) := by
    refine SameA.up ⟨fun k hk => ?_, fun k q1 q2 => ?_, fun j _ _ _ => ?_⟩ _ (by omega)
    · rw [set2_ne _ _ _ (by omega) (by omega), up_ne _ _ _ (by omega)]
    · rw [set2_ne _ _ _ (by omega) (by omega), up_ne _ _ _ (by omega)]
    · rw [set2_ne _ _ _ (by decide) (by decide), up_ne _ _ _ (by decide)]
  generalize up (set2 (up M 54 s a2) 55 A 56 W) 57 6 0 = M1 at *
  unfold wp_X8_sheet
  refine s8_isSheet h1 (fun _ _ => ⟨by decide, fun q => absurd q (by decide), fun _ => cond40 h2 (fun _ _ => ⟨⟨by omega, by omega⟩, ⟨41, ?_⟩⟩) (fun c => absurd ⟨c3, c4⟩ c)⟩) (fun c => absurd ⟨by omega, by omega⟩ c)
  rw [Int.toNat_natCast]
  have st := s8_sheet_loop (s := s) (a2 := a2) (M0 := up M1 75 s a2) (Q := fun r2 M2 => P 1 r2 M2) hs3 ?_ 40 0 (by omega)
  · have st : wp_X8_sheet_34 (s : Int) a2 (fun r2 M2 => P 1 r2 M2) 41 0 (set2 (up M1 75 s a2) 76 (fillR (up M1 75 s a2 76) (40 * s) (40 * s) (-1)) 77 (fillR (up M1 75 s a2 77) (40 * s) (40 * s) 0)) := st
    rw [fillR_0, fillR_0, set2_self] at st
    exact st
  have f76 : up M1 75 s a2 76 = M 76 := by rw [up_ne _ _ _ (by decide), v 76 (by decide) (by decide) (by decide) (by decide)]
  have f77 : up M1 75 s a2 77 = M 77 := by rw [up_ne _ _ _ (by decide), v 77 (by decide) (by decide) (by decide) (by decide)]
  rw [f76, f77]
  generalize hA8 : fillR (M 76) (40 * s) (40 * s + 40) (-1) = A8
  generalize hB8 : fillR (M 77) (40 * s) (40 * s + 40) 0 = W8
  have u : ∀ k, k ≠ 75 → k ≠ 76 → k ≠ 77 → set2 (up M1 75 s a2) 76 A8 77 W8 k = M1 k := fun k q1 q2 q3 => by rw [set2_ne _ _ _ q2 q3, up_ne _ _ _ q1]
  have u75 : set2 (up M1 75 s a2) 76 A8 77 W8 75 = upr (M 75) s a2 := by rw [set2_ne _ _ _ (by decide) (by decide), up_same, v 75 (by decide) (by decide) (by decide) (by decide)]
  have u76 : set2 (up M1 75 s a2) 76 A8 77 W8 76 = A8 := set2_a _ _ _ _ _
  have u77 : set2 (up M1 75 s a2) 76 A8 77 W8 77 = W8 := set2_b _ _ _ (by decide)
  have uS : SameA M1 (set2 (up M1 75 s a2) 76 A8 77 W8) := by
    refine ⟨fun k hk => ?_, fun k q1 q2 => ?_, fun j _ _ _ => ?_⟩
    · rw [set2_ne _ _ _ (by omega) (by omega), up_ne _ _ _ (by omega)]
    · rw [set2_ne _ _ _ (by omega) (by omega), up_ne _ _ _ (by omega)]
    · rw [set2_ne _ _ _ (by decide) (by decide), up_ne _ _ _ (by decide)]
  generalize set2 (up M1 75 s a2) 76 A8 77 W8 = M2 at *
  have u2 : ∀ k, k ≠ 75 → k ≠ 76 → k ≠ 77 → k ≠ 54 → k ≠ 55 → k ≠ 56 → k ≠ 57 → M2 k = M k := fun k q1 q2 q3 q4 q5 q6 q7 => by rw [u k q1 q2 q3, v k q4 q5 q6 q7]
  have w48 : M2 48 = M 48 := u2 48 (by decide) (by decide) (by decide) (by decide) (by decide) (by decide) (by decide)
  have w54 : M2 54 = upr (M 54) s a2 := by rw [u 54 (by decide) (by decide) (by decide)]; exact v54
  have w55 : M2 55 = A := by rw [u 55 (by decide) (by decide) (by decide)]; exact v55
  have w56 : M2 56 = W := by rw [u 56 (by decide) (by decide) (by decide)]; exact v56
  have hn2 : nL M2 = nL M := by unfold nL; rw [w48]
  have in1 : ∀ p, p < 120 → p / 40 = s → A p = -1 ∧ W p = 0 ∧ A8 p = -1 ∧ W8 p = 0 := fun p hp hq => by
    rw [← hA, ← hBB, ← hA8, ← hB8, fillR_in _ _ (by omega) (by omega), fillR_in _ _ (by omega) (by omega), fillR_in _ _ (by omega) (by omega), fillR_in _ _ (by omega) (by omega)]
    exact ⟨rfl, rfl, rfl, rfl⟩
  have out1 : ∀ p, p < 120 → ¬ p / 40 = s → A p = M 55 p ∧ W p = M 56 p ∧ A8 p = M 76 p ∧ W8 p = M 77 p := fun p hp hq => by
    rw [← hA, ← hBB, ← hA8, ← hB8, fillR_out _ _ (by omega), fillR_out _ _ (by omega), fillR_out _ _ (by omega), fillR_out _ _ (by omega)]
    exact ⟨rfl, rfl, rfl, rfl⟩
  refine h _ M2 (by decide) ⟨⟨?_, ?_, fun i hi => ?_, ?_⟩, fun t ht3 => ?_, fun p hp => ?_, ⟨fun p hp => ?_, fun p hp => ?_, fun p q hp hq => ?_⟩, Or.inl (by rw [u 57 (by decide) (by decide) (by decide)]; exact v57)⟩ (vS.trans uS)
  · rw [w48, u2 62 (by decide) (by decide) (by decide) (by decide) (by decide) (by decide) (by decide)]; exact ⟨n0, n1, n2⟩
  · rw [hn2, u2 78 (by decide) (by decide) (by decide) (by decide) (by decide) (by decide) (by decide), u2 80 (by decide) (by decide) (by decide) (by decide) (by decide) (by decide) (by decide), u2 49 (by decide) (by decide) (by decide) (by decide) (by decide) (by decide) (by decide), u2 51 (by decide) (by decide) (by decide) (by decide) (by decide) (by decide) (by decide)]
    exact hl
  · rw [u2 79 (by decide) (by decide) (by decide) (by decide) (by decide) (by decide) (by decide), u2 50 (by decide) (by decide) (by decide) (by decide) (by decide) (by decide) (by decide)]
    have := ht i hi
    omega
  · unfold cwM
    rw [hn2, u2 49 (by decide) (by decide) (by decide) (by decide) (by decide) (by decide) (by decide), u2 51 (by decide) (by decide) (by decide) (by decide) (by decide) (by decide) (by decide), u2 52 (by decide) (by decide) (by decide) (by decide) (by decide) (by decide) (by decide)]
    exact hw
  · rw [u75, w54]
    by_cases c : t = s
    · subst c; rw [upr_at, upr_at]; exact ⟨rfl, c3, c4⟩
    · rw [upr_ne _ _ c, upr_ne _ _ c]; exact hF t ht3
  · rw [u76, u77, w55, w56, w48]
    by_cases c : p / 40 = s
    · obtain ⟨i1, i2, i3, i4⟩ := in1 p hp c
      rw [i1, i2, i3, i4]
      exact ⟨rfl, by decide, by omega, rfl, Or.inl rfl⟩
    · obtain ⟨i1, i2, i3, i4⟩ := out1 p hp c
      rw [i1, i2, i3, i4]
      exact hC p hp
  · rw [w54, w55, w56]
    by_cases c : p / 40 = s
    · intro _
      exact ⟨(in1 p hp c).1, (in1 p hp c).2.1⟩
    · rw [upr_ne _ _ c, (out1 p hp c).1, (out1 p hp c).2.1]
      exact hI.1 p hp
  · rw [w55, w56, u2 51 (by decide) (by decide) (by decide) (by decide) (by decide) (by decide) (by decide)]
    by_cases c : p / 40 = s
    · intro q
      exact absurd (in1 p hp c).1 q
    · rw [(out1 p hp c).1, (out1 p hp c).2.1]
      exact hI.2.1 p hp
  · rw [w55, w56]
    intro e1 e2
    by_cases c : p / 40 = s
    · exact absurd (in1 p hp c).1 e1
    · by_cases c5 : q / 40 = s
      · rw [e2] at e1
        exact absurd (in1 q hq c5).1 e1
      · rw [(out1 p hp c).1] at e1
        rw [(out1 p hp c).1, (out1 q hq c5).1] at e2
        rw [(out1 p hp c).2.1, (out1 q hq c5).2.1]
        exact hI.2.2 p q hp hq e1 e2
/-! promise 21 -/
theorem op_spoil {B a1 a2 : Int} {M : Mem} {G : Prop → Prop} {P : Int → Int → Mem → Prop} (hG : ∀ p, p → G p) (hR : RelB B M) (h1 : Rg a1) (h2 : Rg a2) (h : ∀ r M', Rg r → RelB (B + 1) M' → SameA M M' → P r r M') : wp_X7_spoil a1 a2 M (fun r1 M1 => G (wp_X8_spoil a1 a2 M1 (fun r2 M2 => P r1 r2 M2))) := by
  have go : P (-1) (-1) M := h (-1) M (by decide) (RelB_mono (by omega) hR) (SameA.refl M)
  obtain ⟨hLb, hF, hC, hI, -⟩ := hR
  have hLb0 := hLb
  obtain ⟨⟨n0, n1, n2⟩, hl, ht, hw⟩ := hLb
  unfold wp_X7_spoil
  refine s_placeOf h1 h2 (fun c1 c2 c3 c4 => ?_) (fun c => ?_)
  · obtain ⟨p, hp⟩ : ∃ p : Nat, a1 * 40 + a2 = (p : Int) := ⟨(a1 * 40 + a2).toNat, by omega⟩
    have hp120 : p < 120 := by omega
    have hp8 : 40 * a1 + a2 = (p : Int) := by omega
    obtain ⟨k1, k2, k3, k4, k5⟩ := hC p hp120
    have rg56 : Rg (M 56 p) := by rcases k5 with e | e <;> rw [e] <;> decide
    rw [hp]
    have no8 : (M 55 p = -1 ∨ M 56 p ≠ 0) → wp_X8_spoil a1 a2 M (fun r2 M2 => P (-1) r2 M2) := by
      intro hn
      unfold wp_X8_spoil
      refine s8_printed h1 h2 (fun _ _ _ _ => ?_) (fun q => absurd ⟨⟨c1, c2⟩, c3, c4⟩ q)
      rw [hp8, Int.toNat_natCast, k1]
      refine ⟨⟨by omega, by omega⟩, fun _ => go, fun q => ⟨⟨by omega, by omega⟩, ?_⟩⟩
      rw [k4]
      exact ⟨rg56, fun _ => go, fun q2 => by rcases hn with e | e; · exact absurd e q
                                             · exact absurd e q2⟩
    unfold wp_X5_isGood
    refine s_labelIn ⟨by omega, by omega⟩ (fun _ _ => ?_) (fun q => absurd ⟨by omega, by omega⟩ q)
    rw [Int.toNat_natCast]
    refine ⟨⟨by omega, by omega⟩, fun c => ⟨by decide, fun q => absurd rfl q, fun _ => hG _ (no8 (Or.inl c))⟩, fun c5 => ⟨⟨by omega, by omega⟩, rg56, fun c => ⟨by decide, fun q => absurd rfl q, fun _ => hG _ (no8 (Or.inr c))⟩, fun c6 => ⟨by decide, fun _ => ?_, fun q => absurd (by decide) q⟩⟩⟩
    refine s_labelIn ⟨by omega, by omega⟩ (fun _ _ => ?_) (fun q => absurd ⟨by omega, by omega⟩ q)
    rw [Int.toNat_natCast]
    obtain ⟨i, hi⟩ : ∃ i : Nat, M 55 p = (i : Int) := ⟨(M 55 p).toNat, by omega⟩
    rw [hi]
    have hin : i < nL M := by unfold nL; omega
    obtain ⟨g1, g2, g3, g4, g5⟩ := hl i hin
    have h56 : M 56 p = 0 := by omega
    have w0 : M 51 i = 0 := by
      rcases g5 with e | e
      · exact e
      · have := hI.2.1 p hp120 c5 (by rw [hi, Int.toNat_natCast]; exact e)
        omega
    obtain ⟨g, hg⟩ : ∃ g : Nat, M 49 i = (g : Int) := ⟨(M 49 i).toNat, by omega⟩
    have hg6 : g < 6 := by omega
    have wg := hw g hg6
    have wr := (cwF_rng (M 51) (M 49) (nL M) g).1
    have wg1 : M 52 g = cwF (M 51) (M 49) (nL M) g := wg.1
    unfold wp_X1_waitAnew wp_X1_isLabel
    refine ⟨⟨by omega, by omega⟩, fun c => absurd c (by omega), fun _ => ⟨⟨by omega, by omega⟩, ⟨by omega, by omega⟩, fun c => absurd c (by omega), fun _ => ⟨by decide, fun q => absurd q (by decide), fun _ => ⟨⟨by omega, by omega⟩, ?_⟩⟩⟩⟩
    rw [Int.toNat_natCast]
    have n8 : wp_X8_spoil a1 a2 M (fun r2 M2 => P (-1) r2 M2) ∨ True := Or.inr trivial
    refine ⟨by rw [w0]; decide, fun c => absurd w0 c, fun _ => ⟨⟨by omega, by omega⟩, s_waitingIn hg hg6 ⟨⟨by omega, by omega⟩, fun c7 => ⟨⟨by omega, by omega⟩, ⟨by omega, by omega⟩, s_changeWaiting (g := g) (by rw [up_ne _ _ _ (by decide)]; exact hg) hg6 ?_⟩, fun c7 => ⟨by decide, fun q => absurd rfl q, fun _ => hG _ ?_⟩⟩⟩⟩
    · rw [up_ne M _ _ (show 52 ≠ 51 by decide)]
      refine ⟨by decide, fun _ => ?_, fun q => absurd (by decide) q⟩
      unfold wp_X5_markSpoiled wp_X7_isPlace wp_X0_forget
      refine ⟨⟨by omega, by omega⟩, fun c => absurd c (by omega), fun _ => ⟨⟨by omega, by omega⟩, fun c => absurd c (by omega), fun _ => ⟨by decide, fun q => absurd q (by decide), fun _ => ⟨⟨by omega, by omega⟩, hG _ ?_⟩⟩⟩⟩
      rw [Int.toNat_natCast]
      have v : ∀ k, k ≠ 51 → k ≠ 52 → k ≠ 56 → k ≠ 57 → up (up (up (up M 51 i 1) 52 g (M 52 g + 1)) 56 p 1) 57 6 0 k = M k := fun k q1 q2 q3 q4 => by rw [up_ne _ _ _ q4, up_ne _ _ _ q3, up_ne _ _ _ q2, up_ne _ _ _ q1]
      have v51 : up (up (up (up M 51 i 1) 52 g (M 52 g + 1)) 56 p 1) 57 6 0 51 = upr (M 51) i 1 := by rw [up_ne _ _ _ (by decide), up_ne _ _ _ (by decide), up_ne _ _ _ (by decide), up_same]
      have v52 : up (up (up (up M 51 i 1) 52 g (M 52 g + 1)) 56 p 1) 57 6 0 52 = upr (M 52) g (M 52 g + 1) := by rw [up_ne _ _ _ (by decide), up_ne _ _ _ (by decide), up_same, up_ne _ _ _ (by decide)]
      have v56 : up (up (up (up M 51 i 1) 52 g (M 52 g + 1)) 56 p 1) 57 6 0 56 = upr (M 56) p 1 := by rw [up_ne _ _ _ (by decide), up_same, up_ne _ _ _ (by decide), up_ne _ _ _ (by decide)]
      have v57 : up (up (up (up M 51 i 1) 52 g (M 52 g + 1)) 56 p 1) 57 6 0 57 6 = 0 := up_sn _ _ _ _
      have vS : SameA M (up (up (up (up M 51 i 1) 52 g (M 52 g + 1)) 56 p 1) 57 6 0) := ((((SameA.refl M).up _ (by omega)).up _ (by omega)).up _ (by omega)).up _ (by omega)
      generalize up (up (up (up M 51 i 1) 52 g (M 52 g + 1)) 56 p 1) 57 6 0 = M1 at *
      have x76 := v 76 (by decide) (by decide) (by decide) (by decide)
      have x77 := v 77 (by decide) (by decide) (by decide) (by decide)
      have x78 := v 78 (by decide) (by decide) (by decide) (by decide)
      have x80 := v 80 (by decide) (by decide) (by decide) (by decide)
      have x62 := v 62 (by decide) (by decide) (by decide) (by decide)
      unfold wp_X8_spoil
      refine s8_printed h1 h2 (fun _ _ _ _ => ?_) (fun q => absurd ⟨⟨c1, c2⟩, c3, c4⟩ q)
      rw [hp8, Int.toNat_natCast, x76, k1, hi]
      refine ⟨⟨by omega, by omega⟩, fun q => absurd q (by omega), fun _ => ⟨⟨by omega, by omega⟩, ?_⟩⟩
      rw [x77, k4]
      refine ⟨rg56, fun q => absurd h56 q, fun _ => ⟨⟨by omega, by omega⟩, ?_⟩⟩
      rw [Int.toNat_natCast, x78, g1, hg]
      have wt : ∀ Q2 : Int → Mem → Prop, Q2 (M 52 g) M1 → wp_X8_waiting (g : Int) M1 Q2 := by
        intro Q2 hq
        unfold wp_X8_waiting
        refine ⟨(M 62 31).toNat + 1, ?_⟩
        have nn : nL M = (M 62 31).toNat := by unfold nL; rw [n2]
        have st := s8_waiting_loop (g := g) (M := M1) (Q := Q2) (by rw [x62]; exact ⟨by omega, by omega⟩) (fun j hj => ?_) (by omega) ?_ (M 62 31).toNat 0 (by rw [x62]; omega)
        · exact st
        · rw [x62] at hj
          obtain ⟨e1, e2, e3, e4, e5⟩ := hl j (by omega)
          rw [x80, x78, e4, e1]
          exact ⟨e5, ⟨by omega, by omega⟩⟩
        · rw [x62, x80, x78, cwF_cong (w := M 51) (gr := M 49) (fun j hj => (hl j (by omega)).2.2.2.1) (fun j hj => (hl j (by omega)).1), ← nn, ← wg1]
          exact hq
      refine wt _ ?_
      refine ⟨⟨by omega, by omega⟩, fun _ => ⟨⟨by omega, by omega⟩, ⟨by omega, by omega⟩, ?_⟩, fun q => absurd (by omega) q⟩
      have u : ∀ k, k ≠ 77 → k ≠ 80 → up (up M1 77 p 1) 80 i 1 k = M1 k := fun k q1 q2 => by rw [up_ne _ _ _ q2, up_ne _ _ _ q1]
      have u77 : up (up M1 77 p 1) 80 i 1 77 = upr (M 77) p 1 := by rw [up_ne _ _ _ (by decide), up_same, x77]
      have u80 : up (up M1 77 p 1) 80 i 1 80 = upr (M 80) i 1 := by rw [up_same, up_ne _ _ _ (by decide), x80]
      have uS : SameA M1 (up (up M1 77 p 1) 80 i 1) := ((SameA.refl M1).up _ (by omega)).up _ (by omega)
      generalize up (up M1 77 p 1) 80 i 1 = M2 at *
      have u2 : ∀ k, k ≠ 77 → k ≠ 80 → k ≠ 51 → k ≠ 52 → k ≠ 56 → k ≠ 57 → M2 k = M k := fun k q1 q2 q3 q4 q5 q6 => by rw [u k q1 q2, v k q3 q4 q5 q6]
      have y48 := u2 48 (by decide) (by decide) (by decide) (by decide) (by decide) (by decide)
      have y49 := u2 49 (by decide) (by decide) (by decide) (by decide) (by decide) (by decide)
      have y51 : M2 51 = upr (M 51) i 1 := by rw [u 51 (by decide) (by decide)]; exact v51
      have y52 : M2 52 = upr (M 52) g (M 52 g + 1) := by rw [u 52 (by decide) (by decide)]; exact v52
      have y56 : M2 56 = upr (M 56) p 1 := by rw [u 56 (by decide) (by decide)]; exact v56
      have y55 := u2 55 (by decide) (by decide) (by decide) (by decide) (by decide) (by decide)
      have hn2 : nL M2 = nL M := by unfold nL; rw [y48]
      refine h _ M2 ⟨by omega, by omega⟩ ⟨⟨?_, fun j hj => ?_, fun j hj => ?_, fun g' hg' => ?_⟩, ?_, fun q hq => ?_, ⟨fun q hq => ?_, fun q hq => ?_, fun q r hq hr => ?_⟩, Or.inl (by rw [u 57 (by decide) (by decide)]; exact v57)⟩ (vS.trans uS)
      · rw [y48, u2 62 (by decide) (by decide) (by decide) (by decide) (by decide) (by decide)]; exact ⟨n0, n1, n2⟩
      · rw [hn2] at hj
        rw [u2 78 (by decide) (by decide) (by decide) (by decide) (by decide) (by decide), y49, u80, y51]
        obtain ⟨e1, e2, e3, e4, e5⟩ := hl j hj
        refine ⟨e1, e2, e3, ?_⟩
        by_cases c : j = i
        · subst c; rw [upr_at, upr_at]; exact ⟨rfl, Or.inr rfl⟩
        · rw [upr_ne _ _ c, upr_ne _ _ c]; exact ⟨e4, e5⟩
      · rw [u2 79 (by decide) (by decide) (by decide) (by decide) (by decide) (by decide), u2 50 (by decide) (by decide) (by decide) (by decide) (by decide) (by decide)]
        have := ht j hj
        omega
      · unfold cwM
        rw [y51, y49, y52, hn2]
        have hc : cwF (upr (M 51) i 1) (M 49) (nL M) g' = cwF (M 51) (M 49) (nL M) g' + (if g' = g then 1 else 0) := by
          unfold cwF
          rw [sm_upd (f := fun j => if M 51 j = 1 ∧ M 49 j = (g' : Int) then (1 : Int) else 0) (i := i) hin (fun k _ hk => by rw [upr_ne _ _ hk])]
          rw [upr_at, w0, hg]
          by_cases c : g' = g
          · subst c; simp
          · have c' : ¬ (g : Int) = (g' : Int) := by omega
            simp [c, c']
        rw [hc]
        have o := hw g' hg'
        have o1 : M 52 g' = cwF (M 51) (M 49) (nL M) g' := o.1
        by_cases c : g' = g
        · subst c; rw [upr_at, if_pos rfl]; omega
        · rw [upr_ne _ _ c, if_neg c]; omega
      · intro s hs
        rw [u2 75 (by decide) (by decide) (by decide) (by decide) (by decide) (by decide), u2 54 (by decide) (by decide) (by decide) (by decide) (by decide) (by decide)]
        exact hF s hs
      · rw [u2 76 (by decide) (by decide) (by decide) (by decide) (by decide) (by decide), y55, y48, u77, y56]
        obtain ⟨e1, e2, e3, e4, e5⟩ := hC q hq
        refine ⟨e1, e2, e3, ?_⟩
        by_cases c : q = p
        · subst c; rw [upr_at, upr_at]; exact ⟨rfl, Or.inr rfl⟩
        · rw [upr_ne _ _ c, upr_ne _ _ c]; exact ⟨e4, e5⟩
      · rw [u2 54 (by decide) (by decide) (by decide) (by decide) (by decide) (by decide), y55, y56]
        intro hb
        obtain ⟨e1, e2⟩ := hI.1 q hq hb
        refine ⟨e1, ?_⟩
        by_cases c : q = p
        · subst c; exact absurd e1 c5
        · rw [upr_ne _ _ c]; exact e2
      · rw [y55, y56, y51]
        intro e1 e2
        by_cases c : q = p
        · subst c; rw [upr_at]
        · rw [upr_ne _ _ c]
          by_cases c8 : (M 55 q).toNat = i
          · have eq : M 55 q = M 55 p := by have := (hC q hq).2.1; omega
            rcases (hC q hq).2.2.2.2 with z | z
            · exact absurd (hI.2.2 q p hq hp120 e1 eq z h56) c
            · exact z
          · rw [upr_ne _ _ c8] at e2
            exact hI.2.1 q hq e1 e2
      · rw [y55, y56]
        intro e1 e2 e3 e4
        have c8 : q ≠ p := fun e => by subst e; rw [upr_at] at e3; omega
        have c9 : r ≠ p := fun e => by subst e; rw [upr_at] at e4; omega
        rw [upr_ne _ _ c8] at e3
        rw [upr_ne _ _ c9] at e4
        exact hI.2.2 q r hq hr e1 e2 e3 e4
    · unfold wp_X8_spoil
      refine s8_printed h1 h2 (fun _ _ _ _ => ?_) (fun q => absurd ⟨⟨c1, c2⟩, c3, c4⟩ q)
      rw [hp8, Int.toNat_natCast, k1, hi]
      refine ⟨⟨by omega, by omega⟩, fun q => absurd q (by omega), fun _ => ⟨⟨by omega, by omega⟩, ?_⟩⟩
      rw [k4]
      refine ⟨rg56, fun q => absurd h56 q, fun _ => ⟨⟨by omega, by omega⟩, ?_⟩⟩
      rw [Int.toNat_natCast, g1]
      refine s8_waiting hLb0 (by omega) (by omega) ?_
      rw [hg, Int.toNat_natCast]
      exact ⟨⟨by omega, by omega⟩, fun q => absurd (by omega) q, fun _ => go⟩
  · unfold wp_X5_isGood
    refine s_labelIn (by decide) (fun q1 q2 => absurd q1 (by decide)) (fun _ => ?_)
    refine ⟨by decide, fun _ => ⟨by decide, fun q => absurd rfl q, fun _ => hG _ ?_⟩, fun q => absurd rfl q⟩
    unfold wp_X8_spoil
    exact s8_printed h1 h2 (fun q1 q2 q3 q4 => absurd ⟨⟨q1, q2⟩, q3, q4⟩ c) (fun _ => ⟨by decide, fun _ => go, fun q => absurd rfl q⟩)
