/-! promise 16 -/
theorem cw_all {w gr : Nat → Int} : ∀ {n : Nat}, (∀ i, i < n → 0 ≤ gr i ∧ gr i < 6) → sm (cwF w gr n) 6 = sm (fun i => if w i = 1 then 1 else 0) n
  | 0, _ => rfl
  | n + 1, h => by
    have i := cw_all (w := w) (n := n) (fun i hi => h i (by omega))
    have g := h n (by omega)
    have e : ∀ k, cwF w gr (n + 1) k = cwF w gr n k + if w n = 1 ∧ gr n = (k : Int) then 1 else 0 := fun k => rfl
    simp only [sm] at i ⊢
    rw [e 0, e 1, e 2, e 3, e 4, e 5, ← i]
    by_cases c : w n = 1
    · have : gr n = 0 ∨ gr n = 1 ∨ gr n = 2 ∨ gr n = 3 ∨ gr n = 4 ∨ gr n = 5 := by omega
      rcases this with q | q | q | q | q | q <;> simp [c, q] <;> omega
    · simp [c]
theorem s8_look43 {a1 : Int} {M : Mem} {Q : Int → Mem → Prop} {n : Nat} {w : Nat → Int} (hn : M 62 31 = (n : Int)) (h200 : n ≤ 200) (hw : ∀ i, i < n → M 80 i = w i ∧ (w i = 0 ∨ w i = 1)) (h : Q (sm (fun i => if w i = 1 then 1 else 0) n) M) : ∀ (k i : Nat), i + k = n → wp_X8_look_43 a1 Q (k + 1) (sm (fun i => if w i = 1 then 1 else 0) i) (i : Int) M := by
  intro k
  induction k with
  | zero =>
    intro i hi
    rw [wp_X8_look_43, hn]
    have e : i = n := by omega
    subst e
    exact ⟨⟨by omega, by omega⟩, ⟨by omega, by omega⟩, fun _ => h, fun q => absurd (by omega) q⟩
  | succ k ih =>
    intro i hi
    rw [wp_X8_look_43, hn, Int.toNat_natCast]
    obtain ⟨w1, w2⟩ := hw i (by omega)
    have st := ih (i + 1) (by omega)
    rw [show sm (fun i => if w i = 1 then (1 : Int) else 0) (i + 1) = sm (fun i => if w i = 1 then (1 : Int) else 0) i + if w i = 1 then 1 else 0 from rfl] at st
    rw [w1]
    refine ⟨⟨by omega, by omega⟩, ⟨by omega, by omega⟩, fun q => absurd q (by omega), fun _ => ⟨⟨by omega, by omega⟩, ⟨by omega, by omega⟩, fun q => ?_, fun q => ?_⟩⟩
    · rw [if_neg (by omega)] at st; exact st
    · rw [if_pos (by omega)] at st; exact st
theorem s8_look78 {a1 : Int} {M : Mem} {Q : Int → Mem → Prop} {fre : Nat → Int} (hF : ∀ i, i < 3 → M 75 i = fre i ∧ 0 ≤ fre i ∧ fre i < 2 ^ 40) (h : Q (sm (rmF fre) 3) M) : ∀ (k i : Nat), i + k = 3 → wp_X8_look_78 a1 Q (k + 1) (sm (rmF fre) i) (i : Int) M := by
  intro k
  induction k with
  | zero =>
    intro i hi
    rw [wp_X8_look_78]
    have e : i = 3 := by omega
    subst e
    exact ⟨by decide, fun _ => h, fun q => absurd (by decide) q⟩
  | succ k ih =>
    intro i hi
    rw [wp_X8_look_78]
    obtain ⟨f1, f2, f3⟩ := hF i (by omega)
    refine ⟨⟨by omega, by omega⟩, fun q => absurd q (by omega), fun _ => ?_⟩
    refine s8_freeOn (s := i) rfl (by omega) (by rw [f1]; exact f2) (by rw [f1]; exact f3) ?_
    have e : rmF (M 75) i = rmF fre i := by unfold rmF; rw [f1]
    rw [e]
    exact ih (i + 1) (by omega)
theorem s_allFree {M : Mem} {Q : Int → Mem → Prop} (hF : ∀ i, i < 3 → 0 ≤ M 54 i ∧ M 54 i < 2 ^ 40) (h : Q (sm (rmF (M 54)) 3) M) : wp_X5_allFree M Q := by
  have go : ∀ (k i : Nat), i + k = 3 → wp_X5_allFree_4 Q (k + 1) (sm (rmF (M 54)) i) (i : Int) M := by
    intro k
    induction k with
    | zero =>
      intro i hi
      rw [wp_X5_allFree_4]
      have e : i = 3 := by omega
      subst e
      exact ⟨by decide, fun _ => h, fun q => absurd (by decide) q⟩
    | succ k ih =>
      intro i hi
      rw [wp_X5_allFree_4]
      refine ⟨⟨by omega, by omega⟩, fun q => absurd q (by omega), fun _ => ?_⟩
      exact s_freeIn rfl (by omega) (hF i (by omega)).1 (hF i (by omega)).2 (ih (i + 1) (by omega))
  unfold wp_X5_allFree
  exact ⟨4, go 3 0 rfl⟩
theorem s_pieces_loop {M : Mem} {Q : Int → Mem → Prop} {x : Int} {c : Nat → Int} (hc : ∀ g, g < 6 → M 58 g = c g ∧ 0 ≤ c g ∧ c g ≤ 40) (h : Q (x + gN c) M) : ∀ (k i : Nat), i + k = 6 → wp_X0_pieces_18 Q (k + 1) (x + sm (fun g => if 0 < c g then 1 else 0) i) (i : Int) M := by
  intro k
  induction k with
  | zero =>
    intro i hi
    rw [wp_X0_pieces_18]
    have e : i = 6 := by omega
    subst e
    exact ⟨by decide, fun _ => h, fun q => absurd (by decide) q⟩
  | succ k ih =>
    intro i hi
    rw [wp_X0_pieces_18]
    obtain ⟨c1, c2, c3⟩ := hc i (by omega)
    have st := ih (i + 1) (by omega)
    rw [show sm (fun g => if 0 < c g then (1 : Int) else 0) (i + 1) = sm (fun g => if 0 < c g then (1 : Int) else 0) i + if 0 < c i then 1 else 0 from rfl] at st
    refine ⟨⟨by omega, by omega⟩, fun q => absurd q (by omega), fun _ => ⟨⟨by omega, by omega⟩, ?_⟩⟩
    rw [Int.toNat_natCast, c1]
    refine ⟨⟨by omega, by omega⟩, fun q => ?_, fun q => ?_⟩
    · rw [if_neg (by omega), Int.add_zero] at st; exact st
    · rw [if_pos (by omega), ← Int.add_assoc] at st; exact st
theorem op_look {B a1 : Int} {M : Mem} {G : Prop → Prop} {P : Int → Int → Mem → Prop} (hG : ∀ p, p → G p) (hR : RelB B M) (h1 : Rg a1) (h : ∀ r M', Rg r → RelB (B + 1) M' → SameA M M' → P r r M') : wp_X7_look a1 M (fun r1 M1 => G (wp_X8_look a1 M1 (fun r2 M2 => P r1 r2 M2))) := by
  have go0 : ∀ r1 r2 : Int, r2 = r1 → Rg r1 → P r1 r2 M := fun r1 r2 e g => by rw [e]; exact h r1 M g (RelB_mono (by omega) hR) (SameA.refl M)
  have hR0 := hR
  obtain ⟨⟨⟨n0, n1, n2⟩, hl, ht, hw⟩, hF, hC, hI, hK⟩ := hR
  have hn : M 62 31 = (nL M : Int) := by unfold nL; omega
  have hn200 : nL M ≤ 200 := by unfold nL; omega
  have c40 : ∀ M1, RelB B M1 → ∀ g, g < 6 → M1 52 g = cwM M1 g ∧ 0 ≤ cwM M1 g ∧ cwM M1 g ≤ 40 := fun M1 hR1 g hg => by
    have w := hR1.1.2.2.2 g hg
    have wr := (cwF_rng (M1 51) (M1 49) (nL M1) g).1
    exact ⟨w.1, by unfold cwM; omega, by rw [← w.1]; exact w.2⟩
  have rk : ∀ s : Nat → Nat, dig4 s → rkS s / 4 = shN s - hpN s ∧ rkS s % 4 = shN s ∧ hpN s ≤ shN s ∧ shN s ≤ 3 := fun s hs => by
    have := hp_sh hs
    unfold rkS
    omega
  unfold wp_X7_look
  refine ⟨h1, fun c => ?_, fun c => ?_, fun c => ?_, fun c => ?_, fun c => ?_, fun c => hG _ ?_⟩
  · unfold wp_X1_count
    apply hG
    unfold wp_X8_look
    refine ⟨h1, fun _ => go0 _ _ n2 ⟨by omega, by omega⟩, fun q => absurd q (by omega), fun q => absurd q (by omega), fun q => absurd q (by omega), fun q => absurd q (by omega), fun q => absurd q (by omega)⟩
  · refine s_allWaiting (hG _ ?_)
    unfold wp_X8_look
    refine ⟨h1, fun q => absurd q (by omega), fun _ => ⟨nL M + 1, ?_⟩, fun q => absurd q (by omega), fun q => absurd q (by omega), fun q => absurd q (by omega), fun q => absurd q (by omega)⟩
    refine s8_look43 (w := M 51) hn hn200 (fun i hi => ⟨(hl i hi).2.2.2.1, (hl i hi).2.2.2.2⟩) ?_ (nL M) 0 (by omega)
    have e : sm (M 52) 6 = sm (fun i => if M 51 i = 1 then 1 else 0) (nL M) := by
      rw [sm_cong (g' := cwM M) (fun g hg => (hw g hg).1)]
      exact cw_all (fun i hi => ⟨(hl i hi).2.1, (hl i hi).2.2.1⟩)
    have b := sm_bound (g := fun i => if M 51 i = 1 then (1 : Int) else 0) (c := 1) (n := nL M) (fun k _ => by split <;> decide)
    exact go0 _ _ e.symm (by rw [e]; exact ⟨by omega, by omega⟩)
  · refine s_allFree (fun i hi => (hF i hi).2) (hG _ ?_)
    unfold wp_X8_look
    refine ⟨h1, fun q => absurd q (by omega), fun q => absurd q (by omega), fun _ => ⟨4, ?_⟩, fun q => absurd q (by omega), fun q => absurd q (by omega), fun q => absurd q (by omega)⟩
    refine s8_look78 (fre := M 54) hF ?_ 3 0 rfl
    have b := sm_bound (g := rmF (M 54)) (c := 40) (n := 3) (fun k _ => pcN_rng _ 40)
    exact go0 _ _ rfl ⟨by omega, by omega⟩
  · refine s_refresh hR0 (fun M1 sA1 hR1 hc => ?_)
    have go : ∀ r1 r2 M2, r2 = r1 → Rg r1 → frL M1 M2 → P r1 r2 M2 := fun r1 r2 M2 e g hf => by
      obtain ⟨x, y⟩ := frL_B hf hR1
      rw [e]
      exact h r1 M2 g x (sA1.trans y)
    have ref : ∀ r1 : Int, ((∀ d s, ¬ feas (cwM M1) (rmF (M1 54)) d s) → r1 = -1) → (∀ d s, best (cwM M1) (rmF (M1 54)) d s → r1 = gN (cwM M1) + (shN s : Int) - (hpN s : Int)) → wp_X8_look a1 M1 (fun r2 M2 => P r1 r2 M2) := by
      intro r1 qn qb
      unfold wp_X8_look
      refine ⟨h1, fun q => absurd q (by omega), fun q => absurd q (by omega), fun q => absurd q (by omega), fun _ => ?_, fun q => absurd q (by omega), fun q => absurd q (by omega)⟩
      refine s8_lays hR1.1 hR1.2.1 (fun M2 f2 hno => ⟨by decide, fun _ => by rw [qn hno]; exact go _ _ M2 rfl (by decide) f2, fun q => absurd rfl q⟩) (fun M2 d s f2 hb e41 e42 e83 e84 => ⟨by decide, fun q => absurd q (by decide), fun _ => ?_⟩)
      have b := gN_rng (cwM M1)
      have k := rk s hb.1.2.1
      rw [e41, qb d s hb]
      exact go _ _ M2 rfl ⟨by omega, by omega⟩ f2
    unfold wp_X0_pieces
    refine s_exists hc (fun e7 hno => ⟨by decide, fun q => absurd rfl q, fun _ => hG _ (ref _ (fun _ => rfl) (fun d s hb => absurd hb.1 (hno d s)))⟩) (fun d s hb e7 rk15 e8 e9 hpl => ⟨by decide, fun _ => ⟨⟨by rw [e7]; exact ⟨by omega, by omega⟩, by omega⟩, 7, ?_⟩, fun q => absurd (by decide) q⟩)
    have h58 : ∀ g, g < 6 → M1 58 g = cwM M1 g := by
      rcases hc with ⟨_, hno⟩ | ⟨_, _, _, q58, _⟩
      · exact absurd hb.1 (hno d s)
      · exact q58
    have st := s_pieces_loop (M := M1) (Q := fun r19 M18 => G (wp_X8_look a1 M18 (fun r2 M2 => P r19 r2 M2))) (x := M1 57 7 / 4) (fun g hg => ⟨h58 g hg, (c40 M1 hR1 g hg).2⟩) (hG _ (ref _ (fun hno => absurd hb.1 (hno d s)) (fun d' s' hb' => ?_))) 6 0 rfl
    · rw [show sm (fun g => if 0 < cwM M1 g then (1 : Int) else 0) 0 = 0 from rfl, Int.add_zero] at st
      exact st
    · have k := rk s hb.1.2.1
      obtain ⟨r1, r2, r3⟩ := rkS_cong (best_uniq hb hb').2
      rw [e7, ← r2, ← r3]
      omega
  · refine s_refresh hR0 (fun M1 sA1 hR1 hc => ?_)
    have go : ∀ r1 r2 M2, r2 = r1 → Rg r1 → frL M1 M2 → P r1 r2 M2 := fun r1 r2 M2 e g hf => by
      obtain ⟨x, y⟩ := frL_B hf hR1
      rw [e]
      exact h r1 M2 g x (sA1.trans y)
    have ref : ∀ r1 : Int, ((∀ d s, ¬ feas (cwM M1) (rmF (M1 54)) d s) → r1 = -1) → (∀ d s, best (cwM M1) (rmF (M1 54)) d s → r1 = (shN s : Int)) → wp_X8_look a1 M1 (fun r2 M2 => P r1 r2 M2) := by
      intro r1 qn qb
      unfold wp_X8_look
      refine ⟨h1, fun q => absurd q (by omega), fun q => absurd q (by omega), fun q => absurd q (by omega), fun q => absurd q (by omega), fun _ => ?_, fun q => absurd q (by omega)⟩
      refine s8_lays hR1.1 hR1.2.1 (fun M2 f2 hno => ⟨by decide, fun _ => by rw [qn hno]; exact go _ _ M2 rfl (by decide) f2, fun q => absurd rfl q⟩) (fun M2 d s f2 hb e41 e42 e83 e84 => ⟨by decide, fun q => absurd q (by decide), fun _ => ?_⟩)
      have k := rk s hb.1.2.1
      rw [e42, qb d s hb]
      exact go _ _ M2 rfl ⟨by omega, by omega⟩ f2
    unfold wp_X0_sheetsInHeaps
    refine s_exists hc (fun e7 hno => ⟨by decide, fun _ => hG _ (ref _ (fun _ => rfl) (fun d s hb => absurd hb.1 (hno d s))), fun q => absurd rfl q⟩) (fun d s hb e7 rk15 e8 e9 hpl => ⟨by decide, fun q => absurd q (by decide), fun _ => ⟨⟨by rw [e7]; exact ⟨by omega, by omega⟩, by omega⟩, hG _ (ref _ (fun hno => absurd hb.1 (hno d s)) (fun d' s' hb' => ?_))⟩⟩)
    have k := rk s hb.1.2.1
    obtain ⟨r1, r2, r3⟩ := rkS_cong (best_uniq hb hb').2
    rw [e7, ← r2]
    omega
  · unfold wp_X8_look
    exact ⟨h1, fun q => absurd q (by omega), fun q => absurd q (by omega), fun q => absurd q (by omega), fun q => absurd q (by omega), fun q => absurd q (by omega), fun _ => go0 _ _ rfl (by decide)⟩
