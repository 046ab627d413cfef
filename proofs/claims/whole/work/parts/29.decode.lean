/-! pure: reading bars in one direction: the class -/
theorem s_decode_34 {o P : Nat} {M0 : Mem} {Q : Int → Mem → Prop} (ho : isRd o) (hb : M0 o 0 = 0 ∨ M0 o 0 = 1) (hr34 : rok M0 34) (hL : M0 34 1 = ((7 + 10 * P : Nat) : Int)) (hP : 1 ≤ P) (hP6 : P ≤ 6) (hv : ∀ i : Nat, (i : Int) < M0 34 1 → wv M0 o i = 0 ∨ wv M0 o i = 1)
    (hBad : ∀ f n, 0 ≤ n → n ≤ 12 → fbad (wv M0 o) P 0 < P → Q 0 (up (up (setRow M0 (2 * o - 44) n f) o 2 3) o 3 (2 * (fbad (wv M0 o) P 0 : Int))))
    (hChk : ∀ f, fbad (wv M0 o) P 0 = P → dgt (wv M0 o) (2 * P - 1) ≠ chk (dgt (wv M0 o)) (2 * P - 1) → Q 0 (up (up (setRow M0 (2 * o - 44) ((2 * P : Nat) : Int) f) o 2 4) o 3 0))
    (hOk : ∀ f, fbad (wv M0 o) P 0 = P → dgt (wv M0 o) (2 * P - 1) = chk (dgt (wv M0 o)) (2 * P - 1) → (∀ j, j < 2 * P → f j = dgt (wv M0 o) j) → Q 1 (setRow M0 (2 * o - 44) ((2 * P : Nat) : Int) f)) :
    ∀ (k p : Nat) (f : Nat → Int), p + k = P → fbad (wv M0 o) P 0 = fbad (wv M0 o) k p → (∀ j, j < 2 * p → f j = dgt (wv M0 o) j ∧ dgt (wv M0 o) j ≤ 9) → wp_X3_decode_34 o Q (k + 1) (((7 + 10 * P : Nat) : Int) - 3 - 10) ((4 + 10 * p : Nat) : Int) (setRow M0 (2 * o - 44) ((2 * p : Nat) : Int) f) := by
  have hcap : (capR (2 * o - 44) : Int) = 12 := by rcases ho with rfl | rfl <;> rfl
  have no : o ≠ 2 * o - 44 ∧ o ≠ 2 * o - 44 + 1 ∧ (34 ≠ 2 * o - 44 ∧ 34 ≠ 2 * o - 44 + 1) ∧ (35 ≠ 2 * o - 44 ∧ 35 ≠ 2 * o - 44 + 1) := by rcases ho with rfl | rfl <;> decide
  have eo : ∀ (n : Int) (f : Nat → Int), setRow M0 (2 * o - 44) n f o = M0 o := fun n f => setRow_ne _ _ _ no.1 no.2.1
  have e34 : ∀ (n : Int) (f : Nat → Int), setRow M0 (2 * o - 44) n f 34 = M0 34 := fun n f => setRow_ne _ _ _ no.2.2.1.1 no.2.2.1.2
  have e35 : ∀ (n : Int) (f : Nat → Int), setRow M0 (2 * o - 44) n f 35 = M0 35 := fun n f => setRow_ne _ _ _ no.2.2.2.1 no.2.2.2.2
  have ewv : ∀ (n : Int) (f : Nat → Int), wv (setRow M0 (2 * o - 44) n f) o = wv M0 o := fun n f => by funext i; unfold wv; rw [eo, e34, e35]
  have er34 : ∀ (n : Int) (f : Nat → Int), rok (setRow M0 (2 * o - 44) n f) 34 := fun n f => by unfold rok; rw [e34]; exact hr34
  have add : ∀ (a m : Nat) (f : Nat → Int) (Q2 : Int → Mem → Prop), m < 12 → a + 8 < 7 + 10 * P → (∀ d, d < 10 → fnd (cod (wv M0 o) a 5) 10 0 = d → Q2 1 (setRow M0 (2 * o - 44) ((m + 1 : Nat) : Int) (upr f m (d : Int)))) → (fnd (cod (wv M0 o) a 5) 10 0 = 10 → Q2 0 (setRow M0 (2 * o - 44) (m : Int) f)) → ∀ x : Int, x = (a : Int) → wp_X3_addDigit o x (setRow M0 (2 * o - 44) (m : Int) f) Q2 := by
    intro a m f Q2 hm ha g1 g0 x hx
    refine s_addDigit hx (by rw [eo]; exact hb) (er34 _ _) (by rw [e34, hL]; omega) (by rw [ewv, e34]; exact hv) (by unfold rok; rw [setRow_n, hcap]; omega) (by rw [setRow_n, hcap]; omega) (fun d hd he => ?_) (fun he => ?_)
    · rw [ewv] at he
      rw [setRow_n, setRow_a, setRow_set, Int.toNat_natCast]
      exact g1 d hd he
    · rw [ewv] at he
      exact g0 he
  intro k
  induction k with
  | zero =>
    intro p f hp he hf
    rw [wp_X3_decode_34]
    have hpP : p = P := by omega
    subst hpP
    have hfb : fbad (wv M0 o) p 0 = p := by rw [he]; rfl
    refine ⟨⟨by omega, by omega⟩, ⟨by omega, by omega⟩, fun _ => ?_, fun c => absurd (by omega) c⟩
    unfold wp_X4_size
    rw [setRow_n]
    refine s_at_in (by unfold rok; rw [setRow_n, hcap]; omega) (by omega) (by rw [setRow_n]; omega) ?_
    rw [setRow_a, show (((2 * p : Nat) : Int) - 1).toNat = 2 * p - 1 by omega, (hf _ (by omega)).1]
    refine s_checkOf (n := 2 * p - 1) (by omega) (by unfold rok; rw [setRow_n, hcap]; omega) (by rw [setRow_n]; omega) (by omega) (fun j hj => by rw [setRow_a, (hf j (by omega)).1]; exact ⟨(dgt_rng _ _).1, (hf j (by omega)).2⟩) ?_
    rw [setRow_a, chk_cong (g := dgt (wv M0 o)) (fun j hj => (hf j (by omega)).1)]
    have r1 := dgt_rng (wv M0 o) (2 * p - 1)
    have r2 := chk_rng (dgt (wv M0 o)) (2 * p - 1)
    refine ⟨⟨by omega, by omega⟩, ⟨by omega, by omega⟩, fun c => hOk f hfb c (fun j hj => (hf j hj).1), fun c => ?_⟩
    unfold wp_X3_refuse
    exact ⟨Or.inl rfl, hChk f hfb c⟩
  | succ k ih =>
    intro p f hp he hf
    rw [wp_X3_decode_34]
    refine ⟨⟨by omega, by omega⟩, ⟨by omega, by omega⟩, fun c => absurd c (by omega), fun _ => ?_⟩
    unfold wp_X4_size
    rw [setRow_n]
    rw [show fbad (wv M0 o) (k + 1) p = if dgt (wv M0 o) (2 * p) = 10 ∨ dgt (wv M0 o) (2 * p + 1) = 10 then p else fbad (wv M0 o) k (p + 1) from rfl] at he
    have g0 : dgt (wv M0 o) (2 * p) = ((fnd (cod (wv M0 o) (4 + 10 * p) 5) 10 0 : Nat) : Int) := by unfold dgt; rw [show 4 + 10 * (2 * p / 2) + 2 * p % 2 = 4 + 10 * p by omega]
    have g1 : dgt (wv M0 o) (2 * p + 1) = ((fnd (cod (wv M0 o) (4 + 10 * p + 1) 5) 10 0 : Nat) : Int) := by unfold dgt; rw [show 4 + 10 * ((2 * p + 1) / 2) + (2 * p + 1) % 2 = 4 + 10 * p + 1 by omega]
    have bad : ∀ (n : Int) (f2 : Nat → Int), 0 ≤ n → n ≤ 12 → (dgt (wv M0 o) (2 * p) = 10 ∨ dgt (wv M0 o) (2 * p + 1) = 10) → wp_X3_refuse o 3 ((2 * p : Nat) : Int) (setRow M0 (2 * o - 44) n f2) (fun r M => (r = 0 ∨ r = 1) ∧ Q r M) := by
      intro n f2 h0 h12 hc
      rw [if_pos hc] at he
      unfold wp_X3_refuse
      have := hBad f2 n h0 h12 (by omega)
      rw [he, show 2 * (p : Int) = ((2 * p : Nat) : Int) by omega] at this
      exact ⟨Or.inl rfl, this⟩
    refine add (4 + 10 * p) (2 * p) f _ (by omega) (by omega) (fun d hd hfd => ?_) (fun hfd => ?_) _ (by omega)
    · refine ⟨by decide, fun c => absurd c (by decide), fun _ => ?_⟩
      refine add (4 + 10 * p + 1) (2 * p + 1) _ _ (by omega) (by omega) (fun d2 hd2 hfd2 => ?_) (fun hfd2 => ?_) _ (by omega)
      · refine ⟨by decide, fun _ => ?_, fun c => absurd (by decide) c⟩
        rw [if_neg (by omega)] at he
        have := ih (p + 1) (upr (upr f (2 * p) (d : Int)) (2 * p + 1) (d2 : Int)) (by omega) he (fun j hj => ?_)
        · rw [show ((4 + 10 * (p + 1) : Nat) : Int) = ((4 + 10 * p : Nat) : Int) + 10 by omega] at this
          exact this
        · by_cases q1 : j < 2 * p
          · rw [upr_ne _ _ (by omega), upr_ne _ _ (by omega)]; exact hf j q1
          · by_cases q2 : j = 2 * p
            · subst q2; rw [upr_ne _ _ (by omega), upr_at, g0, hfd]; exact ⟨rfl, by omega⟩
            · rw [show j = 2 * p + 1 by omega, upr_at, g1, hfd2]; exact ⟨rfl, by omega⟩
      · exact ⟨by decide, fun c => absurd rfl c, fun _ => bad _ _ (by omega) (by omega) (Or.inr (by rw [g1, hfd2]; rfl))⟩
    · exact ⟨by decide, fun _ => bad _ _ (by omega) (by omega) (Or.inl (by rw [g0, hfd]; rfl)), fun c => absurd rfl c⟩
/-- decode(): the digits' row, or a fault and its place -/
theorem s_decode {o P : Nat} {M : Mem} {Q : Int → Mem → Prop} (ho : isRd o) (hb : M o 0 = 0 ∨ M o 0 = 1) (hr34 : rok M 34) (hL : M 34 1 = ((7 + 10 * P : Nat) : Int)) (hP : 1 ≤ P) (hP6 : P ≤ 6) (hv : ∀ i : Nat, (i : Int) < M 34 1 → wv M o i = 0 ∨ wv M o i = 1)
    (hEnd : ∀ f, ¬ endsC (wv M o) (7 + 10 * P) → Q 0 (up (up (setRow M (2 * o - 44) 0 f) o 2 2) o 3 0))
    (hBad : ∀ f n, endsC (wv M o) (7 + 10 * P) → 0 ≤ n → n ≤ 12 → fbad (wv M o) P 0 < P → Q 0 (up (up (setRow M (2 * o - 44) n f) o 2 3) o 3 (2 * (fbad (wv M o) P 0 : Int))))
    (hChk : ∀ f, endsC (wv M o) (7 + 10 * P) → fbad (wv M o) P 0 = P → dgt (wv M o) (2 * P - 1) ≠ chk (dgt (wv M o)) (2 * P - 1) → Q 0 (up (up (setRow M (2 * o - 44) ((2 * P : Nat) : Int) f) o 2 4) o 3 0))
    (hOk : ∀ f, endsC (wv M o) (7 + 10 * P) → fbad (wv M o) P 0 = P → dgt (wv M o) (2 * P - 1) = chk (dgt (wv M o)) (2 * P - 1) → (∀ j, j < 2 * P → f j = dgt (wv M o) j) → Q 1 (setRow M (2 * o - 44) ((2 * P : Nat) : Int) f)) : wp_X3_decode o M Q := by
  have no : o ≠ 2 * o - 44 ∧ o ≠ 2 * o - 44 + 1 ∧ (34 ≠ 2 * o - 44 ∧ 34 ≠ 2 * o - 44 + 1) ∧ (35 ≠ 2 * o - 44 ∧ 35 ≠ 2 * o - 44 + 1) := by rcases ho with rfl | rfl <;> decide
  unfold wp_X3_decode
  refine s_clear ?_
  generalize hf0 : M (2 * o - 44 + 1) = f0
  have eo : setRow M (2 * o - 44) 0 f0 o = M o := setRow_ne _ _ _ no.1 no.2.1
  have e34 : setRow M (2 * o - 44) 0 f0 34 = M 34 := setRow_ne _ _ _ no.2.2.1.1 no.2.2.1.2
  have e35 : setRow M (2 * o - 44) 0 f0 35 = M 35 := setRow_ne _ _ _ no.2.2.2.1 no.2.2.2.2
  have ewv : wv (setRow M (2 * o - 44) 0 f0) o = wv M o := by funext i; unfold wv; rw [eo, e34, e35]
  refine s_ends (L := 7 + 10 * P) (by rw [eo]; exact hb) (by unfold rok; rw [e34]; exact hr34) (by rw [e34]; exact hL) (by omega) (by rw [ewv, e34]; exact hv) (fun he => ?_) (fun he => ?_)
  · rw [ewv] at he
    refine ⟨by decide, fun _ => ?_, fun c => absurd (by decide) c⟩
    unfold wp_X4_size
    rw [e34, hL]
    exact ⟨P + 1, s_decode_34 ho hb hr34 hL hP hP6 hv (fun f n => hBad f n he) (fun f => hChk f he) (fun f => hOk f he) P 0 f0 (by omega) rfl (fun j hj => absurd hj (by omega))⟩
  · rw [ewv] at he
    refine ⟨by decide, fun c => absurd rfl c, fun _ => ?_⟩
    unfold wp_X3_refuse
    exact ⟨Or.inl rfl, hEnd f0 he⟩
