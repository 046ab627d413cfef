/-! pure: reading bars: the ends -/
def endsC (v : Nat → Int) (L : Nat) : Prop := (∀ i, i < 4 → v i = 0) ∧ v (L - 3) = 1 ∧ v (L - 2) = 0 ∧ v (L - 1) = 0
theorem s_ends_loop {o L : Nat} {M : Mem} {Q : Int → Mem → Prop} (hb : M o 0 = 0 ∨ M o 0 = 1) (hr34 : rok M 34) (hL : M 34 1 = (L : Int)) (hL7 : 7 ≤ L) (hv : ∀ i : Nat, (i : Int) < M 34 1 → wv M o i = 0 ∨ wv M o i = 1) (h1 : endsC (wv M o) L → Q 1 M) (h0 : ¬ endsC (wv M o) L → Q 0 M) :
    ∀ (k i : Nat), i + k = 4 → (∀ j, j < i → wv M o j = 0) → wp_X3_endsStand_2 o Q (k + 1) (i : Int) M := by
  have hvr : ∀ i : Nat, (i : Int) < M 34 1 → Rg (wv M o i) := fun i hi => by rcases hv i hi with e | e <;> rw [e] <;> decide
  intro k
  induction k with
  | zero =>
    intro i hi hp
    rw [wp_X3_endsStand_2]
    refine ⟨⟨by omega, by omega⟩, fun _ => ?_, fun c => absurd (by omega) c⟩
    unfold wp_X4_size
    rw [hL]
    refine s_stripe hb hr34 (by omega) (by omega) ?_
    rw [show ((L : Int) - 3).toNat = L - 3 by omega]
    refine ⟨hvr _ (by omega), fun c => h0 (fun q => c q.2.1), fun c1 => ?_⟩
    refine s_stripe hb hr34 (by omega) (by omega) ?_
    rw [show ((L : Int) - 3 + 1).toNat = L - 2 by omega]
    refine ⟨hvr _ (by omega), fun c => h0 (fun q => c q.2.2.1), fun c2 => ?_⟩
    refine s_stripe hb hr34 (by omega) (by omega) ?_
    rw [show ((L : Int) - 3 + 2).toNat = L - 1 by omega]
    exact ⟨hvr _ (by omega), fun c => h0 (fun q => c q.2.2.2), fun c3 => h1 ⟨fun j hj => hp j (by omega), by omega, by omega, by omega⟩⟩
  | succ k ih =>
    intro i hi hp
    rw [wp_X3_endsStand_2]
    refine ⟨⟨by omega, by omega⟩, fun c => absurd c (by omega), fun _ => ?_⟩
    refine s_stripe hb hr34 (by omega) (by omega) ?_
    rw [Int.toNat_natCast]
    refine ⟨hvr _ (by omega), fun c => ih (i + 1) (by omega) (fun j hj => ?_), fun c => h0 (fun q => c (q.1 i (by omega)))⟩
    rcases Nat.lt_or_ge j i with q | q
    · exact hp j q
    · rw [show j = i by omega]; exact c
theorem s_ends {o L : Nat} {M : Mem} {Q : Int → Mem → Prop} (hb : M o 0 = 0 ∨ M o 0 = 1) (hr34 : rok M 34) (hL : M 34 1 = (L : Int)) (hL7 : 7 ≤ L) (hv : ∀ i : Nat, (i : Int) < M 34 1 → wv M o i = 0 ∨ wv M o i = 1) (h1 : endsC (wv M o) L → Q 1 M) (h0 : ¬ endsC (wv M o) L → Q 0 M) : wp_X3_endsStand o M Q := by
  unfold wp_X3_endsStand
  exact ⟨5, s_ends_loop hb hr34 hL hL7 hv h1 h0 4 0 rfl (fun j hj => absurd hj (by omega))⟩
/-- digit k of the pairs; 10 if the five stripes are none -/
def dgt (v : Nat → Int) (k : Nat) : Int := ((fnd (cod v (4 + 10 * (k / 2) + k % 2) 5) 10 0 : Nat) : Int)
theorem fnd_le (c : Int) : ∀ k d, d + k = 10 → fnd c k d ≤ 10
  | 0, d, h => by simp only [fnd]; omega
  | k + 1, d, h => by
    simp only [fnd]
    split
    · omega
    · exact fnd_le c k (d + 1) (by omega)
theorem dgt_rng (v : Nat → Int) (k : Nat) : 0 ≤ dgt v k ∧ dgt v k ≤ 10 := by
  have := fnd_le (cod v (4 + 10 * (k / 2) + k % 2) 5) 10 0 rfl
  unfold dgt
  omega
/-- the first pair from p on that is no two digits; p + k if there is none -/
def fbad (v : Nat → Int) : Nat → Nat → Nat
  | 0, p => p
  | k + 1, p => if dgt v (2 * p) = 10 ∨ dgt v (2 * p + 1) = 10 then p else fbad v k (p + 1)
