/-! pure: reading bars: one stripe, one digit -/
/-- stripe i (wide 1, narrow 0) as the reading o (40 forward, 41 from behind) meets it -/
def wv (M : Mem) (o : Nat) (i : Nat) : Int := if M o 0 = 0 then M 35 i else M 35 ((M 34 1).toNat - 1 - i)
theorem s_stripe {o : Nat} {i : Int} {M : Mem} {Q : Int → Mem → Prop} (hb : M o 0 = 0 ∨ M o 0 = 1) (hr : rok M 34) (h0 : 0 ≤ i) (h1 : i < M 34 1) (h : Q (wv M o i.toNat) M) : wp_X3_stripe o i M Q := by
  unfold wp_X3_stripe wv at *
  refine ⟨by rcases hb with e | e <;> rw [e] <;> decide, fun c => ?_, fun c => ?_⟩
  · refine s_at_in hr h0 h1 ?_
    rw [if_pos c] at h
    exact h
  · unfold wp_X4_size
    refine s_at_in hr (by omega) (by omega) ?_
    rw [if_neg c] at h
    rw [show (M 34 1 - 1 - i).toNat = (M 34 1).toNat - 1 - i.toNat by omega]
    exact h
/-- five stripes as a number, the first one highest -/
def cod (v : Nat → Int) (s : Nat) : Nat → Int
  | 0 => 0
  | k + 1 => cod v s k * 2 + v (s + 2 * k)
/-- the first digit with that code, from d on; 10 if there is none -/
def fnd (c : Int) : Nat → Nat → Nat
  | 0, d => d
  | k + 1, d => if dcode d = c then d else fnd c k (d + 1)
theorem cod_rng {v : Nat → Int} {s : Nat} (hv : ∀ k, k < 5 → v (s + 2 * k) = 0 ∨ v (s + 2 * k) = 1) : ∀ k, k ≤ 5 → 0 ≤ cod v s k ∧ cod v s k < 2 ^ k := by
  intro k
  induction k with
  | zero => intro _; simp [cod]
  | succ k ih =>
    intro hk
    have h1 := ih (by omega)
    have h2 := hv k (by omega)
    simp only [cod]
    have e : (2 : Int) ^ (k + 1) = 2 ^ k * 2 := Int.pow_succ 2 k
    rw [e]
    omega
theorem s_addDigit_36 {o : Nat} {a1 c : Int} {M : Mem} {Q : Int → Mem → Prop} (hr : rok M (2 * o - 44)) (hc : Rg c) (hroom : M (2 * o - 44) 1 < (capR (2 * o - 44) : Int))
    (h1 : ∀ d, d < 10 → fnd c 10 0 = d → Q 1 (setRow M (2 * o - 44) (M (2 * o - 44) 1 + 1) (upr (M (2 * o - 44 + 1)) (M (2 * o - 44) 1).toNat (d : Int)))) (h0 : fnd c 10 0 = 10 → Q 0 M) :
    ∀ (k d : Nat), d + k = 10 → fnd c 10 0 = fnd c k d → wp_X3_addDigit_36 o a1 Q (k + 1) c (d : Int) M := by
  intro k
  induction k with
  | zero =>
    intro d hd he
    rw [wp_X3_addDigit_36]
    refine ⟨⟨by omega, by omega⟩, fun _ => h0 (by rw [he]; simp only [fnd]; omega), fun q => absurd (by omega) q⟩
  | succ k ih =>
    intro d hd he
    rw [wp_X3_addDigit_36]
    have hdr : Rg (dcode d) := by
      unfold dcode
      split <;> decide
    rw [Int.toNat_natCast]
    refine ⟨⟨by omega, by omega⟩, fun q => absurd q (by omega), fun _ => ⟨⟨by omega, by omega⟩, hdr, hc, fun q => ?_, fun q => ?_⟩⟩
    · rw [show fnd c (k + 1) d = if dcode d = c then d else fnd c k (d + 1) from rfl, if_neg q] at he
      exact ih (d + 1) (by omega) he
    · rw [show fnd c (k + 1) d = if dcode d = c then d else fnd c k (d + 1) from rfl, if_pos (by omega)] at he
      exact s_add hr (fun _ => ⟨Or.inr rfl, h1 d (by omega) he⟩) (fun c2 => absurd hroom c2)
theorem s_addDigit_5 {o : Nat} {a1 : Nat} {M : Mem} {Q : Int → Mem → Prop} (hb : M o 0 = 0 ∨ M o 0 = 1) (hr34 : rok M 34) (hlen : ((a1 + 8 : Nat) : Int) < M 34 1) (h : ∃ n2, wp_X3_addDigit_36 o (a1 : Int) Q n2 (cod (wv M o) a1 5) 0 M) :
    ∀ (k i : Nat), i + k = 5 → wp_X3_addDigit_5 o (a1 : Int) Q (k + 1) (cod (wv M o) a1 i) (i : Int) M := by
  intro k
  induction k with
  | zero =>
    intro i hi
    rw [wp_X3_addDigit_5]
    refine ⟨⟨by omega, by omega⟩, fun _ => by rw [show i = 5 by omega]; exact h, fun c => absurd (by omega) c⟩
  | succ k ih =>
    intro i hi
    rw [wp_X3_addDigit_5]
    refine ⟨⟨by omega, by omega⟩, fun c => absurd c (by omega), fun _ => ?_⟩
    refine s_stripe hb hr34 (by omega) (by omega) ?_
    rw [show ((a1 : Int) + 2 * (i : Int)).toNat = a1 + 2 * i by omega]
    exact ih (i + 1) (by omega)
theorem s_addDigit {o a1 : Nat} {x : Int} {M : Mem} {Q : Int → Mem → Prop} (hx : x = (a1 : Int)) (hb : M o 0 = 0 ∨ M o 0 = 1) (hr34 : rok M 34) (hlen : ((a1 + 8 : Nat) : Int) < M 34 1) (hv : ∀ i : Nat, (i : Int) < M 34 1 → wv M o i = 0 ∨ wv M o i = 1) (hr : rok M (2 * o - 44)) (hroom : M (2 * o - 44) 1 < (capR (2 * o - 44) : Int))
    (h1 : ∀ d, d < 10 → fnd (cod (wv M o) a1 5) 10 0 = d → Q 1 (setRow M (2 * o - 44) (M (2 * o - 44) 1 + 1) (upr (M (2 * o - 44 + 1)) (M (2 * o - 44) 1).toNat (d : Int)))) (h0 : fnd (cod (wv M o) a1 5) 10 0 = 10 → Q 0 M) : wp_X3_addDigit o x M Q := by
  subst hx
  unfold wp_X3_addDigit
  have hc := cod_rng (v := wv M o) (s := a1) (fun k hk => hv _ (by omega)) 5 (by omega)
  exact ⟨6, s_addDigit_5 hb hr34 hlen ⟨11, s_addDigit_36 hr ⟨by omega, by omega⟩ hroom h1 h0 10 0 rfl rfl⟩ 5 0 rfl⟩
