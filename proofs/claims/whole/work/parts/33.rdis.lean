/-! pure: what a reading in one direction comes to -/
def rdIs (v : Nat → Int) (P : Nat) (k p : Int) : Prop := (¬ endsC v (7 + 10 * P) ∧ k = 2 ∧ p = 0) ∨ (endsC v (7 + 10 * P) ∧ fbad v P 0 < P ∧ k = 3 ∧ p = 2 * (fbad v P 0 : Int)) ∨ (endsC v (7 + 10 * P) ∧ fbad v P 0 = P ∧ dgt v (2 * P - 1) ≠ chk (dgt v) (2 * P - 1) ∧ k = 4 ∧ p = 0) ∨ (endsC v (7 + 10 * P) ∧ fbad v P 0 = P ∧ dgt v (2 * P - 1) = chk (dgt v) (2 * P - 1) ∧ k = 0 ∧ p = -1)
theorem rdIs_fun {v : Nat → Int} {P : Nat} {k p k' p' : Int} (h : rdIs v P k p) (h' : rdIs v P k' p') : k = k' ∧ p = p' := by
  rcases h with ⟨a, e1, e2⟩ | ⟨a, b, e1, e2⟩ | ⟨a, b, c, e1, e2⟩ | ⟨a, b, c, e1, e2⟩ <;> rcases h' with ⟨a', e1', e2'⟩ | ⟨a', b', e1', e2'⟩ | ⟨a', b', c', e1', e2'⟩ | ⟨a', b', c', e1', e2'⟩ <;> first | exact absurd a a' | exact absurd a' a | exact absurd c c' | exact absurd c' c | (exfalso; omega) | (subst e1 e2 e1' e2'; exact ⟨rfl, rfl⟩)
theorem rdIs_rng {v : Nat → Int} {P : Nat} {k p : Int} (hP : P ≤ 6) (h : rdIs v P k p) : 0 ≤ k ∧ k ≤ 4 ∧ -1 ≤ p ∧ p ≤ 12 := by
  rcases h with ⟨a, e1, e2⟩ | ⟨a, b, e1, e2⟩ | ⟨a, b, c, e1, e2⟩ | ⟨a, b, c, e1, e2⟩ <;> omega
theorem cod_cong {v w : Nat → Int} {s : Nat} : ∀ {k : Nat}, (∀ i, i < k → v (s + 2 * i) = w (s + 2 * i)) → cod v s k = cod w s k
  | 0, _ => rfl
  | k + 1, h => by
    simp only [cod]
    rw [cod_cong (k := k) (fun i hi => h i (by omega)), h k (by omega)]
theorem dgt_cong {v w : Nat → Int} {P : Nat} (h : ∀ i, i < 7 + 10 * P → v i = w i) {k : Nat} (hk : k < 2 * P) : dgt v k = dgt w k := by
  unfold dgt
  rw [cod_cong (v := v) (w := w) (fun i hi => h _ (by omega))]
theorem fbad_cong {v w : Nat → Int} {P : Nat} (h : ∀ i, i < 7 + 10 * P → v i = w i) : ∀ (k p : Nat), p + k ≤ P → fbad v k p = fbad w k p
  | 0, _, _ => rfl
  | k + 1, p, hp => by
    simp only [fbad]
    rw [dgt_cong h (k := 2 * p) (by omega), dgt_cong h (k := 2 * p + 1) (by omega), fbad_cong h k (p + 1) (by omega)]
theorem endsC_cong {v w : Nat → Int} {P : Nat} (h : ∀ i, i < 7 + 10 * P → v i = w i) : endsC v (7 + 10 * P) ↔ endsC w (7 + 10 * P) := by
  unfold endsC
  rw [h (7 + 10 * P - 3) (by omega), h (7 + 10 * P - 2) (by omega), h (7 + 10 * P - 1) (by omega)]
  refine ⟨fun q => ⟨fun i hi => by rw [← h i (by omega)]; exact q.1 i hi, q.2⟩, fun q => ⟨fun i hi => by rw [h i (by omega)]; exact q.1 i hi, q.2⟩⟩
theorem rdIs_cong {v w : Nat → Int} {P : Nat} {k p : Int} (hP : 1 ≤ P) (h : ∀ i, i < 7 + 10 * P → v i = w i) (hr : rdIs v P k p) : rdIs w P k p := by
  unfold rdIs at *
  rw [endsC_cong h, fbad_cong h P 0 (by omega), dgt_cong h (k := 2 * P - 1) (by omega), chk_cong (g := dgt w) (fun j hj => dgt_cong h (by omega))] at hr
  exact hr
theorem mn_cong {f g : Nat → Int} : ∀ {n : Nat}, (∀ j, j < n → f j = g j) → mnS f n = mnS g n ∧ mxS f n = mxS g n
  | 0, _ => ⟨rfl, rfl⟩
  | n + 1, h => by
    have i := mn_cong (n := n) (fun j hj => h j (by omega))
    simp only [mnS, mxS]
    rw [i.1, i.2, h n (by omega)]
    exact ⟨rfl, rfl⟩
theorem wt8_cong {f g : Nat → Int} {n : Nat} (h : ∀ j, j < n → f j = g j) (a : Int) {k : Nat} (hk : k < n) : wt8 f n a k = wt8 g n a k := by
  unfold wt8 wid
  rw [(mn_cong h).1, (mn_cong h).2]
  split
  · rw [h k hk]
  · rw [h (n - 1 - k) (by omega)]
def rdC (f : Nat → Int) (z : Nat) : Prop := 17 ≤ z ∧ z ≤ 67 ∧ z % 10 = 7 ∧ ∀ j, j < z → 1 ≤ f j ∧ f j ≤ 99
theorem s_reads2 {P : Nat} {a1 : Int} {M : Mem} {Q : Int → Mem → Prop} (hP1 : 1 ≤ P) (hP6 : P ≤ 6) (hn : M 62 22 = ((7 + 10 * P : Nat) : Int)) (hf : ∀ j, j < 7 + 10 * P → 1 ≤ M 74 j ∧ M 74 j ≤ 99) (ha : a1 = 0 ∨ a1 = 1)
    (h0 : ∀ M' k p, rdIs (wt8 (M 74) (7 + 10 * P) a1) P k p → k ≠ 0 → fr8 M M' → M' 62 26 = k → M' 62 27 = p → Q 0 M')
    (h1 : ∀ M', rdIs (wt8 (M 74) (7 + 10 * P) a1) P 0 (-1) → fr8 M M' → M' 62 21 = ((2 * P : Nat) : Int) → (∀ j, j < 2 * P → M' 73 j = dgt (wt8 (M 74) (7 + 10 * P) a1) j) → Q 1 M') : wp_X8_reads a1 M Q :=
  s_reads hP1 hP6 hn hf ha (fun M' a b c d => h0 M' 2 0 (Or.inl ⟨a, rfl, rfl⟩) (by decide) b c d) (fun M' a b c d e => h0 M' 3 _ (Or.inr (Or.inl ⟨a, b, rfl, rfl⟩)) (by decide) c d e) (fun M' a b c d e f => h0 M' 4 0 (Or.inr (Or.inr (Or.inl ⟨a, b, c, rfl, rfl⟩))) (by decide) d e f) (fun M' a b c d e f => h1 M' (Or.inr (Or.inr (Or.inr ⟨a, b, c, rfl, rfl⟩))) d e f)
/-- the class's cells that decode() of the reading o leaves -/
def frD (o : Nat) (M M' : Mem) : Prop := ∀ k j, k ≠ 2 * o - 44 → k ≠ 2 * o - 44 + 1 → (k = o → j ≠ 2 ∧ j ≠ 3) → M' k j = M k j
theorem frD.row (o : Nat) (M : Mem) (n : Int) (f : Nat → Int) : frD o M (setRow M (2 * o - 44) n f) := fun k j h1 h2 _ => by rw [setRow_ne _ _ _ h1 h2]
theorem frD.up {o : Nat} {M M' : Mem} (h : frD o M M') {i : Nat} (v : Int) (hi : i = 2 ∨ i = 3) : frD o M (up M' o i v) := by
  intro k j h1 h2 h3
  by_cases c : k = o
  · have := h3 c
    subst c
    rw [up_snn _ _ _ (by omega)]
    exact h _ _ h1 h2 h3
  · rw [up_ne _ _ _ c]
    exact h _ _ h1 h2 h3
theorem s_decode2 {o P : Nat} {M : Mem} {Q : Int → Mem → Prop} (ho : isRd o) (hb : M o 0 = 0 ∨ M o 0 = 1) (hr34 : rok M 34) (hL : M 34 1 = ((7 + 10 * P : Nat) : Int)) (hP : 1 ≤ P) (hP6 : P ≤ 6) (hv : ∀ i : Nat, (i : Int) < M 34 1 → wv M o i = 0 ∨ wv M o i = 1)
    (h0 : ∀ M' k p, rdIs (wv M o) P k p → k ≠ 0 → frD o M M' → M' o 2 = k → M' o 3 = p → 0 ≤ M' (2 * o - 44) 1 → M' (2 * o - 44) 1 ≤ 12 → Q 0 M')
    (h1 : ∀ M', rdIs (wv M o) P 0 (-1) → frD o M M' → M' (2 * o - 44) 1 = ((2 * P : Nat) : Int) → (∀ j, j < 2 * P → M' (2 * o - 44 + 1) j = dgt (wv M o) j) → Q 1 M') : wp_X3_decode o M Q := by
  have hne : 2 * o - 44 ≠ o := by rcases ho with rfl | rfl <;> decide
  have key : ∀ (n : Int) (f : Nat → Int) (k p : Int), rdIs (wv M o) P k p → k ≠ 0 → 0 ≤ n → n ≤ 12 → Q 0 (up (up (setRow M (2 * o - 44) n f) o 2 k) o 3 p) := by
    intro n f k p hr hk hn0 hn12
    have e : up (up (setRow M (2 * o - 44) n f) o 2 k) o 3 p (2 * o - 44) 1 = n := by rw [up_ne _ _ _ hne, up_ne _ _ _ hne, setRow_n]
    refine h0 _ k p hr hk (((frD.row o M n f).up _ (by omega)).up _ (by omega)) ?_ (up_sn _ _ _ _) (by omega) (by omega)
    rw [up_snn _ _ _ (by decide), up_sn]
  refine s_decode ho hb hr34 hL hP hP6 hv (fun f he => key 0 f 2 0 (Or.inl ⟨he, rfl, rfl⟩) (by decide) (by decide) (by decide)) (fun f n he a b hb2 => key n f 3 _ (Or.inr (Or.inl ⟨he, hb2, rfl, rfl⟩)) (by decide) a b) (fun f he a b => key _ f 4 0 (Or.inr (Or.inr (Or.inl ⟨he, a, b, rfl, rfl⟩))) (by decide) (by omega) (by omega)) (fun f he a b c => ?_)
  exact h1 _ (Or.inr (Or.inr (Or.inr ⟨he, a, b, rfl, rfl⟩))) (frD.row o M _ f) (setRow_n _ _ _ _) (fun j hj => by rw [setRow_a]; exact c j hj)
