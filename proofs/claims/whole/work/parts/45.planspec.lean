/-! pure: by a layout labels are laid in free cells -/
def nxG (ok : Nat → Bool) : Nat → Nat → Nat
  | 0, k => k
  | f + 1, k => if ok k = true then k else nxG ok f (k + 1)
def nxt (ok : Nat → Bool) (k : Nat) : Nat := nxG ok (120 - k) k
theorem nxt_end {ok : Nat → Bool} {k : Nat} (h : 120 ≤ k) : nxt ok k = k := by
  unfold nxt
  rw [show 120 - k = 0 by omega, nxG]
theorem nxt_yes {ok : Nat → Bool} {k : Nat} (h : k < 120) (ho : ok k = true) : nxt ok k = k := by
  unfold nxt
  rw [show 120 - k = (120 - (k + 1)) + 1 by omega, nxG, if_pos ho]
theorem nxt_no {ok : Nat → Bool} {k : Nat} (h : k < 120) (ho : ¬ ok k = true) : nxt ok k = nxt ok (k + 1) := by
  unfold nxt
  rw [show 120 - k = (120 - (k + 1)) + 1 by omega, nxG, if_neg ho]
def cB (p : Nat → Bool) (n : Nat) : Int := sm (fun t => if p t = true then 1 else 0) n
theorem cB_s (p : Nat → Bool) (n : Nat) : cB p (n + 1) = cB p n + if p n = true then 1 else 0 := rfl
theorem cB_mono (p : Nat → Bool) : ∀ {m n : Nat}, m ≤ n → cB p m ≤ cB p n := by
  intro m n h
  induction n with
  | zero =>
    rw [show m = 0 by omega]
    exact Int.le_refl _
  | succ n ih =>
    by_cases e : m = n + 1
    · rw [e]; exact Int.le_refl _
    · have := ih (by omega)
      rw [cB_s]
      split <;> omega
theorem nxt_sp {ok : Nat → Bool} : ∀ (f k : Nat), k + f = 120 → k ≤ nxt ok k ∧ nxt ok k ≤ 120 ∧ cB ok (nxt ok k) = cB ok k ∧ (nxt ok k < 120 → ok (nxt ok k) = true)
  | 0, k, h => by
    rw [nxt_end (by omega)]
    exact ⟨by omega, by omega, rfl, fun q => absurd q (by omega)⟩
  | f + 1, k, h => by
    by_cases c : ok k = true
    · rw [nxt_yes (by omega) c]
      exact ⟨by omega, by omega, rfl, fun _ => c⟩
    · rw [nxt_no (by omega) c]
      obtain ⟨i1, i2, i3, i4⟩ := nxt_sp (ok := ok) f (k + 1) (by omega)
      refine ⟨by omega, i2, ?_, i4⟩
      rw [i3, cB_s, if_neg c]
      omega
theorem nxt_lt {ok : Nat → Bool} {k : Nat} (hk : k ≤ 120) (hc : cB ok k < cB ok 120) : nxt ok k < 120 ∧ ok (nxt ok k) = true ∧ cB ok (nxt ok k + 1) = cB ok k + 1 ∧ k ≤ nxt ok k := by
  obtain ⟨i1, i2, i3, i4⟩ := nxt_sp (ok := ok) (120 - k) k (by omega)
  have h1 : nxt ok k < 120 := by
    rcases Nat.lt_or_ge (nxt ok k) 120 with q | q
    · exact q
    · have e : nxt ok k = 120 := by omega
      rw [e] at i3
      omega
  refine ⟨h1, i4 h1, ?_, i1⟩
  rw [cB_s, if_pos (i4 h1), i3]
def stH (ok ac : Nat → Bool) : Nat → Nat × (Nat → Int)
  | 0 => (0, fun _ => -1)
  | t + 1 => if ac t = true then (nxt ok (stH ok ac t).1 + 1, upr (stH ok ac t).2 (nxt ok (stH ok ac t).1) ((t % 200 : Nat) : Int)) else stH ok ac t
theorem stH_yes {ok ac : Nat → Bool} {t : Nat} (h : ac t = true) : stH ok ac (t + 1) = (nxt ok (stH ok ac t).1 + 1, upr (stH ok ac t).2 (nxt ok (stH ok ac t).1) ((t % 200 : Nat) : Int)) := by rw [stH, if_pos h]
theorem stH_no {ok ac : Nat → Bool} {t : Nat} (h : ¬ ac t = true) : stH ok ac (t + 1) = stH ok ac t := by rw [stH, if_neg h]
theorem stH_skip {ok ac : Nat → Bool} {t : Nat} : ∀ k, (∀ j, t ≤ j → j < t + k → ¬ ac j = true) → stH ok ac (t + k) = stH ok ac t
  | 0, _ => rfl
  | k + 1, h => by
    show stH ok ac (t + k + 1) = _
    rw [stH_no (h (t + k) (by omega) (by omega)), stH_skip k (fun j h1 h2 => h j h1 (by omega))]
theorem stH_inv {ok ac : Nat → Bool} {T : Nat} (hcap : cB ac T ≤ cB ok 120) : ∀ t, t ≤ T → (stH ok ac t).1 ≤ 120 ∧ cB ok (stH ok ac t).1 = cB ac t
  | 0, _ => ⟨by simp [stH], rfl⟩
  | t + 1, ht => by
    obtain ⟨i1, i2⟩ := stH_inv hcap t (by omega)
    by_cases c : ac t = true
    · rw [stH_yes c]
      have hm := cB_mono ac ht
      have hs := cB_s ac t
      rw [if_pos c] at hs
      obtain ⟨n1, n2, n3, n4⟩ := nxt_lt (ok := ok) i1 (by omega)
      show nxt ok (stH ok ac t).1 + 1 ≤ 120 ∧ cB ok (nxt ok (stH ok ac t).1 + 1) = _
      exact ⟨by omega, by omega⟩
    · rw [stH_no c]
      have hs := cB_s ac t
      rw [if_neg c] at hs
      exact ⟨i1, by omega⟩
theorem stH_next {ok ac : Nat → Bool} {T : Nat} (hcap : cB ac T ≤ cB ok 120) {t : Nat} (ht : t < T) (c : ac t = true) : nxt ok (stH ok ac t).1 < 120 ∧ ok (nxt ok (stH ok ac t).1) = true ∧ (stH ok ac t).1 ≤ nxt ok (stH ok ac t).1 := by
  obtain ⟨i1, i2⟩ := stH_inv hcap t (by omega)
  have hm := cB_mono ac (show t + 1 ≤ T by omega)
  have hs := cB_s ac t
  rw [if_pos c] at hs
  obtain ⟨n1, n2, n3, n4⟩ := nxt_lt (ok := ok) i1 (by omega)
  exact ⟨n1, n2, n4⟩
theorem stH_val {ok ac : Nat → Bool} {T : Nat} (hcap : cB ac T ≤ cB ok 120) : ∀ t, t ≤ T → ∀ p, (stH ok ac t).2 p ≠ -1 → p < 120 ∧ ok p = true ∧ ∃ u, u < t ∧ ac u = true ∧ (stH ok ac t).2 p = ((u % 200 : Nat) : Int) ∧ p = nxt ok (stH ok ac u).1
  | 0, _, p, h => absurd rfl h
  | t + 1, ht, p, h => by
    by_cases c : ac t = true
    · rw [stH_yes c] at h ⊢
      have h : upr (stH ok ac t).2 (nxt ok (stH ok ac t).1) ((t % 200 : Nat) : Int) p ≠ -1 := h
      show p < 120 ∧ ok p = true ∧ ∃ u, u < t + 1 ∧ ac u = true ∧ upr (stH ok ac t).2 (nxt ok (stH ok ac t).1) ((t % 200 : Nat) : Int) p = _ ∧ _
      by_cases e : p = nxt ok (stH ok ac t).1
      · obtain ⟨n1, n2, n3⟩ := stH_next hcap (by omega) c
        subst e
        exact ⟨n1, n2, t, by omega, c, by rw [upr_at], rfl⟩
      · rw [upr_ne _ _ e] at h ⊢
        obtain ⟨a1, a2, u, a3, a4, a5, a6⟩ := stH_val hcap t (by omega) p h
        exact ⟨a1, a2, u, by omega, a4, a5, a6⟩
    · rw [stH_no c] at h ⊢
      obtain ⟨a1, a2, u, a3, a4, a5, a6⟩ := stH_val hcap t (by omega) p h
      exact ⟨a1, a2, u, by omega, a4, a5, a6⟩
/-! of labels and sheets -/
def okP (fre : Nat → Int) (s : Nat → Nat) (h p : Nat) : Bool := decide (s (p / 40) = h) && (fre (p / 40)).toNat.testBit (p % 40)
def acP (w gr : Nat → Int) (n : Nat) (d : Nat → Nat) (h t : Nat) : Bool := decide (t % 200 < n ∧ w (t % 200) = 1 ∧ gr (t % 200) = ((t / 200 : Nat) : Int) ∧ d (t / 200) = h)
def plF (w gr : Nat → Int) (n : Nat) (fre : Nat → Int) (d s : Nat → Nat) (p : Nat) : Int := if s (p / 40) < 3 then (stH (okP fre s (s (p / 40))) (acP w gr n d (s (p / 40))) 1200).2 p else -1
def cwF (w gr : Nat → Int) (n : Nat) (g : Nat) : Int := sm (fun i => if w i = 1 ∧ gr i = (g : Int) then 1 else 0) n
def rmF (fre : Nat → Int) (i : Nat) : Int := pcN (fre i).toNat 40
theorem cwF_rng (w gr : Nat → Int) (n g : Nat) : 0 ≤ cwF w gr n g ∧ cwF w gr n g ≤ n := by
  have := sm_bound (g := fun i => if w i = 1 ∧ gr i = (g : Int) then (1 : Int) else 0) (c := 1) (n := n) (fun k _ => by split <;> decide)
  unfold cwF
  omega
theorem sm_zero {g : Nat → Int} : ∀ {n : Nat}, (∀ k, k < n → g k = 0) → sm g n = 0
  | 0, _ => rfl
  | n + 1, h => by simp only [sm]; rw [sm_zero (fun k hk => h k (by omega)), h n (by omega)]; rfl
theorem ok_blk (fre : Nat → Int) (s : Nat → Nat) (h i : Nat) : sm (fun k => if okP fre s h (40 * i + k) = true then (1 : Int) else 0) 40 = if s i = h then rmF fre i else 0 := by
  by_cases c : s i = h
  · rw [if_pos c]
    unfold rmF pcN
    refine sm_cong (fun k hk => ?_)
    unfold okP
    rw [show (40 * i + k) / 40 = i by omega, show (40 * i + k) % 40 = k by omega]
    simp [c]
  · rw [if_neg c]
    refine sm_zero (fun k hk => ?_)
    unfold okP
    rw [show (40 * i + k) / 40 = i by omega]
    simp [c]
theorem ok_all (fre : Nat → Int) (s : Nat → Nat) (h : Nat) : cB (okP fre s h) 120 = hsH (rmF fre) s h := by
  unfold cB hsH
  have e0 := ok_blk fre s h 0
  have e1 := ok_blk fre s h 1
  have e2 := ok_blk fre s h 2
  rw [show (120 : Nat) = 40 + (40 + 40) from rfl, sm_split, sm_split, show sm (fun i => if s i = h then rmF fre i else 0) 3 = 0 + (if s 0 = h then rmF fre 0 else 0) + (if s 1 = h then rmF fre 1 else 0) + (if s 2 = h then rmF fre 2 else 0) from rfl]
  have f0 : sm (fun t => if okP fre s h t = true then (1 : Int) else 0) 40 = sm (fun k => if okP fre s h (40 * 0 + k) = true then (1 : Int) else 0) 40 := sm_cong (fun k _ => by rw [Nat.mul_zero, Nat.zero_add])
  have f2 : sm (fun k => if okP fre s h (40 + (40 + k)) = true then (1 : Int) else 0) 40 = sm (fun k => if okP fre s h (40 * 2 + k) = true then (1 : Int) else 0) 40 := sm_cong (fun k _ => by rw [show 40 + (40 + k) = 40 * 2 + k by omega])
  rw [f0, f2, e0, e2]
  have f1 : sm (fun k => if okP fre s h (40 + k) = true then (1 : Int) else 0) 40 = if s 1 = h then rmF fre 1 else 0 := e1
  rw [f1]
  omega
theorem ac_blk (w gr : Nat → Int) {n : Nat} (hn : n ≤ 200) (d : Nat → Nat) (h g : Nat) : sm (fun k => if acP w gr n d h (200 * g + k) = true then (1 : Int) else 0) 200 = if d g = h then cwF w gr n g else 0 := by
  have e : ∀ k, k < 200 → (200 * g + k) / 200 = g ∧ (200 * g + k) % 200 = k := fun k hk => by omega
  by_cases c : d g = h
  · rw [if_pos c, show (200 : Nat) = n + (200 - n) by omega, sm_split]
    have z : sm (fun k => if acP w gr n d h ((n + (200 - n)) * g + (n + k)) = true then (1 : Int) else 0) (200 - n) = 0 := by
      refine sm_zero (fun k hk => ?_)
      rw [show n + (200 - n) = 200 by omega]
      unfold acP
      rw [(e (n + k) (by omega)).1, (e (n + k) (by omega)).2]
      simp
      intro q
      omega
    rw [z, Int.add_zero]
    unfold cwF
    refine sm_cong (fun k hk => ?_)
    rw [show n + (200 - n) = 200 by omega]
    unfold acP
    rw [(e k (by omega)).1, (e k (by omega)).2]
    simp [hk, c]
  · rw [if_neg c]
    refine sm_zero (fun k hk => ?_)
    unfold acP
    rw [(e k hk).1]
    simp [c]
theorem ac_upto (w gr : Nat → Int) {n : Nat} (hn : n ≤ 200) (d : Nat → Nat) (h : Nat) : ∀ m, cB (acP w gr n d h) (200 * m) = sm (fun g => if d g = h then cwF w gr n g else 0) m
  | 0 => rfl
  | m + 1 => by
    have i := ac_upto w gr hn d h m
    unfold cB at i ⊢
    rw [show 200 * (m + 1) = 200 * m + 200 by omega, sm_split, i, ac_blk w gr hn d h m]
    rfl
theorem ac_all (w gr : Nat → Int) {n : Nat} (hn : n ≤ 200) (d : Nat → Nat) (h : Nat) : cB (acP w gr n d h) 1200 = ndH (cwF w gr n) d h := ac_upto w gr hn d h 6
theorem pl_cap {w gr fre : Nat → Int} {n : Nat} (hn : n ≤ 200) {d s : Nat → Nat} (hf : feas (cwF w gr n) (rmF fre) d s) {h : Nat} (hh : h < 3) : cB (acP w gr n d h) 1200 ≤ cB (okP fre s h) 120 := by
  rw [ac_all w gr hn, ok_all]
  exact hf.2.2.2 h hh
/-- a label that the plan has waits; it lies in a free cell; none lies twice -/
theorem pl_val {w gr fre : Nat → Int} {n : Nat} (hn : n ≤ 200) {d s : Nat → Nat} (hf : feas (cwF w gr n) (rmF fre) d s) {p : Nat} (hp : plF w gr n fre d s p ≠ -1) : p < 120 ∧ (fre (p / 40)).toNat.testBit (p % 40) = true ∧ ∃ i : Nat, plF w gr n fre d s p = (i : Int) ∧ i < n ∧ w i = 1 := by
  unfold plF at hp ⊢
  by_cases c : s (p / 40) < 3
  · rw [if_pos c] at hp ⊢
    obtain ⟨a1, a2, u, a3, a4, a5, a6⟩ := stH_val (pl_cap hn hf c) 1200 (Nat.le_refl _) p hp
    unfold okP at a2
    unfold acP at a4
    simp at a2 a4
    exact ⟨a1, a2, u % 200, a5, a4.1, a4.2.1⟩
  · rw [if_neg c] at hp
    exact absurd rfl hp
theorem pl_inj {w gr fre : Nat → Int} {n : Nat} (hn : n ≤ 200) {d s : Nat → Nat} (hf : feas (cwF w gr n) (rmF fre) d s) {p q : Nat} (hp : plF w gr n fre d s p ≠ -1) (he : plF w gr n fre d s p = plF w gr n fre d s q) : p = q := by
  have hq := hp
  rw [he] at hq
  have e0 := he
  unfold plF at hp hq he
  by_cases c : s (p / 40) < 3
  · by_cases c2 : s (q / 40) < 3
    · rw [if_pos c] at hp
      rw [if_pos c2] at hq
      rw [if_pos c, if_pos c2] at he
      obtain ⟨a1, a2, u, a3, a4, a5, a6⟩ := stH_val (pl_cap hn hf c) 1200 (Nat.le_refl _) p hp
      obtain ⟨z1, z2, v, z3, z4, z5, z6⟩ := stH_val (pl_cap hn hf c2) 1200 (Nat.le_refl _) q hq
      rw [a5, z5] at he
      have a4' := a4
      have z4' := z4
      unfold acP at a4 z4
      simp only [decide_eq_true_eq] at a4 z4
      have e1 : u % 200 = v % 200 := by omega
      have e2 : u / 200 = v / 200 := by
        have g1 := a4.2.2.1
        have g2 := z4.2.2.1
        rw [e1] at g1
        omega
      have e3 : u = v := by omega
      subst e3
      have e4 : s (p / 40) = s (q / 40) := by rw [← a4.2.2.2, ← z4.2.2.2]
      rw [a6, z6, e4]
    · rw [if_neg c2] at hq
      exact absurd rfl hq
  · rw [if_neg c] at hp
    exact absurd rfl hp
