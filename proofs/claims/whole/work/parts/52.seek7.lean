/-! pure: the class's best layout -/
theorem sm_add3 (f g k : Nat → Int) : ∀ n, sm f n + sm g n + sm k n = sm (fun i => f i + g i + k i) n
  | 0 => rfl
  | n + 1 => by
    have := sm_add3 f g k n
    simp only [sm]
    omega
theorem sm_le {f g : Nat → Int} : ∀ {n : Nat}, (∀ k, k < n → f k ≤ g k) → sm f n ≤ sm g n
  | 0, _ => Int.le_refl _
  | n + 1, h => by
    have := sm_le (n := n) (fun k hk => h k (by omega))
    have := h n (by omega)
    simp only [sm]
    omega
theorem nd_all {c : Nat → Int} {d : Nat → Nat} (hd : dig3 d) : ndH c d 0 + ndH c d 1 + ndH c d 2 = sm c 6 := by
  unfold ndH
  rw [sm_add3]
  refine sm_cong (fun g hg => ?_)
  have := hd g hg
  have : d g = 0 ∨ d g = 1 ∨ d g = 2 := by omega
  rcases this with e | e | e <;> rw [e] <;> simp
theorem hs_all {r : Nat → Int} {s : Nat → Nat} (hs : dig4 s) : hsH r s 0 + hsH r s 1 + hsH r s 2 = tot3 r s := by
  unfold hsH tot3
  rw [sm_add3]
  refine sm_cong (fun i hi => ?_)
  have := hs i hi
  have : s i = 0 ∨ s i = 1 ∨ s i = 2 ∨ s i = 3 := by omega
  rcases this with e | e | e | e <;> rw [e] <;> simp
theorem feas_tot {c r : Nat → Int} {d s : Nat → Nat} (h : feas c r d s) : sm c 6 ≤ tot3 r s := by
  have h0 := h.2.2.2 0 (by decide)
  have h1 := h.2.2.2 1 (by decide)
  have h2 := h.2.2.2 2 (by decide)
  rw [← nd_all h.1, ← hs_all h.2.1]
  omega
theorem hs_nn {r : Nat → Int} {s : Nat → Nat} (hr : ∀ i, i < 3 → 0 ≤ r i ∧ r i ≤ 40) (h : Nat) : 0 ≤ hsH r s h ∧ hsH r s h ≤ 120 := by
  have := sm_bound (g := fun i => if s i = h then r i else 0) (c := 40) (n := 3) (fun k hk => by
    have := hr k hk
    split <;> omega)
  unfold hsH
  omega
theorem okD_is {c r : Nat → Int} {d s : Nat → Nat} (hr : ∀ i, i < 3 → 0 ≤ r i ∧ r i ≤ 40) (hs : dig4 s) {rm : Nat → Int} (hrm : ∀ h, h < 3 → rm h = hsH r s h) (h : okD c d 6 0 0 rm) : feas c r d s := by
  obtain ⟨a1, a2⟩ := okD_feas 6 0 0 _ (fun h hh => by rw [hrm h hh]; exact (hs_nn hr h).1) h
  exact ⟨fun g hg => (a1 g (by omega) (by omega)).1, hs, fun g hg => (a1 g (by omega) (by omega)).2, fun h hh => by rw [← ndk_6, ← hrm h hh]; exact a2 h hh⟩
theorem is_okD {c r : Nat → Int} {d s : Nat → Nat} (hc : ∀ g, g < 6 → 0 ≤ c g ∧ c g ≤ 40) {rm : Nat → Int} (hrm : ∀ h, h < 3 → rm h = hsH r s h) (h : feas c r d s) (hcan : can c d 6 0 0) : okD c d 6 0 0 rm :=
  feas_okD 6 0 0 _ (fun j _ h2 => ⟨(hc j (by omega)).1, h.1 j (by omega), h.2.2.1 j (by omega)⟩) hcan (fun h' hh => by rw [ndk_6, hrm h' hh]; exact h.2.2.2 h' hh)
/-- there is no layout if no canonical one is there -/
theorem no_feas {c r : Nat → Int} (hc : ∀ g, g < 6 → 0 ≤ c g ∧ c g ≤ 40) (hn : ∀ b, b < 64 → ∀ d, ¬ okD c d 6 0 0 (hsH r (dB b))) : ∀ (n : Nat) (d s : Nat → Nat), c3 d < n → ¬ feas c r d s := by
  intro n
  induction n with
  | zero => intro d s h; omega
  | succ n ih =>
    intro d s hlt hf
    by_cases q : can c d 6 0 0
    · have hb := cS_lt hf.2.1
      have e := cS_inj hf.2.1 (dB_dig (cS s)) (by rw [cS_dB hb])
      refine hn (cS s) hb d (is_okD hc (fun h _ => ?_) hf q)
      exact sm_cong (fun i hi => by rw [e i hi])
    · obtain ⟨d', s', f1, f2, f3⟩ := can_better hf q
      exact ih d' s' (by omega) f1
/-- the least canonical layout is the best one -/
theorem is_best {c r : Nat → Int} (hc : ∀ g, g < 6 → 0 ≤ c g ∧ c g ≤ 40) (hr : ∀ i, i < 3 → 0 ≤ r i ∧ r i ≤ 40) {d0 : Nat → Nat} {b0 : Nat} (hb0 : b0 < 64) (ho : okD c d0 6 0 0 (hsH r (dB b0)))
    (hm : ∀ b, b < 64 → ∀ d, okD c d 6 0 0 (hsH r (dB b)) → le3 (rkS (dB b0)) (c4 d0) b0 (rkS (dB b)) (c4 d) b) : best c r d0 (dB b0) := by
  have hf0 := okD_is hr (dB_dig b0) (fun _ _ => rfl) ho
  refine ⟨hf0, ?_⟩
  have key : ∀ (n : Nat) (d s : Nat → Nat), c3 d < n → feas c r d s → le3 (rkS (dB b0)) (c3 d0) (cS (dB b0)) (rkS s) (c3 d) (cS s) := by
    intro n
    induction n with
    | zero => intro d s h; omega
    | succ n ih =>
      intro d s hlt hf
      by_cases q : can c d 6 0 0
      · have hb := cS_lt hf.2.1
        have e := cS_inj hf.2.1 (dB_dig (cS s)) (by rw [cS_dB hb])
        have hk : okD c d 6 0 0 (hsH r (dB (cS s))) := is_okD hc (fun h _ => sm_cong (fun i hi => by rw [e i hi])) hf q
        have l := hm (cS s) hb d hk
        rw [(rkS_cong e).1, cS_dB hb0]
        unfold le3 at l ⊢
        rcases l with l | ⟨l1, l⟩
        · exact Or.inl l
        · refine Or.inr ⟨l1, ?_⟩
          rcases l with l | ⟨l2, l3⟩
          · exact Or.inl (c34 hf0.1 hf.1 l)
          · exact Or.inr ⟨c34e hf0.1 hf.1 l2, l3⟩
      · obtain ⟨d', s', f1, f2, f3⟩ := can_better hf q
        have l := ih d' s' (by omega) f1
        unfold le3 at l ⊢
        omega
  exact fun d s hf => key (c3 d + 1) d s (by omega) hf
/-- the class's best layout among the first codes of sheets -/
def stC (c r : Nat → Int) (i : Nat) (M : Mem) : Prop := (M 57 7 = 1048576 ∧ M 57 8 = 4096 ∧ M 57 9 = 64 ∧ ∀ b, b < i → ∀ d, ¬ okD c d 6 0 0 (hsH r (dB b))) ∨
  ∃ b0 d0, b0 < i ∧ okD c d0 6 0 0 (hsH r (dB b0)) ∧ M 57 7 = (rkS (dB b0) : Int) ∧ M 57 8 = (c4 d0 : Int) ∧ M 57 9 = (b0 : Int) ∧ ∀ b, b < i → ∀ d, okD c d 6 0 0 (hsH r (dB b)) → le3 (rkS (dB b0)) (c4 d0) b0 (rkS (dB b)) (c4 d) b
theorem stC_frame {c r : Nat → Int} {i : Nat} {M M' : Mem} (h : M' 57 = M 57) (hS : stC c r i M) : stC c r i M' := by
  unfold stC at *
  rw [h]
  exact hS
/-- a code of sheets that is no better -/
theorem stC_skip {c r : Nat → Int} {i : Nat} {M : Mem} (hS : stC c r i M) (hn : ∀ d, okD c d 6 0 0 (hsH r (dB i)) → ∃ b0 d0, M 57 7 = (rkS (dB b0) : Int) ∧ M 57 8 = (c4 d0 : Int) ∧ (rkS (dB b0) < rkS (dB i) ∨ (rkS (dB b0) = rkS (dB i) ∧ c4 d0 ≤ c4 d))) (hr : ∀ d, okD c d 6 0 0 (hsH r (dB i)) → M 57 7 ≠ 1048576) : stC c r (i + 1) M := by
  rcases hS with ⟨e1, e2, e3, e4⟩ | ⟨b0, d0, q1, q2, q3, q4, q5, q6⟩
  · refine Or.inl ⟨e1, e2, e3, fun b hb d hd => ?_⟩
    by_cases e : b = i
    · subst e; exact hr d hd e1
    · exact e4 b (by omega) d hd
  · refine Or.inr ⟨b0, d0, by omega, q2, q3, q4, q5, fun b hb d hd => ?_⟩
    by_cases e : b = i
    · subst e
      obtain ⟨b1, d1, w1, w2, w3⟩ := hn d hd
      unfold le3
      omega
    · exact q6 b (by omega) d hd
theorem rk_lt {b : Nat} : rkS (dB b) ≤ 15 := by
  have := hp_sh (dB_dig b)
  unfold rkS
  omega
def frS (M M' : Mem) : Prop := (∀ k, k ≠ 57 → k ≠ 59 → M' k = M k) ∧ ∀ j, j ≠ 7 → j ≠ 8 → j ≠ 9 → M' 57 j = M 57 j
theorem frS.refl (M : Mem) : frS M M := ⟨fun _ _ _ => rfl, fun _ _ _ _ => rfl⟩
theorem frS.trans {M M' M'' : Mem} (h : frS M M') (h2 : frS M' M'') : frS M M'' := ⟨fun k a b => (h2.1 k a b).trans (h.1 k a b), fun j a b c => (h2.2 j a b c).trans (h.2 j a b c)⟩
theorem frS.up57 {M M' : Mem} (h : frS M M') {i : Nat} (v : Int) (hi : i = 7 ∨ i = 8 ∨ i = 9) : frS M (up M' 57 i v) := by
  refine ⟨fun k a b => by rw [up_ne _ _ _ a]; exact h.1 k a b, fun j a b c => ?_⟩
  rw [up_snn _ _ _ (by omega)]
  exact h.2 j a b c
theorem s_try {c r : Nat → Int} {b : Nat} {M : Mem} {Q : Mem → Prop} (hb : b < 64) (hc : ∀ g, g < 6 → 0 ≤ c g ∧ c g ≤ 40) (hr : ∀ i, i < 3 → 0 ≤ r i ∧ r i ≤ 40) (h58 : ∀ g, g < 6 → M 58 g = c g) (h90 : ∀ i, i < 3 → M 90 i = r i) (h5 : M 57 5 = sm c 6) (hS : stC c r b M)
    (h : ∀ M', frS M M' → M' 58 = M 58 → stC c r (b + 1) M' → Q M') : wp_X0_trySheets (b : Int) M Q := by
  have rb := rk_lt (b := b)
  have r57 : (0 ≤ M 57 7 ∧ M 57 7 ≤ 1048576) ∧ 0 ≤ M 57 8 ∧ M 57 8 ≤ 4096 := by
    rcases hS with ⟨e1, e2, e3, e4⟩ | ⟨b0, d0, q1, q2, q3, q4, q5, q6⟩
    · omega
    · have := rk_lt (b := b0)
      have hf := okD_is hr (dB_dig b0) (fun _ _ => rfl) q2
      have a0 := hf.1 0 (by decide); have a1 := hf.1 1 (by decide); have a2 := hf.1 2 (by decide); have a3 := hf.1 3 (by decide); have a4 := hf.1 4 (by decide); have a5 := hf.1 5 (by decide)
      have : c4 d0 ≤ 4096 := by unfold c4; omega
      omega
  have s52r : 0 ≤ sm c 6 ∧ sm c 6 ≤ 240 := sm_bound (c := 40) (n := 6) hc
  unfold wp_X0_trySheets
  refine s_rankOf hb ?_
  refine ⟨⟨by omega, by omega⟩, ⟨by omega, by omega⟩, fun q => ?_, fun q => ?_⟩
  · refine h M (frS.refl M) rfl (stC_skip hS (fun d hd => ?_) (fun d hd => by omega))
    rcases hS with ⟨e1, e2, e3, e4⟩ | ⟨b0, d0, q1, q2, q3, q4, q5, q6⟩
    · omega
    · exact ⟨b0, d0, q3, q4, Or.inl (by omega)⟩
  · refine s_makeRoom (r := r) (t := sm c 6) hb hr h90 h5 ⟨by omega, by omega⟩ (fun M1 hk h59 hle => ?_) (fun M1 hk hle => ?_)
    · refine ⟨by decide, fun _ => ?_, fun w => absurd (by decide) w⟩
      have f1 : frS M M1 := ⟨fun k _ e3 => hk k e3, fun j _ _ _ => by rw [hk 57 (by decide)]⟩
      have e57 : M1 57 = M 57 := hk 57 (by decide)
      have e58 : M1 58 = M 58 := hk 58 (by decide)
      have hS1 := stC_frame e57 hS
      have rmok : ∀ d, okD c d 6 0 0 (M1 59) ↔ okD c d 6 0 0 (hsH r (dB b)) := by
        intro d
        constructor
        · intro w
          have hf := okD_is hr (dB_dig b) h59 w
          refine is_okD hc (fun _ _ => rfl) hf ?_
          exact Classical.byContradiction (fun hcn => by
            have cn : ∀ (k g o : Nat) (rm : Nat → Int), okD c d k g o rm → can c d k g o := by
              intro k
              induction k with
              | zero => intro _ _ _ _; trivial
              | succ k ih => intro g o rm w; exact ⟨fun z => ih _ _ _ (w.1 z).2, fun z => ⟨(w.2 z).2.1, ih _ _ _ (w.2 z).2.2.2⟩⟩
            exact hcn (cn 6 0 0 _ w))
        · intro w
          have hf := okD_is hr (dB_dig b) (fun _ _ => rfl) w
          refine is_okD hc h59 hf ?_
          have cn : ∀ (k g o : Nat) (rm : Nat → Int), okD c d k g o rm → can c d k g o := by
            intro k
            induction k with
            | zero => intro _ _ _ _; trivial
            | succ k ih => intro g o rm w; exact ⟨fun z => ih _ _ _ (w.1 z).2, fun z => ⟨(w.2 z).2.1, ih _ _ _ (w.2 z).2.2.2⟩⟩
          exact cn 6 0 0 _ w
      refine s_least hc 6 0 8 0 M1 _ rfl (by decide) (by decide) (by rw [e58]; exact h58) (fun h' hh => by rw [h59 h' hh]; exact hs_nn hr h') (fun hn => ?_) (fun d hd hmin => ?_)
      · refine ⟨by decide, fun _ => h M1 f1 e58 (stC_skip hS1 (fun d hd => absurd ((rmok d).mpr hd) (hn d)) (fun d hd => absurd ((rmok d).mpr hd) (hn d))), fun w => absurd rfl w⟩
      · rw [cdD_6]
        have hd' := (rmok d).mp hd
        have hmin' : ∀ d', okD c d' 6 0 0 (hsH r (dB b)) → c4 d ≤ c4 d' := fun d' w => by
          have := hmin d' ((rmok d').mpr w)
          rw [cdD_6, cdD_6] at this
          exact this
        have hf := okD_is hr (dB_dig b) (fun _ _ => rfl) hd'
        have a0 := hf.1 0 (by decide); have a1 := hf.1 1 (by decide); have a2 := hf.1 2 (by decide); have a3 := hf.1 3 (by decide); have a4 := hf.1 4 (by decide); have a5 := hf.1 5 (by decide)
        have c4l : c4 d ≤ 4096 := by unfold c4; omega
        rw [e57]
        have take : (∀ b', b' < b → ∀ d', okD c d' 6 0 0 (hsH r (dB b')) → rkS (dB b) < rkS (dB b') ∨ (rkS (dB b) = rkS (dB b') ∧ c4 d < c4 d')) → Q (up (up (up M1 57 7 (rkS (dB b) : Int)) 57 8 (c4 d : Int)) 57 9 (b : Int)) := by
          intro hall
          refine h _ (((f1.up57 _ (Or.inl rfl)).up57 _ (Or.inr (Or.inl rfl))).up57 _ (Or.inr (Or.inr rfl))) ?_ (Or.inr ⟨b, d, by omega, hd', rfl, rfl, rfl, fun b' hb' d' w => ?_⟩)
          · rw [up_ne _ _ _ (by decide), up_ne _ _ _ (by decide), up_ne _ _ _ (by decide)]; exact e58
          · unfold le3
            by_cases e : b' = b
            · subst e
              have := hmin' d' w
              omega
            · have := hall b' (by omega) d' w
              omega
        refine ⟨⟨by omega, by omega⟩, fun w => absurd w (by omega), fun _ => ⟨⟨by omega, by omega⟩, ⟨by omega, by omega⟩, fun w => take (fun b' hb' d' z => ?_), fun w => ⟨⟨by omega, by omega⟩, ⟨by omega, by omega⟩, fun w2 => ?_, fun w2 => take (fun b' hb' d' z => ?_)⟩⟩⟩
        · rcases hS with ⟨e1, e2, e3, e4⟩ | ⟨b0, d0, q1, q2, q3, q4, q5, q6⟩
          · exact absurd z (e4 b' hb' d')
          · have := q6 b' hb' d' z
            unfold le3 at this
            omega
        · refine h M1 f1 e58 (stC_skip hS1 (fun d' z => ?_) (fun d' z => ?_))
          · rcases hS with ⟨e1, e2, e3, e4⟩ | ⟨b0, d0, q1, q2, q3, q4, q5, q6⟩
            · omega
            · have := hmin' d' z
              exact ⟨b0, d0, by rw [e57]; exact q3, by rw [e57]; exact q4, by omega⟩
          · rw [e57]; omega
        · rcases hS with ⟨e1, e2, e3, e4⟩ | ⟨b0, d0, q1, q2, q3, q4, q5, q6⟩
          · exact absurd z (e4 b' hb' d')
          · have := q6 b' hb' d' z
            unfold le3 at this
            omega
    · refine ⟨by decide, fun w => absurd rfl w, fun _ => ?_⟩
      have f1 : frS M M1 := ⟨fun k _ e3 => hk k e3, fun j _ _ _ => by rw [hk 57 (by decide)]⟩
      have no : ∀ d, ¬ okD c d 6 0 0 (hsH r (dB b)) := fun d hd => hle (feas_tot (okD_is hr (dB_dig b) (fun _ _ => rfl) hd))
      exact h M1 f1 (hk 58 (by decide)) (stC_skip (stC_frame (hk 57 (by decide)) hS) (fun d hd => absurd hd (no d)) (fun d hd => absurd hd (no d)))
/-- seek(): the best layout, if there is one -/
theorem s_seek {c r : Nat → Int} {M : Mem} {Q : Mem → Prop} (c40 : ∀ g, g < 6 → 0 ≤ c g ∧ c g ≤ 40) (r40 : ∀ i, i < 3 → 0 ≤ r i ∧ r i ≤ 40) (h58 : ∀ g, g < 6 → M 58 g = c g) (h90 : ∀ i, i < 3 → M 90 i = r i) (h5 : M 57 5 = sm c 6)
    (h0 : ∀ M', frS M M' → M' 57 7 = 1048576 → (∀ d s, ¬ feas c r d s) → Q M')
    (h1 : ∀ M' d s, frS M M' → best c r d s → M' 57 7 = (rkS s : Int) → M' 57 8 = (c4 d : Int) → M' 57 9 = (cS s : Int) → Q M') : wp_X0_seek M Q := by
  have go21 : ∀ (k i : Nat) (M1 : Mem), i + k = 64 → frS M M1 → stC c r i M1 → wp_X0_seek_21 Q (k + 1) (i : Int) M1 := by
    intro k
    induction k with
    | zero =>
      intro i M1 hi f1 hS
      have e : i = 64 := by omega
      subst e
      rw [wp_X0_seek_21]
      refine ⟨by decide, fun _ => ?_, fun q => absurd (by decide) q⟩
      rcases hS with ⟨e1, e2, e3, e4⟩ | ⟨b0, d0, q1, q2, q3, q4, q5, q6⟩
      · exact h0 M1 f1 e1 (fun d s => no_feas c40 e4 (c3 d + 1) d s (by omega))
      · exact h1 M1 d0 (dB b0) f1 (is_best c40 r40 q1 q2 q6) q3 q4 (by rw [q5, cS_dB q1])
    | succ k ih =>
      intro i M1 hi f1 hS
      rw [wp_X0_seek_21]
      refine ⟨⟨by omega, by omega⟩, fun q => absurd q (by omega), fun _ => ?_⟩
      have e58 : M1 58 = M 58 := f1.1 58 (by decide) (by decide)
      have e90 : M1 90 = M 90 := f1.1 90 (by decide) (by decide)
      have e5 : M1 57 5 = M 57 5 := f1.2 5 (by decide) (by decide) (by decide)
      refine s_try (c := c) (r := r) (by omega) c40 r40 (by rw [e58]; exact h58) (by rw [e90]; exact h90) (by rw [e5]; exact h5) hS (fun M2 f2 _ hS2 => ?_)
      exact ih (i + 1) M2 (by omega) (f1.trans f2) hS2
  unfold wp_X0_seek
  exact ⟨65, go21 64 0 _ rfl ((((frS.refl M).up57 _ (Or.inl rfl)).up57 _ (Or.inr (Or.inl rfl))).up57 _ (Or.inr (Or.inr rfl))) (Or.inl ⟨rfl, rfl, rfl, fun b hb => absurd hb (by omega)⟩)⟩
/-- what countAll() leaves -/
def frCnt (M M' : Mem) : Prop := (∀ k, k ≠ 57 → k ≠ 58 → k ≠ 90 → M' k = M k) ∧ ∀ j, j ≠ 5 → M' 57 j = M 57 j
theorem s_countAll {B : Int} {M : Mem} {Q : Mem → Prop} (hL : RLb B M) (hF : RFb M) (h : ∀ M', frCnt M M' → (∀ g, g < 6 → M' 58 g = cwM M g) → (∀ i, i < 3 → M' 90 i = rmF (M 54) i) → M' 57 5 = sm (cwM M) 6 → Q M') : wp_X0_countAll M Q := by
  have go27 : ∀ (k i : Nat) (M1 : Mem), i + k = 3 → frCnt M M1 → (∀ g, g < 6 → M1 58 g = cwM M g) → (∀ j, j < i → M1 90 j = rmF (M 54) j) → wp_X0_countAll_27 Q (k + 1) (i : Int) M1 := by
    intro k
    induction k with
    | zero =>
      intro i M1 hi f1 q58 q90
      rw [wp_X0_countAll_27]
      refine ⟨⟨by omega, by omega⟩, fun _ => s_allWaiting ?_, fun q => absurd (by omega) q⟩
      have e52 : M1 52 = M 52 := f1.1 52 (by decide) (by decide) (by decide)
      rw [e52, sm_cong (g' := cwM M) (fun g hg => (hL.2.2.2 g hg).1)]
      refine h _ ⟨fun k a b c => by rw [up_ne _ _ _ a]; exact f1.1 k a b c, fun j a => by rw [up_snn _ _ _ a]; exact f1.2 j a⟩ (fun g hg => ?_) (fun j hj => ?_) (up_sn _ _ _ _)
      · rw [up_ne _ _ _ (by decide)]; exact q58 g hg
      · rw [up_ne _ _ _ (by decide)]; exact q90 j (by omega)
    | succ k ih =>
      intro i M1 hi f1 q58 q90
      rw [wp_X0_countAll_27]
      refine ⟨⟨by omega, by omega⟩, fun q => absurd q (by omega), fun _ => ?_⟩
      have e54 : M1 54 = M 54 := f1.1 54 (by decide) (by decide) (by decide)
      have f0 := (hF i (by omega)).2
      refine s_freeIn rfl (by omega) (by rw [e54]; exact f0.1) (by rw [e54]; exact f0.2) ⟨⟨by omega, by omega⟩, ?_⟩
      rw [e54, Int.toNat_natCast]
      refine ih (i + 1) _ (by omega) ⟨fun k a b c => by rw [up_ne _ _ _ c]; exact f1.1 k a b c, fun j a => by rw [up_ne _ _ _ (by decide)]; exact f1.2 j a⟩ (fun g hg => by rw [up_ne _ _ _ (by decide)]; exact q58 g hg) (fun j hj => ?_)
      rw [up_same]
      by_cases e : j = i
      · subst e; rw [upr_at]
      · rw [upr_ne _ _ e]; exact q90 j (by omega)
  have go2 : ∀ (k i : Nat) (M1 : Mem), i + k = 6 → frCnt M M1 → (∀ g, g < i → M1 58 g = cwM M g) → wp_X0_countAll_2 Q (k + 1) (i : Int) M1 := by
    intro k
    induction k with
    | zero =>
      intro i M1 hi f1 q58
      rw [wp_X0_countAll_2]
      exact ⟨⟨by omega, by omega⟩, fun _ => ⟨4, go27 3 0 M1 rfl f1 (fun g hg => q58 g (by omega)) (fun j hj => absurd hj (by omega))⟩, fun q => absurd (by omega) q⟩
    | succ k ih =>
      intro i M1 hi f1 q58
      rw [wp_X0_countAll_2]
      refine ⟨⟨by omega, by omega⟩, fun q => absurd q (by omega), fun _ => s_waitingIn rfl (by omega) ⟨⟨by omega, by omega⟩, ?_⟩⟩
      have e52 : M1 52 = M 52 := f1.1 52 (by decide) (by decide) (by decide)
      rw [e52, Int.toNat_natCast, (hL.2.2.2 i (by omega)).1]
      refine ih (i + 1) _ (by omega) ⟨fun k a b c => by rw [up_ne _ _ _ b]; exact f1.1 k a b c, fun j a => by rw [up_ne _ _ _ (by decide)]; exact f1.2 j a⟩ (fun g hg => ?_)
      rw [up_same]
      by_cases e : g = i
      · subst e; rw [upr_at]
      · rw [upr_ne _ _ e]; exact q58 g (by omega)
  unfold wp_X0_countAll
  exact ⟨7, go2 6 0 M rfl ⟨fun _ _ _ _ => rfl, fun _ _ => rfl⟩ (fun g hg => absurd hg (by omega))⟩
