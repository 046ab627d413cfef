/-! pure: come, sheet, spoil, look(0 .. 2) -/
def fillR (f : Nat → Int) (a b : Nat) (v : Int) : Nat → Int := fun j => if a ≤ j ∧ j < b then v else f j
theorem fillR_s (f : Nat → Int) {a i : Nat} (v : Int) (h : a ≤ i) : upr (fillR f a i v) i v = fillR f a (i + 1) v := by
  funext j
  unfold upr fillR
  by_cases e : j = i
  · rw [if_pos e, if_pos (by omega)]
  · rw [if_neg e]
    by_cases c : a ≤ j ∧ j < i
    · rw [if_pos c, if_pos (by omega)]
    · rw [if_neg c, if_neg (by omega)]
theorem fillR_0 (f : Nat → Int) (a : Nat) (v : Int) : fillR f a a v = f := by
  funext j
  unfold fillR
  rw [if_neg (by omega)]
theorem fillR_in (f : Nat → Int) {a b j : Nat} (v : Int) (h1 : a ≤ j) (h2 : j < b) : fillR f a b v j = v := by
  unfold fillR
  rw [if_pos ⟨h1, h2⟩]
theorem fillR_out (f : Nat → Int) {a b j : Nat} (v : Int) (h : ¬ (a ≤ j ∧ j < b)) : fillR f a b v j = f j := by
  unfold fillR
  rw [if_neg h]
def set2 (M : Mem) (a : Nat) (A : Nat → Int) (b : Nat) (B : Nat → Int) : Mem := fun k => if k = a then A else if k = b then B else M k
theorem set2_a (M : Mem) (a : Nat) (A : Nat → Int) (b : Nat) (B : Nat → Int) : set2 M a A b B a = A := by simp [set2]
theorem set2_b (M : Mem) {a b : Nat} (A : Nat → Int) (B : Nat → Int) (h : b ≠ a) : set2 M a A b B b = B := by simp [set2, h]
theorem set2_ne (M : Mem) {a b k : Nat} (A : Nat → Int) (B : Nat → Int) (h1 : k ≠ a) (h2 : k ≠ b) : set2 M a A b B k = M k := by simp [set2, h1, h2]
theorem set2_self (M : Mem) (a b : Nat) : set2 M a (M a) b (M b) = M := by
  funext k
  unfold set2
  split
  · rename_i e; rw [e]
  · split
    · rename_i e; rw [e]
    · rfl
theorem set2_up (M : Mem) {a b : Nat} (A B : Nat → Int) (i j : Nat) (x y : Int) (h : b ≠ a) : up (up (set2 M a A b B) a i x) b j y = set2 M a (upr A i x) b (upr B j y) := by
  funext k
  by_cases c : k = b
  · subst c
    rw [up_same, up_ne _ _ _ h, set2_b _ _ _ h, set2_b _ _ _ h]
  · rw [up_ne _ _ _ c]
    by_cases c2 : k = a
    · subst c2
      rw [up_same, set2_a, set2_a]
    · rw [up_ne _ _ _ c2, set2_ne _ _ _ c2 c, set2_ne _ _ _ c2 c]
theorem sm_upd {f f' : Nat → Int} {i : Nat} : ∀ {n : Nat}, i < n → (∀ k, k < n → k ≠ i → f' k = f k) → sm f' n = sm f n + (f' i - f i)
  | 0, h, _ => absurd h (by omega)
  | n + 1, h, hk => by
    simp only [sm]
    by_cases e : i = n
    · subst e
      rw [sm_cong (g' := f) (fun k hk2 => hk k (by omega) (by omega))]
      omega
    · have := sm_upd (f := f) (f' := f') (i := i) (n := n) (by omega) (fun k h1 h2 => hk k (by omega) h2)
      rw [hk n (by omega) (fun q => e q.symm)]
      omega
theorem sm_const (c : Int) : ∀ n : Nat, sm (fun _ => c) n = c * n
  | 0 => by simp [sm]
  | n + 1 => by
    simp only [sm]
    rw [sm_const c n, show ((n + 1 : Nat) : Int) = (n : Int) + 1 by omega, Int.mul_add]
    omega
theorem cwF_cong {w w' gr gr' : Nat → Int} {n : Nat} (h1 : ∀ i, i < n → w' i = w i) (h2 : ∀ i, i < n → gr' i = gr i) (g : Nat) : cwF w' gr' n g = cwF w gr n g := by
  unfold cwF
  exact sm_cong (fun i hi => by rw [h1 i hi, h2 i hi])
/-- so many wait in a group: the reference counts -/
theorem s8_waiting_loop {g : Nat} {M : Mem} {Q : Int → Mem → Prop} (hn : 0 ≤ M 62 31 ∧ M 62 31 ≤ 200) (hw : ∀ i : Nat, (i : Int) < M 62 31 → (M 80 i = 0 ∨ M 80 i = 1) ∧ Rg (M 78 i)) (hg : g < 6) (h : Q (cwF (M 80) (M 78) (M 62 31).toNat g) M) :
    ∀ (k i : Nat), ((i + k : Nat) : Int) = M 62 31 → wp_X8_waiting_4 (g : Int) Q (k + 1) (cwF (M 80) (M 78) i g) (i : Int) M := by
  intro k
  induction k with
  | zero =>
    intro i hi
    rw [wp_X8_waiting_4]
    rw [show (M 62 31).toNat = i by omega] at h
    exact ⟨⟨by omega, by omega⟩, ⟨by omega, by omega⟩, fun _ => h, fun c => absurd (by omega) c⟩
  | succ k ih =>
    intro i hi
    rw [wp_X8_waiting_4, Int.toNat_natCast]
    obtain ⟨w1, w2⟩ := hw i (by omega)
    have e : cwF (M 80) (M 78) (i + 1) g = cwF (M 80) (M 78) i g + if M 80 i = 1 ∧ M 78 i = (g : Int) then 1 else 0 := rfl
    have st := ih (i + 1) (by omega)
    rw [e] at st
    refine ⟨⟨by omega, by omega⟩, ⟨by omega, by omega⟩, fun c => absurd c (by omega), fun _ => ⟨⟨by omega, by omega⟩, ⟨by omega, by omega⟩, fun c => ?_, fun c => ⟨⟨by omega, by omega⟩, w2, ⟨by omega, by omega⟩, fun c2 => ?_, fun c2 => ?_⟩⟩⟩
    · rw [if_neg (fun q => by have := q.1; omega)] at st; exact st
    · rw [if_neg (fun q => c2 q.2)] at st; exact st
    · rw [if_pos ⟨by omega, by omega⟩] at st; exact st
theorem s8_waiting {B : Int} {a : Int} {M : Mem} {Q : Int → Mem → Prop} (hR : RLb B M) (ha : 0 ≤ a) (ha6 : a < 6) (h : Q (M 52 a.toNat) M) : wp_X8_waiting a M Q := by
  obtain ⟨⟨n0, n1, n2⟩, hl, ht, hw⟩ := hR
  obtain ⟨g, rfl⟩ : ∃ g : Nat, a = (g : Int) := ⟨a.toNat, by omega⟩
  unfold wp_X8_waiting
  have nn : nL M = (M 62 31).toNat := by unfold nL; rw [n2]
  refine ⟨(M 62 31).toNat + 1, ?_⟩
  have st := s8_waiting_loop (g := g) (M := M) (Q := Q) ⟨by omega, by omega⟩ (fun i hi => ?_) (by omega) ?_ (M 62 31).toNat 0 (by omega)
  · exact st
  · obtain ⟨g1, g2, g3, g4, g5⟩ := hl i (by rw [nn]; omega)
    rw [g4, g1]
    exact ⟨g5, ⟨by omega, by omega⟩⟩
  · rw [Int.toNat_natCast, (hw g (by omega)).1] at h
    unfold cwM at h
    rw [nn] at h
    rw [cwF_cong (w := M 51) (gr := M 49) (fun i hi => (hl i (by rw [nn]; exact hi)).2.2.2.1) (fun i hi => (hl i (by rw [nn]; exact hi)).1)]
    exact h
/-! promise 15 -/
theorem s7_add_loop {a2 : Int} {g f0 m : Nat} {M0 : Mem} {Q : Int → Mem → Prop} (hg : g < 6) (hm : a2 = (m : Int)) (hfm : f0 + m ≤ 200)
    (h : Q (f0 : Int) (up (up (set2 M0 49 (fillR (M0 49) f0 (f0 + m) (g : Int)) 51 (fillR (M0 51) f0 (f0 + m) 1)) 52 g (M0 52 g + (m : Int))) 48 4 (M0 48 4 + (m : Int)))) :
    ∀ (k i : Nat), i + k = f0 + m → f0 ≤ i → wp_X1_addLabels_54 (g : Int) a2 Q (k + 1) (f0 : Int) (i : Int) (set2 M0 49 (fillR (M0 49) f0 i (g : Int)) 51 (fillR (M0 51) f0 i 1)) := by
  subst hm
  intro k
  induction k with
  | zero =>
    intro i hi hi0
    rw [wp_X1_addLabels_54, Int.toNat_natCast]
    have e : i = f0 + m := by omega
    subst e
    exact ⟨⟨by omega, by omega⟩, ⟨by omega, by omega⟩, fun _ => s_changeWaiting rfl hg h, fun c => absurd (by omega) c⟩
  | succ k ih =>
    intro i hi hi0
    rw [wp_X1_addLabels_54, Int.toNat_natCast]
    refine ⟨⟨by omega, by omega⟩, ⟨by omega, by omega⟩, fun c => absurd c (by omega), fun _ => ⟨⟨by omega, by omega⟩, ⟨by omega, by omega⟩, ?_⟩⟩
    rw [set2_up _ _ _ _ _ _ _ (by decide), fillR_s _ _ hi0, fillR_s _ _ hi0]
    exact ih (i + 1) (by omega) (by omega)
theorem s8_come_loop {a2 : Int} {g f0 m : Nat} {x3 : Int} {M0 : Mem} {Q : Int → Mem → Prop} (hm : a2 = (m : Int)) (hfm : f0 + m ≤ 200)
    (h : Q x3 (up (set2 M0 78 (fillR (M0 78) f0 (f0 + m) (g : Int)) 80 (fillR (M0 80) f0 (f0 + m) 1)) 62 31 ((f0 + m : Nat) : Int))) :
    ∀ (k i : Nat), i + k = m → wp_X8_come_53 (g : Int) a2 Q (k + 1) x3 (i : Int) (up (set2 M0 78 (fillR (M0 78) f0 (f0 + i) (g : Int)) 80 (fillR (M0 80) f0 (f0 + i) 1)) 62 31 ((f0 + i : Nat) : Int)) := by
  subst hm
  intro k
  induction k with
  | zero =>
    intro i hi
    rw [wp_X8_come_53]
    have e : i = m := by omega
    subst e
    exact ⟨⟨by omega, by omega⟩, ⟨by omega, by omega⟩, fun _ => h, fun c => absurd (by omega) c⟩
  | succ k ih =>
    intro i hi
    rw [wp_X8_come_53]
    have e31 : ∀ (X : Mem), up X 62 31 ((f0 + i : Nat) : Int) 62 31 = ((f0 + i : Nat) : Int) := fun X => up_sn _ _ _ _
    rw [up_ne _ _ _ (show 62 ≠ 80 by decide), up_ne _ _ _ (show 62 ≠ 78 by decide), e31, Int.toNat_natCast]
    refine ⟨⟨by omega, by omega⟩, ⟨by omega, by omega⟩, fun c => absurd c (by omega), fun _ => ⟨⟨by omega, by omega⟩, ⟨by omega, by omega⟩, ?_⟩⟩
    have st := ih (i + 1) (by omega)
    have em : up (up (up (up (set2 M0 78 (fillR (M0 78) f0 (f0 + i) (g : Int)) 80 (fillR (M0 80) f0 (f0 + i) 1)) 62 31 ((f0 + i : Nat) : Int)) 78 (f0 + i) (g : Int)) 80 (f0 + i) 1) 62 31 (((f0 + i : Nat) : Int) + 1) = up (set2 M0 78 (fillR (M0 78) f0 (f0 + (i + 1)) (g : Int)) 80 (fillR (M0 80) f0 (f0 + (i + 1)) 1)) 62 31 ((f0 + (i + 1) : Nat) : Int) := by
      funext k
      by_cases c : k = 62
      · subst c
        rw [up_same, up_ne _ _ _ (by decide), up_ne _ _ _ (by decide), up_same, upr_upr, up_same, set2_ne _ _ _ (by decide) (by decide), set2_ne _ _ _ (by decide) (by decide)]
        rfl
      · rw [up_ne _ _ _ c, up_ne _ _ _ c]
        by_cases c2 : k = 80
        · subst c2
          rw [up_same, up_ne _ _ _ (by decide), up_ne _ _ _ (by decide), set2_b _ _ _ (by decide), set2_b _ _ _ (by decide), fillR_s _ _ (by omega)]
          rfl
        · rw [up_ne _ _ _ c2]
          by_cases c3 : k = 78
          · subst c3
            rw [up_same, up_ne _ _ _ (by decide), set2_a, set2_a, fillR_s _ _ (by omega)]
            rfl
          · rw [up_ne _ _ _ c3, up_ne _ _ _ c, set2_ne _ _ _ c3 c2, set2_ne _ _ _ c3 c2]
    rw [em]
    exact st
theorem op_come {B a1 a2 : Int} {M : Mem} {G : Prop → Prop} {P : Int → Int → Mem → Prop} (hG : ∀ p, p → G p) (hR : RelB B M) (h1 : Rg a1) (h2 : Rg a2) (h : ∀ r M', Rg r → RelB (B + 1) M' → SameA M M' → P r r M') : wp_X7_come a1 a2 M (fun r1 M1 => G (wp_X8_come a1 a2 M1 (fun r2 M2 => P r1 r2 M2))) := by
  have hR0 := hR
  have go : ∀ r1 r2 : Int, r2 = r1 → Rg r1 → P r1 r2 M := fun r1 r2 e g => by rw [e]; exact h r1 M g (RelB_mono (by omega) hR) (SameA.refl M)
  obtain ⟨hLb, hF, hC, hI, -⟩ := hR
  obtain ⟨⟨n0, n1, n2⟩, hl, ht, hw⟩ := hLb
  have no : ¬ ((0 ≤ a1 ∧ a1 < 6) ∧ (1 ≤ a2 ∧ a2 ≤ 40) ∧ M 52 a1.toNat + a2 ≤ 40 ∧ M 48 4 + a2 ≤ 200) → (fun r2 M1 => (Rg r2 ∧ (r2 = (-1) → G (wp_X8_come a1 a2 M1 (fun r3 M2 => P r2 r3 M2))) ∧ (¬ (r2 = (-1)) → wp_X0_forget M1 (fun M7 => G (wp_X8_come a1 a2 M7 (fun r3 M2 => P r2 r3 M2)))))) (-1) M := by
    intro hn
    refine ⟨by decide, fun _ => hG _ ?_, fun q => absurd rfl q⟩
    unfold wp_X8_come
    refine s_isIn h1 (by decide) (by decide) (fun c1 c2 => ⟨by decide, fun q => absurd q (by decide), fun _ => s_isIn h2 (by decide) (by decide) (fun c3 c4 => ⟨by decide, fun q => absurd q (by decide), fun _ => ?_⟩) (fun c => ⟨by decide, fun _ => go _ _ rfl (by decide), fun q => absurd rfl q⟩)⟩) (fun c => ⟨by decide, fun _ => go _ _ rfl (by decide), fun q => absurd rfl q⟩)
    have w := hw a1.toNat (by omega)
    have wr := (cwF_rng (M 51) (M 49) (nL M) a1.toNat).1
    have w1 : M 52 a1.toNat = cwF (M 51) (M 49) (nL M) a1.toNat := w.1
    refine s8_waiting ⟨⟨n0, n1, n2⟩, hl, ht, hw⟩ c1 (by omega) ?_
    refine ⟨⟨by omega, by omega⟩, fun _ => go _ _ rfl (by decide), fun c => ⟨⟨by omega, by omega⟩, fun c5 => ?_, fun _ => go _ _ rfl (by decide)⟩⟩
    exact absurd ⟨⟨c1, by omega⟩, ⟨c3, c4⟩, by omega, by omega⟩ hn
  unfold wp_X7_come wp_X1_addLabels wp_X7_isGroup
  refine ⟨h1, fun c => ⟨by decide, fun _ => no (by omega), fun q => absurd rfl q⟩, fun c1 => ⟨h1, fun c => ⟨by decide, fun _ => no (by omega), fun q => absurd rfl q⟩, fun c2 => ⟨by decide, fun q => absurd q (by decide), fun _ => ⟨h2, fun c => no (by omega), fun c3 => ⟨h2, fun c4 => s_waitingIn (g := a1.toNat) (by omega) (by omega) ?_, fun c => no (by omega)⟩⟩⟩⟩⟩
  have w := hw a1.toNat (by omega)
  have wr := (cwF_rng (M 51) (M 49) (nL M) a1.toNat).1
  have w1 : M 52 a1.toNat = cwF (M 51) (M 49) (nL M) a1.toNat := w.1
  refine ⟨⟨by omega, by omega⟩, fun c => no (by omega), fun c5 => ⟨⟨by omega, by omega⟩, fun c6 => ?_, fun c => no (by omega)⟩⟩
  obtain ⟨g, rfl⟩ : ∃ g : Nat, a1 = (g : Int) := ⟨a1.toNat, by omega⟩
  obtain ⟨m, rfl⟩ : ∃ m : Nat, a2 = (m : Int) := ⟨a2.toNat, by omega⟩
  obtain ⟨f0, hf0⟩ : ∃ f0 : Nat, M 48 4 = (f0 : Int) := ⟨(M 48 4).toNat, by omega⟩
  rw [Int.toNat_natCast] at w w1 c5 wr
  have hnL : nL M = f0 := by unfold nL; omega
  refine ⟨m + 1, ?_⟩
  rw [hf0]
  have st := s7_add_loop (M0 := M) (Q := fun r2 M1 => (Rg r2 ∧ (r2 = (-1) → G (wp_X8_come (g : Int) (m : Int) M1 (fun r3 M2 => P r2 r3 M2))) ∧ (¬ (r2 = (-1)) → wp_X0_forget M1 (fun M7 => G (wp_X8_come (g : Int) (m : Int) M7 (fun r3 M2 => P r2 r3 M2)))))) (g := g) (f0 := f0) (m := m) (by omega) rfl (by omega) ?_ m f0 (by omega) (Nat.le_refl _)
  · rw [fillR_0, fillR_0, set2_self] at st
    exact st
  refine ⟨⟨by omega, by omega⟩, fun c => absurd c (by omega), fun _ => ?_⟩
  unfold wp_X0_forget
  apply hG
  rw [hf0]
  generalize hA : fillR (M 49) f0 (f0 + m) (g : Int) = A
  generalize hBB : fillR (M 51) f0 (f0 + m) 1 = W
  have v : ∀ k, k ≠ 49 → k ≠ 51 → k ≠ 52 → k ≠ 48 → k ≠ 57 → up (up (up (set2 M 49 A 51 W) 52 g (M 52 g + (m : Int))) 48 4 ((f0 : Int) + (m : Int))) 57 6 0 k = M k := fun k q1 q2 q3 q4 q5 => by rw [up_ne _ _ _ q5, up_ne _ _ _ q4, up_ne _ _ _ q3, set2_ne _ _ _ q1 q2]
  have v49 : up (up (up (set2 M 49 A 51 W) 52 g (M 52 g + (m : Int))) 48 4 ((f0 : Int) + (m : Int))) 57 6 0 49 = A := by rw [up_ne _ _ _ (by decide), up_ne _ _ _ (by decide), up_ne _ _ _ (by decide), set2_a]
  have v51 : up (up (up (set2 M 49 A 51 W) 52 g (M 52 g + (m : Int))) 48 4 ((f0 : Int) + (m : Int))) 57 6 0 51 = W := by rw [up_ne _ _ _ (by decide), up_ne _ _ _ (by decide), up_ne _ _ _ (by decide), set2_b _ _ _ (by decide)]
  have v52 : up (up (up (set2 M 49 A 51 W) 52 g (M 52 g + (m : Int))) 48 4 ((f0 : Int) + (m : Int))) 57 6 0 52 = upr (M 52) g (M 52 g + (m : Int)) := by rw [up_ne _ _ _ (by decide), up_ne _ _ _ (by decide), up_same, set2_ne _ _ _ (by decide) (by decide)]
  have v48 : up (up (up (set2 M 49 A 51 W) 52 g (M 52 g + (m : Int))) 48 4 ((f0 : Int) + (m : Int))) 57 6 0 48 4 = (f0 : Int) + (m : Int) := rfl
  have v57 : up (up (up (set2 M 49 A 51 W) 52 g (M 52 g + (m : Int))) 48 4 ((f0 : Int) + (m : Int))) 57 6 0 57 6 = 0 := rfl
  have vS : SameA M (up (up (up (set2 M 49 A 51 W) 52 g (M 52 g + (m : Int))) 48 4 ((f0 : Int) + (m : Int))) 57 6 0) := by
    refine SameA.up (SameA.up (SameA.up ⟨fun k hk => ?_, fun k q1 q2 => ?_, fun j _ _ _ => ?_⟩ _ (by omega)) _ (by omega)) _ (by omega)
    · rw [set2_ne _ _ _ (by omega) (by omega)]
    · rw [set2_ne _ _ _ (by omega) (by omega)]
    · rw [set2_ne _ _ _ (by decide) (by decide)]
  generalize up (up (up (set2 M 49 A 51 W) 52 g (M 52 g + (m : Int))) 48 4 ((f0 : Int) + (m : Int))) 57 6 0 = M1 at *
  have e31 : M1 62 31 = (f0 : Int) := by rw [v 62 (by decide) (by decide) (by decide) (by decide) (by decide), n2, hf0]
  unfold wp_X8_come
  refine s_isIn h1 (by decide) (by decide) (fun _ _ => ⟨by decide, fun q => absurd q (by decide), fun _ => s_isIn h2 (by decide) (by decide) (fun _ _ => ⟨by decide, fun q => absurd q (by decide), fun _ => ?_⟩) (fun c => absurd ⟨by omega, by omega⟩ c)⟩) (fun c => absurd ⟨by omega, by omega⟩ c)
  have wt : ∀ Q2 : Int → Mem → Prop, Q2 (M 52 g) M1 → wp_X8_waiting (g : Int) M1 Q2 := by
    intro Q2 hq
    unfold wp_X8_waiting
    refine ⟨f0 + 1, ?_⟩
    have st := s8_waiting_loop (g := g) (M := M1) (Q := Q2) ⟨by omega, by omega⟩ (fun i hi => ?_) (by omega) ?_ f0 0 (by omega)
    · exact st
    · obtain ⟨g1, g2, g3, g4, g5⟩ := hl i (by omega)
      rw [v 80 (by decide) (by decide) (by decide) (by decide) (by decide), v 78 (by decide) (by decide) (by decide) (by decide) (by decide), g4, g1]
      exact ⟨g5, ⟨by omega, by omega⟩⟩
    · rw [e31, Int.toNat_natCast, v 80 (by decide) (by decide) (by decide) (by decide) (by decide), v 78 (by decide) (by decide) (by decide) (by decide) (by decide), cwF_cong (w := M 51) (gr := M 49) (fun i hi => (hl i (by omega)).2.2.2.1) (fun i hi => (hl i (by omega)).1)]
      rw [← hnL, ← w1]
      exact hq
  refine wt _ ?_
  refine ⟨⟨by omega, by omega⟩, fun c => absurd c (by omega), fun _ => ?_⟩
  rw [e31]
  refine ⟨⟨by omega, by omega⟩, fun _ => ⟨m + 1, ?_⟩, fun c => absurd (by omega) c⟩
  have st := s8_come_loop (M0 := M1) (Q := fun r2 M2 => P (f0 : Int) r2 M2) (x3 := (f0 : Int)) (g := g) (f0 := f0) (m := m) rfl (by omega) ?_ m 0 (by omega)
  · have st : wp_X8_come_53 (g : Int) (m : Int) (fun r2 M2 => P (f0 : Int) r2 M2) (m + 1) (f0 : Int) 0 (up (set2 M1 78 (fillR (M1 78) f0 f0 (g : Int)) 80 (fillR (M1 80) f0 f0 1)) 62 31 (f0 : Int)) := st
    rw [fillR_0, fillR_0, set2_self, ← e31] at st
    have es : up M1 62 31 (M1 62 31) = M1 := by
      rw [up_set1, upr_self, set1_self]
    rw [es, e31] at st
    exact st
  rw [v 78 (by decide) (by decide) (by decide) (by decide) (by decide), v 80 (by decide) (by decide) (by decide) (by decide) (by decide)]
  generalize hA8 : fillR (M 78) f0 (f0 + m) (g : Int) = A8
  generalize hB8 : fillR (M 80) f0 (f0 + m) 1 = W8
  have u : ∀ k, k ≠ 78 → k ≠ 80 → k ≠ 62 → up (set2 M1 78 A8 80 W8) 62 31 ((f0 + m : Nat) : Int) k = M1 k := fun k q1 q2 q3 => by rw [up_ne _ _ _ q3, set2_ne _ _ _ q1 q2]
  have u78 : up (set2 M1 78 A8 80 W8) 62 31 ((f0 + m : Nat) : Int) 78 = A8 := by rw [up_ne _ _ _ (by decide), set2_a]
  have u80 : up (set2 M1 78 A8 80 W8) 62 31 ((f0 + m : Nat) : Int) 80 = W8 := by rw [up_ne _ _ _ (by decide), set2_b _ _ _ (by decide)]
  have u31 : up (set2 M1 78 A8 80 W8) 62 31 ((f0 + m : Nat) : Int) 62 31 = ((f0 + m : Nat) : Int) := up_sn _ _ _ _
  have uS : SameA M1 (up (set2 M1 78 A8 80 W8) 62 31 ((f0 + m : Nat) : Int)) := by
    refine SameA.up ⟨fun k hk => ?_, fun k q1 q2 => ?_, fun j _ _ _ => ?_⟩ _ (by omega)
    · rw [set2_ne _ _ _ (by omega) (by omega)]
    · rw [set2_ne _ _ _ (by omega) (by omega)]
    · rw [set2_ne _ _ _ (by decide) (by decide)]
  generalize up (set2 M1 78 A8 80 W8) 62 31 ((f0 + m : Nat) : Int) = M2 at *
  have u2 : ∀ k, k ≠ 78 → k ≠ 80 → k ≠ 62 → k ≠ 49 → k ≠ 51 → k ≠ 52 → k ≠ 48 → k ≠ 57 → M2 k = M k := fun k q1 q2 q3 q4 q5 q6 q7 q8 => by rw [u k q1 q2 q3, v k q4 q5 q6 q7 q8]
  have w48 : M2 48 4 = (f0 : Int) + (m : Int) := by rw [u 48 (by decide) (by decide) (by decide)]; exact v48
  have w49 : M2 49 = A := by rw [u 49 (by decide) (by decide) (by decide)]; exact v49
  have w51 : M2 51 = W := by rw [u 51 (by decide) (by decide) (by decide)]; exact v51
  have w52 : M2 52 = upr (M 52) g (M 52 g + (m : Int)) := by rw [u 52 (by decide) (by decide) (by decide)]; exact v52
  have hn2 : nL M2 = f0 + m := by unfold nL; rw [w48]; omega
  refine h _ M2 ⟨by omega, by omega⟩ ⟨⟨⟨by omega, by omega, by omega⟩, fun i hi => ?_, fun i hi => ?_, fun g' hg' => ?_⟩, fun s hs => ?_, fun p hp => ?_, ⟨fun p hp => ?_, fun p hp => ?_, fun p q hp hq => ?_⟩, Or.inl (by rw [u 57 (by decide) (by decide) (by decide)]; exact v57)⟩ (vS.trans uS)
  · rw [u78, u80, w49, w51, ← hA, ← hBB, ← hA8, ← hB8]
    by_cases c : i < f0
    · rw [fillR_out _ _ (by omega), fillR_out _ _ (by omega), fillR_out _ _ (by omega), fillR_out _ _ (by omega)]
      exact hl i (by omega)
    · rw [fillR_in _ _ (by omega) (by omega), fillR_in _ _ (by omega) (by omega), fillR_in _ _ (by omega) (by omega), fillR_in _ _ (by omega) (by omega)]
      exact ⟨rfl, by omega, by omega, rfl, Or.inr rfl⟩
  · rw [u2 79 (by decide) (by decide) (by decide) (by decide) (by decide) (by decide) (by decide) (by decide), u2 50 (by decide) (by decide) (by decide) (by decide) (by decide) (by decide) (by decide) (by decide)]
    have := ht i hi
    omega
  · unfold cwM
    rw [w52, w49, w51, hn2]
    have hc : cwF W A (f0 + m) g' = cwF (M 51) (M 49) f0 g' + (if g' = g then (m : Int) else 0) := by
      unfold cwF
      rw [sm_split]
      have e1 : sm (fun i => if W i = 1 ∧ A i = (g' : Int) then (1 : Int) else 0) f0 = sm (fun i => if M 51 i = 1 ∧ M 49 i = (g' : Int) then (1 : Int) else 0) f0 := sm_cong (fun i hi => by rw [← hA, ← hBB, fillR_out _ _ (by omega), fillR_out _ _ (by omega)])
      have e2 : sm (fun k => if W (f0 + k) = 1 ∧ A (f0 + k) = (g' : Int) then (1 : Int) else 0) m = sm (fun _ => if g' = g then (1 : Int) else 0) m := sm_cong (fun k hk => by
        rw [← hA, ← hBB, fillR_in _ _ (by omega) (by omega), fillR_in _ _ (by omega) (by omega)]
        by_cases c : g' = g
        · subst c; simp
        · have c' : ¬ (g : Int) = (g' : Int) := by omega
          simp [c, c'])
      rw [e1, e2, sm_const]
      split <;> omega
    rw [hc]
    have o := hw g' hg'
    have o1 : M 52 g' = cwF (M 51) (M 49) (nL M) g' := o.1
    rw [hnL] at o1
    by_cases c : g' = g
    · subst c
      rw [upr_at, if_pos rfl]
      omega
    · rw [upr_ne _ _ c, if_neg c]
      omega
  · rw [u2 75 (by decide) (by decide) (by decide) (by decide) (by decide) (by decide) (by decide) (by decide), u2 54 (by decide) (by decide) (by decide) (by decide) (by decide) (by decide) (by decide) (by decide)]
    exact hF s hs
  · rw [u2 76 (by decide) (by decide) (by decide) (by decide) (by decide) (by decide) (by decide) (by decide), u2 55 (by decide) (by decide) (by decide) (by decide) (by decide) (by decide) (by decide) (by decide), u2 77 (by decide) (by decide) (by decide) (by decide) (by decide) (by decide) (by decide) (by decide), u2 56 (by decide) (by decide) (by decide) (by decide) (by decide) (by decide) (by decide) (by decide), w48]
    have := hC p hp
    refine ⟨this.1, this.2.1, by omega, this.2.2.2⟩
  · rw [u2 54 (by decide) (by decide) (by decide) (by decide) (by decide) (by decide) (by decide) (by decide), u2 55 (by decide) (by decide) (by decide) (by decide) (by decide) (by decide) (by decide) (by decide), u2 56 (by decide) (by decide) (by decide) (by decide) (by decide) (by decide) (by decide) (by decide)]
    exact hI.1 p hp
  · rw [u2 55 (by decide) (by decide) (by decide) (by decide) (by decide) (by decide) (by decide) (by decide), u2 56 (by decide) (by decide) (by decide) (by decide) (by decide) (by decide) (by decide) (by decide), w51, ← hBB]
    intro q1 q2
    have := hC p hp
    rw [fillR_out _ _ (by omega)] at q2
    exact hI.2.1 p hp q1 q2
  · rw [u2 55 (by decide) (by decide) (by decide) (by decide) (by decide) (by decide) (by decide) (by decide), u2 56 (by decide) (by decide) (by decide) (by decide) (by decide) (by decide) (by decide) (by decide)]
    exact hI.2.2 p q hp hq
