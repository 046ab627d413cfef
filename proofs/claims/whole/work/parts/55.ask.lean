/-! pure: the best layout is asked for -/
theorem RelB_cch {B : Int} {M M' : Mem} (h : ∀ k, (k = 48 ∨ k = 49 ∨ k = 50 ∨ k = 51 ∨ k = 52 ∨ k = 54 ∨ k = 55 ∨ k = 56 ∨ (75 ≤ k ∧ k ≤ 80)) → M' k = M k) (h31 : M' 62 31 = M 62 31) (hK : RKb M') (hR : RelB B M) : RelB B M' := by
  have e48 := h 48 (by omega); have e49 := h 49 (by omega); have e50 := h 50 (by omega); have e51 := h 51 (by omega); have e52 := h 52 (by omega)
  have e54 := h 54 (by omega); have e55 := h 55 (by omega); have e56 := h 56 (by omega)
  have e75 := h 75 (by omega); have e76 := h 76 (by omega); have e77 := h 77 (by omega); have e78 := h 78 (by omega); have e79 := h 79 (by omega); have e80 := h 80 (by omega)
  obtain ⟨a, b, c, d, -⟩ := hR
  refine ⟨?_, ?_, ?_, ?_, hK⟩
  · unfold RLb cwM nL at *
    rw [e48, e49, e50, e51, e52, e78, e79, e80, h31]; exact a
  · unfold RFb at *
    rw [e54, e75]; exact b
  · unfold RCb at *
    rw [e48, e55, e56, e76, e77]; exact c
  · unfold RIb at *
    rw [e51, e54, e55, e56]; exact d
theorem RLb_wg {B : Int} {M : Mem} (h : RLb B M) : ∀ i, i < nL M → (M 51 i = 0 ∨ M 51 i = 1) ∧ 0 ≤ M 49 i ∧ M 49 i < 6 := fun i hi => ⟨(h.2.1 i hi).2.2.2.2, (h.2.1 i hi).2.1, (h.2.1 i hi).2.2.1⟩
theorem s_refresh {B : Int} {M : Mem} {Q : Mem → Prop} (hR : RelB B M) (h : ∀ M', SameA M M' → RelB B M' → Cch M' → Q M') : wp_X0_refresh M Q := by
  have hR0 := hR
  obtain ⟨hL, hF, hC, hI, hK⟩ := hR
  unfold wp_X0_refresh
  rcases hK with e6 | ⟨e6, hc⟩
  · rw [e6]
    refine ⟨by decide, fun q => absurd rfl q, fun _ => ?_⟩
    have n0 := hL.1.1
    have n1 := hL.1.2.1
    have hn : nL M ≤ 200 := by unfold nL; omega
    have e48 : M 48 4 = (nL M : Int) := by unfold nL; omega
    have c40 : ∀ g, g < 6 → cwM M g ≤ 40 := fun g hg => by rw [← (hL.2.2.2 g hg).1]; exact (hL.2.2.2 g hg).2
    have r40 : ∀ i, i < 3 → 0 ≤ rmF (M 54) i ∧ rmF (M 54) i ≤ 40 := fun i _ => pcN_rng _ 40
    have c40' : ∀ g, g < 6 → 0 ≤ cwM M g ∧ cwM M g ≤ 40 := fun g hg => ⟨(cwF_rng (M 51) (M 49) (nL M) g).1, c40 g hg⟩
    refine s_countAll hL hF (fun M4 f4 h58 h90 h5 => ?_)
    have ek : ∀ M5 M6 : Mem, frS M4 M5 → frK 60 61 M5 M6 → ∀ k, k ≠ 57 → k ≠ 58 → k ≠ 59 → k ≠ 60 → k ≠ 61 → k ≠ 90 → up M6 57 6 1 k = M k := fun M5 M6 f5 f6 k q1 q2 q3 q4 q5 q6 => by rw [up_ne _ _ _ q1, f6 k q4 q5, f5.1 k q1 q3, f4.1 k q1 q2 q6]
    have fin : ∀ M5 M6 : Mem, frS M4 M5 → frK 60 61 M5 M6 → Cch (up M6 57 6 1) → Q (up M6 57 6 1) := by
      intro M5 M6 f5 f6 hc
      have ek := ek M5 M6 f5 f6
      refine h _ ⟨fun k hk => ek k (by omega) (by omega) (by omega) (by omega) (by omega) (by omega), fun k q1 q2 => ek k (by omega) (by omega) (by omega) (by omega) (by omega) (by omega), fun j _ _ _ => by rw [ek 62 (by decide) (by decide) (by decide) (by decide) (by decide) (by decide)]⟩ (RelB_cch (fun k hk => ek k (by omega) (by omega) (by omega) (by omega) (by omega) (by omega)) (by rw [ek 62 (by decide) (by decide) (by decide) (by decide) (by decide) (by decide)]) (Or.inr ⟨up_sn _ _ _ _, hc⟩) hR0) hc
    have cg : ∀ M5 M6 : Mem, frS M4 M5 → frK 60 61 M5 M6 → cwM (up M6 57 6 1) = cwM M ∧ up M6 57 6 1 54 = M 54 ∧ up M6 57 6 1 51 = M 51 ∧ up M6 57 6 1 49 = M 49 ∧ nL (up M6 57 6 1) = nL M ∧ (∀ j, j ≠ 6 → up M6 57 6 1 57 j = M5 57 j) ∧ up M6 57 6 1 61 = M6 61 ∧ up M6 57 6 1 58 = M4 58 := by
      intro M5 M6 f5 f6
      have ek := ek M5 M6 f5 f6
      have k48 := ek 48 (by decide) (by decide) (by decide) (by decide) (by decide) (by decide)
      have k49 := ek 49 (by decide) (by decide) (by decide) (by decide) (by decide) (by decide)
      have k51 := ek 51 (by decide) (by decide) (by decide) (by decide) (by decide) (by decide)
      have kn : nL (up M6 57 6 1) = nL M := by unfold nL; rw [k48]
      refine ⟨by unfold cwM; rw [k49, k51, kn], ek 54 (by decide) (by decide) (by decide) (by decide) (by decide) (by decide), k51, k49, kn, fun j hj => by rw [up_snn _ _ _ hj, f6 57 (by decide) (by decide)], up_ne _ _ _ (by decide), ?_⟩
      rw [up_ne _ _ _ (by decide), f6 58 (by decide) (by decide), f5.1 58 (by decide) (by decide)]
    have e4 : ∀ M5 : Mem, frS M4 M5 → M5 48 4 = (nL M : Int) ∧ M5 51 = M 51 ∧ M5 49 = M 49 ∧ M5 54 = M 54 ∧ ∀ g, g < 6 → M5 58 g = cwM M g ∧ M5 58 g ≤ 40 := by
      intro M5 f5
      refine ⟨?_, ?_, ?_, ?_, fun g hg => ?_⟩
      · rw [f5.1 48 (by decide) (by decide), f4.1 48 (by decide) (by decide) (by decide)]; exact e48
      · rw [f5.1 51 (by decide) (by decide), f4.1 51 (by decide) (by decide) (by decide)]
      · rw [f5.1 49 (by decide) (by decide), f4.1 49 (by decide) (by decide) (by decide)]
      · rw [f5.1 54 (by decide) (by decide), f4.1 54 (by decide) (by decide) (by decide)]
      · rw [f5.1 58 (by decide) (by decide), h58 g hg]; exact ⟨rfl, c40 g hg⟩
    refine s_seek c40' r40 h58 h90 h5 (fun M5 f5 h7 hno => ?_) (fun M5 d s f5 hb h7 h8 h9 => ?_)
    · obtain ⟨z48, z51, z49, z54, z58⟩ := e4 M5 f5
      refine s_layAll (w := M 51) (gr := M 49) (fre := M 54) (n := nL M) (d := fun _ => 0) (s := fun _ => 0) hn (fun i hi => (hF i hi).2) z48 z51 z49 z54 z58 (RLb_wg hL) (fun _ M6 f6 => ?_) (fun q => absurd h7 q)
      obtain ⟨g1, g2, g3, g4, g5, g6, g7, g8⟩ := cg M5 M6 f5 f6
      refine fin M5 M6 f5 f6 (Or.inl ⟨by rw [g6 7 (by decide)]; exact h7, ?_⟩)
      rw [g1, g2]
      exact hno
    · have h4 := hp_sh hb.1.2.1
      have rk15 : rkS s ≤ 15 := by unfold rkS; omega
      obtain ⟨z48, z51, z49, z54, z58⟩ := e4 M5 f5
      refine s_layAll (w := M 51) (gr := M 49) (fre := M 54) (n := nL M) (d := d) (s := s) hn (fun i hi => (hF i hi).2) z48 z51 z49 z54 z58 (RLb_wg hL) (fun q => absurd q (by rw [h7]; omega)) (fun _ => ⟨by rw [h7]; exact ⟨by omega, by omega⟩, hb.1, h8, h9, fun M6 f6 hpl => ?_⟩)
      obtain ⟨g1, g2, g3, g4, g5, g6, g7, g8⟩ := cg M5 M6 f5 f6
      refine fin M5 M6 f5 f6 (Or.inr ⟨d, s, ?_, ?_, by rw [g6 7 (by decide)]; exact h7, by rw [g6 8 (by decide)]; exact h8, by rw [g6 9 (by decide)]; exact h9, ?_⟩)
      · rw [g1, g2]; exact hb
      · rw [g1, g8]; exact h58
      · rw [g2, g3, g4, g5, g7]; exact hpl
  · rw [e6]
    exact ⟨by decide, fun _ => h M (SameA.refl M) hR0 hc, fun q => absurd (by decide) q⟩
theorem s_exists {M : Mem} {Q : Int → Mem → Prop} (hc : Cch M) (h0 : M 57 7 = 1048576 → (∀ d s, ¬ feas (cwM M) (rmF (M 54)) d s) → Q 0 M)
    (h1 : ∀ d s, best (cwM M) (rmF (M 54)) d s → M 57 7 = (rkS s : Int) → rkS s ≤ 15 → M 57 8 = (c4 d : Int) → M 57 9 = (cS s : Int) → (∀ p, p < 120 → M 61 p = plF (M 51) (M 49) (nL M) (M 54) d s p) → Q 1 M) : wp_X0_exists M Q := by
  unfold wp_X0_exists
  rcases hc with ⟨e, hn⟩ | ⟨d, s, hb, -, e7, e8, e9, hp⟩
  · rw [e]
    exact ⟨by decide, fun _ => h0 e hn, fun q => absurd rfl q⟩
  · have h4 := hp_sh hb.1.2.1
    have rk15 : rkS s ≤ 15 := by unfold rkS; omega
    rw [e7]
    exact ⟨⟨by omega, by omega⟩, fun q => absurd q (by omega), fun _ => h1 d s hb e7 rk15 e8 e9 hp⟩
theorem frL_B {B : Int} {M M' : Mem} (h : frL M M') (hR : RelB B M) : RelB (B + 1) M' ∧ SameA M M' := by
  refine ⟨RelB_mono (by omega) (RelB_same (fun k hk => funext (fun j => h k j (by omega) (fun q => absurd q (by omega)))) (h 62 31 (by omega) (fun _ => by decide)) hR), fun k hk => funext (fun j => h k j (by omega) (fun q => absurd q (by omega))), fun k q1 q2 => funext (fun j => h k j (by omega) (fun q => absurd q (by omega))), fun j q1 q2 q3 => h 62 j (by omega) (fun _ => ⟨q2, q3⟩)⟩
/-! promise 17 -/
theorem op_heap {B a1 a2 : Int} {M : Mem} {G : Prop → Prop} {P : Int → Int → Mem → Prop} (hG : ∀ p, p → G p) (hR : RelB B M) (h1 : Rg a1) (h2 : Rg a2) (h : ∀ r M', Rg r → RelB (B + 1) M' → SameA M M' → P r r M') : wp_X7_heap a1 a2 M (fun r1 M1 => G (wp_X8_heap a1 a2 M1 (fun r2 M2 => P r1 r2 M2))) := by
  unfold wp_X7_heap
  refine s_refresh hR (fun M1 sA1 hR1 hc => ?_)
  have go : ∀ r1 r2 M2, r2 = r1 → Rg r1 → frL M1 M2 → P r1 r2 M2 := fun r1 r2 M2 e g hf => by
    obtain ⟨x, y⟩ := frL_B hf hR1
    rw [e]
    exact h r1 M2 g x (sA1.trans y)
  have ref : ∀ r1 : Int, (¬ (a2 = 0 ∧ 0 ≤ a1 ∧ a1 < 6) → ¬ (a2 = 1 ∧ 0 ≤ a1 ∧ a1 < 3) → r1 = -1) → ((∀ d s, ¬ feas (cwM M1) (rmF (M1 54)) d s) → r1 = -1) → (∀ d s, best (cwM M1) (rmF (M1 54)) d s → (a2 = 0 → 0 ≤ a1 → a1 < 6 → r1 = (d a1.toNat : Int)) ∧ (a2 = 1 → 0 ≤ a1 → a1 < 3 → r1 = if s a1.toNat < 3 then (s a1.toNat : Int) else -1)) → wp_X8_heap a1 a2 M1 (fun r2 M2 => P r1 r2 M2) := by
    intro r1 q0 qn qb
    unfold wp_X8_heap
    refine s_isIn h2 (by decide) (by decide) (fun c1 c2 => ⟨by decide, fun q => absurd q (by decide), fun _ => ⟨h2, fun c3 => ?_, fun c3 => ?_⟩⟩) (fun c => ⟨by decide, fun _ => by rw [q0 (by omega) (by omega)]; exact go _ _ M1 rfl (by decide) (frL.refl M1), fun q => absurd rfl q⟩)
    · unfold wp_X8_heap_20
      refine s_isIn h1 (by decide) (by decide) (fun c4 c5 => ⟨by decide, fun q => absurd q (by decide), fun _ => ?_⟩) (fun c => ⟨by decide, fun _ => by rw [q0 (by omega) (by omega)]; exact go _ _ M1 rfl (by decide) (frL.refl M1), fun q => absurd rfl q⟩)
      refine s8_lays hR1.1 hR1.2.1 (fun M2 f2 hn => ⟨by decide, fun q => absurd rfl q, fun _ => by rw [qn hn]; exact go _ _ M2 rfl (by decide) f2⟩) (fun M2 d s f2 hb e41 e42 e83 e84 => ⟨by decide, fun _ => ⟨h2, fun _ => ⟨⟨by omega, by omega⟩, ?_⟩, fun q => absurd c3 q⟩, fun q => absurd (by decide) q⟩)
      have s4 := hb.1.2.1 a1.toNat (by omega)
      have e := (qb d s hb).2 (by omega) (by omega) (by omega)
      rw [e84 a1.toNat (by omega)]
      refine ⟨⟨by omega, by omega⟩, fun q => ?_, fun q => ⟨⟨by omega, by omega⟩, ?_⟩⟩
      · rw [if_neg (by omega)] at e; rw [e]; exact go _ _ M2 rfl (by decide) f2
      · rw [if_pos (by omega)] at e; rw [e]; exact go _ _ M2 rfl ⟨by omega, by omega⟩ f2
    · unfold wp_X8_heap_20
      refine s_isIn h1 (by decide) (by decide) (fun c4 c5 => ⟨by decide, fun q => absurd q (by decide), fun _ => ?_⟩) (fun c => ⟨by decide, fun _ => by rw [q0 (by omega) (by omega)]; exact go _ _ M1 rfl (by decide) (frL.refl M1), fun q => absurd rfl q⟩)
      refine s8_lays hR1.1 hR1.2.1 (fun M2 f2 hn => ⟨by decide, fun q => absurd rfl q, fun _ => by rw [qn hn]; exact go _ _ M2 rfl (by decide) f2⟩) (fun M2 d s f2 hb e41 e42 e83 e84 => ⟨by decide, fun _ => ⟨h2, fun q => absurd q c3, fun _ => ⟨⟨by omega, by omega⟩, ?_⟩⟩, fun q => absurd (by decide) q⟩)
      have d3 := hb.1.1 a1.toNat (by omega)
      have e := (qb d s hb).1 (by omega) (by omega) (by omega)
      rw [e83 a1.toNat (by omega), e]
      exact go _ _ M2 rfl ⟨by omega, by omega⟩ f2
  refine ⟨h2, fun c => ?_, fun c => ?_, fun c => hG _ (ref _ (fun _ _ => rfl) (fun _ => rfl) (fun d s _ => ⟨fun e => absurd e (by omega), fun e => absurd e (by omega)⟩))⟩
  · unfold wp_X0_heapOfGroup wp_X7_isGroup
    have out : ¬ (0 ≤ a1 ∧ a1 < 6) → wp_X8_heap a1 a2 M1 (fun r2 M2 => P (-1) r2 M2) := fun hn => ref _ (fun _ _ => rfl) (fun _ => rfl) (fun d s _ => ⟨fun _ q1 q2 => absurd ⟨q1, q2⟩ hn, fun e => absurd e (by omega)⟩)
    refine ⟨h1, fun c1 => ⟨by decide, fun _ => hG _ (out (by omega)), fun q => absurd rfl q⟩, fun c1 => ⟨h1, fun c2 => ⟨by decide, fun _ => hG _ (out (by omega)), fun q => absurd rfl q⟩, fun c2 => ⟨by decide, fun q => absurd q (by decide), fun _ => ?_⟩⟩⟩
    refine s_exists hc (fun e7 hn => ⟨by decide, fun _ => hG _ (ref _ (fun _ _ => rfl) (fun _ => rfl) (fun d s hb => absurd hb.1 (hn d s))), fun q => absurd rfl q⟩) (fun d s hb e7 rk e8 e9 hp => ⟨by decide, fun q => absurd q (by decide), fun _ => ?_⟩)
    obtain ⟨g, rfl⟩ : ∃ g : Nat, a1 = (g : Int) := ⟨a1.toNat, by omega⟩
    rw [e8]
    refine s_groupHeap hb.1.1 (by omega) (hG _ (ref _ (fun q _ => absurd ⟨c, by omega, by omega⟩ q) (fun hn => absurd hb.1 (hn d s)) (fun d' s' hb' => ⟨fun _ _ _ => ?_, fun e => absurd e (by omega)⟩)))
    rw [Int.toNat_natCast, (best_uniq hb hb').1 g (by omega)]
  · unfold wp_X0_heapOfSheet wp_X7_isSheet
    have out : ¬ (0 ≤ a1 ∧ a1 < 3) → wp_X8_heap a1 a2 M1 (fun r2 M2 => P (-1) r2 M2) := fun hn => ref _ (fun _ _ => rfl) (fun _ => rfl) (fun d s _ => ⟨fun e => absurd e (by omega), fun _ q1 q2 => absurd ⟨q1, q2⟩ hn⟩)
    refine ⟨h1, fun c1 => ⟨by decide, fun _ => hG _ (out (by omega)), fun q => absurd rfl q⟩, fun c1 => ⟨h1, fun c2 => ⟨by decide, fun _ => hG _ (out (by omega)), fun q => absurd rfl q⟩, fun c2 => ⟨by decide, fun q => absurd q (by decide), fun _ => ?_⟩⟩⟩
    refine s_exists hc (fun e7 hn => ⟨by decide, fun q => absurd rfl q, fun _ => hG _ (ref _ (fun _ _ => rfl) (fun _ => rfl) (fun d s hb => absurd hb.1 (hn d s)))⟩) (fun d s hb e7 rk e8 e9 hp => ⟨by decide, fun _ => ?_, fun q => absurd (by decide) q⟩)
    obtain ⟨g, rfl⟩ : ∃ g : Nat, a1 = (g : Int) := ⟨a1.toNat, by omega⟩
    rw [e9]
    have eS := (cS_inj hb.1.2.1 (dB_dig (cS s)) (by rw [cS_dB (cS_lt hb.1.2.1)]) g (by omega)).symm
    have s4 := hb.1.2.1 g (by omega)
    refine s_sheetHeap (cS_lt hb.1.2.1) (s := g) (by omega) rfl ?_
    rw [eS]
    refine ⟨⟨by omega, by omega⟩, fun q => hG _ (ref _ (fun _ q2 => absurd ⟨c, by omega, by omega⟩ q2) (fun hn => absurd hb.1 (hn d s)) (fun d' s' hb' => ⟨fun e => absurd e (by omega), fun _ _ _ => ?_⟩)), fun q => hG _ (ref _ (fun _ _ => rfl) (fun _ => rfl) (fun d' s' hb' => ⟨fun e => absurd e (by omega), fun _ _ _ => ?_⟩))⟩
    · rw [Int.toNat_natCast, ← (best_uniq hb hb').2 g (by omega), if_pos (by omega)]
    · rw [Int.toNat_natCast, ← (best_uniq hb hb').2 g (by omega), if_neg (by omega)]
/-! promise 18 -/
theorem plF_cong {w gr fre : Nat → Int} {n : Nat} {d d' s s' : Nat → Nat} (h1 : ∀ g, g < 6 → d g = d' g) (h2 : ∀ i, i < 3 → s i = s' i) {p : Nat} (hp : p < 120) : plF w gr n fre d s p = plF w gr n fre d' s' p := by
  have nx : ∀ h, ∀ (f k : Nat), k + f = 120 → nxt (okP fre s h) k = nxt (okP fre s' h) k := by
    intro h f
    induction f with
    | zero => intro k hk; rw [nxt_end (by omega), nxt_end (by omega)]
    | succ f ih =>
      intro k hk
      have e : okP fre s h k = okP fre s' h k := by unfold okP; rw [h2 (k / 40) (by omega)]
      by_cases c : okP fre s h k = true
      · rw [nxt_yes (by omega) c, nxt_yes (by omega) (by rw [← e]; exact c)]
      · rw [nxt_no (ok := okP fre s h) (k := k) (by omega) c, nxt_no (ok := okP fre s' h) (k := k) (by omega) (by rw [← e]; exact c)]
        exact ih (k + 1) (by omega)
  have nx2 : ∀ h k, nxt (okP fre s h) k = nxt (okP fre s' h) k := fun h k => by
    rcases Nat.lt_or_ge k 120 with c | c
    · exact nx h (120 - k) k (by omega)
    · rw [nxt_end c, nxt_end c]
  have st : ∀ h t, t ≤ 1200 → stH (okP fre s h) (acP w gr n d h) t = stH (okP fre s' h) (acP w gr n d' h) t := by
    intro h t
    induction t with
    | zero => intro _; rfl
    | succ t ih =>
      intro ht
      have i := ih (by omega)
      have ea : acP w gr n d h t = acP w gr n d' h t := by unfold acP; rw [h1 (t / 200) (by omega)]
      by_cases c : acP w gr n d h t = true
      · rw [stH_yes c, stH_yes (by rw [← ea]; exact c), i, nx2]
      · rw [stH_no c, stH_no (by rw [← ea]; exact c), i]
  unfold plF
  rw [h2 (p / 40) (by omega), st _ 1200 (Nat.le_refl _)]
/-- the reference's plan is the class's -/
theorem s8_planned {B : Int} {M M' : Mem} {d s : Nat → Nat} {Q : Mem → Prop} (hR : RelB B M) (f2 : frL M M') (hb : best (cwM M) (rmF (M 54)) d s) (e83 : ∀ g, g < 6 → M' 83 g = (d g : Int)) (e84 : ∀ i, i < 3 → M' 84 i = (s i : Int)) (h : ∀ M2, frK 89 89 M' M2 → (∀ p, p < 120 → M2 89 p = plF (M 51) (M 49) (nL M) (M 54) d s p) → Q M2) : wp_X8_plans M' Q := by
  obtain ⟨⟨⟨n0, n1, n2⟩, hl, ht, hw⟩, hF, hC, hI, hK⟩ := hR
  have ek : ∀ k, k ≠ 62 → (k < 81 ∨ 88 < k) → M' k = M k := fun k q1 q2 => funext (fun j => f2 k j q2 (fun q => absurd q q1))
  have hn : nL M ≤ 200 := by unfold nL; omega
  refine s8_plans (w := M 51) (gr := M 49) (fre := M 54) (n := nL M) (d := d) (s := s) hn hb.1 ?_ (fun i hi => ?_) (fun i hi => ?_) (fun i hi => ?_) e83 e84 h
  · rw [f2 62 31 (by omega) (fun _ => by decide), n2]; unfold nL; omega
  · rw [ek 80 (by decide) (by omega)]; exact ⟨(hl i hi).2.2.2.1, (hl i hi).2.2.2.2⟩
  · rw [ek 78 (by decide) (by omega)]; exact ⟨(hl i hi).1, (hl i hi).2.1, (hl i hi).2.2.1⟩
  · rw [ek 75 (by decide) (by omega)]; exact hF i hi
theorem pl_Rg {B : Int} {M : Mem} {d s : Nat → Nat} (hR : RelB B M) (hf : feas (cwM M) (rmF (M 54)) d s) (p : Nat) : -1 ≤ plF (M 51) (M 49) (nL M) (M 54) d s p ∧ plF (M 51) (M 49) (nL M) (M 54) d s p < 200 := by
  have n1 := hR.1.1.2.1
  have hn : nL M ≤ 200 := by unfold nL; omega
  by_cases c : plF (M 51) (M 49) (nL M) (M 54) d s p = -1
  · omega
  · obtain ⟨-, -, i, e, hi, -⟩ := pl_val hn hf c
    omega
theorem op_plan {B a1 a2 : Int} {M : Mem} {G : Prop → Prop} {P : Int → Int → Mem → Prop} (hG : ∀ p, p → G p) (hR : RelB B M) (h1 : Rg a1) (h2 : Rg a2) (h : ∀ r M', Rg r → RelB (B + 1) M' → SameA M M' → P r r M') : wp_X7_plan a1 a2 M (fun r1 M1 => G (wp_X8_plan a1 a2 M1 (fun r2 M2 => P r1 r2 M2))) := by
  unfold wp_X7_plan
  refine s_refresh hR (fun M1 sA1 hR1 hc => ?_)
  have go : ∀ r1 r2 M2, r2 = r1 → Rg r1 → frL M1 M2 → P r1 r2 M2 := fun r1 r2 M2 e g hf => by
    obtain ⟨x, y⟩ := frL_B hf hR1
    rw [e]
    exact h r1 M2 g x (sA1.trans y)
  refine s_placeOf h1 h2 (fun c1 c2 c3 c4 => ?_) (fun c => ?_)
  · obtain ⟨p, hp⟩ : ∃ p : Nat, a1 * 40 + a2 = (p : Int) := ⟨(a1 * 40 + a2).toNat, by omega⟩
    have hp8 : 40 * a1 + a2 = (p : Int) := by omega
    rw [hp]
    unfold wp_X0_labelFor wp_X7_isPlace
    refine ⟨⟨by omega, by omega⟩, fun q => absurd q (by omega), fun _ => ⟨⟨by omega, by omega⟩, fun q => absurd q (by omega), fun _ => ⟨by decide, fun q => absurd q (by decide), fun _ => ?_⟩⟩⟩
    have ref : ∀ r1 : Int, ((∀ d s, ¬ feas (cwM M1) (rmF (M1 54)) d s) → r1 = -1) → (∀ d s, best (cwM M1) (rmF (M1 54)) d s → r1 = plF (M1 51) (M1 49) (nL M1) (M1 54) d s p) → wp_X8_plan a1 a2 M1 (fun r2 M2 => P r1 r2 M2) := by
      intro r1 qn qb
      unfold wp_X8_plan
      refine s8_isSheet h1 (fun _ _ => ⟨by decide, fun q => absurd q (by decide), fun _ => s8_isCell h2 (fun _ _ => ⟨by decide, fun q => absurd q (by decide), fun _ => ?_⟩) (fun q => absurd ⟨c3, c4⟩ q)⟩) (fun q => absurd ⟨c1, c2⟩ q)
      refine s8_lays hR1.1 hR1.2.1 (fun M2 f2 hn => ⟨by decide, fun q => absurd rfl q, fun _ => by rw [qn hn]; exact go _ _ M2 rfl (by decide) f2⟩) (fun M2 d s f2 hb e41 e42 e83 e84 => ⟨by decide, fun _ => ?_, fun q => absurd (by decide) q⟩)
      refine s8_planned hR1 f2 hb e83 e84 (fun M3 f3 hpl => ⟨⟨by omega, by omega⟩, ?_⟩)
      rw [hp8, Int.toNat_natCast, hpl p (by omega), qb d s hb]
      have rg := pl_Rg hR1 hb.1 p
      obtain ⟨x, y⟩ := frL_B f2 hR1
      have f3k : ∀ k, k ≠ 89 → M3 k = M2 k := fun k q => f3 k q q
      exact h _ M3 ⟨by omega, by omega⟩ (RelB_same (fun k hk => f3k k (by omega)) (by rw [f3k 62 (by decide)]) x) ((sA1.trans y).trans ⟨fun k hk => f3k k (by omega), fun k q1 q2 => f3k k (by omega), fun j _ _ _ => by rw [f3k 62 (by decide)]⟩)
    refine s_exists hc (fun e7 hn => ⟨by decide, fun _ => hG _ (ref _ (fun _ => rfl) (fun d s hb => absurd hb.1 (hn d s))), fun q => absurd rfl q⟩) (fun d s hb e7 rk e8 e9 hpl => ⟨by decide, fun q => absurd q (by decide), fun _ => ⟨⟨by omega, by omega⟩, hG _ (ref _ (fun hn => absurd hb.1 (hn d s)) (fun d' s' hb' => ?_))⟩⟩)
    rw [Int.toNat_natCast, hpl p (by omega)]
    obtain ⟨u1, u2⟩ := best_uniq hb hb'
    exact plF_cong u1 u2 (by omega)
  · unfold wp_X0_labelFor wp_X7_isPlace
    refine ⟨by decide, fun _ => ⟨by decide, fun _ => hG _ ?_, fun q => absurd rfl q⟩, fun q => absurd (by decide) q⟩
    unfold wp_X8_plan
    refine s8_isSheet h1 (fun q1 q2 => ⟨by decide, fun q => absurd q (by decide), fun _ => s8_isCell h2 (fun q3 q4 => absurd ⟨⟨q1, q2⟩, q3, q4⟩ c) (fun _ => ⟨by decide, fun _ => go _ _ M1 rfl (by decide) (frL.refl M1), fun q => absurd rfl q⟩)⟩) (fun _ => ⟨by decide, fun _ => go _ _ M1 rfl (by decide) (frL.refl M1), fun q => absurd rfl q⟩)
