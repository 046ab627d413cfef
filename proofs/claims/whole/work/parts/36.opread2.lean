/-! promise 11 -/
theorem RelA_out {M M' : Mem} (hR : RelA M) (h0 : M' 0 1 = 0) (h623 : M' 62 3 = 0) (hout : RT 67 (M' 2 1) (M' 3) (M' 62 4) (M' 65)) (hV : RV (M' 43 6) (M' 62 17) (M' 47 4) (M' 62 18) (M' 47 5) (M' 62 23) (M' 47 6) (M' 62 25) (M' 47 7) (M' 62 24)) (hX : RX M')
    (hk : ∀ k, ((4 ≤ k ∧ k < 28) ∨ k = 44 ∨ k = 63 ∨ (66 ≤ k ∧ k ≤ 69)) → M' k = M k) (h43 : M' 43 5 = M 43 5) : RelA M' := by
  obtain ⟨-, -, hw, hs, -, -⟩ := hR
  refine ⟨⟨by omega, by omega, by omega, fun j hj => absurd hj (by omega)⟩, hout, ?_, ?_, hV, hX⟩
  · rw [hk 44 (by omega), hk 63 (by omega)]; exact hw
  · exact RS_congr (fun k a b => hk k (by omega)) h43 (hk 66 (by omega)) (hk 67 (by omega)) (hk 68 (by omega)) (hk 69 (by omega)) hs
theorem op_read {M : Mem} {G : Prop → Prop} {P : Int → Int → Mem → Prop} (hG : ∀ p, p → G p) (hR : RelA M) (h : ∀ r M', Rg r → RelA M' → SameB M M' → P r r M') : wp_X7_read M (fun r1 M1 => G (wp_X8_read M1 (fun r2 M2 => P r1 r2 M2))) := by
  have hR0 := hR
  obtain ⟨⟨t1, t2, t3, t4⟩, hO, hw, hs, hv, hx⟩ := hR
  obtain ⟨z, hz⟩ : ∃ z : Nat, M 0 1 = (z : Int) := ⟨(M 0 1).toNat, by omega⟩
  have hz200 : z ≤ 200 := by omega
  have hf : ∀ j, j < z → M 64 j = M 1 j := fun j hj => (t4 j (by omega)).1
  have hr1 : ∀ j, j < z → 0 ≤ M 1 j ∧ M 1 j ≤ 255 := fun j hj => (t4 j (by omega)).2
  have hr64 : ∀ j, j < z → 0 ≤ M 64 j ∧ M 64 j ≤ 255 := fun j hj => by rw [hf j hj]; exact hr1 j hj
  have cC : rdC (M 1) z ↔ rdC (M 64) z := by
    unfold rdC
    exact ⟨fun q => ⟨q.1, q.2.1, q.2.2.1, fun j hj => by rw [hf j hj]; exact q.2.2.2 j hj⟩, fun q => ⟨q.1, q.2.1, q.2.2.1, fun j hj => by rw [← hf j hj]; exact q.2.2.2 j hj⟩⟩
  have cI : ∀ (a : Int) (P : Nat) (k p : Int), 17 ≤ z → z = 7 + 10 * P → rdIs (wt8 (M 1) z a) P k p → rdIs (wt8 (M 64) z a) P k p := by
    intro a P k p h1 hP hr
    exact rdIs_cong (by omega) (fun i hi => wt8_cong (fun j hj => (hf j hj).symm) a (by omega)) hr
  have fin : ∀ M1 M2 : Mem, F7r M M1 → rok M1 34 → rok M1 36 → rok M1 38 → F8r M1 M2 → M1 0 1 = 0 → M2 62 3 = 0 → RT 67 (M1 2 1) (M1 3) (M2 62 4) (M2 65) → (M2 62 23 = M1 47 5 ∧ 0 ≤ M1 47 5 ∧ M1 47 5 ≤ 4) → (M2 62 25 = M1 47 6 ∧ -1 ≤ M1 47 6 ∧ M1 47 6 ≤ 12) → (M2 62 24 = M1 47 7 ∧ (M1 47 7 = 0 ∨ M1 47 7 = 1)) → RelA M2 ∧ SameB M M2 := by
    intro M1 M2 f1 r34 r36 r38 f2 e0 e3 hT v1 v2 v3
    have s2 : ∀ k, k < 62 → M2 k = M1 k := fun k hk => funext (fun j => f2 k j (by omega) (by omega) (by omega) (fun c => absurd c (by omega)))
    have s1 : ∀ k, ¬ (k = 0 ∨ k = 2 ∨ k = 3 ∨ (34 ≤ k ∧ k ≤ 41) ∨ k = 47) → M1 k = M k := fun k hk => funext (fun j => f1 k j (by unfold xRd; omega))
    have s1' : ∀ k j, ¬ xRd k j → M1 k j = M k j := f1
    refine ⟨RelA_out hR0 (by rw [s2 0 (by decide)]; exact e0) e3 ?_ ?_ ?_ ?_ ?_, ?_, ?_, ?_⟩
    · rw [s2 2 (by decide), s2 3 (by decide)]; exact hT
    · rw [s2 43 (by decide), s2 47 (by decide), s1 43 (by omega), f2 62 17 (by decide) (by decide) (by decide) (fun _ => by omega), f2 62 18 (by decide) (by decide) (by decide) (fun _ => by omega), s1 62 (by omega), s1' 47 4 (by unfold xRd; omega)]
      exact ⟨hv.1, hv.2.1, v1, v2, v3⟩
    · obtain ⟨x28, x30, x32, x34, x36, x38, x40, x41⟩ := hx
      refine ⟨?_, ?_, ?_, ?_, ?_, ?_, ?_, ?_⟩
      · unfold rok; rw [s2 28 (by decide), s1 28 (by omega)]; exact x28
      · unfold rok; rw [s2 30 (by decide), s1 30 (by omega)]; exact x30
      · unfold rok; rw [s2 32 (by decide), s1 32 (by omega)]; exact x32
      · unfold rok; rw [s2 34 (by decide)]; exact r34
      · unfold rok; rw [s2 36 (by decide)]; exact r36
      · unfold rok; rw [s2 38 (by decide)]; exact r38
      · rw [s2 40 (by decide), s1' 40 0 (by unfold xRd; omega)]; exact x40
      · rw [s2 41 (by decide), s1' 41 0 (by unfold xRd; omega)]; exact x41
    · intro k hk
      rw [show M2 k = M1 k from funext (fun j => f2 k j (by omega) (by omega) (by omega) (fun c => absurd c (by omega)))]
      exact s1 k (by omega)
    · rw [s2 43 (by decide), s1 43 (by omega)]
    · intro k a b
      rw [s2 k b, s1 k (by omega)]
    · intro k a
      rw [show M2 k = M1 k from funext (fun j => f2 k j (by omega) (by omega) (by omega) (fun c => absurd c (by omega)))]
      exact s1 k (by omega)
    · rw [f2 62 31 (by decide) (by decide) (by decide) (fun _ => by omega), s1 62 (by omega)]
  have x8 : ∀ M1, F7r M M1 → M1 62 3 = (z : Int) ∧ M1 64 = M 64 ∧ M1 62 4 = M 62 4 ∧ M1 65 = M 65 := by
    intro M1 f1
    refine ⟨?_, funext (fun j => f1 64 j (by unfold xRd; omega)), f1 62 4 (by unfold xRd; omega), funext (fun j => f1 65 j (by unfold xRd; omega))⟩
    rw [f1 62 3 (by unfold xRd; omega), t3, hz]
  refine s7_read hz ⟨t1, t2⟩ hx hr1 ?_ ?_ ?_
  · intro M1 hc f1 r34 r36 r38 e0 e5 e6 e7 o2 o3
    obtain ⟨y3, y64, y4, y65⟩ := x8 M1 f1
    apply hG
    refine s8_read y3 hz200 (by rw [y64]; exact hr64) ?_ ?_ ?_
    · intro M2 _ f2 g3 g23 g25 g24 g4 g65
      obtain ⟨a, b⟩ := fin M1 M2 f1 r34 r36 r38 f2 e0 g3 (by rw [o2, o3, g4, g65, y4, y65]; exact hO) (by rw [g23, e5]; decide) (by rw [g25, e6]; decide) (by rw [g24, e7]; decide)
      exact h (-1) M2 (by decide) a b
    · intro M2 P k p k' p' hc2
      rw [y64] at hc2
      exact absurd (cC.mpr hc2) hc
    · intro M2 P b hc2
      rw [y64] at hc2
      exact absurd (cC.mpr hc2) hc
  · intro M1 P0 k p k' p' hc hP hr hk hr' hk' f1 r34 r36 r38 e0 e5 e6 e7 o2 o3
    obtain ⟨y3, y64, y4, y65⟩ := x8 M1 f1
    have hr := cI 0 P0 k p hc.1 hP hr
    have hr' := cI 1 P0 k' p' hc.1 hP hr'
    have hP6 : P0 ≤ 6 := by have := hc.2.1; omega
    apply hG
    refine s8_read y3 hz200 (by rw [y64]; exact hr64) ?_ ?_ ?_
    · intro M2 hc2
      rw [y64] at hc2
      exact absurd (cC.mp hc) hc2
    · intro M2 P1 l q l' q' _ hP1 hs1 hl hs1' hl' f2 g3 g23 g25 g24 g4 g65
      rw [y64] at hs1 hs1'
      have hPP : P1 = P0 := by omega
      subst hPP
      obtain ⟨u1, u2⟩ := rdIs_fun hr hs1
      have rg := rdIs_rng hP6 hr
      obtain ⟨a, b⟩ := fin M1 M2 f1 r34 r36 r38 f2 e0 g3 (by rw [o2, o3, g4, g65, y4, y65]; exact hO) (by rw [g23, e5]; omega) (by rw [g25, e6]; omega) (by rw [g24, e7]; decide)
      exact h (-1) M2 (by decide) a b
    · intro M2 P1 b _ hP1 hs1 hb
      rw [y64] at hs1
      have hPP : P1 = P0 := by omega
      subst hPP
      exfalso
      rcases hb with e | ⟨e, -⟩ <;> subst e
      · exact hk (rdIs_fun hr hs1).1
      · exact hk' (rdIs_fun hr' hs1).1
  · intro M1 P0 b hc hP hr hb f1 r34 r36 r38 e0 e5 e6 e7 o2 o3
    obtain ⟨y3, y64, y4, y65⟩ := x8 M1 f1
    have hr := cI b P0 0 (-1) hc.1 hP hr
    have hP6 : P0 ≤ 6 := by have := hc.2.1; omega
    apply hG
    refine s8_read y3 hz200 (by rw [y64]; exact hr64) ?_ ?_ ?_
    · intro M2 hc2
      rw [y64] at hc2
      exact absurd (cC.mp hc) hc2
    · intro M2 P1 l q l' q' _ hP1 hs1 hl hs1' hl'
      rw [y64] at hs1 hs1'
      have hPP : P1 = P0 := by omega
      subst hPP
      exfalso
      rcases hb with e | ⟨e, -⟩ <;> subst e
      · exact hl (rdIs_fun hs1 hr).1
      · exact hl' (rdIs_fun hs1' hr).1
    · intro M2 P1 b1 _ hP1 hs1 hb1 f2 g3 g23 g25 g24 g4 g65
      rw [y64] at hs1 hb1 g65
      have hPP : P1 = P0 := by omega
      subst hPP
      have hbb : b1 = b := by
        rcases hb with e | ⟨e, k, p, hk, hx1⟩ <;> rcases hb1 with e1 | ⟨e1, k1, p1, hk1, hx2⟩ <;> subst e <;> subst e1
        · rfl
        · exact absurd (rdIs_fun hx2 hr).1 hk1
        · exact absurd (rdIs_fun (cI 0 P1 k p hc.1 hP hx1) hs1).1 hk
        · rfl
      subst hbb
      have dg : ∀ j, j < 2 * P1 → dgt (wt8 (M 1) z b1) j = dgt (wt8 (M 64) z b1) j := fun j hj => dgt_cong (P := P1) (fun i hi => wt8_cong (fun j hj => (hf j hj).symm) b1 (by omega)) hj
      obtain ⟨a, c⟩ := fin M1 M2 f1 r34 r36 r38 f2 e0 g3 ⟨by omega, by omega, by rw [g4, o2], fun j hj => by
        rw [g65 j (by omega), o3 j (by omega), dg j (by omega)]
        have := dgt_rng (wt8 (M 64) z b1) j
        omega⟩ (by rw [g23, e5]; decide) (by rw [g25, e6]; decide) (by rw [g24, e7]; refine ⟨rfl, ?_⟩; rcases hb1 with e | ⟨e, -⟩ <;> omega)
      exact h _ M2 ⟨by omega, by omega⟩ a c
