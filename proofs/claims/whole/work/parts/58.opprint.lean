/-! promise 19 -/
def pS7 (pl : Nat → Int) (s : Nat) (M1 M : Mem) (c : Nat) : Prop := (∀ k, k ≠ 50 → k ≠ 51 → k ≠ 52 → k ≠ 54 → k ≠ 55 → M k = M1 k) ∧ M 51 = sqW pl (40 * s) (M1 51) c ∧ M 50 = sqT pl (40 * s) (M1 50) c ∧ M 52 = sqV pl (40 * s) (M1 49) (M1 52) c ∧ M 54 = upr (M1 54) s (sqF pl (40 * s) (M1 54 s) c) ∧ M 55 = sqN pl (40 * s) (M1 55) c
def pS8 (pl : Nat → Int) (s : Nat) (M1 M : Mem) (c : Nat) : Prop := (∀ k, k ≠ 75 → k ≠ 76 → k ≠ 79 → k ≠ 80 → M k = M1 k) ∧ M 80 = sqW pl (40 * s) (M1 80) c ∧ M 79 = sqT pl (40 * s) (M1 79) c ∧ M 75 = upr (M1 75) s (sqF pl (40 * s) (M1 75 s) c) ∧ M 76 = sqN pl (40 * s) (M1 76) c
theorem s7_print_loop {pl : Nat → Int} {s n : Nat} {M1 : Mem} {Q : Int → Mem → Prop} (hs : s < 3) (hn : M1 48 4 = (n : Int)) (h200 : n ≤ 200) (hok : plOk pl (M1 51) (M1 49) n (40 * s)) (hpl : ∀ p, p < 120 → M1 61 p = pl p) (h7 : Rg (M1 57 7)) (h7n : M1 57 7 ≠ 1048576) (hgr : ∀ i, i < n → 0 ≤ M1 49 i ∧ M1 49 i < 6)
    (h : ∀ M', pS7 pl s M1 M' 40 → Q (sqC pl (40 * s) 40) (up M' 57 6 0)) :
    ∀ (k c : Nat) (M : Mem), c + k = 40 → pS7 pl s M1 M c → wp_X7_print_38 (s : Int) Q (k + 1) (sqC pl (40 * s) c) (c : Int) M := by
  intro k
  induction k with
  | zero =>
    intro c M hc hS
    rw [wp_X7_print_38]
    have e : c = 40 := by omega
    subst e
    unfold wp_X0_forget
    exact ⟨by decide, fun _ => h M hS, fun q => absurd (by decide) q⟩
  | succ k ih =>
    intro c M hc hS
    rw [wp_X7_print_38]
    obtain ⟨f, e51, e50, e52, e54, e55⟩ := hS
    refine ⟨⟨by omega, by omega⟩, fun q => absurd q (by omega), fun _ => ?_⟩
    refine s_placeOf ⟨by omega, by omega⟩ ⟨by omega, by omega⟩ (fun _ _ _ _ => ?_) (fun q => absurd ⟨⟨by omega, by omega⟩, by omega, by omega⟩ q)
    rw [show (s : Int) * 40 + (c : Int) = ((40 * s + c : Nat) : Int) by omega]
    unfold wp_X7_printCell wp_X0_labelFor wp_X7_isPlace
    refine ⟨⟨by omega, by omega⟩, fun q => absurd q (by omega), fun _ => ⟨⟨by omega, by omega⟩, fun q => absurd q (by omega), fun _ => ⟨by decide, fun q => absurd q (by decide), fun _ => ?_⟩⟩⟩
    unfold wp_X0_exists
    have f57 : M 57 = M1 57 := f 57 (by decide) (by decide) (by decide) (by decide) (by decide)
    have f61 : M 61 = M1 61 := f 61 (by decide) (by decide) (by decide) (by decide) (by decide)
    have f48 : M 48 = M1 48 := f 48 (by decide) (by decide) (by decide) (by decide) (by decide)
    have f49 : M 49 = M1 49 := f 49 (by decide) (by decide) (by decide) (by decide) (by decide)
    rw [f57]
    refine ⟨h7, fun q => absurd q h7n, fun _ => ⟨by decide, fun q => absurd q (by decide), fun _ => ⟨⟨by omega, by omega⟩, ?_⟩⟩⟩
    rw [Int.toNat_natCast, f61, hpl _ (by omega)]
    have po := hok.1 c (by omega)
    have eC : sqC pl (40 * s) (c + 1) = if pl (40 * s + c) = -1 then sqC pl (40 * s) c else sqC pl (40 * s) c + 1 := rfl
    have eW : sqW pl (40 * s) (M1 51) (c + 1) = if pl (40 * s + c) = -1 then sqW pl (40 * s) (M1 51) c else upr (sqW pl (40 * s) (M1 51) c) (pl (40 * s + c)).toNat 0 := rfl
    have eT : sqT pl (40 * s) (M1 50) (c + 1) = if pl (40 * s + c) = -1 then sqT pl (40 * s) (M1 50) c else upr (sqT pl (40 * s) (M1 50) c) (pl (40 * s + c)).toNat (sqT pl (40 * s) (M1 50) c (pl (40 * s + c)).toNat + 1) := rfl
    have eV : sqV pl (40 * s) (M1 49) (M1 52) (c + 1) = if pl (40 * s + c) = -1 then sqV pl (40 * s) (M1 49) (M1 52) c else upr (sqV pl (40 * s) (M1 49) (M1 52) c) (M1 49 (pl (40 * s + c)).toNat).toNat (sqV pl (40 * s) (M1 49) (M1 52) c (M1 49 (pl (40 * s + c)).toNat).toNat - 1) := rfl
    have eF : sqF pl (40 * s) (M1 54 s) (c + 1) = if pl (40 * s + c) = -1 then sqF pl (40 * s) (M1 54 s) c else lAnd (sqF pl (40 * s) (M1 54 s) c) (lXor (lShl 1 (c : Int)) (-1)) := rfl
    have eN : sqN pl (40 * s) (M1 55) (c + 1) = if pl (40 * s + c) = -1 then sqN pl (40 * s) (M1 55) c else upr (sqN pl (40 * s) (M1 55) c) (40 * s + c) (pl (40 * s + c)) := rfl
    refine ⟨⟨by omega, by omega⟩, fun q => ?_, fun q => ?_⟩
    · obtain ⟨i, hi⟩ : ∃ i : Nat, pl (40 * s + c) = (i : Int) := ⟨(pl (40 * s + c)).toNat, by omega⟩
      have now := sqW_now hok (show c < 40 by omega) q
      rw [if_neg q] at eC eW eT eV eF eN
      rw [Int.sub_eq_add_neg] at eV
      rw [hi, Int.toNat_natCast] at now eW eT eV
      rw [hi] at eN
      have hin : i < n := by omega
      obtain ⟨g0, g6⟩ := hgr i hin
      rw [hi]
      unfold wp_X5_put wp_X7_isPlace
      refine ⟨⟨by omega, by omega⟩, fun z => absurd z (by omega), fun _ => ⟨⟨by omega, by omega⟩, fun z => absurd z (by omega), fun _ => ⟨by decide, fun z => absurd z (by decide), fun _ => ⟨⟨⟨by omega, by omega⟩, by omega⟩, ⟨by omega, by omega⟩, ⟨⟨by omega, by omega⟩, by omega⟩, ⟨by omega, by omega⟩, ⟨by omega, by omega⟩, ?_⟩⟩⟩⟩
      rw [show (((40 * s + c : Nat) : Int) / 40).toNat = s by omega, show ((40 * s + c : Nat) : Int) % 40 = (c : Int) by omega, Int.toNat_natCast]
      have a54 : M 54 s = sqF pl (40 * s) (M1 54 s) c := by rw [e54, upr_at]
      rw [a54, ← eF]
      generalize hX : up (up M 54 s (sqF pl (40 * s) (M1 54 s) (c + 1))) 55 (40 * s + c) (i : Int) = X
      have x : ∀ k, k ≠ 54 → k ≠ 55 → X k = M k := fun k q1 q2 => by rw [← hX, up_ne _ _ _ q2, up_ne _ _ _ q1]
      have x54 : X 54 = upr (M1 54) s (sqF pl (40 * s) (M1 54 s) (c + 1)) := by rw [← hX, up_ne _ _ _ (by decide), up_same, e54, upr_upr]
      have x55 : X 55 = sqN pl (40 * s) (M1 55) (c + 1) := by rw [← hX, up_same, up_ne _ _ _ (by decide), e55, eN]
      unfold wp_X1_markPrinted wp_X1_isLabel
      have x48 : X 48 4 = (n : Int) := by rw [x 48 (by decide) (by decide), f48]; exact hn
      refine ⟨⟨by omega, by omega⟩, fun z => absurd z (by omega), fun _ => ⟨⟨by omega, by omega⟩, ⟨by omega, by omega⟩, fun z => absurd z (by omega), fun _ => ⟨by decide, fun z => absurd z (by decide), fun _ => ⟨⟨by omega, by omega⟩, ?_⟩⟩⟩⟩
      have x51 : X 51 = sqW pl (40 * s) (M1 51) c := by rw [x 51 (by decide) (by decide)]; exact e51
      have x49 : X 49 = M1 49 := by rw [x 49 (by decide) (by decide)]; exact f49
      have x52 : X 52 = sqV pl (40 * s) (M1 49) (M1 52) c := by rw [x 52 (by decide) (by decide)]; exact e52
      have x50 : X 50 = sqT pl (40 * s) (M1 50) c := by rw [x 50 (by decide) (by decide)]; exact e50
      rw [Int.toNat_natCast, x51, now]
      refine ⟨by decide, fun z => absurd z (by decide), fun _ => ⟨⟨by omega, by omega⟩, ⟨by omega, by omega⟩, s_changeWaiting (g := (M1 49 i).toNat) (by rw [up_ne X _ _ (show 49 ≠ 51 by decide), x49]; omega) (by omega) ⟨⟨by omega, by omega⟩, ⟨by omega, by omega⟩, ?_⟩⟩⟩
      rw [up_ne X _ _ (show 52 ≠ 51 by decide), up_ne _ _ _ (show 50 ≠ 52 by decide), up_ne X _ _ (show 50 ≠ 51 by decide), x52, x50]
      refine ⟨by decide, fun z => absurd z (by decide), fun _ => ?_⟩
      rw [← eC]
      refine ih (c + 1) _ (by omega) ⟨fun k q1 q2 q3 q4 q5 => ?_, ?_, ?_, ?_, ?_, ?_⟩
      · rw [up_ne _ _ _ q1, up_ne _ _ _ q3, up_ne _ _ _ q2, x k q4 q5]; exact f k q1 q2 q3 q4 q5
      · rw [up_ne _ _ _ (by decide), up_ne _ _ _ (by decide), up_same, x51, eW]
      · rw [up_same, up_ne _ _ _ (by decide), up_ne _ _ _ (by decide), x50, eT]
      · rw [up_ne _ _ _ (by decide), up_same, up_ne _ _ _ (by decide), x52, eV]
      · rw [up_ne _ _ _ (by decide), up_ne _ _ _ (by decide), up_ne _ _ _ (by decide), x54]
      · rw [up_ne _ _ _ (by decide), up_ne _ _ _ (by decide), up_ne _ _ _ (by decide), x55]
    · have q' : pl (40 * s + c) = -1 := by omega
      rw [if_pos q'] at eC eW eT eV eF eN
      refine ⟨by decide, fun _ => ?_, fun z => absurd rfl z⟩
      rw [← eC]
      exact ih (c + 1) M (by omega) ⟨f, by rw [eW]; exact e51, by rw [eT]; exact e50, by rw [eV]; exact e52, by rw [eF]; exact e54, by rw [eN]; exact e55⟩
theorem s8_print_loop {pl : Nat → Int} {s n : Nat} {M1 : Mem} {w gr : Nat → Int} {Q : Int → Mem → Prop} (hs : s < 3) (h200 : n ≤ 200) (hok : plOk pl w gr n (40 * s)) (hpl : ∀ p, p < 120 → M1 89 p = pl p)
    (h : ∀ M', pS8 pl s M1 M' 40 → Q (sqC pl (40 * s) 40) M') :
    ∀ (k c : Nat) (M : Mem), c + k = 40 → pS8 pl s M1 M c → wp_X8_print_24 (s : Int) Q (k + 1) (sqC pl (40 * s) c) (c : Int) M := by
  intro k
  induction k with
  | zero =>
    intro c M hc hS
    rw [wp_X8_print_24]
    have e : c = 40 := by omega
    subst e
    exact ⟨by decide, fun _ => h M hS, fun q => absurd (by decide) q⟩
  | succ k ih =>
    intro c M hc hS
    rw [wp_X8_print_24, show (40 * (s : Int) + (c : Int)).toNat = 40 * s + c by omega, Int.toNat_natCast]
    obtain ⟨f, e80, e79, e75, e76⟩ := hS
    have f89 : M 89 = M1 89 := f 89 (by decide) (by decide) (by decide) (by decide)
    rw [f89, hpl _ (by omega)]
    have po := hok.1 c (by omega)
    have eC : sqC pl (40 * s) (c + 1) = if pl (40 * s + c) = -1 then sqC pl (40 * s) c else sqC pl (40 * s) c + 1 := rfl
    have eW : sqW pl (40 * s) (M1 80) (c + 1) = if pl (40 * s + c) = -1 then sqW pl (40 * s) (M1 80) c else upr (sqW pl (40 * s) (M1 80) c) (pl (40 * s + c)).toNat 0 := rfl
    have eT : sqT pl (40 * s) (M1 79) (c + 1) = if pl (40 * s + c) = -1 then sqT pl (40 * s) (M1 79) c else upr (sqT pl (40 * s) (M1 79) c) (pl (40 * s + c)).toNat (sqT pl (40 * s) (M1 79) c (pl (40 * s + c)).toNat + 1) := rfl
    have eF : sqF pl (40 * s) (M1 75 s) (c + 1) = if pl (40 * s + c) = -1 then sqF pl (40 * s) (M1 75 s) c else lAnd (sqF pl (40 * s) (M1 75 s) c) (lXor (lShl 1 (c : Int)) (-1)) := rfl
    have eN : sqN pl (40 * s) (M1 76) (c + 1) = if pl (40 * s + c) = -1 then sqN pl (40 * s) (M1 76) c else upr (sqN pl (40 * s) (M1 76) c) (40 * s + c) (pl (40 * s + c)) := rfl
    refine ⟨⟨by omega, by omega⟩, fun q => absurd q (by omega), fun _ => ⟨⟨by omega, by omega⟩, ⟨by omega, by omega⟩, fun q => ⟨⟨by omega, by omega⟩, ⟨by omega, by omega⟩, ⟨by omega, by omega⟩, ⟨by omega, by omega⟩, ⟨by omega, by omega⟩, ⟨by omega, by omega⟩, ?_⟩, fun q => ?_⟩⟩
    · rw [if_neg q] at eC eW eT eF eN
      have a75 : up M 76 (40 * s + c) (pl (40 * s + c)) 75 s = sqF pl (40 * s) (M1 75 s) c := by rw [up_ne _ _ _ (by decide), e75, upr_at]
      rw [a75, ← eF, ← eC]
      refine ih (c + 1) _ (by omega) ⟨fun k q1 q2 q3 q4 => ?_, ?_, ?_, ?_, ?_⟩
      · rw [up_ne _ _ _ q3, up_ne _ _ _ q4, up_ne _ _ _ q1, up_ne _ _ _ q2]; exact f k q1 q2 q3 q4
      · rw [up_ne _ _ _ (by decide), up_same, up_ne _ _ _ (by decide), up_ne _ _ _ (by decide), e80, eW]
      · rw [up_same, up_ne _ _ _ (by decide), up_ne _ _ _ (by decide), up_ne _ _ _ (by decide), e79, eT]
      · rw [up_ne _ _ _ (by decide), up_ne _ _ _ (by decide), up_same, up_ne _ _ _ (by decide), e75, upr_upr]
      · rw [up_ne _ _ _ (by decide), up_ne _ _ _ (by decide), up_ne _ _ _ (by decide), up_same, e76, eN]
    · have q' : pl (40 * s + c) = -1 := by omega
      rw [if_pos q'] at eC eW eT eF eN
      rw [← eC]
      exact ih (c + 1) M (by omega) ⟨f, by rw [eW]; exact e80, by rw [eT]; exact e79, by rw [eF]; exact e75, by rw [eN]; exact e76⟩
theorem op_print {B a1 : Int} {M : Mem} {G : Prop → Prop} {P : Int → Int → Mem → Prop} (hG : ∀ p, p → G p) (hR : RelB B M) (h1 : Rg a1) (h : ∀ r M', Rg r → RelB (B + 1) M' → SameA M M' → P r r M') : wp_X7_print a1 M (fun r1 M1 => G (wp_X8_print a1 M1 (fun r2 M2 => P r1 r2 M2))) := by
  unfold wp_X7_print wp_X7_isSheet
  refine s_refresh hR (fun M1 sA1 hR1 hc => ?_)
  have go : ∀ M2, frL M1 M2 → P (-1) (-1) M2 := fun M2 hf => by
    obtain ⟨x, y⟩ := frL_B hf hR1
    exact h (-1) M2 (by decide) x (sA1.trans y)
  have out : ¬ (0 ≤ a1 ∧ a1 < 3) → wp_X8_print a1 M1 (fun r2 M2 => P (-1) r2 M2) := by
    intro hn
    unfold wp_X8_print
    exact s8_isSheet h1 (fun q1 q2 => absurd ⟨q1, q2⟩ hn) (fun _ => ⟨by decide, fun _ => go M1 (frL.refl M1), fun q => absurd rfl q⟩)
  refine ⟨h1, fun c => ⟨by decide, fun _ => hG _ (out (by omega)), fun q => absurd rfl q⟩, fun c1 => ⟨h1, fun c => ⟨by decide, fun _ => hG _ (out (by omega)), fun q => absurd rfl q⟩, fun c2 => ⟨by decide, fun q => absurd q (by decide), fun _ => ?_⟩⟩⟩
  refine s_exists hc (fun e7 hno => ⟨by decide, fun q => absurd rfl q, fun _ => hG _ ?_⟩) (fun d s hb e7 rk15 e8 e9 hpl => ⟨by decide, fun _ => ⟨41, ?_⟩, fun q => absurd (by decide) q⟩)
  · unfold wp_X8_print
    refine s8_isSheet h1 (fun _ _ => ⟨by decide, fun q => absurd q (by decide), fun _ => ?_⟩) (fun q => absurd ⟨by omega, by omega⟩ q)
    exact s8_lays hR1.1 hR1.2.1 (fun M2 f2 _ => ⟨by decide, fun q => absurd rfl q, fun _ => go M2 f2⟩) (fun M2 d s f2 hb _ _ _ _ => absurd hb.1 (hno d s))
  · obtain ⟨t, rfl⟩ : ∃ t : Nat, a1 = (t : Int) := ⟨a1.toNat, by omega⟩
    have ht3 : t < 3 := by omega
    have hR1' := hR1
    obtain ⟨hLb, hF, hC, hI, hK⟩ := hR1
    have hLb0 := hLb
    obtain ⟨⟨n0, n1, n2⟩, hl, htm, hw⟩ := hLb
    have hn200 : nL M1 ≤ 200 := by unfold nL; omega
    have e48 : M1 48 4 = (nL M1 : Int) := by unfold nL; omega
    generalize hpp : plF (M1 51) (M1 49) (nL M1) (M1 54) d s = pl at *
    have pv : ∀ p, pl p ≠ -1 → p < 120 ∧ (M1 54 (p / 40)).toNat.testBit (p % 40) = true ∧ 0 ≤ pl p ∧ (pl p).toNat < nL M1 ∧ M1 51 (pl p).toNat = 1 := fun p hp => by
      rw [← hpp] at hp ⊢
      obtain ⟨v1, v2, i, v3, v4, v5⟩ := pl_val hn200 hb.1 hp
      rw [v3, Int.toNat_natCast]
      exact ⟨v1, v2, by omega, v4, v5⟩
    have pinj : ∀ p q, pl p ≠ -1 → pl p = pl q → p = q := fun p q hp he => by
      rw [← hpp] at hp he
      exact pl_inj hn200 hb.1 hp he
    have hok : plOk pl (M1 51) (M1 49) (nL M1) (40 * t) := by
      refine ⟨fun j hj => ?_, fun j k hj hk q1 q2 => ?_⟩
      · by_cases e : pl (40 * t + j) = -1
        · exact Or.inl e
        · obtain ⟨-, -, v3, v4, v5⟩ := pv _ e
          exact Or.inr ⟨v3, v4, v5⟩
      · have := pinj _ _ q1 q2
        omega
    have hgr : ∀ i, i < nL M1 → 0 ≤ M1 49 i ∧ M1 49 i < 6 := fun i hi => ⟨(hl i hi).2.1, (hl i hi).2.2.1⟩
    refine s7_print_loop (pl := pl) (n := nL M1) ht3 e48 hn200 hok hpl (by rw [e7]; exact ⟨by omega, by omega⟩) (by rw [e7]; omega) hgr ?_ 40 0 M1 rfl ⟨fun _ _ _ _ _ _ => rfl, rfl, rfl, rfl, (upr_self _ _).symm, rfl⟩
    intro X hX
    obtain ⟨f, e51, e50, e52, e54, e55⟩ := hX
    apply hG
    have k57 : ∀ k, k ≠ 57 → up X 57 6 0 k = X k := fun k hk => up_ne _ _ _ hk
    have y57 : up X 57 6 0 57 6 = 0 := up_sn _ _ _ _
    generalize up X 57 6 0 = Y at *
    have fY : ∀ k, k ≠ 50 → k ≠ 51 → k ≠ 52 → k ≠ 54 → k ≠ 55 → k ≠ 57 → Y k = M1 k := fun k q1 q2 q3 q4 q5 q6 => by rw [k57 k q6, f k q1 q2 q3 q4 q5]
    have y51 : Y 51 = sqW pl (40 * t) (M1 51) 40 := by rw [k57 51 (by decide)]; exact e51
    have y50 : Y 50 = sqT pl (40 * t) (M1 50) 40 := by rw [k57 50 (by decide)]; exact e50
    have y52 : Y 52 = sqV pl (40 * t) (M1 49) (M1 52) 40 := by rw [k57 52 (by decide)]; exact e52
    have y54 : Y 54 = upr (M1 54) t (sqF pl (40 * t) (M1 54 t) 40) := by rw [k57 54 (by decide)]; exact e54
    have y55 : Y 55 = sqN pl (40 * t) (M1 55) 40 := by rw [k57 55 (by decide)]; exact e55
    have sY : SameA M1 Y := ⟨fun k hk => fY k (by omega) (by omega) (by omega) (by omega) (by omega) (by omega), fun k q1 q2 => fY k (by omega) (by omega) (by omega) (by omega) (by omega) (by omega), fun j _ _ _ => by rw [fY 62 (by decide) (by decide) (by decide) (by decide) (by decide) (by decide)]⟩
    unfold wp_X8_print
    refine s8_isSheet h1 (fun _ _ => ⟨by decide, fun q => absurd q (by decide), fun _ => ?_⟩) (fun q => absurd ⟨by omega, by omega⟩ q)
    -- the reference's labels and sheets are still as they were: lays() of M1 with the class's cells changed
    have lay : ∀ Q2 : Int → Mem → Prop, (∀ M2 d' s', frL Y M2 → best (cwM M1) (rmF (M1 54)) d' s' → (∀ g, g < 6 → M2 83 g = (d' g : Int)) → (∀ i, i < 3 → M2 84 i = (s' i : Int)) → Q2 1 M2) → wp_X8_lays Y Q2 := by
      intro Q2 hq
      have key := s8_lays_ref (M := M1) (Y := Y) (B := B) hLb0 hF (fun k hk => fY k (by omega) (by omega) (by omega) (by omega) (by omega) (by omega)) (by rw [fY 62 (by decide) (by decide) (by decide) (by decide) (by decide) (by decide)]) (Q := Q2) (fun M2 f2 hno => absurd hb.1 (hno d s)) (fun M2 d' s' f2 hb' e83 e84 => hq M2 d' s' f2 hb' e83 e84)
      exact key
    refine lay _ (fun M2 d' s' f2 hb' e83 e84 => ⟨by decide, fun _ => ?_, fun q => absurd (by decide) q⟩)
    obtain ⟨u1, u2⟩ := best_uniq hb hb'
    have ek : ∀ k, k ≠ 62 → (k < 81 ∨ 88 < k) → M2 k = Y k := fun k q1 q2 => funext (fun j => f2 k j q2 (fun q => absurd q q1))
    have z75 : M2 75 = M1 75 := by rw [ek 75 (by decide) (by omega), fY 75 (by decide) (by decide) (by decide) (by decide) (by decide) (by decide)]
    have z76 : M2 76 = M1 76 := by rw [ek 76 (by decide) (by omega), fY 76 (by decide) (by decide) (by decide) (by decide) (by decide) (by decide)]
    have z78 : M2 78 = M1 78 := by rw [ek 78 (by decide) (by omega), fY 78 (by decide) (by decide) (by decide) (by decide) (by decide) (by decide)]
    have z79 : M2 79 = M1 79 := by rw [ek 79 (by decide) (by omega), fY 79 (by decide) (by decide) (by decide) (by decide) (by decide) (by decide)]
    have z80 : M2 80 = M1 80 := by rw [ek 80 (by decide) (by omega), fY 80 (by decide) (by decide) (by decide) (by decide) (by decide) (by decide)]
    have z31 : M2 62 31 = (nL M1 : Int) := by rw [f2 62 31 (by omega) (fun _ => by decide), fY 62 (by decide) (by decide) (by decide) (by decide) (by decide) (by decide), n2, e48]
    refine s8_plans (w := M1 51) (gr := M1 49) (fre := M1 54) (n := nL M1) (d := d') (s := s') hn200 hb'.1 z31 (fun i hi => by rw [z80]; exact ⟨(hl i hi).2.2.2.1, (hl i hi).2.2.2.2⟩) (fun i hi => by rw [z78]; exact ⟨(hl i hi).1, (hl i hi).2.1, (hl i hi).2.2.1⟩) (fun i hi => by rw [z75]; exact hF i hi) e83 e84 (fun M3 f3 hp3 => ⟨41, ?_⟩)
    have hp3' : ∀ p, p < 120 → M3 89 p = pl p := fun p hp => by rw [hp3 p hp, ← hpp]; exact (plF_cong u1 u2 hp).symm
    have f3k : ∀ k, k ≠ 89 → M3 k = M2 k := fun k q => f3 k q q
    refine s8_print_loop (pl := pl) (n := nL M1) (M1 := M3) (w := M1 51) (gr := M1 49) ht3 hn200 hok hp3' ?_ 40 0 M3 rfl ⟨fun _ _ _ _ _ => rfl, rfl, rfl, (upr_self _ _).symm, rfl⟩
    intro Z hZ
    obtain ⟨fz, v80, v79, v75, v76⟩ := hZ
    rw [f3k 80 (by decide), z80] at v80
    rw [f3k 79 (by decide), z79] at v79
    rw [f3k 75 (by decide), z75, (hF t ht3).1] at v75
    rw [f3k 76 (by decide), z76] at v76
    have fZ : ∀ k, k ≠ 62 → (k < 75 ∨ k = 77 ∨ k = 78) → Z k = Y k := fun k q1 q2 => by rw [fz k (by omega) (by omega) (by omega) (by omega), f3k k (by omega), ek k q1 (by omega)]
    have fZ62 : ∀ j, j ≠ 41 → j ≠ 42 → Z 62 j = Y 62 j := fun j q1 q2 => by rw [fz 62 (by decide) (by decide) (by decide) (by decide), f3k 62 (by decide), f2 62 j (by omega) (fun _ => ⟨q1, q2⟩)]
    have cr := sqC_rng (pl := pl) (o := 40 * t) 40
    have t48 : Z 48 = M1 48 := by rw [fZ 48 (by decide) (by omega), fY 48 (by decide) (by decide) (by decide) (by decide) (by decide) (by decide)]
    have t49 : Z 49 = M1 49 := by rw [fZ 49 (by decide) (by omega), fY 49 (by decide) (by decide) (by decide) (by decide) (by decide) (by decide)]
    have t50 : Z 50 = sqT pl (40 * t) (M1 50) 40 := by rw [fZ 50 (by decide) (by omega)]; exact y50
    have t51 : Z 51 = sqW pl (40 * t) (M1 51) 40 := by rw [fZ 51 (by decide) (by omega)]; exact y51
    have t52 : Z 52 = sqV pl (40 * t) (M1 49) (M1 52) 40 := by rw [fZ 52 (by decide) (by omega)]; exact y52
    have t54 : Z 54 = upr (M1 54) t (sqF pl (40 * t) (M1 54 t) 40) := by rw [fZ 54 (by decide) (by omega)]; exact y54
    have t55 : Z 55 = sqN pl (40 * t) (M1 55) 40 := by rw [fZ 55 (by decide) (by omega)]; exact y55
    have t56 : Z 56 = M1 56 := by rw [fZ 56 (by decide) (by omega), fY 56 (by decide) (by decide) (by decide) (by decide) (by decide) (by decide)]
    have t57 : Z 57 6 = 0 := by rw [fZ 57 (by decide) (by omega)]; exact y57
    have t77 : Z 77 = M1 77 := by rw [fZ 77 (by decide) (by omega), fY 77 (by decide) (by decide) (by decide) (by decide) (by decide) (by decide)]
    have t78 : Z 78 = M1 78 := by rw [fZ 78 (by decide) (by omega), fY 78 (by decide) (by decide) (by decide) (by decide) (by decide) (by decide)]
    have t31 : Z 62 31 = M1 62 31 := by rw [fZ62 31 (by decide) (by decide), fY 62 (by decide) (by decide) (by decide) (by decide) (by decide) (by decide)]
    have tn : nL Z = nL M1 := by unfold nL; rw [t48]
    have pnn : ∀ j, j < 40 → pl (40 * t + j) = -1 ∨ 0 ≤ pl (40 * t + j) := fun j hj => by have := hok.1 j hj; omega
    have fs := sqF_sp (pl := pl) (o := 40 * t) (hF t ht3).2.1 (hF t ht3).2.2 40 (Nat.le_refl _)
    have w01 : ∀ i, i < nL M1 → sqW pl (40 * t) (M1 51) 40 i = 0 ∨ sqW pl (40 * t) (M1 51) 40 i = 1 := fun i hi => by
      obtain ⟨a, b⟩ := sqW_sp (w := M1 51) 40 pnn i
      by_cases e : pr pl (40 * t) 40 i
      · exact Or.inl (a e)
      · rw [b e]; exact (hl i hi).2.2.2.2
    have newp : ∀ p, p < 120 → (40 * t ≤ p ∧ p < 40 * t + 40 ∧ pl p ≠ -1) → pr pl (40 * t) 40 (pl p).toNat := fun p hp q => ⟨p - 40 * t, by omega, by rw [show 40 * t + (p - 40 * t) = p by omega]; have := (pv p q.2.2).2.2.1; omega⟩
    refine h _ Z ⟨by omega, by omega⟩ ⟨⟨?_, fun i hi => ?_, fun i hi => ?_, fun g hg => ?_⟩, fun i hi => ?_, fun p hp => ?_, ⟨fun p hp => ?_, fun p hp => ?_, fun p q hp hq => ?_⟩, Or.inl t57⟩ ?_
    · rw [t48, t31]; exact ⟨n0, n1, n2⟩
    · rw [tn] at hi
      rw [t78, t49, v80, t51, sqW_cong (fun i hi => (hl i hi).2.2.2.1) 40 i hi]
      exact ⟨(hl i hi).1, (hl i hi).2.1, (hl i hi).2.2.1, rfl, w01 i hi⟩
    · rw [v79, t50, sqT_cong (fun i hi => (htm i hi).1) (fun j hj => by
        by_cases e : pl (40 * t + j) = -1
        · omega
        · have := (pv _ e).2.2; omega) 40 (Nat.le_refl _) i hi]
      obtain ⟨a, b⟩ := sqT_sp (t := M1 50) hok.2 40 (Nat.le_refl _) pnn i
      have := htm i hi
      by_cases e : pr pl (40 * t) 40 i
      · rw [a e]; omega
      · rw [b e]; omega
    · unfold cwM
      rw [t52, t51, t49, tn]
      have e := sqV_sp (v := M1 52) hok hgr (fun g hg => (hw g hg).1) 40 (Nat.le_refl _) g hg
      rw [e]
      refine ⟨rfl, ?_⟩
      have le : cwF (sqW pl (40 * t) (M1 51) 40) (M1 49) (nL M1) g ≤ cwF (M1 51) (M1 49) (nL M1) g := by
        unfold cwF
        refine sm_le (fun i hi => ?_)
        obtain ⟨a, b⟩ := sqW_sp (w := M1 51) 40 pnn i
        by_cases e2 : pr pl (40 * t) 40 i
        · rw [a e2]
          split <;> split <;> simp_all
        · rw [b e2]
          exact Int.le_refl _
      have w2 := hw g hg
      have w1 : M1 52 g = cwF (M1 51) (M1 49) (nL M1) g := w2.1
      omega
    · rw [v75, t54]
      by_cases e : i = t
      · rw [e, upr_at, upr_at]; exact ⟨rfl, fs.1⟩
      · rw [upr_ne _ _ e, upr_ne _ _ e]; exact hF i hi
    · rw [v76, t55, t48, t77, t56, sqN_cong (hC p hp).1 40, sqN_sp]
      obtain ⟨k1, k2, k3, k4, k5⟩ := hC p hp
      by_cases e : 40 * t ≤ p ∧ p < 40 * t + 40 ∧ pl p ≠ -1
      · rw [if_pos e]
        have := (pv p e.2.2).2.2
        exact ⟨rfl, by omega, by omega, k4, k5⟩
      · rw [if_neg e]; exact ⟨rfl, k2, k3, k4, k5⟩
    · rw [t54, t55, t56, sqN_sp]
      intro hbit
      by_cases e : p / 40 = t
      · rw [e, upr_at] at hbit
        obtain ⟨b1, b2⟩ := fs.2 (p % 40) (by omega) hbit
        have old := hI.1 p hp (by rw [e]; exact b1)
        rw [if_neg]
        · exact old
        · intro z
          refine b2 ⟨by omega, ?_⟩
          rw [show 40 * t + p % 40 = p by omega]
          exact z.2.2
      · rw [upr_ne _ _ e] at hbit
        rw [if_neg (by omega)]
        exact hI.1 p hp hbit
    · rw [t55, t51, t56, sqN_sp]
      by_cases e : 40 * t ≤ p ∧ p < 40 * t + 40 ∧ pl p ≠ -1
      · rw [if_pos e]
        intro _ q2
        rw [(sqW_sp (w := M1 51) 40 pnn _).1 (newp p hp e)] at q2
        omega
      · rw [if_neg e]
        intro q1 q2
        obtain ⟨a, b⟩ := sqW_sp (w := M1 51) 40 pnn (M1 55 p).toNat
        by_cases z : pr pl (40 * t) 40 (M1 55 p).toNat
        · rw [a z] at q2; omega
        · rw [b z] at q2
          exact hI.2.1 p hp q1 q2
    · rw [t55, t56, sqN_sp, sqN_sp]
      by_cases e : 40 * t ≤ p ∧ p < 40 * t + 40 ∧ pl p ≠ -1
      · rw [if_pos e]
        by_cases e2 : 40 * t ≤ q ∧ q < 40 * t + 40 ∧ pl q ≠ -1
        · rw [if_pos e2]
          intro q1 q2 _ _
          exact pinj p q q1 q2
        · rw [if_neg e2]
          intro q1 q2 _ q4
          have v := pv p e.2.2
          have := hI.2.1 q hq (by omega) (by rw [← q2]; exact v.2.2.2.2)
          omega
      · rw [if_neg e]
        by_cases e2 : 40 * t ≤ q ∧ q < 40 * t + 40 ∧ pl q ≠ -1
        · rw [if_pos e2]
          intro q1 q2 q3 _
          have v := pv q e2.2.2
          have := hI.2.1 p hp (by omega) (by rw [q2]; exact v.2.2.2.2)
          omega
        · rw [if_neg e2]
          exact hI.2.2 p q hp hq
    · refine (sA1.trans sY).trans ⟨fun k hk => fZ k (by omega) (by omega), fun k q1 q2 => fZ k (by omega) (by omega), fun j q1 q2 q3 => fZ62 j q2 q3⟩
