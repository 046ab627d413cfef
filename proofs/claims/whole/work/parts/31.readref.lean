/-! pure: reading bars: the reference -/
/-- stripe k as the reference meets it, turned or not -/
def wt8 (f : Nat → Int) (n : Nat) (a : Int) (k : Nat) : Int := wid f n (if a = 0 then k else n - 1 - k)
theorem s_isWide {n k : Nat} {a1 a2 a3 : Int} {M : Mem} {Q : Int → Mem → Prop} (h1 : a1 = (k : Int)) (hk : k < n) (hn : M 62 22 = (n : Int)) (hn67 : n ≤ 67) (hf : ∀ j, j < n → 1 ≤ M 74 j ∧ M 74 j ≤ 99) (h2 : a2 = 0 ∨ a2 = 1) (h3 : a3 = mnS (M 74) n + mxS (M 74) n) (h : Q (wt8 (M 74) n a2 k) M) : wp_X8_isWide a1 a2 a3 M Q := by
  subst h1
  have hb := mn_rng hf
  unfold wp_X8_isWide
  unfold wt8 wid at h
  refine ⟨by rcases h2 with e | e <;> rw [e] <;> decide, fun c => ⟨⟨by omega, by omega⟩, ?_⟩, fun c => ⟨⟨by omega, by omega⟩, ?_⟩⟩
  · have hfk := hf k hk
    rw [if_pos c] at h
    rw [Int.toNat_natCast]
    refine ⟨⟨by omega, by omega⟩, ⟨by omega, by omega⟩, fun q => ?_, fun q => ?_⟩
    · rw [if_pos (by omega)] at h; exact h
    · rw [if_neg (by omega)] at h; exact h
  · have hfk := hf (n - 1 - k) (by omega)
    rw [if_neg c] at h
    rw [hn, show ((n : Int) - 1 - (k : Int)).toNat = n - 1 - k by omega]
    refine ⟨⟨by omega, by omega⟩, ⟨by omega, by omega⟩, fun q => ?_, fun q => ?_⟩
    · rw [if_pos (by omega)] at h; exact h
    · rw [if_neg (by omega)] at h; exact h
