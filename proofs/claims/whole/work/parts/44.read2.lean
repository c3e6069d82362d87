/-! ===== reading one, reading two ===== -/
theorem ns {N L i c : Nat} {tx mx : Nat → Int32} (h : tR L tx mx) (hi : i ≤ L) (hN : 100 ≤ N) (hc : 0 < c) (hc2 : c < 200) :
    (fX2_readNumber N (nI i) (nI L) tx = some (-4, nI i) ∧ ∀ t0 lo hi, lo < 1000 → hi < 1000 → fX8_number N (nI L) (nI i) t0 (nI lo) (nI hi) (nI c) mx = some (nI 0, nI i, t0)) ∨
    (∃ v p, v ≤ 99 ∧ fX2_readNumber N (nI i) (nI L) tx = some (nI v, nI p) ∧ fX2_readSign N (nI p) (nI c) (nI L) tx = some (nI 0, nI (p + 1)) ∧ ∀ t0 lo hi, lo < 1000 → hi < 1000 → fX8_number N (nI L) (nI i) t0 (nI lo) (nI hi) (nI c) mx = some (nI 0, nI (p + 1), nI v)) ∨
    ∃ v p, v ≤ 99 ∧ i < p ∧ p < L ∧ fX2_readNumber N (nI i) (nI L) tx = some (nI v, nI p) ∧ fX2_readSign N (nI p) (nI c) (nI L) tx = some (nI 1, nI (p + 1)) ∧ ∀ t0 lo hi, lo < 1000 → hi < 1000 → fX8_number N (nI L) (nI i) t0 (nI lo) (nI hi) (nI c) mx = some (fl (decide (lo ≤ v ∧ v ≤ hi)), nI (p + 1), nI v) := by
  rcases num (N := N) h hi hN with ⟨a1, a2⟩ | ⟨v, p, hv, hp, hpL, a1, a2⟩
  · exact Or.inl ⟨a1, fun t0 lo hi _ _ => a2 t0 _ _ _⟩
  · obtain ⟨b, b0, b1, b2⟩ := sgn (N := N) (p := p) (c := c) (v := v) h hpL hc hc2 hv
    cases b with
    | false => exact Or.inr (Or.inl ⟨v, p, hv, a1, b1, fun t0 lo hi h1 h2 => by rw [a2, b2 lo hi h1 h2]; rfl⟩)
    | true => exact Or.inr (Or.inr ⟨v, p, hv, hp, b0 rfl, a1, b1, fun t0 lo hi h1 h2 => by rw [a2, b2 lo hi h1 h2, Bool.true_and]⟩)
theorem one {N L i : Nat} {tx mx : Nat → Int32} (h : tR L tx mx) (hi : i ≤ L) (hN : 100 ≤ N) :
    (∃ x y, fX2_readOne N (nI i) (nI L) tx = some (nI 0, x, y) ∧ ∀ t0 lo hi, lo < 1000 → hi < 1000 → ∃ x' y', fX8_number N (nI L) (nI i) t0 (nI lo) (nI hi) (nI 59) mx = some (nI 0, x', y')) ∨
    ∃ v p, v ≤ 99 ∧ i < p ∧ p ≤ L ∧ fX2_readOne N (nI i) (nI L) tx = some (nI 1, nI p, nI v) ∧ ∀ t0 lo hi, lo < 1000 → hi < 1000 → fX8_number N (nI L) (nI i) t0 (nI lo) (nI hi) (nI 59) mx = some (fl (decide (lo ≤ v ∧ v ≤ hi)), nI p, nI v) := by
  rw [fX2_readOne_e]
  rcases ns (N := N) (c := 59) h hi hN (by omega) (by omega) with ⟨a1, a2⟩ | ⟨v, p, hv, a1, a2, a3⟩ | ⟨v, p, hv, hp, hpL, a1, a2, a3⟩
  · left
    refine ⟨nI i, -4, ?_, fun t0 lo hi h1 h2 => ⟨_, _, a2 t0 lo hi h1 h2⟩⟩
    rw [a1]
    rfl
  · left
    refine ⟨nI (p + 1), nI v, ?_, fun t0 lo hi h1 h2 => ⟨_, _, a3 t0 lo hi h1 h2⟩⟩
    rw [a1]
    simp only [ob]
    rw [if_neg (nI_m4 (by omega)), a2]
    rfl
  · right
    refine ⟨v, p + 1, hv, by omega, by omega, ?_, a3⟩
    rw [a1]
    simp only [ob]
    rw [if_neg (nI_m4 (by omega)), a2]
    simp only [ob]
    rw [iz_eqf (by omega) (by omega)]
theorem two {N L i : Nat} {tx mx : Nat → Int32} (h : tR L tx mx) (hi : i ≤ L) (hN : 100 ≤ N) (sec : Int32) :
    (∃ x y z, fX2_readTwo N (nI i) sec (nI L) tx = some (nI 0, x, y, z) ∧ ((∀ t0 lo hi, lo < 1000 → hi < 1000 → ∃ x' y', fX8_number N (nI L) (nI i) t0 (nI lo) (nI hi) (nI 44) mx = some (nI 0, x', y')) ∨
      ∃ v p, v ≤ 99 ∧ (∀ t0 lo hi, lo < 1000 → hi < 1000 → fX8_number N (nI L) (nI i) t0 (nI lo) (nI hi) (nI 44) mx = some (fl (decide (lo ≤ v ∧ v ≤ hi)), nI p, nI v)) ∧ ∀ t0 lo hi, lo < 1000 → hi < 1000 → ∃ x' y', fX8_number N (nI L) (nI p) t0 (nI lo) (nI hi) (nI 59) mx = some (nI 0, x', y'))) ∨
    ∃ v p w r, v ≤ 99 ∧ w ≤ 99 ∧ i < r ∧ r ≤ L ∧ fX2_readTwo N (nI i) sec (nI L) tx = some (nI 1, nI r, nI v, nI w) ∧ (∀ t0 lo hi, lo < 1000 → hi < 1000 → fX8_number N (nI L) (nI i) t0 (nI lo) (nI hi) (nI 44) mx = some (fl (decide (lo ≤ v ∧ v ≤ hi)), nI p, nI v)) ∧
      ∀ t0 lo hi, lo < 1000 → hi < 1000 → fX8_number N (nI L) (nI p) t0 (nI lo) (nI hi) (nI 59) mx = some (fl (decide (lo ≤ w ∧ w ≤ hi)), nI r, nI w) := by
  rw [fX2_readTwo_e]
  rcases ns (N := N) (c := 44) h hi hN (by omega) (by omega) with ⟨a1, a2⟩ | ⟨v, p, hv, a1, a2, a3⟩ | ⟨v, p, hv, hp, hpL, a1, a2, a3⟩
  · left
    refine ⟨nI i, -4, sec, ?_, Or.inl (fun t0 lo hi h1 h2 => ⟨_, _, a2 t0 lo hi h1 h2⟩)⟩
    rw [a1]
    rfl
  · left
    refine ⟨nI (p + 1), nI v, sec, ?_, Or.inl (fun t0 lo hi h1 h2 => ⟨_, _, a3 t0 lo hi h1 h2⟩)⟩
    rw [a1]
    simp only [ob]
    rw [if_neg (nI_m4 (by omega)), a2]
    rfl
  · rw [a1]
    simp only [ob]
    rw [if_neg (nI_m4 (by omega)), a2]
    simp only [ob]
    rw [iz_eqf (by omega) (by omega)]
    rcases ns (N := N) (i := p + 1) (c := 59) h (by omega) hN (by omega) (by omega) with ⟨b1, b2⟩ | ⟨w, r, hw, b1, b2, b3⟩ | ⟨w, r, hw, hr, hrL, b1, b2, b3⟩
    · left
      refine ⟨nI (p + 1), nI v, -4, ?_, Or.inr ⟨v, p + 1, hv, a3, fun t0 lo hi h1 h2 => ⟨_, _, b2 t0 lo hi h1 h2⟩⟩⟩
      rw [b1]
      rfl
    · left
      refine ⟨nI (r + 1), nI v, nI w, ?_, Or.inr ⟨v, p + 1, hv, a3, fun t0 lo hi h1 h2 => ⟨_, _, b3 t0 lo hi h1 h2⟩⟩⟩
      rw [b1]
      simp only [ob]
      rw [if_neg (nI_m4 (by omega)), b2]
      rfl
    · right
      refine ⟨v, p + 1, w, r + 1, hv, hw, by omega, by omega, ?_, a3, b3⟩
      rw [b1]
      simp only [ob]
      rw [if_neg (nI_m4 (by omega)), b2]
      simp only [ob]
      rw [iz_eqf (by omega) (by omega)]
