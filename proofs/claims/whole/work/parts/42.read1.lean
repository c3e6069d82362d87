/-! ===== reading: figures, numbers, signs ===== -/
theorem figC (N : Nat) (c : Int32) : (∃ v, v ≤ 9 ∧ c = nI (48 + v) ∧ fX2_isFigure N c = some (nI 1) ∧ fX8_in N c.toInt64 (lN 48) (lN 57) = some (nI 1)) ∨ (fX2_isFigure N c = some (nI 0) ∧ fX8_in N c.toInt64 (lN 48) (lN 57) = some (nI 0)) := by
  rw [fX2_isFigure_e]
  rcases nI_S c 57 (by omega) with hq | hq | ⟨z, hz, rfl⟩
  · right
    have h48 : c < nI 48 := by
      rw [Int32.lt_iff_toInt_lt, Int32.toInt_zero] at hq
      rw [Int32.lt_iff_toInt_lt, nI_toInt (by omega)]
      omega
    rw [if_pos h48, mo_inN (by omega) (by omega) hq]
    exact ⟨rfl, rfl⟩
  · right
    have h48 : ¬ c < nI 48 := by
      rw [Int32.le_iff_toInt_le, nI_toInt (by omega)] at hq
      rw [Int32.lt_iff_toInt_lt, nI_toInt (by omega)]
      omega
    have h57 : nI 57 < c := by
      rw [Int32.le_iff_toInt_le, nI_toInt (by omega)] at hq
      rw [Int32.lt_iff_toInt_lt, nI_toInt (by omega)]
      omega
    rw [if_neg h48, if_pos h57, mo_inB (by omega) (by omega) hq]
    exact ⟨rfl, rfl⟩
  · by_cases h : z < 48
    · right
      rw [ilt_t h (by omega), mo_inZ (by omega) (by omega) (by omega) (Or.inl h)]
      exact ⟨rfl, rfl⟩
    · left
      refine ⟨z - 48, by omega, by rw [show 48 + (z - 48) = z by omega], ?_, ?_⟩
      · rw [ilt_f (by omega) (by omega), ilt_f (by omega) (by omega)]
      · rw [mo_inY (by omega) (by omega) hz]
theorem cl_at {N L i : Nat} {tx : Nat → Int32} (hL : L ≤ 200) (hi : i ≤ 300) : fX0_at N (nI L) (nI i) tx = some (if i < L then tx i else nI 0) := by
  rw [fX0_at_e, iz_lt (by omega)]
  by_cases h : i < L
  · rw [if_pos h, ile_f h (by omega), ile_f (by omega) (by omega), gu (by omega) (by omega), nI_clamp (by omega)]
  · rw [if_neg h, ile_t (by omega) (by omega)]
/-- a figure at a place, in both -/
theorem figA {N L i : Nat} {tx mx : Nat → Int32} (h : tR L tx mx) (hi : i ≤ 250) : (∃ v, v ≤ 9 ∧ i < L ∧ tx i = nI (48 + v) ∧ mx i = nI (48 + v) ∧ (fX0_at N (nI L) (nI i) tx = some (nI (48 + v))) ∧ fX2_isFigure N (nI (48 + v)) = some (nI 1) ∧ fX8_isFigure N (nI L) (nI i) mx = some (nI 1)) ∨ ((∃ c, fX0_at N (nI L) (nI i) tx = some c ∧ fX2_isFigure N c = some (nI 0)) ∧ fX8_isFigure N (nI L) (nI i) mx = some (nI 0)) := by
  obtain ⟨hL, ht⟩ := h
  rw [cl_at hL (by omega), fX8_isFigure_e]
  by_cases hl : i < L
  · rw [if_pos hl, ile_f hl (by omega), gu (by omega) (by omega), nI_clamp (by omega), ← ht i hl]
    rcases figC N (tx i) with ⟨v, hv, e, e1, e2⟩ | ⟨e1, e2⟩
    · left
      refine ⟨v, hv, hl, e, e, by rw [e], by rw [← e]; exact e1, ?_⟩
      rw [e2]
      simp only [ob]
      rw [iz_eqf (by omega) (by omega)]
    · right
      refine ⟨⟨_, rfl, e1⟩, ?_⟩
      rw [e2]
      simp only [ob]
      rw [iz_eqt rfl]
  · right
    rw [if_neg hl, ile_t (by omega) (by omega)]
    refine ⟨⟨_, rfl, ?_⟩, rfl⟩
    rw [fX2_isFigure_e, ilt_t (by omega) (by omega)]
/-- a number at a place, in both -/
theorem num {N L i : Nat} {tx mx : Nat → Int32} (h : tR L tx mx) (hi : i ≤ L) (hN : 100 ≤ N) : (fX2_readNumber N (nI i) (nI L) tx = some (-4, nI i) ∧ ∀ t0 p1 p2 p3, fX8_number N (nI L) (nI i) t0 p1 p2 p3 mx = some (nI 0, nI i, t0)) ∨
    ∃ v p, v ≤ 99 ∧ i < p ∧ p ≤ L ∧ fX2_readNumber N (nI i) (nI L) tx = some (nI v, nI p) ∧ ∀ t0 p1 p2 p3, fX8_number N (nI L) (nI i) t0 p1 p2 p3 mx = fX8_number_76 N (nI L) p1 p2 p3 mx (nI p) (nI v) := by
  have hL := h.1
  obtain ⟨m, rfl⟩ : ∃ m, N = m + 3 := ⟨N - 3, by omega⟩
  rcases figA (N := m + 3) (i := i) h (by omega) with ⟨v, hv, hl, e1, e2, e3, e4, e5⟩ | ⟨⟨c, e1, e2⟩, e3⟩
  · right
    rcases figA (N := m + 3) (i := i + 1) h (by omega) with ⟨w, hw, kl, k1, k2, k3, k4, k5⟩ | ⟨⟨c, k1, k2⟩, k3⟩
    · refine ⟨v * 10 + w, i + 2, by omega, by omega, by omega, ?_, fun t0 p1 p2 p3 => ?_⟩
      · rw [fX2_readNumber_e, fX2_readNumber_5_s, ile_f (by omega) (by omega), e3]
        simp only [ob]
        rw [e4]
        simp only [ob]
        rw [iz_eqf (by omega) (by omega), iz_eqt rfl, fX2_readNumber_56_e, nI_add, nI_add, pk_sub (by omega), fX2_readNumber_5_s, ile_f (by omega) (by omega), k3]
        simp only [ob]
        rw [k4]
        simp only [ob]
        rw [iz_eqf (by omega) (by omega), iz_eqf (by omega) (by omega), fX2_readNumber_56_e, nI_add, nI_add, pk_sub (by omega), pk_mul, nI_add, fX2_readNumber_5_s, ile_t (by omega) (by omega), show 48 + v - 48 = v by omega, show 48 + w - 48 = w by omega]
      · rw [fX8_number_e, e5]
        simp only [ob]
        rw [iz_eqf (by omega) (by omega), gu (by omega) (by omega), nI_add, k5]
        simp only [ob]
        rw [iz_eqf (by omega) (by omega), gu (by omega) (by omega), nI_add, nI_clamp (by omega), nI_clamp (by omega), e2, k2, pk_sub (by omega), pk_mul, nI_add, pk_sub (by omega), show 10 * (48 + v - 48) + (48 + w) - 48 = v * 10 + w by omega]
    · refine ⟨v, i + 1, by omega, by omega, by omega, ?_, fun t0 p1 p2 p3 => ?_⟩
      · rw [fX2_readNumber_e, fX2_readNumber_5_s, ile_f (by omega) (by omega), e3]
        simp only [ob]
        rw [e4]
        simp only [ob]
        rw [iz_eqf (by omega) (by omega), iz_eqt rfl, fX2_readNumber_56_e, nI_add, nI_add, pk_sub (by omega), fX2_readNumber_5_s, ile_f (by omega) (by omega), k1]
        simp only [ob]
        rw [k2]
        simp only [ob]
        rw [iz_eqt rfl, show 48 + v - 48 = v by omega]
      · rw [fX8_number_e, e5]
        simp only [ob]
        rw [iz_eqf (by omega) (by omega), gu (by omega) (by omega), nI_add, k3]
        simp only [ob]
        rw [iz_eqt rfl, nI_clamp (by omega), e2, pk_sub (by omega), show 48 + v - 48 = v by omega]
  · left
    refine ⟨?_, fun t0 p1 p2 p3 => ?_⟩
    · rw [fX2_readNumber_e, fX2_readNumber_5_s, ile_f (by omega) (by omega), e1]
      simp only [ob]
      rw [e2]
      simp only [ob]
      rw [iz_eqt rfl]
    · rw [fX8_number_e, e3]
      simp only [ob]
      rw [iz_eqt rfl]
/-- the sign behind it -/
theorem sgn {N L p c v : Nat} {tx mx : Nat → Int32} (h : tR L tx mx) (hp : p ≤ L) (hc : 0 < c) (hc2 : c < 200) (hv : v ≤ 99) : ∃ b : Bool, (b = true → p < L) ∧ fX2_readSign N (nI p) (nI c) (nI L) tx = some (fl b, nI (p + 1)) ∧
    ∀ lo hi, lo < 1000 → hi < 1000 → fX8_number_76 N (nI L) (nI lo) (nI hi) (nI c) mx (nI p) (nI v) = some (fl (b && decide (lo ≤ v ∧ v ≤ hi)), nI (p + 1), nI v) := by
  obtain ⟨hL, ht⟩ := h
  have hin : ∀ lo hi, lo < 1000 → hi < 1000 → fX8_in N (nI v).toInt64 (nI lo).toInt64 (nI hi).toInt64 = some (fl (decide (lo ≤ v ∧ v ≤ hi))) := by
    intro lo hi h1 h2
    rw [nI_l (show lo < 2 ^ 31 by omega), nI_l (show hi < 2 ^ 31 by omega)]
    by_cases e : lo ≤ v ∧ v ≤ hi
    · rw [mo_inY (by omega) e.1 e.2, decide_eq_true e]
      rfl
    · rw [mo_inZ (by omega) (by omega) (by omega) (by omega), decide_eq_false e]
      rfl
  by_cases hb : p < L ∧ tx p = nI c
  · refine ⟨true, fun _ => hb.1, ?_, fun lo hi h1 h2 => ?_⟩
    · rw [fX2_readSign_e, cl_at hL (by omega), if_pos hb.1, hb.2]
      rw [Option.bind_some, if_pos rfl, fX2_readSign_20_e, if_pos (show nI 1 = 0 ∨ nI 1 = 1 from Or.inr rfl), nI_add]
      rfl
    · rw [fX8_number_76_e, hin lo hi h1 h2]
      simp only [ob]
      by_cases e : lo ≤ v ∧ v ≤ hi
      · rw [decide_eq_true e, fl_t, iz_eqf (by omega) (by omega), ile_f hb.1 (by omega), gu (by omega) (by omega), nI_clamp (by omega), ← ht p hb.1, if_pos hb.2, fX8_number_120_e, if_pos (show nI 1 = 0 ∨ nI 1 = 1 from Or.inr rfl), nI_add]
        rfl
      · rw [decide_eq_false e, fl_f, iz_eqt rfl, fX8_number_119_e, fX8_number_120_e, if_pos (show nI 0 = 0 ∨ nI 0 = 1 from Or.inl rfl), nI_add]
        rfl
  · refine ⟨false, (fun h => by cases h), ?_, fun lo hi h1 h2 => ?_⟩
    · rw [fX2_readSign_e, cl_at hL (by omega)]
      simp only [ob]
      have hne : ¬ (if p < L then tx p else nI 0) = nI c := by
        by_cases hl : p < L
        · rw [if_pos hl]
          exact fun e => hb ⟨hl, e⟩
        · rw [if_neg hl]
          exact fun e => by have := (nI_eq (by omega) (by omega)).mp e; omega
      rw [if_neg hne, fX2_readSign_20_e, if_pos (show nI 0 = 0 ∨ nI 0 = 1 from Or.inl rfl), nI_add]
      rfl
    · rw [fX8_number_76_e, hin lo hi h1 h2]
      simp only [ob]
      have hz : fX8_number_119 (nI p) (nI v) = some (fl (false && decide (lo ≤ v ∧ v ≤ hi)), nI (p + 1), nI v) := by
        rw [fX8_number_119_e, fX8_number_120_e, if_pos (show nI 0 = 0 ∨ nI 0 = 1 from Or.inl rfl), nI_add]
        rfl
      by_cases e : lo ≤ v ∧ v ≤ hi
      · rw [decide_eq_true e] at hz ⊢
        rw [fl_t, iz_eqf (by omega) (by omega)]
        by_cases hl : p < L
        · rw [ile_f hl (by omega), gu (by omega) (by omega), nI_clamp (by omega), ← ht p hl, if_neg (fun e => hb ⟨hl, e⟩)]
          exact hz
        · rw [ile_t (by omega) (by omega)]
          exact hz
      · rw [decide_eq_false e] at hz ⊢
        rw [fl_f, iz_eqt rfl]
        exact hz
