/-! ===== numbers that a caller gives ===== -/
theorem nI_S (x : Int32) (hi : Nat) (h : hi < 1000000) : x < 0 ∨ nI (hi + 1) ≤ x ∨ ∃ j, j ≤ hi ∧ x = nI j := by
  rcases pk_ix x (n := hi + 1) (by omega) with q | q | ⟨j, q1, q2⟩
  · exact Or.inl q
  · exact Or.inr (Or.inl q)
  · exact Or.inr (Or.inr ⟨j, by omega, q2⟩)
theorem big_nlt0 {x : Int32} {k : Nat} (hk : k < 1000000) (h : nI k ≤ x) : ¬ x < 0 := by
  rw [Int32.le_iff_toInt_le, nI_toInt (by omega)] at h
  rw [Int32.lt_iff_toInt_lt, Int32.toInt_zero]
  omega
theorem big_le {x : Int32} {k j : Nat} (hk : k < 1000000) (hj : j ≤ k) (h : nI k ≤ x) : nI j ≤ x := by
  rw [Int32.le_iff_toInt_le, nI_toInt (by omega)] at h ⊢
  omega
theorem big_nle {x : Int32} {k j : Nat} (hk : k < 1000000) (hj : j < k) (h : nI k ≤ x) : ¬ x ≤ nI j := by
  rw [Int32.le_iff_toInt_le, nI_toInt (by omega)] at h ⊢
  omega
theorem big_nlt {x : Int32} {k j : Nat} (hk : k < 1000000) (hj : j ≤ k) (h : nI k ≤ x) : ¬ x < nI j := by
  rw [Int32.le_iff_toInt_le, nI_toInt (by omega)] at h
  rw [Int32.lt_iff_toInt_lt, nI_toInt (by omega)]
  omega
theorem neg_lt {x : Int32} {j : Nat} (hj : j < 1000000) (h : x < 0) : x < nI j := by
  rw [Int32.lt_iff_toInt_lt, Int32.toInt_zero] at h
  rw [Int32.lt_iff_toInt_lt, nI_toInt (by omega)]
  omega
theorem lg_neg (x y : Int64) : lg_cmp x y < 0 ↔ x.toInt < y.toInt := by
  unfold lg_cmp
  by_cases h : x > y
  · rw [if_pos h]
    have := Int64.lt_iff_toInt_lt.mp h
    constructor
    · intro q; exact absurd q (by decide)
    · intro q; omega
  · rw [if_neg h]
    have h1 : ¬ y.toInt < x.toInt := fun q => h (Int64.lt_iff_toInt_lt.mpr q)
    by_cases h2 : x = y
    · rw [if_pos h2, h2]
      constructor
      · intro q; exact absurd q (by decide)
      · intro q; omega
    · rw [if_neg h2]
      have h3 : x.toInt ≠ y.toInt := fun q => h2 (Int64.toInt_inj.mp q)
      constructor
      · intro _; omega
      · intro _; decide
theorem lg_pos (x y : Int64) : 0 < lg_cmp x y ↔ y.toInt < x.toInt := by
  unfold lg_cmp
  by_cases h : x > y
  · rw [if_pos h]
    have := Int64.lt_iff_toInt_lt.mp h
    constructor
    · intro _; exact this
    · intro _; decide
  · rw [if_neg h]
    have h1 : ¬ y.toInt < x.toInt := fun q => h (Int64.lt_iff_toInt_lt.mpr q)
    by_cases h2 : x = y
    · rw [if_pos h2]
      constructor
      · intro q; exact absurd q (by decide)
      · intro q; omega
    · rw [if_neg h2]
      constructor
      · intro q; exact absurd q (by decide)
      · intro q; omega
theorem mo_in {N a b : Nat} (x : Int32) (ha : a < 1000000) (hb : b < 1000000) : fX8_in N x.toInt64 (lN a) (lN b) = some (if (a : Int) ≤ x.toInt ∧ x.toInt ≤ (b : Int) then nI 1 else nI 0) := by
  rw [fX8_in_e]
  have hx : x.toInt64.toInt = x.toInt := Int32.toInt_toInt64 x
  have h1 := lg_neg x.toInt64 (lN a)
  have h2 := lg_pos x.toInt64 (lN b)
  rw [hx, pk_lT (show a < 2 ^ 63 by omega)] at h1
  rw [hx, pk_lT (show b < 2 ^ 63 by omega)] at h2
  by_cases q1 : x.toInt < (a : Int)
  · rw [if_pos (h1.mpr q1), if_neg (by omega)]
  · rw [if_neg (fun q => q1 (h1.mp q))]
    by_cases q2 : (b : Int) < x.toInt
    · rw [if_pos (h2.mpr q2), if_neg (by omega)]
    · rw [if_neg (fun q => q2 (h2.mp q)), if_pos (by omega)]
theorem mo_inN {N a b : Nat} {x : Int32} (ha : a < 1000000) (hb : b < 1000000) (h : x < 0) : fX8_in N x.toInt64 (lN a) (lN b) = some (nI 0) := by
  rw [Int32.lt_iff_toInt_lt, Int32.toInt_zero] at h
  rw [mo_in x ha hb, if_neg (by omega)]
theorem mo_inB {N a b : Nat} {x : Int32} (ha : a < 1000000) (hb : b < 999999) (h : nI (b + 1) ≤ x) : fX8_in N x.toInt64 (lN a) (lN b) = some (nI 0) := by
  rw [Int32.le_iff_toInt_le, nI_toInt (by omega)] at h
  rw [mo_in x ha (by omega), if_neg (by omega)]
theorem mo_inY {N a b j : Nat} (hb : b < 1000000) (h1 : a ≤ j) (h2 : j ≤ b) : fX8_in N (nI j).toInt64 (lN a) (lN b) = some (nI 1) := by
  rw [mo_in (nI j) (by omega) hb, nI_toInt (by omega), if_pos (by omega)]
theorem mo_inZ {N a b j : Nat} (ha : a < 1000000) (hb : b < 1000000) (hj : j < 1000000) (h : j < a ∨ b < j) : fX8_in N (nI j).toInt64 (lN a) (lN b) = some (nI 0) := by
  rw [mo_in (nI j) ha hb, nI_toInt (by omega), if_neg (by omega)]
/-- a cell, or none: class and reference -/
theorem isC {R C n N : Nat} {told : Nat → Int32} (hY : mYd R C n told) (x : Int32) : (fX6_has N (nI n) x = some (nI 0) ∧ fX8_isCell N x told = some (nI 0)) ∨ ∃ j, j < n ∧ x = nI j ∧ fX6_has N (nI n) x = some (nI 1) ∧ fX8_isCell N x told = some (nI 1) := by
  have h25 := hY.1.n25
  have h1 : (nI n - nI 1).toInt64 = lN (n - 1) := by rw [pk_sub (by omega)]; exact nI_l (by omega)
  rcases nI_S x (n - 1) (by omega) with q | q | ⟨j, q1, rfl⟩
  · left
    refine ⟨by rw [fX6_has_e, if_pos q], ?_⟩
    rw [fX8_isCell_e, mo_cells hY]
    simp only [ob]
    rw [h1, mo_inN (by omega) (by omega) q]
    simp only [ob]
    rw [if_pos (show nI 0 = 0 ∨ nI 0 = 1 from Or.inl rfl)]
  · left
    rw [show n - 1 + 1 = n by omega] at q
    refine ⟨by rw [fX6_has_e, if_neg (big_nlt0 (by omega) q), if_pos q], ?_⟩
    rw [fX8_isCell_e, mo_cells hY]
    simp only [ob]
    rw [h1, mo_inB (by omega) (by omega) (by rw [show n - 1 + 1 = n by omega]; exact q)]
    simp only [ob]
    rw [if_pos (show nI 0 = 0 ∨ nI 0 = 1 from Or.inl rfl)]
  · right
    refine ⟨j, by omega, rfl, ?_, ?_⟩
    · rw [fX6_has_e]
      simp (disch := omega) only [gu, gu2, ile_t, ile_f, ilt_t, ilt_f, ieq_t, ieq_f, iz_lt, iz_eqt, iz_eqf, iz_le, im_eqf, im_eqt, im_lt, ob, nI_add, pk_mul, nI_clamp, if_true, if_false]
    · rw [fX8_isCell_e, mo_cells hY]
      simp only [ob]
      rw [h1, mo_inY (by omega) (by omega) q1]
      simp only [ob]
      rw [if_pos (show nI 1 = 0 ∨ nI 1 = 1 from Or.inr rfl)]
theorem cpy25 {f g : Nat → Int32} {y : Nat} (h : y < 25) : va_cpy f g 0 0 25 y = f y := by
  rw [pk_cpy_in (by omega) (by omega)]
  congr 1
  omega
theorem mSc_K {K K' now : Nat → Int32} {s nt : Nat} {bg : Option Nat} (h : mSc K s nt bg now) (he : ∀ y, y < 25 → K' y = K y) : mSc K' s nt bg now := ⟨h.1, h.2.1, h.2.2.1, fun y hy => (h.2.2.2 y hy).trans (he y hy).symm⟩
theorem okSc_K {n s : Nat} {K K' : Nat → Int32} (h : okSc n K s) (hn : n ≤ 25) (he : ∀ y, y < 25 → K' y = K y) : okSc n K' s := ⟨h.1, by rw [he s (by have := h.1; omega)]; exact h.2⟩
/-! ===== damp, cell, far ===== -/
theorem p_damp {q N : Nat} {d : Nat → Nat} {damps told : Nat → Int32} (h : yDm q d damps told) (p1 : Int32) : ∃ r, fX7_damp N p1 (nI q) damps = some r ∧ fX8_damp N p1 told = some r := by
  rw [fX7_damp_e, fX8_damp_e]
  rcases nI_S p1 999 (by omega) with hq | hq | ⟨j, h1, rfl⟩
  · refine ⟨-1, by rw [if_pos hq], ?_⟩
    rw [mo_inN (by omega) (by omega) hq]
    simp only [ob]
    rw [iz_eqt rfl]
  · refine ⟨-1, by rw [if_neg (big_nlt0 (by omega) hq), if_neg (big_nle (by omega) (by omega) hq)], ?_⟩
    rw [mo_inB (by omega) (by omega) hq]
    simp only [ob]
    rw [iz_eqt rfl]
  · refine ⟨nI (dmp q d j), ?_, ?_⟩
    · simp (disch := omega) only [gu, gu2, ile_t, ile_f, ilt_t, ilt_f, ieq_t, ieq_f, iz_lt, iz_eqt, iz_eqf, iz_le, im_eqf, im_eqt, im_lt, ob, nI_add, pk_mul, nI_clamp, if_true, if_false]
      rw [cl_damp h (by omega)]
      rfl
    · rw [mo_inY (by omega) (by omega) h1]
      simp (disch := omega) only [gu, gu2, ile_t, ile_f, ilt_t, ilt_f, ieq_t, ieq_f, iz_lt, iz_eqt, iz_eqf, iz_le, im_eqf, im_eqt, im_lt, ob, nI_add, pk_mul, nI_clamp, if_true, if_false]
      rw [mo_damp h (by omega)]
      rfl
theorem p_cell {R C n q N s nt : Nat} {d : Nat → Nat} {bes damps told nk now : Nat → Int32} {bg : Option Nat} (hY : yAll R C n q d bes damps told) (hS : mSc nk s nt bg now) (hnt : nt < 10000) (p1 p2 : Int32) : ∃ r, fX7_cell N p1 p2 (nI n) (nI q) (nI nt) nk damps = some r ∧ fX8_cell N p1 p2 told now = some r := by
  have h25 := hY.1.1.n25
  rw [fX7_cell_e, fX8_cell_e]
  rcases isC (N := N) hY.1 p1 with ⟨h1, h2⟩ | ⟨x, hx, rfl, h1, h2⟩
  · refine ⟨-1, ?_, ?_⟩
    · rw [h1]; simp only [ob]; rw [iz_eqt rfl]
    · rw [h2]; simp only [ob]; rw [iz_eqt rfl]
  · rw [h1, h2]
    simp (disch := omega) only [gu, gu2, ile_t, ile_f, ilt_t, ilt_f, ieq_t, ieq_f, iz_lt, iz_eqt, iz_eqf, iz_le, im_eqf, im_eqt, im_lt, ob, nI_add, pk_mul, nI_clamp, if_true, if_false]
    rw [cl_kindAt (show x < 25 by omega), mo_kind hS.2.2.2 (show x < 25 by omega)]
    simp only [ob]
    rcases nI_S p2 1 (by omega) with hq | hq | ⟨j, hj, rfl⟩
    · refine ⟨-1, by rw [if_pos hq], ?_⟩
      rw [mo_inN (by omega) (by omega) hq]
      simp only [ob]
      rw [iz_eqt rfl]
    · refine ⟨-1, by rw [if_neg (big_nlt0 (by omega) hq), if_neg (big_nle (by omega) (by omega) hq)], ?_⟩
      rw [mo_inB (by omega) (by omega) hq]
      simp only [ob]
      rw [iz_eqt rfl]
    · rw [mo_inY (by omega) (by omega) hj]
      simp (disch := omega) only [gu, gu2, ile_t, ile_f, ilt_t, ilt_f, ieq_t, ieq_f, iz_lt, iz_eqt, iz_eqf, iz_le, im_eqf, im_eqt, im_lt, ob, nI_add, pk_mul, nI_clamp, if_true, if_false]
      rcases (show j = 0 ∨ j = 1 by omega) with rfl | rfl
      · exact ⟨nk x, by simp (disch := omega) only [gu, gu2, ile_t, ile_f, ilt_t, ilt_f, ieq_t, ieq_f, iz_lt, iz_eqt, iz_eqf, iz_le, im_eqf, im_eqt, im_lt, ob, nI_add, pk_mul, nI_clamp, if_true, if_false], by simp (disch := omega) only [gu, gu2, ile_t, ile_f, ilt_t, ilt_f, ieq_t, ieq_f, iz_lt, iz_eqt, iz_eqf, iz_le, im_eqf, im_eqt, im_lt, ob, nI_add, pk_mul, nI_clamp, if_true, if_false]⟩
      · simp (disch := omega) only [gu, gu2, ile_t, ile_f, ilt_t, ilt_f, ieq_t, ieq_f, iz_lt, iz_eqt, iz_eqf, iz_le, im_eqf, im_eqt, im_lt, ob, nI_add, pk_mul, nI_clamp, if_true, if_false]
        by_cases hs : nk x = nI 2
        · exact ⟨-4, by rw [if_pos hs], by rw [if_pos hs]⟩
        · have hw : wk (nk x) < 1000 := by
            rcases Nat.lt_or_ge (wk (nk x)) 1000 with h | h
            · exact h
            · exact absurd ((wk_salt _).mp h) hs
          have hD := dmp_9 (n := nt) hY.2.2
          refine ⟨nI (cd (nk x) (dmp q d nt)), ?_, ?_⟩
          · rw [if_neg hs, cl_damp hY.2.2 (by omega)]
            simp only [ob]
            rw [cl_stepsD (by omega)]
            rfl
          · rw [if_neg hs, hS.1, mo_damp hY.2.2 (by omega)]
            simp only [ob]
            have hi := mo_intoD (N := N) (D := dmp q d nt) hS.2.2.2 (show x < 25 by omega) hw
            by_cases h3 : 3 ≤ dmp q d nt
            · rw [if_pos h3] at hi
              simp (disch := omega) only [gu, gu2, ile_t, ile_f, ilt_t, ilt_f, ieq_t, ieq_f, iz_lt, iz_eqt, iz_eqf, iz_le, im_eqf, im_eqt, im_lt, ob, nI_add, pk_mul, nI_clamp, if_true, if_false]
              rw [fX8_cell_65_e, hi]
              rfl
            · rw [if_neg h3] at hi
              simp (disch := omega) only [gu, gu2, ile_t, ile_f, ilt_t, ilt_f, ieq_t, ieq_f, iz_lt, iz_eqt, iz_eqf, iz_le, im_eqf, im_eqt, im_lt, ob, nI_add, pk_mul, nI_clamp, if_true, if_false]
              rw [fX8_cell_65_e, hi]
              rfl
theorem p_far {R C n q N s nt : Nat} {d : Nat → Nat} {bes damps told nk now fS fr : Nat → Int32} {bg : Option Nat} (hY : yAll R C n q d bes damps told) (hS : mSc nk s nt bg now) (hok : okSc n nk s) (hN : 100000 ≤ N) (p1 : Int32) : ∃ r fS' fr', fX7_far N p1 (nI n) (nI s) fS bes nk = some (r, fS') ∧ fX8_far N p1 told fr now = some (r, fr') := by
  have h25 := hY.1.1.n25
  rw [fX7_far_e, fX8_far_e]
  rcases isC (N := N) hY.1 p1 with ⟨h1, h2⟩ | ⟨x, hx, rfl, h1, h2⟩
  · refine ⟨-1, fS, fr, ?_, ?_⟩
    · rw [h1]; simp only [ob]; rw [iz_eqt rfl]
    · rw [h2]; simp only [ob]; rw [iz_eqt rfl]
  · obtain ⟨m, hm⟩ := isD_ex (okG hY.1.1 nk) hok.1
    obtain ⟨p, hR, e1⟩ := cl_spread (N := N) (K := nk) (p := fS) hY.1.1 hY.2.1 (by omega) hok.1 hm
    obtain ⟨p2, hR2, e2⟩ := mo_seeks (N := N) (p := fr) hY.1 hS.2.2.2 hS.2.1 hok.1 hN hm
    have hmx := hm.2.1 x
    have hpx := hR x hx
    have hpx2 := hR2 x hx
    rw [h1, h2]
    simp (disch := omega) only [gu, gu2, ile_t, ile_f, ilt_t, ilt_f, ieq_t, ieq_f, iz_lt, iz_eqt, iz_eqf, iz_le, im_eqf, im_eqt, im_lt, ob, nI_add, pk_mul, nI_clamp, if_true, if_false]
    rw [fX5_stepsTo_e, e1, e2]
    simp (disch := omega) only [gu, gu2, ile_t, ile_f, ilt_t, ilt_f, ieq_t, ieq_f, iz_lt, iz_eqt, iz_eqf, iz_le, im_eqf, im_eqt, im_lt, ob, nI_add, pk_mul, nI_clamp, if_true, if_false]
    rw [hpx, hpx2]
    by_cases h3 : m x = 1000
    · rw [h3, big_1000]
      exact ⟨-4, p, p2, by simp (disch := omega) only [gu, gu2, ile_t, ile_f, ilt_t, ilt_f, ieq_t, ieq_f, iz_lt, iz_eqt, iz_eqf, iz_le, im_eqf, im_eqt, im_lt, ob, nI_add, pk_mul, nI_clamp, if_true, if_false], by simp (disch := omega) only [gu, gu2, ile_t, ile_f, ilt_t, ilt_f, ieq_t, ieq_f, iz_lt, iz_eqt, iz_eqf, iz_le, im_eqf, im_eqt, im_lt, ob, nI_add, pk_mul, nI_clamp, if_true, if_false]⟩
    · rw [big_lt (by omega)]
      exact ⟨nI (m x), p, p2, by simp (disch := omega) only [gu, gu2, ile_t, ile_f, ilt_t, ilt_f, ieq_t, ieq_f, iz_lt, iz_eqt, iz_eqf, iz_le, im_eqf, im_eqt, im_lt, ob, nI_add, pk_mul, nI_clamp, if_true, if_false], by simp (disch := omega) only [gu, gu2, ile_t, ile_f, ilt_t, ilt_f, ieq_t, ieq_f, iz_lt, iz_eqt, iz_eqf, iz_le, im_eqf, im_eqt, im_lt, ob, nI_add, pk_mul, nI_clamp, if_true, if_false]⟩
