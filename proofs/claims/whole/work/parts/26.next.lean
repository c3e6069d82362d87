/-! ===== where it goes for, class and reference ===== -/
def okL (K : Nat → Int32) (m : Nat → Nat) : Nat → Bool := fun x => decide (K x = nI 3) && decide (m x < 5)
def okE (n C : Nat) (m : Nat → Nat) : Nat → Bool := fun x => decide (n - C ≤ x) && decide (m x < 1000)
def fw (m : Nat → Nat) (z : Nat) : Option Nat → Nat
  | none => z
  | some y => m y
theorem okL_t {K : Nat → Int32} {m : Nat → Nat} {x : Nat} (h : K x = nI 3) (h2 : m x < 5) : okL K m x = true := by simp [okL, h, h2]
theorem okL_f {K : Nat → Int32} {m : Nat → Nat} {x : Nat} (h : ¬ (K x = nI 3 ∧ m x < 5)) : okL K m x = false := by
  unfold okL
  by_cases h1 : K x = nI 3
  · have h2 : ¬ m x < 5 := fun q => h ⟨h1, q⟩
    simp [h2]
  · simp [h1]
theorem okE_t {n C : Nat} {m : Nat → Nat} {x : Nat} (h : n - C ≤ x) (h2 : m x < 1000) : okE n C m x = true := by simp [okE, h, h2]
theorem okE_f {n C : Nat} {m : Nat → Nat} {x : Nat} (h : ¬ (n - C ≤ x ∧ m x < 1000)) : okE n C m x = false := by
  unfold okE
  by_cases h1 : n - C ≤ x
  · have h2 : ¬ m x < 1000 := fun q => h ⟨h1, q⟩
    simp [h2]
  · simp [h1]
theorem cl_nl {n N : Nat} {K p : Nat → Int32} {m : Nat → Nat} (hn : n ≤ 25) (hR : Rp n p m) (hm : ∀ y, m y ≤ 1000) : ∀ (d i fuel : Nat) (cur : Option Nat), i + d = n → d < fuel → (∀ y, cur = some y → m y < 5) → fX5_nearestLettuce_9 N (nI n) p K fuel (oI cur) (nI (fw m 5 cur)) (nI i) = some (oI (bI m (okL K m) d i cur)) := by
  intro d
  induction d with
  | zero =>
    intro i fuel cur hi hf hc
    obtain ⟨f, rfl⟩ : ∃ f, fuel = f + 1 := ⟨fuel - 1, by omega⟩
    rw [fX5_nearestLettuce_9_s]
    simp (disch := omega) only [gu, gu2, ile_t, ile_f, ilt_t, ilt_f, ieq_t, ieq_f, iz_lt, iz_eqt, iz_eqf, iz_le, im_eqf, im_eqt, im_lt, ob, nI_add, pk_mul, nI_clamp, if_true, if_false]
    rfl
  | succ d ih =>
    intro i fuel cur hi hf hc
    obtain ⟨f, rfl⟩ : ∃ f, fuel = f + 1 := ⟨fuel - 1, by omega⟩
    have hmi := hm i
    have hpi := hR i (by omega)
    rw [fX5_nearestLettuce_9_s, cl_kindAt (show i < 25 by omega)]
    simp (disch := omega) only [gu, gu2, ile_t, ile_f, ilt_t, ilt_f, ieq_t, ieq_f, iz_lt, iz_eqt, iz_eqf, iz_le, im_eqf, im_eqt, im_lt, ob, nI_add, pk_mul, nI_clamp, if_true, if_false]
    show _ = some (oI (bI m (okL K m) d (i + 1) (bS m (okL K m) i cur)))
    have hfw : fw m 5 cur ≤ 5 := by
      cases cur with
      | none => exact Nat.le_refl 5
      | some y => have := hc y rfl; simp only [fw]; omega
    by_cases h1 : K i = nI 3
    · rw [if_pos h1]
      simp (disch := omega) only [hpi, gu, gu2, ile_t, ile_f, ilt_t, ilt_f, ieq_t, ieq_f, iz_lt, iz_eqt, iz_eqf, iz_le, im_eqf, im_eqt, im_lt, ob, nI_add, pk_mul, nI_clamp, if_true, if_false]
      by_cases h2 : m i < fw m 5 cur
      · simp (disch := omega) only [gu, gu2, ile_t, ile_f, ilt_t, ilt_f, ieq_t, ieq_f, iz_lt, iz_eqt, iz_eqf, iz_le, im_eqf, im_eqt, im_lt, ob, nI_add, pk_mul, nI_clamp, if_true, if_false]
        have h3 : bS m (okL K m) i cur = some i := by
          cases cur with
          | none => exact bS_none (okL_t h1 h2)
          | some y => exact bS_lt (okL_t h1 (by omega)) h2
        rw [h3]
        exact ih (i + 1) f (some i) (by omega) (by omega) (fun y hy => by cases hy; omega)
      · simp (disch := omega) only [gu, gu2, ile_t, ile_f, ilt_t, ilt_f, ieq_t, ieq_f, iz_lt, iz_eqt, iz_eqf, iz_le, im_eqf, im_eqt, im_lt, ob, nI_add, pk_mul, nI_clamp, if_true, if_false]
        have h3 : bS m (okL K m) i cur = cur := by
          cases cur with
          | none => exact bS_no (okL_f (fun q => h2 q.2))
          | some y => exact bS_ge h2
        rw [h3]
        exact ih (i + 1) f cur (by omega) (by omega) hc
    · rw [if_neg h1, bS_no (okL_f (fun q => h1 q.1))]
      exact ih (i + 1) f cur (by omega) (by omega) hc
theorem cl_isLine {N C n x : Nat} (hC : C ≤ n) (hn : n ≤ 25) (hx : x < n) : fX6_isOfLine N (nI C) (nI n) (nI x) = some (if n - C ≤ x then nI 1 else nI 0) := by
  rw [fX6_isOfLine_e, pk_sub hC]
  by_cases h : n - C ≤ x
  · rw [if_pos h]
    simp (disch := omega) only [gu, gu2, ile_t, ile_f, ilt_t, ilt_f, ieq_t, ieq_f, iz_lt, iz_eqt, iz_eqf, iz_le, im_eqf, im_eqt, im_lt, ob, nI_add, pk_mul, nI_clamp, if_true, if_false]
  · rw [if_neg h]
    simp (disch := omega) only [gu, gu2, ile_t, ile_f, ilt_t, ilt_f, ieq_t, ieq_f, iz_lt, iz_eqt, iz_eqf, iz_le, im_eqf, im_eqt, im_lt, ob, nI_add, pk_mul, nI_clamp, if_true, if_false]
theorem cl_ne {n C N : Nat} {p : Nat → Int32} {m : Nat → Nat} (hC : C ≤ n) (hn : n ≤ 25) (hR : Rp n p m) (hm : ∀ y, m y ≤ 1000) : ∀ (d i fuel : Nat) (cur : Option Nat), i + d = n → d < fuel → (∀ y, cur = some y → m y < 1000) → fX5_nearestOfLine_10 N (nI C) (nI n) p fuel (oI cur) (nI (fw m 1000 cur)) (nI i) = some (oI (bI m (okE n C m) d i cur)) := by
  intro d
  induction d with
  | zero =>
    intro i fuel cur hi hf hc
    obtain ⟨f, rfl⟩ : ∃ f, fuel = f + 1 := ⟨fuel - 1, by omega⟩
    rw [fX5_nearestOfLine_10_s]
    simp (disch := omega) only [gu, gu2, ile_t, ile_f, ilt_t, ilt_f, ieq_t, ieq_f, iz_lt, iz_eqt, iz_eqf, iz_le, im_eqf, im_eqt, im_lt, ob, nI_add, pk_mul, nI_clamp, if_true, if_false]
    rfl
  | succ d ih =>
    intro i fuel cur hi hf hc
    obtain ⟨f, rfl⟩ : ∃ f, fuel = f + 1 := ⟨fuel - 1, by omega⟩
    have hmi := hm i
    have hpi := hR i (by omega)
    rw [fX5_nearestOfLine_10_s, cl_isLine hC hn (by omega)]
    simp (disch := omega) only [gu, gu2, ile_t, ile_f, ilt_t, ilt_f, ieq_t, ieq_f, iz_lt, iz_eqt, iz_eqf, iz_le, im_eqf, im_eqt, im_lt, ob, nI_add, pk_mul, nI_clamp, if_true, if_false]
    show _ = some (oI (bI m (okE n C m) d (i + 1) (bS m (okE n C m) i cur)))
    have hfw : fw m 1000 cur ≤ 1000 := by
      cases cur with
      | none => exact Nat.le_refl 1000
      | some y => have := hc y rfl; simp only [fw]; omega
    by_cases h1 : n - C ≤ i
    · rw [if_pos h1]
      simp (disch := omega) only [hpi, gu, gu2, ile_t, ile_f, ilt_t, ilt_f, ieq_t, ieq_f, iz_lt, iz_eqt, iz_eqf, iz_le, im_eqf, im_eqt, im_lt, ob, nI_add, pk_mul, nI_clamp, if_true, if_false]
      by_cases h2 : m i < fw m 1000 cur
      · simp (disch := omega) only [gu, gu2, ile_t, ile_f, ilt_t, ilt_f, ieq_t, ieq_f, iz_lt, iz_eqt, iz_eqf, iz_le, im_eqf, im_eqt, im_lt, ob, nI_add, pk_mul, nI_clamp, if_true, if_false]
        have h3 : bS m (okE n C m) i cur = some i := by
          cases cur with
          | none => exact bS_none (okE_t h1 h2)
          | some y => exact bS_lt (okE_t h1 (by omega)) h2
        rw [h3]
        exact ih (i + 1) f (some i) (by omega) (by omega) (fun y hy => by cases hy; omega)
      · simp (disch := omega) only [gu, gu2, ile_t, ile_f, ilt_t, ilt_f, ieq_t, ieq_f, iz_lt, iz_eqt, iz_eqf, iz_le, im_eqf, im_eqt, im_lt, ob, nI_add, pk_mul, nI_clamp, if_true, if_false]
        have h3 : bS m (okE n C m) i cur = cur := by
          cases cur with
          | none => exact bS_no (okE_f (fun q => h2 q.2))
          | some y => exact bS_ge h2
        rw [h3]
        exact ih (i + 1) f cur (by omega) (by omega) hc
    · rw [if_neg h1, bS_no (okE_f (fun q => h1 q.1))]
      simp (disch := omega) only [gu, gu2, ile_t, ile_f, ilt_t, ilt_f, ieq_t, ieq_f, iz_lt, iz_eqt, iz_eqf, iz_le, im_eqf, im_eqt, im_lt, ob, nI_add, pk_mul, nI_clamp, if_true, if_false]
      exact ih (i + 1) f cur (by omega) (by omega) hc
/-- the goal -/
def goalOf (n C : Nat) (K : Nat → Int32) (m : Nat → Nat) : Option Nat := match bI m (okL K m) n 0 none with
  | some y => some y
  | none => bI m (okE n C m) n 0 none
/-! the reference's -/
theorem mo_t99 {R C n N : Nat} {told p : Nat → Int32} {m : Nat → Nat} (hY : mYd R C n told) (hR : Rm n p m) (hm : ∀ y, m y ≤ 1000) : ∀ (d i fuel : Nat) (cur : Option Nat), i + d = n → n - C ≤ i → d < fuel → (∀ y, cur = some y → y < n ∧ m y < 1000) → fX8_target_99 N told p fuel (oI cur) (nI i) = some (oI (bI m (okE n C m) d i cur), p) := by
  have h25 := hY.1.n25
  intro d
  induction d with
  | zero =>
    intro i fuel cur hi hC hf hc
    obtain ⟨f, rfl⟩ : ∃ f, fuel = f + 1 := ⟨fuel - 1, by omega⟩
    rw [fX8_target_99_s, mo_cells hY]
    simp (disch := omega) only [gu, gu2, ile_t, ile_f, ilt_t, ilt_f, ieq_t, ieq_f, iz_lt, iz_eqt, iz_eqf, iz_le, im_eqf, im_eqt, im_lt, ob, nI_add, pk_mul, nI_clamp, if_true, if_false]
    rfl
  | succ d ih =>
    intro i fuel cur hi hC hf hc
    obtain ⟨f, rfl⟩ : ∃ f, fuel = f + 1 := ⟨fuel - 1, by omega⟩
    have hmi := hm i
    have hpi := hR i (by omega)
    rw [fX8_target_99_s, mo_cells hY]
    simp (disch := omega) only [gu, gu2, ile_t, ile_f, ilt_t, ilt_f, ieq_t, ieq_f, iz_lt, iz_eqt, iz_eqf, iz_le, im_eqf, im_eqt, im_lt, ob, nI_add, pk_mul, nI_clamp, if_true, if_false]
    show _ = some (oI (bI m (okE n C m) d (i + 1) (bS m (okE n C m) i cur)), p)
    by_cases h2 : m i < 1000
    · rw [big_lt h2] at hpi
      simp (disch := omega) only [hpi, gu, gu2, ile_t, ile_f, ilt_t, ilt_f, ieq_t, ieq_f, iz_lt, iz_eqt, iz_eqf, iz_le, im_eqf, im_eqt, im_lt, ob, nI_add, pk_mul, nI_clamp, if_true, if_false]
      cases cur with
      | none =>
        rw [bS_none (okE_t hC h2), show oI none = -4 from rfl]
        simp (disch := omega) only [gu, gu2, ile_t, ile_f, ilt_t, ilt_f, ieq_t, ieq_f, iz_lt, iz_eqt, iz_eqf, iz_le, im_eqf, im_eqt, im_lt, ob, nI_add, pk_mul, nI_clamp, if_true, if_false]
        exact ih (i + 1) f (some i) (by omega) (by omega) (by omega) (fun y hy => by cases hy; omega)
      | some y =>
        have hy := hc y rfl
        have hpy := hR y hy.1
        rw [big_lt hy.2] at hpy
        rw [show oI (some y) = nI y from rfl]
        by_cases h3 : m i < m y
        · rw [bS_lt (okE_t hC h2) h3]
          simp (disch := omega) only [hpy, gu, gu2, ile_t, ile_f, ilt_t, ilt_f, ieq_t, ieq_f, iz_lt, iz_eqt, iz_eqf, iz_le, im_eqf, im_eqt, im_lt, ob, nI_add, pk_mul, nI_clamp, if_true, if_false]
          exact ih (i + 1) f (some i) (by omega) (by omega) (by omega) (fun z hz => by cases hz; omega)
        · rw [bS_ge h3]
          simp (disch := omega) only [hpy, gu, gu2, ile_t, ile_f, ilt_t, ilt_f, ieq_t, ieq_f, iz_lt, iz_eqt, iz_eqf, iz_le, im_eqf, im_eqt, im_lt, ob, nI_add, pk_mul, nI_clamp, if_true, if_false]
          exact ih (i + 1) f (some y) (by omega) (by omega) (by omega) hc
    · have h3 : m i = 1000 := by omega
      rw [h3, big_1000] at hpi
      rw [bS_no (okE_f (fun q => h2 q.2))]
      simp (disch := omega) only [hpi, gu, gu2, ile_t, ile_f, ilt_t, ilt_f, ieq_t, ieq_f, iz_lt, iz_eqt, iz_eqf, iz_le, im_eqf, im_eqt, im_lt, ob, nI_add, pk_mul, nI_clamp, if_true, if_false]
      exact ih (i + 1) f cur (by omega) (by omega) (by omega) hc
theorem mo_t9 {R C n N : Nat} {K told now p : Nat → Int32} {m : Nat → Nat} (hY : mYd R C n told) (hK : ∀ y, y < 25 → now (3 + y) = K y) (hR : Rm n p m) (hm : ∀ y, m y ≤ 1000) (hN : 30 ≤ N) : ∀ (d i fuel : Nat) (cur : Option Nat), i + d = n → d < fuel → (∀ y, cur = some y → y < n ∧ m y < 5) → fX8_target_9 N told now p fuel (oI cur) (nI i) = some (oI (match bI m (okL K m) d i cur with | some y => some y | none => bI m (okE n C m) n 0 none), p) := by
  have h25 := hY.1.n25
  intro d
  induction d with
  | zero =>
    intro i fuel cur hi hf hc
    obtain ⟨f, rfl⟩ : ∃ f, fuel = f + 1 := ⟨fuel - 1, by omega⟩
    rw [fX8_target_9_s, mo_cells hY]
    simp (disch := omega) only [gu, gu2, ile_t, ile_f, ilt_t, ilt_f, ieq_t, ieq_f, iz_lt, iz_eqt, iz_eqf, iz_le, im_eqf, im_eqt, im_lt, ob, nI_add, pk_mul, nI_clamp, if_true, if_false]
    rw [show bI m (okL K m) 0 i cur = cur from rfl]
    cases cur with
    | some y =>
      have := hc y rfl
      rw [show oI (some y) = nI y from rfl]
      simp (disch := omega) only [gu, gu2, ile_t, ile_f, ilt_t, ilt_f, ieq_t, ieq_f, iz_lt, iz_eqt, iz_eqf, iz_le, im_eqf, im_eqt, im_lt, ob, nI_add, pk_mul, nI_clamp, if_true, if_false]
    | none =>
      rw [show oI none = -4 from rfl, if_pos rfl, hY.2.2]
      have hC : C ≤ n := by
        obtain ⟨⟨_, _, h1, h2, h3⟩, _⟩ := hY
        rw [h3]; exact Nat.le_mul_of_pos_left C (by omega)
      rw [pk_sub hC]
      have h := mo_t99 (N := N) hY hR hm C (n - C) N none (by omega) (by omega) (by omega) (fun y hy => by cases hy)
      rw [show oI none = -4 from rfl] at h
      rw [h]
      have h2 := bI_skip (g := m) (ok := okE n C m) (n - C) 0 none C (fun x _ hx => okE_f (fun q => by omega))
      rw [show n - C + C = n by omega, Nat.zero_add] at h2
      rw [h2]
  | succ d ih =>
    intro i fuel cur hi hf hc
    obtain ⟨f, rfl⟩ : ∃ f, fuel = f + 1 := ⟨fuel - 1, by omega⟩
    have hmi := hm i
    have hpi := hR i (by omega)
    rw [fX8_target_9_s, mo_cells hY, mo_kind hK (show i < 25 by omega)]
    simp (disch := omega) only [gu, gu2, ile_t, ile_f, ilt_t, ilt_f, ieq_t, ieq_f, iz_lt, iz_eqt, iz_eqf, iz_le, im_eqf, im_eqt, im_lt, ob, nI_add, pk_mul, nI_clamp, if_true, if_false]
    show _ = some (oI (match bI m (okL K m) d (i + 1) (bS m (okL K m) i cur) with | some y => some y | none => bI m (okE n C m) n 0 none), p)
    have hskip : okL K m i = false → fX8_target_40 p (oI cur) (nI i) (fX8_target_9 N told now p f) = some (oI (match bI m (okL K m) d (i + 1) (bS m (okL K m) i cur) with | some y => some y | none => bI m (okE n C m) n 0 none), p) := fun h => by
      rw [bS_no h, fX8_target_40_e, fX8_target_41_e]
      simp (disch := omega) only [gu, gu2, ile_t, ile_f, ilt_t, ilt_f, ieq_t, ieq_f, iz_lt, iz_eqt, iz_eqf, iz_le, im_eqf, im_eqt, im_lt, ob, nI_add, pk_mul, nI_clamp, if_true, if_false]
      exact ih (i + 1) f cur (by omega) (by omega) hc
    by_cases h1 : K i = nI 3
    · rw [if_pos h1]
      by_cases h2 : m i < 5
      · rw [big_lt (by omega)] at hpi
        simp (disch := omega) only [hpi, gu, gu2, ile_t, ile_f, ilt_t, ilt_f, ieq_t, ieq_f, iz_lt, iz_eqt, iz_eqf, iz_le, im_eqf, im_eqt, im_lt, ob, nI_add, pk_mul, nI_clamp, if_true, if_false]
        rw [fX8_target_41_e]
        simp (disch := omega) only [gu, gu2, ile_t, ile_f, ilt_t, ilt_f, ieq_t, ieq_f, iz_lt, iz_eqt, iz_eqf, iz_le, im_eqf, im_eqt, im_lt, ob, nI_add, pk_mul, nI_clamp, if_true, if_false]
        cases cur with
        | none =>
          rw [bS_none (okL_t h1 h2), show oI none = -4 from rfl]
          simp (disch := omega) only [gu, gu2, ile_t, ile_f, ilt_t, ilt_f, ieq_t, ieq_f, iz_lt, iz_eqt, iz_eqf, iz_le, im_eqf, im_eqt, im_lt, ob, nI_add, pk_mul, nI_clamp, if_true, if_false]
          exact ih (i + 1) f (some i) (by omega) (by omega) (fun y hy => by cases hy; omega)
        | some y =>
          have hy := hc y rfl
          have hpy := hR y hy.1
          rw [big_lt (by omega)] at hpy
          rw [show oI (some y) = nI y from rfl]
          by_cases h3 : m i < m y
          · rw [bS_lt (okL_t h1 h2) h3]
            simp (disch := omega) only [hpy, hpi, gu, gu2, ile_t, ile_f, ilt_t, ilt_f, ieq_t, ieq_f, iz_lt, iz_eqt, iz_eqf, iz_le, im_eqf, im_eqt, im_lt, ob, nI_add, pk_mul, nI_clamp, if_true, if_false]
            exact ih (i + 1) f (some i) (by omega) (by omega) (fun z hz => by cases hz; omega)
          · rw [bS_ge h3]
            simp (disch := omega) only [hpy, hpi, gu, gu2, ile_t, ile_f, ilt_t, ilt_f, ieq_t, ieq_f, iz_lt, iz_eqt, iz_eqf, iz_le, im_eqf, im_eqt, im_lt, ob, nI_add, pk_mul, nI_clamp, if_true, if_false]
            exact ih (i + 1) f (some y) (by omega) (by omega) hc
      · have hsk := hskip (okL_f (fun q => h2 q.2))
        by_cases h3 : m i = 1000
        · rw [h3, big_1000] at hpi
          simp (disch := omega) only [hpi, gu, gu2, ile_t, ile_f, ilt_t, ilt_f, ieq_t, ieq_f, iz_lt, iz_eqt, iz_eqf, iz_le, im_eqf, im_eqt, im_lt, ob, nI_add, pk_mul, nI_clamp, if_true, if_false]
          exact hsk
        · rw [big_lt (by omega)] at hpi
          simp (disch := omega) only [hpi, gu, gu2, ile_t, ile_f, ilt_t, ilt_f, ieq_t, ieq_f, iz_lt, iz_eqt, iz_eqf, iz_le, im_eqf, im_eqt, im_lt, ob, nI_add, pk_mul, nI_clamp, if_true, if_false]
          exact hsk
    · rw [if_neg h1]
      exact hskip (okL_f (fun q => h1 q.1))
theorem mo_target {R C n N s : Nat} {K told now fr : Nat → Int32} (hY : mYd R C n told) (hK : ∀ y, y < 25 → now (3 + y) = K y) (hs : now 1 = nI s) (hsn : s < n) (hN : 100000 ≤ N) {m : Nat → Nat} (hm : isD n s (nbr C n) (fun _ y => wk (K y)) m) : ∃ p', fX8_target N told fr now = some (oI (goalOf n C K m), p') := by
  have h25 := hY.1.n25
  obtain ⟨p, hR, h1⟩ := mo_seeks (N := N) (p := fr) hY hK hs hsn hN hm
  refine ⟨p, ?_⟩
  rw [fX8_target_e, h1]
  simp only [ob]
  have h := mo_t9 (N := N) hY hK hR hm.2.1 (by omega) n 0 N none (by omega) (by omega) (fun y hy => by cases hy)
  exact h
/-! ===== the next cell ===== -/
def sN (n C : Nat) (d : Nat → Nat) (s : Nat) : Nat → Nat → Option Nat → Option Nat
  | 0, _, cur => cur
  | j + 1, t, cur => sN n C d s j (t + 1) (match nbr C n s t with
    | none => cur
    | some y => bS d (fun x => decide (d x < 1000)) y cur)
theorem sN_in {n C : Nat} {d : Nat → Nat} {s : Nat} : ∀ (j t : Nat) (cur : Option Nat) (y : Nat), sN n C d s j t cur = some y → cur = some y ∨ (d y < 1000 ∧ ∃ t', nbr C n s t' = some y)
  | 0, _, _, _, h => Or.inl h
  | j + 1, t, cur, y, h => by
    rcases sN_in j (t + 1) _ y h with h1 | h1
    · cases hz : nbr C n s t with
      | none => rw [hz] at h1; exact Or.inl h1
      | some z =>
        rw [hz] at h1
        simp only at h1
        by_cases hd : d z < 1000
        · cases cur with
          | none => rw [bS_none (by simp [hd])] at h1; cases h1; exact Or.inr ⟨hd, t, hz⟩
          | some w =>
            by_cases h2 : d z < d w
            · rw [bS_lt (by simp [hd]) h2] at h1; cases h1; exact Or.inr ⟨hd, t, hz⟩
            · rw [bS_ge h2] at h1; exact Or.inl h1
        · rw [bS_no (by simp; omega)] at h1; exact Or.inl h1
    · exact Or.inr h1
theorem cl_nx63 {R C n N s : Nat} {bes o10 p : Nat → Int32} {d : Nat → Nat} (hY : okYd R C n) (hB : yBes C n bes) (hs : s < n) (hR : Rp n p d) (hd : ∀ y, d y ≤ 1000) : ∀ (j fuel : Nat) (cur : Option Nat), j ≤ 4 → j < fuel → (∀ y, cur = some y → d y < 1000) → fX5_nextCell_63 N (nI s) bes o10 p fuel (oI cur) (nI (fw d 1000 cur)) (nI (4 - j)) = some (oI (sN n C d s j (4 - j) cur), o10, p) := by
  have h25 := hY.n25
  intro j
  induction j with
  | zero =>
    intro fuel cur hj hf hc
    obtain ⟨f, rfl⟩ : ∃ f, fuel = f + 1 := ⟨fuel - 1, by omega⟩
    rw [fX5_nextCell_63_s]
    simp (disch := omega) only [gu, gu2, ile_t, ile_f, ilt_t, ilt_f, ieq_t, ieq_f, iz_lt, iz_eqt, iz_eqf, iz_le, im_eqf, im_eqt, im_lt, ob, nI_add, pk_mul, nI_clamp, if_true, if_false]
    rfl
  | succ j ih =>
    intro fuel cur hj hf hc
    obtain ⟨f, rfl⟩ : ∃ f, fuel = f + 1 := ⟨fuel - 1, by omega⟩
    have ht : 4 - (j + 1) = 3 - j := by omega
    have ht2 : 3 - j + 1 = 4 - j := by omega
    rw [ht, fX5_nextCell_63_s, cl_beside hB (by omega) hs (by omega)]
    simp (disch := omega) only [gu, gu2, ile_t, ile_f, ilt_t, ilt_f, ieq_t, ieq_f, iz_lt, iz_eqt, iz_eqf, iz_le, im_eqf, im_eqt, im_lt, ob, nI_add, pk_mul, nI_clamp, if_true, if_false, ht2]
    show _ = some (oI (sN n C d s j (3 - j + 1) (match nbr C n s (3 - j) with | none => cur | some y => bS d (fun x => decide (d x < 1000)) y cur)), o10, p)
    rw [ht2]
    have hfw : fw d 1000 cur ≤ 1000 := by
      cases cur with
      | none => exact Nat.le_refl 1000
      | some y => have := hc y rfl; simp only [fw]; omega
    cases hz : nbr C n s (3 - j) with
    | none =>
      rw [show oI none = -4 from rfl]
      simp (disch := omega) only [gu, gu2, ile_t, ile_f, ilt_t, ilt_f, ieq_t, ieq_f, iz_lt, iz_eqt, iz_eqf, iz_le, im_eqf, im_eqt, im_lt, ob, nI_add, pk_mul, nI_clamp, if_true, if_false]
      exact ih f cur (by omega) (by omega) hc
    | some z =>
      have hzn := nbr_ok hY hs hz
      have hpz := hR z hzn.1
      have hdz := hd z
      rw [show oI (some z) = nI z from rfl]
      by_cases h2 : d z < fw d 1000 cur
      · simp (disch := omega) only [hpz, gu, gu2, ile_t, ile_f, ilt_t, ilt_f, ieq_t, ieq_f, iz_lt, iz_eqt, iz_eqf, iz_le, im_eqf, im_eqt, im_lt, ob, nI_add, pk_mul, nI_clamp, if_true, if_false]
        have h3 : bS d (fun x => decide (d x < 1000)) z cur = some z := by
          cases cur with
          | none => exact bS_none (by simp only [fw] at h2; simp [h2])
          | some y => exact bS_lt (by have : d z < 1000 := by omega
                                      simp [this]) h2
        simp only [h3]
        exact ih f (some z) (by omega) (by omega) (fun y hy => by cases hy; omega)
      · simp (disch := omega) only [hpz, gu, gu2, ile_t, ile_f, ilt_t, ilt_f, ieq_t, ieq_f, iz_lt, iz_eqt, iz_eqf, iz_le, im_eqf, im_eqt, im_lt, ob, nI_add, pk_mul, nI_clamp, if_true, if_false]
        have h3 : bS d (fun x => decide (d x < 1000)) z cur = cur := by
          cases cur with
          | none => exact bS_no (by simp only [fw] at h2; simp; omega)
          | some y => exact bS_ge h2
        simp only [h3]
        exact ih f cur (by omega) (by omega) hc
theorem mo_nx24 {R C n N s g : Nat} {K told now : Nat → Int32} {o1 : Int32 × (Nat → Int32)} {p : Nat → Int32} {d t : Nat → Nat} (hY : mYd R C n told) (hK : ∀ y, y < 25 → now (3 + y) = K y) (hs : now 1 = nI s) (hsn : s < n) (hR : Rm n p t) (ht : ∀ y, y < n → t y < 1000 → t y ≤ 75) (htt : ∀ y, t y ≤ 1000) (hd : ∀ y, y < n → d y < 1000 → d y ≤ 75 ∧ wk (K y) < 1000) (hdd : ∀ y, d y ≤ 1000)
    (hrev : ∀ y, y < n → wk (K y) < 1000 → (d y < 1000 → t y + wk (K y) ≤ d y + wk (K g)) ∧ (t y < 1000 → d y + wk (K g) ≤ t y + wk (K y))) (hg : wk (K g) < 1000) : ∀ (j fuel : Nat) (cur : Option Nat), j ≤ 4 → j < fuel → (∀ y, cur = some y → y < n ∧ d y < 1000) → fX8_next_24 N told now o1 p fuel (oI cur) (nI (4 - j)) = some (oI (sN n C d s j (4 - j) cur), o1.2, p) := by
  have h25 := hY.1.n25
  have hw3 : ∀ x, wk (K x) < 1000 → wm (K x) = wk (K x) ∧ wk (K x) ≤ 3 := fun x hx => by
    rcases wm_wk (K x) with q | q
    · omega
    · exact q
  have hgw := hw3 g hg
  intro j
  induction j with
  | zero =>
    intro fuel cur hj hf hc
    obtain ⟨f, rfl⟩ : ∃ f, fuel = f + 1 := ⟨fuel - 1, by omega⟩
    rw [fX8_next_24_s]
    simp (disch := omega) only [gu, gu2, ile_t, ile_f, ilt_t, ilt_f, ieq_t, ieq_f, iz_lt, iz_eqt, iz_eqf, iz_le, im_eqf, im_eqt, im_lt, ob, nI_add, pk_mul, nI_clamp, if_true, if_false]
    rfl
  | succ j ih =>
    intro fuel cur hj hf hc
    obtain ⟨f, rfl⟩ : ∃ f, fuel = f + 1 := ⟨fuel - 1, by omega⟩
    have htj : 4 - (j + 1) = 3 - j := by omega
    have ht2 : 3 - j + 1 = 4 - j := by omega
    rw [htj, fX8_next_24_s, hs, mo_beside hY hsn (by omega)]
    simp (disch := omega) only [gu, gu2, ile_t, ile_f, ilt_t, ilt_f, ieq_t, ieq_f, iz_lt, iz_eqt, iz_eqf, iz_le, im_eqf, im_eqt, im_lt, ob, nI_add, pk_mul, nI_clamp, if_true, if_false]
    show _ = some (oI (sN n C d s j (3 - j + 1) (match nbr C n s (3 - j) with | none => cur | some y => bS d (fun x => decide (d x < 1000)) y cur)), o1.2, p)
    rw [ht2]
    cases hz : nbr C n s (3 - j) with
    | none =>
      rw [show oI none = -4 from rfl, if_pos rfl, fX8_next_70_e]
      simp (disch := omega) only [gu, gu2, ile_t, ile_f, ilt_t, ilt_f, ieq_t, ieq_f, iz_lt, iz_eqt, iz_eqf, iz_le, im_eqf, im_eqt, im_lt, ob, nI_add, pk_mul, nI_clamp, if_true, if_false, ht2]
      exact ih f cur (by omega) (by omega) hc
    | some z =>
      have hzn := nbr_ok hY.1 hsn hz
      have hpz := hR z hzn.1
      have htz := htt z
      rw [show oI (some z) = nI z from rfl, mo_into hK (show z < 25 by omega)]
      simp (disch := omega) only [gu, gu2, ile_t, ile_f, ilt_t, ilt_f, ieq_t, ieq_f, iz_lt, iz_eqt, iz_eqf, iz_le, im_eqf, im_eqt, im_lt, ob, nI_add, pk_mul, nI_clamp, if_true, if_false]
      rw [fX8_next_70_e, hpz]
      by_cases h2 : d z < 1000
      · have hdz := hd z hzn.1 h2
        have hwz := hw3 z hdz.2
        have hrz := hrev z hzn.1 hdz.2
        have hr1 := hrz.1 h2
        have htz1 : t z < 1000 := by omega
        have hr2 := hrz.2 htz1
        rw [big_lt htz1, hwz.1]
        cases cur with
        | none =>
          rw [show oI none = -4 from rfl]
          simp (disch := omega) only [gu, gu2, ile_t, ile_f, ilt_t, ilt_f, ieq_t, ieq_f, iz_lt, iz_eqt, iz_eqf, iz_le, im_eqf, im_eqt, im_lt, ob, nI_add, pk_mul, nI_clamp, if_true, if_false, ht2]
          have h3 : bS d (fun x => decide (d x < 1000)) z none = some z := bS_none (by simp [h2])
          simp only [h3]
          exact ih f (some z) (by omega) (by omega) (fun y hy => by cases hy; omega)
        | some y =>
          have hy := hc y rfl
          have hdy := hd y hy.1 hy.2
          have hwy := hw3 y hdy.2
          have hry := hrev y hy.1 hdy.2
          have hr3 := hry.1 hy.2
          have hty1 : t y < 1000 := by omega
          have hr4 := hry.2 hty1
          have hpy := hR y hy.1
          rw [big_lt hty1] at hpy
          rw [show oI (some y) = nI y from rfl, mo_into hK (show y < 25 by omega), hwy.1]
          by_cases h4 : d z < d y
          · have h3 : bS d (fun x => decide (d x < 1000)) z (some y) = some z := bS_lt (by simp [h2]) h4
            simp (disch := omega) only [hpy, gu, gu2, ile_t, ile_f, ilt_t, ilt_f, ieq_t, ieq_f, iz_lt, iz_eqt, iz_eqf, iz_le, im_eqf, im_eqt, im_lt, ob, nI_add, pk_mul, nI_clamp, if_true, if_false, ht2]
            simp only [h3]
            exact ih f (some z) (by omega) (by omega) (fun w hw => by cases hw; omega)
          · have h3 : bS d (fun x => decide (d x < 1000)) z (some y) = some y := bS_ge h4
            simp (disch := omega) only [hpy, gu, gu2, ile_t, ile_f, ilt_t, ilt_f, ieq_t, ieq_f, iz_lt, iz_eqt, iz_eqf, iz_le, im_eqf, im_eqt, im_lt, ob, nI_add, pk_mul, nI_clamp, if_true, if_false, ht2]
            simp only [h3]
            exact ih f (some y) (by omega) (by omega) hc
      · have h3 : bS d (fun x => decide (d x < 1000)) z cur = cur := bS_no (by simp; omega)
        have hbig : 9999 ≤ wm (K z) + big (t z) := by
          rcases wm_wk (K z) with ⟨_, q⟩ | ⟨q1, q2⟩
          · omega
          · by_cases h5 : t z < 1000
            · have h6 := (hrev z hzn.1 (by omega)).2 h5
              have := ht z hzn.1 h5
              have := hdd z
              omega
            · have : t z = 1000 := by omega
              rw [this, big_1000]; omega
        have hbz : big (t z) ≤ 9999 := by unfold big; split <;> omega
        have hwmz : wm (K z) ≤ 9999 := by rcases wm_wk (K z) with q | q <;> omega
        simp (disch := omega) only [gu, gu2, ile_t, ile_f, ilt_t, ilt_f, ieq_t, ieq_f, iz_lt, iz_eqt, iz_eqf, iz_le, im_eqf, im_eqt, im_lt, ob, nI_add, pk_mul, nI_clamp, if_true, if_false, ht2]
        simp only [h3]
        exact ih f cur (by omega) (by omega) hc
