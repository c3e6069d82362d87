/-! ===== one night ===== -/
def cd (k : Int32) (D : Nat) : Nat := if k = nI 1 then 3 else if k = nI 2 then 1000 else if k = nI 3 then 1 else if k = nI 4 then (if 3 ≤ D then 2 else 1) else 1
theorem wk_ns {k : Int32} (h : wk k < 1000) : ¬ k = nI 2 := fun e => by have := (wk_salt k).mpr e; omega
theorem cd_b {k : Int32} {D : Nat} (h : wk k < 1000) : 1 ≤ cd k D ∧ cd k D ≤ 3 := by
  have := wk_ns h
  unfold cd
  rw [if_neg this]
  (repeat' split) <;> omega
theorem cl_stepsD {N D : Nat} (hD : D < 100) (k : Int32) : fX7_stepsInto N k (nI D) = some (nI (cd k D)) := by
  rw [fX7_stepsInto_e]
  unfold cd
  by_cases h : 3 ≤ D
  · rw [if_pos (nI_le h (by omega)), if_pos h]
    (repeat' split) <;> rfl
  · rw [if_neg (nI_ge (by omega) (by omega)), if_neg h]
    (repeat' split) <;> rfl
theorem mo_intoD {N D x : Nat} {K now : Nat → Int32} (hK : ∀ y, y < 25 → now (3 + y) = K y) (h : x < 25) (hw : wk (K x) < 1000) : fX8_into N (nI x) (nI (if 3 ≤ D then 2 else 1)) now = some (nI (cd (K x) D)) := by
  have hns := wk_ns hw
  rw [fX8_into_e, mo_kind hK h]
  simp only [ob]
  unfold cd
  rw [if_neg hns, if_neg hns]
  by_cases h1 : K x = nI 1
  · rw [if_pos h1, if_pos h1]
  · rw [if_neg h1, if_neg h1]
    by_cases h4 : K x = nI 4
    · have h3 : ¬ K x = nI 3 := fun e => by rw [h4] at e; exact absurd e (by decide)
      rw [if_pos h4, if_pos h4, if_neg h3]
    · rw [if_neg h4, if_neg h4]
      split <;> rfl
def mB : Option Nat → Int32
  | none => -1
  | some b => nI b
/-- how things stand, in the reference's row -/
def mSc (K : Nat → Int32) (s nt : Nat) (bg : Option Nat) (now : Nat → Int32) : Prop := now 0 = nI nt ∧ now 1 = nI s ∧ now 2 = mB bg ∧ ∀ y, y < 25 → now (3 + y) = K y
theorem mo_stop {R C n N D L fm : Nat} {K told now fr to fr' to' : Nat → Int32} {v3 : Int32} {first : Bool} {r : Option Nat} (hY : mYd R C n told) (hK : ∀ y, y < 25 → now (3 + y) = K y) (hD : D < 100) (hL : L < 100) (hr : ∀ y, r = some y → y < n ∧ wk (K y) < 1000 ∧ L < cd (K y) D) (hf : 2 ≤ fm) (hnext : fX8_next N told fr now to = some (oI r, fr', to')) :
    fX8_goesBy_23 N (nI D) told fm (nI L) v3 (nI 1) (fl first) now fr to = some (fl (first && r.isSome), upd now 0 (now 0 + nI 1), fr', to') := by
  have h25 := hY.1.n25
  obtain ⟨f, rfl⟩ : ∃ f, fm = f + 1 + 1 := ⟨fm - 2, by omega⟩
  rw [fX8_goesBy_23_s, hnext]
  simp (disch := omega) only [gu, gu2, ile_t, ile_f, ilt_t, ilt_f, ieq_t, ieq_f, iz_lt, iz_eqt, iz_eqf, iz_le, im_eqf, im_eqt, im_lt, ob, nI_add, pk_mul, nI_clamp, if_true, if_false]
  have fin : ∀ b : Bool, fX8_goesBy_23 N (nI D) told (f + 1) (nI L) (fl b) (nI 0) (nI 0) now fr' to' = some (fl b, upd now 0 (now 0 + nI 1), fr', to') := fun b => by
    rw [fX8_goesBy_23_s]
    simp (disch := omega) only [gu, gu2, ile_t, ile_f, ilt_t, ilt_f, ieq_t, ieq_f, iz_lt, iz_eqt, iz_eqf, iz_le, im_eqf, im_eqt, im_lt, ob, nI_add, pk_mul, nI_clamp, if_true, if_false]
    rw [if_pos (fl_01 b)]
  cases r with
  | none =>
    rw [show oI none = -4 from rfl, if_pos rfl, fX8_goesBy_63_e]
    simp only [im_eqt]
    have h : fX8_goesBy_87 N told (nI L) now ((-4 : Int32), fr', to') (nI 9999) (fX8_goesBy_23 N (nI D) told (f + 1)) = some (fl (first && (none : Option Nat).isSome), upd now 0 (now 0 + nI 1), fr', to') := by
      rw [fX8_goesBy_87_e, fX8_goesBy_88_e]
      simp (disch := omega) only [gu, gu2, ile_t, ile_f, ilt_t, ilt_f, ieq_t, ieq_f, iz_lt, iz_eqt, iz_eqf, iz_le, im_eqf, im_eqt, im_lt, ob, nI_add, pk_mul, nI_clamp, if_true, if_false]
      rw [fX8_goesBy_100_e]
      simp (disch := omega) only [gu, gu2, ile_t, ile_f, ilt_t, ilt_f, ieq_t, ieq_f, iz_lt, iz_eqt, iz_eqf, iz_le, im_eqf, im_eqt, im_lt, ob, nI_add, pk_mul, nI_clamp, if_true, if_false]
      have := fin false
      rw [fl_f] at this
      rw [this]
      cases first <;> rfl
    rw [h]
    split <;> rfl
  | some y =>
    obtain ⟨hy, hwy, hc⟩ := hr y rfl
    have hcb := cd_b (D := D) hwy
    rw [show oI (some y) = nI y from rfl]
    simp (disch := omega) only [gu, gu2, ile_t, ile_f, ilt_t, ilt_f, ieq_t, ieq_f, iz_lt, iz_eqt, iz_eqf, iz_le, im_eqf, im_eqt, im_lt, ob, nI_add, pk_mul, nI_clamp, if_true, if_false]
    have key : fX8_goesBy_60 N told (nI L) (fl first) now (nI y, fr', to') (nI (if 3 ≤ D then 2 else 1)) (fX8_goesBy_23 N (nI D) told (f + 1)) = some (fl (first && (some y).isSome), upd now 0 (now 0 + nI 1), fr', to') := by
      rw [fX8_goesBy_60_e, mo_intoD hK (show y < 25 by omega) hwy]
      simp only [ob]
      rw [fX8_goesBy_63_e]
      cases first with
      | false =>
        rw [fl_f]
        simp (disch := omega) only [gu, gu2, ile_t, ile_f, ilt_t, ilt_f, ieq_t, ieq_f, iz_lt, iz_eqt, iz_eqf, iz_le, im_eqf, im_eqt, im_lt, ob, nI_add, pk_mul, nI_clamp, if_true, if_false]
        rw [fX8_goesBy_87_e, fX8_goesBy_88_e]
        simp (disch := omega) only [gu, gu2, ile_t, ile_f, ilt_t, ilt_f, ieq_t, ieq_f, iz_lt, iz_eqt, iz_eqf, iz_le, im_eqf, im_eqt, im_lt, ob, nI_add, pk_mul, nI_clamp, if_true, if_false]
        rw [fX8_goesBy_100_e]
        simp (disch := omega) only [gu, gu2, ile_t, ile_f, ilt_t, ilt_f, ieq_t, ieq_f, iz_lt, iz_eqt, iz_eqf, iz_le, im_eqf, im_eqt, im_lt, ob, nI_add, pk_mul, nI_clamp, if_true, if_false]
        have := fin false
        rw [fl_f] at this
        rw [this]; rfl
      | true =>
        rw [fl_t]
        simp (disch := omega) only [gu, gu2, ile_t, ile_f, ilt_t, ilt_f, ieq_t, ieq_f, iz_lt, iz_eqt, iz_eqf, iz_le, im_eqf, im_eqt, im_lt, ob, nI_add, pk_mul, nI_clamp, if_true, if_false]
        rw [fX8_goesBy_88_e]
        simp (disch := omega) only [gu, gu2, ile_t, ile_f, ilt_t, ilt_f, ieq_t, ieq_f, iz_lt, iz_eqt, iz_eqf, iz_le, im_eqf, im_eqt, im_lt, ob, nI_add, pk_mul, nI_clamp, if_true, if_false]
        rw [fX8_goesBy_100_e]
        simp (disch := omega) only [gu, gu2, ile_t, ile_f, ilt_t, ilt_f, ieq_t, ieq_f, iz_lt, iz_eqt, iz_eqf, iz_le, im_eqf, im_eqt, im_lt, ob, nI_add, pk_mul, nI_clamp, if_true, if_false]
        have := fin true
        rw [fl_t] at this
        rw [this]; rfl
    by_cases h3 : 3 ≤ D
    · rw [if_pos h3] at key
      simp (disch := omega) only [gu, gu2, ile_t, ile_f, ilt_t, ilt_f, ieq_t, ieq_f, iz_lt, iz_eqt, iz_eqf, iz_le, im_eqf, im_eqt, im_lt, ob, nI_add, pk_mul, nI_clamp, if_true, if_false]
      exact key
    · rw [if_neg h3] at key
      simp (disch := omega) only [gu, gu2, ile_t, ile_f, ilt_t, ilt_f, ieq_t, ieq_f, iz_lt, iz_eqt, iz_eqf, iz_le, im_eqf, im_eqt, im_lt, ob, nI_add, pk_mul, nI_clamp, if_true, if_false]
      exact key
/-- the cells behind a step into y, and whether the year begins -/
def eaten (K : Nat → Int32) (y : Nat) : Nat → Int32 := if K y = nI 3 then upd K y (nI 0) else K
def begun (n C y nt : Nat) : Option Nat := if n - C ≤ y then some nt else none
def goesOnB (n C y : Nat) (K : Nat → Int32) : Bool := !(decide (K y = nI 3)) && !(decide (n - C ≤ y))
theorem mo_move {R C n N D L fm s nt y : Nat} {K told now fr to fr' to' : Nat → Int32} {v3 : Int32} {first : Bool} (hY : mYd R C n told) (hS : mSc K s nt none now) (hD : D < 100) (hL : L < 100) (hy : y < n) (hwy : wk (K y) < 1000) (hc : cd (K y) D ≤ L) (hnext : fX8_next N told fr now to = some (nI y, fr', to')) :
    ∃ now', mSc (eaten K y) y nt (begun n C y nt) now' ∧ fX8_goesBy_23 N (nI D) told (fm + 1) (nI L) v3 (nI 1) (fl first) now fr to = fX8_goesBy_23 N (nI D) told fm (nI (L - cd (K y) D)) (nI 0) (fl (goesOnB n C y K)) (nI 0) now' fr' to' := by
  have h25 := hY.1.n25
  have hcb := cd_b (D := D) hwy
  have hC : C ≤ n := by
    obtain ⟨⟨_, _, h1, h2, h3⟩, _⟩ := hY
    rw [h3]; exact Nat.le_mul_of_pos_left C (by omega)
  obtain ⟨h0, h1, h2, hK⟩ := hS
  have hK1 : ∀ z, z < 25 → (upd now 1 (nI y)) (3 + z) = K z := fun z hz => by rw [upd_n (by omega)]; exact hK z hz
  rw [fX8_goesBy_23_s, hnext]
  simp (disch := omega) only [gu, gu2, ile_t, ile_f, ilt_t, ilt_f, ieq_t, ieq_f, iz_lt, iz_eqt, iz_eqf, iz_le, im_eqf, im_eqt, im_lt, ob, nI_add, pk_mul, nI_clamp, if_true, if_false]
  -- the reference's row behind the step
  have fin : ∀ (kk mm : Int32), kk = (eaten K y) y → ∃ now', mSc (eaten K y) y nt (begun n C y nt) now' ∧ fX8_goesBy_165 N told (nI L) now (nI y, fr', to') (nI (cd (K y) D)) (nI 0) mm kk (fX8_goesBy_23 N (nI D) told fm) = fX8_goesBy_23 N (nI D) told fm (nI (L - cd (K y) D)) (nI 0) (if n - C ≤ y then nI 0 else mm) (nI 0) now' fr' to' := by
    intro kk mm hkk
    rw [fX8_goesBy_165_e, mo_cells hY, hY.2.2]
    simp only [ob, pk_sub hC]
    simp (disch := omega) only [gu, gu2, ile_t, ile_f, ilt_t, ilt_f, ieq_t, ieq_f, iz_lt, iz_eqt, iz_eqf, iz_le, im_eqf, im_eqt, im_lt, ob, nI_add, pk_mul, nI_clamp, if_true, if_false]
    rw [pk_sub hc]
    have hrow : ∀ z, z < 25 → upd (upd now 1 (nI y)) (3 + y) kk (3 + z) = eaten K y z := fun z hz => by
      by_cases hzy : z = y
      · subst hzy; rw [upd_s]; exact hkk
      · rw [upd_n (by omega), hK1 z hz]
        unfold eaten
        split
        · rw [upd_n hzy]
        · rfl
    by_cases hl : n - C ≤ y
    · rw [if_pos hl]
      simp (disch := omega) only [gu, gu2, ile_t, ile_f, ilt_t, ilt_f, ieq_t, ieq_f, iz_lt, iz_eqt, iz_eqf, iz_le, im_eqf, im_eqt, im_lt, ob, nI_add, pk_mul, nI_clamp, if_true, if_false]
      refine ⟨_, ⟨?_, ?_, ?_, ?_⟩, rfl⟩
      · rw [upd_n (by omega), upd_n (by omega), upd_n (by omega)]; exact h0
      · rw [upd_n (by omega), upd_n (by omega), upd_s]
      · rw [upd_s, upd_n (by omega), upd_n (by omega), h0]
        unfold begun
        rw [if_pos hl]; rfl
      · intro z hz
        rw [upd_n (by omega)]; exact hrow z hz
    · rw [if_neg hl]
      simp (disch := omega) only [gu, gu2, ile_t, ile_f, ilt_t, ilt_f, ieq_t, ieq_f, iz_lt, iz_eqt, iz_eqf, iz_le, im_eqf, im_eqt, im_lt, ob, nI_add, pk_mul, nI_clamp, if_true, if_false]
      refine ⟨_, ⟨?_, ?_, ?_, hrow⟩, rfl⟩
      · rw [upd_n (by omega), upd_n (by omega)]; exact h0
      · rw [upd_n (by omega), upd_s]
      · rw [upd_n (by omega), upd_n (by omega), h2]
        unfold begun
        rw [if_neg hl]
  have key : ∃ now', mSc (eaten K y) y nt (begun n C y nt) now' ∧ fX8_goesBy_60 N told (nI L) (fl first) now (nI y, fr', to') (nI (if 3 ≤ D then 2 else 1)) (fX8_goesBy_23 N (nI D) told fm) = fX8_goesBy_23 N (nI D) told fm (nI (L - cd (K y) D)) (nI 0) (fl (goesOnB n C y K)) (nI 0) now' fr' to' := by
    rw [fX8_goesBy_60_e, mo_intoD hK (show y < 25 by omega) hwy]
    simp only [ob]
    have h87 : fX8_goesBy_63 N told (nI L) (fl first) now (nI y, fr', to') (nI (cd (K y) D)) (fX8_goesBy_23 N (nI D) told fm) = fX8_goesBy_100 N told (nI L) now (nI y, fr', to') (nI (cd (K y) D)) (nI 0) (nI 1) (fX8_goesBy_23 N (nI D) told fm) := by
      rw [fX8_goesBy_63_e]
      have h8 : fX8_goesBy_87 N told (nI L) now (nI y, fr', to') (nI (cd (K y) D)) (fX8_goesBy_23 N (nI D) told fm) = fX8_goesBy_100 N told (nI L) now (nI y, fr', to') (nI (cd (K y) D)) (nI 0) (nI 1) (fX8_goesBy_23 N (nI D) told fm) := by
        rw [fX8_goesBy_87_e, fX8_goesBy_88_e]
        simp (disch := omega) only [gu, gu2, ile_t, ile_f, ilt_t, ilt_f, ieq_t, ieq_f, iz_lt, iz_eqt, iz_eqf, iz_le, im_eqf, im_eqt, im_lt, ob, nI_add, pk_mul, nI_clamp, if_true, if_false]
      simp (disch := omega) only [gu, gu2, ile_t, ile_f, ilt_t, ilt_f, ieq_t, ieq_f, iz_lt, iz_eqt, iz_eqf, iz_le, im_eqf, im_eqt, im_lt, ob, nI_add, pk_mul, nI_clamp, if_true, if_false]
      rw [h8]
      split <;> rfl
    rw [h87, fX8_goesBy_100_e, mo_kind hK1 (show y < 25 by omega)]
    simp (disch := omega) only [gu, gu2, ile_t, ile_f, ilt_t, ilt_f, ieq_t, ieq_f, iz_lt, iz_eqt, iz_eqf, iz_le, im_eqf, im_eqt, im_lt, ob, nI_add, pk_mul, nI_clamp, if_true, if_false]
    by_cases he : K y = nI 3
    · rw [if_pos he, fX8_goesBy_135_e, mo_kind hK1 (show y < 25 by omega)]
      simp only [ob]
      rw [if_pos he]
      obtain ⟨now', a1, a2⟩ := fin (nI 0) (nI 0) (by unfold eaten; rw [if_pos he, upd_s])
      refine ⟨now', a1, ?_⟩
      rw [a2]
      have : goesOnB n C y K = false := by simp [goesOnB, he]
      rw [this, fl_f]
      split <;> rfl
    · rw [if_neg he, fX8_goesBy_135_e, mo_kind hK1 (show y < 25 by omega)]
      simp only [ob]
      rw [if_neg he]
      obtain ⟨now', a1, a2⟩ := fin (K y) (nI 1) (by unfold eaten; rw [if_neg he])
      refine ⟨now', a1, ?_⟩
      rw [a2]
      by_cases hl : n - C ≤ y
      · have : goesOnB n C y K = false := by simp [goesOnB, hl]
        rw [this, if_pos hl, fl_f]
      · have : goesOnB n C y K = true := by simp [goesOnB, hl, he]
        rw [this, if_neg hl, fl_t]
  by_cases h3 : 3 ≤ D
  · rw [if_pos h3] at key
    simp (disch := omega) only [gu, gu2, ile_t, ile_f, ilt_t, ilt_f, ieq_t, ieq_f, iz_lt, iz_eqt, iz_eqf, iz_le, im_eqf, im_eqt, im_lt, ob, nI_add, pk_mul, nI_clamp, if_true, if_false]
    exact key
  · rw [if_neg h3] at key
    simp (disch := omega) only [gu, gu2, ile_t, ile_f, ilt_t, ilt_f, ieq_t, ieq_f, iz_lt, iz_eqt, iz_eqf, iz_le, im_eqf, im_eqt, im_lt, ob, nI_add, pk_mul, nI_clamp, if_true, if_false]
    exact key
/-! the class -/
theorem cl_hasBegun {N : Nat} {bg : Option Nat} (h : ∀ b, bg = some b → b < 100000) : fX3_hasBegun N (oI bg) = some (fl bg.isSome) := by
  rw [fX3_hasBegun_e]
  cases bg with
  | none => rfl
  | some b =>
    have := h b rfl
    rw [show oI (some b) = nI b from rfl]
    simp (disch := omega) only [gu, gu2, ile_t, ile_f, ilt_t, ilt_f, ieq_t, ieq_f, iz_lt, iz_eqt, iz_eqf, iz_le, im_eqf, im_eqt, im_lt, ob, nI_add, pk_mul, nI_clamp, if_true, if_false]
    rfl
theorem cl_comeInto {N C n y nt : Nat} {K : Nat → Int32} (hC : C ≤ n) (hn : n ≤ 25) (hy : y < n) (hnt : nt < 100000) : fX5_comeInto N (nI y) (nI C) (nI n) (nI nt) (-4) K = some (fl (goesOnB n C y K), nI y, oI (begun n C y nt), eaten K y) := by
  have h46 : ∀ (e : Bool) (kk : Nat → Int32), fX5_comeInto_30 N (nI y) (nI C) (nI n) (nI nt) (-4) (fl e) kk = some (fl (!e && !(decide (n - C ≤ y))), nI y, oI (begun n C y nt), kk) := by
    intro e kk
    rw [fX5_comeInto_30_e, cl_isLine hC hn hy]
    simp only [ob]
    have hb := cl_hasBegun (N := N) (bg := begun n C y nt) (fun b hb => by unfold begun at hb; split at hb <;> cases hb; omega)
    unfold begun at hb ⊢
    by_cases hl : n - C ≤ y
    · rw [if_pos hl] at hb ⊢
      rw [if_pos hl]
      simp (disch := omega) only [gu, gu2, ile_t, ile_f, ilt_t, ilt_f, ieq_t, ieq_f, iz_lt, iz_eqt, iz_eqf, iz_le, im_eqf, im_eqt, im_lt, ob, nI_add, pk_mul, nI_clamp, if_true, if_false]
      rw [fX5_comeInto_46_e, show nI nt = oI (some nt) from rfl, hb]
      cases e with
      | false => rw [fl_f, iz_eqt rfl]; simp only [ob]; simp [hl, fl, nI_ne0]
      | true => rw [fl_t, iz_eqf (by omega) (by omega)]; simp [hl, fl]
    · rw [if_neg hl] at hb ⊢
      rw [if_neg hl]
      simp (disch := omega) only [gu, gu2, ile_t, ile_f, ilt_t, ilt_f, ieq_t, ieq_f, iz_lt, iz_eqt, iz_eqf, iz_le, im_eqf, im_eqt, im_lt, ob, nI_add, pk_mul, nI_clamp, if_true, if_false]
      rw [fX5_comeInto_46_e, show (-4 : Int32) = oI none from rfl, hb]
      cases e with
      | false => rw [fl_f, iz_eqt rfl]; simp only [ob]; simp [hl, fl]; decide
      | true => rw [fl_t, iz_eqf (by omega) (by omega)]; simp [hl, fl]
  rw [fX5_comeInto_e, cl_kindAt (show y < 25 by omega)]
  simp only [ob]
  by_cases he : K y = nI 3
  · rw [if_pos he, fX5_comeInto_14_e, iz_eqf (by omega) (by omega), fX3_setKind_e]
    simp (disch := omega) only [gu, gu2, ile_t, ile_f, ilt_t, ilt_f, ieq_t, ieq_f, iz_lt, iz_eqt, iz_eqf, iz_le, im_eqf, im_eqt, im_lt, ob, nI_add, pk_mul, nI_clamp, if_true, if_false]
    have := h46 true (upd K y (nI 0))
    rw [fl_t] at this
    rw [this]
    unfold eaten goesOnB
    rw [if_pos he]
    simp [he]
  · rw [if_neg he, fX5_comeInto_14_e, iz_eqt rfl]
    have := h46 false K
    rw [fl_f] at this
    rw [this]
    unfold eaten goesOnB
    rw [if_neg he]
    simp [he]
theorem cl_end {N C n D nt fc g : Nat} {bes fS K fG : Nat → Int32} {b : Bool} {v6 s bg : Int32} : fX5_goNight_23 N (nI C) (nI n) (nI nt) (nI D) bes (fc + 1) (fl b) (nI 0) v6 (nI g) s bg fS K fG = some (fl b, s, nI (nt + 1), bg, fS, K, fG) := by
  rw [fX5_goNight_23_s]
  simp (disch := omega) only [gu, gu2, ile_t, ile_f, ilt_t, ilt_f, ieq_t, ieq_f, iz_lt, iz_eqt, iz_eqf, iz_le, im_eqf, im_eqt, im_lt, ob, nI_add, pk_mul, nI_clamp, if_true, if_false]
  rw [fX5_goNight_129_e, if_pos (fl_01 b), nI_add]
theorem cl_stop {N C n D L g s nt fc : Nat} {bes fS K fG fS' fG' : Nat → Int32} {r : Option Nat} (hn : n ≤ 25) (hD : D < 100) (hL : L < 100) (hg : g ≤ 9) (hr : ∀ y, r = some y → y < n ∧ wk (K y) < 1000 ∧ L < cd (K y) D) (hf : 2 ≤ fc) (hnext : fX5_nextCell N (nI C) (nI n) (nI s) fS bes K fG = some (oI r, fS', fG')) :
    fX5_goNight_23 N (nI C) (nI n) (nI nt) (nI D) bes fc (nI 0) (nI 1) (nI L) (nI g) (nI s) (-4) fS K fG = some (fl (decide (g = 0) && r.isSome), nI s, nI (nt + 1), -4, fS', K, fG') := by
  obtain ⟨f, rfl⟩ : ∃ f, fc = f + 1 + 1 := ⟨fc - 2, by omega⟩
  rw [fX5_goNight_23_s, hnext]
  simp (disch := omega) only [gu, gu2, ile_t, ile_f, ilt_t, ilt_f, ieq_t, ieq_f, iz_lt, iz_eqt, iz_eqf, iz_le, im_eqf, im_eqt, im_lt, ob, nI_add, pk_mul, nI_clamp, if_true, if_false]
  cases r with
  | none =>
    rw [show oI none = -4 from rfl, cl_kindAtN]
    simp only [ob, cl_stepsD hD, im_eqt]
    rw [fX5_goNight_69_e]
    simp only [im_eqt]
    rw [fX5_goNight_85_e, fX5_goNight_86_e]
    have := cl_end (N := N) (C := C) (n := n) (D := D) (nt := nt) (fc := f) (g := g + 1) (bes := bes) (fS := fS') (K := K) (fG := fG') (b := false) (v6 := nI L) (s := nI s) (bg := -4)
    rw [fl_f, ← nI_add] at this
    rw [this]
    simp [fl]
  | some y =>
    obtain ⟨hy, hwy, hc⟩ := hr y rfl
    have hcb := cd_b (D := D) hwy
    rw [show oI (some y) = nI y from rfl, cl_kindAt (show y < 25 by omega)]
    simp only [ob, cl_stepsD hD]
    simp (disch := omega) only [gu, gu2, ile_t, ile_f, ilt_t, ilt_f, ieq_t, ieq_f, iz_lt, iz_eqt, iz_eqf, iz_le, im_eqf, im_eqt, im_lt, ob, nI_add, pk_mul, nI_clamp, if_true, if_false]
    rw [fX5_goNight_69_e]
    simp (disch := omega) only [gu, gu2, ile_t, ile_f, ilt_t, ilt_f, ieq_t, ieq_f, iz_lt, iz_eqt, iz_eqf, iz_le, im_eqf, im_eqt, im_lt, ob, nI_add, pk_mul, nI_clamp, if_true, if_false]
    by_cases h0 : g = 0
    · subst h0
      simp (disch := omega) only [gu, gu2, ile_t, ile_f, ilt_t, ilt_f, ieq_t, ieq_f, iz_lt, iz_eqt, iz_eqf, iz_le, im_eqf, im_eqt, im_lt, ob, nI_add, pk_mul, nI_clamp, if_true, if_false]
      rw [fX5_goNight_86_e]
      have := cl_end (N := N) (C := C) (n := n) (D := D) (nt := nt) (fc := f) (g := 0 + 1) (bes := bes) (fS := fS') (K := K) (fG := fG') (b := true) (v6 := nI L) (s := nI s) (bg := -4)
      rw [fl_t, ← nI_add] at this
      rw [this]
      simp [fl]
      rfl
    · simp (disch := omega) only [gu, gu2, ile_t, ile_f, ilt_t, ilt_f, ieq_t, ieq_f, iz_lt, iz_eqt, iz_eqf, iz_le, im_eqf, im_eqt, im_lt, ob, nI_add, pk_mul, nI_clamp, if_true, if_false]
      rw [fX5_goNight_85_e, fX5_goNight_86_e]
      have := cl_end (N := N) (C := C) (n := n) (D := D) (nt := nt) (fc := f) (g := g + 1) (bes := bes) (fS := fS') (K := K) (fG := fG') (b := false) (v6 := nI L) (s := nI s) (bg := -4)
      rw [fl_f, ← nI_add] at this
      rw [this]
      simp [fl, h0]
theorem cl_move {N C n D L g s nt fc y : Nat} {bes fS K fG fS' fG' : Nat → Int32} (hC : C ≤ n) (hn : n ≤ 25) (hD : D < 100) (hL : L < 100) (hg : g ≤ 9) (hnt : nt < 100000) (hy : y < n) (hwy : wk (K y) < 1000) (hc : cd (K y) D ≤ L) (hnext : fX5_nextCell N (nI C) (nI n) (nI s) fS bes K fG = some (nI y, fS', fG')) :
    fX5_goNight_23 N (nI C) (nI n) (nI nt) (nI D) bes (fc + 1) (nI 0) (nI 1) (nI L) (nI g) (nI s) (-4) fS K fG = fX5_goNight_23 N (nI C) (nI n) (nI nt) (nI D) bes fc (nI 0) (fl (goesOnB n C y K && decide (0 < L - cd (K y) D))) (nI (L - cd (K y) D)) (nI (g + 1)) (nI y) (oI (begun n C y nt)) fS' (eaten K y) fG' := by
  have hcb := cd_b (D := D) hwy
  rw [fX5_goNight_23_s, hnext]
  simp (disch := omega) only [gu, gu2, ile_t, ile_f, ilt_t, ilt_f, ieq_t, ieq_f, iz_lt, iz_eqt, iz_eqf, iz_le, im_eqf, im_eqt, im_lt, ob, nI_add, pk_mul, nI_clamp, if_true, if_false]
  rw [cl_kindAt (show y < 25 by omega)]
  simp only [ob, cl_stepsD hD]
  simp (disch := omega) only [gu, gu2, ile_t, ile_f, ilt_t, ilt_f, ieq_t, ieq_f, iz_lt, iz_eqt, iz_eqf, iz_le, im_eqf, im_eqt, im_lt, ob, nI_add, pk_mul, nI_clamp, if_true, if_false]
  rw [cl_comeInto hC hn hy hnt]
  simp only [ob]
  rw [pk_sub hc]
  cases hq : goesOnB n C y K with
  | false => rw [fl_f]; simp (disch := omega) only [gu, gu2, ile_t, ile_f, ilt_t, ilt_f, ieq_t, ieq_f, iz_lt, iz_eqt, iz_eqf, iz_le, im_eqf, im_eqt, im_lt, ob, nI_add, pk_mul, nI_clamp, if_true, if_false, Bool.false_and, fl_f]
  | true =>
    rw [fl_t]
    simp (disch := omega) only [gu, gu2, ile_t, ile_f, ilt_t, ilt_f, ieq_t, ieq_f, iz_lt, iz_eqt, iz_eqf, iz_le, im_eqf, im_eqt, im_lt, ob, nI_add, pk_mul, nI_clamp, if_true, if_false, Bool.true_and]
    by_cases h0 : 0 < L - cd (K y) D
    · rw [if_neg (nI_nle h0 (by omega))]
      simp [h0, fl]
    · rw [if_pos (by rw [show L - cd (K y) D = 0 by omega]; decide)]
      simp [h0, fl]
