/-! ===== nights one behind the other ===== -/
/-- the damps: what the text tells, as both hold it -/
def dmp (q : Nat) (d : Nat → Nat) (n : Nat) : Nat := if q = 0 then 3 else d (n % q)
def yDm (q : Nat) (d : Nat → Nat) (damps told : Nat → Int32) : Prop := q ≤ 9 ∧ told 3 = nI q ∧ (∀ i, i < q → damps i = nI (d i) ∧ told (4 + i) = nI (d i) ∧ d i ≤ 9)
theorem dmp_9 {q n : Nat} {d : Nat → Nat} {damps told : Nat → Int32} (h : yDm q d damps told) : dmp q d n ≤ 9 := by
  unfold dmp
  split
  · omega
  · exact (h.2.2 _ (Nat.mod_lt n (by omega))).2.2
theorem cl_damp {q n N : Nat} {d : Nat → Nat} {damps told : Nat → Int32} (h : yDm q d damps told) (hn : n < 100000) : fX6_dampOn N (nI q) (nI n) damps = some (nI (dmp q d n)) := by
  have hq := h.1
  rw [fX6_dampOn_e]
  unfold dmp
  by_cases h0 : q = 0
  · subst h0
    rw [if_pos (by decide), if_pos rfl]
  · have hm := Nat.mod_lt n (show 0 < q by omega)
    have hrem : nI n - nI n / nI q * nI q = nI (n % q) := pk_rem (by omega) (by omega) (by omega)
    rw [hrem, if_neg (nI_nle (by omega) (by omega)), if_neg h0, if_pos (nI_ne0 (by omega) (by omega))]
    simp (disch := omega) only [gu, gu2, ile_t, ile_f, ilt_t, ilt_f, ieq_t, ieq_f, iz_lt, iz_eqt, iz_eqf, iz_le, im_eqf, im_eqt, im_lt, ob, nI_add, pk_mul, nI_clamp, if_true, if_false]
    rw [(h.2.2 _ hm).1]
theorem mo_damp {q n N : Nat} {d : Nat → Nat} {damps told : Nat → Int32} (h : yDm q d damps told) (hn : n < 100000) : fX8_dampOf N (nI n) told = some (nI (dmp q d n)) := by
  have hq := h.1
  rw [fX8_dampOf_e, h.2.1]
  unfold dmp
  by_cases h0 : q = 0
  · subst h0
    rw [if_pos (by decide), if_pos rfl]
  · have hm := Nat.mod_lt n (show 0 < q by omega)
    have hrem : nI n - nI n / nI q * nI q = nI (n % q) := pk_rem (by omega) (by omega) (by omega)
    rw [hrem, if_neg (nI_ne0 (by omega) (by omega)), if_neg h0, if_pos (nI_ne0 (by omega) (by omega))]
    simp (disch := omega) only [gu, gu2, ile_t, ile_f, ilt_t, ilt_f, ieq_t, ieq_f, iz_lt, iz_eqt, iz_eqf, iz_le, im_eqf, im_eqt, im_lt, ob, nI_add, pk_mul, nI_clamp, if_true, if_false]
    rw [(h.2.2 _ hm).2.1]
/-- all that the ways and nights need of the churchyard -/
def yAll (R C n q : Nat) (d : Nat → Nat) (bes damps told : Nat → Int32) : Prop := mYd R C n told ∧ yBes C n bes ∧ yDm q d damps told
def okBg (bg : Option Nat) : Prop := ∀ b, bg = some b → b < 10000
/-- j nights in both: where they come to -/
theorem runs {R C n q N : Nat} {d : Nat → Nat} {bes damps told : Nat → Int32} (hY : yAll R C n q d bes damps told) (hN : 100000 ≤ N) : ∀ (j i : Nat) (K : Nat → Int32) (s nt : Nat) (bg : Option Nat) (p2 : Nat), i + j = p2 → p2 ≤ 40 → nt + j < 10000 → okSc n K s → okBg bg →
    ∃ (K' : Nat → Int32) (s' : Nat) (bg' : Option Nat), okSc n K' s' ∧ okBg bg' ∧
      (∀ (fS fG : Nat → Int32) (fc : Nat), j < fc → ∃ fS' fG', fX7_goNights_2 N (nI p2) (nI C) (nI n) (nI q) damps bes fc (nI i) (nI s) (nI nt) (oI bg) fS K fG = some (nI s', nI (nt + j), oI bg', fS', K', fG')) ∧
      (∀ (now fr to : Nat → Int32) (fm : Nat), mSc K s nt bg now → j < fm → ∃ now' fr' to', mSc K' s' (nt + j) bg' now' ∧ fX8_goesOn_2 N (nI p2) told fm (nI i) now fr to = some (now', fr', to')) := by
  intro j
  induction j with
  | zero =>
    intro i K s nt bg p2 hi h40 hnt hok hbg
    refine ⟨K, s, bg, hok, hbg, fun fS fG fc hf => ⟨fS, fG, ?_⟩, fun now fr to fm hS hf => ⟨now, fr, to, hS, ?_⟩⟩
    · obtain ⟨f, rfl⟩ : ∃ f, fc = f + 1 := ⟨fc - 1, by omega⟩
      rw [fX7_goNights_2_s]
      simp (disch := omega) only [gu, gu2, ile_t, ile_f, ilt_t, ilt_f, ieq_t, ieq_f, iz_lt, iz_eqt, iz_eqf, iz_le, im_eqf, im_eqt, im_lt, ob, nI_add, pk_mul, nI_clamp, if_true, if_false]
      rfl
    · obtain ⟨f, rfl⟩ : ∃ f, fm = f + 1 := ⟨fm - 1, by omega⟩
      rw [fX8_goesOn_2_s]
      simp (disch := omega) only [gu, gu2, ile_t, ile_f, ilt_t, ilt_f, ieq_t, ieq_f, iz_lt, iz_eqt, iz_eqf, iz_le, im_eqf, im_eqt, im_lt, ob, nI_add, pk_mul, nI_clamp, if_true, if_false]
  | succ j ih =>
    intro i K s nt bg p2 hi h40 hnt hok hbg
    have hD := dmp_9 (n := nt) hY.2.2
    obtain ⟨sl, K1, s1, bg1, a1, a2, -, a3, a4⟩ := night (N := N) hY.1 hY.2.1 hN hD (show nt < 10000 by omega) hok hbg
    obtain ⟨K', s', bg', b1, b2, b3, b4⟩ := ih (i + 1) K1 s1 (nt + 1) bg1 p2 (by omega) h40 (by omega) a1 a2
    have hnj : nt + 1 + j = nt + (j + 1) := by omega
    rw [hnj] at b3 b4
    refine ⟨K', s', bg', b1, b2, fun fS fG fc hf => ?_, fun now fr to fm hS hf => ?_⟩
    · obtain ⟨f, rfl⟩ : ∃ f, fc = f + 1 := ⟨fc - 1, by omega⟩
      obtain ⟨fS1, fG1, e1⟩ := a3 fS fG
      rw [fX7_goNights_2_s, cl_damp hY.2.2 (by omega)]
      simp (disch := omega) only [gu, gu2, ile_t, ile_f, ilt_t, ilt_f, ieq_t, ieq_f, iz_lt, iz_eqt, iz_eqf, iz_le, im_eqf, im_eqt, im_lt, ob, nI_add, pk_mul, nI_clamp, if_true, if_false]
      rw [e1]
      simp only [ob]
      exact b3 fS1 fG1 f (by omega)
    · obtain ⟨f, rfl⟩ : ∃ f, fm = f + 1 := ⟨fm - 1, by omega⟩
      obtain ⟨now1, fr1, to1, hS1, e1⟩ := a4 now fr to hS
      rw [fX8_goesOn_2_s, hS.1, mo_damp hY.2.2 (by omega)]
      simp (disch := omega) only [gu, gu2, ile_t, ile_f, ilt_t, ilt_f, ieq_t, ieq_f, iz_lt, iz_eqt, iz_eqf, iz_le, im_eqf, im_eqt, im_lt, ob, nI_add, pk_mul, nI_clamp, if_true, if_false]
      rw [e1]
      simp only [ob]
      exact b4 now1 fr1 to1 f hS1 (by omega)
/-- till it begins, 30 nights at most -/
theorem till {R C n q N : Nat} {d : Nat → Nat} {bes damps told : Nat → Int32} (hY : yAll R C n q d bes damps told) (hN : 100000 ≤ N) : ∀ (j i : Nat) (K : Nat → Int32) (s nt : Nat) (bg : Option Nat), i + j = 30 → nt + j < 10000 → okSc n K s → okBg bg →
    ∃ (r : Option Nat) (K' : Nat → Int32) (s' nt' : Nat) (bg' : Option Nat), okSc n K' s' ∧ okBg bg' ∧ (∀ k, r = some k → k ≤ 30) ∧ r.isSome = bg'.isSome ∧ nt' < 10000 ∧
      (∀ (fS fG : Nat → Int32) (fc : Nat), j < fc → ∃ fS' fG', fX7_nightsTillBegun_2 N (nI C) (nI n) (nI q) damps bes fc (nI i) (nI s) (nI nt) (oI bg) fS K fG = some (oI r, nI s', nI nt', oI bg', fS', K', fG')) ∧
      (∀ (now fr to : Nat → Int32) (fm : Nat), mSc K s nt bg now → j < fm → ∃ now' fr' to', mSc K' s' nt' bg' now' ∧ fX8_beginsSo_2 N told fm (nI i) now fr to = some (oI r, mB bg', nI s', now', fr', to')) := by
  intro j
  induction j with
  | zero =>
    intro i K s nt bg hi hnt hok hbg
    have hb := cl_hasBegun (N := N) (bg := bg) (fun b hb => by have := hbg b hb; omega)
    cases bg with
    | none =>
      refine ⟨none, K, s, nt, none, hok, hbg, (fun k hk => by cases hk), rfl, by omega, fun fS fG fc hf => ⟨fS, fG, ?_⟩, fun now fr to fm hS hf => ⟨now, fr, to, hS, ?_⟩⟩
      · obtain ⟨f, rfl⟩ : ∃ f, fc = f + 1 := ⟨fc - 1, by omega⟩
        rw [fX7_nightsTillBegun_2_s]
        simp (disch := omega) only [gu, gu2, ile_t, ile_f, ilt_t, ilt_f, ieq_t, ieq_f, iz_lt, iz_eqt, iz_eqf, iz_le, im_eqf, im_eqt, im_lt, ob, nI_add, pk_mul, nI_clamp, if_true, if_false]
        rw [fX7_nightsTillBegun_45_e, hb]
        rfl
      · obtain ⟨f, rfl⟩ : ∃ f, fm = f + 1 := ⟨fm - 1, by omega⟩
        rw [fX8_beginsSo_2_s]
        simp (disch := omega) only [gu, gu2, ile_t, ile_f, ilt_t, ilt_f, ieq_t, ieq_f, iz_lt, iz_eqt, iz_eqf, iz_le, im_eqf, im_eqt, im_lt, ob, nI_add, pk_mul, nI_clamp, if_true, if_false]
        rw [fX8_beginsSo_38_e, hS.2.2.1, hS.2.1, if_neg (by decide)]
        rfl
    | some b =>
      have hbb := hbg b rfl
      refine ⟨some i, K, s, nt, some b, hok, hbg, (fun k hk => by cases hk; omega), rfl, by omega, fun fS fG fc hf => ⟨fS, fG, ?_⟩, fun now fr to fm hS hf => ⟨now, fr, to, hS, ?_⟩⟩
      · obtain ⟨f, rfl⟩ : ∃ f, fc = f + 1 := ⟨fc - 1, by omega⟩
        rw [fX7_nightsTillBegun_2_s]
        simp (disch := omega) only [gu, gu2, ile_t, ile_f, ilt_t, ilt_f, ieq_t, ieq_f, iz_lt, iz_eqt, iz_eqf, iz_le, im_eqf, im_eqt, im_lt, ob, nI_add, pk_mul, nI_clamp, if_true, if_false]
        rw [fX7_nightsTillBegun_45_e, hb]
        rfl
      · obtain ⟨f, rfl⟩ : ∃ f, fm = f + 1 := ⟨fm - 1, by omega⟩
        rw [fX8_beginsSo_2_s]
        simp (disch := omega) only [gu, gu2, ile_t, ile_f, ilt_t, ilt_f, ieq_t, ieq_f, iz_lt, iz_eqt, iz_eqf, iz_le, im_eqf, im_eqt, im_lt, ob, nI_add, pk_mul, nI_clamp, if_true, if_false]
        rw [fX8_beginsSo_38_e, hS.2.2.1, hS.2.1, show mB (some b) = nI b from rfl]
        simp (disch := omega) only [gu, gu2, ile_t, ile_f, ilt_t, ilt_f, ieq_t, ieq_f, iz_lt, iz_eqt, iz_eqf, iz_le, im_eqf, im_eqt, im_lt, ob, nI_add, pk_mul, nI_clamp, if_true, if_false]
        rfl
  | succ j ih =>
    intro i K s nt bg hi hnt hok hbg
    have hb := cl_hasBegun (N := N) (bg := bg) (fun b hb => by have := hbg b hb; omega)
    cases bg with
    | some b =>
      have hbb := hbg b rfl
      refine ⟨some i, K, s, nt, some b, hok, hbg, (fun k hk => by cases hk; omega), rfl, by omega, fun fS fG fc hf => ⟨fS, fG, ?_⟩, fun now fr to fm hS hf => ⟨now, fr, to, hS, ?_⟩⟩
      · obtain ⟨f, rfl⟩ : ∃ f, fc = f + 1 := ⟨fc - 1, by omega⟩
        rw [fX7_nightsTillBegun_2_s, hb]
        simp only [ob, Option.isSome]
        rw [fl_t]
        simp (disch := omega) only [gu, gu2, ile_t, ile_f, ilt_t, ilt_f, ieq_t, ieq_f, iz_lt, iz_eqt, iz_eqf, iz_le, im_eqf, im_eqt, im_lt, ob, nI_add, pk_mul, nI_clamp, if_true, if_false]
        rw [fX7_nightsTillBegun_45_e, hb]
        rfl
      · obtain ⟨f, rfl⟩ : ∃ f, fm = f + 1 := ⟨fm - 1, by omega⟩
        rw [fX8_beginsSo_2_s, hS.2.2.1, show mB (some b) = nI b from rfl]
        simp (disch := omega) only [gu, gu2, ile_t, ile_f, ilt_t, ilt_f, ieq_t, ieq_f, iz_lt, iz_eqt, iz_eqf, iz_le, im_eqf, im_eqt, im_lt, ob, nI_add, pk_mul, nI_clamp, if_true, if_false]
        rw [fX8_beginsSo_38_e, hS.2.2.1, hS.2.1, show mB (some b) = nI b from rfl]
        simp (disch := omega) only [gu, gu2, ile_t, ile_f, ilt_t, ilt_f, ieq_t, ieq_f, iz_lt, iz_eqt, iz_eqf, iz_le, im_eqf, im_eqt, im_lt, ob, nI_add, pk_mul, nI_clamp, if_true, if_false]
        rfl
    | none =>
      have hD := dmp_9 (n := nt) hY.2.2
      obtain ⟨sl, K1, s1, bg1, a1, a2, -, a3, a4⟩ := night (N := N) hY.1 hY.2.1 hN hD (show nt < 10000 by omega) hok hbg
      obtain ⟨r, K', s', nt', bg', b1, b2, b3, b4, b5, b6, b7⟩ := ih (i + 1) K1 s1 (nt + 1) bg1 (by omega) (by omega) a1 a2
      refine ⟨r, K', s', nt', bg', b1, b2, b3, b4, b5, fun fS fG fc hf => ?_, fun now fr to fm hS hf => ?_⟩
      · obtain ⟨f, rfl⟩ : ∃ f, fc = f + 1 := ⟨fc - 1, by omega⟩
        obtain ⟨fS1, fG1, e1⟩ := a3 fS fG
        rw [fX7_nightsTillBegun_2_s, hb]
        simp only [ob, Option.isSome]
        rw [fl_f, cl_damp hY.2.2 (by omega)]
        simp (disch := omega) only [gu, gu2, ile_t, ile_f, ilt_t, ilt_f, ieq_t, ieq_f, iz_lt, iz_eqt, iz_eqf, iz_le, im_eqf, im_eqt, im_lt, ob, nI_add, pk_mul, nI_clamp, if_true, if_false]
        rw [e1]
        simp only [ob]
        exact b6 fS1 fG1 f (by omega)
      · obtain ⟨f, rfl⟩ : ∃ f, fm = f + 1 := ⟨fm - 1, by omega⟩
        obtain ⟨now1, fr1, to1, hS1, e1⟩ := a4 now fr to hS
        rw [fX8_beginsSo_2_s, hS.1, mo_damp hY.2.2 (by omega), hS.2.2.1, if_neg (show ¬ 0 ≤ mB none by decide)]
        simp (disch := omega) only [gu, gu2, ile_t, ile_f, ilt_t, ilt_f, ieq_t, ieq_f, iz_lt, iz_eqt, iz_eqf, iz_le, im_eqf, im_eqt, im_lt, ob, nI_add, pk_mul, nI_clamp, if_true, if_false]
        rw [e1]
        simp only [ob]
        exact b7 now1 fr1 to1 f hS1 (by omega)
/-- rows put aside and brought back -/
def eq28 (a b : Nat → Int32) : Prop := ∀ i, i < 28 → a i = b i
theorem mSc_eq28 {K now now' : Nat → Int32} {s nt : Nat} {bg : Option Nat} (h : mSc K s nt bg now) (he : eq28 now' now) : mSc K s nt bg now' :=
  ⟨(he 0 (by omega)).trans h.1, (he 1 (by omega)).trans h.2.1, (he 2 (by omega)).trans h.2.2.1, fun y hy => (he (3 + y) (by omega)).trans (h.2.2.2 y hy)⟩
theorem mo_as2 {now : Nat → Int32} : ∀ (d i fuel : Nat) (p : Nat → Int32), i + d = 28 → d < fuel → (∀ y, y < i → p y = now y) → ∃ p', eq28 p' now ∧ fX8_asides_2 now fuel (nI i) p = some p' := by
  intro d
  induction d with
  | zero =>
    intro i fuel p hi hf hp
    obtain ⟨m, rfl⟩ : ∃ m, fuel = m + 1 := ⟨fuel - 1, by omega⟩
    refine ⟨p, fun y hy => hp y (by omega), ?_⟩
    rw [fX8_asides_2_s]
    simp (disch := omega) only [gu, gu2, ile_t, ile_f, ilt_t, ilt_f, ieq_t, ieq_f, iz_lt, iz_eqt, iz_eqf, iz_le, im_eqf, im_eqt, im_lt, ob, nI_add, pk_mul, nI_clamp, if_true, if_false]
  | succ d ih =>
    intro i fuel p hi hf hp
    obtain ⟨m, rfl⟩ : ∃ m, fuel = m + 1 := ⟨fuel - 1, by omega⟩
    rw [fX8_asides_2_s]
    simp (disch := omega) only [gu, gu2, ile_t, ile_f, ilt_t, ilt_f, ieq_t, ieq_f, iz_lt, iz_eqt, iz_eqf, iz_le, im_eqf, im_eqt, im_lt, ob, nI_add, pk_mul, nI_clamp, if_true, if_false]
    exact ih (i + 1) m (upd p i (now i)) (by omega) (by omega) (fun y hy => by
      by_cases h : y = i
      · subst h; exact upd_s
      · rw [upd_n h]; exact hp y (by omega))
theorem mo_ba2 {aside : Nat → Int32} : ∀ (d i fuel : Nat) (p : Nat → Int32), i + d = 28 → d < fuel → (∀ y, y < i → p y = aside y) → ∃ p', eq28 p' aside ∧ fX8_backs_2 aside fuel (nI i) p = some p' := by
  intro d
  induction d with
  | zero =>
    intro i fuel p hi hf hp
    obtain ⟨m, rfl⟩ : ∃ m, fuel = m + 1 := ⟨fuel - 1, by omega⟩
    refine ⟨p, fun y hy => hp y (by omega), ?_⟩
    rw [fX8_backs_2_s]
    simp (disch := omega) only [gu, gu2, ile_t, ile_f, ilt_t, ilt_f, ieq_t, ieq_f, iz_lt, iz_eqt, iz_eqf, iz_le, im_eqf, im_eqt, im_lt, ob, nI_add, pk_mul, nI_clamp, if_true, if_false]
  | succ d ih =>
    intro i fuel p hi hf hp
    obtain ⟨m, rfl⟩ : ∃ m, fuel = m + 1 := ⟨fuel - 1, by omega⟩
    rw [fX8_backs_2_s]
    simp (disch := omega) only [gu, gu2, ile_t, ile_f, ilt_t, ilt_f, ieq_t, ieq_f, iz_lt, iz_eqt, iz_eqf, iz_le, im_eqf, im_eqt, im_lt, ob, nI_add, pk_mul, nI_clamp, if_true, if_false]
    exact ih (i + 1) m (upd p i (aside i)) (by omega) (by omega) (fun y hy => by
      by_cases h : y = i
      · subst h; exact upd_s
      · rw [upd_n h]; exact hp y (by omega))
theorem mo_asides {N : Nat} {aside now : Nat → Int32} (hN : 100 ≤ N) : ∃ p', eq28 p' now ∧ fX8_asides N aside now = some p' := by
  rw [fX8_asides_e]
  exact mo_as2 28 0 N aside (by omega) (by omega) (fun y hy => by omega)
theorem mo_backs {N : Nat} {aside now : Nat → Int32} (hN : 100 ≤ N) : ∃ p', eq28 p' aside ∧ fX8_backs N now aside = some p' := by
  rw [fX8_backs_e]
  exact mo_ba2 28 0 N now (by omega) (by omega) (fun y hy => by omega)
