/-! ===== from the first night on ===== -/
theorem mo_be28 {told : Nat → Int32} {yk : Nat → Int32} (hk : ∀ y, y < 25 → told (29 + y) = yk y) : ∀ (d i fuel : Nat) (p : Nat → Int32), i + d = 25 → d < fuel → (∀ y, y < i → p (3 + y) = yk y) → ∃ p', p' 0 = p 0 ∧ p' 1 = p 1 ∧ p' 2 = p 2 ∧ (∀ y, y < 25 → p' (3 + y) = yk y) ∧ fX8_begins0_28 told fuel (nI i) p = some p' := by
  intro d
  induction d with
  | zero =>
    intro i fuel p hi hf hp
    obtain ⟨f, rfl⟩ : ∃ f, fuel = f + 1 := ⟨fuel - 1, by omega⟩
    refine ⟨p, rfl, rfl, rfl, fun y hy => hp y (by omega), ?_⟩
    rw [fX8_begins0_28_s]
    simp (disch := omega) only [gu, gu2, ile_t, ile_f, ilt_t, ilt_f, ieq_t, ieq_f, iz_lt, iz_eqt, iz_eqf, iz_le, im_eqf, im_eqt, im_lt, ob, nI_add, pk_mul, nI_clamp, if_true, if_false]
  | succ d ih =>
    intro i fuel p hi hf hp
    obtain ⟨f, rfl⟩ : ∃ f, fuel = f + 1 := ⟨fuel - 1, by omega⟩
    rw [fX8_begins0_28_s]
    simp (disch := omega) only [gu, gu2, ile_t, ile_f, ilt_t, ilt_f, ieq_t, ieq_f, iz_lt, iz_eqt, iz_eqf, iz_le, im_eqf, im_eqt, im_lt, ob, nI_add, pk_mul, nI_clamp, if_true, if_false]
    obtain ⟨p', a, b, c, e, g⟩ := ih (i + 1) f (upd p (3 + i) (told (29 + i))) (by omega) (by omega) (fun y hy => by
      by_cases h : y = i
      · subst h; rw [upd_s]; exact hk y (by omega)
      · rw [upd_n (by omega)]; exact hp y (by omega))
    exact ⟨p', by rw [a, upd_n (by omega)], by rw [b, upd_n (by omega)], by rw [c, upd_n (by omega)], e, g⟩
theorem mo_begins0 {N st : Nat} {told yk now : Nat → Int32} (hN : 100 ≤ N) (h2 : told 2 = nI st) (hk : ∀ y, y < 25 → told (29 + y) = yk y) : ∃ p', mSc yk st 0 none p' ∧ fX8_begins0 N now told = some p' := by
  obtain ⟨p', a, b, c, e, g⟩ := mo_be28 (told := told) hk 25 0 N (upd (upd (upd now 0 (nI 0)) 1 (told 2)) 2 (-1 : Int32)) (by omega) (by omega) (fun y hy => by omega)
  refine ⟨p', ⟨?_, ?_, ?_, e⟩, by rw [fX8_begins0_e]; exact g⟩
  · rw [a, upd_n (by omega), upd_n (by omega), upd_s]
  · rw [b, upd_n (by omega), upd_s, h2]
  · rw [c, upd_s]; rfl
theorem slp_loop {R C n q N : Nat} {d : Nat → Nat} {bes damps told o1 : Nat → Int32} (hY : yAll R C n q d bes damps told) (hN : 100000 ≤ N) : ∀ (j i fc fm : Nat) (v : Int32) (K : Nat → Int32) (s : Nat) (bg : Option Nat) (fS fG nw fr to : Nat → Int32), i + j = 30 → j < fc → j < fm → okSc n K s → okBg bg → mSc K s i bg nw →
    ∃ v' ts' tn' tb' tk' fS' fG' nw' fr' to', eq28 nw' o1 ∧ fX7_slept_15 N (nI C) (nI n) (nI q) damps bes fc v (nI i) (nI s) (nI i) (oI bg) K fS fG = some (v', ts', tn', tb', tk', fS', fG') ∧ fX8_slept_12 N told o1 fm v (nI i) nw fr to = some (v', o1, nw', fr', to') := by
  intro j
  induction j with
  | zero =>
    intro i fc fm v K s bg fS fG nw fr to hi hfc hfm hok hbg hS
    obtain ⟨f, rfl⟩ : ∃ f, fc = f + 1 := ⟨fc - 1, by omega⟩
    obtain ⟨g, rfl⟩ : ∃ g, fm = g + 1 := ⟨fm - 1, by omega⟩
    obtain ⟨nb, hb, e4⟩ := mo_backs (N := N) (aside := o1) (now := nw) (by omega)
    refine ⟨v, nI s, nI i, oI bg, K, fS, fG, nb, fr, to, hb, ?_, ?_⟩
    · rw [fX7_slept_15_s]
      simp (disch := omega) only [gu, gu2, ile_t, ile_f, ilt_t, ilt_f, ieq_t, ieq_f, iz_lt, iz_eqt, iz_eqf, iz_le, im_eqf, im_eqt, im_lt, ob, nI_add, pk_mul, nI_clamp, if_true, if_false]
    · rw [fX8_slept_12_s]
      simp (disch := omega) only [gu, gu2, ile_t, ile_f, ilt_t, ilt_f, ieq_t, ieq_f, iz_lt, iz_eqt, iz_eqf, iz_le, im_eqf, im_eqt, im_lt, ob, nI_add, pk_mul, nI_clamp, if_true, if_false]
      rw [e4]
      rfl
  | succ j ih =>
    intro i fc fm v K s bg fS fG nw fr to hi hfc hfm hok hbg hS
    obtain ⟨f, rfl⟩ : ∃ f, fc = f + 1 := ⟨fc - 1, by omega⟩
    obtain ⟨g, rfl⟩ : ∃ g, fm = g + 1 := ⟨fm - 1, by omega⟩
    have hD := dmp_9 (n := i) hY.2.2
    obtain ⟨sl, K1, s1, bg1, a1, a2, -, a3, a4⟩ := night (N := N) hY.1 hY.2.1 hN hD (show i < 10000 by omega) hok hbg
    obtain ⟨fS1, fG1, e1⟩ := a3 fS fG
    obtain ⟨nw1, fr1, to1, hS1, e2⟩ := a4 nw fr to hS
    rw [fX7_slept_15_s, fX8_slept_12_s, cl_damp hY.2.2 (by omega), mo_damp hY.2.2 (by omega)]
    simp (disch := omega) only [gu, gu2, ile_t, ile_f, ilt_t, ilt_f, ieq_t, ieq_f, iz_lt, iz_eqt, iz_eqf, iz_le, im_eqf, im_eqt, im_lt, ob, nI_add, pk_mul, nI_clamp, if_true, if_false]
    rw [e1, e2]
    simp only [ob]
    cases sl with
    | false =>
      rw [fl_f, iz_eqt rfl, iz_eqt rfl, or_zero]
      exact ih (i + 1) f g v K1 s1 bg1 fS1 fG1 nw1 fr1 to1 (by omega) (by omega) (by omega) a1 a2 hS1
    | true =>
      rw [fl_t, iz_eqf (by omega) (by omega), iz_eqf (by omega) (by omega)]
      exact ih (i + 1) f g _ K1 s1 bg1 fS1 fG1 nw1 fr1 to1 (by omega) (by omega) (by omega) a1 a2 hS1
theorem p_slept {R C n q N st nr nh : Nat} {d rn ra hs : Nat → Nat} {yk ycol bes damps yrn yr yh told now tk fS fG fr to aside : Nat → Int32} (hR : yR R C n q d st nr rn ra nh hs yk ycol bes damps yrn yr yh told) (hN : 100000 ≤ N) :
    ∃ r ts' tn' tb' tk' fS' fG' aside' now' fr' to', fX7_slept N (nI C) (nI n) (nI st) (nI q) yk tk damps fS bes fG = some (r, ts', tn', tb', tk', fS', fG') ∧ fX8_slept N aside now told fr to = some (r, aside', now', fr', to') ∧ eq28 now' now := by
  obtain ⟨hY, -, ⟨h2, -⟩, -, -, hk, hok⟩ := hR
  have h25 := hY.1.1.n25
  obtain ⟨as, ha, e3⟩ := mo_asides (N := N) (aside := aside) (now := now) (by omega)
  obtain ⟨p, hS, e5⟩ := mo_begins0 (N := N) (now := now) (by omega) h2 hk
  obtain ⟨v', ts', tn', tb', tk', fS', fG', nw', fr', to', h1, h3, h4⟩ := slp_loop (N := N) (o1 := as) hY hN 30 0 N N (nI 0) (va_cpy yk tk 0 0 25) st none fS fG p fr to (by omega) (by omega) (by omega) (okSc_K hok (by omega) (fun y hy => cpy25 hy)) (fun b hb => by cases hb) (mSc_K hS (fun y hy => cpy25 hy))
  refine ⟨v', ts', tn', tb', tk', fS', fG', as, nw', fr', to', ?_, ?_, fun z hz => (h1 z hz).trans (ha z hz)⟩
  · rw [fX7_slept_e, fX3_setOut_e]
    simp only [ob]
    exact h3
  · rw [fX8_slept_e, e3]
    simp only [ob]
    rw [e5]
    simp only [ob]
    exact h4
/-! ===== year ===== -/
def drw (z k : Nat) : Nat := (7919 * z + 6151 * k + 1) * (7919 * z + 6151 * k + 1) % 65521 / 8 % 7
theorem drw_6 (z k : Nat) : drw z k ≤ 9 := by
  have := Nat.mod_lt ((7919 * z + 6151 * k + 1) * (7919 * z + 6151 * k + 1) % 65521 / 8) (show 0 < 7 by omega)
  unfold drw
  omega
theorem drw_e {z k : Nat} (hz : z ≤ 9999) (hk : k ≤ 30) : (((((((((lN 7919) * (nI z).toInt64) + ((lN 6151) * (nI k).toInt64)) + (lN 1)) * ((((lN 7919) * (nI z).toInt64) + ((lN 6151) * (nI k).toInt64)) + (lN 1))) - (((((lN 7919) * (nI z).toInt64) + ((lN 6151) * (nI k).toInt64)) + (lN 1)) * ((((lN 7919) * (nI z).toInt64) + ((lN 6151) * (nI k).toInt64)) + (lN 1))) / (lN 65521) * (lN 65521)) / (lN 8)) - (((((((lN 7919) * (nI z).toInt64) + ((lN 6151) * (nI k).toInt64)) + (lN 1)) * ((((lN 7919) * (nI z).toInt64) + ((lN 6151) * (nI k).toInt64)) + (lN 1))) - (((((lN 7919) * (nI z).toInt64) + ((lN 6151) * (nI k).toInt64)) + (lN 1)) * ((((lN 7919) * (nI z).toInt64) + ((lN 6151) * (nI k).toInt64)) + (lN 1))) / (lN 65521) * (lN 65521)) / (lN 8)) / (lN 7) * (lN 7)).toInt32) = nI (drw z k) := by
  rw [nI_l (show z < 2 ^ 31 by omega), nI_l (show k < 2 ^ 31 by omega), lN_mul, lN_mul, lN_add, lN_add, lN_mul]
  have hq : 7919 * z + 6151 * k + 1 ≤ 80000000 := by omega
  have hqq : (7919 * z + 6151 * k + 1) * (7919 * z + 6151 * k + 1) ≤ 80000000 * 80000000 := Nat.mul_le_mul hq hq
  rw [pk_lRem (by omega) (by omega) (by omega)]
  have hm := Nat.mod_lt ((7919 * z + 6151 * k + 1) * (7919 * z + 6151 * k + 1)) (show 0 < 65521 by omega)
  rw [pk_lDiv (by omega) (by omega) (by omega), pk_lRem (by omega) (by omega) (by omega), lN_i]
  rfl
theorem yr_loop {R C n q N z : Nat} {d : Nat → Nat} {bes damps told o25 : Nat → Int32} {p2 : Int32} (hY : yAll R C n q d bes damps told) (hN : 100000 ≤ N) (hz : z ≤ 9999) (hp2 : p2 = nI 0 ∨ p2 = nI 1) : ∀ (j i fc fm : Nat) (K : Nat → Int32) (s nt : Nat) (bg : Option Nat) (fS fG nw fr to : Nat → Int32), i + j = 30 → j < fc → j < fm → nt + j < 10000 → okSc n K s → okBg bg → mSc K s nt bg nw →
    ∃ v' ts' tn' tb' tk' fS' fG' nw' fr' to', eq28 nw' o25 ∧ fX7_year_35 N (nI z) p2 (nI C) (nI n) bes fc (nI i) (nI s) (nI nt) (oI bg) K fS fG = some (v', ts', tn', tb', tk', fS', fG') ∧ fX8_year_30 N (nI z) p2 told o25 fm (nI i) nw fr to = some (v', o25, nw', fr', to') := by
  have fin : ∀ (i : Nat) (K : Nat → Int32) (s nt : Nat) (bg : Option Nat) (fS fG nw fr to : Nat → Int32), i ≤ 30 → okBg bg → mSc K s nt bg nw → ∃ v' ts' tn' tb' tk' fS' fG' nw' fr' to', eq28 nw' o25 ∧ fX7_year_78 N p2 (nI i) (nI s) (nI nt) (oI bg) K fS fG = some (v', ts', tn', tb', tk', fS', fG') ∧ fX8_year_91 N p2 o25 (nI i) nw fr to = some (v', o25, nw', fr', to') := by
    intro i K s nt bg fS fG nw fr to hi hbg hS
    obtain ⟨nb, hb, e4⟩ := mo_backs (N := N) (aside := o25) (now := nw) (by omega)
    have hbe := cl_hasBegun (N := N) (bg := bg) (fun b hb => by have := hbg b hb; omega)
    rw [fX7_year_78_e, fX8_year_91_e, hbe, hS.2.2.1]
    simp only [ob]
    rcases hp2 with rfl | rfl
    · rw [if_neg (by decide)]
      cases bg with
      | none =>
        rw [if_neg (show ¬ 0 ≤ mB none by decide), fX8_year_106_e, e4]
        simp only [ob]
        rw [iz_eqt rfl, show fl (none : Option Nat).isSome = nI 0 from rfl, iz_eqt rfl]
        exact ⟨_, _, _, _, _, _, _, _, _, _, hb, rfl, rfl⟩
      | some b =>
        have := hbg b rfl
        rw [if_pos (show 0 ≤ mB (some b) from nI_pos' (by omega)), fX8_year_106_e, e4]
        simp only [ob]
        rw [iz_eqt rfl, show fl (some b).isSome = nI 1 from rfl, iz_eqf (by omega) (by omega)]
        exact ⟨_, _, _, _, _, _, _, _, _, _, hb, rfl, rfl⟩
    · rw [if_pos rfl, fX8_year_106_e, fX8_year_106_e, e4]
      simp only [ob]
      rw [iz_eqf (by omega) (by omega), hS.2.1]
      refine ⟨_, _, _, _, _, _, _, nb, fr, to, hb, rfl, ?_⟩
      split <;> rfl
  intro j
  induction j with
  | zero =>
    intro i fc fm K s nt bg fS fG nw fr to hi hfc hfm hnt hok hbg hS
    obtain ⟨f, rfl⟩ : ∃ f, fc = f + 1 := ⟨fc - 1, by omega⟩
    obtain ⟨g, rfl⟩ : ∃ g, fm = g + 1 := ⟨fm - 1, by omega⟩
    rw [fX7_year_35_s, fX8_year_30_s]
    simp (disch := omega) only [ile_t]
    exact fin i K s nt bg fS fG nw fr to (by omega) hbg hS
  | succ j ih =>
    intro i fc fm K s nt bg fS fG nw fr to hi hfc hfm hnt hok hbg hS
    obtain ⟨f, rfl⟩ : ∃ f, fc = f + 1 := ⟨fc - 1, by omega⟩
    obtain ⟨g, rfl⟩ : ∃ g, fm = g + 1 := ⟨fm - 1, by omega⟩
    have hbe := cl_hasBegun (N := N) (bg := bg) (fun b hb => by have := hbg b hb; omega)
    rw [fX7_year_35_s, fX8_year_30_s, hbe, hS.2.2.1, ile_f (by omega) (by omega), ile_f (by omega) (by omega), drw_e hz (by omega), fX7_drawnDamp_e, drw_e hz (by omega)]
    simp only [ob]
    cases bg with
    | some b =>
      have := hbg b rfl
      rw [if_pos (show 0 ≤ mB (some b) from nI_pos' (by omega))]
      rw [show fl (some b).isSome = nI 1 from rfl, iz_eqf (by omega) (by omega)]
      exact fin i K s nt (some b) fS fG nw fr to (by omega) hbg hS
    | none =>
      rw [if_neg (show ¬ 0 ≤ mB none by decide)]
      rw [show fl (none : Option Nat).isSome = nI 0 from rfl, iz_eqt rfl]
      obtain ⟨sl, K1, s1, bg1, a1, a2, -, a3, a4⟩ := night (N := N) hY.1 hY.2.1 hN (drw_6 z i) (show nt < 10000 by omega) hok hbg
      obtain ⟨fS1, fG1, e1⟩ := a3 fS fG
      obtain ⟨nw1, fr1, to1, hS1, e2⟩ := a4 nw fr to hS
      rw [e1, e2]
      simp only [ob, nI_add]
      exact ih (i + 1) f g K1 s1 (nt + 1) bg1 fS1 fG1 nw1 fr1 to1 (by omega) (by omega) (by omega) (by omega) a1 a2 hS1
theorem p_year {R C n q N s nt : Nat} {d : Nat → Nat} {bes damps told nk now tk fS fG fr to aside : Nat → Int32} {bg : Option Nat} {ts tn tb : Int32} (hY : yAll R C n q d bes damps told) (hS : scR n nk s nt bg now) (hN : 100000 ≤ N) (p1 p2 : Int32) :
    ∃ r ts' tn' tb' tk' fS' fG' aside' now' fr' to', fX7_year N p1 p2 ts tn tb (nI s) (nI nt) (oI bg) nk tk (nI C) (nI n) fS bes fG = some (r, ts', tn', tb', tk', fS', fG') ∧ fX8_year N p1 p2 aside now told fr to = some (r, aside', now', fr', to') ∧ eq28 now' now := by
  have h25 := hY.1.1.n25
  have bad : ∃ r ts' tn' tb' tk' fS' fG' aside' now' fr' to', some ((-1 : Int32), ts, tn, tb, tk, fS, fG) = some (r, ts', tn', tb', tk', fS', fG') ∧ some ((-1 : Int32), aside, now, fr, to) = some (r, aside', now', fr', to') ∧ eq28 now' now := ⟨_, _, _, _, _, _, _, _, _, _, _, rfl, rfl, fun _ _ => rfl⟩
  rw [fX7_year_e, fX8_year_e]
  rcases nI_S p1 9999 (by omega) with hq | hq | ⟨z, hz, rfl⟩
  · rw [if_pos hq, mo_inN (by omega) (by omega) hq]
    simp only [ob]
    rw [iz_eqt rfl]
    exact bad
  · have h9 : nI 9999 < p1 := by
      rw [Int32.le_iff_toInt_le, nI_toInt (by omega)] at hq
      rw [Int32.lt_iff_toInt_lt, nI_toInt (by omega)]
      omega
    rw [if_neg (big_nlt0 (by omega) hq), if_pos h9, mo_inB (by omega) (by omega) hq]
    simp only [ob]
    rw [iz_eqt rfl]
    exact bad
  · rw [iz_lt (by omega), ilt_f (by omega) (by omega), mo_inY (by omega) (by omega) hz]
    simp only [ob]
    rw [iz_eqf (by omega) (by omega)]
    rcases nI_S p2 1 (by omega) with hq | hq | ⟨k, hk, rfl⟩
    · rw [if_pos hq, mo_inN (by omega) (by omega) hq]
      simp only [ob]
      rw [iz_eqt rfl]
      exact bad
    · rw [if_neg (big_nlt0 (by omega) hq), if_neg (big_nle (by omega) (by omega) hq), mo_inB (by omega) (by omega) hq]
      simp only [ob]
      rw [iz_eqt rfl]
      exact bad
    · rw [iz_lt (by omega), ile_t (by omega) (by omega), mo_inY (by omega) (by omega) hk]
      simp only [ob]
      rw [iz_eqf (by omega) (by omega)]
      obtain ⟨hm, hok, hnt, hbg⟩ := hS
      obtain ⟨as, ha, e3⟩ := mo_asides (N := N) (aside := aside) (now := now) (by omega)
      obtain ⟨v', ts', tn', tb', tk', fS', fG', nw', fr', to', h1, h2, h3⟩ := yr_loop (N := N) (o25 := as) (p2 := nI k) hY hN hz (by rcases (show k = 0 ∨ k = 1 by omega) with rfl | rfl; exact Or.inl rfl; exact Or.inr rfl) 30 0 N N (va_cpy nk tk 0 0 25) s nt bg fS fG now fr to (by omega) (by omega) (by omega) (by omega) (okSc_K hok (by omega) (fun y hy => cpy25 hy)) hbg (mSc_K hm (fun y hy => cpy25 hy))
      refine ⟨v', ts', tn', tb', tk', fS', fG', as, nw', fr', to', ?_, ?_, fun z hz => (h1 z hz).trans (ha z hz)⟩
      · rw [fX3_become_e]
        simp only [ob]
        exact h2
      · rw [e3]
        simp only [ob]
        exact h3
