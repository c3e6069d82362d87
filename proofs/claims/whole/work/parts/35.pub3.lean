/-! ===== write, wipe, seen, forget, count ===== -/
def tR (L : Nat) (tx mx : Nat → Int32) : Prop := L ≤ 200 ∧ ∀ i, i < L → tx i = mx i
theorem p_write {N L : Nat} {tx mx : Nat → Int32} (h : tR L tx mx) (p1 : Int32) : ∃ r L' tx' mx', tR L' tx' mx' ∧ fX7_write N p1 (nI L) tx = some (r, nI L', tx') ∧ fX8_write N (nI L) p1 mx = some (r, nI L', mx') := by
  obtain ⟨h1, h2⟩ := h
  rw [fX7_write_e, fX8_write_e, mo_in p1 (by omega) (by omega)]
  simp only [ob]
  have hb : ∀ r0 : Int32, ∃ r L' tx' mx', tR L' tx' mx' ∧ some (r0, nI L, tx) = some (r, nI L', tx') ∧ some (r0, nI L, mx) = some (r, nI L', mx') := fun r0 => ⟨r0, L, tx, mx, ⟨h1, h2⟩, rfl, rfl⟩
  have e1 : p1 < nI 32 ↔ p1.toInt < 32 := by rw [Int32.lt_iff_toInt_lt, nI_toInt (by omega)]; rfl
  have e2 : p1 ≤ nI 126 ↔ p1.toInt ≤ 126 := by rw [Int32.le_iff_toInt_le, nI_toInt (by omega)]; rfl
  by_cases a : p1 < nI 32
  · have := e1.mp a
    rw [if_pos a, if_neg (show ¬ (((32 : Nat) : Int) ≤ p1.toInt ∧ p1.toInt ≤ ((126 : Nat) : Int)) by omega), iz_eqt rfl]
    exact hb _
  · have ha : ¬ p1.toInt < 32 := fun q => a (e1.mpr q)
    rw [if_neg a]
    by_cases b : p1 ≤ nI 126
    · have := e2.mp b
      rw [if_pos b, if_pos (show (((32 : Nat) : Int) ≤ p1.toInt ∧ p1.toInt ≤ ((126 : Nat) : Int)) by omega), iz_eqf (by omega) (by omega), fX0_add_e]
      by_cases hL : L < 200
      · refine ⟨nI (L + 1), L + 1, upd tx L p1, upd mx L p1, ⟨by omega, fun i hi => ?_⟩, ?_, ?_⟩
        · by_cases hiL : i = L
          · subst hiL; rw [upd_s, upd_s]
          · rw [upd_n hiL, upd_n hiL]; exact h2 i (by omega)
        · simp (disch := omega) only [gu, gu2, ile_t, ile_f, ilt_t, ilt_f, ieq_t, ieq_f, iz_lt, iz_eqt, iz_eqf, iz_le, im_eqf, im_eqt, im_lt, ob, nI_add, pk_mul, nI_clamp, if_true, if_false]
        · simp (disch := omega) only [gu, gu2, ile_t, ile_f, ilt_t, ilt_f, ieq_t, ieq_f, iz_lt, iz_eqt, iz_eqf, iz_le, im_eqf, im_eqt, im_lt, ob, nI_add, pk_mul, nI_clamp, if_true, if_false]
      · have : L = 200 := by omega
        subst this
        simp (disch := omega) only [gu, gu2, ile_t, ile_f, ilt_t, ilt_f, ieq_t, ieq_f, iz_lt, iz_eqt, iz_eqf, iz_le, im_eqf, im_eqt, im_lt, ob, nI_add, pk_mul, nI_clamp, if_true, if_false]
        exact hb _
    · have hb' : ¬ p1.toInt ≤ 126 := fun q => b (e2.mpr q)
      rw [if_neg b, if_neg (show ¬ (((32 : Nat) : Int) ≤ p1.toInt ∧ p1.toInt ≤ ((126 : Nat) : Int)) by omega), iz_eqt rfl]
      exact hb _
theorem p_seen {R C n N u : Nat} {told sp sn mc mn : Nat → Int32} (hY : mYd R C n told) (hu : u ≤ 8) (hs : ∀ i, i < u → sp i = mc i ∧ sn i = mn i) (p1 p2 : Int32) : ∃ r u' sp' sn' mc' mn', u' ≤ 8 ∧ (∀ i, i < u' → sp' i = mc' i ∧ sn' i = mn' i) ∧ fX7_seen N p1 p2 (nI n) (nI u) sp sn = some (r, nI u', sp', sn') ∧ fX8_seen N (nI u) p1 p2 told mc mn = some (r, nI u', mc', mn') := by
  rw [fX7_seen_e, fX8_seen_e]
  have hb : ∀ r0 : Int32, ∃ r u' sp' sn' mc' mn', u' ≤ 8 ∧ (∀ i, i < u' → sp' i = mc' i ∧ sn' i = mn' i) ∧ some (r0, nI u, sp, sn) = some (r, nI u', sp', sn') ∧ some (r0, nI u, mc, mn) = some (r, nI u', mc', mn') := fun r0 => ⟨r0, u, sp, sn, mc, mn, hu, hs, rfl, rfl⟩
  rcases isC (N := N) hY p1 with ⟨h1, h2⟩ | ⟨x, hx, rfl, h1, h2⟩
  · rw [h1, h2]
    simp only [ob]
    rw [iz_eqt rfl, iz_eqt rfl]
    exact hb _
  · rw [h1, h2]
    simp only [ob]
    rw [iz_eqf (by omega) (by omega), iz_eqf (by omega) (by omega)]
    rcases nI_S p2 30 (by omega) with hq | hq | ⟨j, hj, rfl⟩
    · rw [if_pos hq, mo_inN (by omega) (by omega) hq]
      simp only [ob]
      rw [iz_eqt rfl]
      exact hb _
    · rw [if_neg (big_nlt0 (by omega) hq), if_neg (big_nle (by omega) (by omega) hq), mo_inB (by omega) (by omega) hq]
      simp only [ob]
      rw [iz_eqt rfl]
      exact hb _
    · rw [mo_inY (by omega) (by omega) hj, fX4_add_e]
      by_cases hu8 : u < 8
      · refine ⟨nI (u + 1), u + 1, upd sp u (nI x), upd sn u (nI j), upd mc u (nI x), upd mn u (nI j), by omega, fun i hi => ?_, ?_, ?_⟩
        · by_cases hiu : i = u
          · subst hiu; rw [upd_s, upd_s, upd_s, upd_s]; exact ⟨rfl, rfl⟩
          · rw [upd_n hiu, upd_n hiu, upd_n hiu, upd_n hiu]; exact hs i (by omega)
        · simp (disch := omega) only [gu, gu2, ile_t, ile_f, ilt_t, ilt_f, ieq_t, ieq_f, iz_lt, iz_eqt, iz_eqf, iz_le, im_eqf, im_eqt, im_lt, ob, nI_add, pk_mul, nI_clamp, if_true, if_false]
        · simp (disch := omega) only [gu, gu2, ile_t, ile_f, ilt_t, ilt_f, ieq_t, ieq_f, iz_lt, iz_eqt, iz_eqf, iz_le, im_eqf, im_eqt, im_lt, ob, nI_add, pk_mul, nI_clamp, if_true, if_false]
      · have : u = 8 := by omega
        subst this
        simp (disch := omega) only [gu, gu2, ile_t, ile_f, ilt_t, ilt_f, ieq_t, ieq_f, iz_lt, iz_eqt, iz_eqf, iz_le, im_eqf, im_eqt, im_lt, ob, nI_add, pk_mul, nI_clamp, if_true, if_false]
        exact hb _
theorem bothS {x : Option Int32} (h : x.isSome = true) : ∃ r, x = some r ∧ x = some r := by
  cases x with
  | none => cases h
  | some r => exact ⟨r, rfl, rfl⟩
theorem issI {c : Prop} [Decidable c] {a : Int32} {x : Option Int32} (h : x.isSome = true) : (if c then some a else x).isSome = true := by
  split
  · rfl
  · exact h
theorem p_count {R C n q N s nt st nr nh u k se L : Nat} {d rn ra hs : Nat → Nat} {yk ycol bes damps yrn yr yh told nk now : Nat → Int32} {bg : Option Nat} (hR : yR R C n q d st nr rn ra nh hs yk ycol bes damps yrn yr yh told) (hS : scR n nk s nt bg now) (hN : 100000 ≤ N) (p1 : Int32) :
    ∃ r, fX7_count N p1 (nI C) (nI n) (nI nr) (nI nh) (nI s) (nI nt) nk (nI se) (nI u) (nI k) (nI L) = some r ∧ fX8_count N (nI L) (nI u) (nI se) (nI k) p1 told now = some r := by
  have hY := hR.1.1
  have h25 := hY.1.n25
  rw [fX7_count_e, fX8_count_e, mo_cells hY, hY.2.2, hS.1.1, hS.1.2.1, hR.2.2.2.1.1, hR.2.2.2.2.1.1]
  rw [cl_count (by omega) (by omega), cl_count (by omega) (by omega), cl_count (by omega) (by omega), mo_many hY hS.1.2.2.2 (by omega), mo_many hY hS.1.2.2.2 (by omega), mo_many hY hS.1.2.2.2 (by omega)]
  simp only [ob]
  exact bothS (issI (issI (issI (issI (issI (issI (issI (issI (issI (issI (issI (issI (issI rfl)))))))))))))
/-! ===== what would be ===== -/
theorem tillS {R C n q N s nt : Nat} {d : Nat → Nat} {bes damps told K : Nat → Int32} {bg : Option Nat} (hY : yAll R C n q d bes damps told) (hok : okSc n K s) (hnt : nt ≤ 9000) (hbg : okBg bg) (hN : 100000 ≤ N) :
    ∃ (r : Option Nat) (K' : Nat → Int32) (s' nt' : Nat) (bg' : Option Nat), (∀ k, r = some k → k ≤ 30) ∧
      (∀ fS fG : Nat → Int32, ∃ fS' fG', fX7_nightsTillBegun N (nI s) (nI nt) (oI bg) (nI C) (nI n) (nI q) damps fS bes K fG = some (oI r, nI s', nI nt', oI bg', fS', K', fG')) ∧
      (∀ now fr to : Nat → Int32, mSc K s nt bg now → ∃ now' fr' to', fX8_beginsSo N now told fr to = some (oI r, mB bg', nI s', now', fr', to')) := by
  obtain ⟨r, K', s', nt', bg', a1, a2, a3, a4, a5, a6, a7⟩ := till (N := N) hY hN 30 0 K s nt bg (by omega) (by omega) hok hbg
  refine ⟨r, K', s', nt', bg', a3, fun fS fG => ?_, fun now fr to hS => ?_⟩
  · obtain ⟨fS', fG', e⟩ := a6 fS fG N (by omega)
    exact ⟨fS', fG', by rw [fX7_nightsTillBegun_e, e]⟩
  · obtain ⟨now', fr', to', _, e⟩ := a7 now fr to N hS (by omega)
    exact ⟨now', fr', to', by rw [fX8_beginsSo_e, e]⟩
theorem scR_cpy {n s nt x : Nat} {nk tk now : Nat → Int32} {bg : Option Nat} {k : Int32} (hn : n ≤ 25) (hS : scR n nk s nt bg now) (hx : x < 25) (hk : x = s → wk k < 1000) : scR n (upd (va_cpy nk tk 0 0 25) x k) s nt bg (upd now (3 + x) k) :=
  scR_eq hn (scR_set hn hS hx hk) (fun y hy => by
    by_cases h : y = x
    · subst h; rw [upd_s, upd_s]
    · rw [upd_n h, upd_n h, cpy25 hy]) (fun _ _ => rfl)
theorem eq28_upd {a b : Nat → Int32} {i : Nat} {v : Int32} (h : eq28 a b) : eq28 (upd a i v) (upd b i v) := fun j hj => by
  by_cases e : j = i
  · subst e; rw [upd_s, upd_s]
  · rw [upd_n e, upd_n e]; exact h j hj
theorem or_zero (x : Int32) : x ||| nI 0 = x := by
  show x ||| 0 = x
  exact Int32.or_zero
theorem dec_loop {R C n q N s nt : Nat} {d : Nat → Nat} {bes damps told nk now : Nat → Int32} {bg : Option Nat} {o16 : Int32 × Int32 × Int32 × Int32 × (Nat → Int32) × (Nat → Int32) × (Nat → Int32)} {o1 : Int32 × Int32 × Int32 × (Nat → Int32) × (Nat → Int32) × (Nat → Int32) × (Nat → Int32)} (hY : yAll R C n q d bes damps told) (hS : scR n nk s nt bg now) (hN : 100000 ≤ N) (ho : o16.1 = o1.1) : ∀ (j i fc fm : Nat) (v ts tn tb bo bi : Int32) (tk fS fG as nw fr to : Nat → Int32), i + j = n → j < fc → j < fm → eq28 nw now →
    ∃ v' ts' tn' tb' tk' fS' fG' bo' bi' as' nw' fr' to', eq28 nw' now ∧ fX7_decides_24 N (nI s) (nI nt) (oI bg) nk (nI C) (nI n) (nI q) damps bes o16 fc v (nI i) ts tn tb tk fS fG = some (v', ts', tn', tb', tk', fS', fG') ∧ fX8_decides_9 N told o1 fm v (nI i) bo bi as nw fr to = some (v', bo', bi', as', nw', fr', to') := by
  have h25 := hY.1.1.n25
  intro j
  induction j with
  | zero =>
    intro i fc fm v ts tn tb bo bi tk fS fG as nw fr to hi hfc hfm he
    obtain ⟨f, rfl⟩ : ∃ f, fc = f + 1 := ⟨fc - 1, by omega⟩
    obtain ⟨g, rfl⟩ : ∃ g, fm = g + 1 := ⟨fm - 1, by omega⟩
    refine ⟨v, ts, tn, tb, tk, fS, fG, bo, bi, as, nw, fr, to, he, ?_, ?_⟩
    · rw [fX7_decides_24_s]
      simp (disch := omega) only [gu, gu2, ile_t, ile_f, ilt_t, ilt_f, ieq_t, ieq_f, iz_lt, iz_eqt, iz_eqf, iz_le, im_eqf, im_eqt, im_lt, ob, nI_add, pk_mul, nI_clamp, if_true, if_false]
    · rw [fX8_decides_9_s, mo_cells hY.1]
      simp (disch := omega) only [gu, gu2, ile_t, ile_f, ilt_t, ilt_f, ieq_t, ieq_f, iz_lt, iz_eqt, iz_eqf, iz_le, im_eqf, im_eqt, im_lt, ob, nI_add, pk_mul, nI_clamp, if_true, if_false]
  | succ j ih =>
    intro i fc fm v ts tn tb bo bi tk fS fG as nw fr to hi hfc hfm he
    obtain ⟨f, rfl⟩ : ∃ f, fc = f + 1 := ⟨fc - 1, by omega⟩
    obtain ⟨g, rfl⟩ : ∃ g, fm = g + 1 := ⟨fm - 1, by omega⟩
    have hS2 := scR_eq (by omega) hS (fun y _ => rfl) he
    rw [fX7_decides_24_s, fX8_decides_9_s, mo_cells hY.1, cl_kindAt (show i < 25 by omega), mo_kind hS2.1.2.2.2 (show i < 25 by omega)]
    simp (disch := omega) only [gu, gu2, ile_t, ile_f, ilt_t, ilt_f, ieq_t, ieq_f, iz_lt, iz_eqt, iz_eqf, iz_le, im_eqf, im_eqt, im_lt, ob, nI_add, pk_mul, nI_clamp, if_true, if_false]
    by_cases h1 : nk i = nI 1
    · rw [if_pos h1, if_pos h1, fX3_become_e]
      simp only [ob]
      rw [cl_setKind (show i < 25 by omega)]
      simp only [ob]
      have hS3 := scR_cpy (tk := tk) (k := nI 0) (x := i) (by omega) hS2 (by omega) (fun _ => by decide)
      obtain ⟨r, K', s', nt', bg', a1, a2, a3⟩ := tillS (N := N) (nt := nt) (bg := bg) hY hS3.2.1 (by have := hS.2.2.1; omega) hS.2.2.2 hN
      obtain ⟨fS1, fG1, e1⟩ := a2 fS fG
      obtain ⟨now1, fr1, to1, e2⟩ := a3 (upd nw (3 + i) (nI 0)) fr to hS3.1
      obtain ⟨as1, ha, e3⟩ := mo_asides (N := N) (aside := as) (now := nw) (by omega)
      obtain ⟨nb1, hb, e4⟩ := mo_backs (N := N) (aside := as1) (now := now1) (by omega)
      rw [e1, e2, e3]
      simp only [ob]
      have hnb : eq28 nb1 now := fun z hz => (hb z hz).trans ((ha z hz).trans (he z hz))
      rw [ho]
      by_cases hq : oI r = o1.1
      · rw [if_pos hq, if_pos hq, fX8_decides_55_e, e4]
        simp only [ob]
        rw [or_zero, nI_add]
        exact ih (i + 1) f g v _ _ _ _ _ _ _ _ _ nb1 _ _ (by omega) (by omega) (by omega) hnb
      · rw [if_neg hq, if_neg hq, fX8_decides_55_e, e4]
        simp only [ob]
        rw [nI_add]
        exact ih (i + 1) f g _ _ _ _ _ _ _ _ _ _ nb1 _ _ (by omega) (by omega) (by omega) hnb
    · rw [if_neg h1, if_neg h1]
      exact ih (i + 1) f g v _ _ _ _ _ _ _ _ _ nw _ _ (by omega) (by omega) (by omega) he
theorem p_decides {R C n q N s nt : Nat} {d : Nat → Nat} {bes damps told nk now tk fS fG fr to aside : Nat → Int32} {bg : Option Nat} (hY : yAll R C n q d bes damps told) (hS : scR n nk s nt bg now) (hN : 100000 ≤ N) :
    ∃ r ts' tn' tb' tk' fS' fG' bo bi aside' now' fr' to', fX7_decides N (nI s) (nI nt) (oI bg) nk tk (nI C) (nI n) (nI q) damps fS bes fG = some (r, ts', tn', tb', tk', fS', fG') ∧ fX8_decides N aside now told fr to = some (r, bo, bi, aside', now', fr', to') ∧ eq28 now' now := by
  have h25 := hY.1.1.n25
  obtain ⟨hm, hok, hnt, hbg⟩ := id hS
  obtain ⟨r, tk', s', nt', bg', fS', fG', aside', now', fr', to', -, -, -, -, e1, e2, he⟩ := beg (N := N) (tk := tk) (fS := fS) (fG := fG) (fr := fr) (to := to) (aside := aside) hY hm hok (by omega) hbg hN
  obtain ⟨v', ts2, tn2, tb2, tk2, fS2, fG2, bo2, bi2, as2, nw2, fr2, to2, h1, h2, h3⟩ := dec_loop (N := N) (o16 := (oI r, nI s', nI nt', oI bg', fS', tk', fG')) (o1 := (oI r, mB bg', nI s', aside', now', fr', to')) hY hS hN rfl n 0 N N (nI 0) (nI s') (nI nt') (oI bg') (mB bg') (nI s') tk' fS' fG' aside' now' fr' to' (by omega) (by omega) (by omega) he
  refine ⟨v', ts2, tn2, tb2, tk2, fS2, fG2, bo2, bi2, as2, nw2, fr2, to2, ?_, ?_, h1⟩
  · rw [fX7_decides_e, fX3_become_e]
    simp only [ob]
    rw [e1]
    simp only [ob]
    exact h2
  · rw [fX8_decides_e, e2]
    simp only [ob]
    exact h3
theorem oI_le {a b : Option Nat} (ha : ∀ k, a = some k → k ≤ 30) (hb : ∀ k, b = some k → k ≤ 30) : oI a ≤ oI b ↔ ¬ (∃ k, a = some k ∧ ∀ l, b = some l → l < k) := by
  cases a with
  | none =>
    constructor
    · intro _ ⟨k, hk, _⟩; cases hk
    · intro _
      cases b with
      | none => decide
      | some l =>
        have := hb l rfl
        show (-4 : Int32) ≤ nI l
        rw [Int32.le_iff_toInt_le, nI_toInt (by omega), show (-4 : Int32).toInt = -4 by decide]
        omega
  | some k =>
    have hk := ha k rfl
    cases b with
    | none =>
      constructor
      · intro h
        exfalso
        have h : nI k ≤ (-4 : Int32) := h
        rw [Int32.le_iff_toInt_le, nI_toInt (by omega), show (-4 : Int32).toInt = -4 by decide] at h
        omega
      · intro h; exact absurd ⟨k, rfl, fun l hl => by cases hl⟩ h
    | some l =>
      have hl := hb l rfl
      show nI k ≤ nI l ↔ _
      rw [nI_leI (by omega) (by omega)]
      constructor
      · intro h ⟨k', hk', q⟩
        cases hk'
        have := q l rfl
        omega
      · intro h
        rcases Nat.lt_or_ge l k with h2 | h2
        · exact absurd ⟨k, rfl, fun l' hl' => by cases hl'; exact h2⟩ h
        · exact h2
theorem lat_loop {R C n q N s nt : Nat} {d : Nat → Nat} {bes damps told nk now as : Nat → Int32} {bg : Option Nat} {p1 : Int32} (hY : yAll R C n q d bes damps told) (hS : scR n nk s nt bg now) (hN : 100000 ≤ N) (has : eq28 as now) : ∀ (j i fc fm : Nat) (most place : Option Nat) (ts tn tb bo bi : Int32) (tk fS fG nw fr to : Nat → Int32), i + j = n → j < fc → j < fm → eq28 nw now → (∀ k, most = some k → k ≤ 30) →
    ∃ v' ts' tn' tb' tk' fS' fG' bo' bi' nw' fr' to', eq28 nw' now ∧ fX7_latest_20 N p1 (nI C) (nI n) (nI q) (nI s) (nI nt) (oI bg) nk damps bes fc (oI most) (oI place) (nI i) ts tn tb tk fS fG = some (v', ts', tn', tb', tk', fS', fG') ∧ fX8_latest_25 N p1 told as fm (oI place) (oI most) (nI i) bo bi nw fr to = some (v', bo', bi', as, nw', fr', to') := by
  have h25 := hY.1.1.n25
  have hsn := hS.2.1.1
  intro j
  induction j with
  | zero =>
    intro i fc fm most place ts tn tb bo bi tk fS fG nw fr to hi hfc hfm he hmo
    obtain ⟨f, rfl⟩ : ∃ f, fc = f + 1 := ⟨fc - 1, by omega⟩
    obtain ⟨g, rfl⟩ : ∃ g, fm = g + 1 := ⟨fm - 1, by omega⟩
    rw [fX7_latest_20_s, fX8_latest_25_s, mo_cells hY.1]
    simp (disch := omega) only [gu, gu2, ile_t, ile_f, ilt_t, ilt_f, ieq_t, ieq_f, iz_lt, iz_eqt, iz_eqf, iz_le, im_eqf, im_eqt, im_lt, ob, nI_add, pk_mul, nI_clamp, if_true, if_false]
    by_cases hp : p1 = 0
    · rw [if_pos hp, if_pos hp]
      exact ⟨_, _, _, _, _, _, _, _, _, _, _, _, he, rfl, rfl⟩
    · rw [if_neg hp, if_neg hp]
      exact ⟨_, _, _, _, _, _, _, _, _, _, _, _, he, rfl, rfl⟩
  | succ j ih =>
    intro i fc fm most place ts tn tb bo bi tk fS fG nw fr to hi hfc hfm he hmo
    obtain ⟨f, rfl⟩ : ∃ f, fc = f + 1 := ⟨fc - 1, by omega⟩
    obtain ⟨g, rfl⟩ : ∃ g, fm = g + 1 := ⟨fm - 1, by omega⟩
    have hS2 := scR_eq (by omega) hS (fun y _ => rfl) he
    have hfr := free (N := N) (x := i) (s := s) (K := nk) (now := nw) (by omega) (by omega) hS2.1.2.2.2 hS2.1.2.1
    rw [fX7_latest_20_s, fX8_latest_25_s, mo_cells hY.1, hfr.1, hfr.2]
    simp (disch := omega) only [gu, gu2, ile_t, ile_f, ilt_t, ilt_f, ieq_t, ieq_f, iz_lt, iz_eqt, iz_eqf, iz_le, im_eqf, im_eqt, im_lt, ob, nI_add, pk_mul, nI_clamp, if_true, if_false]
    by_cases hfree : nk i = 0 ∧ i ≠ s
    · have hfl : fl (decide (nk i = 0) && decide (i ≠ s)) = nI 1 := by simp [hfree.1, hfree.2, fl]
      rw [hfl, fX3_become_e]
      simp (disch := omega) only [gu, gu2, ile_t, ile_f, ilt_t, ilt_f, ieq_t, ieq_f, iz_lt, iz_eqt, iz_eqf, iz_le, im_eqf, im_eqt, im_lt, ob, nI_add, pk_mul, nI_clamp, if_true, if_false]
      rw [cl_setKind (show i < 25 by omega)]
      simp only [ob]
      have hS3 := scR_cpy (tk := tk) (k := nI 2) (x := i) (by omega) hS2 (by omega) (fun e => absurd e hfree.2)
      obtain ⟨r, K', s', nt', bg', a1, a2, a3⟩ := tillS (N := N) (nt := nt) (bg := bg) hY hS3.2.1 (by have := hS.2.2.1; omega) hS.2.2.2 hN
      obtain ⟨fS1, fG1, e1⟩ := a2 fS fG
      obtain ⟨now1, fr1, to1, e2⟩ := a3 (upd nw (3 + i) (nI 2)) fr to hS3.1
      obtain ⟨nb1, hb, e4⟩ := mo_backs (N := N) (aside := as) (now := now1) (by omega)
      rw [e1, e2]
      simp only [ob]
      rw [e4]
      simp only [ob]
      have hnb : eq28 nb1 now := fun z hz => (hb z hz).trans (has z hz)
      have hle := oI_le a1 hmo
      by_cases hq : ∃ k, r = some k ∧ ∀ l, most = some l → l < k
      · rw [if_neg (fun h => (hle.mp h) hq)]
        obtain ⟨k, rfl, hk⟩ := hq
        have hk30 := a1 k rfl
        have key : fX8_latest_82 (oI place) (oI most) (nI i) (oI (some k), mB bg', nI s', now1, fr1, to1) nb1 (fX8_latest_25 N p1 told as g) = fX8_latest_25 N p1 told as g (oI (some i)) (oI (some k)) (nI (i + 1)) (mB bg') (nI s') nb1 fr1 to1 := by
          rw [fX8_latest_82_e, fX8_latest_87_e]
          simp (disch := omega) only [gu, gu2, ile_t, ile_f, ilt_t, ilt_f, ieq_t, ieq_f, iz_lt, iz_eqt, iz_eqf, iz_le, im_eqf, im_eqt, im_lt, ob, nI_add, pk_mul, nI_clamp, if_true, if_false]
          rw [fX8_latest_100_e]
          simp (disch := omega) only [gu, gu2, ile_t, ile_f, ilt_t, ilt_f, ieq_t, ieq_f, iz_lt, iz_eqt, iz_eqf, iz_le, im_eqf, im_eqt, im_lt, ob, nI_add, pk_mul, nI_clamp, if_true, if_false]
          rfl
        have hm : (if oI (some k) = (-4 : Int32) then fX8_latest_86 (oI place) (oI most) (nI i) (oI (some k), mB bg', nI s', now1, fr1, to1) nb1 (fX8_latest_25 N p1 told as g) else if oI most = (-4 : Int32) then fX8_latest_82 (oI place) (oI most) (nI i) (oI (some k), mB bg', nI s', now1, fr1, to1) nb1 (fX8_latest_25 N p1 told as g) else if oI (some k) ≤ oI most then fX8_latest_86 (oI place) (oI most) (nI i) (oI (some k), mB bg', nI s', now1, fr1, to1) nb1 (fX8_latest_25 N p1 told as g) else fX8_latest_82 (oI place) (oI most) (nI i) (oI (some k), mB bg', nI s', now1, fr1, to1) nb1 (fX8_latest_25 N p1 told as g)) = fX8_latest_82 (oI place) (oI most) (nI i) (oI (some k), mB bg', nI s', now1, fr1, to1) nb1 (fX8_latest_25 N p1 told as g) := by
          rw [if_neg (show ¬ oI (some k) = (-4 : Int32) from nI_m4 (by omega)), if_neg (fun h => (hle.mp h) ⟨k, rfl, hk⟩)]
          split <;> rfl
        rw [hm, key]
        exact ih (i + 1) f g (some k) (some i) _ _ _ _ _ _ _ _ nb1 _ _ (by omega) (by omega) (by omega) hnb (fun l hl => by cases hl; exact hk30)
      · rw [if_pos (hle.mpr hq)]
        have key : fX8_latest_86 (oI place) (oI most) (nI i) (oI r, mB bg', nI s', now1, fr1, to1) nb1 (fX8_latest_25 N p1 told as g) = fX8_latest_25 N p1 told as g (oI place) (oI most) (nI (i + 1)) (mB bg') (nI s') nb1 fr1 to1 := by
          rw [fX8_latest_86_e, fX8_latest_87_e]
          simp (disch := omega) only [gu, gu2, ile_t, ile_f, ilt_t, ilt_f, ieq_t, ieq_f, iz_lt, iz_eqt, iz_eqf, iz_le, im_eqf, im_eqt, im_lt, ob, nI_add, pk_mul, nI_clamp, if_true, if_false]
          rw [fX8_latest_100_e]
          simp (disch := omega) only [gu, gu2, ile_t, ile_f, ilt_t, ilt_f, ieq_t, ieq_f, iz_lt, iz_eqt, iz_eqf, iz_le, im_eqf, im_eqt, im_lt, ob, nI_add, pk_mul, nI_clamp, if_true, if_false]
        have hm : (if oI r = (-4 : Int32) then fX8_latest_86 (oI place) (oI most) (nI i) (oI r, mB bg', nI s', now1, fr1, to1) nb1 (fX8_latest_25 N p1 told as g) else if oI most = (-4 : Int32) then fX8_latest_82 (oI place) (oI most) (nI i) (oI r, mB bg', nI s', now1, fr1, to1) nb1 (fX8_latest_25 N p1 told as g) else if oI r ≤ oI most then fX8_latest_86 (oI place) (oI most) (nI i) (oI r, mB bg', nI s', now1, fr1, to1) nb1 (fX8_latest_25 N p1 told as g) else fX8_latest_82 (oI place) (oI most) (nI i) (oI r, mB bg', nI s', now1, fr1, to1) nb1 (fX8_latest_25 N p1 told as g)) = fX8_latest_86 (oI place) (oI most) (nI i) (oI r, mB bg', nI s', now1, fr1, to1) nb1 (fX8_latest_25 N p1 told as g) := by
          rw [if_pos (hle.mpr hq)]
          split
          · rfl
          · rename_i hr
            split
            · rename_i hmo4
              exfalso
              cases r with
              | none => exact hr rfl
              | some k =>
                cases most with
                | none => exact hq ⟨k, rfl, fun l hl => by cases hl⟩
                | some l => exact nI_m4 (show l < 2147483648 by have := hmo l rfl; omega) hmo4
            · rfl
        rw [hm, key]
        exact ih (i + 1) f g most place _ _ _ _ _ _ _ _ nb1 _ _ (by omega) (by omega) (by omega) hnb hmo
    · have hfl : fl (decide (nk i = 0) && decide (i ≠ s)) = nI 0 := by
        by_cases h1 : nk i = 0
        · have h2 : i = s := Classical.byContradiction fun h => hfree ⟨h1, h⟩
          simp [h2, fl]
        · simp [h1, fl]
      rw [hfl, iz_eqt rfl, iz_eqt rfl]
      exact ih (i + 1) f g most place _ _ _ _ _ _ _ _ nw _ _ (by omega) (by omega) (by omega) he hmo
theorem p_latest {R C n q N s nt : Nat} {d : Nat → Nat} {bes damps told nk now tk fS fG fr to aside : Nat → Int32} {bg : Option Nat} {ts tn tb bo bi : Int32} (hY : yAll R C n q d bes damps told) (hS : scR n nk s nt bg now) (hN : 100000 ≤ N) (p1 : Int32) :
    ∃ r ts' tn' tb' tk' fS' fG' bo' bi' aside' now' fr' to', fX7_latest N p1 (nI C) (nI n) (nI q) (nI s) (nI nt) (oI bg) nk ts tn tb tk damps fS bes fG = some (r, ts', tn', tb', tk', fS', fG') ∧ fX8_latest N bo bi p1 aside now told fr to = some (r, bo', bi', aside', now', fr', to') ∧ eq28 now' now := by
  have h25 := hY.1.1.n25
  rw [fX7_latest_e, fX8_latest_e]
  rcases nI_S p1 1 (by omega) with hq | hq | ⟨j, hj, rfl⟩
  · refine ⟨-1, ts, tn, tb, tk, fS, fG, bo, bi, aside, now, fr, to, by rw [if_pos hq], ?_, fun _ _ => rfl⟩
    rw [mo_inN (by omega) (by omega) hq]
    simp only [ob]
    rw [iz_eqt rfl]
  · refine ⟨-1, ts, tn, tb, tk, fS, fG, bo, bi, aside, now, fr, to, by rw [if_neg (big_nlt0 (by omega) hq), if_neg (big_nle (by omega) (by omega) hq)], ?_, fun _ _ => rfl⟩
    rw [mo_inB (by omega) (by omega) hq]
    simp only [ob]
    rw [iz_eqt rfl]
  · obtain ⟨as, ha, e3⟩ := mo_asides (N := N) (aside := aside) (now := now) (by omega)
    obtain ⟨v', ts', tn', tb', tk', fS', fG', bo', bi', nw', fr', to', h1, h2, h3⟩ := lat_loop (N := N) (p1 := nI j) hY hS hN ha n 0 N N none none ts tn tb bo bi tk fS fG now fr to (by omega) (by omega) (by omega) (fun _ _ => rfl) (fun k hk => by cases hk)
    refine ⟨v', ts', tn', tb', tk', fS', fG', bo', bi', as, nw', fr', to', ?_, ?_, h1⟩
    · simp (disch := omega) only [gu, gu2, ile_t, ile_f, ilt_t, ilt_f, ieq_t, ieq_f, iz_lt, iz_eqt, iz_eqf, iz_le, im_eqf, im_eqt, im_lt, ob, nI_add, pk_mul, nI_clamp, if_true, if_false]
      exact h2
    · rw [mo_inY (by omega) (by omega) hj, e3]
      simp (disch := omega) only [gu, gu2, ile_t, ile_f, ilt_t, ilt_f, ieq_t, ieq_f, iz_lt, iz_eqt, iz_eqf, iz_le, im_eqf, im_eqt, im_lt, ob, nI_add, pk_mul, nI_clamp, if_true, if_false]
      exact h3
