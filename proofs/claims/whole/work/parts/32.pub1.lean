/-! ===== where, begins, due, heir ===== -/
/-- what the text tells besides: start, rents, heirs, kinds -/
def yR (R C n q : Nat) (d : Nat → Nat) (st nr : Nat) (rn ra : Nat → Nat) (nh : Nat) (hs : Nat → Nat) (yk ycol bes damps yrn yr yh told : Nat → Int32) : Prop :=
  yAll R C n q d bes damps told ∧ (∀ x, x < n → ycol x = nI (x % C)) ∧ (told 2 = nI st ∧ st < C) ∧ (told 13 = nI nr ∧ nr ≤ 5 ∧ ∀ i, i < nr → yrn i = nI (rn i) ∧ yr i = nI (ra i) ∧ told (14 + 2 * i) = nI (rn i) ∧ told (15 + 2 * i) = nI (ra i) ∧ rn i ≤ 60 ∧ ra i ≤ 99) ∧ (told 24 = nI nh ∧ nh ≤ 4 ∧ ∀ i, i < nh → yh i = nI (hs i) ∧ told (25 + i) = nI (hs i) ∧ hs i ≤ 4) ∧ (∀ y, y < 25 → told (29 + y) = yk y) ∧ okSc n yk st
/-- the scene as it stands, in both -/
def scR (n : Nat) (nk : Nat → Int32) (s nt : Nat) (bg : Option Nat) (now : Nat → Int32) : Prop := mSc nk s nt bg now ∧ okSc n nk s ∧ nt ≤ 999 ∧ okBg bg
theorem p_where {R C n q N s nt : Nat} {d : Nat → Nat} {bes damps told nk now tk fS fG fr to aside : Nat → Int32} {bg : Option Nat} {ts tn tb : Int32} (hY : yAll R C n q d bes damps told) (hS : scR n nk s nt bg now) (hN : 100000 ≤ N) (p1 : Int32) :
    ∃ r ts' tn' tb' tk' fS' fG' aside' now' fr' to', fX7_where N p1 ts tn tb (nI s) (nI nt) (oI bg) nk tk (nI C) (nI n) (nI q) damps fS bes fG = some (r, ts', tn', tb', tk', fS', fG') ∧ fX8_where N p1 aside now told fr to = some (r, aside', now', fr', to') ∧ eq28 now' now := by
  have h25 := hY.1.1.n25
  rw [fX7_where_e, fX8_where_e]
  rcases nI_S p1 30 (by omega) with hq | hq | ⟨j, hj, rfl⟩
  · refine ⟨-1, ts, tn, tb, tk, fS, fG, aside, now, fr, to, by rw [if_pos hq], ?_, fun _ _ => rfl⟩
    rw [mo_inN (by omega) (by omega) hq]
    simp only [ob]
    rw [iz_eqt rfl]
  · refine ⟨-1, ts, tn, tb, tk, fS, fG, aside, now, fr, to, by rw [if_neg (big_nlt0 (by omega) hq), if_neg (big_nle (by omega) (by omega) hq)], ?_, fun _ _ => rfl⟩
    rw [mo_inB (by omega) (by omega) hq]
    simp only [ob]
    rw [iz_eqt rfl]
  · obtain ⟨hm, hok, hnt, hbg⟩ := hS
    have hc : ∀ y, y < 25 → va_cpy nk tk 0 0 25 y = nk y := fun y hy => cpy25 hy
    obtain ⟨K', s', bg', a1, a2, a3, a4⟩ := runs (N := N) hY hN j 0 (va_cpy nk tk 0 0 25) s nt bg j (by omega) (by omega) (by omega) (okSc_K hok (by omega) hc) hbg
    obtain ⟨fS', fG', e1⟩ := a3 fS fG N (by omega)
    obtain ⟨now1, fr1, to1, hS1, e2⟩ := a4 now fr to N (mSc_K hm hc) (by omega)
    obtain ⟨as', ha, e3⟩ := mo_asides (N := N) (aside := aside) (now := now) (by omega)
    obtain ⟨nb', hb, e4⟩ := mo_backs (N := N) (aside := as') (now := now1) (by omega)
    refine ⟨nI s', nI s', nI (nt + j), oI bg', K', fS', fG', as', nb', fr1, to1, ?_, ?_, fun i hi => (hb i hi).trans (ha i hi)⟩
    · simp (disch := omega) only [gu, gu2, ile_t, ile_f, ilt_t, ilt_f, ieq_t, ieq_f, iz_lt, iz_eqt, iz_eqf, iz_le, im_eqf, im_eqt, im_lt, ob, nI_add, pk_mul, nI_clamp, if_true, if_false]
      rw [fX3_become_e]
      simp only [ob]
      rw [fX7_goNights_e, e1]
      rfl
    · rw [mo_inY (by omega) (by omega) hj]
      simp (disch := omega) only [gu, gu2, ile_t, ile_f, ilt_t, ilt_f, ieq_t, ieq_f, iz_lt, iz_eqt, iz_eqf, iz_le, im_eqf, im_eqt, im_lt, ob, nI_add, pk_mul, nI_clamp, if_true, if_false]
      rw [e3]
      simp only [ob]
      rw [fX8_goesOn_e, e2]
      simp only [ob]
      rw [e4]
      simp only [ob]
      rw [hS1.2.1]
/-- till it begins, from how things stand: both -/
theorem beg {R C n q N s nt : Nat} {d : Nat → Nat} {bes damps told nk now tk fS fG fr to aside : Nat → Int32} {bg : Option Nat} (hY : yAll R C n q d bes damps told) (hm : mSc nk s nt bg now) (hok : okSc n nk s) (hnt : nt ≤ 9000) (hbg : okBg bg) (hN : 100000 ≤ N) :
    ∃ (r : Option Nat) (tk' : Nat → Int32) (s' nt' : Nat) (bg' : Option Nat) (fS' fG' aside' now' fr' to' : Nat → Int32), (∀ k, r = some k → k ≤ 30) ∧ r.isSome = bg'.isSome ∧ okBg bg' ∧ s' < n ∧
      fX7_nightsTillBegun N (nI s) (nI nt) (oI bg) (nI C) (nI n) (nI q) damps fS bes (va_cpy nk tk 0 0 25) fG = some (oI r, nI s', nI nt', oI bg', fS', tk', fG') ∧
      fX8_beginsNow N aside now told fr to = some (oI r, mB bg', nI s', aside', now', fr', to') ∧ eq28 now' now := by
  have h25 := hY.1.1.n25
  have hc : ∀ y, y < 25 → va_cpy nk tk 0 0 25 y = nk y := fun y hy => cpy25 hy
  obtain ⟨r, K', s', nt', bg', a1, a2, a3, a4, a5, a6, a7⟩ := till (N := N) hY hN 30 0 (va_cpy nk tk 0 0 25) s nt bg (by omega) (by omega) (okSc_K hok (by omega) hc) hbg
  obtain ⟨fS', fG', e1⟩ := a6 fS fG N (by omega)
  obtain ⟨now1, fr1, to1, hS1, e2⟩ := a7 now fr to N (mSc_K hm hc) (by omega)
  obtain ⟨as', ha, e3⟩ := mo_asides (N := N) (aside := aside) (now := now) (by omega)
  obtain ⟨nb', hb, e4⟩ := mo_backs (N := N) (aside := as') (now := now1) (by omega)
  refine ⟨r, K', s', nt', bg', fS', fG', as', nb', fr1, to1, a3, a4, a2, a1.1, ?_, ?_, fun i hi => (hb i hi).trans (ha i hi)⟩
  · rw [fX7_nightsTillBegun_e, e1]
  · rw [fX8_beginsNow_e, e3]
    simp only [ob]
    rw [fX8_beginsSo_e, e2]
    simp only [ob]
    rw [e4]
    rfl
theorem p_begins {R C n q N s nt : Nat} {d : Nat → Nat} {bes damps told nk now tk fS fG fr to aside : Nat → Int32} {bg : Option Nat} (hY : yAll R C n q d bes damps told) (hS : scR n nk s nt bg now) (hN : 100000 ≤ N) :
    ∃ r ts' tn' tb' tk' fS' fG' bo bi aside' now' fr' to', fX7_begins N (nI s) (nI nt) (oI bg) nk tk (nI C) (nI n) (nI q) damps fS bes fG = some (r, ts', tn', tb', tk', fS', fG') ∧ fX8_begins N aside now told fr to = some (r, bo, bi, aside', now', fr', to') ∧ eq28 now' now := by
  obtain ⟨hm, hok, hnt, hbg⟩ := hS
  obtain ⟨r, tk', s', nt', bg', fS', fG', aside', now', fr', to', -, -, -, -, e1, e2, he⟩ := beg (N := N) (tk := tk) (fS := fS) (fG := fG) (fr := fr) (to := to) (aside := aside) hY hm hok (by omega) hbg hN
  refine ⟨oI r, nI s', nI nt', oI bg', tk', fS', fG', mB bg', nI s', aside', now', fr', to', ?_, ?_, he⟩
  · rw [fX7_begins_e, fX3_become_e]
    simp only [ob]
    rw [e1]
    rfl
  · rw [fX8_begins_e, e2]
    rfl
/-- rents -/
def rsum (rn ra : Nat → Nat) (t : Option Nat) : Nat → Nat
  | 0 => 0
  | k + 1 => rsum rn ra t k + (match t with
    | none => ra k
    | some b => if rn k ≤ b then ra k else 0)
theorem rsum_le {rn ra : Nat → Nat} {t : Option Nat} {nr : Nat} (h : ∀ i, i < nr → ra i ≤ 99) : ∀ k, k ≤ nr → rsum rn ra t k ≤ 99 * k := by
  intro k
  induction k with
  | zero => intro _; exact Nat.le_refl 0
  | succ k ih =>
    intro hk
    have h1 := ih (by omega)
    have h2 := h k (by omega)
    simp only [rsum]
    cases t with
    | none => simp only; omega
    | some b =>
      simp only
      split <;> omega
theorem cl_rents {nr b : Nat} {rn ra : Nat → Nat} {t : Option Nat} {yrn yr : Nat → Int32} (h5 : nr ≤ 5) (hr : ∀ i, i < nr → yrn i = nI (rn i) ∧ yr i = nI (ra i) ∧ rn i ≤ 60 ∧ ra i ≤ 99) (hb : b < 10000) (ht : ∀ i, i < nr → (match t with | none => ra i | some b => if rn i ≤ b then ra i else 0) = if rn i ≤ b then ra i else 0) : ∀ (j i fuel : Nat), i + j = nr → j < fuel → fX6_rentsTill_4 (nI nr) (nI b) yrn yr fuel (nI (rsum rn ra t i)) (nI i) = some (nI (rsum rn ra t nr)) := by
  intro j
  induction j with
  | zero =>
    intro i fuel hi hf
    obtain ⟨f, rfl⟩ : ∃ f, fuel = f + 1 := ⟨fuel - 1, by omega⟩
    rw [fX6_rentsTill_4_s]
    simp (disch := omega) only [gu, gu2, ile_t, ile_f, ilt_t, ilt_f, ieq_t, ieq_f, iz_lt, iz_eqt, iz_eqf, iz_le, im_eqf, im_eqt, im_lt, ob, nI_add, pk_mul, nI_clamp, if_true, if_false]
    rw [show i = nr by omega]
  | succ j ih =>
    intro i fuel hi hf
    obtain ⟨f, rfl⟩ : ∃ f, fuel = f + 1 := ⟨fuel - 1, by omega⟩
    obtain ⟨q1, q2, q3, q4⟩ := hr i (by omega)
    have hti := ht i (by omega)
    have hs : rsum rn ra t (i + 1) = rsum rn ra t i + (if rn i ≤ b then ra i else 0) := by rw [← hti]; rfl
    have ih' := ih (i + 1) f (by omega) (by omega)
    rw [hs] at ih'
    rw [fX6_rentsTill_4_s]
    simp (disch := omega) only [gu, gu2, ile_t, ile_f, ilt_t, ilt_f, ieq_t, ieq_f, iz_lt, iz_eqt, iz_eqf, iz_le, im_eqf, im_eqt, im_lt, ob, nI_add, pk_mul, nI_clamp, if_true, if_false, q1, q2]
    by_cases h : rn i ≤ b
    · rw [if_pos h] at ih'
      simp (disch := omega) only [gu, gu2, ile_t, ile_f, ilt_t, ilt_f, ieq_t, ieq_f, iz_lt, iz_eqt, iz_eqf, iz_le, im_eqf, im_eqt, im_lt, ob, nI_add, pk_mul, nI_clamp, if_true, if_false]
      exact ih'
    · rw [if_neg h, Nat.add_zero] at ih'
      simp (disch := omega) only [gu, gu2, ile_t, ile_f, ilt_t, ilt_f, ieq_t, ieq_f, iz_lt, iz_eqt, iz_eqf, iz_le, im_eqf, im_eqt, im_lt, ob, nI_add, pk_mul, nI_clamp, if_true, if_false]
      exact ih'
theorem mo_rents {nr : Nat} {rn ra : Nat → Nat} {t : Option Nat} {told : Nat → Int32} {o1 : Int32 × Int32 × Int32 × (Nat → Int32) × (Nat → Int32) × (Nat → Int32) × (Nat → Int32)} (h13 : told 13 = nI nr) (h5 : nr ≤ 5) (hr : ∀ i, i < nr → told (14 + 2 * i) = nI (rn i) ∧ told (15 + 2 * i) = nI (ra i) ∧ rn i ≤ 60 ∧ ra i ≤ 99) (ho : o1.2.1 = mB t) (htb : okBg t) : ∀ (j i fuel : Nat), i + j = nr → j < fuel → fX8_due_9 told o1 fuel (nI (rsum rn ra t i)) (nI i) = some (nI (rsum rn ra t nr), o1.2) := by
  intro j
  induction j with
  | zero =>
    intro i fuel hi hf
    obtain ⟨f, rfl⟩ : ∃ f, fuel = f + 1 := ⟨fuel - 1, by omega⟩
    rw [fX8_due_9_s, h13]
    simp (disch := omega) only [gu, gu2, ile_t, ile_f, ilt_t, ilt_f, ieq_t, ieq_f, iz_lt, iz_eqt, iz_eqf, iz_le, im_eqf, im_eqt, im_lt, ob, nI_add, pk_mul, nI_clamp, if_true, if_false]
    rw [show i = nr by omega]
  | succ j ih =>
    intro i fuel hi hf
    obtain ⟨f, rfl⟩ : ∃ f, fuel = f + 1 := ⟨fuel - 1, by omega⟩
    obtain ⟨q1, q2, q3, q4⟩ := hr i (by omega)
    have ih' := ih (i + 1) f (by omega) (by omega)
    rw [fX8_due_9_s, h13, ho]
    simp (disch := omega) only [gu, gu2, ile_t, ile_f, ilt_t, ilt_f, ieq_t, ieq_f, iz_lt, iz_eqt, iz_eqf, iz_le, im_eqf, im_eqt, im_lt, ob, nI_add, pk_mul, nI_clamp, if_true, if_false]
    have h46 : fX8_due_46 told (nI (rsum rn ra t i)) (nI i) (fX8_due_9 told o1 f) = fX8_due_9 told o1 f (nI (rsum rn ra t i + ra i)) (nI (i + 1)) := by
      rw [fX8_due_46_e]
      simp (disch := omega) only [gu, gu2, ile_t, ile_f, ilt_t, ilt_f, ieq_t, ieq_f, iz_lt, iz_eqt, iz_eqf, iz_le, im_eqf, im_eqt, im_lt, ob, nI_add, pk_mul, nI_clamp, if_true, if_false, q2]
    cases t with
    | none =>
      rw [if_pos (show mB none < 0 by decide), h46]
      exact ih'
    | some b =>
      have := htb b rfl
      rw [show mB (some b) = nI b from rfl]
      have hs : rsum rn ra (some b) (i + 1) = rsum rn ra (some b) i + (if rn i ≤ b then ra i else 0) := rfl
      rw [hs] at ih'
      by_cases h : rn i ≤ b
      · rw [if_pos h] at ih'
        simp (disch := omega) only [gu, gu2, ile_t, ile_f, ilt_t, ilt_f, ieq_t, ieq_f, iz_lt, iz_eqt, iz_eqf, iz_le, im_eqf, im_eqt, im_lt, ob, nI_add, pk_mul, nI_clamp, if_true, if_false, q1]
        rw [h46]
        exact ih'
      · rw [if_neg h, Nat.add_zero] at ih'
        simp (disch := omega) only [gu, gu2, ile_t, ile_f, ilt_t, ilt_f, ieq_t, ieq_f, iz_lt, iz_eqt, iz_eqf, iz_le, im_eqf, im_eqt, im_lt, ob, nI_add, pk_mul, nI_clamp, if_true, if_false, q1]
        exact ih'
theorem p_due {R C n q N s nt st nr nh : Nat} {d rn ra hs : Nat → Nat} {yk ycol bes damps yrn yr yh told nk now tk fS fG fr to aside : Nat → Int32} {bg : Option Nat} (hR : yR R C n q d st nr rn ra nh hs yk ycol bes damps yrn yr yh told) (hS : scR n nk s nt bg now) (hN : 100000 ≤ N) :
    ∃ r ts' tn' tb' tk' fS' fG' bo bi aside' now' fr' to', fX7_due N (nI s) (nI nt) (oI bg) nk tk (nI C) (nI n) (nI q) (nI nr) damps fS bes fG yrn yr = some (r, ts', tn', tb', tk', fS', fG') ∧ fX8_due N aside now told fr to = some (r, bo, bi, aside', now', fr', to') ∧ eq28 now' now := by
  obtain ⟨hm, hok, hnt, hbg⟩ := hS
  obtain ⟨hY, -, -, ⟨h13, h5, hr⟩, -⟩ := hR
  obtain ⟨r, tk', s', nt', bg', fS', fG', aside', now', fr', to', hr30, hrb, hbg', -, e1, e2, he⟩ := beg (N := N) (tk := tk) (fS := fS) (fG := fG) (fr := fr) (to := to) (aside := aside) hY hm hok (by omega) hbg hN
  refine ⟨nI (rsum rn ra bg' nr), nI s', nI nt', oI bg', tk', fS', fG', mB bg', nI s', aside', now', fr', to', ?_, ?_, he⟩
  · rw [fX7_due_e, fX3_become_e]
    simp only [ob]
    rw [e1]
    simp only [ob]
    cases r with
    | none =>
      have hb0 : bg' = none := by cases bg' with
        | none => rfl
        | some b => cases hrb
      subst hb0
      rw [show oI none = -4 from rfl, if_pos rfl, fX7_due_29_e]
      simp (disch := omega) only [gu, gu2, ile_t, ile_f, ilt_t, ilt_f, ieq_t, ieq_f, iz_lt, iz_eqt, iz_eqf, iz_le, im_eqf, im_eqt, im_lt, ob, nI_add, pk_mul, nI_clamp, if_true, if_false]
      rw [fX7_due_51_e, fX6_rentsTill_e]
      have := cl_rents (b := 999) (t := none) (rn := rn) (ra := ra) (yrn := yrn) (yr := yr) h5 (fun i hi => by obtain ⟨a, b, _, _, c, e⟩ := hr i hi; exact ⟨a, b, c, e⟩) (by omega) (fun i hi => by
        have := (hr i hi).2.2.2.2.1
        simp only
        rw [if_pos (by omega)]) nr 0 N (by omega) (by omega)
      rw [show nI (rsum rn ra none 0) = nI 0 from rfl] at this
      rw [this]
      rfl
    | some k =>
      have := hr30 k rfl
      obtain ⟨b, rfl⟩ : ∃ b, bg' = some b := by cases bg' with
        | none => cases hrb
        | some b => exact ⟨b, rfl⟩
      have hb := hbg' b rfl
      rw [show oI (some k) = nI k from rfl]
      simp (disch := omega) only [gu, gu2, ile_t, ile_f, ilt_t, ilt_f, ieq_t, ieq_f, iz_lt, iz_eqt, iz_eqf, iz_le, im_eqf, im_eqt, im_lt, ob, nI_add, pk_mul, nI_clamp, if_true, if_false]
      rw [fX7_due_29_e]
      simp (disch := omega) only [gu, gu2, ile_t, ile_f, ilt_t, ilt_f, ieq_t, ieq_f, iz_lt, iz_eqt, iz_eqf, iz_le, im_eqf, im_eqt, im_lt, ob, nI_add, pk_mul, nI_clamp, if_true, if_false]
      rw [fX7_due_51_e, fX6_rentsTill_e]
      have := cl_rents (b := b) (t := some b) (rn := rn) (ra := ra) (yrn := yrn) (yr := yr) h5 (fun i hi => by obtain ⟨a, b, _, _, c, e⟩ := hr i hi; exact ⟨a, b, c, e⟩) (by omega) (fun i hi => rfl) nr 0 N (by omega) (by omega)
      rw [show nI (rsum rn ra (some b) 0) = nI 0 from rfl] at this
      simp only [oI]
      rw [this]
      rfl
  · rw [fX8_due_e, e2]
    simp only [ob]
    have := mo_rents (o1 := (oI r, mB bg', nI s', aside', now', fr', to')) h13 h5 (fun i hi => by obtain ⟨_, _, a, b, c, e⟩ := hr i hi; exact ⟨a, b, c, e⟩) rfl hbg' nr 0 N (by omega) (by omega)
    rw [show nI (rsum rn ra bg' 0) = nI 0 from rfl] at this
    rw [this]
