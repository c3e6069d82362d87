/-! ===== salter ===== -/
def agB (sp sn : Nat → Int32) (x n : Int32) : Nat → Bool
  | 0 => true
  | k + 1 => agB sp sn x n k && (!(decide (sn k = n)) || decide (sp k = x))
theorem agB_f {sp sn : Nat → Int32} {x n : Int32} {k : Nat} (h : agB sp sn x n k = false) : ∀ m, agB sp sn x n (k + m) = false
  | 0 => h
  | m + 1 => by
    show (agB sp sn x n (k + m) && _) = false
    rw [agB_f h m]; rfl
theorem agB_eq {sp sn mc mn : Nat → Int32} {x n : Int32} : ∀ (u : Nat), (∀ i, i < u → sp i = mc i ∧ sn i = mn i) → agB sp sn x n u = agB mc mn x n u
  | 0, _ => rfl
  | u + 1, h => by
    simp only [agB]
    rw [agB_eq u (fun i hi => h i (by omega)), (h u (by omega)).1, (h u (by omega)).2]
theorem cl_agree {N u : Nat} {sp sn : Nat → Int32} {x n : Int32} (hu : u ≤ 8) (hN : 100 ≤ N) : fX4_agree N (nI u) x n sn sp = some (fl (agB sp sn x n u)) := by
  rw [fX4_agree_e]
  have key : ∀ (j i fuel : Nat), i + j = u → j < fuel → agB sp sn x n i = true → fX4_agree_2 (nI u) x n sn sp fuel (nI i) = some (fl (agB sp sn x n u)) := by
    intro j
    induction j with
    | zero =>
      intro i fuel hi hf h
      obtain ⟨f, rfl⟩ : ∃ f, fuel = f + 1 := ⟨fuel - 1, by omega⟩
      rw [fX4_agree_2_s]
      simp (disch := omega) only [gu, gu2, ile_t, ile_f, ilt_t, ilt_f, ieq_t, ieq_f, iz_lt, iz_eqt, iz_eqf, iz_le, im_eqf, im_eqt, im_lt, ob, nI_add, pk_mul, nI_clamp, if_true, if_false]
      rw [show i = u by omega] at h
      rw [h]; rfl
    | succ j ih =>
      intro i fuel hi hf h
      obtain ⟨f, rfl⟩ : ∃ f, fuel = f + 1 := ⟨fuel - 1, by omega⟩
      rw [fX4_agree_2_s]
      simp (disch := omega) only [gu, gu2, ile_t, ile_f, ilt_t, ilt_f, ieq_t, ieq_f, iz_lt, iz_eqt, iz_eqf, iz_le, im_eqf, im_eqt, im_lt, ob, nI_add, pk_mul, nI_clamp, if_true, if_false]
      by_cases h1 : sn i = n
      · rw [if_pos h1]
        by_cases h2 : sp i = x
        · rw [if_pos h2]
          exact ih (i + 1) f (by omega) (by omega) (by simp [agB, h, h2])
        · rw [if_neg h2]
          have : agB sp sn x n (i + 1) = false := by simp [agB, h1, h2]
          have := agB_f this j
          rw [show i + 1 + j = u by omega] at this
          rw [this]; rfl
      · rw [if_neg h1]
        exact ih (i + 1) f (by omega) (by omega) (by simp [agB, h, h1])
  exact key u 0 N (by omega) (by omega) rfl
theorem mo_so12 {N u : Nat} {told mn mc nw fr to : Nat → Int32} {v2 : Int32} {k : Int32 → Int32 → (Nat → Int32) → (Nat → Int32) → (Nat → Int32) → Option (Int32 × (Nat → Int32) × (Nat → Int32) × (Nat → Int32))} {b : Bool} (hu : u ≤ 8) : ∀ (j i fuel : Nat), i + j = u → j < fuel → ∃ f, fX8_isSo_12 N (nI u) told mn mc v2 nw fr to k fuel (fl (b && agB mc mn (nw 1) v2 i)) (nI i) = fX8_isSo_12 N (nI u) told mn mc v2 nw fr to k (f + 1) (fl (b && agB mc mn (nw 1) v2 u)) (nI u) := by
  intro j
  induction j with
  | zero =>
    intro i fuel hi hf
    obtain ⟨f, rfl⟩ : ∃ f, fuel = f + 1 := ⟨fuel - 1, by omega⟩
    refine ⟨f, ?_⟩
    rw [show i = u by omega]
  | succ j ih =>
    intro i fuel hi hf
    obtain ⟨f, rfl⟩ : ∃ f, fuel = f + 1 := ⟨fuel - 1, by omega⟩
    obtain ⟨f', e⟩ := ih (i + 1) f (by omega) (by omega)
    refine ⟨f', ?_⟩
    rw [← e, fX8_isSo_12_s, ile_f (by omega) (by omega)]
    cases hb : (b && agB mc mn (nw 1) v2 i) with
    | false =>
      have : (b && agB mc mn (nw 1) v2 (i + 1)) = false := by
        simp only [agB]
        rw [← Bool.and_assoc, hb]; rfl
      rw [this, fl_f]
      simp (disch := omega) only [gu, gu2, ile_t, ile_f, ilt_t, ilt_f, ieq_t, ieq_f, iz_lt, iz_eqt, iz_eqf, iz_le, im_eqf, im_eqt, im_lt, ob, nI_add, pk_mul, nI_clamp, if_true, if_false]
    | true =>
      rw [fl_t]
      simp (disch := omega) only [gu, gu2, ile_t, ile_f, ilt_t, ilt_f, ieq_t, ieq_f, iz_lt, iz_eqt, iz_eqf, iz_le, im_eqf, im_eqt, im_lt, ob, nI_add, pk_mul, nI_clamp, if_true, if_false]
      have e2 : (b && agB mc mn (nw 1) v2 (i + 1)) = (!(decide (mn i = v2)) || decide (mc i = nw 1)) := by
        simp only [agB]
        rw [← Bool.and_assoc, hb]; rfl
      rw [e2]
      by_cases h1 : mn i = v2
      · rw [if_pos h1]
        by_cases h2 : mc i = nw 1
        · rw [if_pos h2]; simp [h2, fl]
        · rw [if_neg h2]; simp [h1, h2, fl]
      · rw [if_neg h1]; simp [h1, fl]
/-- one turn of the reference's loop -/
theorem mo_so4 {R C n q N u s i f : Nat} {d : Nat → Nat} {bes damps told mn mc K nw fr to aside : Nat → Int32} {bg : Option Nat} {b : Bool} (hY : yAll R C n q d bes damps told) (hN : 100000 ≤ N) (hu : u ≤ 8) (hi : i ≤ 30) (hS : mSc K s i bg nw) {K1 : Nat → Int32} {s1 : Nat} {bg1 : Option Nat} {sl : Bool} (h4 : ∀ (now fr to : Nat → Int32), mSc K s i bg now → ∃ now' fr' to', mSc K1 s1 (i + 1) bg1 now' ∧ fX8_goesBy N (nI (dmp q d i)) now told fr to = some (fl sl, now', fr', to')) :
    ∃ nw1 fr1 to1, mSc K1 s1 (i + 1) bg1 nw1 ∧ fX8_isSo_4 N (nI u) aside told mn mc (f + 1) (fl b) (nI i) nw fr to = fX8_isSo_4 N (nI u) aside told mn mc f (fl (b && agB mc mn (nI s) (nI i) u)) (nI (i + 1)) nw1 fr1 to1 := by
  obtain ⟨nw1, fr1, to1, hS1, e2⟩ := h4 nw fr to hS
  refine ⟨nw1, fr1, to1, hS1, ?_⟩
  rw [fX8_isSo_4_s, ile_f (by omega) (by omega)]
  obtain ⟨f', e⟩ := mo_so12 (N := N) (told := told) (mn := mn) (mc := mc) (nw := nw) (fr := fr) (to := to) (v2 := nI i) (k := fX8_isSo_4 N (nI u) aside told mn mc f) (b := b) hu u 0 N (by omega) (by omega)
  rw [show (b && agB mc mn (nw 1) (nI i) 0) = b by simp [agB]] at e
  rw [e, fX8_isSo_12_s, ile_t (by omega) (by omega), hS.1, mo_damp hY.2.2 (by omega)]
  simp only [ob]
  rw [e2]
  simp only [ob, nI_add]
  rw [hS.2.1]
theorem mo_so0 {R C n q N u : Nat} {d : Nat → Nat} {bes damps told mn mc aside : Nat → Int32} (hY : yAll R C n q d bes damps told) (hN : 100000 ≤ N) (hu : u ≤ 8) : ∀ (j i fm : Nat) (K : Nat → Int32) (s : Nat) (bg : Option Nat) (nw fr to : Nat → Int32), i + j = 31 → j < fm → okSc n K s → okBg bg → mSc K s i bg nw → ∃ nb fr' to', eq28 nb aside ∧ fX8_isSo_4 N (nI u) aside told mn mc fm (fl false) (nI i) nw fr to = some (nI 0, nb, fr', to') := by
  intro j
  induction j with
  | zero =>
    intro i fm K s bg nw fr to hi hfm hok hbg hS
    obtain ⟨g, rfl⟩ : ∃ g, fm = g + 1 := ⟨fm - 1, by omega⟩
    obtain ⟨nb, hb, e4⟩ := mo_backs (N := N) (aside := aside) (now := nw) (by omega)
    refine ⟨nb, fr, to, hb, ?_⟩
    rw [fX8_isSo_4_s, ile_t (by omega) (by omega), e4]
    simp only [ob]
    rw [if_pos (fl_01 false)]; rfl
  | succ j ih =>
    intro i fm K s bg nw fr to hi hfm hok hbg hS
    obtain ⟨g, rfl⟩ : ∃ g, fm = g + 1 := ⟨fm - 1, by omega⟩
    obtain ⟨sl, K1, s1, bg1, a1, a2, -, -, a4⟩ := night (N := N) hY.1 hY.2.1 hN (dmp_9 (n := i) hY.2.2) (show i < 10000 by omega) hok hbg
    obtain ⟨nw1, fr1, to1, hS1, e⟩ := mo_so4 (N := N) (f := g) (b := false) (mn := mn) (mc := mc) (aside := aside) (fr := fr) (to := to) hY hN hu (by omega) hS a4
    rw [e, Bool.false_and]
    exact ih (i + 1) g K1 s1 bg1 nw1 fr1 to1 (by omega) (by omega) a1 a2 hS1
theorem so_loop {R C n q N u : Nat} {d : Nat → Nat} {bes damps told sp sn mn mc aside : Nat → Int32} (hY : yAll R C n q d bes damps told) (hN : 100000 ≤ N) (hu : u ≤ 8) (hs : ∀ i, i < u → sp i = mc i ∧ sn i = mn i) : ∀ (j i fc fm : Nat) (K : Nat → Int32) (s : Nat) (bg : Option Nat) (fS fG nw fr to : Nat → Int32), i + j = 30 → j + 1 < fc → j + 2 < fm → okSc n K s → okBg bg → mSc K s i bg nw →
    ∃ b ts' tn' tb' tk' fS' fG' nb fr' to', eq28 nb aside ∧ fX7_agreesIfSalted_38 N (nI C) (nI n) (nI q) (nI u) sn sp damps bes fc (fl (agB sp sn (nI s) (nI i) u)) (nI (i + 1)) (nI s) (nI i) (oI bg) K fS fG = some (fl b, ts', tn', tb', tk', fS', fG') ∧ fX8_isSo_4 N (nI u) aside told mn mc fm (fl true) (nI i) nw fr to = some (fl b, nb, fr', to') := by
  intro j
  induction j with
  | zero =>
    intro i fc fm K s bg fS fG nw fr to hi hfc hfm hok hbg hS
    obtain ⟨f, rfl⟩ : ∃ f, fc = f + 1 := ⟨fc - 1, by omega⟩
    obtain ⟨g, rfl⟩ : ∃ g, fm = g + 1 + 1 := ⟨fm - 2, by omega⟩
    obtain ⟨sl, K1, s1, bg1, a1, a2, -, -, a4⟩ := night (N := N) hY.1 hY.2.1 hN (dmp_9 (n := i) hY.2.2) (show i < 10000 by omega) hok hbg
    obtain ⟨nw1, fr1, to1, hS1, e⟩ := mo_so4 (N := N) (f := g + 1) (b := true) (mn := mn) (mc := mc) (aside := aside) (fr := fr) (to := to) hY hN hu (by omega) hS a4
    obtain ⟨nb, hb, e4⟩ := mo_backs (N := N) (aside := aside) (now := nw1) (by omega)
    have hag := agB_eq (x := nI s) (n := nI i) u hs
    refine ⟨agB sp sn (nI s) (nI i) u, nI s, nI i, oI bg, K, fS, fG, nb, fr1, to1, hb, ?_, ?_⟩
    · rw [fX7_agreesIfSalted_38_s, if_pos (fl_01 _), ilt_t (by omega) (by omega)]
      split <;> rfl
    · rw [e, Bool.true_and, fX8_isSo_4_s, ile_t (by omega) (by omega), e4, hag]
      simp only [ob]
      rw [if_pos (fl_01 _)]
  | succ j ih =>
    intro i fc fm K s bg fS fG nw fr to hi hfc hfm hok hbg hS
    obtain ⟨f, rfl⟩ : ∃ f, fc = f + 1 := ⟨fc - 1, by omega⟩
    obtain ⟨g, rfl⟩ : ∃ g, fm = g + 1 := ⟨fm - 1, by omega⟩
    obtain ⟨sl, K1, s1, bg1, a1, a2, -, a3, a4⟩ := night (N := N) hY.1 hY.2.1 hN (dmp_9 (n := i) hY.2.2) (show i < 10000 by omega) hok hbg
    obtain ⟨nw1, fr1, to1, hS1, e⟩ := mo_so4 (N := N) (f := g) (b := true) (mn := mn) (mc := mc) (aside := aside) (fr := fr) (to := to) hY hN hu (by omega) hS a4
    have hag := agB_eq (x := nI s) (n := nI i) u hs
    rw [e, Bool.true_and, ← hag]
    cases hq : agB sp sn (nI s) (nI i) u with
    | false =>
      obtain ⟨nb, fr2, to2, hb, e5⟩ := mo_so0 (N := N) (mn := mn) (mc := mc) (aside := aside) hY hN hu (30 - i) (i + 1) g K1 s1 bg1 nw1 fr1 to1 (by omega) (by omega) a1 a2 hS1
      refine ⟨false, nI s, nI i, oI bg, K, fS, fG, nb, fr2, to2, hb, ?_, e5⟩
      rw [fX7_agreesIfSalted_38_s, if_pos (fl_01 _), fl_f, iz_eqt rfl]
    | true =>
      obtain ⟨fS1, fG1, e1⟩ := a3 fS fG
      rw [fX7_agreesIfSalted_38_s, fl_t, iz_eqf (by omega) (by omega), ilt_f (by omega) (by omega), pk_sub (show 1 ≤ i + 1 by omega), show i + 1 - 1 = i by omega, cl_damp hY.2.2 (by omega)]
      simp only [ob]
      rw [e1]
      simp only [ob]
      rw [cl_agree hu (by omega)]
      simp only [ob, nI_add]
      obtain ⟨b, ts', tn', tb', tk', fS', fG', nb, fr', to', q1, q2, q3⟩ := ih (i + 1) f g K1 s1 bg1 fS1 fG1 nw1 fr1 to1 (by omega) (by omega) (by omega) a1 a2 hS1
      rw [fl_t] at q3
      exact ⟨b, ts', tn', tb', tk', fS', fG', nb, fr', to', q1, q2, q3⟩
def saltd (nw : Nat → Int32) : Option Nat → Nat → Int32
  | none => nw
  | some x => upd nw (3 + x) (nI 2)
/-- would all that was seen be so, with salt at x, or without any: both -/
theorem agrees {R C n q N st nr nh u : Nat} {d rn ra hs : Nat → Nat} {yk ycol bes damps yrn yr yh told sp sn mn mc aside tk fS fG nw fr to : Nat → Int32} (hR : yR R C n q d st nr rn ra nh hs yk ycol bes damps yrn yr yh told) (hN : 100000 ≤ N) (hu : u ≤ 8) (hsn : ∀ i, i < u → sp i = mc i ∧ sn i = mn i) (xo : Option Nat) (hx : ∀ x, xo = some x → x < n ∧ x ≠ st) (hS : mSc yk st 0 none nw) :
    ∃ b ts' tn' tb' tk' fS' fG' nb fr' to', eq28 nb aside ∧ fX7_agreesIfSalted N (oI xo) (nI C) (nI n) (nI st) (nI q) yk tk (nI u) sn sp damps fS bes fG = some (fl b, ts', tn', tb', tk', fS', fG') ∧ fX8_isSo N (nI u) (saltd nw xo) aside told fr to mn mc = some (fl b, nb, fr', to') := by
  obtain ⟨hY, -, -, -, -, -, hok⟩ := hR
  have h25 := hY.1.1.n25
  have base : scR n yk st 0 none nw := ⟨hS, hok, by omega, fun b hb => by cases hb⟩
  have hK : ∃ K, fX3_setKind N (oI xo) (nI 2) (va_cpy yk tk 0 0 25) = some K ∧ scR n K st 0 none (saltd nw xo) := by
    cases xo with
    | none =>
      refine ⟨va_cpy yk tk 0 0 25, ?_, scR_eq (by omega) base (fun y hy => cpy25 hy) (fun _ _ => rfl)⟩
      rw [fX3_setKind_e, if_pos (show oI none < 0 by decide)]
    | some x =>
      have := hx x rfl
      exact ⟨_, cl_setKind (by omega), scR_cpy (by omega) base (by omega) (fun e => absurd e this.2)⟩
  obtain ⟨K, k1, k2⟩ := hK
  obtain ⟨b, ts', tn', tb', tk', fS', fG', nb, fr', to', q1, q2, q3⟩ := so_loop (N := N) (sp := sp) (sn := sn) (mn := mn) (mc := mc) (aside := aside) hY hN hu hsn 30 0 N N K st none fS fG _ fr to (by omega) (by omega) (by omega) k2.2.1 (fun b hb => by cases hb) k2.1
  refine ⟨b, ts', tn', tb', tk', fS', fG', nb, fr', to', q1, ?_, ?_⟩
  · rw [fX7_agreesIfSalted_e, fX3_setOut_e]
    simp only [ob]
    rw [k1]
    simp only [ob]
    rw [cl_agree hu (by omega)]
    simp only [ob]
    exact q2
  · rw [fX8_isSo_e]
    rw [fl_t] at q3
    exact q3
theorem sal_loop {R C n q N st nr nh u : Nat} {d rn ra hs : Nat → Nat} {yk ycol bes damps yrn yr yh told sp sn mn mc as : Nat → Int32} (hR : yR R C n q d st nr rn ra nh hs yk ycol bes damps yrn yr yh told) (hN : 100000 ≤ N) (hu : u ≤ 8) (hsn : ∀ i, i < u → sp i = mc i ∧ sn i = mn i) : ∀ (j i fc fm : Nat) (v ts tn tb : Int32) (tk fS fG nw fr to : Nat → Int32), i + j = n → j < fc → j < fm →
    ∃ v' ts' tn' tb' tk' fS' fG' nb fr' to', eq28 nb as ∧ fX7_salter_35 N (nI C) (nI n) (nI st) (nI q) yk (nI u) sn sp damps bes fc v (nI i) ts tn tb tk fS fG = some (v', ts', tn', tb', tk', fS', fG') ∧ fX8_salter_42 N (nI u) told mn mc as fm v (nI i) nw fr to = some (v', as, nb, fr', to') := by
  have hY := hR.1
  have h25 := hY.1.1.n25
  have hst : told 2 = nI st ∧ st < C := hR.2.2.1
  have hk := hR.2.2.2.2.2.1
  have hstn : st < n := hR.2.2.2.2.2.2.1
  intro j
  induction j with
  | zero =>
    intro i fc fm v ts tn tb tk fS fG nw fr to hi hfc hfm
    obtain ⟨f, rfl⟩ : ∃ f, fc = f + 1 := ⟨fc - 1, by omega⟩
    obtain ⟨g, rfl⟩ : ∃ g, fm = g + 1 := ⟨fm - 1, by omega⟩
    obtain ⟨nb, hb, e4⟩ := mo_backs (N := N) (aside := as) (now := nw) (by omega)
    refine ⟨v, ts, tn, tb, tk, fS, fG, nb, fr, to, hb, ?_, ?_⟩
    · rw [fX7_salter_35_s, ile_t (by omega) (by omega)]
    · rw [fX8_salter_42_s, mo_cells hY.1]
      simp only [ob]
      rw [ile_t (by omega) (by omega), e4]
      rfl
  | succ j ih =>
    intro i fc fm v ts tn tb tk fS fG nw fr to hi hfc hfm
    obtain ⟨f, rfl⟩ : ∃ f, fc = f + 1 := ⟨fc - 1, by omega⟩
    obtain ⟨g, rfl⟩ : ∃ g, fm = g + 1 := ⟨fm - 1, by omega⟩
    have hkA : fX6_kindAt N (nI n) (nI i) yk = some (yk i) := by
      rw [fX6_kindAt_e, fX6_has_e]
      simp (disch := omega) only [gu, gu2, ile_t, ile_f, ilt_t, ilt_f, ieq_t, ieq_f, iz_lt, iz_eqt, iz_eqf, iz_le, im_eqf, im_eqt, im_lt, ob, nI_add, pk_mul, nI_clamp, if_true, if_false]
    rw [fX7_salter_35_s, fX8_salter_42_s, mo_cells hY.1, hkA]
    simp only [ob]
    rw [ile_f (by omega) (by omega), ile_f (by omega) (by omega)]
    simp (disch := omega) only [nI_add, nI_clamp, gu2]
    rw [hk i (by omega), hst.1]
    by_cases h0 : yk i = 0
    · rw [if_pos h0, if_pos h0]
      by_cases hs : i = st
      · rw [ieq_t hs, ieq_t hs]
        exact ih (i + 1) f g v ts tn tb tk fS fG nw fr to (by omega) (by omega) (by omega)
      · rw [ieq_f hs (by omega) (by omega), ieq_f hs (by omega) (by omega)]
        obtain ⟨p, hS, e5⟩ := mo_begins0 (N := N) (now := nw) (by omega) hst.1 hk
        obtain ⟨b, ts', tn', tb', tk', fS', fG', nb, fr', to', q1, q2, q3⟩ := agrees (N := N) (aside := as) (tk := tk) (fS := fS) (fG := fG) (fr := fr) (to := to) hR hN hu hsn (some i) (fun x hx => by cases hx; exact ⟨by omega, hs⟩) hS
        rw [show oI (some i) = nI i from rfl] at q2
        rw [show saltd p (some i) = upd p (3 + i) (nI 2) from rfl] at q3
        rw [q2, e5]
        simp only [ob]
        rw [q3]
        simp only [ob]
        cases b with
        | false =>
          rw [fl_f, iz_eqt rfl, iz_eqt rfl, or_zero]
          exact ih (i + 1) f g v _ _ _ _ _ _ nb _ _ (by omega) (by omega) (by omega)
        | true =>
          rw [fl_t, iz_eqf (by omega) (by omega), iz_eqf (by omega) (by omega)]
          exact ih (i + 1) f g _ _ _ _ _ _ _ nb _ _ (by omega) (by omega) (by omega)
    · rw [if_neg h0, if_neg h0]
      exact ih (i + 1) f g v ts tn tb tk fS fG nw fr to (by omega) (by omega) (by omega)
theorem p_salter {R C n q N st nr nh u : Nat} {d rn ra hs : Nat → Nat} {yk ycol bes damps yrn yr yh told sp sn mn mc now tk fS fG fr to aside : Nat → Int32} {ts tn tb : Int32} (hR : yR R C n q d st nr rn ra nh hs yk ycol bes damps yrn yr yh told) (hN : 100000 ≤ N) (hu : u ≤ 8) (hsn : ∀ i, i < u → sp i = mc i ∧ sn i = mn i) (p1 : Int32) :
    ∃ r ts' tn' tb' tk' fS' fG' aside' now' fr' to', fX7_salter N p1 ts tn tb (nI C) (nI n) (nI st) (nI q) yk tk (nI u) sn sp damps fS bes fG = some (r, ts', tn', tb', tk', fS', fG') ∧ fX8_salter N (nI u) p1 aside now told fr to mn mc = some (r, aside', now', fr', to') ∧ eq28 now' now := by
  have hst : told 2 = nI st ∧ st < C := hR.2.2.1
  have hk := hR.2.2.2.2.2.1
  have bad : ∃ r ts' tn' tb' tk' fS' fG' aside' now' fr' to', some ((-1 : Int32), ts, tn, tb, tk, fS, fG) = some (r, ts', tn', tb', tk', fS', fG') ∧ some ((-1 : Int32), aside, now, fr, to) = some (r, aside', now', fr', to') ∧ eq28 now' now := ⟨_, _, _, _, _, _, _, _, _, _, _, rfl, rfl, fun _ _ => rfl⟩
  rw [fX7_salter_e, fX8_salter_e]
  rcases nI_S p1 1 (by omega) with hq | hq | ⟨k, hk1, rfl⟩
  · rw [if_pos hq, mo_inN (by omega) (by omega) hq]
    simp only [ob]
    rw [iz_eqt rfl]
    exact bad
  · rw [if_neg (big_nlt0 (by omega) hq), if_neg (big_nle (by omega) (by omega) hq), mo_inB (by omega) (by omega) hq]
    simp only [ob]
    rw [iz_eqt rfl]
    exact bad
  · rw [iz_lt (by omega), ile_t (by omega) (by omega), mo_inY (by omega) (by omega) hk1]
    simp only [ob]
    rw [iz_eqf (by omega) (by omega)]
    obtain ⟨as, ha, e3⟩ := mo_asides (N := N) (aside := aside) (now := now) (by omega)
    obtain ⟨p, hS, e5⟩ := mo_begins0 (N := N) (now := now) (by omega) hst.1 hk
    rw [e3, e5]
    simp only [ob]
    by_cases h1 : k = 1
    · rw [ieq_t h1, ieq_t h1]
      obtain ⟨b, ts', tn', tb', tk', fS', fG', nb, fr', to', q1, q2, q3⟩ := agrees (N := N) (aside := as) (tk := tk) (fS := fS) (fG := fG) (fr := fr) (to := to) hR hN hu hsn none (fun x hx => by cases hx) hS
      rw [show oI none = -4 from rfl] at q2
      rw [show saltd p none = p from rfl] at q3
      rw [q2, q3]
      simp only [ob]
      have hnb : eq28 nb now := fun z hz => (q1 z hz).trans (ha z hz)
      cases b with
      | false =>
        rw [fl_f, iz_eqt rfl, iz_eqt rfl]
        exact ⟨_, _, _, _, _, _, _, _, _, _, _, rfl, rfl, hnb⟩
      | true =>
        rw [fl_t, iz_eqf (by omega) (by omega), iz_eqf (by omega) (by omega)]
        exact ⟨_, _, _, _, _, _, _, _, _, _, _, rfl, rfl, hnb⟩
    · rw [ieq_f h1 (by omega) (by omega), ieq_f h1 (by omega) (by omega)]
      have h25 := hR.1.1.1.n25
      obtain ⟨v', ts', tn', tb', tk', fS', fG', nb, fr', to', q1, q2, q3⟩ := sal_loop (N := N) (as := as) hR hN hu hsn n 0 N N (nI 0) ts tn tb tk fS fG p fr to (by omega) (by omega) (by omega)
      exact ⟨v', ts', tn', tb', tk', fS', fG', as, nb, fr', to', q2, q3, fun z hz => (q1 z hz).trans (ha z hz)⟩
