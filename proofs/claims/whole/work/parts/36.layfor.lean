/-! ===== layFor ===== -/
def wi (a b : Nat) : Option Nat → Bool
  | none => false
  | some k => decide (a ≤ k) && decide (k ≤ b)
theorem cl_within {N a b : Nat} {r : Option Nat} (ha : a ≤ 30) (hb : b ≤ 30) (hr : ∀ k, r = some k → k ≤ 30) : fX7_isWithin N (oI r) (nI a) (nI b) = some (fl (wi a b r)) := by
  rw [fX7_isWithin_e]
  cases r with
  | none =>
    rw [if_pos (show oI none < nI a from neg_lt (by omega) (by decide))]
    rfl
  | some k =>
    have := hr k rfl
    rw [show oI (some k) = nI k from rfl]
    by_cases h1 : k < a
    · have : ¬ a ≤ k := by omega
      rw [if_pos (nI_lt h1 (by omega))]; simp [wi, this, fl]
    · by_cases h2 : b < k
      · have : ¬ k ≤ b := by omega
        rw [if_neg (nI_nlt (by omega) (by omega)), if_pos (nI_lt h2 (by omega))]; simp [wi, this, fl]
      · have h3 : a ≤ k := by omega
        have h4 : k ≤ b := by omega
        rw [if_neg (nI_nlt (by omega) (by omega)), if_neg (nI_nlt (by omega) (by omega))]; simp [wi, h3, h4, fl]
/-- what if the cells were so: class and reference on 'well' -/
theorem well {R C n q N s nt a b : Nat} {d : Nat → Nat} {bes damps told K now as fr to : Nat → Int32} {bg : Option Nat} (hY : yAll R C n q d bes damps told) (hS : scR n K s nt bg now) (hN : 100000 ≤ N) (ha : a ≤ 30) (hb : b ≤ 30) :
    ∃ (w : Bool) (r : Option Nat) (K' : Nat → Int32) (s' nt' : Nat) (bg' : Option Nat) (nb fr' to' : Nat → Int32), eq28 nb as ∧
      (∀ fS fG : Nat → Int32, ∃ fS' fG', fX7_nightsTillBegun N (nI s) (nI nt) (oI bg) (nI C) (nI n) (nI q) damps fS bes K fG = some (oI r, nI s', nI nt', oI bg', fS', K', fG')) ∧ fX7_isWithin N (oI r) (nI a) (nI b) = some (fl w) ∧
      fX8_isWell N (nI a) (nI b) now told fr to as = some (fl w, mB bg', nI s', nb, fr', to') := by
  obtain ⟨r, K', s', nt', bg', a1, a2, a3⟩ := tillS (N := N) (nt := nt) (bg := bg) hY hS.2.1 (by have := hS.2.2.1; omega) hS.2.2.2 hN
  obtain ⟨now1, fr1, to1, e2⟩ := a3 now fr to hS.1
  obtain ⟨nb1, hb1, e4⟩ := mo_backs (N := N) (aside := as) (now := now1) (by omega)
  refine ⟨wi a b r, r, K', s', nt', bg', nb1, fr1, to1, hb1, a2, cl_within ha hb a1, ?_⟩
  rw [fX8_isWell_e, e2]
  simp only [ob]
  rw [e4]
  simp only [ob]
  cases r with
  | none => rfl
  | some k =>
    have hk := a1 k rfl
    rw [show oI (some k) = nI k from rfl]
    simp (disch := omega) only [gu, gu2, ile_t, ile_f, ilt_t, ilt_f, ieq_t, ieq_f, iz_lt, iz_eqt, iz_eqf, iz_le, im_eqf, im_eqt, im_lt, ob, nI_add, pk_mul, nI_clamp, if_true, if_false]
    rw [nI_l (show a < 2 ^ 31 by omega), nI_l (show b < 2 ^ 31 by omega)]
    by_cases h : a ≤ k ∧ k ≤ b
    · rw [mo_inY (by omega) h.1 h.2]
      simp (disch := omega) only [gu, gu2, ile_t, ile_f, ilt_t, ilt_f, ieq_t, ieq_f, iz_lt, iz_eqt, iz_eqf, iz_le, im_eqf, im_eqt, im_lt, ob, nI_add, pk_mul, nI_clamp, if_true, if_false]
      simp [wi, h.1, h.2, fl]
    · rw [mo_inZ (by omega) (by omega) (by omega) (by omega)]
      simp (disch := omega) only [gu, gu2, ile_t, ile_f, ilt_t, ilt_f, ieq_t, ieq_f, iz_lt, iz_eqt, iz_eqf, iz_le, im_eqf, im_eqt, im_lt, ob, nI_add, pk_mul, nI_clamp, if_true, if_false]
      have : wi a b (some k) = false := by
        simp only [wi, Bool.and_eq_false_iff, decide_eq_false_iff_not]
        omega
      rw [this]; rfl
/-- how class and reference tell what is to be laid -/
def ans (m : Int32) (ch : Nat → Int32) (f s : Int32) : Prop := m = -4 ∨ (m = nI 0 ∧ f = -4 ∧ s = -4) ∨ (m = nI 1 ∧ f = ch 0 ∧ s = -4) ∨ (m = nI 2 ∧ f = ch 0 ∧ s = ch 1)
theorem scR_two {n s nt x y : Nat} {nk tk now nw : Nat → Int32} {bg : Option Nat} (hn : n ≤ 25) (hS : scR n nk s nt bg now) (he : eq28 nw now) (hx : x < 25) (hy : y < 25) : scR n (upd (upd (va_cpy nk tk 0 0 25) x (nI 3)) y (nI 3)) s nt bg (upd (upd nw (3 + x) (nI 3)) (3 + y) (nI 3)) :=
  scR_set hn (scR_eq hn (scR_cpy (tk := tk) hn hS hx (fun _ => by decide)) (fun _ _ => rfl) (eq28_upd he)) hy (fun _ => by decide)
theorem eq28_twice {a : Nat → Int32} {i : Nat} {v : Int32} : eq28 (upd a i v) (upd (upd a i v) i v) := fun j _ => by
  by_cases e : j = i
  · subst e; rw [upd_s, upd_s]
  · rw [upd_n e, upd_n e, upd_n e]
theorem cl_try {N x y : Nat} {ch nk tk : Nat → Int32} {s nt bg : Int32} (hx : x < 25) (hy : y < 25) : fX7_tryLettuces N (nI x) (nI y) ch s nt bg nk tk = some (upd (upd ch 0 (nI x)) 1 (nI y), s, nt, bg, upd (upd (va_cpy nk tk 0 0 25) x (nI 3)) y (nI 3)) := by
  rw [fX7_tryLettuces_e, fX3_become_e]
  simp only [ob]
  rw [cl_setKind hx]
  simp only [ob]
  rw [cl_setKind hy]
  rfl
theorem lay_in {R C n q N s nt a b x : Nat} {d : Nat → Nat} {bes damps told nk now as : Nat → Int32} {bg : Option Nat} (hY : yAll R C n q d bes damps told) (hS : scR n nk s nt bg now) (hN : 100000 ≤ N) (ha : a ≤ 30) (hb : b ≤ 30) (has : eq28 as now) (hx : x < n) (k82 : Int32 → Int32 → Int32 → Int32 → (Nat → Int32) → (Nat → Int32) → (Nat → Int32) → (Nat → Int32) → Option (Int32 × Int32 × Int32 × Int32 × (Nat → Int32) × (Nat → Int32) × (Nat → Int32) × (Nat → Int32))) (k78 : Int32 → Int32 → Int32 → (Nat → Int32) → (Nat → Int32) → (Nat → Int32) → Option (Int32 × Int32 × Int32 × Int32 × Int32 × (Nat → Int32) × (Nat → Int32) × (Nat → Int32) × (Nat → Int32))) :
    ∀ (j y fc fm : Nat) (ts tn tb bo bi : Int32) (tk fS fG ch nw fr to : Nat → Int32), y + j = n → j < fc → j < fm → eq28 nw now →
    (∃ ts' tn' tb' tk' fS' fG' ch' bo' bi' f' s2 nw' fr' to', eq28 nw' now ∧ ans (nI 2) ch' f' s2 ∧ fX7_chooseLettuces_98 N (nI a) (nI b) (nI s) (nI nt) (oI bg) nk (nI C) (nI n) (nI q) damps bes (nI x) k82 fc (nI y) ts tn tb tk fS fG ch = some (nI 2, ts', tn', tb', tk', fS', fG', ch') ∧ fX8_lays_91 N (nI a) (nI b) told as (nI x) k78 fm (nI y) bo bi nw fr to = some (nI 2, bo', bi', f', s2, as, nw', fr', to')) ∨
    (∃ ts' tn' tb' tk' fS' fG' ch' bo' bi' nw' fr' to', eq28 nw' now ∧ fX7_chooseLettuces_98 N (nI a) (nI b) (nI s) (nI nt) (oI bg) nk (nI C) (nI n) (nI q) damps bes (nI x) k82 fc (nI y) ts tn tb tk fS fG ch = k82 (nI (x + 1)) ts' tn' tb' tk' fS' fG' ch' ∧ fX8_lays_91 N (nI a) (nI b) told as (nI x) k78 fm (nI y) bo bi nw fr to = k78 (nI (x + 1)) bo' bi' nw' fr' to') := by
  have h25 := hY.1.1.n25
  have hsn := hS.2.1.1
  intro j
  induction j with
  | zero =>
    intro y fc fm ts tn tb bo bi tk fS fG ch nw fr to hi hfc hfm he
    obtain ⟨f, rfl⟩ : ∃ f, fc = f + 1 := ⟨fc - 1, by omega⟩
    obtain ⟨g, rfl⟩ : ∃ g, fm = g + 1 := ⟨fm - 1, by omega⟩
    right
    refine ⟨ts, tn, tb, tk, fS, fG, ch, bo, bi, nw, fr, to, he, ?_, ?_⟩
    · rw [fX7_chooseLettuces_98_s]
      simp (disch := omega) only [gu, gu2, ile_t, ile_f, ilt_t, ilt_f, ieq_t, ieq_f, iz_lt, iz_eqt, iz_eqf, iz_le, im_eqf, im_eqt, im_lt, ob, nI_add, pk_mul, nI_clamp, if_true, if_false]
    · rw [fX8_lays_91_s, mo_cells hY.1]
      simp (disch := omega) only [gu, gu2, ile_t, ile_f, ilt_t, ilt_f, ieq_t, ieq_f, iz_lt, iz_eqt, iz_eqf, iz_le, im_eqf, im_eqt, im_lt, ob, nI_add, pk_mul, nI_clamp, if_true, if_false]
  | succ j ih =>
    intro y fc fm ts tn tb bo bi tk fS fG ch nw fr to hi hfc hfm he
    obtain ⟨f, rfl⟩ : ∃ f, fc = f + 1 := ⟨fc - 1, by omega⟩
    obtain ⟨g, rfl⟩ : ∃ g, fm = g + 1 := ⟨fm - 1, by omega⟩
    have hS2 := scR_eq (by omega) hS (fun y _ => rfl) he
    have hfx := free (N := N) (x := x) (s := s) (K := nk) (now := nw) (by omega) (by omega) hS2.1.2.2.2 hS2.1.2.1
    have hfy := free (N := N) (x := y) (s := s) (K := nk) (now := nw) (by omega) (by omega) hS2.1.2.2.2 hS2.1.2.1
    cases hqx : (decide (nk x = 0) && decide (x ≠ s)) with
    | false =>
      rw [hqx, fl_f] at hfx
      right
      -- the class goes through the rest without doing anything
      have hcl : ∀ (j' y' fc' : Nat), y' + j' = n → j' < fc' → fX7_chooseLettuces_98 N (nI a) (nI b) (nI s) (nI nt) (oI bg) nk (nI C) (nI n) (nI q) damps bes (nI x) k82 fc' (nI y') ts tn tb tk fS fG ch = k82 (nI (x + 1)) ts tn tb tk fS fG ch := by
        intro j'
        induction j' with
        | zero =>
          intro y' fc' h1 h2
          obtain ⟨f', rfl⟩ : ∃ f', fc' = f' + 1 := ⟨fc' - 1, by omega⟩
          rw [fX7_chooseLettuces_98_s]
          simp (disch := omega) only [gu, gu2, ile_t, ile_f, ilt_t, ilt_f, ieq_t, ieq_f, iz_lt, iz_eqt, iz_eqf, iz_le, im_eqf, im_eqt, im_lt, ob, nI_add, pk_mul, nI_clamp, if_true, if_false]
        | succ j' ih' =>
          intro y' fc' h1 h2
          obtain ⟨f', rfl⟩ : ∃ f', fc' = f' + 1 := ⟨fc' - 1, by omega⟩
          rw [fX7_chooseLettuces_98_s, hfx.1]
          simp (disch := omega) only [gu, gu2, ile_t, ile_f, ilt_t, ilt_f, ieq_t, ieq_f, iz_lt, iz_eqt, iz_eqf, iz_le, im_eqf, im_eqt, im_lt, ob, nI_add, pk_mul, nI_clamp, if_true, if_false]
          exact ih' (y' + 1) f' (by omega) (by omega)
      refine ⟨ts, tn, tb, tk, fS, fG, ch, bo, bi, nw, fr, to, he, hcl (j + 1) y (f + 1) (by omega) (by omega), ?_⟩
      rw [fX8_lays_91_s, mo_cells hY.1, hfx.2]
      simp (disch := omega) only [gu, gu2, ile_t, ile_f, ilt_t, ilt_f, ieq_t, ieq_f, iz_lt, iz_eqt, iz_eqf, iz_le, im_eqf, im_eqt, im_lt, ob, nI_add, pk_mul, nI_clamp, if_true, if_false]
    | true =>
      rw [hqx, fl_t] at hfx
      rw [fX7_chooseLettuces_98_s, fX8_lays_91_s, mo_cells hY.1, hfx.1, hfx.2, hfy.1, hfy.2]
      simp (disch := omega) only [gu, gu2, ile_t, ile_f, ilt_t, ilt_f, ieq_t, ieq_f, iz_lt, iz_eqt, iz_eqf, iz_le, im_eqf, im_eqt, im_lt, ob, nI_add, pk_mul, nI_clamp, if_true, if_false]
      cases hqy : (decide (nk y = 0) && decide (y ≠ s)) with
      | false =>
        rw [fl_f]
        simp (disch := omega) only [gu, gu2, ile_t, ile_f, ilt_t, ilt_f, ieq_t, ieq_f, iz_lt, iz_eqt, iz_eqf, iz_le, im_eqf, im_eqt, im_lt, ob, nI_add, pk_mul, nI_clamp, if_true, if_false]
        exact ih (y + 1) f g _ _ _ _ _ _ _ _ _ nw _ _ (by omega) (by omega) (by omega) he
      | true =>
        rw [fl_t]
        simp (disch := omega) only [gu, gu2, ile_t, ile_f, ilt_t, ilt_f, ieq_t, ieq_f, iz_lt, iz_eqt, iz_eqf, iz_le, im_eqf, im_eqt, im_lt, ob, nI_add, pk_mul, nI_clamp, if_true, if_false]
        rw [cl_try (by omega) (by omega)]
        simp only [ob]
        have hS3 := scR_two (tk := tk) (x := x) (y := y) (by omega) hS he (by omega) (by omega)
        obtain ⟨w, r, K', s', nt', bg', nb, fr1, to1, hnb, c1, c2, c3⟩ := well (N := N) (as := as) (fr := fr) (to := to) hY hS3 hN ha hb
        obtain ⟨fS1, fG1, e1⟩ := c1 fS fG
        rw [e1, c3]
        simp only [ob]
        rw [c2]
        simp only [ob]
        have hnb2 : eq28 nb now := fun z hz => (hnb z hz).trans (has z hz)
        cases w with
        | false =>
          rw [fl_f]
          simp (disch := omega) only [gu, gu2, ile_t, ile_f, ilt_t, ilt_f, ieq_t, ieq_f, iz_lt, iz_eqt, iz_eqf, iz_le, im_eqf, im_eqt, im_lt, ob, nI_add, pk_mul, nI_clamp, if_true, if_false]
          exact ih (y + 1) f g _ _ _ _ _ _ _ _ _ nb _ _ (by omega) (by omega) (by omega) hnb2
        | true =>
          rw [fl_t]
          simp (disch := omega) only [gu, gu2, ile_t, ile_f, ilt_t, ilt_f, ieq_t, ieq_f, iz_lt, iz_eqt, iz_eqf, iz_le, im_eqf, im_eqt, im_lt, ob, nI_add, pk_mul, nI_clamp, if_true, if_false]
          left
          exact ⟨_, _, _, _, _, _, _, _, _, _, _, _, _, _, hnb2, Or.inr (Or.inr (Or.inr ⟨rfl, by rw [upd_n (by omega), upd_s], by rw [upd_s]⟩)), rfl, rfl⟩
theorem lay_pairs {R C n q N s nt a b : Nat} {d : Nat → Nat} {bes damps told nk now as : Nat → Int32} {bg : Option Nat} (hY : yAll R C n q d bes damps told) (hS : scR n nk s nt bg now) (hN : 100000 ≤ N) (ha : a ≤ 30) (hb : b ≤ 30) (has : eq28 as now) :
    ∀ (j x fc fm : Nat) (ts tn tb bo bi : Int32) (tk fS fG ch nw fr to : Nat → Int32), x + j = n → j < fc → j < fm → eq28 nw now →
    ∃ m ts' tn' tb' tk' fS' fG' ch' bo' bi' f' s2 nw' fr' to', eq28 nw' now ∧ ans m ch' f' s2 ∧ fX7_chooseLettuces_82 N (nI a) (nI b) (nI s) (nI nt) (oI bg) nk (nI C) (nI n) (nI q) damps bes fc (nI x) ts tn tb tk fS fG ch = some (m, ts', tn', tb', tk', fS', fG', ch') ∧ fX8_lays_78 N (nI a) (nI b) told as fm (nI x) bo bi nw fr to = some (m, bo', bi', f', s2, as, nw', fr', to') := by
  have h25 := hY.1.1.n25
  intro j
  induction j with
  | zero =>
    intro x fc fm ts tn tb bo bi tk fS fG ch nw fr to hi hfc hfm he
    obtain ⟨f, rfl⟩ : ∃ f, fc = f + 1 := ⟨fc - 1, by omega⟩
    obtain ⟨g, rfl⟩ : ∃ g, fm = g + 1 := ⟨fm - 1, by omega⟩
    refine ⟨-4, ts, tn, tb, tk, fS, fG, ch, bo, bi, -4, -4, nw, fr, to, he, Or.inl rfl, ?_, ?_⟩
    · rw [fX7_chooseLettuces_82_s]
      simp (disch := omega) only [gu, gu2, ile_t, ile_f, ilt_t, ilt_f, ieq_t, ieq_f, iz_lt, iz_eqt, iz_eqf, iz_le, im_eqf, im_eqt, im_lt, ob, nI_add, pk_mul, nI_clamp, if_true, if_false]
    · rw [fX8_lays_78_s, mo_cells hY.1]
      simp (disch := omega) only [gu, gu2, ile_t, ile_f, ilt_t, ilt_f, ieq_t, ieq_f, iz_lt, iz_eqt, iz_eqf, iz_le, im_eqf, im_eqt, im_lt, ob, nI_add, pk_mul, nI_clamp, if_true, if_false]
  | succ j ih =>
    intro x fc fm ts tn tb bo bi tk fS fG ch nw fr to hi hfc hfm he
    obtain ⟨f, rfl⟩ : ∃ f, fc = f + 1 := ⟨fc - 1, by omega⟩
    obtain ⟨g, rfl⟩ : ∃ g, fm = g + 1 := ⟨fm - 1, by omega⟩
    rw [fX7_chooseLettuces_82_s, fX8_lays_78_s, mo_cells hY.1]
    simp (disch := omega) only [gu, gu2, ile_t, ile_f, ilt_t, ilt_f, ieq_t, ieq_f, iz_lt, iz_eqt, iz_eqf, iz_le, im_eqf, im_eqt, im_lt, ob, nI_add, pk_mul, nI_clamp, if_true, if_false]
    rcases lay_in (N := N) (x := x) hY hS hN ha hb has (by omega) (fX7_chooseLettuces_82 N (nI a) (nI b) (nI s) (nI nt) (oI bg) nk (nI C) (nI n) (nI q) damps bes f) (fX8_lays_78 N (nI a) (nI b) told as g) (n - (x + 1)) (x + 1) N N ts tn tb bo bi tk fS fG ch nw fr to (by omega) (by omega) (by omega) he with ⟨ts', tn', tb', tk', fS', fG', ch', bo', bi', f', s2, nw', fr', to', a1, a2, a3, a4⟩ | ⟨ts', tn', tb', tk', fS', fG', ch', bo', bi', nw', fr', to', a1, a2, a3⟩
    · exact ⟨_, _, _, _, _, _, _, _, _, _, _, _, _, _, _, a1, a2, a3, a4⟩
    · rw [a2, a3]
      exact ih (x + 1) f g _ _ _ _ _ _ _ _ _ nw' _ _ (by omega) (by omega) (by omega) a1
theorem lay_one {R C n q N s nt a b : Nat} {d : Nat → Nat} {bes damps told nk now as : Nat → Int32} {bg : Option Nat} (hY : yAll R C n q d bes damps told) (hS : scR n nk s nt bg now) (hN : 100000 ≤ N) (ha : a ≤ 30) (hb : b ≤ 30) (has : eq28 as now) :
    ∀ (j x fc fm : Nat) (ts tn tb bo bi : Int32) (tk fS fG ch nw fr to : Nat → Int32), x + j = n → j < fc → j < fm → eq28 nw now →
    ∃ m ts' tn' tb' tk' fS' fG' ch' bo' bi' f' s2 nw' fr' to', eq28 nw' now ∧ ans m ch' f' s2 ∧ fX7_chooseLettuces_31 N (nI a) (nI b) (nI s) (nI nt) (oI bg) nk (nI C) (nI n) (nI q) damps bes fc (nI x) ts tn tb tk fS fG ch = some (m, ts', tn', tb', tk', fS', fG', ch') ∧ fX8_lays_29 N (nI a) (nI b) told as fm (nI x) bo bi nw fr to = some (m, bo', bi', f', s2, as, nw', fr', to') := by
  have h25 := hY.1.1.n25
  have hsn := hS.2.1.1
  intro j
  induction j with
  | zero =>
    intro x fc fm ts tn tb bo bi tk fS fG ch nw fr to hi hfc hfm he
    obtain ⟨f, rfl⟩ : ∃ f, fc = f + 1 := ⟨fc - 1, by omega⟩
    obtain ⟨g, rfl⟩ : ∃ g, fm = g + 1 := ⟨fm - 1, by omega⟩
    rw [fX7_chooseLettuces_31_s, fX8_lays_29_s, mo_cells hY.1]
    simp (disch := omega) only [gu, gu2, ile_t, ile_f, ilt_t, ilt_f, ieq_t, ieq_f, iz_lt, iz_eqt, iz_eqf, iz_le, im_eqf, im_eqt, im_lt, ob, nI_add, pk_mul, nI_clamp, if_true, if_false]
    exact lay_pairs (N := N) hY hS hN ha hb has n 0 N N ts tn tb bo bi tk fS fG ch nw fr to (by omega) (by omega) (by omega) he
  | succ j ih =>
    intro x fc fm ts tn tb bo bi tk fS fG ch nw fr to hi hfc hfm he
    obtain ⟨f, rfl⟩ : ∃ f, fc = f + 1 := ⟨fc - 1, by omega⟩
    obtain ⟨g, rfl⟩ : ∃ g, fm = g + 1 := ⟨fm - 1, by omega⟩
    have hS2 := scR_eq (by omega) hS (fun y _ => rfl) he
    have hfx := free (N := N) (x := x) (s := s) (K := nk) (now := nw) (by omega) (by omega) hS2.1.2.2.2 hS2.1.2.1
    rw [fX7_chooseLettuces_31_s, fX8_lays_29_s, mo_cells hY.1, hfx.1, hfx.2]
    simp (disch := omega) only [gu, gu2, ile_t, ile_f, ilt_t, ilt_f, ieq_t, ieq_f, iz_lt, iz_eqt, iz_eqf, iz_le, im_eqf, im_eqt, im_lt, ob, nI_add, pk_mul, nI_clamp, if_true, if_false]
    cases hqx : (decide (nk x = 0) && decide (x ≠ s)) with
    | false =>
      rw [fl_f]
      simp (disch := omega) only [gu, gu2, ile_t, ile_f, ilt_t, ilt_f, ieq_t, ieq_f, iz_lt, iz_eqt, iz_eqf, iz_le, im_eqf, im_eqt, im_lt, ob, nI_add, pk_mul, nI_clamp, if_true, if_false]
      exact ih (x + 1) f g _ _ _ _ _ _ _ _ _ nw _ _ (by omega) (by omega) (by omega) he
    | true =>
      rw [fl_t]
      simp (disch := omega) only [gu, gu2, ile_t, ile_f, ilt_t, ilt_f, ieq_t, ieq_f, iz_lt, iz_eqt, iz_eqf, iz_le, im_eqf, im_eqt, im_lt, ob, nI_add, pk_mul, nI_clamp, if_true, if_false]
      rw [cl_try (by omega) (by omega)]
      simp only [ob]
      have hS3 := scR_eq (by omega) (scR_two (tk := tk) (x := x) (y := x) (by omega) hS he (by omega) (by omega)) (fun _ _ => rfl) eq28_twice
      obtain ⟨w, r, K', s', nt', bg', nb, fr1, to1, hnb, c1, c2, c3⟩ := well (N := N) (as := as) (fr := fr) (to := to) hY hS3 hN ha hb
      obtain ⟨fS1, fG1, e1⟩ := c1 fS fG
      rw [e1, c3]
      simp only [ob]
      rw [c2]
      simp only [ob]
      have hnb2 : eq28 nb now := fun z hz => (hnb z hz).trans (has z hz)
      cases w with
      | false =>
        rw [fl_f]
        simp (disch := omega) only [gu, gu2, ile_t, ile_f, ilt_t, ilt_f, ieq_t, ieq_f, iz_lt, iz_eqt, iz_eqf, iz_le, im_eqf, im_eqt, im_lt, ob, nI_add, pk_mul, nI_clamp, if_true, if_false]
        exact ih (x + 1) f g _ _ _ _ _ _ _ _ _ nb _ _ (by omega) (by omega) (by omega) hnb2
      | true =>
        rw [fl_t]
        simp (disch := omega) only [gu, gu2, ile_t, ile_f, ilt_t, ilt_f, ieq_t, ieq_f, iz_lt, iz_eqt, iz_eqf, iz_le, im_eqf, im_eqt, im_lt, ob, nI_add, pk_mul, nI_clamp, if_true, if_false]
        exact ⟨_, _, _, _, _, _, _, _, _, _, _, _, _, _, _, hnb2, Or.inr (Or.inr (Or.inl ⟨rfl, by rw [upd_n (by omega), upd_s], rfl⟩)), rfl, rfl⟩
theorem p_layFor {R C n q N s nt : Nat} {d : Nat → Nat} {bes damps told nk now tk fS fG ch fr to aside : Nat → Int32} {bg : Option Nat} {ts tn tb bo bi f0 s0 : Int32} (hY : yAll R C n q d bes damps told) (hS : scR n nk s nt bg now) (hN : 100000 ≤ N) (p1 p2 p3 : Int32) :
    ∃ r ts' tn' tb' tk' fS' fG' ch' bo' bi' f' s' aside' now' fr' to', fX7_layFor N p1 p2 p3 ts tn tb (nI s) (nI nt) (oI bg) nk tk (nI C) (nI n) (nI q) damps fS bes fG ch = some (r, ts', tn', tb', tk', fS', fG', ch') ∧ fX8_layFor N bo bi f0 s0 p1 p2 p3 aside now told fr to = some (r, bo', bi', f', s', aside', now', fr', to') ∧ eq28 now' now := by
  have h25 := hY.1.1.n25
  have bad : ∃ r ts' tn' tb' tk' fS' fG' ch' bo' bi' f' s' aside' now' fr' to', some ((-1 : Int32), ts, tn, tb, tk, fS, fG, ch) = some (r, ts', tn', tb', tk', fS', fG', ch') ∧ some ((-1 : Int32), bo, bi, f0, s0, aside, now, fr, to) = some (r, bo', bi', f', s', aside', now', fr', to') ∧ eq28 now' now := ⟨_, _, _, _, _, _, _, _, _, _, _, _, _, _, _, _, rfl, rfl, fun _ _ => rfl⟩
  rw [fX7_layFor_e, fX8_layFor_e]
  have n30 : ∀ {x : Int32}, nI 31 ≤ x → nI 30 < x := fun {x} h => by
    rw [Int32.le_iff_toInt_le, nI_toInt (by omega)] at h
    rw [Int32.lt_iff_toInt_lt, nI_toInt (by omega)]
    omega
  rcases nI_S p1 30 (by omega) with hq | hq | ⟨a, ha, rfl⟩
  · rw [if_pos hq, mo_inN (by omega) (by omega) hq]
    simp only [ob]
    rw [iz_eqt rfl]
    exact bad
  · rw [if_neg (big_nlt0 (by omega) hq), if_pos (n30 hq), mo_inB (by omega) (by omega) hq]
    simp only [ob]
    rw [iz_eqt rfl]
    exact bad
  · rw [iz_lt (by omega), ilt_f (by omega) (by omega), mo_inY (by omega) (by omega) ha]
    simp only [ob]
    rw [iz_eqf (by omega) (by omega)]
    rcases nI_S p2 30 (by omega) with hq | hq | ⟨b, hb, rfl⟩
    · rw [if_pos hq, mo_inN (by omega) (by omega) hq]
      simp only [ob]
      rw [iz_eqt rfl]
      exact bad
    · rw [if_neg (big_nlt0 (by omega) hq), if_pos (n30 hq), mo_inB (by omega) (by omega) hq]
      simp only [ob]
      rw [iz_eqt rfl]
      exact bad
    · rw [iz_lt (by omega), ilt_f (by omega) (by omega), mo_inY (by omega) (by omega) hb]
      simp only [ob]
      rw [iz_eqf (by omega) (by omega)]
      rcases nI_S p3 2 (by omega) with hq | hq | ⟨k, hk, rfl⟩
      · rw [if_pos hq, mo_inN (by omega) (by omega) hq]
        simp only [ob]
        rw [iz_eqt rfl]
        exact bad
      · rw [if_neg (big_nlt0 (by omega) hq), if_neg (big_nle (by omega) (by omega) hq), mo_inB (by omega) (by omega) hq]
        simp only [ob]
        rw [iz_eqt rfl]
        exact bad
      · rw [iz_lt (by omega), ile_t (by omega) (by omega), mo_inY (by omega) (by omega) hk]
        simp only [ob]
        rw [iz_eqf (by omega) (by omega)]
        have main : ∃ m ts' tn' tb' tk' fS' fG' ch' bo' bi' f' s2 as nw' fr' to', eq28 nw' now ∧ ans m ch' f' s2 ∧ fX7_chooseLettuces N (nI a) (nI b) (nI s) (nI nt) (oI bg) nk tk (nI C) (nI n) (nI q) damps fS bes fG ch = some (m, ts', tn', tb', tk', fS', fG', ch') ∧ fX8_lays N (nI a) (nI b) aside now told fr to = some (m, bo', bi', f', s2, as, nw', fr', to') := by
          obtain ⟨as, has, e3⟩ := mo_asides (N := N) (aside := aside) (now := now) (by omega)
          have hS3 : scR n (va_cpy nk tk 0 0 25) s nt bg now := scR_eq (by omega) hS (fun y hy => cpy25 hy) (fun _ _ => rfl)
          obtain ⟨w, r, K', s', nt', bg', nb, fr1, to1, hnb, c1, c2, c3⟩ := well (N := N) (as := as) (fr := fr) (to := to) hY hS3 hN ha hb
          obtain ⟨fS1, fG1, e1⟩ := c1 fS fG
          have hnb2 : eq28 nb now := fun z hz => (hnb z hz).trans (has z hz)
          rw [fX7_chooseLettuces_e, fX8_lays_e, fX3_become_e, e3]
          simp only [ob]
          rw [e1, c3]
          simp only [ob]
          rw [c2]
          simp only [ob]
          cases w with
          | false =>
            rw [fl_f]
            simp (disch := omega) only [gu, gu2, ile_t, ile_f, ilt_t, ilt_f, ieq_t, ieq_f, iz_lt, iz_eqt, iz_eqf, iz_le, im_eqf, im_eqt, im_lt, ob, nI_add, pk_mul, nI_clamp, if_true, if_false]
            obtain ⟨m, ts', tn', tb', tk', fS', fG', ch', bo', bi', f', s2, nw', fr', to', q1, q2, q3, q4⟩ := lay_one (N := N) hY hS hN ha hb has n 0 N N (nI s') (nI nt') (oI bg') (mB bg') (nI s') K' fS1 fG1 ch nb fr1 to1 (by omega) (by omega) (by omega) hnb2
            exact ⟨m, ts', tn', tb', tk', fS', fG', ch', bo', bi', f', s2, as, nw', fr', to', q1, q2, q3, q4⟩
          | true =>
            rw [fl_t]
            simp (disch := omega) only [gu, gu2, ile_t, ile_f, ilt_t, ilt_f, ieq_t, ieq_f, iz_lt, iz_eqt, iz_eqf, iz_le, im_eqf, im_eqt, im_lt, ob, nI_add, pk_mul, nI_clamp, if_true, if_false]
            exact ⟨_, _, _, _, _, _, _, _, _, _, _, _, _, _, _, _, hnb2, Or.inr (Or.inl ⟨rfl, rfl, rfl⟩), rfl, rfl⟩
        obtain ⟨m, ts', tn', tb', tk', fS', fG', ch', bo', bi', f', s2, as, nw', fr', to', q1, q2, q3, q4⟩ := main
        rw [q3, q4]
        simp only [ob]
        rcases (show k = 0 ∨ k = 1 ∨ k = 2 by omega) with rfl | rfl | rfl
        · rw [iz_eqt rfl, iz_eqt rfl]
          exact ⟨_, _, _, _, _, _, _, _, _, _, _, _, _, _, _, _, rfl, rfl, q1⟩
        · rw [iz_eqf (by omega) (by omega), iz_eqf (by omega) (by omega)]
          rcases q2 with rfl | ⟨rfl, rfl, rfl⟩ | ⟨rfl, rfl, rfl⟩ | ⟨rfl, rfl, rfl⟩
          · rw [if_pos rfl, if_pos rfl]
            exact ⟨_, _, _, _, _, _, _, _, _, _, _, _, _, _, _, _, rfl, rfl, q1⟩
          · rw [pk_sub (by omega)]
            simp (disch := omega) only [gu, gu2, ile_t, ile_f, ilt_t, ilt_f, ieq_t, ieq_f, iz_lt, iz_eqt, iz_eqf, iz_le, im_eqf, im_eqt, im_lt, ob, nI_add, pk_mul, nI_clamp, if_true, if_false]
            exact ⟨_, _, _, _, _, _, _, _, _, _, _, _, _, _, _, _, rfl, rfl, q1⟩
          · rw [pk_sub (by omega)]
            simp (disch := omega) only [gu, gu2, ile_t, ile_f, ilt_t, ilt_f, ieq_t, ieq_f, iz_lt, iz_eqt, iz_eqf, iz_le, im_eqf, im_eqt, im_lt, ob, nI_add, pk_mul, nI_clamp, if_true, if_false]
            exact ⟨_, _, _, _, _, _, _, _, _, _, _, _, _, _, _, _, rfl, rfl, q1⟩
          · rw [pk_sub (by omega)]
            simp (disch := omega) only [gu, gu2, ile_t, ile_f, ilt_t, ilt_f, ieq_t, ieq_f, iz_lt, iz_eqt, iz_eqf, iz_le, im_eqf, im_eqt, im_lt, ob, nI_add, pk_mul, nI_clamp, if_true, if_false]
            exact ⟨_, _, _, _, _, _, _, _, _, _, _, _, _, _, _, _, rfl, rfl, q1⟩
        · rw [iz_eqf (by omega) (by omega), iz_eqf (by omega) (by omega)]
          rcases q2 with rfl | ⟨rfl, rfl, rfl⟩ | ⟨rfl, rfl, rfl⟩ | ⟨rfl, rfl, rfl⟩
          · rw [if_pos rfl, if_pos rfl]
            exact ⟨_, _, _, _, _, _, _, _, _, _, _, _, _, _, _, _, rfl, rfl, q1⟩
          · rw [pk_sub (by omega)]
            simp (disch := omega) only [gu, gu2, ile_t, ile_f, ilt_t, ilt_f, ieq_t, ieq_f, iz_lt, iz_eqt, iz_eqf, iz_le, im_eqf, im_eqt, im_lt, ob, nI_add, pk_mul, nI_clamp, if_true, if_false]
            exact ⟨_, _, _, _, _, _, _, _, _, _, _, _, _, _, _, _, rfl, rfl, q1⟩
          · rw [pk_sub (by omega)]
            simp (disch := omega) only [gu, gu2, ile_t, ile_f, ilt_t, ilt_f, ieq_t, ieq_f, iz_lt, iz_eqt, iz_eqf, iz_le, im_eqf, im_eqt, im_lt, ob, nI_add, pk_mul, nI_clamp, if_true, if_false]
            exact ⟨_, _, _, _, _, _, _, _, _, _, _, _, _, _, _, _, rfl, rfl, q1⟩
          · rw [pk_sub (by omega)]
            simp (disch := omega) only [gu, gu2, ile_t, ile_f, ilt_t, ilt_f, ieq_t, ieq_f, iz_lt, iz_eqt, iz_eqf, iz_le, im_eqf, im_eqt, im_lt, ob, nI_add, pk_mul, nI_clamp, if_true, if_false]
            exact ⟨_, _, _, _, _, _, _, _, _, _, _, _, _, _, _, _, rfl, rfl, q1⟩
