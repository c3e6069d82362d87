/-! ===== pass, lettuce, salt, stone, count ===== -/
theorem p_pass {R C n q N u s nt : Nat} {d : Nat → Nat} {bes damps told nk now fS fG fr to row und : Nat → Int32} {bg : Option Nat} (hY : yAll R C n q d bes damps told) (hu : u ≤ 8) (hP : pR n row und u) (hS : scR n nk s nt bg now) (hN : 100000 ≤ N) (p1 : Int32) :
    ∃ r u' s' nt' bg' nk' row' fS' fG' now' und' fr' to', u' ≤ 8 ∧ pR n row' und' u' ∧ scR n nk' s' nt' bg' now' ∧ fX7_pass N p1 (nI s) (nI nt) (oI bg) (nI 8) (nI u) 224 row nk (nI C) (nI n) (nI q) damps fS bes fG = some (r, nI s', nI nt', oI bg', nI u', row', nk', fS', fG') ∧ fX8_pass N (nI u) p1 now und told fr to = some (r, nI u', now', und', fr', to') := by
  have h25 := hY.1.1.n25
  have hno := hS.1.1
  have h999 := hS.2.2.1
  rw [fX7_pass_e, fX8_pass_e, hno]
  have hbad : ∀ r0 : Int32, ∃ r u' s' nt' bg' nk' row' fS' fG' now' und' fr' to', u' ≤ 8 ∧ pR n row' und' u' ∧ scR n nk' s' nt' bg' now' ∧ some (r0, nI s, nI nt, oI bg, nI u, row, nk, fS, fG) = some (r, nI s', nI nt', oI bg', nI u', row', nk', fS', fG') ∧ some (r0, nI u, now, und, fr, to) = some (r, nI u', now', und', fr', to') := fun r0 => ⟨r0, u, s, nt, bg, nk, row, fS, fG, now, und, fr, to, hu, hP, hS, rfl, rfl⟩
  rcases nI_S p1 30 (by omega) with hq | hq | ⟨j, hj, rfl⟩
  · rw [if_pos (neg_lt (by omega) hq), mo_inN (by omega) (by omega) hq]
    simp only [ob]
    rw [iz_eqt rfl]
    exact hbad _
  · rw [if_neg (big_nlt (by omega) (by omega) hq), if_neg (big_nle (by omega) (by omega) hq), mo_inB (by omega) (by omega) hq]
    simp only [ob]
    rw [iz_eqt rfl]
    exact hbad _
  · rcases Nat.eq_zero_or_pos j with h0 | h0
    · subst h0
      rw [mo_inZ (by omega) (by omega) (by omega) (Or.inl (by omega))]
      simp (disch := omega) only [gu, gu2, ile_t, ile_f, ilt_t, ilt_f, ieq_t, ieq_f, iz_lt, iz_eqt, iz_eqf, iz_le, im_eqf, im_eqt, im_lt, ob, nI_add, pk_mul, nI_clamp, if_true, if_false]
      exact hbad _
    · rw [mo_inY (by omega) (by omega) hj]
      simp (disch := omega) only [gu, gu2, ile_t, ile_f, ilt_t, ilt_f, ieq_t, ieq_f, iz_lt, iz_eqt, iz_eqf, iz_le, im_eqf, im_eqt, im_lt, ob, nI_add, pk_mul, nI_clamp, if_true, if_false]
      by_cases h9 : nt + j ≤ 999
      · simp (disch := omega) only [gu, gu2, ile_t, ile_f, ilt_t, ilt_f, ieq_t, ieq_f, iz_lt, iz_eqt, iz_eqf, iz_le, im_eqf, im_eqt, im_lt, ob, nI_add, pk_mul, nI_clamp, if_true, if_false]
        obtain ⟨row', und', u', a1, a2, a3, a4⟩ := p_note (N := N) (by omega) (by omega) hu hP hS
        obtain ⟨hm, hok, hnt, hbg⟩ := hS
        obtain ⟨K', s', bg', b1, b2, b3, b4⟩ := runs (N := N) hY hN j 0 nk s nt bg j (by omega) (by omega) (by omega) hok hbg
        obtain ⟨fS', fG', e1⟩ := b3 fS fG N (by omega)
        obtain ⟨now1, fr1, to1, hS1, e2⟩ := b4 now fr to N hm (by omega)
        refine ⟨nI (nt + j), u', s', nt + j, bg', K', row', fS', fG', now1, und', fr1, to1, a1, a2, ⟨hS1, b1, h9, b2⟩, ?_, ?_⟩
        · rw [a3]
          simp only [ob]
          rw [fX7_goNights_e, e1]
          rfl
        · rw [a4]
          simp only [ob]
          rw [fX8_goesOn_e, e2]
          simp only [ob]
          rw [hS1.1]
      · simp (disch := omega) only [gu, gu2, ile_t, ile_f, ilt_t, ilt_f, ieq_t, ieq_f, iz_lt, iz_eqt, iz_eqf, iz_le, im_eqf, im_eqt, im_lt, ob, nI_add, pk_mul, nI_clamp, if_true, if_false]
        exact hbad _
theorem cl_setKind {N x : Nat} {K : Nat → Int32} {k : Int32} (h : x < 25) : fX3_setKind N (nI x) k K = some (upd K x k) := by
  rw [fX3_setKind_e]
  simp (disch := omega) only [gu, gu2, ile_t, ile_f, ilt_t, ilt_f, ieq_t, ieq_f, iz_lt, iz_eqt, iz_eqf, iz_le, im_eqf, im_eqt, im_lt, ob, nI_add, pk_mul, nI_clamp, if_true, if_false]
/-- changing the kind of a cell in both -/
theorem scR_set {n s nt x : Nat} {K now : Nat → Int32} {bg : Option Nat} {k : Int32} (hn : n ≤ 25) (h : scR n K s nt bg now) (hx : x < 25) (hk : x = s → wk k < 1000) : scR n (upd K x k) s nt bg (upd now (3 + x) k) := by
  obtain ⟨⟨m0, m1, m2, m3⟩, ok, hnt, hbg⟩ := h
  refine ⟨⟨?_, ?_, ?_, fun y hy => ?_⟩, ⟨ok.1, ?_⟩, hnt, hbg⟩
  · rw [upd_n (by omega)]; exact m0
  · rw [upd_n (by omega)]; exact m1
  · rw [upd_n (by omega)]; exact m2
  · by_cases hyx : y = x
    · subst hyx; rw [upd_s, upd_s]
    · rw [upd_n (by omega), upd_n hyx]; exact m3 y hy
  · by_cases hs : s = x
    · subst hs; rw [upd_s]; exact hk rfl
    · rw [upd_n hs]; exact ok.2
/-- how many of a kind -/
def cnt (K : Nat → Int32) (k : Int32) : Nat → Nat
  | 0 => 0
  | i + 1 => cnt K k i + (if K i = k then 1 else 0)
theorem cnt_le (K : Nat → Int32) (k : Int32) (i : Nat) : cnt K k i ≤ i := by
  induction i with
  | zero => exact Nat.le_refl 0
  | succ i ih => simp only [cnt]; split <;> omega
theorem cl_count {N n : Nat} {K : Nat → Int32} {k : Int32} (hn : n ≤ 25) (hN : 100 ≤ N) : fX3_countOf N k (nI n) K = some (nI (cnt K k n)) := by
  rw [fX3_countOf_e]
  have key : ∀ (d i fuel : Nat), i + d = n → d < fuel → fX3_countOf_5 N k (nI n) K fuel (nI (cnt K k i)) (nI i) = some (nI (cnt K k n)) := by
    intro d
    induction d with
    | zero =>
      intro i fuel hi hf
      obtain ⟨f, rfl⟩ : ∃ f, fuel = f + 1 := ⟨fuel - 1, by omega⟩
      rw [fX3_countOf_5_s]
      simp (disch := omega) only [gu, gu2, ile_t, ile_f, ilt_t, ilt_f, ieq_t, ieq_f, iz_lt, iz_eqt, iz_eqf, iz_le, im_eqf, im_eqt, im_lt, ob, nI_add, pk_mul, nI_clamp, if_true, if_false]
      rw [show i = n by omega]
    | succ d ih =>
      intro i fuel hi hf
      obtain ⟨f, rfl⟩ : ∃ f, fuel = f + 1 := ⟨fuel - 1, by omega⟩
      have ih' := ih (i + 1) f (by omega) (by omega)
      simp only [cnt] at ih'
      rw [fX3_countOf_5_s, cl_kindAt (show i < 25 by omega)]
      simp (disch := omega) only [gu, gu2, ile_t, ile_f, ilt_t, ilt_f, ieq_t, ieq_f, iz_lt, iz_eqt, iz_eqf, iz_le, im_eqf, im_eqt, im_lt, ob, nI_add, pk_mul, nI_clamp, if_true, if_false]
      by_cases h : K i = k
      · rw [if_pos h] at ih'
        rw [if_pos h]; exact ih'
      · rw [if_neg h, Nat.add_zero] at ih'
        rw [if_neg h]; exact ih'
  exact key n 0 N (by omega) (by omega)
theorem mo_many {R C n N : Nat} {K told now : Nat → Int32} {k : Int32} (hY : mYd R C n told) (hK : ∀ y, y < 25 → now (3 + y) = K y) (hN : 100 ≤ N) : fX8_many N k told now = some (nI (cnt K k n)) := by
  have h25 := hY.1.n25
  rw [fX8_many_e]
  have key : ∀ (d i fuel : Nat), i + d = n → d < fuel → fX8_many_4 N k told now fuel (nI (cnt K k i)) (nI i) = some (nI (cnt K k n)) := by
    intro d
    induction d with
    | zero =>
      intro i fuel hi hf
      obtain ⟨f, rfl⟩ : ∃ f, fuel = f + 1 := ⟨fuel - 1, by omega⟩
      rw [fX8_many_4_s, mo_cells hY]
      simp (disch := omega) only [gu, gu2, ile_t, ile_f, ilt_t, ilt_f, ieq_t, ieq_f, iz_lt, iz_eqt, iz_eqf, iz_le, im_eqf, im_eqt, im_lt, ob, nI_add, pk_mul, nI_clamp, if_true, if_false]
      rw [show i = n by omega]
    | succ d ih =>
      intro i fuel hi hf
      obtain ⟨f, rfl⟩ : ∃ f, fuel = f + 1 := ⟨fuel - 1, by omega⟩
      have ih' := ih (i + 1) f (by omega) (by omega)
      simp only [cnt] at ih'
      rw [fX8_many_4_s, mo_cells hY, mo_kind hK (show i < 25 by omega)]
      simp (disch := omega) only [gu, gu2, ile_t, ile_f, ilt_t, ilt_f, ieq_t, ieq_f, iz_lt, iz_eqt, iz_eqf, iz_le, im_eqf, im_eqt, im_lt, ob, nI_add, pk_mul, nI_clamp, if_true, if_false]
      by_cases h : K i = k
      · rw [if_pos h] at ih'
        rw [if_pos h]; exact ih'
      · rw [if_neg h] at ih'
        rw [if_neg h]; exact ih'
  exact key n 0 N (by omega) (by omega)
/-- grass where the snail is not: both -/
theorem free {N x s : Nat} {K now : Nat → Int32} (hx : x < 25) (hs : s < 25) (hK : ∀ y, y < 25 → now (3 + y) = K y) (h1 : now 1 = nI s) : fX7_isFreeGrass N (nI x) (nI s) K = some (fl (decide (K x = 0) && decide (x ≠ s))) ∧ fX8_mayLay N (nI x) now = some (fl (decide (K x = 0) && decide (x ≠ s))) := by
  rw [fX7_isFreeGrass_e, fX8_mayLay_e, cl_kindAt hx, mo_kind hK hx, h1]
  simp only [ob]
  by_cases h : K x = 0
  · rw [if_pos h, if_pos h]
    by_cases h2 : x = s
    · subst h2
      rw [if_pos rfl]; simp [fl]
    · rw [if_neg (fun e => h2 ((nI_eq (by omega) (by omega)).mp e)), if_neg (fun e => h2 ((nI_eq (by omega) (by omega)).mp e).symm)]
      simp [fl, h, h2]
  · rw [if_neg h, if_neg h]; simp [fl, h]
theorem p_lettuce {R C n N u s nt : Nat} {told nk now row und : Nat → Int32} {bg : Option Nat} (hY : mYd R C n told) (hu : u ≤ 8) (hP : pR n row und u) (hS : scR n nk s nt bg now) (hN : 100000 ≤ N) (p1 : Int32) :
    ∃ r u' nk' row' now' und', u' ≤ 8 ∧ pR n row' und' u' ∧ scR n nk' s nt bg now' ∧ fX7_lettuce N p1 (nI n) (nI s) (nI nt) (oI bg) nk (nI 8) (nI u) 224 row = some (r, nk', nI u', row') ∧ fX8_lettuce N (nI u) p1 told now und = some (r, nI u', now', und') := by
  have h25 := hY.1.n25
  have hsn := hS.2.1.1
  have hbad : ∀ r0 : Int32, ∃ r u' nk' row' now' und', u' ≤ 8 ∧ pR n row' und' u' ∧ scR n nk' s nt bg now' ∧ some (r0, nk, nI u, row) = some (r, nk', nI u', row') ∧ some (r0, nI u, now, und) = some (r, nI u', now', und') := fun r0 => ⟨r0, u, nk, row, now, und, hu, hP, hS, rfl, rfl⟩
  rw [fX7_lettuce_e, fX8_lettuce_e]
  rcases isC (N := N) hY p1 with ⟨h1, h2⟩ | ⟨x, hx, rfl, h1, h2⟩
  · rw [h1, h2]
    simp only [ob]
    rw [iz_eqt rfl, iz_eqt rfl]
    exact hbad _
  · rw [h1, h2, (free (N := N) (show x < 25 by omega) (show s < 25 by omega) hS.1.2.2.2 hS.1.2.1).1, mo_kind hS.1.2.2.2 (show x < 25 by omega), hS.1.2.1]
    simp (disch := omega) only [gu, gu2, ile_t, ile_f, ilt_t, ilt_f, ieq_t, ieq_f, iz_lt, iz_eqt, iz_eqf, iz_le, im_eqf, im_eqt, im_lt, ob, nI_add, pk_mul, nI_clamp, if_true, if_false]
    by_cases hk : nk x = 0
    · rw [if_pos hk]
      by_cases hxs : x = s
      · subst hxs
        rw [if_pos rfl]
        simp only [hk, ne_eq, not_true_eq_false, decide_false, Bool.and_false, fl_f]
        rw [iz_eqt rfl]
        exact hbad _
      · rw [if_neg (fun e => hxs ((nI_eq (by omega) (by omega)).mp e).symm)]
        have hfl : fl (decide (nk x = 0) && decide (x ≠ s)) = nI 1 := by simp [hk, hxs, fl]
        rw [hfl]
        obtain ⟨row', und', u', a1, a2, a3, a4⟩ := p_note (N := N) (by omega) (by omega) hu hP hS
        have hS' := scR_set (k := nI 3) (x := x) (by omega) hS (by omega) (fun _ => by decide)
        refine ⟨nI (cnt (upd nk x (nI 3)) (nI 3) n), u', upd nk x (nI 3), row', upd now (3 + x) (nI 3), und', a1, a2, hS', ?_, ?_⟩
        · simp (disch := omega) only [gu, gu2, ile_t, ile_f, ilt_t, ilt_f, ieq_t, ieq_f, iz_lt, iz_eqt, iz_eqf, iz_le, im_eqf, im_eqt, im_lt, ob, nI_add, pk_mul, nI_clamp, if_true, if_false]
          rw [a3]
          simp only [ob]
          rw [cl_setKind (show x < 25 by omega)]
          simp only [ob]
          rw [cl_count (by omega) (by omega)]
          rfl
        · rw [a4]
          simp (disch := omega) only [gu, gu2, ile_t, ile_f, ilt_t, ilt_f, ieq_t, ieq_f, iz_lt, iz_eqt, iz_eqf, iz_le, im_eqf, im_eqt, im_lt, ob, nI_add, pk_mul, nI_clamp, if_true, if_false]
          rw [mo_many hY hS'.1.2.2.2 (by omega)]
          rfl
    · rw [if_neg hk]
      have hfl : fl (decide (nk x = 0) && decide (x ≠ s)) = nI 0 := by simp [hk, fl]
      rw [hfl, iz_eqt rfl]
      exact hbad _
theorem p_salt {R C n N u s nt : Nat} {told nk now row und : Nat → Int32} {bg : Option Nat} (hY : mYd R C n told) (hu : u ≤ 8) (hP : pR n row und u) (hS : scR n nk s nt bg now) (hN : 100000 ≤ N) (p1 : Int32) :
    ∃ r u' nk' row' now' und', u' ≤ 8 ∧ pR n row' und' u' ∧ scR n nk' s nt bg now' ∧ fX7_salt N p1 (nI n) (nI s) (nI nt) (oI bg) nk (nI 8) (nI u) 224 row = some (r, nk', nI u', row') ∧ fX8_salt N (nI u) p1 told now und = some (r, nI u', now', und') := by
  have h25 := hY.1.n25
  have hsn := hS.2.1.1
  have hbad : ∀ r0 : Int32, ∃ r u' nk' row' now' und', u' ≤ 8 ∧ pR n row' und' u' ∧ scR n nk' s nt bg now' ∧ some (r0, nk, nI u, row) = some (r, nk', nI u', row') ∧ some (r0, nI u, now, und) = some (r, nI u', now', und') := fun r0 => ⟨r0, u, nk, row, now, und, hu, hP, hS, rfl, rfl⟩
  rw [fX7_salt_e, fX8_salt_e]
  rcases isC (N := N) hY p1 with ⟨h1, h2⟩ | ⟨x, hx, rfl, h1, h2⟩
  · rw [h1, h2]
    simp only [ob]
    rw [iz_eqt rfl, iz_eqt rfl]
    exact hbad _
  · rw [h1, h2, cl_kindAt (show x < 25 by omega), mo_kind hS.1.2.2.2 (show x < 25 by omega), hS.1.2.1]
    simp (disch := omega) only [gu, gu2, ile_t, ile_f, ilt_t, ilt_f, ieq_t, ieq_f, iz_lt, iz_eqt, iz_eqf, iz_le, im_eqf, im_eqt, im_lt, ob, nI_add, pk_mul, nI_clamp, if_true, if_false]
    by_cases hxs : x = s
    · subst hxs
      rw [if_pos rfl]
      by_cases k1 : nk x = nI 1
      · rw [if_pos k1]; exact hbad _
      · rw [if_neg k1]
        by_cases k2 : nk x = nI 2
        · rw [if_pos k2]; exact hbad _
        · rw [if_neg k2, if_pos rfl]; exact hbad _
    · rw [if_neg (fun e => hxs ((nI_eq (by omega) (by omega)).mp e))]
      by_cases k1 : nk x = nI 1
      · rw [if_pos k1, if_pos k1]; exact hbad _
      · rw [if_neg k1, if_neg k1]
        by_cases k2 : nk x = nI 2
        · rw [if_pos k2, if_pos k2]; exact hbad _
        · rw [if_neg k2, if_neg k2, if_neg (fun e => hxs ((nI_eq (by omega) (by omega)).mp e).symm)]
          obtain ⟨row', und', u', a1, a2, a3, a4⟩ := p_note (N := N) (by omega) (by omega) hu hP hS
          have hS' := scR_set (k := nI 2) (x := x) (by omega) hS (by omega) (fun e => absurd e hxs)
          refine ⟨nk x, u', upd nk x (nI 2), row', upd now (3 + x) (nI 2), und', a1, a2, hS', ?_, ?_⟩
          · rw [a3]
            simp only [ob]
            rw [cl_setKind (show x < 25 by omega)]
            rfl
          · rw [a4]
            simp (disch := omega) only [gu, gu2, ile_t, ile_f, ilt_t, ilt_f, ieq_t, ieq_f, iz_lt, iz_eqt, iz_eqf, iz_le, im_eqf, im_eqt, im_lt, ob, nI_add, pk_mul, nI_clamp, if_true, if_false]
theorem p_stone {R C n N u s nt : Nat} {told nk now row und : Nat → Int32} {bg : Option Nat} (hY : mYd R C n told) (hu : u ≤ 8) (hP : pR n row und u) (hS : scR n nk s nt bg now) (hN : 100000 ≤ N) (p1 p2 : Int32) :
    ∃ r u' nk' row' now' und', u' ≤ 8 ∧ pR n row' und' u' ∧ scR n nk' s nt bg now' ∧ fX7_stone N p1 p2 (nI n) (nI s) (nI nt) (oI bg) nk (nI 8) (nI u) 224 row = some (r, nk', nI u', row') ∧ fX8_stone N (nI u) p1 p2 told now und = some (r, nI u', now', und') := by
  have h25 := hY.1.n25
  have hsn := hS.2.1.1
  have hbad : ∀ r0 : Int32, ∃ r u' nk' row' now' und', u' ≤ 8 ∧ pR n row' und' u' ∧ scR n nk' s nt bg now' ∧ some (r0, nk, nI u, row) = some (r, nk', nI u', row') ∧ some (r0, nI u, now, und) = some (r, nI u', now', und') := fun r0 => ⟨r0, u, nk, row, now, und, hu, hP, hS, rfl, rfl⟩
  rw [fX7_stone_e, fX8_stone_e]
  rcases isC (N := N) hY p1 with ⟨h1, h2⟩ | ⟨x, hx, rfl, h1, h2⟩
  · rw [h1, h2]
    simp only [ob]
    rw [iz_eqt rfl, iz_eqt rfl]
    exact hbad _
  · rw [h1, h2]
    simp only [ob]
    rw [iz_eqf (by omega) (by omega), iz_eqf (by omega) (by omega)]
    rcases isC (N := N) hY p2 with ⟨g1, g2⟩ | ⟨y, hy, rfl, g1, g2⟩
    · rw [g1, g2]
      simp only [ob]
      rw [iz_eqt rfl, iz_eqt rfl]
      exact hbad _
    · rw [g1, g2, cl_kindAt (show x < 25 by omega), mo_kind hS.1.2.2.2 (show x < 25 by omega), (free (N := N) (show y < 25 by omega) (show s < 25 by omega) hS.1.2.2.2 hS.1.2.1).1, mo_kind hS.1.2.2.2 (show y < 25 by omega), hS.1.2.1]
      simp (disch := omega) only [gu, gu2, ile_t, ile_f, ilt_t, ilt_f, ieq_t, ieq_f, iz_lt, iz_eqt, iz_eqf, iz_le, im_eqf, im_eqt, im_lt, ob, nI_add, pk_mul, nI_clamp, if_true, if_false]
      by_cases k1 : nk x = nI 1
      · rw [if_pos k1, if_pos k1]
        by_cases hk : nk y = 0
        · rw [if_pos hk]
          by_cases hys : y = s
          · subst hys
            rw [if_pos rfl]
            simp only [hk, ne_eq, not_true_eq_false, decide_false, Bool.and_false, fl_f]
            rw [iz_eqt rfl]
            exact hbad _
          · rw [if_neg (fun e => hys ((nI_eq (by omega) (by omega)).mp e).symm)]
            have hfl : fl (decide (nk y = 0) && decide (y ≠ s)) = nI 1 := by simp [hk, hys, fl]
            rw [hfl]
            obtain ⟨row', und', u', a1, a2, a3, a4⟩ := p_note (N := N) (by omega) (by omega) hu hP hS
            have hS1 := scR_set (k := nI 0) (x := x) (by omega) hS (by omega) (fun _ => by decide)
            have hS' := scR_set (k := nI 1) (x := y) (by omega) hS1 (by omega) (fun e => absurd e hys)
            refine ⟨nI (cnt (upd (upd nk x (nI 0)) y (nI 1)) (nI 1) n), u', upd (upd nk x (nI 0)) y (nI 1), row', upd (upd now (3 + x) (nI 0)) (3 + y) (nI 1), und', a1, a2, hS', ?_, ?_⟩
            · simp (disch := omega) only [gu, gu2, ile_t, ile_f, ilt_t, ilt_f, ieq_t, ieq_f, iz_lt, iz_eqt, iz_eqf, iz_le, im_eqf, im_eqt, im_lt, ob, nI_add, pk_mul, nI_clamp, if_true, if_false]
              rw [a3]
              simp only [ob]
              rw [cl_setKind (show x < 25 by omega)]
              simp only [ob]
              rw [cl_setKind (show y < 25 by omega)]
              simp only [ob]
              rw [cl_count (by omega) (by omega)]
              rfl
            · rw [a4]
              simp (disch := omega) only [gu, gu2, ile_t, ile_f, ilt_t, ilt_f, ieq_t, ieq_f, iz_lt, iz_eqt, iz_eqf, iz_le, im_eqf, im_eqt, im_lt, ob, nI_add, pk_mul, nI_clamp, if_true, if_false]
              rw [mo_many hY hS'.1.2.2.2 (by omega)]
              rfl
        · rw [if_neg hk]
          have hfl : fl (decide (nk y = 0) && decide (y ≠ s)) = nI 0 := by simp [hk, fl]
          rw [hfl, iz_eqt rfl]
          exact hbad _
      · rw [if_neg k1, if_neg k1]
        exact hbad _
