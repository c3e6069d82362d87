/-! ===== piles of scenes ===== -/
/-- entry i of the class's row and of the reference's is one scene -/
def pE (n : Nat) (row und : Nat → Int32) (i : Nat) : Prop := ∃ s nt bg, row (i * 28 + 25) = nI s ∧ row (i * 28 + 26) = nI nt ∧ row (i * 28 + 27) = oI bg ∧ scR n (fun y => row (i * 28 + y)) s nt bg (fun j => und (i * 28 + j))
def pR (n : Nat) (row und : Nat → Int32) (u : Nat) : Prop := ∀ i, i < u → pE n row und i
theorem scR_eq {n s nt : Nat} {K K' now now' : Nat → Int32} {bg : Option Nat} (hn : n ≤ 25) (h : scR n K s nt bg now) (hK : ∀ y, y < 25 → K' y = K y) (hw : eq28 now' now) : scR n K' s nt bg now' :=
  ⟨mSc_K (mSc_eq28 h.1 hw) hK, okSc_K h.2.1 hn hK, h.2.2.1, h.2.2.2⟩
theorem pE_eq {n i j : Nat} {row row' und und' : Nat → Int32} (hn : n ≤ 25) (h : pE n row und i) (h1 : ∀ y, y < 28 → row' (j * 28 + y) = row (i * 28 + y)) (h2 : ∀ y, y < 28 → und' (j * 28 + y) = und (i * 28 + y)) : pE n row' und' j := by
  obtain ⟨s, nt, bg, a, b, c, e⟩ := h
  exact ⟨s, nt, bg, by rw [h1 25 (by omega)]; exact a, by rw [h1 26 (by omega)]; exact b, by rw [h1 27 (by omega)]; exact c, scR_eq hn e (fun y hy => h1 y (by omega)) (fun y hy => h2 y hy)⟩
/-- putting a scene away at i -/
theorem cl_put {N L i : Nat} {row K : Nat → Int32} {s nt bg : Int32} (hL : i * 28 + 28 ≤ L) (hL2 : L < 1000) : ∃ row', (∀ y, y < 25 → row' (i * 28 + y) = K y) ∧ row' (i * 28 + 25) = s ∧ row' (i * 28 + 26) = nt ∧ row' (i * 28 + 27) = bg ∧ (∀ j, j < i * 28 → row' j = row j) ∧ fX3_putInto N s nt bg L row (nI (i * 28)) K = some row' := by
  refine ⟨upd (upd (upd (va_cpy K row 0 (i * 28) 25) (i * 28 + 25) s) (i * 28 + 26) nt) (i * 28 + 27) bg, fun y hy => ?_, ?_, ?_, ?_, fun j hj => ?_, ?_⟩
  · rw [upd_n (by omega), upd_n (by omega), upd_n (by omega), pk_cpy_in (by omega) (by omega)]
    congr 1
    omega
  · rw [upd_n (by omega), upd_n (by omega), upd_s]
  · rw [upd_n (by omega), upd_s]
  · rw [upd_s]
  · rw [upd_n (by omega), upd_n (by omega), upd_n (by omega), pk_cpy_out (by omega)]
  · rw [fX3_putInto_e, pk_sub (show 28 ≤ L by omega)]
    simp (disch := omega) only [gu, gu2, ile_t, ile_f, ilt_t, ilt_f, ieq_t, ieq_f, iz_lt, iz_eqt, iz_eqf, iz_le, im_eqf, im_eqt, im_lt, ob, nI_add, pk_mul, nI_clamp, if_true, if_false]
    rw [if_pos ⟨by decide, nI_pos (by omega), by decide, by decide, by omega⟩]
theorem cl_push {N M u : Nat} {row K : Nat → Int32} {s nt bg : Int32} (hM : M ≤ 8) (hM0 : 0 < M) (hu : u ≤ M) : ∃ row', (u < M → (∀ y, y < 25 → row' (u * 28 + y) = K y) ∧ row' (u * 28 + 25) = s ∧ row' (u * 28 + 26) = nt ∧ row' (u * 28 + 27) = bg ∧ ∀ j, j < u * 28 → row' j = row j) ∧ (u = M → (∀ y, y < 25 → row' ((M - 1) * 28 + y) = K y) ∧ row' ((M - 1) * 28 + 25) = s ∧ row' ((M - 1) * 28 + 26) = nt ∧ row' ((M - 1) * 28 + 27) = bg ∧ ∀ j, j < (M - 1) * 28 → row' j = row (28 + j)) ∧
    fX1_add N (nI M) (nI u) s nt bg (M * 28) row K = some (nI (if u < M then u + 1 else M), row') := by
  rw [fX1_add_e]
  by_cases h : u < M
  · obtain ⟨row', a, b, c, e, f, g⟩ := cl_put (N := N) (L := M * 28) (i := u) (row := row) (K := K) (s := s) (nt := nt) (bg := bg) (by omega) (by omega)
    refine ⟨row', fun _ => ⟨a, b, c, e, f⟩, fun q => by omega, ?_⟩
    simp (disch := omega) only [gu, gu2, ile_t, ile_f, ilt_t, ilt_f, ieq_t, ieq_f, iz_lt, iz_eqt, iz_eqf, iz_le, im_eqf, im_eqt, im_lt, ob, nI_add, pk_mul, nI_clamp, if_true, if_false]
    rw [fX1_add_44_e]
    simp (disch := omega) only [gu, gu2, ile_t, ile_f, ilt_t, ilt_f, ieq_t, ieq_f, iz_lt, iz_eqt, iz_eqf, iz_le, im_eqf, im_eqt, im_lt, ob, nI_add, pk_mul, nI_clamp, if_true, if_false]
    rw [g, if_pos h]
    rfl
  · have hum : u = M := by omega
    obtain ⟨row', a, b, c, e, f, g⟩ := cl_put (N := N) (L := M * 28) (i := M - 1) (row := va_cpy row row 28 0 ((M - 1) * 28)) (K := K) (s := s) (nt := nt) (bg := bg) (by omega) (by omega)
    refine ⟨row', fun q => by omega, fun _ => ⟨a, b, c, e, fun j hj => ?_⟩, ?_⟩
    · rw [f j hj, pk_cpy_in (by omega) (by omega)]
      congr 1
    · rw [pk_sub (show 1 ≤ M by omega)]
      simp (disch := omega) only [gu, gu2, ile_t, ile_f, ilt_t, ilt_f, ieq_t, ieq_f, iz_lt, iz_eqt, iz_eqf, iz_le, im_eqf, im_eqt, im_lt, ob, nI_add, pk_mul, nI_clamp, if_true, if_false]
      rw [if_pos ⟨by decide, by decide, nI_pos (by omega), by omega, by omega⟩, fX1_add_44_e]
      simp (disch := omega) only [gu, gu2, ile_t, ile_f, ilt_t, ilt_f, ieq_t, ieq_f, iz_lt, iz_eqt, iz_eqf, iz_le, im_eqf, im_eqt, im_lt, ob, nI_add, pk_mul, nI_clamp, if_true, if_false]
      rw [g, if_neg h, show M - 1 + 1 = M by omega]
      rfl
theorem mo_no48 {u : Nat} {now : Nat → Int32} (hu : u ≤ 7) : ∀ (d i fuel : Nat) (und : Nat → Int32), i + d = 28 → d < fuel → (∀ j, j < i → und (u * 28 + j) = now j) → ∃ und', (∀ j, j < 28 → und' (u * 28 + j) = now j) ∧ (∀ j, j < u * 28 → und' j = und j) ∧ fX8_notes_48 now (nI u) fuel (nI i) und = some (nI (u + 1), und') := by
  intro d
  induction d with
  | zero =>
    intro i fuel und hi hf hp
    obtain ⟨f, rfl⟩ : ∃ f, fuel = f + 1 := ⟨fuel - 1, by omega⟩
    refine ⟨und, fun j hj => hp j (by omega), fun _ _ => rfl, ?_⟩
    rw [fX8_notes_48_s]
    simp (disch := omega) only [gu, gu2, ile_t, ile_f, ilt_t, ilt_f, ieq_t, ieq_f, iz_lt, iz_eqt, iz_eqf, iz_le, im_eqf, im_eqt, im_lt, ob, nI_add, pk_mul, nI_clamp, if_true, if_false]
  | succ d ih =>
    intro i fuel und hi hf hp
    obtain ⟨f, rfl⟩ : ∃ f, fuel = f + 1 := ⟨fuel - 1, by omega⟩
    rw [fX8_notes_48_s]
    simp (disch := omega) only [gu, gu2, ile_t, ile_f, ilt_t, ilt_f, ieq_t, ieq_f, iz_lt, iz_eqt, iz_eqf, iz_le, im_eqf, im_eqt, im_lt, ob, nI_add, pk_mul, nI_clamp, if_true, if_false]
    obtain ⟨und', a, b, c⟩ := ih (i + 1) f (upd und (28 * u + i) (now i)) (by omega) (by omega) (fun j hj => by
      by_cases h : j = i
      · subst h; rw [show u * 28 + j = 28 * u + j by omega]; exact upd_s
      · rw [upd_n (by omega)]; exact hp j (by omega))
    exact ⟨und', a, fun j hj => by rw [b j hj, upd_n (by omega)], c⟩
theorem mo_no12 {N : Nat} {now : Nat → Int32} : ∀ (d i fuel : Nat) (und : Nat → Int32), i + d = 224 → 28 ≤ i → d < fuel → ∃ und', (∀ j, j < i - 28 → und' j = und j) ∧ (∀ j, i - 28 ≤ j → j < 196 → und' j = und (28 + j)) ∧ fX8_notes_12 N now fuel (nI i) und = fX8_notes_46 N now (nI 7) und' := by
  intro d
  induction d with
  | zero =>
    intro i fuel und hi h28 hf
    obtain ⟨f, rfl⟩ : ∃ f, fuel = f + 1 := ⟨fuel - 1, by omega⟩
    refine ⟨und, fun _ _ => rfl, fun j h1 h2 => by omega, ?_⟩
    rw [fX8_notes_12_s]
    simp (disch := omega) only [gu, gu2, ile_t, ile_f, ilt_t, ilt_f, ieq_t, ieq_f, iz_lt, iz_eqt, iz_eqf, iz_le, im_eqf, im_eqt, im_lt, ob, nI_add, pk_mul, nI_clamp, if_true, if_false]
  | succ d ih =>
    intro i fuel und hi h28 hf
    obtain ⟨f, rfl⟩ : ∃ f, fuel = f + 1 := ⟨fuel - 1, by omega⟩
    rw [fX8_notes_12_s, pk_sub h28]
    simp (disch := omega) only [gu, gu2, ile_t, ile_f, ilt_t, ilt_f, ieq_t, ieq_f, iz_lt, iz_eqt, iz_eqf, iz_le, im_eqf, im_eqt, im_lt, ob, nI_add, pk_mul, nI_clamp, if_true, if_false]
    obtain ⟨und', a, b, c⟩ := ih (i + 1) f (upd und (i - 28) (und i)) (by omega) (by omega) (by omega)
    refine ⟨und', fun j hj => by rw [a j (by omega), upd_n (by omega)], fun j h1 h2 => ?_, c⟩
    by_cases h : j = i - 28
    · rw [a j (by omega), h, upd_s]
      congr 1
      omega
    · rw [b j (by omega) h2, upd_n (by omega)]
/-- noting how things stand: both piles grow by it -/
theorem p_note {n N u s nt : Nat} {row und nk now : Nat → Int32} {bg : Option Nat} (hn : n ≤ 25) (hN : 1000 ≤ N) (hu : u ≤ 8) (hP : pR n row und u) (hS : scR n nk s nt bg now) : ∃ row' und' u', u' ≤ 8 ∧ pR n row' und' u' ∧ fX1_add N (nI 8) (nI u) (nI s) (nI nt) (oI bg) 224 row nk = some (nI u', row') ∧ fX8_notes N (nI u) und now = some (nI u', und') := by
  obtain ⟨row', c1, c2, c3⟩ := cl_push (N := N) (M := 8) (u := u) (row := row) (K := nk) (s := nI s) (nt := nI nt) (bg := oI bg) (by omega) (by omega) hu
  rw [fX8_notes_e]
  by_cases h : u < 8
  · obtain ⟨a, b, c, e, f⟩ := c1 h
    obtain ⟨und', m1, m2, m3⟩ := mo_no48 (u := u) (now := now) (by omega) 28 0 N und (by omega) (by omega) (fun j hj => by omega)
    refine ⟨row', und', u + 1, by omega, fun i hi => ?_, by rw [if_pos h] at c3; exact c3, ?_⟩
    · by_cases hiu : i = u
      · subst hiu
        exact ⟨s, nt, bg, b, c, e, scR_eq hn hS a m1⟩
      · exact pE_eq hn (hP i (by omega)) (fun y hy => f _ (by omega)) (fun y hy => m2 _ (by omega))
    · simp (disch := omega) only [gu, gu2, ile_t, ile_f, ilt_t, ilt_f, ieq_t, ieq_f, iz_lt, iz_eqt, iz_eqf, iz_le, im_eqf, im_eqt, im_lt, ob, nI_add, pk_mul, nI_clamp, if_true, if_false]
      rw [fX8_notes_46_e]
      exact m3
  · have h8 : u = 8 := by omega
    subst h8
    obtain ⟨a, b, c, e, f⟩ := c2 rfl
    obtain ⟨und1, s1, s2, s3⟩ := mo_no12 (N := N) (now := now) 196 28 N und (by omega) (by omega) (by omega)
    obtain ⟨und', m1, m2, m3⟩ := mo_no48 (u := 7) (now := now) (by omega) 28 0 N und1 (by omega) (by omega) (fun j hj => by omega)
    refine ⟨row', und', 8, by omega, fun i hi => ?_, by rw [if_neg (by omega)] at c3; exact c3, ?_⟩
    · by_cases hiu : i = 7
      · subst hiu
        exact ⟨s, nt, bg, b, c, e, scR_eq hn hS a m1⟩
      · exact pE_eq hn (hP (i + 1) (by omega)) (fun y hy => by rw [f _ (by omega)]; congr 1; omega) (fun y hy => by rw [m2 _ (by omega), s2 _ (by omega) (by omega)]; congr 1; omega)
    · simp (disch := omega) only [gu, gu2, ile_t, ile_f, ilt_t, ilt_f, ieq_t, ieq_f, iz_lt, iz_eqt, iz_eqf, iz_le, im_eqf, im_eqt, im_lt, ob, nI_add, pk_mul, nI_clamp, if_true, if_false]
      rw [s3, fX8_notes_46_e]
      exact m3
/-- taking the last one -/
theorem cl_take {N M u : Nat} {row K : Nat → Int32} {s nt bg : Int32} (hM : M ≤ 8) (hu : u + 1 ≤ M) : ∃ K', (∀ y, y < 25 → K' y = row (u * 28 + y)) ∧ fX1_takeInto N (nI (u + 1)) s nt bg (M * 28) row K = some (nI 1, nI u, row (u * 28 + 25), row (u * 28 + 26), row (u * 28 + 27), K') := by
  refine ⟨va_cpy row K (u * 28) 0 25, fun y hy => by rw [pk_cpy_in (by omega) (by omega)]; congr 1, ?_⟩
  rw [fX1_takeInto_e, pk_sub (show 1 ≤ u + 1 by omega), if_pos (show (0 : Int32) < nI (u + 1) from nI_lt (a := 0) (by omega) (by omega)), show u + 1 - 1 = u by omega]
  simp (disch := omega) only [gu, gu2, ile_t, ile_f, ilt_t, ilt_f, ieq_t, ieq_f, iz_lt, iz_eqt, iz_eqf, iz_le, im_eqf, im_eqt, im_lt, ob, nI_add, pk_mul, nI_clamp, if_true, if_false]
  rw [fX3_takeFrom_e, pk_sub (show 28 ≤ M * 28 by omega)]
  simp (disch := omega) only [gu, gu2, ile_t, ile_f, ilt_t, ilt_f, ieq_t, ieq_f, iz_lt, iz_eqt, iz_eqf, iz_le, im_eqf, im_eqt, im_lt, ob, nI_add, pk_mul, nI_clamp, if_true, if_false]
  rw [if_pos ⟨nI_pos (by omega), by decide, by decide, by omega, by decide⟩]
  rfl
theorem mo_un22 {u : Nat} {und : Nat → Int32} (hu : u ≤ 7) : ∀ (d i fuel : Nat) (p : Nat → Int32), i + d = 28 → d < fuel → (∀ j, j < i → p j = und (u * 28 + j)) → ∃ p', (∀ j, j < 28 → p' j = und (u * 28 + j)) ∧ fX8_undo_22 (nI (u + 1)) und fuel (nI i) p = some (nI u, nI u, p') := by
  intro d
  induction d with
  | zero =>
    intro i fuel p hi hf hp
    obtain ⟨f, rfl⟩ : ∃ f, fuel = f + 1 := ⟨fuel - 1, by omega⟩
    refine ⟨p, fun j hj => hp j (by omega), ?_⟩
    rw [fX8_undo_22_s, pk_sub (show 1 ≤ u + 1 by omega), show u + 1 - 1 = u by omega]
    simp (disch := omega) only [gu, gu2, ile_t, ile_f, ilt_t, ilt_f, ieq_t, ieq_f, iz_lt, iz_eqt, iz_eqf, iz_le, im_eqf, im_eqt, im_lt, ob, nI_add, pk_mul, nI_clamp, if_true, if_false]
  | succ d ih =>
    intro i fuel p hi hf hp
    obtain ⟨f, rfl⟩ : ∃ f, fuel = f + 1 := ⟨fuel - 1, by omega⟩
    rw [fX8_undo_22_s, pk_sub (show 1 ≤ u + 1 by omega), show u + 1 - 1 = u by omega]
    simp (disch := omega) only [gu, gu2, ile_t, ile_f, ilt_t, ilt_f, ieq_t, ieq_f, iz_lt, iz_eqt, iz_eqf, iz_le, im_eqf, im_eqt, im_lt, ob, nI_add, pk_mul, nI_clamp, if_true, if_false]
    exact ih (i + 1) f (upd p i (und (28 * u + i))) (by omega) (by omega) (fun j hj => by
      by_cases h : j = i
      · subst h; rw [upd_s, show 28 * u + j = u * 28 + j by omega]
      · rw [upd_n h]; exact hp j (by omega))
theorem p_undo {n N u s nt : Nat} {row und nk now : Nat → Int32} {bg : Option Nat} (hn : n ≤ 25) (hN : 1000 ≤ N) (hu : u ≤ 8) (hP : pR n row und u) (hS : scR n nk s nt bg now) : ∃ r u' s' nt' bg' nk' now', u' ≤ 8 ∧ pR n row und u' ∧ scR n nk' s' nt' bg' now' ∧ fX7_undo N (nI u) (nI s) (nI nt) (oI bg) 224 row nk = some (r, nI u', nI s', nI nt', oI bg', nk') ∧ fX8_undo N (nI u) now und = some (r, nI u', now') := by
  rw [fX7_undo_e, fX8_undo_e]
  cases u with
  | zero =>
    refine ⟨-2, 0, s, nt, bg, nk, now, by omega, hP, hS, ?_, ?_⟩
    · rw [fX1_takeInto_e, if_neg (by decide)]
      simp only [ob]
      rw [iz_eqt rfl]
    · rw [iz_eqt rfl]
  | succ u =>
    obtain ⟨s', nt', bg', a, b, c, e⟩ := hP u (by omega)
    obtain ⟨K', k1, k2⟩ := cl_take (N := N) (M := 8) (u := u) (row := row) (K := nk) (s := nI s) (nt := nI nt) (bg := oI bg) (by omega) (by omega)
    obtain ⟨p', q1, q2⟩ := mo_un22 (u := u) (und := und) (by omega) 28 0 N now (by omega) (by omega) (fun j hj => by omega)
    refine ⟨nI u, u, s', nt', bg', K', p', by omega, fun i hi => hP i (by omega), scR_eq hn e k1 q1, ?_, ?_⟩
    · rw [show (224 : Nat) = 8 * 28 from rfl, k2]
      simp only [ob]
      rw [iz_eqf (by omega) (by omega), a, b, c]
    · rw [iz_eqf (by omega) (by omega), q2]
theorem mo_ke13 {u : Nat} {now : Nat → Int32} (hu : u ≤ 1) : ∀ (d i fuel : Nat) (und : Nat → Int32), i + d = 28 → d < fuel → (∀ j, j < i → und (u * 28 + j) = now j) → ∃ und', (∀ j, j < 28 → und' (u * 28 + j) = now j) ∧ (∀ j, j < u * 28 → und' j = und j) ∧ fX8_keep_13 (nI u) now fuel (nI i) und = some (nI (u + 1), nI (u + 1), und') := by
  intro d
  induction d with
  | zero =>
    intro i fuel und hi hf hp
    obtain ⟨f, rfl⟩ : ∃ f, fuel = f + 1 := ⟨fuel - 1, by omega⟩
    refine ⟨und, fun j hj => hp j (by omega), fun _ _ => rfl, ?_⟩
    rw [fX8_keep_13_s]
    simp (disch := omega) only [gu, gu2, ile_t, ile_f, ilt_t, ilt_f, ieq_t, ieq_f, iz_lt, iz_eqt, iz_eqf, iz_le, im_eqf, im_eqt, im_lt, ob, nI_add, pk_mul, nI_clamp, if_true, if_false]
  | succ d ih =>
    intro i fuel und hi hf hp
    obtain ⟨f, rfl⟩ : ∃ f, fuel = f + 1 := ⟨fuel - 1, by omega⟩
    rw [fX8_keep_13_s]
    simp (disch := omega) only [gu, gu2, ile_t, ile_f, ilt_t, ilt_f, ieq_t, ieq_f, iz_lt, iz_eqt, iz_eqf, iz_le, im_eqf, im_eqt, im_lt, ob, nI_add, pk_mul, nI_clamp, if_true, if_false]
    obtain ⟨und', a, b, c⟩ := ih (i + 1) f (upd und (28 * u + i) (now i)) (by omega) (by omega) (fun j hj => by
      by_cases h : j = i
      · subst h; rw [show u * 28 + j = 28 * u + j by omega]; exact upd_s
      · rw [upd_n (by omega)]; exact hp j (by omega))
    exact ⟨und', a, fun j hj => by rw [b j hj, upd_n (by omega)], c⟩
theorem p_keep {n N u s nt : Nat} {row und nk now : Nat → Int32} {bg : Option Nat} (hn : n ≤ 25) (hN : 1000 ≤ N) (hu : u ≤ 2) (hP : pR n row und u) (hS : scR n nk s nt bg now) : ∃ r row' und' u', u' ≤ 2 ∧ pR n row' und' u' ∧ fX7_keep N (nI 2) (nI u) (nI s) (nI nt) (oI bg) 56 row nk = some (r, nI u', row') ∧ fX8_keep N (nI u) und now = some (r, nI u', und') := by
  rw [fX7_keep_e, fX8_keep_e]
  by_cases h : u < 2
  · obtain ⟨row', c1, c2, c3⟩ := cl_push (N := N) (M := 2) (u := u) (row := row) (K := nk) (s := nI s) (nt := nI nt) (bg := oI bg) (by omega) (by omega) hu
    obtain ⟨a, b, c, e, f⟩ := c1 h
    obtain ⟨und', m1, m2, m3⟩ := mo_ke13 (u := u) (now := now) (by omega) 28 0 N und (by omega) (by omega) (fun j hj => by omega)
    refine ⟨nI (u + 1), row', und', u + 1, by omega, fun i hi => ?_, ?_, ?_⟩
    · by_cases hiu : i = u
      · subst hiu
        exact ⟨s, nt, bg, b, c, e, scR_eq hn hS a m1⟩
      · exact pE_eq hn (hP i (by omega)) (fun y hy => f _ (by omega)) (fun y hy => m2 _ (by omega))
    · rw [if_pos h, show 2 * 28 = 56 from rfl] at c3
      simp (disch := omega) only [gu, gu2, ile_t, ile_f, ilt_t, ilt_f, ieq_t, ieq_f, iz_lt, iz_eqt, iz_eqf, iz_le, im_eqf, im_eqt, im_lt, ob, nI_add, pk_mul, nI_clamp, if_true, if_false]
      rw [c3]
      rfl
    · simp (disch := omega) only [gu, gu2, ile_t, ile_f, ilt_t, ilt_f, ieq_t, ieq_f, iz_lt, iz_eqt, iz_eqf, iz_le, im_eqf, im_eqt, im_lt, ob, nI_add, pk_mul, nI_clamp, if_true, if_false]
      exact m3
  · refine ⟨-3, row, und, u, hu, hP, ?_, ?_⟩
    · simp (disch := omega) only [gu, gu2, ile_t, ile_f, ilt_t, ilt_f, ieq_t, ieq_f, iz_lt, iz_eqt, iz_eqf, iz_le, im_eqf, im_eqt, im_lt, ob, nI_add, pk_mul, nI_clamp, if_true, if_false]
    · simp (disch := omega) only [gu, gu2, ile_t, ile_f, ilt_t, ilt_f, ieq_t, ieq_f, iz_lt, iz_eqt, iz_eqf, iz_le, im_eqf, im_eqt, im_lt, ob, nI_add, pk_mul, nI_clamp, if_true, if_false]
theorem mo_ba22 {u : Nat} {und : Nat → Int32} (hu : u ≤ 1) : ∀ (d i fuel : Nat) (p : Nat → Int32), i + d = 28 → d < fuel → (∀ j, j < i → p j = und (u * 28 + j)) → ∃ p', (∀ j, j < 28 → p' j = und (u * 28 + j)) ∧ fX8_back_22 (nI (u + 1)) und fuel (nI i) p = some (nI u, nI 0, nI u, p') := by
  intro d
  induction d with
  | zero =>
    intro i fuel p hi hf hp
    obtain ⟨f, rfl⟩ : ∃ f, fuel = f + 1 := ⟨fuel - 1, by omega⟩
    refine ⟨p, fun j hj => hp j (by omega), ?_⟩
    rw [fX8_back_22_s, pk_sub (show 1 ≤ u + 1 by omega), show u + 1 - 1 = u by omega]
    simp (disch := omega) only [gu, gu2, ile_t, ile_f, ilt_t, ilt_f, ieq_t, ieq_f, iz_lt, iz_eqt, iz_eqf, iz_le, im_eqf, im_eqt, im_lt, ob, nI_add, pk_mul, nI_clamp, if_true, if_false]
  | succ d ih =>
    intro i fuel p hi hf hp
    obtain ⟨f, rfl⟩ : ∃ f, fuel = f + 1 := ⟨fuel - 1, by omega⟩
    rw [fX8_back_22_s, pk_sub (show 1 ≤ u + 1 by omega), show u + 1 - 1 = u by omega]
    simp (disch := omega) only [gu, gu2, ile_t, ile_f, ilt_t, ilt_f, ieq_t, ieq_f, iz_lt, iz_eqt, iz_eqf, iz_le, im_eqf, im_eqt, im_lt, ob, nI_add, pk_mul, nI_clamp, if_true, if_false]
    exact ih (i + 1) f (upd p i (und (28 * u + i))) (by omega) (by omega) (fun j hj => by
      by_cases h : j = i
      · subst h; rw [upd_s, show 28 * u + j = u * 28 + j by omega]
      · rw [upd_n h]; exact hp j (by omega))
theorem p_back {n N k u s nt : Nat} {row und nk now : Nat → Int32} {bg : Option Nat} (hn : n ≤ 25) (hN : 1000 ≤ N) (hk : k ≤ 2) (hP : pR n row und k) (hS : scR n nk s nt bg now) : ∃ r k' u' s' nt' bg' nk' now', k' ≤ 2 ∧ (u' = u ∨ u' = 0) ∧ pR n row und k' ∧ scR n nk' s' nt' bg' now' ∧ fX7_back N (nI k) (nI s) (nI nt) (oI bg) 56 row nk (nI u) = some (r, nI k', nI s', nI nt', oI bg', nk', nI u') ∧ fX8_back N (nI u) (nI k) now und = some (r, nI u', nI k', now') := by
  rw [fX7_back_e, fX8_back_e]
  cases k with
  | zero =>
    refine ⟨-2, 0, u, s, nt, bg, nk, now, by omega, Or.inl rfl, hP, hS, ?_, ?_⟩
    · rw [fX1_takeInto_e, if_neg (by decide)]
      simp only [ob]
      rw [iz_eqt rfl]
    · rw [iz_eqt rfl]
  | succ k =>
    obtain ⟨s', nt', bg', a, b, c, e⟩ := hP k (by omega)
    obtain ⟨K', k1, k2⟩ := cl_take (N := N) (M := 2) (u := k) (row := row) (K := nk) (s := nI s) (nt := nI nt) (bg := oI bg) (by omega) (by omega)
    obtain ⟨p', q1, q2⟩ := mo_ba22 (u := k) (und := und) (by omega) 28 0 N now (by omega) (by omega) (fun j hj => by omega)
    refine ⟨nI k, k, 0, s', nt', bg', K', p', by omega, Or.inr rfl, fun i hi => hP i (by omega), scR_eq hn e k1 q1, ?_, ?_⟩
    · rw [show (56 : Nat) = 2 * 28 from rfl, k2]
      simp only [ob]
      rw [iz_eqf (by omega) (by omega), a, b, c]
    · rw [iz_eqf (by omega) (by omega), q2]
