/-! ===== the reference: the ways ===== -/
def big (v : Nat) : Nat := if v = 1000 then 9999 else v
def Rm (n : Nat) (p : Nat → Int32) (e : Nat → Nat) : Prop := ∀ y, y < n → p y = nI (big (e y))
def wm (k : Int32) : Nat := if k = nI 2 then 9999 else if k = nI 1 then 3 else if k = nI 4 then 2 else 1
theorem wm_wk (k : Int32) : (wk k = 1000 ∧ wm k = 9999) ∨ (wm k = wk k ∧ wk k ≤ 3) := by
  unfold wm wk
  by_cases h1 : k = nI 1
  · subst h1; right; decide
  · by_cases h2 : k = nI 2
    · subst h2; left; decide
    · simp only [h1, h2, if_false]
      by_cases h3 : k = nI 3
      · subst h3; right; decide
      · simp only [h3, if_false]
        right
        refine ⟨trivial, ?_⟩
        split <;> omega
theorem big_lt {v : Nat} (h : v < 1000) : big v = v := by unfold big; rw [if_neg (by omega)]
theorem big_1000 : big 1000 = 9999 := rfl
/-- what the reference holds of the churchyard -/
def mYd (R C n : Nat) (told : Nat → Int32) : Prop := okYd R C n ∧ told 0 = nI R ∧ told 1 = nI C
theorem mo_cells {R C n N : Nat} {told : Nat → Int32} (h : mYd R C n told) : fX8_cells N told = some (nI n) := by
  obtain ⟨⟨_, _, _, _, rfl⟩, h1, h2⟩ := h
  rw [fX8_cells_e, h1, h2, pk_mul]
theorem mo_kind {N x : Nat} {K now : Nat → Int32} (hK : ∀ y, y < 25 → now (3 + y) = K y) (h : x < 25) : fX8_kind N (nI x) now = some (K x) := by
  rw [fX8_kind_e]
  simp (disch := omega) only [gu, gu2, ile_t, ile_f, ilt_t, ilt_f, ieq_t, ieq_f, iz_lt, iz_eqt, iz_eqf, iz_le, im_eqf, im_eqt, im_lt, ob, nI_add, pk_mul, nI_clamp, if_true, if_false]
  rw [hK x h]
theorem mo_into {N x : Nat} {K now : Nat → Int32} (hK : ∀ y, y < 25 → now (3 + y) = K y) (h : x < 25) : fX8_into N (nI x) (nI 2) now = some (nI (wm (K x))) := by
  rw [fX8_into_e, mo_kind hK h]
  simp only [ob]
  unfold wm
  (repeat' split) <;> rfl
theorem mo_beside {R C n N x t : Nat} {told : Nat → Int32} (h : mYd R C n told) (hx : x < n) (ht : t < 4) : fX8_beside N (nI x) (nI t) told = some (oI (nbr C n x t)) := by
  have h25 := h.1.n25
  have hc := mo_cells (N := N) h
  obtain ⟨⟨_, _, hC1, hC2, _⟩, _, h2⟩ := h
  rw [fX8_beside_e, hc, h2]
  have hrem : nI x - nI x / nI C * nI C = nI (x % C) := pk_rem (by omega) (by omega) (by omega)
  have hm := Nat.mod_lt x (show 0 < C by omega)
  have hC0 : ¬ nI C = 0 := nI_ne0 (by omega) (by omega)
  rw [hrem]
  have n0 : nbr C n x 0 = if x < C then none else some (x - C) := rfl
  have n1 : nbr C n x 1 = if x % C = 0 then none else some (x - 1) := rfl
  have n2 : nbr C n x 2 = if x % C = C - 1 then none else some (x + 1) := rfl
  have n3 : nbr C n x 3 = if x + C < n then some (x + C) else none := rfl
  rcases (show t = 0 ∨ t = 1 ∨ t = 2 ∨ t = 3 by omega) with rfl | rfl | rfl | rfl
  · rw [n0]
    by_cases hq : x < C
    · simp (disch := omega) only [gu, gu2, ile_t, ile_f, ilt_t, ilt_f, ieq_t, ieq_f, iz_lt, iz_eqt, iz_eqf, iz_le, im_eqf, im_eqt, im_lt, ob, nI_add, pk_mul, nI_clamp, if_true, if_false]
      rw [if_pos hq]; rfl
    · simp (disch := omega) only [gu, gu2, ile_t, ile_f, ilt_t, ilt_f, ieq_t, ieq_f, iz_lt, iz_eqt, iz_eqf, iz_le, im_eqf, im_eqt, im_lt, ob, nI_add, pk_mul, nI_clamp, if_true, if_false]
      rw [if_neg hq, pk_sub (by omega)]; rfl
  · rw [n1]
    by_cases hq : x % C = 0
    · simp (disch := omega) only [gu, gu2, ile_t, ile_f, ilt_t, ilt_f, ieq_t, ieq_f, iz_lt, iz_eqt, iz_eqf, iz_le, im_eqf, im_eqt, im_lt, ob, nI_add, pk_mul, nI_clamp, if_true, if_false, hC0, not_false_eq_true]
      rw [if_pos hq]; rfl
    · have hx1 : 1 ≤ x := by
        rcases Nat.eq_zero_or_pos x with h | h
        · subst h; exact absurd (Nat.zero_mod C) hq
        · exact h
      simp (disch := omega) only [gu, gu2, ile_t, ile_f, ilt_t, ilt_f, ieq_t, ieq_f, iz_lt, iz_eqt, iz_eqf, iz_le, im_eqf, im_eqt, im_lt, ob, nI_add, pk_mul, nI_clamp, if_true, if_false, hC0, not_false_eq_true]
      rw [if_neg hq, pk_sub hx1]; rfl
  · rw [n2, pk_sub (show 1 ≤ C by omega)]
    by_cases hq : x % C = C - 1
    · simp (disch := omega) only [gu, gu2, ile_t, ile_f, ilt_t, ilt_f, ieq_t, ieq_f, iz_lt, iz_eqt, iz_eqf, iz_le, im_eqf, im_eqt, im_lt, ob, nI_add, pk_mul, nI_clamp, if_true, if_false, hC0, not_false_eq_true]
      rw [if_pos hq]; rfl
    · simp (disch := omega) only [gu, gu2, ile_t, ile_f, ilt_t, ilt_f, ieq_t, ieq_f, iz_lt, iz_eqt, iz_eqf, iz_le, im_eqf, im_eqt, im_lt, ob, nI_add, pk_mul, nI_clamp, if_true, if_false, hC0, not_false_eq_true]
      rw [if_neg hq]; rfl
  · rw [n3]
    by_cases hq : x + C < n
    · simp (disch := omega) only [gu, gu2, ile_t, ile_f, ilt_t, ilt_f, ieq_t, ieq_f, iz_lt, iz_eqt, iz_eqf, iz_le, im_eqf, im_eqt, im_lt, ob, nI_add, pk_mul, nI_clamp, if_true, if_false, hC0, not_false_eq_true]
      rw [if_pos hq]; rfl
    · simp (disch := omega) only [gu, gu2, ile_t, ile_f, ilt_t, ilt_f, ieq_t, ieq_f, iz_lt, iz_eqt, iz_eqf, iz_le, im_eqf, im_eqt, im_lt, ob, nI_add, pk_mul, nI_clamp, if_true, if_false, hC0, not_false_eq_true]
      rw [if_neg hq]; rfl
theorem Rm_upd {n z v : Nat} {p : Nat → Int32} {e : Nat → Nat} (hv : v < 1000) (h : Rm n p e) : Rm n (upd p z (nI v)) (rx_u e z v) := by
  intro y hy
  by_cases hz : y = z
  · subst hz; rw [upd_s, rx_u_s, big_lt hv]
  · rw [upd_n hz, rx_u_n _ _ hz]; exact h y hy
/-- what the bound gives -/
theorem rx_75 {n src : Nat} {nb : Nat → Nat → Option Nat} {c : Nat → Nat → Nat} {e : Nat → Nat} (hJ : rx_J n src nb c e) (hn : n ≤ 25) {x : Nat} (hx : x < n) (h : e x < 1000) : e x ≤ 75 := by
  have := hJ.2.2.2 x hx h
  have := rx_n_le n e
  omega
theorem sk_59 {R C n N x src : Nat} {K told now : Nat → Int32} (hY : mYd R C n told) (hK : ∀ y, y < 25 → now (3 + y) = K y) (hx : x < n) (k : Int32 → Int32 → (Nat → Int32) → Option (Nat → Int32)) : ∀ (j fuel : Nat) (b : Bool) (e : Nat → Nat) (p : Nat → Int32), j ≤ 4 → j < fuel → rx_J n src (nbr C n) (fun _ y => wk (K y)) e → Rm n p e →
    ∃ p', Rm n p' (rx_t (nbr C n) (fun _ y => wk (K y)) x j (b, e)).2 ∧ fX8_seeks_59 N told now (nI x) k fuel (fl b) (nI (4 - j)) p = k (fl (rx_t (nbr C n) (fun _ y => wk (K y)) x j (b, e)).1) (nI (x + 1)) p' := by
  have h25 := hY.1.n25
  have hG := okG hY.1 K
  intro j
  induction j with
  | zero =>
    intro fuel b e p _ hf _ hR
    obtain ⟨m, rfl⟩ : ∃ m, fuel = m + 1 := ⟨fuel - 1, by omega⟩
    refine ⟨p, hR, ?_⟩
    rw [fX8_seeks_59_s]
    simp (disch := omega) only [gu, gu2, ile_t, ile_f, ilt_t, ilt_f, ieq_t, ieq_f, iz_lt, iz_eqt, iz_eqf, iz_le, im_eqf, im_eqt, im_lt, ob, nI_add, pk_mul, nI_clamp, if_true, if_false]
    rfl
  | succ j ih =>
    intro fuel b e p hj hf hJ hR
    obtain ⟨m, rfl⟩ : ∃ m, fuel = m + 1 := ⟨fuel - 1, by omega⟩
    have ht : 4 - (j + 1) = 3 - j := by omega
    have hex := hJ.1 x
    have hpx := hR x hx
    rw [ht, fX8_seeks_59_s]
    by_cases h1 : 1000 ≤ e x
    · have h1' : e x = 1000 := by omega
      rw [h1', big_1000] at hpx
      refine ⟨p, ?_, ?_⟩
      · rw [rx_t_stuck (fun t y _ => by have := hJ.1 y; omega)]; exact hR
      · rw [rx_t_stuck (fun t y _ => by have := hJ.1 y; omega)]
        simp (disch := omega) only [hpx, gu, gu2, ile_t, ile_f, ilt_t, ilt_f, ieq_t, ieq_f, iz_lt, iz_eqt, iz_eqf, iz_le, im_eqf, im_eqt, im_lt, ob, nI_add, pk_mul, nI_clamp, if_true, if_false]
    · have hb := rx_75 hJ (by omega) hx (by omega)
      rw [big_lt (by omega)] at hpx
      simp (disch := omega) only [hpx, gu, gu2, ile_t, ile_f, ilt_t, ilt_f, ieq_t, ieq_f, iz_lt, iz_eqt, iz_eqf, iz_le, im_eqf, im_eqt, im_lt, ob, nI_add, pk_mul, nI_clamp, if_true, if_false]
      rw [mo_beside hY hx (by omega)]
      simp only [ob]
      show ∃ p', Rm n p' (rx_t (nbr C n) (fun _ y => wk (K y)) x j (rx_p (nbr C n) (fun _ y => wk (K y)) (b, e) x (3 - j))).2 ∧ _ = k (fl (rx_t (nbr C n) (fun _ y => wk (K y)) x j (rx_p (nbr C n) (fun _ y => wk (K y)) (b, e) x (3 - j))).1) (nI (x + 1)) p'
      have ht2 : 3 - j + 1 = 4 - j := by omega
      have hJ' := rx_p_J hG (p := (b, e)) hJ hx (show 3 - j < 4 by omega)
      cases hz : nbr C n x (3 - j) with
      | none =>
        rw [rx_p_stuck (fun y hy => by rw [hz] at hy; cases hy)]
        simp only [oI, im_eqt]
        rw [fX8_seeks_111_e]
        simp (disch := omega) only [gu, gu2, ile_t, ile_f, ilt_t, ilt_f, ieq_t, ieq_f, iz_lt, iz_eqt, iz_eqf, iz_le, im_eqf, im_eqt, im_lt, ob, nI_add, pk_mul, nI_clamp, if_true, if_false, ht2]
        exact ih m b e p (by omega) (by omega) hJ hR
      | some z =>
        have hzn := nbr_ok hY.1 hx hz
        have hpz := hR z hzn.1
        have hez := hJ.1 z
        have hw := wk_b (K z)
        rw [show oI (some z) = nI z from rfl]
        simp (disch := omega) only [gu, gu2, ile_t, ile_f, ilt_t, ilt_f, ieq_t, ieq_f, iz_lt, iz_eqt, iz_eqf, iz_le, im_eqf, im_eqt, im_lt, ob, nI_add, pk_mul, nI_clamp, if_true, if_false]
        rw [mo_into hK (show z < 25 by omega)]
        simp only [ob]
        rw [fX8_seeks_111_e]
        by_cases h2 : e x + wk (K z) < e z
        · have hwz : wm (K z) = wk (K z) := by rcases wm_wk (K z) with q | q <;> omega
          rw [rx_p_go hz h2] at hJ' ⊢
          rw [hwz]
          by_cases h3 : e z = 1000
          · rw [h3, big_1000] at hpz
            simp (disch := omega) only [hpz, gu, gu2, ile_t, ile_f, ilt_t, ilt_f, ieq_t, ieq_f, iz_lt, iz_eqt, iz_eqf, iz_le, im_eqf, im_eqt, im_lt, ob, nI_add, pk_mul, nI_clamp, if_true, if_false, ht2]
            exact ih m true _ _ (by omega) (by omega) hJ' (Rm_upd (by omega) hR)
          · rw [big_lt (by omega)] at hpz
            simp (disch := omega) only [hpz, gu, gu2, ile_t, ile_f, ilt_t, ilt_f, ieq_t, ieq_f, iz_lt, iz_eqt, iz_eqf, iz_le, im_eqf, im_eqt, im_lt, ob, nI_add, pk_mul, nI_clamp, if_true, if_false, ht2]
            exact ih m true _ _ (by omega) (by omega) hJ' (Rm_upd (by omega) hR)
        · rw [rx_p_stuck (fun y hy => by rw [hz] at hy; cases hy; exact h2)]
          rcases wm_wk (K z) with ⟨q1, q2⟩ | ⟨q1, q2⟩
          · rw [q2]
            simp (disch := omega) only [gu, gu2, ile_t, ile_f, ilt_t, ilt_f, ieq_t, ieq_f, iz_lt, iz_eqt, iz_eqf, iz_le, im_eqf, im_eqt, im_lt, ob, nI_add, pk_mul, nI_clamp, if_true, if_false, ht2]
            exact ih m b e p (by omega) (by omega) hJ hR
          · rw [q1]
            have h3 : e z < 1000 := by omega
            rw [big_lt h3] at hpz
            simp (disch := omega) only [hpz, gu, gu2, ile_t, ile_f, ilt_t, ilt_f, ieq_t, ieq_f, iz_lt, iz_eqt, iz_eqf, iz_le, im_eqf, im_eqt, im_lt, ob, nI_add, pk_mul, nI_clamp, if_true, if_false, ht2]
            exact ih m b e p (by omega) (by omega) hJ hR
theorem sk_49 {R C n N src : Nat} {K told now : Nat → Int32} (hY : mYd R C n told) (hK : ∀ y, y < 25 → now (3 + y) = K y) (hN : 5 ≤ N) (k : Int32 → (Nat → Int32) → Option (Nat → Int32)) : ∀ (d i fuel : Nat) (b : Bool) (e : Nat → Nat) (p : Nat → Int32), i + d = n → d < fuel → rx_J n src (nbr C n) (fun _ y => wk (K y)) e → Rm n p e →
    ∃ p', Rm n p' (rx_l (nbr C n) (fun _ y => wk (K y)) (List.range' i d) (b, e)).2 ∧ fX8_seeks_49 N told now k fuel (fl b) (nI i) p = k (fl (rx_l (nbr C n) (fun _ y => wk (K y)) (List.range' i d) (b, e)).1) p' := by
  have h25 := hY.1.n25
  have hG := okG hY.1 K
  intro d
  induction d with
  | zero =>
    intro i fuel b e p hi hf hJ hR
    obtain ⟨m, rfl⟩ : ∃ m, fuel = m + 1 := ⟨fuel - 1, by omega⟩
    refine ⟨p, hR, ?_⟩
    rw [fX8_seeks_49_s, mo_cells hY]
    simp (disch := omega) only [gu, gu2, ile_t, ile_f, ilt_t, ilt_f, ieq_t, ieq_f, iz_lt, iz_eqt, iz_eqf, iz_le, im_eqf, im_eqt, im_lt, ob, nI_add, pk_mul, nI_clamp, if_true, if_false]
    rfl
  | succ d ih =>
    intro i fuel b e p hi hf hJ hR
    obtain ⟨m, rfl⟩ : ∃ m, fuel = m + 1 := ⟨fuel - 1, by omega⟩
    rw [fX8_seeks_49_s, mo_cells hY]
    simp (disch := omega) only [gu, gu2, ile_t, ile_f, ilt_t, ilt_f, ieq_t, ieq_f, iz_lt, iz_eqt, iz_eqf, iz_le, im_eqf, im_eqt, im_lt, ob, nI_add, pk_mul, nI_clamp, if_true, if_false]
    obtain ⟨p1, hR1, h1⟩ := sk_59 (N := N) hY hK (show i < n by omega) (fX8_seeks_49 N told now k m) 4 N b e p (by omega) (by omega) hJ hR
    rw [h1]
    have hl : List.range' i (d + 1) = i :: List.range' (i + 1) d := rfl
    rw [hl]
    show ∃ p', Rm n p' (rx_l (nbr C n) (fun _ y => wk (K y)) (List.range' (i + 1) d) (rx_r (nbr C n) (fun _ y => wk (K y)) (b, e) i)).2 ∧ _ = k (fl (rx_l (nbr C n) (fun _ y => wk (K y)) (List.range' (i + 1) d) (rx_r (nbr C n) (fun _ y => wk (K y)) (b, e) i)).1) p'
    rw [rx_t_4] at hR1 ⊢
    exact ih (i + 1) m (rx_r (nbr C n) (fun _ y => wk (K y)) (b, e) i).1 (rx_r (nbr C n) (fun _ y => wk (K y)) (b, e) i).2 p1 (by omega) (by omega) (rx_r_J hG (p := (b, e)) hJ (by omega)) hR1
theorem sk_41 {R C n N src : Nat} {K told now : Nat → Int32} (hY : mYd R C n told) (hK : ∀ y, y < 25 → now (3 + y) = K y) (hN : 30 ≤ N) {m : Nat → Nat} (hm : isD n src (nbr C n) (fun _ y => wk (K y)) m) : ∀ (j fuel : Nat) (b : Bool) (e : Nat → Nat) (p : Nat → Int32), rx_sum n e < j → j < fuel → rx_J n src (nbr C n) (fun _ y => wk (K y)) e → Rm n p e → (b = false → rx_C n src (nbr C n) (fun _ y => wk (K y)) e) →
    ∃ p', Rm n p' m ∧ fX8_seeks_41 N told now fuel (fl b) p = some p' := by
  have h25 := hY.1.n25
  have hG := okG hY.1 K
  intro j
  induction j with
  | zero => intro fuel b e p h; omega
  | succ j ih =>
    intro fuel b e p hj hf hJ hR hb
    obtain ⟨f, rfl⟩ : ∃ f, fuel = f + 1 := ⟨fuel - 1, by omega⟩
    rw [fX8_seeks_41_s]
    cases b with
    | false =>
      have hall := rx_one (hb rfl) hJ.2.2.1 hm.1 hm.2.2.2.1
      refine ⟨p, fun y hy => by rw [hR y hy, hall y hy], ?_⟩
      rw [fl_f]
      simp (disch := omega) only [gu, gu2, ile_t, ile_f, ilt_t, ilt_f, ieq_t, ieq_f, iz_lt, iz_eqt, iz_eqf, iz_le, im_eqf, im_eqt, im_lt, ob, nI_add, pk_mul, nI_clamp, if_true, if_false]
    | true =>
      rw [fl_t]
      simp (disch := omega) only [gu, gu2, ile_t, ile_f, ilt_t, ilt_f, ieq_t, ieq_f, iz_lt, iz_eqt, iz_eqf, iz_le, im_eqf, im_eqt, im_lt, ob, nI_add, pk_mul, nI_clamp, if_true, if_false]
      obtain ⟨p1, hR1, h1⟩ := sk_49 (N := N) hY hK (by omega) (fX8_seeks_41 N told now f) n 0 N false e p (by omega) (by omega) hJ hR
      rw [fl_f] at h1
      rw [h1]
      have hx : ∀ x ∈ List.range' 0 n, x < n := fun x hx => rx_ran.mp hx
      have hall : ∀ x, x < n → x ∈ List.range' 0 n := fun x hx => rx_ran.mpr hx
      have hJ' := rx_l_J hG (List.range' 0 n) (false, e) hx hJ
      cases hq : (rx_l (nbr C n) (fun _ y => wk (K y)) (List.range' 0 n) (false, e)).1 with
      | false =>
        have h3 := rx_closed hG hx hall hJ hq
        rw [h3.1] at hR1
        obtain ⟨f', rfl⟩ : ∃ f', f = f' + 1 := ⟨f - 1, by omega⟩
        have hall := rx_one h3.2 hJ.2.2.1 hm.1 hm.2.2.2.1
        refine ⟨p1, fun y hy => by rw [hR1 y hy, hall y hy], ?_⟩
        rw [fX8_seeks_41_s, fl_f]
        simp (disch := omega) only [gu, gu2, ile_t, ile_f, ilt_t, ilt_f, ieq_t, ieq_f, iz_lt, iz_eqt, iz_eqf, iz_le, im_eqf, im_eqt, im_lt, ob, nI_add, pk_mul, nI_clamp, if_true, if_false]
      | true =>
        have h2 := (rx_Dl hG (List.range' 0 n) (false, e) hx).2.2 hq
        rcases h2 with h2 | h2
        · cases h2
        · simp only at h2
          exact ih f true _ p1 (by omega) (by omega) hJ' hR1 (fun h => by cases h)
theorem sk_2 {R C n N s : Nat} {told now : Nat → Int32} (hY : mYd R C n told) (hs : now 1 = nI s) (hsn : s < n) : ∀ (d i fuel : Nat) (p : Nat → Int32), i + d = n → d < fuel → (∀ y, y < i → p y = nI (big (rx_0 s y))) → ∃ p', Rm n p' (rx_0 s) ∧ fX8_seeks_2 N told now fuel (nI i) p = fX8_seeks_41 N told now N (nI 1) p' := by
  have h25 := hY.1.n25
  intro d
  induction d with
  | zero =>
    intro i fuel p hi hf hp
    obtain ⟨m, rfl⟩ : ∃ m, fuel = m + 1 := ⟨fuel - 1, by omega⟩
    refine ⟨p, fun y hy => hp y (by omega), ?_⟩
    rw [fX8_seeks_2_s, mo_cells hY]
    simp (disch := omega) only [gu, gu2, ile_t, ile_f, ilt_t, ilt_f, ieq_t, ieq_f, iz_lt, iz_eqt, iz_eqf, iz_le, im_eqf, im_eqt, im_lt, ob, nI_add, pk_mul, nI_clamp, if_true, if_false]
  | succ d ih =>
    intro i fuel p hi hf hp
    obtain ⟨m, rfl⟩ : ∃ m, fuel = m + 1 := ⟨fuel - 1, by omega⟩
    rw [fX8_seeks_2_s, mo_cells hY, hs]
    by_cases hq : i = s
    · simp (disch := omega) only [gu, gu2, ile_t, ile_f, ilt_t, ilt_f, ieq_t, ieq_f, iz_lt, iz_eqt, iz_eqf, iz_le, im_eqf, im_eqt, im_lt, ob, nI_add, pk_mul, nI_clamp, if_true, if_false]
      exact ih (i + 1) m (upd p i (nI 0)) (by omega) (by omega) (fun y hy => by
        by_cases h : y = i
        · subst h; rw [upd_s]; simp [rx_0, hq, big]
        · rw [upd_n h]; exact hp y (by omega))
    · simp (disch := omega) only [gu, gu2, ile_t, ile_f, ilt_t, ilt_f, ieq_t, ieq_f, iz_lt, iz_eqt, iz_eqf, iz_le, im_eqf, im_eqt, im_lt, ob, nI_add, pk_mul, nI_clamp, if_true, if_false]
      exact ih (i + 1) m (upd p i (nI 9999)) (by omega) (by omega) (fun y hy => by
        by_cases h : y = i
        · subst h; rw [upd_s]; simp [rx_0, hq, big]
        · rw [upd_n h]; exact hp y (by omega))
theorem mo_seeks {R C n N s : Nat} {K told now p : Nat → Int32} (hY : mYd R C n told) (hK : ∀ y, y < 25 → now (3 + y) = K y) (hs : now 1 = nI s) (hsn : s < n) (hN : 100000 ≤ N) {m : Nat → Nat} (hm : isD n s (nbr C n) (fun _ y => wk (K y)) m) : ∃ p', Rm n p' m ∧ fX8_seeks N told p now = some p' := by
  have h25 := hY.1.n25
  rw [fX8_seeks_e]
  obtain ⟨p1, hR, h1⟩ := sk_2 (N := N) hY hs hsn n 0 N p (by omega) (by omega) (fun y hy => by omega)
  rw [h1]
  have h2 := rx_sum_le (k := n) (rx_J0 (nb := nbr C n) (c := fun _ y => wk (K y)) hsn).1
  exact sk_41 (N := N) hY hK (by omega) hm (rx_sum n (rx_0 s) + 1) N true (rx_0 s) p1 (by omega) (by omega) (rx_J0 hsn) hR (fun h => by cases h)
