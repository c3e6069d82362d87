/-! ===== the reference: the ways to the goal ===== -/
def pv : Nat → Int32
  | 0 => -1
  | k + 1 => nI k
theorem pv_step (k : Nat) : nI k + (-1) = pv k := by
  cases k with
  | zero => decide
  | succ k => exact pk_m1 k
def rdn : Nat → List Nat
  | 0 => []
  | k + 1 => k :: rdn k
theorem rdn_mem {n x : Nat} : x ∈ rdn n ↔ x < n := by
  induction n with
  | zero => simp [rdn]
  | succ k ih => simp only [rdn, List.mem_cons, ih]; omega
theorem gt_64 {R C n N x src : Nat} {K told : Nat → Int32} (hY : mYd R C n told) (hx : x < n) (k : Int32 → Int32 → (Nat → Int32) → Option (Nat → Int32)) : ∀ (j fuel : Nat) (b : Bool) (e : Nat → Nat) (p : Nat → Int32), j ≤ 4 → j < fuel → rx_J n src (nbr C n) (fun x _ => wk (K x)) e → Rm n p e →
    ∃ p', Rm n p' (rx_t (nbr C n) (fun x _ => wk (K x)) x j (b, e)).2 ∧ fX8_goesTo_64 N told (nI x) (nI (wm (K x))) k fuel (fl b) (nI (4 - j)) p = k (fl (rx_t (nbr C n) (fun x _ => wk (K x)) x j (b, e)).1) (pv x) p' := by
  have h25 := hY.1.n25
  have hG := okG2 hY.1 K
  intro j
  induction j with
  | zero =>
    intro fuel b e p _ hf _ hR
    obtain ⟨m, rfl⟩ : ∃ m, fuel = m + 1 := ⟨fuel - 1, by omega⟩
    refine ⟨p, hR, ?_⟩
    rw [fX8_goesTo_64_s, pv_step]
    simp (disch := omega) only [gu, gu2, ile_t, ile_f, ilt_t, ilt_f, ieq_t, ieq_f, iz_lt, iz_eqt, iz_eqf, iz_le, im_eqf, im_eqt, im_lt, ob, nI_add, pk_mul, nI_clamp, if_true, if_false]
    rfl
  | succ j ih =>
    intro fuel b e p hj hf hJ hR
    obtain ⟨m, rfl⟩ : ∃ m, fuel = m + 1 := ⟨fuel - 1, by omega⟩
    have ht : 4 - (j + 1) = 3 - j := by omega
    have hex := hJ.1 x
    have hpx := hR x hx
    have hw := wk_b (K x)
    rw [ht, fX8_goesTo_64_s, pv_step]
    by_cases h1 : 1000 ≤ e x
    · have h1' : e x = 1000 := by omega
      rw [h1', big_1000] at hpx
      refine ⟨p, ?_, ?_⟩
      · rw [rx_t_stuck (fun t y _ => by have := hJ.1 y; omega)]; exact hR
      · rw [rx_t_stuck (fun t y _ => by have := hJ.1 y; omega)]
        simp (disch := omega) only [hpx, gu, gu2, ile_t, ile_f, ilt_t, ilt_f, ieq_t, ieq_f, iz_lt, iz_eqt, iz_eqf, iz_le, im_eqf, im_eqt, im_lt, ob, nI_add, pk_mul, nI_clamp, if_true, if_false]
    · have hb := rx_75 hJ (by omega) hx (by omega)
      rw [big_lt (by omega)] at hpx
      rcases wm_wk (K x) with ⟨q1, q2⟩ | ⟨q1, q2⟩
      · rw [q2]
        refine ⟨p, ?_, ?_⟩
        · rw [rx_t_stuck (fun t y _ => by have := hJ.1 y; omega)]; exact hR
        · rw [rx_t_stuck (fun t y _ => by have := hJ.1 y; omega)]
          simp (disch := omega) only [hpx, gu, gu2, ile_t, ile_f, ilt_t, ilt_f, ieq_t, ieq_f, iz_lt, iz_eqt, iz_eqf, iz_le, im_eqf, im_eqt, im_lt, ob, nI_add, pk_mul, nI_clamp, if_true, if_false]
      · rw [q1]
        rw [q1] at ih
        simp (disch := omega) only [hpx, gu, gu2, ile_t, ile_f, ilt_t, ilt_f, ieq_t, ieq_f, iz_lt, iz_eqt, iz_eqf, iz_le, im_eqf, im_eqt, im_lt, ob, nI_add, pk_mul, nI_clamp, if_true, if_false]
        rw [mo_beside hY hx (by omega)]
        simp only [ob]
        show ∃ p', Rm n p' (rx_t (nbr C n) (fun x _ => wk (K x)) x j (rx_p (nbr C n) (fun x _ => wk (K x)) (b, e) x (3 - j))).2 ∧ _ = k (fl (rx_t (nbr C n) (fun x _ => wk (K x)) x j (rx_p (nbr C n) (fun x _ => wk (K x)) (b, e) x (3 - j))).1) (pv x) p'
        have ht2 : 3 - j + 1 = 4 - j := by omega
        have hJ' := rx_p_J hG (p := (b, e)) hJ hx (show 3 - j < 4 by omega)
        cases hz : nbr C n x (3 - j) with
        | none =>
          rw [rx_p_stuck (fun y hy => by rw [hz] at hy; cases hy)]
          rw [show oI none = -4 from rfl]
          simp (disch := omega) only [gu, gu2, ile_t, ile_f, ilt_t, ilt_f, ieq_t, ieq_f, iz_lt, iz_eqt, iz_eqf, iz_le, im_eqf, im_eqt, im_lt, ob, nI_add, pk_mul, nI_clamp, if_true, if_false, ht2]
          exact ih m b e p (by omega) (by omega) hJ hR
        | some z =>
          have hzn := nbr_ok hY.1 hx hz
          have hpz := hR z hzn.1
          have hez := hJ.1 z
          rw [show oI (some z) = nI z from rfl]
          by_cases h2 : e x + wk (K x) < e z
          · rw [rx_p_go hz h2] at hJ' ⊢
            by_cases h3 : e z = 1000
            · rw [h3, big_1000] at hpz
              simp (disch := omega) only [hpz, gu, gu2, ile_t, ile_f, ilt_t, ilt_f, ieq_t, ieq_f, iz_lt, iz_eqt, iz_eqf, iz_le, im_eqf, im_eqt, im_lt, ob, nI_add, pk_mul, nI_clamp, if_true, if_false, ht2]
              exact ih m true _ _ (by omega) (by omega) hJ' (Rm_upd (by omega) hR)
            · rw [big_lt (by omega)] at hpz
              simp (disch := omega) only [hpz, gu, gu2, ile_t, ile_f, ilt_t, ilt_f, ieq_t, ieq_f, iz_lt, iz_eqt, iz_eqf, iz_le, im_eqf, im_eqt, im_lt, ob, nI_add, pk_mul, nI_clamp, if_true, if_false, ht2]
              exact ih m true _ _ (by omega) (by omega) hJ' (Rm_upd (by omega) hR)
          · rw [rx_p_stuck (fun y hy => by rw [hz] at hy; cases hy; exact h2)]
            have h3 : e z < 1000 := by omega
            rw [big_lt h3] at hpz
            simp (disch := omega) only [hpz, gu, gu2, ile_t, ile_f, ilt_t, ilt_f, ieq_t, ieq_f, iz_lt, iz_eqt, iz_eqf, iz_le, im_eqf, im_eqt, im_lt, ob, nI_add, pk_mul, nI_clamp, if_true, if_false, ht2]
            exact ih m b e p (by omega) (by omega) hJ hR
theorem gt_49 {R C n N src : Nat} {K told now : Nat → Int32} (hY : mYd R C n told) (hK : ∀ y, y < 25 → now (3 + y) = K y) (hN : 5 ≤ N) (k : Int32 → (Nat → Int32) → Option (Nat → Int32)) : ∀ (d fuel : Nat) (b : Bool) (e : Nat → Nat) (p : Nat → Int32), d ≤ n → d < fuel → rx_J n src (nbr C n) (fun x _ => wk (K x)) e → Rm n p e →
    ∃ p', Rm n p' (rx_l (nbr C n) (fun x _ => wk (K x)) (rdn d) (b, e)).2 ∧ fX8_goesTo_49 N told now k fuel (fl b) (pv d) p = k (fl (rx_l (nbr C n) (fun x _ => wk (K x)) (rdn d) (b, e)).1) p' := by
  have h25 := hY.1.n25
  have hG := okG2 hY.1 K
  intro d
  induction d with
  | zero =>
    intro fuel b e p hi hf hJ hR
    obtain ⟨m, rfl⟩ : ∃ m, fuel = m + 1 := ⟨fuel - 1, by omega⟩
    refine ⟨p, hR, ?_⟩
    rw [fX8_goesTo_49_s, if_pos (by decide)]
    rfl
  | succ d ih =>
    intro fuel b e p hi hf hJ hR
    obtain ⟨m, rfl⟩ : ∃ m, fuel = m + 1 := ⟨fuel - 1, by omega⟩
    rw [fX8_goesTo_49_s, show pv (d + 1) = nI d from rfl, mo_into hK (show d < 25 by omega)]
    simp (disch := omega) only [gu, gu2, ile_t, ile_f, ilt_t, ilt_f, ieq_t, ieq_f, iz_lt, iz_eqt, iz_eqf, iz_le, im_eqf, im_eqt, im_lt, ob, nI_add, pk_mul, nI_clamp, if_true, if_false]
    obtain ⟨p1, hR1, h1⟩ := gt_64 (N := N) hY (show d < n by omega) (fX8_goesTo_49 N told now k m) 4 N b e p (by omega) (by omega) hJ hR
    rw [h1]
    show ∃ p', Rm n p' (rx_l (nbr C n) (fun x _ => wk (K x)) (rdn d) (rx_r (nbr C n) (fun x _ => wk (K x)) (b, e) d)).2 ∧ _ = k (fl (rx_l (nbr C n) (fun x _ => wk (K x)) (rdn d) (rx_r (nbr C n) (fun x _ => wk (K x)) (b, e) d)).1) p'
    rw [rx_t_4] at hR1 ⊢
    exact ih m (rx_r (nbr C n) (fun x _ => wk (K x)) (b, e) d).1 (rx_r (nbr C n) (fun x _ => wk (K x)) (b, e) d).2 p1 (by omega) (by omega) (rx_r_J hG (p := (b, e)) hJ (by omega)) hR1
theorem gt_36 {R C n N src : Nat} {K told now : Nat → Int32} (hY : mYd R C n told) (hK : ∀ y, y < 25 → now (3 + y) = K y) (hN : 30 ≤ N) {m : Nat → Nat} (hm : isD n src (nbr C n) (fun x _ => wk (K x)) m) : ∀ (j fuel : Nat) (b : Bool) (e : Nat → Nat) (p : Nat → Int32), rx_sum n e < j → j < fuel → rx_J n src (nbr C n) (fun x _ => wk (K x)) e → Rm n p e → (b = false → rx_C n src (nbr C n) (fun x _ => wk (K x)) e) →
    ∃ p', Rm n p' m ∧ fX8_goesTo_36 N told now fuel (fl b) p = some p' := by
  have h25 := hY.1.n25
  have hG := okG2 hY.1 K
  intro j
  induction j with
  | zero => intro fuel b e p h; omega
  | succ j ih =>
    intro fuel b e p hj hf hJ hR hb
    obtain ⟨f, rfl⟩ : ∃ f, fuel = f + 1 := ⟨fuel - 1, by omega⟩
    rw [fX8_goesTo_36_s]
    cases b with
    | false =>
      have hall := rx_one (hb rfl) hJ.2.2.1 hm.1 hm.2.2.2.1
      refine ⟨p, fun y hy => by rw [hR y hy, hall y hy], ?_⟩
      rw [fl_f]
      simp (disch := omega) only [gu, gu2, ile_t, ile_f, ilt_t, ilt_f, ieq_t, ieq_f, iz_lt, iz_eqt, iz_eqf, iz_le, im_eqf, im_eqt, im_lt, ob, nI_add, pk_mul, nI_clamp, if_true, if_false]
    | true =>
      rw [fl_t, mo_cells hY]
      simp (disch := omega) only [gu, gu2, ile_t, ile_f, ilt_t, ilt_f, ieq_t, ieq_f, iz_lt, iz_eqt, iz_eqf, iz_le, im_eqf, im_eqt, im_lt, ob, nI_add, pk_mul, nI_clamp, if_true, if_false]
      have hpv : nI n - nI 1 = pv n := by
        obtain ⟨n', rfl⟩ : ∃ n', n = n' + 1 := ⟨n - 1, by omega⟩
        exact pk_sub (by omega)
      rw [hpv]
      obtain ⟨p1, hR1, h1⟩ := gt_49 (N := N) hY hK (by omega) (fX8_goesTo_36 N told now f) n N false e p (by omega) (by omega) hJ hR
      rw [fl_f] at h1
      rw [h1]
      have hx : ∀ x ∈ rdn n, x < n := fun x hx => rdn_mem.mp hx
      have hall : ∀ x, x < n → x ∈ rdn n := fun x hx => rdn_mem.mpr hx
      have hJ' := rx_l_J hG (rdn n) (false, e) hx hJ
      cases hq : (rx_l (nbr C n) (fun x _ => wk (K x)) (rdn n) (false, e)).1 with
      | false =>
        have h3 := rx_closed hG hx hall hJ hq
        rw [h3.1] at hR1
        obtain ⟨f', rfl⟩ : ∃ f', f = f' + 1 := ⟨f - 1, by omega⟩
        have hall := rx_one h3.2 hJ.2.2.1 hm.1 hm.2.2.2.1
        refine ⟨p1, fun y hy => by rw [hR1 y hy, hall y hy], ?_⟩
        rw [fX8_goesTo_36_s, fl_f]
        simp (disch := omega) only [gu, gu2, ile_t, ile_f, ilt_t, ilt_f, ieq_t, ieq_f, iz_lt, iz_eqt, iz_eqf, iz_le, im_eqf, im_eqt, im_lt, ob, nI_add, pk_mul, nI_clamp, if_true, if_false]
      | true =>
        have h2 := (rx_Dl hG (rdn n) (false, e) hx).2.2 hq
        rcases h2 with h2 | h2
        · cases h2
        · simp only at h2
          exact ih f true _ p1 (by omega) (by omega) hJ' hR1 (fun h => by cases h)
theorem gt_2 {R C n N g : Nat} {told now : Nat → Int32} (hY : mYd R C n told) (hsn : g < n) : ∀ (d i fuel : Nat) (p : Nat → Int32), i + d = n → d < fuel → (∀ y, y < i → p y = nI (big (rx_0 g y))) → ∃ p', Rm n p' (rx_0 g) ∧ fX8_goesTo_2 N (nI g) told now fuel (nI i) p = fX8_goesTo_36 N told now N (nI 1) p' := by
  have h25 := hY.1.n25
  intro d
  induction d with
  | zero =>
    intro i fuel p hi hf hp
    obtain ⟨m, rfl⟩ : ∃ m, fuel = m + 1 := ⟨fuel - 1, by omega⟩
    refine ⟨p, fun y hy => hp y (by omega), ?_⟩
    rw [fX8_goesTo_2_s, mo_cells hY]
    simp (disch := omega) only [gu, gu2, ile_t, ile_f, ilt_t, ilt_f, ieq_t, ieq_f, iz_lt, iz_eqt, iz_eqf, iz_le, im_eqf, im_eqt, im_lt, ob, nI_add, pk_mul, nI_clamp, if_true, if_false]
  | succ d ih =>
    intro i fuel p hi hf hp
    obtain ⟨m, rfl⟩ : ∃ m, fuel = m + 1 := ⟨fuel - 1, by omega⟩
    rw [fX8_goesTo_2_s, mo_cells hY]
    by_cases hq : i = g
    · simp (disch := omega) only [gu, gu2, ile_t, ile_f, ilt_t, ilt_f, ieq_t, ieq_f, iz_lt, iz_eqt, iz_eqf, iz_le, im_eqf, im_eqt, im_lt, ob, nI_add, pk_mul, nI_clamp, if_true, if_false]
      exact ih (i + 1) m (upd p i (nI 0)) (by omega) (by omega) (fun y hy => by
        by_cases h : y = i
        · subst h; rw [upd_s]; simp [rx_0, hq, big]
        · rw [upd_n h]; exact hp y (by omega))
    · simp (disch := omega) only [gu, gu2, ile_t, ile_f, ilt_t, ilt_f, ieq_t, ieq_f, iz_lt, iz_eqt, iz_eqf, iz_le, im_eqf, im_eqt, im_lt, ob, nI_add, pk_mul, nI_clamp, if_true, if_false]
      exact ih (i + 1) m (upd p i (nI 9999)) (by omega) (by omega) (fun y hy => by
        by_cases h : y = i
        · subst h; rw [upd_s]; simp [rx_0, hq, big]
        · rw [upd_n h]; exact hp y (by omega))
theorem mo_goesTo {R C n N g : Nat} {K told now p : Nat → Int32} (hY : mYd R C n told) (hK : ∀ y, y < 25 → now (3 + y) = K y) (hg : g < n) (hN : 100000 ≤ N) {m : Nat → Nat} (hm : isD n g (nbr C n) (fun x _ => wk (K x)) m) : ∃ p', Rm n p' m ∧ fX8_goesTo N (nI g) told p now = some p' := by
  have h25 := hY.1.n25
  rw [fX8_goesTo_e]
  obtain ⟨p1, hR, h1⟩ := gt_2 (N := N) (now := now) hY hg n 0 N p (by omega) (by omega) (fun y hy => by omega)
  rw [h1]
  have h2 := rx_sum_le (k := n) (rx_J0 (nb := nbr C n) (c := fun x _ => wk (K x)) hg).1
  exact gt_36 (N := N) hY hK (by omega) hm (rx_sum n (rx_0 g) + 1) N true (rx_0 g) p1 (by omega) (by omega) (rx_J0 hg) hR (fun h => by cases h)
/-! ===== the first of the nearest ===== -/
def bS (g : Nat → Nat) (ok : Nat → Bool) (k : Nat) (cur : Option Nat) : Option Nat := if ok k = true then (match cur with
  | none => some k
  | some y => if g k < g y then some k else some y) else cur
def bI (g : Nat → Nat) (ok : Nat → Bool) : Nat → Nat → Option Nat → Option Nat
  | 0, _, cur => cur
  | d + 1, i, cur => bI g ok d (i + 1) (bS g ok i cur)
theorem bS_no {g : Nat → Nat} {ok : Nat → Bool} {k : Nat} {cur : Option Nat} (h : ok k = false) : bS g ok k cur = cur := by unfold bS; rw [h]; rfl
theorem bS_none {g : Nat → Nat} {ok : Nat → Bool} {k : Nat} (h : ok k = true) : bS g ok k none = some k := by unfold bS; rw [if_pos h]
theorem bS_lt {g : Nat → Nat} {ok : Nat → Bool} {k y : Nat} (h : ok k = true) (h2 : g k < g y) : bS g ok k (some y) = some k := by unfold bS; rw [if_pos h]; simp [h2]
theorem bS_ge {g : Nat → Nat} {ok : Nat → Bool} {k y : Nat} (h2 : ¬ g k < g y) : bS g ok k (some y) = some y := by
  unfold bS
  split
  · simp [h2]
  · rfl
theorem bI_in {g : Nat → Nat} {ok : Nat → Bool} : ∀ (d i : Nat) (cur : Option Nat) (y : Nat), bI g ok d i cur = some y → cur = some y ∨ (ok y = true ∧ i ≤ y ∧ y < i + d)
  | 0, _, _, _, h => Or.inl h
  | d + 1, i, cur, y, h => by
    rcases bI_in d (i + 1) (bS g ok i cur) y h with h1 | h1
    · cases hk : ok i with
      | false => rw [bS_no hk] at h1; exact Or.inl h1
      | true =>
        cases cur with
        | none => rw [bS_none hk] at h1; cases h1; exact Or.inr ⟨hk, by omega, by omega⟩
        | some z =>
          by_cases h2 : g i < g z
          · rw [bS_lt hk h2] at h1; cases h1; exact Or.inr ⟨hk, by omega, by omega⟩
          · rw [bS_ge h2] at h1; exact Or.inl h1
    · exact Or.inr ⟨h1.1, by omega, by omega⟩
theorem bI_skip {g : Nat → Nat} {ok : Nat → Bool} : ∀ (d i : Nat) (cur : Option Nat) (e : Nat), (∀ x, i ≤ x → x < i + d → ok x = false) → bI g ok (d + e) i cur = bI g ok e (i + d) cur
  | 0, i, cur, e, _ => by rw [Nat.zero_add, Nat.add_zero]
  | d + 1, i, cur, e, h => by
    rw [show d + 1 + e = (d + e) + 1 by omega]
    show bI g ok (d + e) (i + 1) (bS g ok i cur) = _
    rw [bS_no (h i (by omega) (by omega)), bI_skip d (i + 1) cur e (fun x h1 h2 => h x (by omega) (by omega)), show i + 1 + d = i + (d + 1) by omega]
