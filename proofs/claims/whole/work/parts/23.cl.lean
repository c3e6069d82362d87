/-! ===== the class: the ways ===== -/
theorem cl_kindAt {N x : Nat} {K : Nat → Int32} (h : x < 25) : fX3_kindAt N (nI x) K = some (K x) := by
  rw [fX3_kindAt_e]
  simp (disch := omega) only [gu, gu2, ile_t, ile_f, ilt_t, ilt_f, ieq_t, ieq_f, iz_lt, iz_eqt, iz_eqf, iz_le, im_eqf, im_eqt, im_lt, ob, nI_add, pk_mul, nI_clamp, if_true, if_false]
theorem cl_kindAtN {N : Nat} {K : Nat → Int32} : fX3_kindAt N (-4) K = some (nI 2) := by
  rw [fX3_kindAt_e]
  simp only [im_lt]
theorem cl_steps3 {N : Nat} (k : Int32) : fX7_stepsInto N k (nI 3) = some (nI (wk k)) := by
  rw [fX7_stepsInto_e]
  simp (disch := omega) only [gu, gu2, ile_t, ile_f, ilt_t, ilt_f, ieq_t, ieq_f, iz_lt, iz_eqt, iz_eqf, iz_le, im_eqf, im_eqt, im_lt, ob, nI_add, pk_mul, nI_clamp, if_true, if_false]
  unfold wk
  (repeat' split) <;> rfl
def yBes (C n : Nat) (bes : Nat → Int32) : Prop := ∀ x, x < n → ∀ t, t < 4 → bes (x * 4 + t) = oI (nbr C n x t)
theorem cl_beside {N C n x t : Nat} {bes : Nat → Int32} (hB : yBes C n bes) (hn : n ≤ 25) (hx : x < n) (ht : t < 4) : fX6_besideAt N (nI x) (nI t) bes = some (oI (nbr C n x t)) := by
  rw [fX6_besideAt_e]
  simp (disch := omega) only [gu, gu2, ile_t, ile_f, ilt_t, ilt_f, ieq_t, ieq_f, iz_lt, iz_eqt, iz_eqf, iz_le, im_eqf, im_eqt, im_lt, ob, nI_add, pk_mul, nI_clamp, if_true, if_false]
  rw [fX6_besideAt_24_e]
  simp (disch := omega) only [gu, gu2, ile_t, ile_f, ilt_t, ilt_f, ieq_t, ieq_f, iz_lt, iz_eqt, iz_eqf, iz_le, im_eqf, im_eqt, im_lt, ob, nI_add, pk_mul, nI_clamp, if_true, if_false]
  rw [hB x hx t ht]
def Rp (n : Nat) (p : Nat → Int32) (e : Nat → Nat) : Prop := ∀ y, y < n → p y = nI (e y)
/-- the sides one by one -/
def rx_t (nb : Nat → Nat → Option Nat) (c : Nat → Nat → Nat) (x : Nat) : Nat → Bool × (Nat → Nat) → Bool × (Nat → Nat)
  | 0, p => p
  | j + 1, p => rx_t nb c x j (rx_p nb c p x (3 - j))
theorem rx_t_4 (nb : Nat → Nat → Option Nat) (c : Nat → Nat → Nat) (x : Nat) (p : Bool × (Nat → Nat)) : rx_t nb c x 4 p = rx_r nb c p x := rfl
theorem rx_p_stuck {nb : Nat → Nat → Option Nat} {c : Nat → Nat → Nat} {x t : Nat} {b : Bool} {e : Nat → Nat} (h : ∀ y, nb x t = some y → ¬ e x + c x y < e y) : rx_p nb c (b, e) x t = (b, e) := by
  unfold rx_p
  cases hz : nb x t with
  | none => rw [rx_q_none hz, rx_s_none hz]; simp
  | some z => rw [rx_q_some hz, rx_s_some hz, if_neg (h z hz)]; simp [h z hz]
theorem rx_p_go {nb : Nat → Nat → Option Nat} {c : Nat → Nat → Nat} {x t z : Nat} {b : Bool} {e : Nat → Nat} (hz : nb x t = some z) (h : e x + c x z < e z) : rx_p nb c (b, e) x t = (true, rx_u e z (e x + c x z)) := by
  unfold rx_p
  rw [rx_q_some hz, rx_s_some hz, if_pos h]; simp [h]
theorem rx_t_stuck {nb : Nat → Nat → Option Nat} {c : Nat → Nat → Nat} {x : Nat} {b : Bool} {e : Nat → Nat} (h : ∀ t y, nb x t = some y → ¬ e x + c x y < e y) : ∀ j, rx_t nb c x j (b, e) = (b, e)
  | 0 => rfl
  | j + 1 => by
    show rx_t nb c x j (rx_p nb c (b, e) x (3 - j)) = (b, e)
    rw [rx_p_stuck (h (3 - j))]
    exact rx_t_stuck h j
theorem Rp_upd {n z v : Nat} {p : Nat → Int32} {e : Nat → Nat} (h : Rp n p e) : Rp n (upd p z (nI v)) (rx_u e z v) := by
  intro y hy
  by_cases hz : y = z
  · subst hz; rw [upd_s, rx_u_s]
  · rw [upd_n hz, rx_u_n _ _ hz]; exact h y hy
theorem rx_p_le1000 {nb : Nat → Nat → Option Nat} {c : Nat → Nat → Nat} {p : Bool × (Nat → Nat)} {x t : Nat} (h : ∀ y, p.2 y ≤ 1000) : ∀ y, (rx_p nb c p x t).2 y ≤ 1000 := fun y => Nat.le_trans (rx_s_le nb c p.2 x t y) (h y)
theorem sp_65 {R C n N x : Nat} {K bes : Nat → Int32} (hY : okYd R C n) (hB : yBes C n bes) (hx : x < n) (k : Int32 → Int32 → (Nat → Int32) → Option (Nat → Int32)) : ∀ (j fuel : Nat) (b : Bool) (e : Nat → Nat) (p : Nat → Int32), j ≤ 4 → j < fuel → (∀ y, e y ≤ 1000) → Rp n p e →
    ∃ p', Rp n p' (rx_t (nbr C n) (fun _ y => wk (K y)) x j (b, e)).2 ∧ fX5_spread_65 N 25 bes K (nI x) k fuel (fl b) (nI (4 - j)) p = k (fl (rx_t (nbr C n) (fun _ y => wk (K y)) x j (b, e)).1) (nI (x + 1)) p' := by
  have h25 := hY.n25
  intro j
  induction j with
  | zero =>
    intro fuel b e p _ hf _ hR
    obtain ⟨m, rfl⟩ : ∃ m, fuel = m + 1 := ⟨fuel - 1, by omega⟩
    refine ⟨p, hR, ?_⟩
    rw [fX5_spread_65_s]
    simp (disch := omega) only [gu, gu2, ile_t, ile_f, ilt_t, ilt_f, ieq_t, ieq_f, iz_lt, iz_eqt, iz_eqf, iz_le, im_eqf, im_eqt, im_lt, ob, nI_add, pk_mul, nI_clamp, if_true, if_false]
    rfl
  | succ j ih =>
    intro fuel b e p hj hf he hR
    obtain ⟨m, rfl⟩ : ∃ m, fuel = m + 1 := ⟨fuel - 1, by omega⟩
    have ht : 4 - (j + 1) = 3 - j := by omega
    have hex := he x
    have hpx := hR x hx
    rw [ht, fX5_spread_65_s]
    by_cases h1 : 1000 ≤ e x
    · refine ⟨p, ?_, ?_⟩
      · rw [rx_t_stuck (fun t y _ => by have := he y; omega)]; exact hR
      · rw [rx_t_stuck (fun t y _ => by have := he y; omega)]
        simp (disch := omega) only [hpx, gu, gu2, ile_t, ile_f, ilt_t, ilt_f, ieq_t, ieq_f, iz_lt, iz_eqt, iz_eqf, iz_le, im_eqf, im_eqt, im_lt, ob, nI_add, pk_mul, nI_clamp, if_true, if_false]
    · simp (disch := omega) only [hpx, gu, gu2, ile_t, ile_f, ilt_t, ilt_f, ieq_t, ieq_f, iz_lt, iz_eqt, iz_eqf, iz_le, im_eqf, im_eqt, im_lt, ob, nI_add, pk_mul, nI_clamp, if_true, if_false]
      rw [cl_beside hB (by omega) hx (by omega)]
      simp only [ob]
      show ∃ p', Rp n p' (rx_t (nbr C n) (fun _ y => wk (K y)) x j (rx_p (nbr C n) (fun _ y => wk (K y)) (b, e) x (3 - j))).2 ∧ _ = k (fl (rx_t (nbr C n) (fun _ y => wk (K y)) x j (rx_p (nbr C n) (fun _ y => wk (K y)) (b, e) x (3 - j))).1) (nI (x + 1)) p'
      have ht2 : 3 - j + 1 = 4 - j := by omega
      cases hz : nbr C n x (3 - j) with
      | none =>
        rw [rx_p_stuck (fun y hy => by rw [hz] at hy; cases hy)]
        simp only [oI, cl_kindAtN, ob, cl_steps3, im_lt, nI_add, ht2]
        exact ih m b e p (by omega) (by omega) he hR
      | some z =>
        have hzn := nbr_ok hY hx hz
        have hpz := hR z hzn.1
        have hez := he z
        have hw := wk_b (K z)
        simp only [oI, cl_kindAt (show z < 25 by omega), ob, cl_steps3]
        by_cases h2 : e x + wk (K z) < e z
        · rw [rx_p_go hz h2]
          simp (disch := omega) only [hpz, gu, gu2, ile_t, ile_f, ilt_t, ilt_f, ieq_t, ieq_f, iz_lt, iz_eqt, iz_eqf, iz_le, im_eqf, im_eqt, im_lt, ob, nI_add, pk_mul, nI_clamp, if_true, if_false, ht2]
          exact ih m true _ _ (by omega) (by omega) (fun y => by
            by_cases hy : y = z
            · subst hy; rw [rx_u_s]; omega
            · rw [rx_u_n _ _ hy]; exact he y) (Rp_upd hR)
        · rw [rx_p_stuck (fun y hy => by rw [hz] at hy; cases hy; exact h2)]
          simp (disch := omega) only [hpz, gu, gu2, ile_t, ile_f, ilt_t, ilt_f, ieq_t, ieq_f, iz_lt, iz_eqt, iz_eqf, iz_le, im_eqf, im_eqt, im_lt, ob, nI_add, pk_mul, nI_clamp, if_true, if_false, ht2]
          exact ih m b e p (by omega) (by omega) he hR
theorem rx_r_le1000 {nb : Nat → Nat → Option Nat} {c : Nat → Nat → Nat} {p : Bool × (Nat → Nat)} {x : Nat} (h : ∀ y, p.2 y ≤ 1000) : ∀ y, (rx_r nb c p x).2 y ≤ 1000 := rx_p_le1000 (rx_p_le1000 (rx_p_le1000 (rx_p_le1000 h)))
theorem sp_46 {R C n N : Nat} {K bes : Nat → Int32} {v5 : Int32} (hY : okYd R C n) (hB : yBes C n bes) (hN : 5 ≤ N) (k : Int32 → Int32 → (Nat → Int32) → Option (Nat → Int32)) : ∀ (d i fuel : Nat) (b : Bool) (e : Nat → Nat) (p : Nat → Int32), i + d = n → d < fuel → (∀ y, e y ≤ 1000) → Rp n p e →
    ∃ p', Rp n p' (rx_l (nbr C n) (fun _ y => wk (K y)) (List.range' i d) (b, e)).2 ∧ fX5_spread_46 N (nI n) 25 bes K v5 k fuel (fl b) (nI i) p = k (fl (rx_l (nbr C n) (fun _ y => wk (K y)) (List.range' i d) (b, e)).1) (v5 + nI 1) p' := by
  have h25 := hY.n25
  intro d
  induction d with
  | zero =>
    intro i fuel b e p hi hf he hR
    obtain ⟨m, rfl⟩ : ∃ m, fuel = m + 1 := ⟨fuel - 1, by omega⟩
    refine ⟨p, hR, ?_⟩
    rw [fX5_spread_46_s]
    simp (disch := omega) only [gu, gu2, ile_t, ile_f, ilt_t, ilt_f, ieq_t, ieq_f, iz_lt, iz_eqt, iz_eqf, iz_le, im_eqf, im_eqt, im_lt, ob, nI_add, pk_mul, nI_clamp, if_true, if_false]
    rfl
  | succ d ih =>
    intro i fuel b e p hi hf he hR
    obtain ⟨m, rfl⟩ : ∃ m, fuel = m + 1 := ⟨fuel - 1, by omega⟩
    rw [fX5_spread_46_s]
    simp (disch := omega) only [gu, gu2, ile_t, ile_f, ilt_t, ilt_f, ieq_t, ieq_f, iz_lt, iz_eqt, iz_eqf, iz_le, im_eqf, im_eqt, im_lt, ob, nI_add, pk_mul, nI_clamp, if_true, if_false]
    obtain ⟨p1, hR1, h1⟩ := sp_65 (N := N) (K := K) hY hB (show i < n by omega) (fX5_spread_46 N (nI n) 25 bes K v5 k m) 4 N b e p (by omega) (by omega) he hR
    rw [h1]
    have hl : List.range' i (d + 1) = i :: List.range' (i + 1) d := rfl
    rw [hl]
    show ∃ p', Rp n p' (rx_l (nbr C n) (fun _ y => wk (K y)) (List.range' (i + 1) d) (rx_r (nbr C n) (fun _ y => wk (K y)) (b, e) i)).2 ∧ _ = k (fl (rx_l (nbr C n) (fun _ y => wk (K y)) (List.range' (i + 1) d) (rx_r (nbr C n) (fun _ y => wk (K y)) (b, e) i)).1) (v5 + nI 1) p'
    rw [rx_t_4] at hR1 ⊢
    have h2 := ih (i + 1) m (rx_r (nbr C n) (fun _ y => wk (K y)) (b, e) i).1 (rx_r (nbr C n) (fun _ y => wk (K y)) (b, e) i).2 p1 (by omega) (by omega) (rx_r_le1000 he) hR1
    exact h2
theorem rx_ran {n x : Nat} : x ∈ List.range' 0 n ↔ x < n := by rw [List.mem_range'_1]; omega
/-- 'm' is how far it is -/
def isD (n src : Nat) (nb : Nat → Nat → Option Nat) (c : Nat → Nat → Nat) (m : Nat → Nat) : Prop := rx_C n src nb c m ∧ rx_J n src nb c m
theorem sp_28 {R C n N src : Nat} {K bes : Nat → Int32} (hY : okYd R C n) (hB : yBes C n bes) (hN : 30 ≤ N) {m : Nat → Nat} (hm : isD n src (nbr C n) (fun _ y => wk (K y)) m) : ∀ (j r fuel : Nat) (b : Bool) (e : Nat → Nat) (p : Nat → Int32), r + j = 25 → j < fuel → rx_J n src (nbr C n) (fun _ y => wk (K y)) e → Rp n p e → (b = false → rx_C n src (nbr C n) (fun _ y => wk (K y)) e) → (r + 1 ≤ rx_k m n e ∨ ∀ y, y < n → e y = m y) →
    ∃ p', Rp n p' m ∧ fX5_spread_28 N (nI n) 25 bes K fuel (fl b) (nI r) p = some p' := by
  have h25 := hY.n25
  have hG := okG hY K
  intro j
  induction j with
  | zero =>
    intro r fuel b e p hr hf hJ hR hb hk
    obtain ⟨f, rfl⟩ : ∃ f, fuel = f + 1 := ⟨fuel - 1, by omega⟩
    have hall : ∀ y, y < n → e y = m y := by
      rcases hk with hk | hk
      · have := rx_k_le m n e
        omega
      · exact hk
    refine ⟨p, fun y hy => by rw [hR y hy, hall y hy], ?_⟩
    rw [fX5_spread_28_s]
    cases b with
    | false => simp (disch := omega) only [fl_f, gu, gu2, ile_t, ile_f, ilt_t, ilt_f, ieq_t, ieq_f, iz_lt, iz_eqt, iz_eqf, iz_le, im_eqf, im_eqt, im_lt, ob, nI_add, pk_mul, nI_clamp, if_true, if_false]
    | true => simp (disch := omega) only [fl_t, gu, gu2, ile_t, ile_f, ilt_t, ilt_f, ieq_t, ieq_f, iz_lt, iz_eqt, iz_eqf, iz_le, im_eqf, im_eqt, im_lt, ob, nI_add, pk_mul, nI_clamp, if_true, if_false]
  | succ j ih =>
    intro r fuel b e p hr hf hJ hR hb hk
    obtain ⟨f, rfl⟩ : ∃ f, fuel = f + 1 := ⟨fuel - 1, by omega⟩
    rw [fX5_spread_28_s]
    cases b with
    | false =>
      have hall := rx_one (hb rfl) hJ.2.2.1 hm.1 hm.2.2.2.1
      refine ⟨p, fun y hy => by rw [hR y hy, hall y hy], ?_⟩
      simp (disch := omega) only [fl_f, gu, gu2, ile_t, ile_f, ilt_t, ilt_f, ieq_t, ieq_f, iz_lt, iz_eqt, iz_eqf, iz_le, im_eqf, im_eqt, im_lt, ob, nI_add, pk_mul, nI_clamp, if_true, if_false]
    | true =>
      simp (disch := omega) only [fl_t, gu, gu2, ile_t, ile_f, ilt_t, ilt_f, ieq_t, ieq_f, iz_lt, iz_eqt, iz_eqf, iz_le, im_eqf, im_eqt, im_lt, ob, nI_add, pk_mul, nI_clamp, if_true, if_false]
      obtain ⟨p1, hR1, h1⟩ := sp_46 (N := N) (K := K) (v5 := nI r) hY hB (by omega) (fX5_spread_28 N (nI n) 25 bes K f) n 0 N false e p (by omega) (by omega) hJ.1 hR
      rw [fl_f] at h1
      rw [h1]
      simp only [nI_add]
      have hx : ∀ x ∈ List.range' 0 n, x < n := fun x hx => rx_ran.mp hx
      have hall : ∀ x, x < n → x ∈ List.range' 0 n := fun x hx => rx_ran.mpr hx
      refine ih (r + 1) f _ _ p1 (by omega) (by omega) (rx_l_J hG (List.range' 0 n) (false, e) hx hJ) hR1 (fun hq => ?_) (rx_round hG hm.1 hm.2.2.2.1 hx hall hJ hk)
      have h3 := rx_closed hG hx hall hJ hq
      rw [h3.1]
      exact h3.2
theorem fill_5 {n : Nat} {v : Int32} (hn : n < 1000) : ∀ (d i fuel : Nat) (p : Nat → Int32), i + d = n → d < fuel → (∀ y, y < i → p y = v) → ∃ p', (∀ y, y < n → p' y = v) ∧ fJ7_fill_53178_5 n v fuel (nI i) p = some p' := by
  intro d
  induction d with
  | zero =>
    intro i fuel p hi hf hp
    obtain ⟨m, rfl⟩ : ∃ m, fuel = m + 1 := ⟨fuel - 1, by omega⟩
    refine ⟨p, fun y hy => hp y (by omega), ?_⟩
    rw [fJ7_fill_53178_5_s]
    simp (disch := omega) only [gu, gu2, ile_t, ile_f, ilt_t, ilt_f, ieq_t, ieq_f, iz_lt, iz_eqt, iz_eqf, iz_le, im_eqf, im_eqt, im_lt, ob, nI_add, pk_mul, nI_clamp, if_true, if_false]
  | succ d ih =>
    intro i fuel p hi hf hp
    obtain ⟨m, rfl⟩ : ∃ m, fuel = m + 1 := ⟨fuel - 1, by omega⟩
    rw [fJ7_fill_53178_5_s]
    simp (disch := omega) only [gu, gu2, ile_t, ile_f, ilt_t, ilt_f, ieq_t, ieq_f, iz_lt, iz_eqt, iz_eqf, iz_le, im_eqf, im_eqt, im_lt, ob, nI_add, pk_mul, nI_clamp, if_true, if_false]
    exact ih (i + 1) m (upd p i v) (by omega) (by omega) (fun y hy => by
      by_cases h : y = i
      · subst h; exact upd_s
      · rw [upd_n h]; exact hp y (by omega))
theorem cl_fill {N n : Nat} {v : Int32} {p : Nat → Int32} (hn : n < 1000) (hN : 1000 ≤ N) : ∃ p', (∀ y, y < n → p' y = v) ∧ fJ7_fill_53178 N n p v = some p' := by
  rw [fJ7_fill_53178_e]
  exact fill_5 hn n 0 N p (by omega) (by omega) (fun y hy => by omega)
def rx_0 (src : Nat) : Nat → Nat := fun y => if y = src then 0 else 1000
theorem rx_J0 {n src : Nat} {nb : Nat → Nat → Option Nat} {c : Nat → Nat → Nat} (hs : src < n) : rx_J n src nb c (rx_0 src) := by
  refine ⟨fun y => ?_, by simp [rx_0], fun f hf y hy => ?_, fun x hx h => ?_⟩
  · unfold rx_0; split <;> omega
  · unfold rx_0
    split
    · rename_i h; rw [h, hf.1]; omega
    · exact hf.2.1 y
  · by_cases hq : x = src
    · have : rx_0 src x = 0 := by simp [rx_0, hq]
      omega
    · have : rx_0 src x = 1000 := by simp [rx_0, hq]
      omega
theorem isD_ex {n src : Nat} {nb : Nat → Nat → Option Nat} {c : Nat → Nat → Nat} (hG : rx_G n nb c) (hs : src < n) : ∃ m, isD n src nb c m := rx_ex hG (rx_sum n (rx_0 src) + 1) (rx_0 src) (by omega) (rx_J0 hs)
theorem rx_k1 {m : Nat → Nat} {n src : Nat} {e : Nat → Nat} (hs : src < n) (h : e src = m src) : 1 ≤ rx_k m n e := by
  induction n with
  | zero => omega
  | succ k ih =>
    simp only [rx_k]
    by_cases hk : src = k
    · subst hk; rw [if_pos h]; omega
    · have := ih (by omega)
      omega
theorem cl_spread {R C n N src : Nat} {K bes p : Nat → Int32} (hY : okYd R C n) (hB : yBes C n bes) (hN : 1000 ≤ N) (hs : src < n) {m : Nat → Nat} (hm : isD n src (nbr C n) (fun _ y => wk (K y)) m) : ∃ p', Rp n p' m ∧ fX5_spread N (nI src) (nI n) 25 p bes K = some p' := by
  have h25 := hY.n25
  rw [fX5_spread_e]
  obtain ⟨p1, hp1, h1⟩ := cl_fill (N := N) (n := 25) (v := nI 1000) (p := p) (by omega) (by omega)
  rw [h1]
  simp (disch := omega) only [gu, gu2, ile_t, ile_f, ilt_t, ilt_f, ieq_t, ieq_f, iz_lt, iz_eqt, iz_eqf, iz_le, im_eqf, im_eqt, im_lt, ob, nI_add, pk_mul, nI_clamp, if_true, if_false]
  have := sp_28 (N := N) hY hB (by omega) hm 25 0 N true (rx_0 src) (upd p1 src (nI 0)) (by omega) (by omega) (rx_J0 hs) (fun y hy => by
    unfold rx_0
    by_cases h : y = src
    · subst h; rw [upd_s, if_pos rfl]
    · rw [upd_n h, if_neg h]; exact hp1 y (by omega)) (fun h => by cases h) (Or.inl (rx_k1 hs (by rw [hm.1.1]; simp [rx_0])))
  exact this
