/-! ===== shortest ways by relaxation, in numbers: 1000 is 'no way' ===== -/
def rx_u (e : Nat → Nat) (y v : Nat) : Nat → Nat := fun j => if j = y then v else e j
/-- closed: no edge can better it -/
def rx_C (n src : Nat) (nb : Nat → Nat → Option Nat) (c : Nat → Nat → Nat) (f : Nat → Nat) : Prop := f src = 0 ∧ (∀ y, f y ≤ 1000) ∧ ∀ x, x < n → ∀ t, t < 4 → ∀ y, nb x t = some y → f y ≤ f x + c x y
/-- sound: above each closed one -/
def rx_S (n src : Nat) (nb : Nat → Nat → Option Nat) (c : Nat → Nat → Nat) (e : Nat → Nat) : Prop := ∀ f, rx_C n src nb c f → ∀ y, y < n → f y ≤ e y
def rx_n : Nat → (Nat → Nat) → Nat
  | 0, _ => 0
  | k + 1, e => rx_n k e + (if e k < 1000 then 1 else 0)
def rx_sum : Nat → (Nat → Nat) → Nat
  | 0, _ => 0
  | k + 1, e => rx_sum k e + e k
def rx_J (n src : Nat) (nb : Nat → Nat → Option Nat) (c : Nat → Nat → Nat) (e : Nat → Nat) : Prop := (∀ y, e y ≤ 1000) ∧ e src = 0 ∧ rx_S n src nb c e ∧ ∀ x, x < n → e x < 1000 → e x ≤ 3 * rx_n n e
def rx_q (nb : Nat → Nat → Option Nat) (c : Nat → Nat → Nat) (e : Nat → Nat) (x t : Nat) : Bool := match nb x t with
  | none => false
  | some y => decide (e x + c x y < e y)
def rx_s (nb : Nat → Nat → Option Nat) (c : Nat → Nat → Nat) (e : Nat → Nat) (x t : Nat) : Nat → Nat := match nb x t with
  | none => e
  | some y => if e x + c x y < e y then rx_u e y (e x + c x y) else e
def rx_p (nb : Nat → Nat → Option Nat) (c : Nat → Nat → Nat) (p : Bool × (Nat → Nat)) (x t : Nat) : Bool × (Nat → Nat) := (p.1 || rx_q nb c p.2 x t, rx_s nb c p.2 x t)
def rx_r (nb : Nat → Nat → Option Nat) (c : Nat → Nat → Nat) (p : Bool × (Nat → Nat)) (x : Nat) : Bool × (Nat → Nat) := rx_p nb c (rx_p nb c (rx_p nb c (rx_p nb c p x 0) x 1) x 2) x 3
def rx_l (nb : Nat → Nat → Option Nat) (c : Nat → Nat → Nat) (xs : List Nat) (p : Bool × (Nat → Nat)) : Bool × (Nat → Nat) := xs.foldl (rx_r nb c) p
/-- the graph is as it should be -/
def rx_G (n : Nat) (nb : Nat → Nat → Option Nat) (c : Nat → Nat → Nat) : Prop := (∀ x t y, x < n → nb x t = some y → y < n ∧ y ≠ x) ∧ ∀ x y, 1 ≤ c x y ∧ (c x y ≤ 3 ∨ 1000 ≤ c x y)
theorem rx_u_s (e : Nat → Nat) (y v : Nat) : rx_u e y v y = v := by simp [rx_u]
theorem rx_u_n (e : Nat → Nat) {y j : Nat} (v : Nat) (h : j ≠ y) : rx_u e y v j = e j := by simp [rx_u, h]
theorem rx_n_le (k : Nat) (e : Nat → Nat) : rx_n k e ≤ k := by
  induction k with
  | zero => exact Nat.le_refl 0
  | succ k ih =>
    simp only [rx_n]
    split <;> omega
theorem rx_n_mono {k : Nat} {e f : Nat → Nat} (h : ∀ y, f y ≤ e y) : rx_n k e ≤ rx_n k f := by
  induction k with
  | zero => exact Nat.le_refl 0
  | succ k ih =>
    simp only [rx_n]
    have := h k
    split <;> split <;> omega
theorem rx_n_grow {k : Nat} {e f : Nat → Nat} {y : Nat} (hy : y < k) (h : ∀ y, f y ≤ e y) (h1 : ¬ e y < 1000) (h2 : f y < 1000) : rx_n k e + 1 ≤ rx_n k f := by
  induction k with
  | zero => omega
  | succ k ih =>
    simp only [rx_n]
    have hk := h k
    by_cases hyk : y = k
    · subst hyk
      have := rx_n_mono (k := y) h
      rw [if_neg h1, if_pos h2]; omega
    · have := ih (by omega)
      split <;> split <;> omega
theorem rx_sum_mono {k : Nat} {e f : Nat → Nat} (h : ∀ y, f y ≤ e y) : rx_sum k f ≤ rx_sum k e := by
  induction k with
  | zero => exact Nat.le_refl 0
  | succ k ih =>
    simp only [rx_sum]
    have := h k
    omega
theorem rx_sum_lt {k : Nat} {e f : Nat → Nat} {y : Nat} (hy : y < k) (h : ∀ y, f y ≤ e y) (h1 : f y < e y) : rx_sum k f < rx_sum k e := by
  induction k with
  | zero => omega
  | succ k ih =>
    simp only [rx_sum]
    have hk := h k
    by_cases hyk : y = k
    · subst hyk
      have := rx_sum_mono (k := y) h
      omega
    · have := ih (by omega)
      omega
theorem rx_sum_le {k : Nat} {e : Nat → Nat} (h : ∀ y, e y ≤ 1000) : rx_sum k e ≤ 1000 * k := by
  induction k with
  | zero => exact Nat.le_refl 0
  | succ k ih =>
    simp only [rx_sum]
    have := h k
    omega
theorem rx_s_none {nb : Nat → Nat → Option Nat} {c : Nat → Nat → Nat} {e : Nat → Nat} {x t : Nat} (h : nb x t = none) : rx_s nb c e x t = e := by unfold rx_s; rw [h]
theorem rx_s_some {nb : Nat → Nat → Option Nat} {c : Nat → Nat → Nat} {e : Nat → Nat} {x t z : Nat} (h : nb x t = some z) : rx_s nb c e x t = if e x + c x z < e z then rx_u e z (e x + c x z) else e := by unfold rx_s; rw [h]
theorem rx_q_none {nb : Nat → Nat → Option Nat} {c : Nat → Nat → Nat} {e : Nat → Nat} {x t : Nat} (h : nb x t = none) : rx_q nb c e x t = false := by unfold rx_q; rw [h]
theorem rx_q_some {nb : Nat → Nat → Option Nat} {c : Nat → Nat → Nat} {e : Nat → Nat} {x t z : Nat} (h : nb x t = some z) : rx_q nb c e x t = decide (e x + c x z < e z) := by unfold rx_q; rw [h]
theorem rx_s_le (nb : Nat → Nat → Option Nat) (c : Nat → Nat → Nat) (e : Nat → Nat) (x t : Nat) : ∀ y, rx_s nb c e x t y ≤ e y := by
  intro y
  cases hz : nb x t with
  | none => rw [rx_s_none hz]; exact Nat.le_refl _
  | some z =>
    rw [rx_s_some hz]
    split
    · by_cases h : y = z
      · subst h; rw [rx_u_s]; omega
      · rw [rx_u_n _ _ h]; exact Nat.le_refl _
    · exact Nat.le_refl _
/-- a step keeps what holds -/
theorem rx_s_J {n src : Nat} {nb : Nat → Nat → Option Nat} {c : Nat → Nat → Nat} (hG : rx_G n nb c) {e : Nat → Nat} (hJ : rx_J n src nb c e) {x t : Nat} (hx : x < n) (ht : t < 4) : rx_J n src nb c (rx_s nb c e x t) := by
  obtain ⟨h1, h2, h3, h4⟩ := hJ
  have hle := rx_s_le nb c e x t
  refine ⟨fun y => Nat.le_trans (hle y) (h1 y), by have := hle src; omega, ?_, ?_⟩
  · intro f hf y hy
    have h5 := h3 f hf
    cases hz : nb x t with
    | none => rw [rx_s_none hz]; exact h5 y hy
    | some z =>
      rw [rx_s_some hz]
      split
      · by_cases h : y = z
        · subst h
          rw [rx_u_s]
          have := hf.2.2 x hx t ht y hz
          have := h5 x hx
          omega
        · rw [rx_u_n _ _ h]; exact h5 y hy
      · exact h5 y hy
  · intro y hy hyl
    have hm := rx_n_mono (k := n) hle
    cases hz : nb x t with
    | none =>
      rw [rx_s_none hz] at hyl ⊢
      exact h4 y hy hyl
    | some z =>
      rw [rx_s_some hz] at hyl hm ⊢
      by_cases hc : e x + c x z < e z
      · rw [if_pos hc] at hyl hm ⊢
        by_cases h : y = z
        · subst h
          rw [rx_u_s] at hyl ⊢
          have hex : e x < 1000 := by omega
          have h6 := h4 x hx hex
          have h7 := (hG.2 x y).2
          by_cases hz2 : e y < 1000
          · have := h4 y hy hz2
            omega
          · have h8 := rx_n_grow (k := n) (e := e) (f := rx_u e y (e x + c x y)) hy (fun j => by
              by_cases hj : j = y
              · subst hj; rw [rx_u_s]; omega
              · rw [rx_u_n _ _ hj]; exact Nat.le_refl _) hz2 (by rw [rx_u_s]; exact hyl)
            omega
        · rw [rx_u_n _ _ h] at hyl ⊢
          have := h4 y hy hyl
          omega
      · rw [if_neg hc] at hyl hm ⊢
        exact h4 y hy hyl
theorem rx_p_J {n src : Nat} {nb : Nat → Nat → Option Nat} {c : Nat → Nat → Nat} (hG : rx_G n nb c) {p : Bool × (Nat → Nat)} (hJ : rx_J n src nb c p.2) {x t : Nat} (hx : x < n) (ht : t < 4) : rx_J n src nb c (rx_p nb c p x t).2 := rx_s_J hG hJ hx ht
theorem rx_r_J {n src : Nat} {nb : Nat → Nat → Option Nat} {c : Nat → Nat → Nat} (hG : rx_G n nb c) {p : Bool × (Nat → Nat)} (hJ : rx_J n src nb c p.2) {x : Nat} (hx : x < n) : rx_J n src nb c (rx_r nb c p x).2 :=
  rx_p_J hG (rx_p_J hG (rx_p_J hG (rx_p_J hG hJ hx (by omega)) hx (by omega)) hx (by omega)) hx (by omega)
theorem rx_l_J {n src : Nat} {nb : Nat → Nat → Option Nat} {c : Nat → Nat → Nat} (hG : rx_G n nb c) : ∀ (xs : List Nat) (p : Bool × (Nat → Nat)), (∀ x ∈ xs, x < n) → rx_J n src nb c p.2 → rx_J n src nb c (rx_l nb c xs p).2
  | [], _, _, hJ => hJ
  | x :: xs, p, hx, hJ => rx_l_J hG xs (rx_r nb c p x) (fun y hy => hx y (List.mem_cons_of_mem _ hy)) (rx_r_J hG hJ (hx x List.mem_cons_self))
/-- what a walk of steps does: nothing grows; without a change nothing is different and no edge betters; with one the sum falls -/
def rx_D (n : Nat) (nb : Nat → Nat → Option Nat) (c : Nat → Nat → Nat) (es : List (Nat × Nat)) (p q : Bool × (Nat → Nat)) : Prop :=
  (∀ y, q.2 y ≤ p.2 y) ∧ (q.1 = false → p.1 = false ∧ q.2 = p.2 ∧ ∀ g ∈ es, rx_q nb c p.2 g.1 g.2 = false) ∧ (q.1 = true → p.1 = true ∨ rx_sum n q.2 < rx_sum n p.2)
theorem rx_D0 {n : Nat} {nb : Nat → Nat → Option Nat} {c : Nat → Nat → Nat} {p : Bool × (Nat → Nat)} : rx_D n nb c [] p p := ⟨fun _ => Nat.le_refl _, fun h => ⟨h, rfl, fun _ h => absurd h List.not_mem_nil⟩, fun h => Or.inl h⟩
theorem rx_DT {n : Nat} {nb : Nat → Nat → Option Nat} {c : Nat → Nat → Nat} {es es' : List (Nat × Nat)} {p q r : Bool × (Nat → Nat)} (h : rx_D n nb c es p q) (h' : rx_D n nb c es' q r) : rx_D n nb c (es ++ es') p r := by
  refine ⟨fun y => Nat.le_trans (h'.1 y) (h.1 y), fun hr => ?_, fun hr => ?_⟩
  · obtain ⟨a1, a2, a3⟩ := h'.2.1 hr
    obtain ⟨b1, b2, b3⟩ := h.2.1 a1
    refine ⟨b1, a2.trans b2, fun g hg => ?_⟩
    rcases List.mem_append.mp hg with hg | hg
    · exact b3 g hg
    · have := a3 g hg
      rw [b2] at this
      exact this
  · rcases h'.2.2 hr with h1 | h1
    · rcases h.2.2 h1 with h2 | h2
      · exact Or.inl h2
      · exact Or.inr (Nat.lt_of_le_of_lt (rx_sum_mono h'.1) h2)
    · exact Or.inr (Nat.lt_of_lt_of_le h1 (rx_sum_mono h.1))
theorem rx_D1 {n : Nat} {nb : Nat → Nat → Option Nat} {c : Nat → Nat → Nat} (hG : rx_G n nb c) {p : Bool × (Nat → Nat)} {x t : Nat} (hx : x < n) : rx_D n nb c [(x, t)] p (rx_p nb c p x t) := by
  refine ⟨rx_s_le nb c p.2 x t, fun h => ?_, fun h => ?_⟩
  · simp only [rx_p, Bool.or_eq_false_iff] at h
    refine ⟨h.1, ?_, fun g hg => ?_⟩
    · show rx_s nb c p.2 x t = p.2
      have h2 := h.2
      cases hz : nb x t with
      | none => exact rx_s_none hz
      | some z =>
        rw [rx_q_some hz] at h2
        rw [rx_s_some hz, if_neg (of_decide_eq_false h2)]
    · rw [List.mem_singleton] at hg
      subst hg
      exact h.2
  · simp only [rx_p, Bool.or_eq_true] at h
    rcases h with h | h
    · exact Or.inl h
    · right
      have hle := rx_s_le nb c p.2 x t
      show rx_sum n (rx_s nb c p.2 x t) < rx_sum n p.2
      cases hz : nb x t with
      | none => rw [rx_q_none hz] at h; cases h
      | some z =>
        rw [rx_q_some hz] at h
        have hc := of_decide_eq_true h
        refine rx_sum_lt (hG.1 x t z hx hz).1 hle ?_
        rw [rx_s_some hz, if_pos hc, rx_u_s]
        exact hc
def rx_es (x : Nat) : List (Nat × Nat) := [(x, 0), (x, 1), (x, 2), (x, 3)]
theorem rx_Dr {n : Nat} {nb : Nat → Nat → Option Nat} {c : Nat → Nat → Nat} (hG : rx_G n nb c) {p : Bool × (Nat → Nat)} {x : Nat} (hx : x < n) : rx_D n nb c (rx_es x) p (rx_r nb c p x) :=
  rx_DT (rx_DT (rx_DT (rx_D1 hG hx (t := 0)) (rx_D1 hG hx (t := 1))) (rx_D1 hG hx (t := 2))) (rx_D1 hG hx (t := 3))
theorem rx_Dl {n : Nat} {nb : Nat → Nat → Option Nat} {c : Nat → Nat → Nat} (hG : rx_G n nb c) : ∀ (xs : List Nat) (p : Bool × (Nat → Nat)), (∀ x ∈ xs, x < n) → rx_D n nb c (xs.flatMap rx_es) p (rx_l nb c xs p)
  | [], _, _ => rx_D0
  | x :: xs, p, hx => by
    rw [List.flatMap_cons]
    exact rx_DT (rx_Dr hG (hx x List.mem_cons_self)) (rx_Dl hG xs (rx_r nb c p x) (fun y hy => hx y (List.mem_cons_of_mem _ hy)))
theorem rx_es_in {xs : List Nat} {x t : Nat} (hx : x ∈ xs) (ht : t < 4) : (x, t) ∈ xs.flatMap rx_es := by
  refine List.mem_flatMap.mpr ⟨x, hx, ?_⟩
  unfold rx_es
  rcases (show t = 0 ∨ t = 1 ∨ t = 2 ∨ t = 3 by omega) with rfl | rfl | rfl | rfl <;> simp
/-- a whole round without a change: closed -/
theorem rx_closed {n src : Nat} {nb : Nat → Nat → Option Nat} {c : Nat → Nat → Nat} (hG : rx_G n nb c) {xs : List Nat} {e : Nat → Nat} (hx : ∀ x ∈ xs, x < n) (hall : ∀ x, x < n → x ∈ xs) (hJ : rx_J n src nb c e) (hb : (rx_l nb c xs (false, e)).1 = false) : (rx_l nb c xs (false, e)).2 = e ∧ rx_C n src nb c e := by
  obtain ⟨-, h2, h3⟩ := (rx_Dl hG xs (false, e) hx).2.1 hb
  refine ⟨h2, hJ.2.1, hJ.1, fun x hxn t ht y hy => ?_⟩
  have := h3 (x, t) (rx_es_in (hall x hxn) ht)
  simp only at this
  rw [rx_q_some hy] at this
  have := of_decide_eq_false this
  omega
/-- there is one that is closed and sound -/
theorem rx_ex {n src : Nat} {nb : Nat → Nat → Option Nat} {c : Nat → Nat → Nat} (hG : rx_G n nb c) : ∀ (k : Nat) (e : Nat → Nat), rx_sum n e < k → rx_J n src nb c e → ∃ m, rx_C n src nb c m ∧ rx_J n src nb c m
  | 0, _, h, _ => absurd h (Nat.not_lt_zero _)
  | k + 1, e, h, hJ => by
    have hx : ∀ x ∈ List.range n, x < n := fun x hx => List.mem_range.mp hx
    cases hb : (rx_l nb c (List.range n) (false, e)).1 with
    | false =>
      exact ⟨e, (rx_closed hG hx (fun x hx => List.mem_range.mpr hx) hJ hb).2, hJ⟩
    | true =>
      have h1 := (rx_Dl hG (List.range n) (false, e) hx).2.2 hb
      rcases h1 with h1 | h1
      · cases h1
      · simp only at h1
        exact rx_ex hG k _ (by omega) (rx_l_J hG (List.range n) (false, e) hx hJ)
/-- in a closed sound one each cell but the first has a tight edge into it -/
theorem rx_tight {n src : Nat} {nb : Nat → Nat → Option Nat} {c : Nat → Nat → Nat} (hG : rx_G n nb c) {m : Nat → Nat} (hC : rx_C n src nb c m) (hS : rx_S n src nb c m) {y : Nat} (hy : y < n) (hs : y ≠ src) (hm : m y < 1000) : ∃ x t, x < n ∧ t < 4 ∧ nb x t = some y ∧ m y = m x + c x y := by
  refine Classical.byContradiction fun hno => ?_
  have hC' : rx_C n src nb c (rx_u m y (m y + 1)) := by
    refine ⟨by rw [rx_u_n _ _ (Ne.symm hs)]; exact hC.1, fun z => ?_, fun x hx t ht z hz => ?_⟩
    · by_cases h : z = y
      · subst h; rw [rx_u_s]; omega
      · rw [rx_u_n _ _ h]; exact hC.2.1 z
    · have h1 := hC.2.2 x hx t ht z hz
      have h2 := (hG.1 x t z hx hz).2
      by_cases h : z = y
      · subst h
        rw [rx_u_s, rx_u_n _ _ (Ne.symm h2)]
        have : m z ≠ m x + c x z := fun e => hno ⟨x, t, hx, ht, hz, e⟩
        omega
      · rw [rx_u_n _ _ h]
        by_cases h3 : x = y
        · subst h3; rw [rx_u_s]; omega
        · rw [rx_u_n _ _ h3]; exact h1
  have := hS _ hC' y hy
  rw [rx_u_s] at this
  omega
/-- the least of a kind -/
theorem rx_least {n : Nat} (P : Nat → Prop) (m : Nat → Nat) (h : ∃ y, y < n ∧ P y) : ∃ y, y < n ∧ P y ∧ ∀ z, z < n → P z → m y ≤ m z := by
  refine Classical.byContradiction fun hno => ?_
  have key : ∀ k y, y < n → P y → m y < k → False := by
    intro k
    induction k with
    | zero => intro y _ _ h; omega
    | succ k ih =>
      intro y hy hp hk
      refine hno ⟨y, hy, hp, fun z hz hpz => ?_⟩
      rcases Nat.lt_or_ge (m z) (m y) with h1 | h1
      · exact absurd (ih z hz hpz (by omega)) id
      · exact h1
  obtain ⟨y, hy, hp⟩ := h
  exact key (m y + 1) y hy hp (by omega)
/-- in a round one more cell is settled, if not all are -/
theorem rx_more {n src : Nat} {nb : Nat → Nat → Option Nat} {c : Nat → Nat → Nat} (hG : rx_G n nb c) {m : Nat → Nat} (hC : rx_C n src nb c m) (hS : rx_S n src nb c m) {xs : List Nat} (hx : ∀ x ∈ xs, x < n) (hall : ∀ x, x < n → x ∈ xs) {b : Bool} {e : Nat → Nat} (hJ : rx_J n src nb c e) (hno : ∃ y, y < n ∧ e y ≠ m y) : ∃ y, y < n ∧ e y ≠ m y ∧ (rx_l nb c xs (b, e)).2 y = m y := by
  obtain ⟨y, hy, hne, hmin⟩ := rx_least (fun y => e y ≠ m y) m hno
  refine ⟨y, hy, hne, ?_⟩
  have hge : ∀ z, z < n → m z ≤ e z := hJ.2.2.1 m hC
  have hmy : m y < 1000 := by
    have := hge y hy
    have := hJ.1 y
    omega
  have hys : y ≠ src := by
    intro h
    rw [h] at hne
    exact hne (by rw [hJ.2.1, hC.1])
  obtain ⟨x, t, hxn, ht, hnb, htt⟩ := rx_tight hG hC hS hy hys hmy
  have hc1 := (hG.2 x y).1
  have hex : e x = m x := Classical.byContradiction fun h => by
    have := hmin x hxn h
    omega
  -- one step that keeps: at x it stays m x
  have step : ∀ (p : Bool × (Nat → Nat)) (z t' : Nat), z < n → t' < 4 → rx_J n src nb c p.2 → p.2 x = m x → rx_J n src nb c (rx_p nb c p z t').2 ∧ (rx_p nb c p z t').2 x = m x ∧ ((p.2 y = m y ∨ (z = x ∧ t' = t)) → (rx_p nb c p z t').2 y = m y) := by
    intro p z t' hz ht' hJp hpx
    have hJ' := rx_p_J hG hJp hz ht'
    have hle : ∀ w, (rx_p nb c p z t').2 w ≤ p.2 w := rx_s_le nb c p.2 z t'
    have hx1 := hJ'.2.2.1 m hC x hxn
    have hy1 := hJ'.2.2.1 m hC y hy
    refine ⟨hJ', ?_, fun h => ?_⟩
    · have := hle x
      omega
    · rcases h with h | ⟨rfl, rfl⟩
      · have := hle y
        omega
      · have : (rx_p nb c p z t').2 y ≤ p.2 z + c z y := by
          show rx_s nb c p.2 z t' y ≤ p.2 z + c z y
          rw [rx_s_some hnb]
          split
          · rw [rx_u_s]; omega
          · omega
        omega
  have row : ∀ (p : Bool × (Nat → Nat)) (z : Nat), z < n → rx_J n src nb c p.2 → p.2 x = m x → rx_J n src nb c (rx_r nb c p z).2 ∧ (rx_r nb c p z).2 x = m x ∧ ((p.2 y = m y ∨ z = x) → (rx_r nb c p z).2 y = m y) := by
    intro p z hz hJp hpx
    obtain ⟨a1, a2, a3⟩ := step p z 0 hz (by omega) hJp hpx
    obtain ⟨b1, b2, b3⟩ := step _ z 1 hz (by omega) a1 a2
    obtain ⟨c1, c2, c3⟩ := step _ z 2 hz (by omega) b1 b2
    obtain ⟨d1, d2, d3⟩ := step _ z 3 hz (by omega) c1 c2
    refine ⟨d1, d2, fun h => ?_⟩
    rcases h with h | h
    · exact d3 (Or.inl (c3 (Or.inl (b3 (Or.inl (a3 (Or.inl h)))))))
    · rcases (show t = 0 ∨ t = 1 ∨ t = 2 ∨ t = 3 by omega) with q | q | q | q
      · exact d3 (Or.inl (c3 (Or.inl (b3 (Or.inl (a3 (Or.inr ⟨h, q.symm⟩)))))))
      · exact d3 (Or.inl (c3 (Or.inl (b3 (Or.inr ⟨h, q.symm⟩)))))
      · exact d3 (Or.inl (c3 (Or.inr ⟨h, q.symm⟩)))
      · exact d3 (Or.inr ⟨h, q.symm⟩)
  have all : ∀ (zs : List Nat) (p : Bool × (Nat → Nat)), (∀ z ∈ zs, z < n) → rx_J n src nb c p.2 → p.2 x = m x → (p.2 y = m y ∨ x ∈ zs) → (rx_l nb c zs p).2 y = m y := by
    intro zs
    induction zs with
    | nil =>
      intro p _ _ _ h
      rcases h with h | h
      · exact h
      · exact absurd h List.not_mem_nil
    | cons z zs ih =>
      intro p hz hJp hpx h
      obtain ⟨a1, a2, a3⟩ := row p z (hz z List.mem_cons_self) hJp hpx
      refine ih (rx_r nb c p z) (fun w hw => hz w (List.mem_cons_of_mem _ hw)) a1 a2 ?_
      rcases h with h | h
      · exact Or.inl (a3 (Or.inl h))
      · rcases List.mem_cons.mp h with h | h
        · exact Or.inl (a3 (Or.inr h.symm))
        · exact Or.inr h
  exact all xs (b, e) hx hJ hex (Or.inr (hall x hxn))
/-- how many are settled -/
def rx_k (m : Nat → Nat) : Nat → (Nat → Nat) → Nat
  | 0, _ => 0
  | k + 1, e => rx_k m k e + (if e k = m k then 1 else 0)
theorem rx_k_le (m : Nat → Nat) (k : Nat) (e : Nat → Nat) : rx_k m k e ≤ k := by
  induction k with
  | zero => exact Nat.le_refl 0
  | succ k ih => simp only [rx_k]; split <;> omega
theorem rx_k_all {m : Nat → Nat} {k : Nat} {e : Nat → Nat} (h : k ≤ rx_k m k e) : ∀ y, y < k → e y = m y := by
  induction k with
  | zero => intro y hy; omega
  | succ k ih =>
    simp only [rx_k] at h
    have := rx_k_le m k e
    intro y hy
    by_cases hk : e k = m k
    · rw [if_pos hk] at h
      by_cases hyk : y = k
      · rw [hyk]; exact hk
      · exact ih (by omega) y (by omega)
    · rw [if_neg hk] at h; omega
theorem rx_k_mono {m : Nat → Nat} {k : Nat} {e f : Nat → Nat} (h : ∀ y, y < k → e y = m y → f y = m y) : rx_k m k e ≤ rx_k m k f := by
  induction k with
  | zero => exact Nat.le_refl 0
  | succ k ih =>
    simp only [rx_k]
    have h1 := ih (fun y hy => h y (by omega))
    have h2 := h k (by omega)
    by_cases hk : e k = m k
    · rw [if_pos hk, if_pos (h2 hk)]; omega
    · rw [if_neg hk]; omega
theorem rx_k_grow {m : Nat → Nat} {k : Nat} {e f : Nat → Nat} {y : Nat} (hy : y < k) (h : ∀ y, y < k → e y = m y → f y = m y) (h1 : e y ≠ m y) (h2 : f y = m y) : rx_k m k e + 1 ≤ rx_k m k f := by
  induction k with
  | zero => omega
  | succ k ih =>
    simp only [rx_k]
    have hk := h k (by omega)
    by_cases hyk : y = k
    · subst hyk
      have := rx_k_mono (k := y) (fun z hz => h z (by omega))
      rw [if_neg h1, if_pos h2]; omega
    · have := ih (by omega) (fun z hz => h z (by omega))
      by_cases he : e k = m k
      · rw [if_pos he, if_pos (hk he)]; omega
      · rw [if_neg he]; omega
/-- what is closed and sound is one -/
theorem rx_one {n src : Nat} {nb : Nat → Nat → Option Nat} {c : Nat → Nat → Nat} {d m : Nat → Nat} (h1 : rx_C n src nb c d) (h2 : rx_S n src nb c d) (h3 : rx_C n src nb c m) (h4 : rx_S n src nb c m) : ∀ y, y < n → d y = m y := fun y hy => Nat.le_antisymm (h4 d h1 y hy) (h2 m h3 y hy)
/-- a round leaves what is settled, and settles one more -/
theorem rx_round {n src : Nat} {nb : Nat → Nat → Option Nat} {c : Nat → Nat → Nat} (hG : rx_G n nb c) {m : Nat → Nat} (hC : rx_C n src nb c m) (hS : rx_S n src nb c m) {xs : List Nat} (hx : ∀ x ∈ xs, x < n) (hall : ∀ x, x < n → x ∈ xs) {b : Bool} {e : Nat → Nat} (hJ : rx_J n src nb c e) {k : Nat} (hk : k ≤ rx_k m n e ∨ ∀ y, y < n → e y = m y) : k + 1 ≤ rx_k m n (rx_l nb c xs (b, e)).2 ∨ ∀ y, y < n → (rx_l nb c xs (b, e)).2 y = m y := by
  have hle : ∀ y, (rx_l nb c xs (b, e)).2 y ≤ e y := (rx_Dl hG xs (b, e) hx).1
  have hJ' := rx_l_J hG xs (b, e) hx hJ
  have keep : ∀ y, y < n → e y = m y → (rx_l nb c xs (b, e)).2 y = m y := fun y hy h => by
    have := hle y
    have := hJ'.2.2.1 m hC y hy
    omega
  by_cases h : ∀ y, y < n → e y = m y
  · exact Or.inr fun y hy => keep y hy (h y hy)
  · have hno : ∃ y, y < n ∧ e y ≠ m y := Classical.byContradiction fun hn => h fun y hy => Classical.byContradiction fun hq => hn ⟨y, hy, hq⟩
    obtain ⟨y, hy, h1, h2⟩ := rx_more hG hC hS hx hall (b := b) hJ hno
    rcases hk with hk | hk
    · left
      have := rx_k_grow hy keep h1 h2
      omega
    · exact absurd hk h
