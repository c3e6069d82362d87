/-! ===== the yard's shape ===== -/
theorem ilz {α : Type} {a : Nat} {x y : α} (h : a = 0) : (if nI a ≤ 0 then x else y) = x := if_pos (by rw [h]; decide)
theorem ilzf {α : Type} {a : Nat} {x y : α} (h : 0 < a) (ha : a < 2147483648) : (if nI a ≤ 0 then x else y) = y := if_neg (by rw [show (0 : Int32) = nI 0 from rfl]; exact nI_ge h ha)
def shI (C n x : Nat) (col bes : Nat → Int32) : Prop := ∀ y, y < x → col y = nI (y % C) ∧ ∀ t, t < 4 → bes (y * 4 + t) = oI (nbr C n y t)
/-- where a cell lies -/
theorem lies {R C n r c x : Nat} (hY : okYd R C n) (hr : r < R) (hc : c < C) (hx : x = r * C + c) : x % C = c ∧ (x < C ↔ r = 0) ∧ (x + C < n ↔ r < R - 1) ∧ x < n := by
  obtain ⟨h1, h2, h3, h4, h5⟩ := hY
  have a1 : x % C = c := by rw [hx, Nat.mul_comm, Nat.mul_add_mod, Nat.mod_eq_of_lt hc]
  have a2 : (r + 1) * C ≤ R * C := Nat.mul_le_mul_right C hr
  have a3 : (r + 1) * C = r * C + C := Nat.succ_mul r C
  refine ⟨a1, ?_, ?_, by omega⟩
  · by_cases e : r = 0
    · subst e
      simp only [Nat.zero_mul] at hx
      omega
    · have : 1 * C ≤ r * C := Nat.mul_le_mul_right C (by omega)
      omega
  · by_cases e : r < R - 1
    · have a4 : (r + 2) * C ≤ R * C := Nat.mul_le_mul_right C (by omega)
      have a5 : (r + 2) * C = (r + 1) * C + C := Nat.succ_mul (r + 1) C
      omega
    · have : r + 1 = R := by omega
      rw [this] at a3
      omega
theorem sh131 {R C n r c x : Nat} {col bes : Nat → Int32} {s0 s1 s2 : Int32} {K : Int32 → Int32 → (Nat → Int32) → (Nat → Int32) → Option (Int32 × Int32 × Int32 × (Nat → Int32) × (Nat → Int32))} (hY : okYd R C n) (hr : r < R) (hc : c < C) (hx : x = r * C + c) :
    fX6_takeShape_131 (nI R) (nI C) (nI r) (nI x) (nI c) col bes s0 s1 s2 K = K (nI (x + 1)) (nI (c + 1)) (upd col x (nI c)) (upd (upd (upd (upd bes (x * 4) s0) (x * 4 + 1) s1) (x * 4 + 2) s2) (x * 4 + 3) (oI (nbr C n x 3))) := by
  obtain ⟨l1, l2, l3, l4⟩ := lies hY hr hc hx
  have h25 := hY.n25
  obtain ⟨h1, h2, h3, h4, h5⟩ := hY
  have n3 : nbr C n x 3 = if x + C < n then some (x + C) else none := rfl
  rw [fX6_takeShape_131_e, pk_mul, nI_add, nI_add, nI_add, nI_add, nI_add, gu (by omega) (by omega), nI_clamp (show x * 4 < _ by omega), nI_clamp (show x * 4 + 1 < _ by omega), nI_clamp (show x * 4 + 2 < _ by omega), nI_clamp (show x < _ by omega), pk_sub (by omega)]
  by_cases e : r < R - 1
  · rw [ile_f (by omega) (by omega), gu (by omega) (by omega), nI_clamp (show x * 4 + 3 < _ by omega), n3, if_pos (l3.2 e), nI_add]
    rfl
  · rw [ile_t (by omega) (by omega), gu (by omega) (by omega), nI_clamp (show x * 4 + 3 < _ by omega), n3, if_neg (fun q => e (l3.1 q))]
    rfl
theorem sh82 {R C n r c x : Nat} {col bes : Nat → Int32} {s0 : Int32} {K : Int32 → Int32 → (Nat → Int32) → (Nat → Int32) → Option (Int32 × Int32 × Int32 × (Nat → Int32) × (Nat → Int32))} (hY : okYd R C n) (hr : r < R) (hc : c < C) (hx : x = r * C + c) :
    fX6_takeShape_82 (nI R) (nI C) (nI r) (nI x) (nI c) col bes s0 K = K (nI (x + 1)) (nI (c + 1)) (upd col x (nI c)) (upd (upd (upd (upd bes (x * 4) s0) (x * 4 + 1) (oI (nbr C n x 1))) (x * 4 + 2) (oI (nbr C n x 2))) (x * 4 + 3) (oI (nbr C n x 3))) := by
  obtain ⟨l1, l2, l3, l4⟩ := lies hY hr hc hx
  have h25 := hY.n25
  have hY' := hY
  obtain ⟨h1, h2, h3, h4, h5⟩ := hY'
  have n1 : nbr C n x 1 = if x % C = 0 then none else some (x - 1) := rfl
  have n2 : nbr C n x 2 = if x % C = C - 1 then none else some (x + 1) := rfl
  have e105 : ∀ s1, fX6_takeShape_105 (nI R) (nI C) (nI r) (nI x) (nI c) col bes s0 s1 K = K (nI (x + 1)) (nI (c + 1)) (upd col x (nI c)) (upd (upd (upd (upd bes (x * 4) s0) (x * 4 + 1) s1) (x * 4 + 2) (oI (nbr C n x 2))) (x * 4 + 3) (oI (nbr C n x 3))) := by
    intro s1
    rw [fX6_takeShape_105_e, pk_mul, nI_add, nI_add, gu (by omega) (by omega), pk_sub (by omega), n2, l1]
    by_cases e : c = C - 1
    · rw [ile_t (by omega) (by omega), sh131 hY hr hc hx, if_pos e]
      rfl
    · rw [ile_f (by omega) (by omega), sh131 hY hr hc hx, if_neg e]
      rfl
  rw [fX6_takeShape_82_e, pk_mul, gu (by omega) (by omega), n1, l1]
  by_cases e : c = 0
  · rw [ilz e, e105, if_pos e]
    rfl
  · have hx0 : 1 ≤ x := by omega
    rw [ilzf (by omega) (by omega), e105, if_neg e, pk_sub hx0]
    rfl
theorem shI_step {C n x : Nat} {col bes : Nat → Int32} {v : Int32} (h : shI C n x col bes) (hv : v = nI (x % C)) : shI C n (x + 1) (upd col x v) (upd (upd (upd (upd bes (x * 4) (oI (nbr C n x 0))) (x * 4 + 1) (oI (nbr C n x 1))) (x * 4 + 2) (oI (nbr C n x 2))) (x * 4 + 3) (oI (nbr C n x 3))) := by
  intro y hy
  by_cases e : y = x
  · subst e
    refine ⟨by rw [upd_s, hv], fun t ht => ?_⟩
    rcases (show t = 0 ∨ t = 1 ∨ t = 2 ∨ t = 3 by omega) with rfl | rfl | rfl | rfl
    · rw [upd_n (by omega), upd_n (by omega), upd_n (by omega)]
      exact upd_s
    · rw [upd_n (by omega), upd_n (by omega), upd_s]
    · rw [upd_n (by omega), upd_s]
    · rw [upd_s]
  · obtain ⟨a1, a2⟩ := h y (by omega)
    refine ⟨by rw [upd_n e, a1], fun t ht => ?_⟩
    rw [upd_n (by omega), upd_n (by omega), upd_n (by omega), upd_n (by omega), a2 t ht]
theorem sh48 {R C n r : Nat} {K : Int32 → Int32 → (Nat → Int32) → (Nat → Int32) → Option (Int32 × Int32 × Int32 × (Nat → Int32) × (Nat → Int32))} (hY : okYd R C n) (hr : r < R) : ∀ (j c x fuel : Nat) (col bes : Nat → Int32), c + j = C → x = r * C + c → j < fuel → shI C n x col bes →
    ∃ col' bes', shI C n (r * C + C) col' bes' ∧ fX6_takeShape_48 (nI R) (nI C) (nI r) K fuel (nI x) (nI c) col bes = K (nI (r * C + C)) (nI (r + 1)) col' bes' := by
  have h25 := hY.n25
  have hY' := hY
  obtain ⟨h1, h2, h3, h4, h5⟩ := hY'
  intro j
  induction j with
  | zero =>
    intro c x fuel col bes hc hx hf hI
    obtain ⟨f, rfl⟩ : ∃ f, fuel = f + 1 := ⟨fuel - 1, by omega⟩
    have e : x = r * C + C := by omega
    refine ⟨col, bes, e ▸ hI, ?_⟩
    rw [fX6_takeShape_48_s, ile_t (by omega) (by omega), nI_add, e]
  | succ j ih =>
    intro c x fuel col bes hc hx hf hI
    obtain ⟨f, rfl⟩ : ∃ f, fuel = f + 1 := ⟨fuel - 1, by omega⟩
    obtain ⟨l1, l2, l3, l4⟩ := lies hY hr (show c < C by omega) hx
    obtain ⟨col', bes', b1, b2⟩ := ih (c + 1) (x + 1) f _ _ (by omega) (by omega) (by omega) (shI_step hI (show nI c = nI (x % C) by rw [l1]))
    refine ⟨col', bes', b1, ?_⟩
    have n0 : nbr C n x 0 = if x < C then none else some (x - C) := rfl
    rw [fX6_takeShape_48_s, ile_f (by omega) (by omega), gu (by omega) (by omega), sh82 hY hr (show c < C by omega) hx, sh82 hY hr (show c < C by omega) hx, ← b2, n0]
    by_cases e : r = 0
    · rw [ilz e, if_pos (l2.2 e)]
      rfl
    · have hn : ¬ x < C := fun q => e (l2.1 q)
      rw [ilzf (by omega) (by omega), if_neg hn, pk_sub (by omega)]
      rfl
theorem sh39 {R C n N : Nat} (hY : okYd R C n) (hN : 100 ≤ N) : ∀ (j r x fuel : Nat) (col bes : Nat → Int32), r + j = R → x = r * C → j < fuel → shI C n x col bes →
    ∃ col' bes', shI C n n col' bes' ∧ fX6_takeShape_39 N (nI R) (nI C) fuel (nI x) (nI r) col bes = some (nI 1, nI C, nI n, col', bes') := by
  have h25 := hY.n25
  have hY' := hY
  obtain ⟨h1, h2, h3, h4, h5⟩ := hY'
  intro j
  induction j with
  | zero =>
    intro r x fuel col bes hr hx hf hI
    obtain ⟨f, rfl⟩ : ∃ f, fuel = f + 1 := ⟨fuel - 1, by omega⟩
    have e : x = n := by rw [hx, h5, show r = R by omega]
    refine ⟨col, bes, e ▸ hI, ?_⟩
    rw [fX6_takeShape_39_s, ile_t (by omega) (by omega), pk_mul, h5]
  | succ j ih =>
    intro r x fuel col bes hr hx hf hI
    obtain ⟨f, rfl⟩ : ∃ f, fuel = f + 1 := ⟨fuel - 1, by omega⟩
    obtain ⟨c1, b1, i1, e1⟩ := sh48 (K := fX6_takeShape_39 N (nI R) (nI C) f) hY (show r < R by omega) C 0 x N col bes (by omega) (by omega) (by omega) hI
    obtain ⟨c2, b2, i2, e2⟩ := ih (r + 1) (r * C + C) f c1 b1 (by omega) (Nat.succ_mul r C).symm (by omega) i1
    refine ⟨c2, b2, i2, ?_⟩
    rw [fX6_takeShape_39_s, ile_f (by omega) (by omega), e1, e2]
theorem shape {R C n N : Nat} {cols cells : Int32} {col bes : Nat → Int32} (hY : okYd R C n) (hN : 100 ≤ N) : ∃ col' bes', (∀ x, x < n → col' x = nI (x % C)) ∧ yBes C n bes' ∧ fX6_takeShape N cols cells (nI R) (nI C) col bes = some (nI 1, nI C, nI n, col', bes') := by
  obtain ⟨c, b, i, e⟩ := sh39 (N := N) hY hN R 0 0 N col bes (by omega) (by omega) (by have := hY.2.1; omega) (fun y hy => by omega)
  obtain ⟨h1, h2, h3, h4, h5⟩ := hY
  refine ⟨c, b, fun x hx => (i x hx).1, fun x hx => (i x hx).2, ?_⟩
  rw [fX6_takeShape_e, ilt_f (by omega) (by omega), ilt_f (by omega) (by omega), ilt_f (by omega) (by omega), ile_t (by omega) (by omega), e]
