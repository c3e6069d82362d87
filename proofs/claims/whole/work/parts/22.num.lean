/-! ===== numbers: conditions over nI decided by omega ===== -/
theorem gu {α : Type} {x n : Nat} {a : Option α} (h : x < n) (hn : n < 2147483648) : (if ¬ (nI x < 0 ∨ n ≤ (nI x).toNatClampNeg) then a else none) = a := if_pos (nI_in h hn)
theorem gu2 {α : Type} {x n : Nat} {a : Option α} (h : x < n) (hn : n < 2147483648) : (if ¬ (nI x < 0 ∨ n ≤ x) then a else none) = a := if_pos (fun q => by
  rcases q with q | q
  · exact nI_pos (show x < 2 ^ 31 by omega) q
  · omega)
theorem ile_t {α : Type} {a b : Nat} {x y : α} (h : a ≤ b) (hb : b < 2147483648) : (if nI a ≤ nI b then x else y) = x := if_pos (nI_le h hb)
theorem ile_f {α : Type} {a b : Nat} {x y : α} (h : b < a) (hb : a < 2147483648) : (if nI a ≤ nI b then x else y) = y := if_neg (nI_ge h hb)
theorem ilt_t {α : Type} {a b : Nat} {x y : α} (h : a < b) (hb : b < 2147483648) : (if nI a < nI b then x else y) = x := if_pos (nI_lt h hb)
theorem ilt_f {α : Type} {a b : Nat} {x y : α} (h : b ≤ a) (hb : a < 2147483648) : (if nI a < nI b then x else y) = y := if_neg (nI_nlt h hb)
theorem ieq_t {α : Type} {a b : Nat} {x y : α} (h : a = b) : (if nI a = nI b then x else y) = x := if_pos (by rw [h])
theorem ieq_f {α : Type} {a b : Nat} {x y : α} (h : a ≠ b) (ha : a < 2147483648) (hb : b < 2147483648) : (if nI a = nI b then x else y) = y := if_neg (fun e => h ((nI_eq ha hb).mp e))
theorem iz_lt {α : Type} {a : Nat} {x y : α} (ha : a < 2147483648) : (if nI a < 0 then x else y) = y := if_neg (nI_pos ha)
theorem iz_eqt {α : Type} {a : Nat} {x y : α} (h : a = 0) : (if nI a = 0 then x else y) = x := if_pos (by rw [h]; rfl)
theorem iz_eqf {α : Type} {a : Nat} {x y : α} (h : 0 < a) (ha : a < 2147483648) : (if nI a = 0 then x else y) = y := if_neg (nI_ne0 h ha)
theorem iz_le {α : Type} {a : Nat} {x y : α} (ha : a < 2147483648) : (if 0 ≤ nI a then x else y) = x := if_pos (nI_pos' ha)
theorem nI_m4 {a : Nat} (ha : a < 2147483648) : ¬ nI a = (-4 : Int32) := fun e => by
  have := nI_toInt (n := a) ha
  rw [e] at this
  have h4 : (-4 : Int32).toInt = -4 := by decide
  omega
theorem im_eqf {α : Type} {a : Nat} {x y : α} (ha : a < 2147483648) : (if nI a = (-4 : Int32) then x else y) = y := if_neg (nI_m4 ha)
theorem im_eqt {α : Type} {x y : α} : (if (-4 : Int32) = (-4 : Int32) then x else y) = x := if_pos rfl
theorem im_lt {α : Type} {x y : α} : (if (-4 : Int32) < 0 then x else y) = x := if_pos (by decide)
theorem ob {α β : Type} {a : α} {f : α → Option β} : Option.bind (some a) f = f a := rfl
def fl (b : Bool) : Int32 := if b then nI 1 else nI 0
theorem fl_t : fl true = nI 1 := rfl
theorem fl_f : fl false = nI 0 := rfl
theorem fl_01 (b : Bool) : fl b = 0 ∨ fl b = 1 := by cases b <;> decide
def oI : Option Nat → Int32
  | none => -4
  | some y => nI y
theorem upd_s {f : Nat → Int32} {k : Nat} {x : Int32} : upd f k x k = x := pk_us
theorem upd_n {f : Nat → Int32} {k j : Nat} {x : Int32} (h : j ≠ k) : upd f k x j = f j := pk_un h
/-- what it takes to come into a cell of a kind: 1000 is never -/
def wk (k : Int32) : Nat := if k = nI 1 then 3 else if k = nI 2 then 1000 else if k = nI 3 then 1 else if k = nI 4 then 2 else 1
theorem wk_b (k : Int32) : 1 ≤ wk k ∧ (wk k ≤ 3 ∨ 1000 ≤ wk k) ∧ wk k ≤ 1000 := by unfold wk; (repeat' split) <;> omega
theorem wk_salt (k : Int32) : 1000 ≤ wk k ↔ k = nI 2 := by
  unfold wk
  by_cases h1 : k = nI 1
  · subst h1; simp; decide
  · by_cases h2 : k = nI 2
    · subst h2; simp; decide
    · simp [h1, h2]; (repeat' split) <;> omega
/-- the cells beside a cell: up, left, right, down -/
def nbr (C n x t : Nat) : Option Nat := if t = 0 then (if x < C then none else some (x - C)) else if t = 1 then (if x % C = 0 then none else some (x - 1)) else if t = 2 then (if x % C = C - 1 then none else some (x + 1)) else (if x + C < n then some (x + C) else none)
def okYd (R C n : Nat) : Prop := 3 ≤ R ∧ R ≤ 5 ∧ 2 ≤ C ∧ C ≤ 5 ∧ n = R * C
theorem okYd.n25 {R C n : Nat} (h : okYd R C n) : n ≤ 25 ∧ 6 ≤ n := by
  obtain ⟨h1, h2, h3, h4, rfl⟩ := h
  rcases (show R = 3 ∨ R = 4 ∨ R = 5 by omega) with rfl | rfl | rfl <;> rcases (show C = 2 ∨ C = 3 ∨ C = 4 ∨ C = 5 by omega) with rfl | rfl | rfl | rfl <;> decide
theorem nbr_ok {R C n : Nat} (h : okYd R C n) {x t y : Nat} (hx : x < n) (hy : nbr C n x t = some y) : y < n ∧ y ≠ x := by
  obtain ⟨h1, h2, h3, h4, rfl⟩ := h
  unfold nbr at hy
  rcases (show R = 3 ∨ R = 4 ∨ R = 5 by omega) with rfl | rfl | rfl <;> rcases (show C = 2 ∨ C = 3 ∨ C = 4 ∨ C = 5 by omega) with rfl | rfl | rfl | rfl <;>
  · split at hy
    · split at hy
      · cases hy
      · cases hy; omega
    · split at hy
      · split at hy
        · cases hy
        · cases hy; omega
      · split at hy
        · split at hy
          · cases hy
          · cases hy; omega
        · split at hy
          · cases hy; omega
          · cases hy
theorem okG {R C n : Nat} (h : okYd R C n) (K : Nat → Int32) : rx_G n (nbr C n) (fun _ y => wk (K y)) := ⟨fun x t y hx hy => nbr_ok h hx hy, fun x y => ⟨(wk_b (K y)).1, (wk_b (K y)).2.1⟩⟩
theorem okG2 {R C n : Nat} (h : okYd R C n) (K : Nat → Int32) : rx_G n (nbr C n) (fun x _ => wk (K x)) := ⟨fun x t y hx hy => nbr_ok h hx hy, fun x y => ⟨(wk_b (K x)).1, (wk_b (K x)).2.1⟩⟩
