/-! ===== items ===== -/
/-- the yard while it is read -/
def rdR (R C n q : Nat) (d : Nat → Nat) (st nr : Nat) (rn ra : Nat → Nat) (nh : Nat) (hs : Nat → Nat) (b : Bool) (yk ycol bes damps yrn yr yh told : Nat → Int32) : Prop :=
  yAll R C n q d bes damps told ∧ (∀ x, x < n → ycol x = nI (x % C)) ∧ (told 2 = nI st ∧ st < C) ∧ (told 13 = nI nr ∧ nr ≤ 5 ∧ ∀ i, i < nr → yrn i = nI (rn i) ∧ yr i = nI (ra i) ∧ told (14 + 2 * i) = nI (rn i) ∧ told (15 + 2 * i) = nI (ra i) ∧ rn i ≤ 60 ∧ ra i ≤ 99) ∧ (told 24 = nI nh ∧ nh ≤ 4 ∧ ∀ i, i < nh → yh i = nI (hs i) ∧ told (25 + i) = nI (hs i) ∧ hs i ≤ 4) ∧ (∀ y, y < 25 → told (29 + y) = yk y) ∧ (b = false → st = 0)
/-- it says no -/
def badI {ρ : Type} (o : Option (Int32 × ρ)) : Prop := ∃ z, o = some (nI 0, z)
/-- it says yes, and both have read the same -/
def goodI (L i : Nat) (cl : Option (Int32 × Int32 × Int32 × Int32 × Int32 × Int32 × Int32 × Int32 × Int32 × Int32 × Int32 × (Nat → Int32) × (Nat → Int32) × (Nat → Int32) × (Nat → Int32) × (Nat → Int32) × (Nat → Int32) × (Nat → Int32))) (mo : Option (Int32 × Int32 × Int32 × Int32 × (Nat → Int32))) : Prop :=
  ∃ p R C n q d st nr rn ra nh hs b yk ycol bes damps yrn yr yh told f' s' t', i < p ∧ p ≤ L ∧ rdR R C n q d st nr rn ra nh hs b yk ycol bes damps yrn yr yh told ∧
    cl = some (nI 1, nI p, f', s', fl b, nI C, nI n, nI st, nI q, nI nr, nI nh, yr, yrn, yk, ycol, bes, damps, yh) ∧ mo = some (nI 1, nI p, fl b, t', told)
theorem moOneF {N k m : Nat} {L a t0 g : Int32} {read mx : Nat → Int32} (hk : k < 54) (hr : read k = nI m) : fX8_readOne N L a t0 (nI k) (nI m) g read mx = some (nI 0, a, t0, read) := by
  rw [fX8_readOne_e, gu hk (by omega), nI_clamp (by omega), hr, if_pos rfl]
theorem moOneT {N k m q : Nat} {L a t0 g : Int32} {read mx : Nat → Int32} (hk : k + m < 54) (hq : q < m) (hr : read k = nI q) : fX8_readOne N L a t0 (nI k) (nI m) g read mx = (fX8_number N L a t0 (nI 0) g (nI 59) mx).bind fun o => if o.1 = 0 then some (nI 0, o.2.1, o.2.2, read) else some (nI 1, o.2.1, o.2.2, upd (upd read k (nI (q + 1))) (k + (q + 1)) o.2.2) := by
  rw [fX8_readOne_e, gu (show k < 54 by omega) (by omega), nI_clamp (by omega), hr, ieq_f (by omega) (by omega) (by omega)]
  congr 1
  funext o
  rw [gu2 (show k < 54 by omega) (by omega), gu2 (show k < 54 by omega) (by omega), gu2 (show k < 54 by omega) (by omega), upd_s, nI_add, nI_add, gu (show k + (q + 1) < 54 by omega) (by omega), nI_clamp (by omega)]
section
variable {R C n q st nr nh N L i : Nat} {d rn ra hs : Nat → Nat} {b : Bool} {yk ycol bes damps yrn yr yh told tx mx : Nat → Int32}
theorem it_d (hR : rdR R C n q d st nr rn ra nh hs b yk ycol bes damps yrn yr yh told) (h : tR L tx mx) (hi : i < L) (hN : 100 ≤ N) (hc : tx i = nI 100) (f s t0 : Int32) :
    (badI (fX2_readItem N (nI i) f s (fl b) (nI C) (nI n) (nI st) (nI q) (nI nr) (nI nh) (nI L) tx yr yrn yk ycol bes damps yh) ∧ badI (fX8_item N (nI L) (nI i) (fl b) t0 mx told)) ∨
    goodI L i (fX2_readItem N (nI i) f s (fl b) (nI C) (nI n) (nI st) (nI q) (nI nr) (nI nh) (nI L) tx yr yrn yk ycol bes damps yh) (fX8_item N (nI L) (nI i) (fl b) t0 mx told) := by
  have hL := h.1
  obtain ⟨⟨y1, y2, ⟨q9, d3, dd⟩⟩, r1, r2, r3, r4, r5, r6⟩ := hR
  have hm : mx i = nI 100 := by rw [← h.2 i hi, hc]
  rw [fX2_readItem_e, cl_at hL (by omega), if_pos hi, hc, Option.bind_some, ieq_t rfl, nI_add]
  rw [fX8_item_e, gu (show i < 200 by omega) (by omega), nI_clamp (by omega), hm, ieq_f (show 100 ≠ 121 by omega) (by omega) (by omega), ieq_t rfl, nI_add]
  rcases one (N := N) (i := i + 1) h (by omega) hN with ⟨x, y, a1, a2⟩ | ⟨v, p, hv, hp, hpL, a1, a2⟩
  · left
    rw [a1]
    refine ⟨⟨_, rfl⟩, ?_⟩
    by_cases h9 : q = 9
    · rw [moOneF (by omega) (by rw [d3, h9])]
      exact ⟨_, rfl⟩
    · obtain ⟨x', y', e⟩ := a2 t0 0 9 (by omega) (by omega)
      rw [moOneT (q := q) (by omega) (by omega) d3, e]
      exact ⟨_, rfl⟩
  · rw [a1, Option.bind_some, iz_eqf (by omega) (by omega), fX2_takeOne_e, ieq_t rfl, fX6_takeDamp_e, iz_lt (by omega)]
    by_cases h9 : q = 9
    · left
      refine ⟨?_, ?_⟩
      · by_cases hv9 : 9 < v
        · rw [ilt_t hv9 (by omega)]
          exact ⟨_, rfl⟩
        · rw [ilt_f (by omega) (by omega), ilt_f (by omega) (by omega)]
          exact ⟨_, rfl⟩
      · rw [moOneF (by omega) (by rw [d3, h9])]
        exact ⟨_, rfl⟩
    · have e := a2 t0 0 9 (by omega) (by omega)
      rw [moOneT (q := q) (by omega) (by omega) d3, e]
      by_cases hv9 : 9 < v
      · left
        rw [ilt_t hv9 (by omega), decide_eq_false (by omega)]
        exact ⟨⟨_, rfl⟩, ⟨_, rfl⟩⟩
      · right
        rw [ilt_f (by omega) (by omega), ilt_t (by omega) (by omega), gu (by omega) (by omega), nI_clamp (by omega), nI_add, decide_eq_true (by omega)]
        refine ⟨p, R, C, n, q + 1, fun j => if j = q then v else d j, st, nr, rn, ra, nh, hs, true, yk, ycol, bes, upd damps q (nI v), yrn, yr, yh, upd (upd told 3 (nI (q + 1))) (3 + (q + 1)) (nI v), nI v, s, nI v, by omega, hpL, ?_, rfl, rfl⟩
        have un : ∀ j, j ≠ 3 → j ≠ 4 + q → upd (upd told 3 (nI (q + 1))) (3 + (q + 1)) (nI v) j = told j := fun j h1 h2 => by rw [upd_n (by omega), upd_n h1]
        refine ⟨⟨⟨y1.1, by rw [un 0 (by omega) (by omega), y1.2.1], by rw [un 1 (by omega) (by omega), y1.2.2]⟩, y2, by omega, by rw [upd_n (by omega), upd_s], fun j hj => ?_⟩, r1, ⟨by rw [un 2 (by omega) (by omega), r2.1], r2.2⟩, ⟨by rw [un 13 (by omega) (by omega), r3.1], r3.2.1, fun j hj => ?_⟩, ⟨by rw [un 24 (by omega) (by omega), r4.1], r4.2.1, fun j hj => ?_⟩, fun y hy => by rw [un _ (by omega) (by omega), r5 y hy], fun e => by cases e⟩
        · by_cases e : j = q
          · subst e
            refine ⟨?_, ?_, ?_⟩
            · rw [upd_s]
              simp
            · rw [show 4 + j = 3 + (j + 1) by omega, upd_s]
              simp
            · simp only [if_true]
              omega
          · obtain ⟨b1, b2, b3⟩ := dd j (by omega)
            simp only [if_neg e]
            exact ⟨by rw [upd_n e, b1], by rw [un _ (by omega) (by omega), b2], b3⟩
        · obtain ⟨b1, b2, b3, b4, b5⟩ := r3.2.2 j hj
          have := r3.2.1
          exact ⟨b1, b2, by rw [un _ (by omega) (by omega), b3], by rw [un _ (by omega) (by omega), b4], b5⟩
        · obtain ⟨b1, b2, b3⟩ := r4.2.2 j hj
          exact ⟨b1, by rw [un _ (by omega) (by omega), b2], b3⟩
theorem it_h (hR : rdR R C n q d st nr rn ra nh hs b yk ycol bes damps yrn yr yh told) (h : tR L tx mx) (hi : i < L) (hN : 100 ≤ N) (hc : tx i = nI 104) (f s t0 : Int32) :
    (badI (fX2_readItem N (nI i) f s (fl b) (nI C) (nI n) (nI st) (nI q) (nI nr) (nI nh) (nI L) tx yr yrn yk ycol bes damps yh) ∧ badI (fX8_item N (nI L) (nI i) (fl b) t0 mx told)) ∨
    goodI L i (fX2_readItem N (nI i) f s (fl b) (nI C) (nI n) (nI st) (nI q) (nI nr) (nI nh) (nI L) tx yr yrn yk ycol bes damps yh) (fX8_item N (nI L) (nI i) (fl b) t0 mx told) := by
  have hL := h.1
  obtain ⟨⟨y1, y2, y3⟩, r1, r2, r3, ⟨d3, q9, dd⟩, r5, r6⟩ := hR
  have hm : mx i = nI 104 := by rw [← h.2 i hi, hc]
  rw [fX2_readItem_e, cl_at hL (by omega), if_pos hi, hc, Option.bind_some, ieq_f (show 104 ≠ 100 by omega) (by omega) (by omega), ieq_t rfl, nI_add]
  rw [fX8_item_e, gu (show i < 200 by omega) (by omega), nI_clamp (by omega), hm, ieq_f (show 104 ≠ 121 by omega) (by omega) (by omega), ieq_f (show 104 ≠ 100 by omega) (by omega) (by omega), ieq_t rfl, nI_add]
  rcases one (N := N) (i := i + 1) h (by omega) hN with ⟨x, y, a1, a2⟩ | ⟨v, p, hv, hp, hpL, a1, a2⟩
  · left
    rw [a1]
    refine ⟨⟨_, rfl⟩, ?_⟩
    by_cases h9 : nh = 4
    · rw [moOneF (by omega) (by rw [d3, h9])]
      exact ⟨_, rfl⟩
    · obtain ⟨x', y', e⟩ := a2 t0 0 4 (by omega) (by omega)
      rw [moOneT (q := nh) (by omega) (by omega) d3, e]
      exact ⟨_, rfl⟩
  · rw [a1, Option.bind_some, iz_eqf (by omega) (by omega), fX2_takeOne_e, ieq_f (show 104 ≠ 100 by omega) (by omega) (by omega), ieq_f (show 104 ≠ 115 by omega) (by omega) (by omega), fX6_takeHeir_e, iz_lt (by omega)]
    by_cases h9 : nh = 4
    · left
      refine ⟨?_, ?_⟩
      · by_cases hv9 : 4 < v
        · rw [ilt_t hv9 (by omega)]
          exact ⟨_, rfl⟩
        · rw [ilt_f (by omega) (by omega), ilt_f (by omega) (by omega)]
          exact ⟨_, rfl⟩
      · rw [moOneF (by omega) (by rw [d3, h9])]
        exact ⟨_, rfl⟩
    · have e := a2 t0 0 4 (by omega) (by omega)
      rw [moOneT (q := nh) (by omega) (by omega) d3, e]
      by_cases hv9 : 4 < v
      · left
        rw [ilt_t hv9 (by omega), decide_eq_false (by omega)]
        exact ⟨⟨_, rfl⟩, ⟨_, rfl⟩⟩
      · right
        rw [ilt_f (by omega) (by omega), ilt_t (by omega) (by omega), gu (by omega) (by omega), nI_clamp (by omega), nI_add, decide_eq_true (by omega)]
        refine ⟨p, R, C, n, q, d, st, nr, rn, ra, nh + 1, fun j => if j = nh then v else hs j, true, yk, ycol, bes, damps, yrn, yr, upd yh nh (nI v), upd (upd told 24 (nI (nh + 1))) (24 + (nh + 1)) (nI v), nI v, s, nI v, by omega, hpL, ?_, rfl, rfl⟩
        have un : ∀ j, j ≠ 24 → j ≠ 25 + nh → upd (upd told 24 (nI (nh + 1))) (24 + (nh + 1)) (nI v) j = told j := fun j h1 h2 => by rw [upd_n (by omega), upd_n h1]
        refine ⟨⟨⟨y1.1, by rw [un 0 (by omega) (by omega), y1.2.1], by rw [un 1 (by omega) (by omega), y1.2.2]⟩, y2, y3.1, by rw [un 3 (by omega) (by omega), y3.2.1], fun j hj => ?_⟩, r1, ⟨by rw [un 2 (by omega) (by omega), r2.1], r2.2⟩, ⟨by rw [un 13 (by omega) (by omega), r3.1], r3.2.1, fun j hj => ?_⟩, ⟨by rw [upd_n (by omega), upd_s], by omega, fun j hj => ?_⟩, fun y hy => by rw [un _ (by omega) (by omega), r5 y hy], fun e => by cases e⟩
        · obtain ⟨b1, b2, b3⟩ := y3.2.2 j hj
          have := y3.1
          exact ⟨b1, by rw [un _ (by omega) (by omega), b2], b3⟩
        · obtain ⟨b1, b2, b3, b4, b5⟩ := r3.2.2 j hj
          have := r3.2.1
          exact ⟨b1, b2, by rw [un _ (by omega) (by omega), b3], by rw [un _ (by omega) (by omega), b4], b5⟩
        · by_cases e : j = nh
          · subst e
            refine ⟨?_, ?_, ?_⟩
            · rw [upd_s]
              simp
            · rw [show 25 + j = 24 + (j + 1) by omega, upd_s]
              simp
            · simp only [if_true]
              omega
          · obtain ⟨b1, b2, b3⟩ := dd j (by omega)
            simp only [if_neg e]
            exact ⟨by rw [upd_n e, b1], by rw [un _ (by omega) (by omega), b2], b3⟩
theorem it_s (hR : rdR R C n q d st nr rn ra nh hs b yk ycol bes damps yrn yr yh told) (h : tR L tx mx) (hi : i < L) (hN : 100 ≤ N) (hc : tx i = nI 115) (f s t0 : Int32) :
    (badI (fX2_readItem N (nI i) f s (fl b) (nI C) (nI n) (nI st) (nI q) (nI nr) (nI nh) (nI L) tx yr yrn yk ycol bes damps yh) ∧ badI (fX8_item N (nI L) (nI i) (fl b) t0 mx told)) ∨
    goodI L i (fX2_readItem N (nI i) f s (fl b) (nI C) (nI n) (nI st) (nI q) (nI nr) (nI nh) (nI L) tx yr yrn yk ycol bes damps yh) (fX8_item N (nI L) (nI i) (fl b) t0 mx told) := by
  have hL := h.1
  obtain ⟨⟨y1, y2, y3⟩, r1, r2, r3, r4, r5, r6⟩ := hR
  have hC5 := y1.1.2.2.2.1
  have hC2 := y1.1.2.2.1
  have hm : mx i = nI 115 := by rw [← h.2 i hi, hc]
  rw [fX2_readItem_e, cl_at hL (by omega), if_pos hi, hc, Option.bind_some, ieq_f (show 115 ≠ 100 by omega) (by omega) (by omega), ieq_f (show 115 ≠ 104 by omega) (by omega) (by omega), ieq_f (show 115 ≠ 107 by omega) (by omega) (by omega), ieq_f (show 115 ≠ 114 by omega) (by omega) (by omega), ieq_t rfl, nI_add]
  rw [fX8_item_e, gu (show i < 200 by omega) (by omega), nI_clamp (by omega), hm, ieq_f (show 115 ≠ 121 by omega) (by omega) (by omega), ieq_f (show 115 ≠ 100 by omega) (by omega) (by omega), ieq_f (show 115 ≠ 104 by omega) (by omega) (by omega), ieq_f (show 115 ≠ 107 by omega) (by omega) (by omega), ieq_f (show 115 ≠ 114 by omega) (by omega) (by omega), ieq_t rfl, nI_add, y1.2.2, pk_sub (by omega)]
  rcases one (N := N) (i := i + 1) h (by omega) hN with ⟨x, y, a1, a2⟩ | ⟨v, p, hv, hp, hpL, a1, a2⟩
  · left
    obtain ⟨x', y', e⟩ := a2 t0 0 (C - 1) (by omega) (by omega)
    rw [a1, e]
    exact ⟨⟨_, rfl⟩, ⟨_, rfl⟩⟩
  · have e := a2 t0 0 (C - 1) (by omega) (by omega)
    rw [a1, e, Option.bind_some, iz_eqf (by omega) (by omega), fX2_takeOne_e, ieq_f (show 115 ≠ 100 by omega) (by omega) (by omega), ieq_t rfl, fX6_takeStart_e, iz_lt (by omega)]
    by_cases hvC : v < C
    · right
      rw [ilt_t hvC (by omega), decide_eq_true (by omega)]
      have un : ∀ j, j ≠ 2 → upd told 2 (nI v) j = told j := fun j h1 => upd_n h1
      refine ⟨p, R, C, n, q, d, v, nr, rn, ra, nh, hs, true, yk, ycol, bes, damps, yrn, yr, yh, upd told 2 (nI v), nI v, s, nI v, by omega, hpL, ?_, rfl, rfl⟩
      refine ⟨⟨⟨y1.1, by rw [un 0 (by omega), y1.2.1], by rw [un 1 (by omega), y1.2.2]⟩, y2, y3.1, by rw [un 3 (by omega), y3.2.1], fun j hj => ?_⟩, r1, ⟨upd_s, hvC⟩, ⟨by rw [un 13 (by omega), r3.1], r3.2.1, fun j hj => ?_⟩, ⟨by rw [un 24 (by omega), r4.1], r4.2.1, fun j hj => ?_⟩, fun y hy => by rw [un _ (by omega), r5 y hy], fun e => by cases e⟩
      · obtain ⟨b1, b2, b3⟩ := y3.2.2 j hj
        exact ⟨b1, by rw [un _ (by omega), b2], b3⟩
      · obtain ⟨b1, b2, b3, b4, b5⟩ := r3.2.2 j hj
        exact ⟨b1, b2, by rw [un _ (by omega), b3], by rw [un _ (by omega), b4], b5⟩
      · obtain ⟨b1, b2, b3⟩ := r4.2.2 j hj
        exact ⟨b1, by rw [un _ (by omega), b2], b3⟩
    · left
      rw [ilt_f (by omega) (by omega), decide_eq_false (by omega)]
      exact ⟨⟨_, rfl⟩, ⟨_, rfl⟩⟩
end
