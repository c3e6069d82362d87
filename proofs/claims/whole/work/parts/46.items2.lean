/-! ===== items of two numbers ===== -/
section
variable {R C n q st nr nh N L i : Nat} {d rn ra hs : Nat → Nat} {b : Bool} {yk ycol bes damps yrn yr yh told tx mx : Nat → Int32}
theorem it_k (hR : rdR R C n q d st nr rn ra nh hs b yk ycol bes damps yrn yr yh told) (h : tR L tx mx) (hi : i < L) (hN : 100 ≤ N) (hc : tx i = nI 107) (f s t0 : Int32) :
    (badI (fX2_readItem N (nI i) f s (fl b) (nI C) (nI n) (nI st) (nI q) (nI nr) (nI nh) (nI L) tx yr yrn yk ycol bes damps yh) ∧ badI (fX8_item N (nI L) (nI i) (fl b) t0 mx told)) ∨
    goodI L i (fX2_readItem N (nI i) f s (fl b) (nI C) (nI n) (nI st) (nI q) (nI nr) (nI nh) (nI L) tx yr yrn yk ycol bes damps yh) (fX8_item N (nI L) (nI i) (fl b) t0 mx told) := by
  have hL := h.1
  obtain ⟨⟨y1, y2, y3⟩, r1, r2, r3, r4, r5, r6⟩ := hR
  have h25 := y1.1.n25
  have hn : n = R * C := y1.1.2.2.2.2
  have hm : mx i = nI 107 := by rw [← h.2 i hi, hc]
  rw [fX2_readItem_e, cl_at hL (by omega), if_pos hi, hc, Option.bind_some, ieq_f (show 107 ≠ 100 by omega) (by omega) (by omega), ieq_f (show 107 ≠ 104 by omega) (by omega) (by omega), ieq_t rfl, nI_add]
  rw [fX8_item_e, gu (show i < 200 by omega) (by omega), nI_clamp (by omega), hm, ieq_f (show 107 ≠ 121 by omega) (by omega) (by omega), ieq_f (show 107 ≠ 100 by omega) (by omega) (by omega), ieq_f (show 107 ≠ 104 by omega) (by omega) (by omega), ieq_t rfl, nI_add, fX8_readKind_e, y1.2.1, y1.2.2, pk_mul, ← hn, pk_sub (by omega)]
  rcases two (N := N) (i := i + 1) h (by omega) hN s with ⟨x, y, z, a1, a2⟩ | ⟨v, p, w, r, hv, hw, hr, hrL, a1, a2, a3⟩
  · left
    rw [a1]
    refine ⟨⟨_, rfl⟩, ?_⟩
    rcases a2 with a2 | ⟨v, p, hv, a2, a3⟩
    · obtain ⟨x', y', e⟩ := a2 t0 0 (n - 1) (by omega) (by omega)
      rw [e]
      exact ⟨_, rfl⟩
    · rw [a2 t0 0 (n - 1) (by omega) (by omega)]
      by_cases hvn : v < n
      · obtain ⟨x', y', e⟩ := a3 (nI v) 0 4 (by omega) (by omega)
        rw [decide_eq_true (by omega), Option.bind_some]
        simp only []
        rw [fl_t, iz_eqf (by omega) (by omega), e, Option.bind_some]
        simp only []
        rw [nI_add, gu (by omega) (by omega)]
        exact ⟨_, rfl⟩
      · rw [decide_eq_false (by omega)]
        exact ⟨_, rfl⟩
  · rw [a1, Option.bind_some, iz_eqf (by omega) (by omega), fX2_takeTwo_e, ieq_f (show 107 ≠ 121 by omega) (by omega) (by omega), ieq_t rfl, fX6_takeKind_e, fX6_has_e, a2 t0 0 (n - 1) (by omega) (by omega), Option.bind_some]
    simp only []
    rw [iz_lt (by omega)]
    by_cases hvn : v < n
    · rw [ile_f (by omega) (by omega), ile_f (by omega) (by omega), Option.bind_some, iz_eqf (by omega) (by omega), iz_lt (by omega), decide_eq_true (by omega), fl_t, iz_eqf (by omega) (by omega), a3 (nI v) 0 4 (by omega) (by omega), Option.bind_some]
      simp only []
      rw [nI_add, gu (show 29 + v < 54 by omega) (by omega), nI_clamp (show 29 + v < _ by omega)]
      by_cases hw4 : w ≤ 4
      · right
        rw [ile_t hw4 (by omega), gu (show v < 25 by omega) (by omega), nI_clamp (show v < _ by omega), decide_eq_true (by omega)]
        have un : ∀ j, j ≠ 29 + v → upd told (29 + v) (nI w) j = told j := fun j h1 => upd_n h1
        refine ⟨r, R, C, n, q, d, st, nr, rn, ra, nh, hs, true, upd yk v (nI w), ycol, bes, damps, yrn, yr, yh, upd told (29 + v) (nI w), nI v, nI w, nI w, by omega, hrL, ?_, rfl, rfl⟩
        refine ⟨⟨⟨y1.1, by rw [un 0 (by omega), y1.2.1], by rw [un 1 (by omega), y1.2.2]⟩, y2, y3.1, by rw [un 3 (by omega), y3.2.1], fun j hj => ?_⟩, r1, ⟨by rw [un 2 (by omega), r2.1], r2.2⟩, ⟨by rw [un 13 (by omega), r3.1], r3.2.1, fun j hj => ?_⟩, ⟨by rw [un 24 (by omega), r4.1], r4.2.1, fun j hj => ?_⟩, fun y hy => ?_, fun e => by cases e⟩
        · obtain ⟨b1, b2, b3⟩ := y3.2.2 j hj
          have := y3.1
          exact ⟨b1, by rw [un _ (by omega), b2], b3⟩
        · obtain ⟨b1, b2, b3, b4, b5⟩ := r3.2.2 j hj
          have := r3.2.1
          exact ⟨b1, b2, by rw [un _ (by omega), b3], by rw [un _ (by omega), b4], b5⟩
        · obtain ⟨b1, b2, b3⟩ := r4.2.2 j hj
          have := r4.2.1
          exact ⟨b1, by rw [un _ (by omega), b2], b3⟩
        · by_cases e : y = v
          · rw [e, upd_s, upd_s]
          · rw [un _ (by omega), upd_n e, r5 y hy]
      · left
        rw [ile_f (by omega) (by omega), decide_eq_false (by omega)]
        exact ⟨⟨_, rfl⟩, ⟨_, rfl⟩⟩
    · left
      rw [ile_t (by omega) (by omega), decide_eq_false (by omega)]
      exact ⟨⟨_, rfl⟩, ⟨_, rfl⟩⟩
theorem it_y (hR : rdR R C n q d st nr rn ra nh hs b yk ycol bes damps yrn yr yh told) (h : tR L tx mx) (hi : i < L) (hN : 100 ≤ N) (hc : tx i = nI 121) (f s t0 : Int32) :
    (badI (fX2_readItem N (nI i) f s (fl b) (nI C) (nI n) (nI st) (nI q) (nI nr) (nI nh) (nI L) tx yr yrn yk ycol bes damps yh) ∧ badI (fX8_item N (nI L) (nI i) (fl b) t0 mx told)) ∨
    goodI L i (fX2_readItem N (nI i) f s (fl b) (nI C) (nI n) (nI st) (nI q) (nI nr) (nI nh) (nI L) tx yr yrn yk ycol bes damps yh) (fX8_item N (nI L) (nI i) (fl b) t0 mx told) := by
  have hL := h.1
  obtain ⟨⟨y1, y2, y3⟩, r1, r2, r3, r4, r5, r6⟩ := hR
  have h25 := y1.1.n25
  have hm : mx i = nI 121 := by rw [← h.2 i hi, hc]
  rw [fX2_readItem_e, cl_at hL (by omega), if_pos hi, hc, Option.bind_some, ieq_f (show 121 ≠ 100 by omega) (by omega) (by omega), ieq_f (show 121 ≠ 104 by omega) (by omega) (by omega), ieq_f (show 121 ≠ 107 by omega) (by omega) (by omega), ieq_f (show 121 ≠ 114 by omega) (by omega) (by omega), ieq_f (show 121 ≠ 115 by omega) (by omega) (by omega), ieq_t rfl, nI_add]
  rw [fX8_item_e, gu (show i < 200 by omega) (by omega), nI_clamp (by omega), hm, ieq_t rfl, nI_add, fX8_readYard_e]
  rcases two (N := N) (i := i + 1) h (by omega) hN s with ⟨x, y, z, a1, a2⟩ | ⟨v, p, w, r, hv, hw, hr, hrL, a1, a2, a3⟩
  · left
    rw [a1]
    refine ⟨⟨_, rfl⟩, ?_⟩
    cases b with
    | true => exact ⟨_, rfl⟩
    | false =>
      rw [fl_f, iz_eqt rfl]
      rcases a2 with a2 | ⟨v, p, hv, a2, a3⟩
      · obtain ⟨x', y', e⟩ := a2 t0 3 5 (by omega) (by omega)
        rw [e]
        exact ⟨_, rfl⟩
      · rw [a2 t0 3 5 (by omega) (by omega)]
        by_cases hvn : 3 ≤ v ∧ v ≤ 5
        · obtain ⟨x', y', e⟩ := a3 (nI v) 2 5 (by omega) (by omega)
          rw [decide_eq_true hvn, Option.bind_some]
          simp only []
          rw [fl_t, iz_eqf (by omega) (by omega), e]
          exact ⟨_, rfl⟩
        · rw [decide_eq_false hvn]
          exact ⟨_, rfl⟩
  · rw [a1, Option.bind_some, iz_eqf (by omega) (by omega), fX2_takeTwo_e, ieq_t rfl]
    cases b with
    | true => exact Or.inl ⟨⟨_, rfl⟩, ⟨_, rfl⟩⟩
    | false =>
      have hst : st = 0 := r6 rfl
      subst hst
      rw [fl_f, iz_eqt rfl, iz_eqt rfl, a2 t0 3 5 (by omega) (by omega), Option.bind_some]
      simp only []
      by_cases hvn : 3 ≤ v ∧ v ≤ 5
      · rw [decide_eq_true hvn, fl_t, iz_eqf (by omega) (by omega), a3 (nI v) 2 5 (by omega) (by omega), Option.bind_some]
        simp only []
        by_cases hwn : 2 ≤ w ∧ w ≤ 5
        · right
          have ok : okYd v w (v * w) := ⟨hvn.1, hvn.2, hwn.1, hwn.2, rfl⟩
          obtain ⟨col', bes', c1, c2, c3⟩ := shape (N := N) (cols := nI C) (cells := nI n) (col := ycol) (bes := bes) ok hN
          rw [c3, decide_eq_true hwn]
          have un : ∀ j, j ≠ 0 → j ≠ 1 → upd (upd told 0 (nI v)) 1 (nI w) j = told j := fun j h1 h2 => by rw [upd_n h2, upd_n h1]
          refine ⟨r, v, w, v * w, q, d, 0, nr, rn, ra, nh, hs, false, yk, col', bes', damps, yrn, yr, yh, upd (upd told 0 (nI v)) 1 (nI w), nI v, nI w, nI w, by omega, hrL, ?_, rfl, rfl⟩
          refine ⟨⟨⟨ok, by rw [upd_n (by omega), upd_s], upd_s⟩, c2, y3.1, by rw [un 3 (by omega) (by omega), y3.2.1], fun j hj => ?_⟩, c1, ⟨by rw [un 2 (by omega) (by omega), r2.1], by omega⟩, ⟨by rw [un 13 (by omega) (by omega), r3.1], r3.2.1, fun j hj => ?_⟩, ⟨by rw [un 24 (by omega) (by omega), r4.1], r4.2.1, fun j hj => ?_⟩, fun y hy => by rw [un _ (by omega) (by omega), r5 y hy], fun e => rfl⟩
          · obtain ⟨b1, b2, b3⟩ := y3.2.2 j hj
            exact ⟨b1, by rw [un _ (by omega) (by omega), b2], b3⟩
          · obtain ⟨b1, b2, b3, b4, b5⟩ := r3.2.2 j hj
            exact ⟨b1, b2, by rw [un _ (by omega) (by omega), b3], by rw [un _ (by omega) (by omega), b4], b5⟩
          · obtain ⟨b1, b2, b3⟩ := r4.2.2 j hj
            exact ⟨b1, by rw [un _ (by omega) (by omega), b2], b3⟩
        · left
          rw [decide_eq_false hwn, fX6_takeShape_e, ilt_f (by omega) (by omega), ilt_f (by omega) (by omega)]
          refine ⟨?_, ⟨_, rfl⟩⟩
          by_cases w2 : w < 2
          · rw [ilt_t w2 (by omega)]
            exact ⟨_, rfl⟩
          · rw [ilt_f (by omega) (by omega), ile_f (by omega) (by omega)]
            exact ⟨_, rfl⟩
      · left
        rw [decide_eq_false hvn, fX6_takeShape_e]
        refine ⟨?_, ⟨_, rfl⟩⟩
        by_cases v3 : v < 3
        · rw [ilt_t v3 (by omega)]
          exact ⟨_, rfl⟩
        · rw [ilt_f (by omega) (by omega), ilt_t (by omega) (by omega)]
          exact ⟨_, rfl⟩
theorem it_r (hR : rdR R C n q d st nr rn ra nh hs b yk ycol bes damps yrn yr yh told) (h : tR L tx mx) (hi : i < L) (hN : 100 ≤ N) (hc : tx i = nI 114) (f s t0 : Int32) :
    (badI (fX2_readItem N (nI i) f s (fl b) (nI C) (nI n) (nI st) (nI q) (nI nr) (nI nh) (nI L) tx yr yrn yk ycol bes damps yh) ∧ badI (fX8_item N (nI L) (nI i) (fl b) t0 mx told)) ∨
    goodI L i (fX2_readItem N (nI i) f s (fl b) (nI C) (nI n) (nI st) (nI q) (nI nr) (nI nh) (nI L) tx yr yrn yk ycol bes damps yh) (fX8_item N (nI L) (nI i) (fl b) t0 mx told) := by
  have hL := h.1
  obtain ⟨⟨y1, y2, y3⟩, r1, r2, ⟨d3, q9, dd⟩, r4, r5, r6⟩ := hR
  have hm : mx i = nI 114 := by rw [← h.2 i hi, hc]
  rw [fX2_readItem_e, cl_at hL (by omega), if_pos hi, hc, Option.bind_some, ieq_f (show 114 ≠ 100 by omega) (by omega) (by omega), ieq_f (show 114 ≠ 104 by omega) (by omega) (by omega), ieq_f (show 114 ≠ 107 by omega) (by omega) (by omega), ieq_t rfl, nI_add]
  rw [fX8_item_e, gu (show i < 200 by omega) (by omega), nI_clamp (by omega), hm, ieq_f (show 114 ≠ 121 by omega) (by omega) (by omega), ieq_f (show 114 ≠ 100 by omega) (by omega) (by omega), ieq_f (show 114 ≠ 104 by omega) (by omega) (by omega), ieq_f (show 114 ≠ 107 by omega) (by omega) (by omega), ieq_t rfl, nI_add, fX8_readRent_e, d3]
  rcases two (N := N) (i := i + 1) h (by omega) hN s with ⟨x, y, z, a1, a2⟩ | ⟨v, p, w, r, hv, hw, hr, hrL, a1, a2, a3⟩
  · left
    rw [a1]
    refine ⟨⟨_, rfl⟩, ?_⟩
    by_cases h5 : nr = 5
    · rw [ieq_t h5]
      exact ⟨_, rfl⟩
    · rw [ieq_f h5 (by omega) (by omega)]
      rcases a2 with a2 | ⟨v, p, hv, a2, a3⟩
      · obtain ⟨x', y', e⟩ := a2 t0 0 60 (by omega) (by omega)
        rw [e]
        exact ⟨_, rfl⟩
      · rw [a2 t0 0 60 (by omega) (by omega)]
        by_cases hvn : v ≤ 60
        · obtain ⟨x', y', e⟩ := a3 (nI v) 1 99 (by omega) (by omega)
          rw [decide_eq_true (by omega), Option.bind_some]
          simp only []
          rw [fl_t, iz_eqf (by omega) (by omega), pk_mul, nI_add, nI_add, gu (by omega) (by omega), e, Option.bind_some]
          simp only []
          rw [gu (by omega) (by omega)]
          exact ⟨_, rfl⟩
        · rw [decide_eq_false (by omega)]
          exact ⟨_, rfl⟩
  · rw [a1, Option.bind_some, iz_eqf (by omega) (by omega), fX2_takeTwo_e, ieq_f (show 114 ≠ 121 by omega) (by omega) (by omega), ieq_f (show 114 ≠ 107 by omega) (by omega) (by omega), fX6_takeRent_e]
    simp only []
    rw [iz_lt (by omega)]
    by_cases h5 : nr = 5
    · left
      rw [ieq_t h5]
      refine ⟨?_, ⟨_, rfl⟩⟩
      have e26 : fX6_takeRent_26 (nI nr) (nI v) (nI w) yr yrn (nI 1) = some (nI 0, nI nr, yr, yrn) := by
        rw [fX6_takeRent_26_e, iz_eqf (by omega) (by omega), ilt_f (by omega) (by omega)]
      have e25 : fX6_takeRent_25 (nI nr) (nI v) (nI w) yr yrn = some (nI 0, nI nr, yr, yrn) := by
        rw [fX6_takeRent_25_e, fX6_takeRent_26_e, iz_eqt rfl]
      rw [e25, e26]
      simp only [ite_self]
      exact ⟨_, rfl⟩
    · rw [ieq_f h5 (by omega) (by omega), a2 t0 0 60 (by omega) (by omega), Option.bind_some]
      simp only []
      have e25 : fX6_takeRent_25 (nI nr) (nI v) (nI w) yr yrn = some (nI 0, nI nr, yr, yrn) := by
        rw [fX6_takeRent_25_e, fX6_takeRent_26_e, iz_eqt rfl]
      by_cases hvn : v ≤ 60
      · rw [decide_eq_true (by omega), fl_t, iz_eqf (by omega) (by omega), ilt_f (by omega) (by omega), pk_mul, nI_add, nI_add, gu (by omega) (by omega), a3 (nI v) 1 99 (by omega) (by omega), Option.bind_some]
        simp only []
        rw [gu (show 15 + 2 * nr < 54 by omega) (by omega), nI_clamp (show 14 + 2 * nr < _ by omega), nI_clamp (show 15 + 2 * nr < _ by omega)]
        by_cases hw1 : w < 1
        · left
          rw [ilt_t hw1 (by omega), e25, decide_eq_false (by omega)]
          exact ⟨⟨_, rfl⟩, ⟨_, rfl⟩⟩
        · right
          rw [ilt_f (by omega) (by omega), ilt_f (by omega) (by omega), fX6_takeRent_26_e, iz_eqf (by omega) (by omega), ilt_t (by omega) (by omega), gu (show nr < 5 by omega) (by omega), gu (show nr < 5 by omega) (by omega), nI_clamp (show nr < _ by omega), nI_add, decide_eq_true (by omega), upd_n (show 13 ≠ 15 + 2 * nr by omega), upd_n (show 13 ≠ 14 + 2 * nr by omega), d3, nI_add]
          have un : ∀ j, j ≠ 13 → j ≠ 14 + 2 * nr → j ≠ 15 + 2 * nr → upd (upd (upd told (14 + 2 * nr) (nI v)) (15 + 2 * nr) (nI w)) 13 (nI (nr + 1)) j = told j := fun j h1 h2 h3 => by rw [upd_n h1, upd_n h3, upd_n h2]
          refine ⟨r, R, C, n, q, d, st, nr + 1, fun j => if j = nr then v else rn j, fun j => if j = nr then w else ra j, nh, hs, true, yk, ycol, bes, damps, upd yrn nr (nI v), upd yr nr (nI w), yh, upd (upd (upd told (14 + 2 * nr) (nI v)) (15 + 2 * nr) (nI w)) 13 (nI (nr + 1)), nI v, nI w, nI w, by omega, hrL, ?_, rfl, rfl⟩
          refine ⟨⟨⟨y1.1, by rw [un 0 (by omega) (by omega) (by omega), y1.2.1], by rw [un 1 (by omega) (by omega) (by omega), y1.2.2]⟩, y2, y3.1, by rw [un 3 (by omega) (by omega) (by omega), y3.2.1], fun j hj => ?_⟩, r1, ⟨by rw [un 2 (by omega) (by omega) (by omega), r2.1], r2.2⟩, ⟨upd_s, by omega, fun j hj => ?_⟩, ⟨by rw [un 24 (by omega) (by omega) (by omega), r4.1], r4.2.1, fun j hj => ?_⟩, fun y hy => by rw [un _ (by omega) (by omega) (by omega), r5 y hy], fun e => by cases e⟩
          · obtain ⟨b1, b2, b3⟩ := y3.2.2 j hj
            have := y3.1
            exact ⟨b1, by rw [un _ (by omega) (by omega) (by omega), b2], b3⟩
          · by_cases e : j = nr
            · subst e
              simp only [if_true]
              exact ⟨upd_s, upd_s, by rw [upd_n (by omega), upd_n (by omega), upd_s], by rw [upd_n (by omega), upd_s], by omega, by omega⟩
            · obtain ⟨b1, b2, b3, b4, b5⟩ := dd j (by omega)
              simp only [if_neg e]
              exact ⟨by rw [upd_n e, b1], by rw [upd_n e, b2], by rw [un _ (by omega) (by omega) (by omega), b3], by rw [un _ (by omega) (by omega) (by omega), b4], b5⟩
          · obtain ⟨b1, b2, b3⟩ := r4.2.2 j hj
            exact ⟨b1, by rw [un _ (by omega) (by omega) (by omega), b2], b3⟩
      · left
        rw [decide_eq_false (by omega), ilt_t (by omega) (by omega), e25]
        exact ⟨⟨_, rfl⟩, ⟨_, rfl⟩⟩
theorem item (hR : rdR R C n q d st nr rn ra nh hs b yk ycol bes damps yrn yr yh told) (h : tR L tx mx) (hi : i < L) (hN : 100 ≤ N) (f s t0 : Int32) :
    (badI (fX2_readItem N (nI i) f s (fl b) (nI C) (nI n) (nI st) (nI q) (nI nr) (nI nh) (nI L) tx yr yrn yk ycol bes damps yh) ∧ badI (fX8_item N (nI L) (nI i) (fl b) t0 mx told)) ∨
    goodI L i (fX2_readItem N (nI i) f s (fl b) (nI C) (nI n) (nI st) (nI q) (nI nr) (nI nh) (nI L) tx yr yrn yk ycol bes damps yh) (fX8_item N (nI L) (nI i) (fl b) t0 mx told) := by
  by_cases c1 : tx i = nI 100
  · exact it_d hR h hi hN c1 f s t0
  by_cases c2 : tx i = nI 104
  · exact it_h hR h hi hN c2 f s t0
  by_cases c3 : tx i = nI 107
  · exact it_k hR h hi hN c3 f s t0
  by_cases c4 : tx i = nI 114
  · exact it_r hR h hi hN c4 f s t0
  by_cases c5 : tx i = nI 115
  · exact it_s hR h hi hN c5 f s t0
  by_cases c6 : tx i = nI 121
  · exact it_y hR h hi hN c6 f s t0
  left
  have hL := h.1
  rw [fX2_readItem_e, cl_at hL (by omega), if_pos hi, Option.bind_some, if_neg c1, if_neg c2, if_neg c3, if_neg c4, if_neg c5, if_neg c6]
  rw [fX8_item_e, gu (show i < 200 by omega) (by omega), nI_clamp (by omega), ← h.2 i hi, if_neg c6, if_neg c1, if_neg c2, if_neg c3, if_neg c4, if_neg c5]
  exact ⟨⟨_, rfl⟩, ⟨_, rfl⟩⟩
end
