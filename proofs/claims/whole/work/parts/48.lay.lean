/-! ===== lay ===== -/
theorem mo_l21 {N : Nat} {now : Nat → Int32} {o : Int32 × Int32 × Int32 × Int32 × (Nat → Int32)} : ∀ (j i fuel : Nat) (told : Nat → Int32), i + j = 54 → j < fuel → (∀ y, y < i → told y = o.2.2.2.2 y) → ∃ told', (∀ y, y < 54 → told' y = o.2.2.2.2 y) ∧ fX8_lay_21 N now o fuel (nI i) told = fX8_lay_21 N now o 1 (nI 54) told' := by
  intro j
  induction j with
  | zero =>
    intro i fuel told hi hf hr
    obtain ⟨g, rfl⟩ : ∃ g, fuel = g + 1 := ⟨fuel - 1, by omega⟩
    refine ⟨told, fun y hy => hr y (by omega), ?_⟩
    rw [fX8_lay_21_s, ile_t (by omega) (by omega), fX8_lay_21_s, ile_t (by omega) (by omega)]
  | succ j ih =>
    intro i fuel told hi hf hr
    obtain ⟨g, rfl⟩ : ∃ g, fuel = g + 1 := ⟨fuel - 1, by omega⟩
    obtain ⟨r', a1, a2⟩ := ih (i + 1) g (upd told i (o.2.2.2.2 i)) (by omega) (by omega) (fun y hy => by
      by_cases e : y = i
      · rw [e, upd_s]
      · rw [upd_n e, hr y (by omega)])
    refine ⟨r', a1, ?_⟩
    rw [fX8_lay_21_s, ile_f (by omega) (by omega), gu (by omega) (by omega), gu (by omega) (by omega), nI_clamp (by omega), nI_add, a2]
theorem rdR_yR {R C n q st nr nh : Nat} {d rn ra hs : Nat → Nat} {b : Bool} {yk ycol bes damps yrn yr yh rd told : Nat → Int32} (h : rdR R C n q d st nr rn ra nh hs b yk ycol bes damps yrn yr yh rd) (ht : ∀ y, y < 54 → told y = rd y) : yR R C n q d st nr rn ra nh hs (upd yk st (nI 0)) ycol bes damps yrn yr yh (upd told (29 + st) (nI 0)) := by
  obtain ⟨⟨y1, y2, y3⟩, r1, r2, r3, r4, r5, r6⟩ := h
  have h25 := y1.1.n25
  have hC := y1.1.2.2.2.1
  have hst := r2.2
  have un : ∀ j, j < 54 → j ≠ 29 + st → upd told (29 + st) (nI 0) j = rd j := fun j h1 h2 => by rw [upd_n h2, ht j h1]
  refine ⟨⟨⟨y1.1, by rw [un 0 (by omega) (by omega), y1.2.1], by rw [un 1 (by omega) (by omega), y1.2.2]⟩, y2, y3.1, by rw [un 3 (by omega) (by omega), y3.2.1], fun j hj => ?_⟩, r1, ⟨by rw [un 2 (by omega) (by omega), r2.1], r2.2⟩, ⟨by rw [un 13 (by omega) (by omega), r3.1], r3.2.1, fun j hj => ?_⟩, ⟨by rw [un 24 (by omega) (by omega), r4.1], r4.2.1, fun j hj => ?_⟩, fun y hy => ?_, by omega, ?_⟩
  · obtain ⟨b1, b2, b3⟩ := y3.2.2 j hj
    have := y3.1
    exact ⟨b1, by rw [un _ (by omega) (by omega), b2], b3⟩
  · obtain ⟨b1, b2, b3, b4, b5⟩ := r3.2.2 j hj
    have := r3.2.1
    exact ⟨b1, b2, by rw [un _ (by omega) (by omega), b3], by rw [un _ (by omega) (by omega), b4], b5⟩
  · obtain ⟨b1, b2, b3⟩ := r4.2.2 j hj
    have := r4.2.1
    exact ⟨b1, by rw [un _ (by omega) (by omega), b2], b3⟩
  · by_cases e : y = st
    · rw [e, upd_s, upd_s]
    · rw [un _ (by omega) (by omega), upd_n e, r5 y hy]
  · rw [upd_s]
    decide
theorem p_lay {N L qs ql : Nat} {tx mx yk ycol bes damps yrn yr yh nk read told now : Nat → Int32} {pl f s yf cols cells sst sq snr snh ns nn nb ss ds ks a m t0 u e k : Int32} (h : tR L tx mx) (hN : 100000 ≤ N) :
    (∃ p' f' s' b' c' n' st' q' nr' nh' yk' ycol' bes' yr' yrn' dm' yh' a' m' t' rd',
      fX7_lay N (nI L) pl f s yf qs cols cells sst sq snr snh yk ycol bes tx yr yrn damps yh ql ns nn nb nk ss ds ks = some (-2, Value.ref ql, Value.ref qs, p', f', s', b', c', n', st', q', nr', nh', yk', ycol', bes', yr', yrn', dm', yh', ns, nn, nb, nk, ss, ds, ks) ∧
      fX8_lay N (nI L) a m t0 u e k read mx told now = some (-2, a', m', t', u, e, k, rd', told, now)) ∨
    ∃ R' C' n' q' d' st' nr' rn' ra' nh' hs' yk' ycol' bes' damps' yrn' yr' yh' nk' told' now' p' f' s' b' a' m' t' rd', yR R' C' n' q' d' st' nr' rn' ra' nh' hs' yk' ycol' bes' damps' yrn' yr' yh' told' ∧ scR n' nk' st' 0 none now' ∧
      fX7_lay N (nI L) pl f s yf qs cols cells sst sq snr snh yk ycol bes tx yr yrn damps yh ql ns nn nb nk ss ds ks = some (nI n', Value.ref qs, Value.ref ql, p', f', s', b', nI C', nI n', nI st', nI q', nI nr', nI nh', yk', ycol', bes', yr', yrn', damps', yh', nI st', nI 0, oI none, nk', nI 0, nI 0, nI 0) ∧
      fX8_lay N (nI L) a m t0 u e k read mx told now = some (nI n', a', m', t', nI 0, nI 0, nI 0, rd', told', now') := by
  have hL := h.1
  rw [fX7_lay_e, fX8_lay_e]
  by_cases hl : L = 0
  · left
    rw [iz_eqt hl, iz_eqt hl]
    exact ⟨_, _, _, _, _, _, _, _, _, _, _, _, _, _, _, _, _, _, _, _, _, rfl, rfl⟩
  · rw [iz_eqf (by omega) (by omega), iz_eqf (by omega) (by omega)]
    rcases whole_read (N := N) (yk := yk) (ycol := ycol) (bes := bes) (damps := damps) (yrn := yrn) (yr := yr) (yh := yh) (read := read) h hN f s t0 cols cells with ⟨pz, z, z', h1, h2, h3⟩ | ⟨R', C', n', q', d', st', nr', rn', ra', nh', hs', b', yk', ycol', bes', damps', yrn', yr', yh', told', f', s', t', i', hR', e1, e2⟩
    · left
      rw [h2, h3, Option.bind_some, Option.bind_some, if_neg (nI_m4 (show pz < _ by omega)), if_neg (nI_m4 (show pz < _ by omega))]
      exact ⟨_, _, _, _, _, _, _, _, _, _, _, _, _, _, _, _, _, _, _, _, _, rfl, rfl⟩
    · right
      rw [e1, e2, Option.bind_some, Option.bind_some, if_pos rfl, if_pos rfl]
      obtain ⟨T, g1, g2⟩ := mo_l21 (N := N) (now := now) (o := (-4, i', fl b', t', told')) 54 0 N told (by omega) (by omega) (fun y hy => by omega)
      have hst := hR'.2.2.1.2
      have hC := hR'.1.1.1.2.2.2.1
      have hY := rdR_yR hR' g1
      have h2 : T 2 = nI st' := (g1 2 (by omega)).trans hR'.2.2.1.1
      obtain ⟨nw, hS, e5⟩ := mo_begins0 (N := N) (now := now) (by omega) hY.2.2.1.1 hY.2.2.2.2.2.1
      have hcl : fX8_cells N (upd T (29 + st') (nI 0)) = some (nI n') := by
        rw [fX8_cells_e, hY.1.1.2.1, hY.1.1.2.2, pk_mul, ← hY.1.1.1.2.2.2.2]
      have hc : ∀ y, y < 25 → va_cpy (upd yk' st' (nI 0)) nk 0 0 25 y = upd yk' st' (nI 0) y := fun y hy => cpy25 hy
      have h25 := hY.1.1.1.n25
      refine ⟨R', C', n', q', d', st', nr', rn', ra', nh', hs', upd yk' st' (nI 0), ycol', bes', damps', yrn', yr', yh', va_cpy (upd yk' st' (nI 0)) nk 0 0 25, upd T (29 + st') (nI 0), nw, i', f', s', fl b', i', fl b', t', told', hY, ⟨mSc_K hS hc, okSc_K hY.2.2.2.2.2.2 (by omega) hc, by omega, fun b hb => by cases hb⟩, ?_, ?_⟩
      · rw [fX3_setOut_e]
        rfl
      · rw [g2, fX8_lay_21_s, ile_t (by omega) (by omega), h2, nI_add, gu (by omega) (by omega), nI_clamp (by omega), e5, Option.bind_some, hcl]
        rfl
