/-! ===== the whole text ===== -/
/-- both read on to the end, or stop at the same place -/
theorem reads {N L : Nat} {tx mx : Nat → Int32} (h : tR L tx mx) (hN : 100 ≤ N) : ∀ (j i v fc fm : Nat) (R C n q : Nat) (d : Nat → Nat) (st nr : Nat) (rn ra : Nat → Nat) (nh : Nat) (hs : Nat → Nat) (b : Bool) (yk ycol bes damps yrn yr yh told : Nat → Int32) (f s t0 : Int32), L - i ≤ j → i ≤ L → v ≤ i → j < fc → j < fm → rdR R C n q d st nr rn ra nh hs b yk ycol bes damps yrn yr yh told →
    (∃ pl z z', pl < L ∧ fX2_readInto_16 N (nI L) tx fc (nI v) (nI i) f s (fl b) (nI C) (nI n) (nI st) (nI q) (nI nr) (nI nh) yk ycol bes yr yrn damps yh = some (nI pl, z) ∧ fX8_fault_45 N (nI L) mx fm (nI i) (fl b) t0 told = some (nI pl, z')) ∨
    ∃ R' C' n' q' d' st' nr' rn' ra' nh' hs' b' yk' ycol' bes' damps' yrn' yr' yh' told' f' s' t' i', rdR R' C' n' q' d' st' nr' rn' ra' nh' hs' b' yk' ycol' bes' damps' yrn' yr' yh' told' ∧
      fX2_readInto_16 N (nI L) tx fc (nI v) (nI i) f s (fl b) (nI C) (nI n) (nI st) (nI q) (nI nr) (nI nh) yk ycol bes yr yrn damps yh = fX2_readInto_58 N i' f' s' (fl b') (nI C') (nI n') (nI st') (nI q') (nI nr') (nI nh') yk' ycol' bes' yr' yrn' damps' yh' ∧
      fX8_fault_45 N (nI L) mx fm (nI i) (fl b) t0 told = some (-4, i', fl b', t', told') := by
  have hL := h.1
  intro j
  induction j with
  | zero =>
    intro i v fc fm R C n q d st nr rn ra nh hs b yk ycol bes damps yrn yr yh told f s t0 hj hi hv hfc hfm hR
    obtain ⟨gc, rfl⟩ : ∃ g, fc = g + 1 := ⟨fc - 1, by omega⟩
    obtain ⟨gm, rfl⟩ : ∃ g, fm = g + 1 := ⟨fm - 1, by omega⟩
    right
    refine ⟨R, C, n, q, d, st, nr, rn, ra, nh, hs, b, yk, ycol, bes, damps, yrn, yr, yh, told, f, s, t0, nI i, hR, ?_, ?_⟩
    · rw [fX2_readInto_16_s, ile_t (show L ≤ i by omega) (by omega), ite_self]
    · rw [fX8_fault_45_s, ile_t (by omega) (by omega)]
  | succ j ih =>
    intro i v fc fm R C n q d st nr rn ra nh hs b yk ycol bes damps yrn yr yh told f s t0 hj hi hv hfc hfm hR
    obtain ⟨gc, rfl⟩ : ∃ g, fc = g + 1 := ⟨fc - 1, by omega⟩
    obtain ⟨gm, rfl⟩ : ∃ g, fm = g + 1 := ⟨fm - 1, by omega⟩
    by_cases hl : i < L
    · rw [fX2_readInto_16_s, ile_f (show v < 200 by omega) (by omega), ile_f hl (by omega), fX8_fault_45_s, ile_f hl (by omega)]
      rcases item hR h hl hN f s t0 with ⟨⟨z, e1⟩, ⟨z', e2⟩⟩ | ⟨p, R', C', n', q', d', st', nr', rn', ra', nh', hs', b', yk', ycol', bes', damps', yrn', yr', yh', told', f', s', t', hp, hpL, hR', e1, e2⟩
      · left
        rw [e1, e2]
        exact ⟨i, _, _, hl, rfl, rfl⟩
      · rw [e1, e2, Option.bind_some, Option.bind_some, iz_eqf (by omega) (by omega), iz_eqf (by omega) (by omega), nI_add]
        exact ih p (v + 1) gc gm R' C' n' q' d' st' nr' rn' ra' nh' hs' b' yk' ycol' bes' damps' yrn' yr' yh' told' f' s' t' (by omega) hpL (by omega) (by omega) (by omega) hR'
    · right
      refine ⟨R, C, n, q, d, st, nr, rn, ra, nh, hs, b, yk, ycol, bes, damps, yrn, yr, yh, told, f, s, t0, nI i, hR, ?_, ?_⟩
      · rw [fX2_readInto_16_s, ile_t (show L ≤ i by omega) (by omega), ite_self]
      · rw [fX8_fault_45_s, ile_t (by omega) (by omega)]
theorem mo_f2 {N L : Nat} {t0 : Int32} {mx : Nat → Int32} : ∀ (j i fuel : Nat) (read : Nat → Int32), i + j = 54 → j < fuel → (∀ y, y < i → read y = nI 0) → ∃ read', (∀ y, y < 54 → read' y = nI 0) ∧ fX8_fault_2 N (nI L) t0 mx fuel (nI i) read = fX8_fault_45 N (nI L) mx N (nI 0) (nI 0) t0 (upd (upd read' 0 (nI 5)) 1 (nI 4)) := by
  intro j
  induction j with
  | zero =>
    intro i fuel read hi hf hr
    obtain ⟨g, rfl⟩ : ∃ g, fuel = g + 1 := ⟨fuel - 1, by omega⟩
    refine ⟨read, fun y hy => hr y (by omega), ?_⟩
    rw [fX8_fault_2_s, ile_t (by omega) (by omega)]
  | succ j ih =>
    intro i fuel read hi hf hr
    obtain ⟨g, rfl⟩ : ∃ g, fuel = g + 1 := ⟨fuel - 1, by omega⟩
    obtain ⟨r', a1, a2⟩ := ih (i + 1) g (upd read i (nI 0)) (by omega) (by omega) (fun y hy => by
      by_cases e : y = i
      · rw [e, upd_s]
      · rw [upd_n e, hr y (by omega)])
    refine ⟨r', a1, ?_⟩
    rw [fX8_fault_2_s, ile_f (by omega) (by omega), gu (by omega) (by omega), nI_clamp (by omega), nI_add, a2]
/-- the reader and the reference -/
theorem whole_read {N L : Nat} {tx mx yk ycol bes damps yrn yr yh read : Nat → Int32} (h : tR L tx mx) (hN : 100000 ≤ N) (f s t0 cols cells : Int32) :
    (∃ pl z z', pl < L ∧ fX2_readInto N f s cols cells yk ycol bes (nI L) tx yr yrn damps yh = some (nI pl, z) ∧ fX8_fault N (nI L) t0 read mx = some (nI pl, z')) ∨
    ∃ R' C' n' q' d' st' nr' rn' ra' nh' hs' b' yk' ycol' bes' damps' yrn' yr' yh' told' f' s' t' i', rdR R' C' n' q' d' st' nr' rn' ra' nh' hs' b' yk' ycol' bes' damps' yrn' yr' yh' told' ∧
      fX2_readInto N f s cols cells yk ycol bes (nI L) tx yr yrn damps yh = some (-4, i', f', s', fl b', nI C', nI n', nI st', nI q', nI nr', nI nh', upd yk' st' (nI 0), ycol', bes', yr', yrn', damps', yh') ∧
      fX8_fault N (nI L) t0 read mx = some (-4, i', fl b', t', told') := by
  have hL := h.1
  obtain ⟨k1, g1, g2⟩ := cl_fill (N := N) (n := 25) (v := nI 0) (p := yk) (by omega) (by omega)
  obtain ⟨col1, bes1, c1, c2, c3⟩ := shape (R := 5) (C := 4) (n := 20) (N := N) (cols := cols) (cells := cells) (col := ycol) (bes := bes) ⟨by omega, by omega, by omega, by omega, rfl⟩ (by omega)
  obtain ⟨rd, d1, d2⟩ := mo_f2 (N := N) (L := L) (t0 := t0) (mx := mx) 54 0 N read (by omega) (by omega) (fun y hy => by omega)
  have un : ∀ j, j ≠ 0 → j ≠ 1 → j < 54 → upd (upd rd 0 (nI 5)) 1 (nI 4) j = nI 0 := fun j h1 h2 h3 => by rw [upd_n h2, upd_n h1, d1 j h3]
  have hR : rdR 5 4 20 0 (fun _ => 0) 0 0 (fun _ => 0) (fun _ => 0) 0 (fun _ => 0) false k1 col1 bes1 damps yrn yr yh (upd (upd rd 0 (nI 5)) 1 (nI 4)) := by
    refine ⟨⟨⟨⟨by omega, by omega, by omega, by omega, rfl⟩, by rw [upd_n (by omega), upd_s], upd_s⟩, c2, by omega, un 3 (by omega) (by omega) (by omega), fun j hj => by omega⟩, c1, ⟨un 2 (by omega) (by omega) (by omega), by omega⟩, ⟨un 13 (by omega) (by omega) (by omega), by omega, fun j hj => by omega⟩, ⟨un 24 (by omega) (by omega) (by omega), by omega, fun j hj => by omega⟩, fun y hy => by rw [un _ (by omega) (by omega) (by omega), g1 y hy], fun _ => rfl⟩
  rw [fX2_readInto_e, fX6_clear_e, g2, Option.bind_some, c3, Option.bind_some, Option.bind_some, fX8_fault_e, d2]
  rcases reads (N := N) h (by omega) L 0 0 N N _ _ _ _ _ _ _ _ _ _ _ _ _ _ _ _ _ _ _ _ f s t0 (by omega) (by omega) (by omega) (by omega) (by omega) hR with ⟨pl, z, z', h1, h2, h3⟩ | ⟨R', C', n', q', d', st', nr', rn', ra', nh', hs', b', yk', ycol', bes', damps', yrn', yr', yh', told', f', s', t', i', hR', e1, e2⟩
  · exact Or.inl ⟨pl, z, z', h1, h2, h3⟩
  · right
    refine ⟨R', C', n', q', d', st', nr', rn', ra', nh', hs', b', yk', ycol', bes', damps', yrn', yr', yh', told', f', s', t', i', hR', ?_, e2⟩
    have hn := hR'.1.1.1.n25
    have hst := hR'.2.2.1.2
    have hC := hR'.1.1.1.2.2.2.1
    refine e1.trans ?_
    rw [fX2_readInto_58_e, fX6_letOff_e, fX6_has_e, iz_lt (by omega), ile_f (by omega) (by omega), ile_f (by omega) (by omega), Option.bind_some, iz_eqf (by omega) (by omega), gu (by omega) (by omega), nI_clamp (by omega), Option.bind_some]
theorem p_fault {N L : Nat} {tx mx yk ycol bes damps yrn yr yh read : Nat → Int32} (h : tR L tx mx) (hN : 100000 ≤ N) (f s t0 cols cells : Int32) :
    ∃ r z z', fX7_fault N f s cols cells yk ycol bes (nI L) tx yr yrn damps yh = some (r, z) ∧ fX8_fault N (nI L) t0 read mx = some (r, z') := by
  rw [fX7_fault_e]
  rcases whole_read (N := N) (yk := yk) (ycol := ycol) (bes := bes) (damps := damps) (yrn := yrn) (yr := yr) (yh := yh) (read := read) h hN f s t0 cols cells with ⟨pl, z, z', h1, h2, h3⟩ | ⟨R', C', n', q', d', st', nr', rn', ra', nh', hs', b', yk', ycol', bes', damps', yrn', yr', yh', told', f', s', t', i', hR', e1, e2⟩
  · rw [h2, h3]
    exact ⟨nI pl, _, _, rfl, rfl⟩
  · rw [e1, e2]
    exact ⟨-4, _, _, rfl, rfl⟩
