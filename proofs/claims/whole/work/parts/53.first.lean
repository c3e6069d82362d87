/-! ===== the first state, purely ===== -/
def m0a : Nat → Int32 := (upd (upd (upd (upd (upd (upd (upd (upd (upd (upd (upd (upd (fun _ => 0) 0 (nI 5)) 1 (nI 4)) 2 (nI 1)) 34 (nI 1)) 35 (nI 2)) 38 (nI 4)) 40 (nI 3)) 41 (nI 1)) 43 (nI 1)) 3 (nI 3)) 4 (nI 4)) 6 (nI 2))
def m0b : Nat → Int32 := upd (upd m0a 14 (nI 3)) 15 (nI 10)
def m0c : Nat → Int32 := upd (upd m0b 16 (nI 5)) 17 (nI 4)
def m0d : Nat → Int32 := upd (upd m0c 18 (nI 9)) 19 (nI 7)
def m0 : Nat → Int32 := upd (upd (upd m0d 13 (nI 3)) 24 (nI 2)) 26 (nI 3)
theorem m0_b (N : Nat) : fX8_rents N (nI 0) (nI 3) (nI 10) m0a = some m0b := by rw [fX8_rents_e, if_pos (by decide), if_pos (by decide)]; rfl
theorem m0_c (N : Nat) : fX8_rents N (nI 1) (nI 5) (nI 4) m0b = some m0c := by rw [fX8_rents_e, if_pos (by decide), if_pos (by decide)]; rfl
theorem m0_d (N : Nat) : fX8_rents N (nI 2) (nI 9) (nI 7) m0c = some m0d := by rw [fX8_rents_e, if_pos (by decide), if_pos (by decide)]; rfl
def st_w : Nat → Nat → Int32
  | 0 => fun _ => 0
  | i + 1 => upd (st_w i) i (st_b i)
theorem st_wb : ∀ (n i : Nat), i < n → st_w n i = st_b i := by
  intro n
  induction n with
  | zero => intro i hi; omega
  | succ n ih =>
    intro i hi
    show upd (st_w n) n (st_b n) i = st_b i
    by_cases h : i = n
    · rw [h, upd_s]
    · rw [upd_n h, ih i (by omega)]
theorem st_add {N i : Nat} (hi : i < 72) : fX0_add N (nI i) (st_b i) (st_w i) = some (nI 1, nI (i + 1), st_w (i + 1)) := by
  rw [fX0_add_e]
  simp (disch := omega) only [gu, gu2, ile_t, ile_f, ilt_t, ilt_f, ieq_t, ieq_f, iz_lt, iz_eqt, iz_eqf, iz_le, im_eqf, im_eqt, im_lt, ob, nI_add, pk_mul, nI_clamp, if_true, if_false]
  rfl
def st_chk (N : Nat) : Bool := match fX8_fault N (nI 72) (nI 0) (fun _ => 0) st_b with
  | none => false
  | some o => decide (o.1 = -4) && (List.range 54).all (fun y => decide (o.2.2.2.2 y = m0 y))
theorem st_chk_ok : st_chk 100000 = true := by decide +kernel
theorem fs_read {N : Nat} {yk ycol bes damps yrn yr yh : Nat → Int32} (hN : 100000 ≤ N) (hc : st_chk N = true) (f s cols cells : Int32) : ∃ R C n q d st nr rn ra nh hs yk' ycol' bes' damps' yrn' yr' yh' i' f' s' b', yR R C n q d st nr rn ra nh hs yk' ycol' bes' damps' yrn' yr' yh' m0 ∧ fX2_readInto N f s cols cells yk ycol bes (nI 72) (st_w 72) yr yrn damps yh = some (-4, i', f', s', b', nI C, nI n, nI st, nI q, nI nr, nI nh, yk', ycol', bes', yr', yrn', damps', yh') := by
  have hT : tR 72 (st_w 72) st_b := ⟨by omega, st_wb 72⟩
  unfold st_chk at hc
  rcases whole_read (N := N) (yk := yk) (ycol := ycol) (bes := bes) (damps := damps) (yrn := yrn) (yr := yr) (yh := yh) (read := fun _ => 0) hT hN f s (nI 0) cols cells with ⟨pz, z, z', h1, h2, h3⟩ | ⟨R', C', n', q', d', st', nr', rn', ra', nh', hs', b', yk', ycol', bes', damps', yrn', yr', yh', told', f', s', t', i', hR', e1, e2⟩
  · rw [h3] at hc
    have h4 : ¬ nI pz = (-4 : Int32) := nI_m4 (show pz < _ by omega)
    simp [h4] at hc
  · rw [e2] at hc
    have hc2 := (Bool.and_eq_true _ _ ▸ hc).2
    have h54 : ∀ y, y < 54 → m0 y = told' y := fun y hy => (of_decide_eq_true (List.all_eq_true.mp hc2 y (List.mem_range.mpr hy))).symm
    have hY := rdR_yR hR' h54
    have hst : st' = 1 := by
      have h2 : told' 2 = nI st' := hR'.2.2.1.1
      have h3 : m0 2 = nI 1 := by decide +kernel
      have hlt := hR'.2.2.1.2
      have hC := hR'.1.1.1.2.2.2.1
      rw [← h54 2 (by omega), h3] at h2
      exact ((nI_eq (show 1 < _ by omega) (show st' < _ by omega)).mp h2).symm
    have e0 : upd m0 (29 + st') (nI 0) = m0 := by
      subst hst
      funext j
      by_cases hj : j = 29 + 1
      · rw [hj, upd_s]
        decide +kernel
      · rw [upd_n hj]
    rw [e0] at hY
    exact ⟨R', C', n', q', d', st', nr', rn', ra', nh', hs', upd yk' st' (nI 0), ycol', bes', damps', yrn', yr', yh', i', f', s', fl b', hY, e1⟩
