/-- what is near is not salt -/
theorem isD_open {n src : Nat} {nb : Nat → Nat → Option Nat} {w : Nat → Nat} {d : Nat → Nat} (hG : rx_G n nb (fun _ y => w y)) (hd : isD n src nb (fun _ y => w y) d) {y : Nat} (hy : y < n) (h : d y < 1000) : y = src ∨ w y < 1000 := by
  by_cases hs : y = src
  · exact Or.inl hs
  · obtain ⟨x, t, _, _, _, e⟩ := rx_tight hG hd.1 hd.2.2.2.1 hy hs h
    right
    omega
/-- the next cell, as both see it -/
theorem nx_next {R C n N s : Nat} {K told now bes : Nat → Int32} (hY : mYd R C n told) (hB : yBes C n bes) (hK : ∀ y, y < 25 → now (3 + y) = K y) (hs : now 1 = nI s) (hsn : s < n) (hso : wk (K s) < 1000) (hN : 100000 ≤ N) :
    ∃ r : Option Nat, (∀ y, r = some y → y < n ∧ wk (K y) < 1000) ∧ (∀ fS fG : Nat → Int32, ∃ fS' fG', fX5_nextCell N (nI C) (nI n) (nI s) fS bes K fG = some (oI r, fS', fG')) ∧ (∀ fr to : Nat → Int32, ∃ fr' to', fX8_next N told fr now to = some (oI r, fr', to')) := by
  have h25 := hY.1.n25
  have hG := okG hY.1 K
  have hC : C ≤ n := by
    obtain ⟨⟨_, _, h1, h2, h3⟩, _⟩ := hY
    rw [h3]; exact Nat.le_mul_of_pos_left C (by omega)
  obtain ⟨m, hm⟩ := isD_ex hG hsn
  have hgo : ∀ g, goalOf n C K m = some g → g < n ∧ m g < 1000 := by
    intro g hg
    unfold goalOf at hg
    split at hg
    · rename_i y hy
      cases hg
      rcases bI_in n 0 none g hy with h | h
      · cases h
      · have := h.1
        simp only [okL, Bool.and_eq_true, decide_eq_true_eq] at this
        omega
    · rcases bI_in n 0 none g hg with h | h
      · cases h
      · have := h.1
        simp only [okE, Bool.and_eq_true, decide_eq_true_eq] at this
        omega
  have hcl : ∀ fS fG : Nat → Int32, ∃ fS', Rp n fS' m ∧ fX5_nextCell N (nI C) (nI n) (nI s) fS bes K fG = fX5_nextCell_32 N (nI n) (nI s) bes K fG fS' (oI (goalOf n C K m)) := by
    intro fS fG
    obtain ⟨p, hR, h1⟩ := cl_spread (N := N) (K := K) (p := fS) hY.1 hB (by omega) hsn hm
    refine ⟨p, hR, ?_⟩
    rw [fX5_nextCell_e, h1]
    simp only [ob]
    have h2 := cl_nl (N := N) (K := K) (by omega) hR hm.2.1 n 0 N none (by omega) (by omega) (fun y hy => by cases hy)
    rw [show oI none = -4 from rfl, show fw m 5 none = 5 from rfl] at h2
    rw [fX5_nearestLettuce_e, h2]
    simp only [ob]
    unfold goalOf
    cases hb : bI m (okL K m) n 0 none with
    | some y =>
      have hyn : y < n := by
        rcases bI_in n 0 none y hb with h | h
        · cases h
        · omega
      rw [show oI (some y) = nI y from rfl]
      simp (disch := omega) only [gu, gu2, ile_t, ile_f, ilt_t, ilt_f, ieq_t, ieq_f, iz_lt, iz_eqt, iz_eqf, iz_le, im_eqf, im_eqt, im_lt, ob, nI_add, pk_mul, nI_clamp, if_true, if_false]
    | none =>
      rw [show oI none = -4 from rfl, if_pos rfl]
      have h3 := cl_ne (N := N) hC (by omega) hR hm.2.1 n 0 N none (by omega) (by omega) (fun y hy => by cases hy)
      rw [show oI none = -4 from rfl, show fw m 1000 none = 1000 from rfl] at h3
      rw [fX5_nearestOfLine_e, h3]
      rfl
  have hmo : ∀ fr to : Nat → Int32, ∃ fr', fX8_next N told fr now to = Option.bind (some (oI (goalOf n C K m), fr')) fun o1 => if o1.1 = (-4 : Int32) then some ((-4 : Int32), o1.2, to) else Option.bind (fX8_goesTo N o1.1 told to now) fun o16 => fX8_next_24 N told now o1 o16 N (-4 : Int32) (nI 0) := by
    intro fr to
    obtain ⟨p, h1⟩ := mo_target (N := N) (fr := fr) hY hK hs hsn hN hm
    exact ⟨p, by rw [fX8_next_e, h1]⟩
  cases hg : goalOf n C K m with
  | none =>
    refine ⟨none, (fun y hy => by cases hy), fun fS fG => ?_, fun fr to => ?_⟩
    · obtain ⟨p, _, h⟩ := hcl fS fG
      refine ⟨p, fG, ?_⟩
      rw [h, hg, fX5_nextCell_32_e, show oI none = -4 from rfl, if_pos rfl]
    · obtain ⟨p, h⟩ := hmo fr to
      refine ⟨p, to, ?_⟩
      rw [h, hg]
      simp only [ob]
      rw [show oI none = -4 from rfl, if_pos rfl]
  | some g =>
    obtain ⟨hgn, hgm⟩ := hgo g hg
    have hgw : wk (K g) < 1000 := by
      rcases isD_open (w := fun y => wk (K y)) hG hm hgn hgm with h | h
      · rw [h]; exact hso
      · exact h
    obtain ⟨d, hd⟩ := isD_ex (src := g) hG hgn
    obtain ⟨t, ht⟩ := isD_ex (src := g) (okG2 hY.1 K) hgn
    have hd75 : ∀ y, y < n → d y < 1000 → d y ≤ 75 := fun y hy h => rx_75 hd.2 (by omega) hy h
    have ht75 : ∀ y, y < n → t y < 1000 → t y ≤ 75 := fun y hy h => rx_75 ht.2 (by omega) hy h
    have hdo : ∀ y, y < n → d y < 1000 → d y ≤ 75 ∧ wk (K y) < 1000 := fun y hy h => ⟨hd75 y hy h, by
      rcases isD_open (w := fun y => wk (K y)) hG hd hy h with q | q
      · rw [q]; exact hgw
      · exact q⟩
    have hrev := rx_rev (w := fun y => wk (K y)) (fun y => ⟨(wk_b (K y)).1, (wk_b (K y)).2.1⟩) hgw hd.1 hd.2.2.2.1 ht.1 ht.2.2.2.1 hd75 ht75 (fun x s y hx hy => (nbr_ok hY.1 hx hy).1) hgn
    refine ⟨sN n C d s 4 0 none, fun y hy => ?_, fun fS fG => ?_, fun fr to => ?_⟩
    · rcases sN_in 4 0 none y hy with h | ⟨h, t', ht'⟩
      · cases h
      · have := nbr_ok hY.1 hsn ht'
        exact ⟨this.1, (hdo y this.1 h).2⟩
    · obtain ⟨p, _, h⟩ := hcl fS fG
      obtain ⟨p2, hR2, h2⟩ := cl_spread (N := N) (K := K) (p := fG) hY.1 hB (by omega) hgn hd
      refine ⟨p, p2, ?_⟩
      rw [h, hg, fX5_nextCell_32_e, show oI (some g) = nI g from rfl]
      simp (disch := omega) only [gu, gu2, ile_t, ile_f, ilt_t, ilt_f, ieq_t, ieq_f, iz_lt, iz_eqt, iz_eqf, iz_le, im_eqf, im_eqt, im_lt, ob, nI_add, pk_mul, nI_clamp, if_true, if_false]
      rw [h2]
      simp only [ob]
      have h3 := cl_nx63 (N := N) (o10 := p) hY.1 hB hsn hR2 hd.2.1 4 N none (by omega) (by omega) (fun y hy => by cases hy)
      exact h3
    · obtain ⟨p, h⟩ := hmo fr to
      obtain ⟨p2, hR2, h2⟩ := mo_goesTo (N := N) (p := to) hY hK hgn hN ht
      refine ⟨p, p2, ?_⟩
      rw [h, hg]
      simp only [ob]
      rw [show oI (some g) = nI g from rfl]
      simp (disch := omega) only [gu, gu2, ile_t, ile_f, ilt_t, ilt_f, ieq_t, ieq_f, iz_lt, iz_eqt, iz_eqf, iz_le, im_eqf, im_eqt, im_lt, ob, nI_add, pk_mul, nI_clamp, if_true, if_false]
      rw [h2]
      simp only [ob]
      have h3 := mo_nx24 (N := N) (o1 := (nI g, p)) hY hK hs hsn hR2 ht75 ht.2.1 hdo hd.2.1 hrev hgw 4 N none (by omega) (by omega) (fun y hy => by cases hy)
      exact h3
