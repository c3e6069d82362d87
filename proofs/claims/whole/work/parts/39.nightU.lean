/-! ===== a night, whatever its number ===== -/
/-- the night's steps, both together -/
theorem night_loopU {R C n N D : Nat} {told bes : Nat → Int32} (hY : mYd R C n told) (hB : yBes C n bes) (hN : 100000 ≤ N) (hD : D ≤ 9) : ∀ (k L g : Nat) (K : Nat → Int32) (s : Nat), L < k → L + g ≤ 9 → okSc n K s → (0 < L ∨ g = 0) →
    ∃ (sl : Bool) (K' : Nat → Int32) (s' : Nat) (lb : Bool), okSc n K' s' ∧ ∀ nt, nt < 10000 →
      (∀ (fS fG : Nat → Int32) (fc : Nat), L + 2 ≤ fc → ∃ fS' fG', fX5_goNight_23 N (nI C) (nI n) (nI nt) (nI D) bes fc (nI 0) (nI 1) (nI L) (nI g) (nI s) (-4) fS K fG = some (fl sl, nI s', nI (nt + 1), oI (if lb then some nt else none), fS', K', fG')) ∧
      (∀ (now fr to : Nat → Int32) (v3 : Int32) (fm : Nat), mSc K s nt none now → L + 3 ≤ fm → ∃ now' fr' to', mSc K' s' (nt + 1) (if lb then some nt else none) now' ∧ fX8_goesBy_23 N (nI D) told fm (nI L) v3 (nI 1) (fl (decide (g = 0))) now fr to = some (fl sl, now', fr', to')) := by
  have h25 := hY.1.n25
  have hC : C ≤ n := by
    obtain ⟨⟨_, _, h1, h2, h3⟩, _⟩ := hY
    rw [h3]; exact Nat.le_mul_of_pos_left C (by omega)
  intro k
  induction k with
  | zero => intro L g K s h; omega
  | succ k ih =>
    intro L g K s hk hLg hok hL0
    obtain ⟨now0, hnow0⟩ : ∃ now0 : Nat → Int32, mSc K s 0 none now0 := ⟨fun i => if i = 0 then nI 0 else if i = 1 then nI s else if i = 2 then -1 else K (i - 3), by simp, by simp, by simp [mB], fun y hy => by
      show (if 3 + y = 0 then nI 0 else if 3 + y = 1 then nI s else if 3 + y = 2 then -1 else K (3 + y - 3)) = K y
      rw [if_neg (by omega), if_neg (by omega), if_neg (by omega), show 3 + y - 3 = y by omega]⟩
    obtain ⟨r, hr, hcl, _⟩ := nx_next (N := N) hY hB hnow0.2.2.2 hnow0.2.1 hok.1 hok.2 hN
    have hmo : ∀ (nt : Nat) (now fr to : Nat → Int32), mSc K s nt none now → ∃ fr' to', fX8_next N told fr now to = some (oI r, fr', to') := by
      intro nt now fr to hS
      obtain ⟨r2, _, hcl2, hmo2⟩ := nx_next (N := N) hY hB hS.2.2.2 hS.2.1 hok.1 hok.2 hN
      obtain ⟨a1, b1, e1⟩ := hcl (fun _ => 0) (fun _ => 0)
      obtain ⟨a2, b2, e2⟩ := hcl2 (fun _ => 0) (fun _ => 0)
      rw [e1] at e2
      have he : oI r = oI r2 := congrArg Prod.fst (Option.some.inj e2)
      rw [he]
      exact hmo2 fr to
    by_cases hgo : ∃ y, r = some y ∧ cd (K y) D ≤ L
    · obtain ⟨y, rfl, hc⟩ := hgo
      obtain ⟨hyn, hyw⟩ := hr y rfl
      have hcb := cd_b (D := D) hyw
      have hok' := okSc_eaten (K := K) hyn hyw
      by_cases hgoes : goesOnB n C y K = true ∧ 0 < L - cd (K y) D
      · -- it goes on
        have hb0 : ∀ nt, begun n C y nt = none := fun nt => by
          have := hgoes.1
          simp only [goesOnB, Bool.and_eq_true, Bool.not_eq_true', decide_eq_false_iff_not] at this
          unfold begun
          rw [if_neg this.2]
        obtain ⟨sl, K', s', lb, i1, i2⟩ := ih (L - cd (K y) D) (g + 1) (eaten K y) y (by omega) (by omega) hok' (Or.inl hgoes.2)
        refine ⟨sl, K', s', lb, i1, fun nt hnt => ?_⟩
        obtain ⟨i3, i4⟩ := i2 nt hnt
        refine ⟨fun fS fG fc hfc => ?_, fun now fr to v3 fm hS hfm => ?_⟩
        · obtain ⟨fS1, fG1, e1⟩ := hcl fS fG
          obtain ⟨f, rfl⟩ : ∃ f, fc = f + 1 := ⟨fc - 1, by omega⟩
          rw [cl_move hC (by omega) (by omega) (by omega) (by omega) (by omega) hyn hyw hc e1]
          rw [hgoes.1, hb0 nt]
          have hdec : decide (0 < L - cd (K y) D) = true := by simp [hgoes.2]
          rw [hdec]
          exact i3 fS1 fG1 f (by omega)
        · obtain ⟨fr1, to1, e1⟩ := hmo nt now fr to hS
          obtain ⟨f, rfl⟩ : ∃ f, fm = f + 1 := ⟨fm - 1, by omega⟩
          obtain ⟨now1, hS1, e2⟩ := mo_move (first := decide (g = 0)) (v3 := v3) (fm := f) hY hS (by omega) (by omega) hyn hyw hc e1
          rw [e2, hgoes.1, fl_t]
          rw [hb0 nt] at hS1
          obtain ⟨now', fr', to', hS', e3⟩ := i4 now1 fr1 to1 (nI 0) f hS1 (by omega)
          have hd : decide (g + 1 = 0) = false := by simp
          rw [hd, fl_f] at e3
          exact ⟨now', fr', to', hS', e3⟩
      · -- the night ends there
        refine ⟨false, eaten K y, y, decide (n - C ≤ y), hok', fun nt hnt => ?_⟩
        have hbe : (if decide (n - C ≤ y) = true then some nt else none) = begun n C y nt := by unfold begun; simp
        rw [hbe]
        refine ⟨fun fS fG fc hfc => ?_, fun now fr to v3 fm hS hfm => ?_⟩
        · obtain ⟨fS1, fG1, e1⟩ := hcl fS fG
          obtain ⟨f, rfl⟩ : ∃ f, fc = f + 1 + 1 := ⟨fc - 2, by omega⟩
          rw [cl_move hC (by omega) (by omega) (by omega) (by omega) (by omega) hyn hyw hc e1]
          have hdec : (goesOnB n C y K && decide (0 < L - cd (K y) D)) = false := by
            cases hq : goesOnB n C y K with
            | false => rfl
            | true =>
              have : ¬ 0 < L - cd (K y) D := fun h => hgoes ⟨hq, h⟩
              simp [this]
          rw [hdec, fl_f, show nI 0 = fl false from rfl]
          refine ⟨fS1, fG1, ?_⟩
          have := cl_end (N := N) (C := C) (n := n) (D := D) (nt := nt) (fc := f) (g := g + 1) (bes := bes) (fS := fS1) (K := eaten K y) (fG := fG1) (b := false) (v6 := nI (L - cd (K y) D)) (s := nI y) (bg := oI (begun n C y nt))
          rw [fl_f] at this
          exact this
        · obtain ⟨fr1, to1, e1⟩ := hmo nt now fr to hS
          obtain ⟨f, rfl⟩ : ∃ f, fm = f + 1 := ⟨fm - 1, by omega⟩
          obtain ⟨now1, hS1, e2⟩ := mo_move (first := decide (g = 0)) (v3 := v3) (fm := f) hY hS (by omega) (by omega) hyn hyw hc e1
          rw [e2]
          cases hq : goesOnB n C y K with
          | false =>
            obtain ⟨f', rfl⟩ : ∃ f', f = f' + 1 := ⟨f - 1, by omega⟩
            refine ⟨_, fr1, to1, mSc_night hS1, ?_⟩
            rw [fX8_goesBy_23_s, fl_f]
            simp (disch := omega) only [gu, gu2, ile_t, ile_f, ilt_t, ilt_f, ieq_t, ieq_f, iz_lt, iz_eqt, iz_eqf, iz_le, im_eqf, im_eqt, im_lt, ob, nI_add, pk_mul, nI_clamp, if_true, if_false]
            rw [if_pos (show nI 0 = 0 ∨ nI 0 = 1 from Or.inl rfl)]
          | true =>
            have hz : L - cd (K y) D = 0 := by
              rcases Nat.eq_zero_or_pos (L - cd (K y) D) with h | h
              · exact h
              · exact absurd ⟨hq, h⟩ hgoes
            have hb0 : begun n C y nt = none := by
              simp only [goesOnB, Bool.and_eq_true, Bool.not_eq_true', decide_eq_false_iff_not] at hq
              unfold begun
              rw [if_neg hq.2]
            rw [hb0] at hS1 ⊢
            obtain ⟨r3, hr3, _, hmo3⟩ := nx_next (N := N) hY hB hS1.2.2.2 hS1.2.1 hok'.1 hok'.2 hN
            obtain ⟨fr2, to2, e3⟩ := hmo3 fr1 to1
            refine ⟨_, fr2, to2, mSc_night hS1, ?_⟩
            have h4 := mo_stop (v3 := nI 0) (first := false) (fm := f) (L := L - cd (K y) D) (D := D) hY hS1.2.2.2 (by omega) (by omega) (fun z hz2 => by
              obtain ⟨q1, q2⟩ := hr3 z hz2
              have := cd_b (D := D) q2
              exact ⟨q1, q2, by omega⟩) (by omega) e3
            rw [fl_f] at h4
            rw [fl_t]
            exact h4
    · -- it does not go
      have hstop : ∀ y, r = some y → y < n ∧ wk (K y) < 1000 ∧ L < cd (K y) D := fun y hy => by
        obtain ⟨q1, q2⟩ := hr y hy
        refine ⟨q1, q2, ?_⟩
        rcases Nat.lt_or_ge L (cd (K y) D) with h | h
        · exact h
        · exact absurd ⟨y, hy, h⟩ hgo
      refine ⟨decide (g = 0) && r.isSome, K, s, false, hok, fun nt hnt => ⟨fun fS fG fc hfc => ?_, fun now fr to v3 fm hS hfm => ?_⟩⟩
      · obtain ⟨fS1, fG1, e1⟩ := hcl fS fG
        exact ⟨fS1, fG1, cl_stop (by omega) (by omega) (by omega) (by omega) hstop (by omega) e1⟩
      · obtain ⟨fr1, to1, e1⟩ := hmo nt now fr to hS
        exact ⟨_, fr1, to1, mSc_night hS, mo_stop hY hS.2.2.2 (by omega) (by omega) hstop (by omega) e1⟩
/-- a wet night: where it comes to does not hang on the night's number -/
theorem nightU {R C n N D s : Nat} {told bes K : Nat → Int32} (b : Bool) (hY : mYd R C n told) (hB : yBes C n bes) (hN : 100000 ≤ N) (hD : D ≤ 9) (hok : okSc n K s) :
    ∃ (K' : Nat → Int32) (s' : Nat) (b' : Bool), okSc n K' s' ∧ (b = true → b' = true) ∧ ∀ (nt : Nat) (bg : Option Nat), nt < 10000 → okBg bg → bg.isSome = b → ∃ (sl : Bool) (bg' : Option Nat), okBg bg' ∧ bg'.isSome = b' ∧
      (∀ (fS fG : Nat → Int32), ∃ fS' fG', fX5_goNight N (nI C) (nI n) (nI s) (nI nt) (oI bg) (nI D) fS bes K fG = some (fl sl, nI s', nI (nt + 1), oI bg', fS', K', fG')) ∧
      (∀ (now fr to : Nat → Int32), mSc K s nt bg now → ∃ now' fr' to', mSc K' s' (nt + 1) bg' now' ∧ fX8_goesBy N (nI D) now told fr to = some (fl sl, now', fr', to')) := by
  cases b with
  | true =>
    refine ⟨K, s, true, hok, fun h => h, fun nt bg hnt hbg hb => ?_⟩
    obtain ⟨sl, K1, s1, bg1, a1, a2, a3, a4, a5⟩ := night (N := N) hY hB hN hD hnt hok hbg
    obtain ⟨e1, e2, e3, e4⟩ := a3 hb
    subst e1; subst e2; subst e3
    exact ⟨sl, bg1, a2, hb, a4, a5⟩
  | false =>
    obtain ⟨sl, K', s', lb, i1, i2⟩ := night_loopU (N := N) hY hB hN hD (D + 1) D 0 K s (by omega) (by omega) hok (Or.inr rfl)
    refine ⟨K', s', lb, i1, (fun h => by cases h), fun nt bg hnt hbg hb => ?_⟩
    have hbn : bg = none := by cases bg with
      | none => rfl
      | some x => cases hb
    subst hbn
    obtain ⟨i3, i4⟩ := i2 nt hnt
    refine ⟨sl, if lb = true then some nt else none, ?_, ?_, fun fS fG => ?_, fun now fr to hS => ?_⟩
    · intro x hx
      split at hx
      · cases hx; omega
      · cases hx
    · cases lb <;> rfl
    · rw [fX5_goNight_e, cl_hasBegun (fun b hb => by cases hb)]
      simp only [ob]
      rw [show fl (none : Option Nat).isSome = nI 0 from rfl, iz_eqt rfl, fX5_goNight_15_e]
      exact i3 fS fG N (by omega)
    · rw [fX8_goesBy_e, hS.2.2.1, if_neg (show ¬ 0 ≤ mB none by decide), fX8_goesBy_18_e]
      exact i4 now fr to (nI 0) N hS (by omega)
/-- a dry night changes nothing but its number -/
theorem dry {R C n N s nt : Nat} {told bes K : Nat → Int32} {bg : Option Nat} (hY : mYd R C n told) (hB : yBes C n bes) (hN : 100000 ≤ N) (hok : okSc n K s) (hbg : okBg bg) (hnt : nt < 10000) : ∀ (now fr to : Nat → Int32), mSc K s nt bg now → ∃ sl now' fr' to', mSc K s (nt + 1) bg now' ∧ fX8_goesBy N (nI 0) now told fr to = some (fl sl, now', fr', to') := by
  intro now fr to hS
  cases bg with
  | some b =>
    obtain ⟨sl, K1, s1, bg1, a1, a2, a3, a4, a5⟩ := night (N := N) (D := 0) hY hB hN (by omega) hnt hok hbg
    obtain ⟨e1, e2, e3, e4⟩ := a3 rfl
    subst e1; subst e2; subst e3
    obtain ⟨now', fr', to', q1, q2⟩ := a5 now fr to hS
    exact ⟨sl, now', fr', to', q1, q2⟩
  | none =>
    obtain ⟨r, hr, _, hmo⟩ := nx_next (N := N) hY hB hS.2.2.2 hS.2.1 hok.1 hok.2 hN
    obtain ⟨fr', to', e⟩ := hmo fr to
    refine ⟨true && r.isSome, _, fr', to', mSc_night hS, ?_⟩
    rw [fX8_goesBy_e, hS.2.2.1, if_neg (by decide), fX8_goesBy_18_e]
    have h := mo_stop (v3 := nI 0) (first := true) (fm := N) (L := 0) (D := 0) hY hS.2.2.2 (by omega) (by omega) (fun y hy => by
      obtain ⟨q1, q2⟩ := hr y hy
      have := cd_b (D := 0) q2
      exact ⟨q1, q2, by omega⟩) (by omega) e
    rw [fl_t] at h
    exact h
