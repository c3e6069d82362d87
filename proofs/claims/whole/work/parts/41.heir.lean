/-! ===== heir, wipe, forget ===== -/
def ap (c h : Nat) : Nat := if c ≤ h then h - c else c - h
theorem ap_le {c h : Nat} (hc : c ≤ 4) (hh : h ≤ 4) : ap c h ≤ 4 := by unfold ap; split <;> omega
theorem ap_cl : ∀ h, h < 5 → ∀ c, c < 5 → (if 0 ≤ (nI h - nI c) then (nI h - nI c) else 0 - (nI h - nI c)) = nI (ap c h) := by decide +kernel
theorem ap_mo (N : Nat) : ∀ h, h < 5 → ∀ c, c < 5 → fX8_apart N (nI h) (nI c) = some (nI (ap c h)) := by
  intro h hh c hc
  rw [fX8_apart_e]
  unfold ap
  by_cases e : c ≤ h
  · rw [ile_t e (by omega), if_pos e, pk_sub e]
  · rw [ile_f (by omega) (by omega), if_neg e, pk_sub (by omega)]
def apd (c : Nat) (hs : Nat → Nat) : Option Nat → Nat
  | none => 1000
  | some y => ap c (hs y)
theorem cl_near {nh c : Nat} {hs : Nat → Nat} {yh : Nat → Int32} (h4 : nh ≤ 4) (hc : c ≤ 4) (hh : ∀ i, i < nh → yh i = nI (hs i) ∧ hs i ≤ 4) : ∀ (j i fuel : Nat) (cur : Option Nat), i + j = nh → j < fuel → (∀ y, cur = some y → y < i) →
    fX6_heirNearest_10 (nI nh) (nI c) yh fuel (oI cur) (nI (apd c hs cur)) (nI i) = some (oI (bI (fun k => ap c (hs k)) (fun _ => true) j i cur)) := by
  intro j
  induction j with
  | zero =>
    intro i fuel cur hi hf hcur
    obtain ⟨f, rfl⟩ : ∃ f, fuel = f + 1 := ⟨fuel - 1, by omega⟩
    rw [fX6_heirNearest_10_s, ile_t (by omega) (by omega)]
    rfl
  | succ j ih =>
    intro i fuel cur hi hf hcur
    obtain ⟨f, rfl⟩ : ∃ f, fuel = f + 1 := ⟨fuel - 1, by omega⟩
    obtain ⟨e1, e2⟩ := hh i (by omega)
    have hle := ap_le hc e2
    rw [fX6_heirNearest_10_s, ile_f (by omega) (by omega), gu (by omega) (by omega), nI_clamp (by omega), e1, ap_cl (hs i) (by omega) c (by omega), nI_add]
    show _ = some (oI (bI (fun k => ap c (hs k)) (fun _ => true) j (i + 1) (bS (fun k => ap c (hs k)) (fun _ => true) i cur)))
    cases cur with
    | none =>
      rw [bS_none rfl, ile_f (show ap c (hs i) < apd c hs none by show _ < 1000; omega) (by show 1000 < _; omega)]
      exact ih (i + 1) f (some i) (by omega) (by omega) (fun y hy => by injection hy; omega)
    | some y =>
      have hy := hcur y rfl
      have hle2 := ap_le hc (hh y (by omega)).2
      by_cases hlt : ap c (hs i) < ap c (hs y)
      · rw [bS_lt (g := fun k => ap c (hs k)) (ok := fun _ => true) (k := i) (y := y) rfl hlt, ile_f (show ap c (hs i) < apd c hs (some y) from hlt) (by show ap c (hs y) < _; omega)]
        exact ih (i + 1) f (some i) (by omega) (by omega) (fun y hy => by injection hy; omega)
      · rw [bS_ge (g := fun k => ap c (hs k)) (ok := fun _ => true) (k := i) (y := y) hlt, ile_t (show apd c hs (some y) ≤ ap c (hs i) by show ap c (hs y) ≤ _; omega) (by omega)]
        exact ih (i + 1) f (some y) (by omega) (by omega) (fun z hz => by injection hz; omega)
theorem mo_near {N C nh s : Nat} {hs : Nat → Nat} {told : Nat → Int32} {o : Int32 × Int32 × Int32 × (Nat → Int32) × (Nat → Int32) × (Nat → Int32) × (Nat → Int32)} (h4 : nh ≤ 4) (h24 : told 24 = nI nh) (hc : s % C ≤ 4) (ho : o.2.2.1 - o.2.2.1 / told 1 * told 1 = nI (s % C)) (hh : ∀ i, i < nh → told (25 + i) = nI (hs i) ∧ hs i ≤ 4) : ∀ (j i fuel : Nat) (cur : Option Nat), i + j = nh → j < fuel → (∀ y, cur = some y → y < i) →
    fX8_heir_29 N told o fuel (oI cur) (nI i) = some (oI (bI (fun k => ap (s % C) (hs k)) (fun _ => true) j i cur), o.2) := by
  intro j
  induction j with
  | zero =>
    intro i fuel cur hi hf hcur
    obtain ⟨f, rfl⟩ : ∃ f, fuel = f + 1 := ⟨fuel - 1, by omega⟩
    rw [fX8_heir_29_s, h24, ile_t (by omega) (by omega)]
    rfl
  | succ j ih =>
    intro i fuel cur hi hf hcur
    obtain ⟨f, rfl⟩ : ∃ f, fuel = f + 1 := ⟨fuel - 1, by omega⟩
    obtain ⟨e1, e2⟩ := hh i (by omega)
    have hle := ap_le hc e2
    rw [fX8_heir_29_s, h24, ile_f (by omega) (by omega)]
    show _ = some (oI (bI (fun k => ap (s % C) (hs k)) (fun _ => true) j (i + 1) (bS (fun k => ap (s % C) (hs k)) (fun _ => true) i cur)), o.2)
    cases cur with
    | none =>
      rw [bS_none rfl, show oI none = -4 from rfl, if_pos rfl, fX8_heir_75_e, fX8_heir_80_e, iz_eqf (by omega) (by omega), nI_add]
      exact ih (i + 1) f (some i) (by omega) (by omega) (fun y hy => by injection hy; omega)
    | some y =>
      have hy := hcur y rfl
      obtain ⟨e3, e4⟩ := hh y (by omega)
      rw [show oI (some y) = nI y from rfl, if_neg (nI_m4 (by omega)), nI_add, nI_add, gu (by omega) (by omega), nI_clamp (by omega), e1, ho, ap_mo N (hs i) (by omega) (s % C) (by omega)]
      simp only [ob]
      rw [gu (by omega) (by omega), nI_clamp (by omega), e3, ap_mo N (hs y) (by omega) (s % C) (by omega)]
      simp only [ob]
      have hle2 := ap_le hc e4
      by_cases hlt : ap (s % C) (hs i) < ap (s % C) (hs y)
      · rw [bS_lt (g := fun k => ap (s % C) (hs k)) (ok := fun _ => true) (k := i) (y := y) rfl hlt, ile_f hlt (by omega), fX8_heir_75_e, fX8_heir_80_e, iz_eqf (by omega) (by omega), nI_add]
        exact ih (i + 1) f (some i) (by omega) (by omega) (fun y hy => by injection hy; omega)
      · rw [bS_ge (g := fun k => ap (s % C) (hs k)) (ok := fun _ => true) (k := i) (y := y) hlt, ile_t (by omega) (by omega), fX8_heir_80_e, iz_eqt rfl, nI_add]
        exact ih (i + 1) f (some y) (by omega) (by omega) (fun z hz => by injection hz; omega)
theorem p_heir {R C n q N s nt st nr nh : Nat} {d rn ra hs : Nat → Nat} {yk ycol bes damps yrn yr yh told nk now tk fS fG fr to aside : Nat → Int32} {bg : Option Nat} (hR : yR R C n q d st nr rn ra nh hs yk ycol bes damps yrn yr yh told) (hS : scR n nk s nt bg now) (hN : 100000 ≤ N) :
    ∃ r ts' tn' tb' tk' fS' fG' bo bi aside' now' fr' to', fX7_heir N (nI s) (nI nt) (oI bg) nk tk (nI C) (nI n) (nI q) (nI nh) damps fS bes fG ycol yh = some (r, ts', tn', tb', tk', fS', fG') ∧ fX8_heir N aside now told fr to = some (r, bo, bi, aside', now', fr', to') ∧ eq28 now' now := by
  obtain ⟨hm, hok, hnt, hbg⟩ := hS
  obtain ⟨hY, hcol, -, -, ⟨h24, h4, hh⟩, -⟩ := hR
  have h25 := hY.1.1.n25
  have hC5 : C ≤ 5 := hY.1.1.2.2.2.1
  have hC0 : 0 < C := by have := hY.1.1.2.2.1; omega
  obtain ⟨r, tk', s', nt', bg', fS', fG', aside', now', fr', to', hr30, hrb, hbg', hs', e1, e2, he⟩ := beg (N := N) (tk := tk) (fS := fS) (fG := fG) (fr := fr) (to := to) (aside := aside) hY hm hok (by omega) hbg hN
  cases r with
  | none =>
    refine ⟨-4, nI s', nI nt', oI bg', tk', fS', fG', mB bg', nI s', aside', now', fr', to', ?_, ?_, he⟩
    · rw [fX7_heir_e, fX3_become_e]
      simp only [ob]
      rw [e1]
      rfl
    · rw [fX8_heir_e, e2]
      rfl
  | some k =>
    have hk := hr30 k rfl
    have hmod : s' % C < C := Nat.mod_lt _ hC0
    refine ⟨oI (bI (fun k => ap (s' % C) (hs k)) (fun _ => true) nh 0 none), nI s', nI nt', oI bg', tk', fS', fG', mB bg', nI s', aside', now', fr', to', ?_, ?_, he⟩
    · rw [fX7_heir_e, fX3_become_e]
      simp only [ob]
      rw [e1]
      simp only [ob]
      rw [show oI (some k) = nI k from rfl, if_neg (nI_m4 (by omega)), fX6_columnOf_e, fX6_has_e, iz_lt (by omega), ile_f (by omega) (by omega), ile_f (by omega) (by omega)]
      simp only [ob]
      rw [iz_eqf (by omega) (by omega), gu (by omega) (by omega), nI_clamp (by omega), hcol s' hs']
      simp only [ob]
      rw [fX6_heirNearest_e]
      have := cl_near (nh := nh) (c := s' % C) (hs := hs) (yh := yh) h4 (by omega) (fun i hi => ⟨(hh i hi).1, (hh i hi).2.2⟩) nh 0 N none (by omega) (by omega) (fun y hy => by cases hy)
      rw [show (-4 : Int32) = oI none from rfl, show nI 1000 = nI (apd (s' % C) hs none) from rfl, this]
      rfl
    · rw [fX8_heir_e, e2]
      simp only [ob]
      rw [show oI (some k) = nI k from rfl, if_neg (nI_m4 (by omega)), hY.1.2.2, if_pos (nI_ne0 hC0 (by omega))]
      have := mo_near (N := N) (C := C) (nh := nh) (s := s') (hs := hs) (told := told) (o := (nI k, mB bg', nI s', aside', now', fr', to')) h4 h24 (by omega) (by rw [hY.1.2.2]; exact pk_rem (by omega) (by omega) (by omega)) (fun i hi => (hh i hi).2) nh 0 N none (by omega) (by omega) (fun y hy => by cases hy)
      exact this
theorem p_wipe {N : Nat} (a : Int32) : fX7_wipe N a = some (a, nI 0) ∧ fX8_wipe N a = some (a, nI 0) := ⟨rfl, rfl⟩
theorem p_forget {N : Nat} (a : Int32) : fX7_forget N a = some (a, nI 0) ∧ fX8_forget N a = some (a, nI 0) := ⟨rfl, rfl⟩
