/-! ===== likely, bet ===== -/
/-- states in a row -/
theorem seq_ex {α : Type} (P : α → α → Prop) (h : ∀ a, ∃ b, P a b) (a0 : α) : ∃ f : Nat → α, f 0 = a0 ∧ ∀ k, P (f k) (f (k + 1)) :=
  ⟨fun k => Nat.rec a0 (fun _ a => Classical.choose (h a)) k, rfl, fun k => Classical.choose_spec (h _)⟩
abbrev wX (n : Nat) : Type := { p : (Nat → Int32) × Nat × Bool // okSc n p.1 p.2.1 }
/-- behind k wet nights -/
theorem wet {R C n q N s : Nat} {d : Nat → Nat} {bes damps told K : Nat → Int32} (b : Bool) (hY : yAll R C n q d bes damps told) (hN : 100000 ≤ N) (hok : okSc n K s) : ∃ f : Nat → wX n, f 0 = ⟨(K, s, b), hok⟩ ∧ ∀ k, ((f k).1.2.2 = true → (f (k + 1)).1.2.2 = true) ∧ ∀ (nt : Nat) (bg : Option Nat), nt < 10000 → okBg bg → bg.isSome = (f k).1.2.2 → ∃ (sl : Bool) (bg' : Option Nat), okBg bg' ∧ bg'.isSome = (f (k + 1)).1.2.2 ∧
      (∀ (fS fG : Nat → Int32), ∃ fS' fG', fX5_goNight N (nI C) (nI n) (nI (f k).1.2.1) (nI nt) (oI bg) (nI 6) fS bes (f k).1.1 fG = some (fl sl, nI (f (k + 1)).1.2.1, nI (nt + 1), oI bg', fS', (f (k + 1)).1.1, fG')) ∧
      (∀ (now fr to : Nat → Int32), mSc (f k).1.1 (f k).1.2.1 nt bg now → ∃ now' fr' to', mSc (f (k + 1)).1.1 (f (k + 1)).1.2.1 (nt + 1) bg' now' ∧ fX8_goesBy N (nI 6) now told fr to = some (fl sl, now', fr', to')) := by
  refine seq_ex (fun x y : wX n => (x.1.2.2 = true → y.1.2.2 = true) ∧ ∀ (nt : Nat) (bg : Option Nat), nt < 10000 → okBg bg → bg.isSome = x.1.2.2 → ∃ (sl : Bool) (bg' : Option Nat), okBg bg' ∧ bg'.isSome = y.1.2.2 ∧
      (∀ (fS fG : Nat → Int32), ∃ fS' fG', fX5_goNight N (nI C) (nI n) (nI x.1.2.1) (nI nt) (oI bg) (nI 6) fS bes x.1.1 fG = some (fl sl, nI y.1.2.1, nI (nt + 1), oI bg', fS', y.1.1, fG')) ∧
      (∀ (now fr to : Nat → Int32), mSc x.1.1 x.1.2.1 nt bg now → ∃ now' fr' to', mSc y.1.1 y.1.2.1 (nt + 1) bg' now' ∧ fX8_goesBy N (nI 6) now told fr to = some (fl sl, now', fr', to'))) ?_ _
  intro x
  obtain ⟨K', s', b', h1, h2, h3⟩ := nightU (N := N) (D := 6) x.1.2.2 hY.1 hY.2.1 hN (by omega) x.2
  exact ⟨⟨(K', s', b'), h1⟩, h2, h3⟩
/-! numbers -/
def pw (x : Nat) : Nat → Nat
  | 0 => 1
  | k + 1 => pw x k * x
def ch6 (n k : Nat) : Nat := ([[1], [1, 1], [1, 2, 1], [1, 3, 3, 1], [1, 4, 6, 4, 1], [1, 5, 10, 10, 5, 1], [1, 6, 15, 20, 15, 6, 1]].getD n []).getD k 0
/-- what the class adds up: k from i on, j of them -/
def cA (n x t : Nat) : Nat → Nat → Nat
  | 0, _ => 0
  | j + 1, i => (if t ≤ i then ch6 n i * pw x i * pw (10 - x) (n - i) else 0) + cA n x t j (i + 1)
theorem cl_power {N x k : Nat} (hk : k ≤ 6) (hN : 100 ≤ N) : fX7_power N (nI x) (nI k) = some (nI (pw x k)) := by
  rw [fX7_power_e]
  have key : ∀ (j i fuel : Nat), i + j = k → j < fuel → fX7_power_4 (nI x) (nI k) fuel (nI (pw x i)) (nI i) = some (nI (pw x k)) := by
    intro j
    induction j with
    | zero =>
      intro i fuel hi hf
      obtain ⟨f, rfl⟩ : ∃ f, fuel = f + 1 := ⟨fuel - 1, by omega⟩
      rw [fX7_power_4_s, ile_t (by omega) (by omega), show i = k by omega]
    | succ j ih =>
      intro i fuel hi hf
      obtain ⟨f, rfl⟩ : ∃ f, fuel = f + 1 := ⟨fuel - 1, by omega⟩
      rw [fX7_power_4_s, ile_f (by omega) (by omega), pk_mul, nI_add]
      exact ih (i + 1) f (by omega) (by omega)
  exact key k 0 N (by omega) (by omega)
theorem cho_mono {p0 p1 : Int32} : ∀ (f m : Nat) (v i r : Int32), fX7_choices_4 p0 p1 f v i = some r → fX7_choices_4 p0 p1 (f + m) v i = some r := by
  intro f
  induction f with
  | zero => intro m v i r h; rw [fX7_choices_4_z] at h; cases h
  | succ f ih =>
    intro m v i r h
    rw [show f + 1 + m = (f + m) + 1 by omega]
    rw [fX7_choices_4_s] at h
    rw [fX7_choices_4_s]
    by_cases h1 : p1 < i
    · rw [if_pos h1] at h
      rw [if_pos h1]
      exact h
    · rw [if_neg h1] at h
      rw [if_neg h1]
      by_cases h2 : ¬ i = 0
      · rw [if_pos h2] at h
        rw [if_pos h2]
        exact ih m _ _ _ h
      · rw [if_neg h2] at h
        cases h
theorem cho_tab : ∀ n, n < 7 → ∀ k, k < 7 → k ≤ n → fX7_choices_4 (nI n) (nI k) 10 (nI 1) (nI 1) = some (nI (ch6 n k)) := by decide +kernel
theorem cl_choices {N n k : Nat} (hn : n ≤ 6) (hk : k ≤ n) (hN : 100 ≤ N) : fX7_choices N (nI n) (nI k) = some (nI (ch6 n k)) := by
  rw [fX7_choices_e]
  have := cho_mono 10 (N - 10) (nI 1) (nI 1) _ (cho_tab n (by omega) k (by omega) hk)
  rw [show 10 + (N - 10) = N by omega] at this
  exact this
/-- the class's sum -/
theorem cl_ways {R C n q N m x t : Nat} {d : Nat → Nat} {bes damps told : Nat → Int32} (hY : yAll R C n q d bes damps told) (hN : 100000 ≤ N) (hm : m ≤ 6) (hx : x ≤ 10) (f : Nat → wX n) (ht : ∀ k, k < 7 → (f k).1.2.2 = decide (t ≤ k))
    (hf : ∀ k, ∀ (nt : Nat) (bg : Option Nat), nt < 10000 → okBg bg → bg.isSome = (f k).1.2.2 → ∃ (sl : Bool) (bg' : Option Nat), okBg bg' ∧ bg'.isSome = (f (k + 1)).1.2.2 ∧ (∀ (fS fG : Nat → Int32), ∃ fS' fG', fX5_goNight N (nI C) (nI n) (nI (f k).1.2.1) (nI nt) (oI bg) (nI 6) fS bes (f k).1.1 fG = some (fl sl, nI (f (k + 1)).1.2.1, nI (nt + 1), oI bg', fS', (f (k + 1)).1.1, fG'))) :
    ∀ (j i fc nt v : Nat) (bg : Option Nat) (fS fG : Nat → Int32), i + j = m + 1 → j < fc → nt + j < 10000 → okBg bg → bg.isSome = (f i).1.2.2 → ∃ ts' tn' tb' tk' fS' fG', fX7_waysToBegin_16 N (nI m) (nI x) (nI C) (nI n) bes fc (nI v) (nI i) (nI (f i).1.2.1) (nI nt) (oI bg) (f i).1.1 fS fG = some (nI (v + cA m x t j i), ts', tn', tb', tk', fS', fG') := by
  intro j
  induction j with
  | zero =>
    intro i fc nt v bg fS fG hi hfc hnt hbg hb
    obtain ⟨g, rfl⟩ : ∃ g, fc = g + 1 := ⟨fc - 1, by omega⟩
    refine ⟨nI (f i).1.2.1, nI nt, oI bg, (f i).1.1, fS, fG, ?_⟩
    rw [fX7_waysToBegin_16_s, ilt_t (by omega) (by omega)]
    rfl
  | succ j ih =>
    intro i fc nt v bg fS fG hi hfc hnt hbg hb
    obtain ⟨g, rfl⟩ : ∃ g, fc = g + 1 := ⟨fc - 1, by omega⟩
    obtain ⟨sl, bg', a1, a2, a3⟩ := hf i nt bg (by omega) hbg hb
    obtain ⟨fS1, fG1, e1⟩ := a3 fS fG
    have hbe := cl_hasBegun (N := N) (bg := bg) (fun b hb => by have := hbg b hb; omega)
    rw [fX7_waysToBegin_16_s, ilt_f (by omega) (by omega), hbe, hb, ht i (by omega)]
    simp only [ob]
    by_cases h : t ≤ i
    · rw [show decide (t ≤ i) = true by simp [h], fl_t, iz_eqf (by omega) (by omega), cl_choices hm (by omega) (by omega)]
      simp only [ob]
      rw [cl_power (by omega) (by omega)]
      simp only [ob]
      rw [pk_sub hx, pk_sub (show i ≤ m by omega), cl_power (by omega) (by omega)]
      simp only [ob]
      rw [fX7_waysToBegin_60_e, e1, pk_mul, pk_mul, nI_add]
      simp only [ob, nI_add]
      obtain ⟨ts', tn', tb', tk', fS', fG', e⟩ := ih (i + 1) g (nt + 1) (v + ch6 m i * pw x i * pw (10 - x) (m - i)) bg' fS1 fG1 (by omega) (by omega) (by omega) a1 a2
      refine ⟨ts', tn', tb', tk', fS', fG', ?_⟩
      rw [e]
      simp only [cA]
      rw [if_pos h, Nat.add_assoc]
    · rw [show decide (t ≤ i) = false by simp [h], fl_f, iz_eqt rfl, fX7_waysToBegin_60_e, e1]
      simp only [ob, nI_add]
      obtain ⟨ts', tn', tb', tk', fS', fG', e⟩ := ih (i + 1) g (nt + 1) v bg' fS1 fG1 (by omega) (by omega) (by omega) a1 a2
      refine ⟨ts', tn', tb', tk', fS', fG', ?_⟩
      rw [e]
      simp only [cA]
      rw [if_neg h, Nat.zero_add]
/-! the reference's: sets of wet nights -/
def sb (set k : Nat) : Bool := decide (set / 2 ^ k % 2 = 1)
/-- part and count over the nights from k on, j of them -/
def mP (x set : Nat) : Nat → Nat → Nat → Nat × Nat
  | 0, _, a => (a, 0)
  | j + 1, k, a => if sb set k then ((mP x set j (k + 1) (a * x)).1, (mP x set j (k + 1) (a * x)).2 + 1) else mP x set j (k + 1) (a * (10 - x))
theorem sb_bit : ∀ set, set < 64 → ∀ k, k < 6 → ((((nI set) >>> ((nI k) &&& 31)) &&& nI 1) = nI 1 ↔ sb set k = true) := by decide +kernel
def mA (m x t : Nat) : Nat → Nat → Nat
  | 0, _ => 0
  | j + 1, set => (if t ≤ (mP x set m 0 1).2 then (mP x set m 0 1).1 else 0) + mA m x t j (set + 1)
def mBl (m x : Nat) : Nat → Nat → Nat
  | 0, _ => 0
  | j + 1, set => (mP x set m 0 1).1 + mBl m x j (set + 1)
theorem tab_A : ∀ m, m < 7 → ∀ x, x < 11 → ∀ t, t < 8 → mA m x t (2 ^ m) 0 = cA m x t (m + 1) 0 ∧ mBl m x (2 ^ m) 0 = pw 10 m ∧ cA m x t (m + 1) 0 ≤ pw 10 m ∧ pw 10 m ≤ 1000000 := by decide +kernel
theorem thr {g : Nat → Bool} (h : ∀ k, g k = true → g (k + 1) = true) : ∀ b : Nat, ∃ t, t ≤ b ∧ ∀ k, k < b → g k = decide (t ≤ k) := by
  intro b
  induction b with
  | zero => exact ⟨0, by omega, fun k hk => by omega⟩
  | succ b ih =>
    obtain ⟨t, h1, h2⟩ := ih
    by_cases ht : t < b
    · refine ⟨t, by omega, fun k hk => ?_⟩
      by_cases hkb : k < b
      · exact h2 k hkb
      · have e : k = (b - 1) + 1 := by omega
        have h3 := h2 (b - 1) (by omega)
        rw [show decide (t ≤ b - 1) = true from decide_eq_true (by omega)] at h3
        rw [show decide (t ≤ k) = true from decide_eq_true (by omega), e]
        exact h (b - 1) h3
    · cases hg : g b with
      | true =>
        refine ⟨b, by omega, fun k hk => ?_⟩
        by_cases hkb : k < b
        · rw [h2 k hkb, show decide (t ≤ k) = false from decide_eq_false (by omega), show decide (b ≤ k) = false from decide_eq_false (by omega)]
        · rw [show k = b by omega, hg, show decide (b ≤ b) = true from decide_eq_true (by omega)]
      | false =>
        refine ⟨b + 1, by omega, fun k hk => ?_⟩
        rw [show decide (b + 1 ≤ k) = false from decide_eq_false (by omega)]
        by_cases hkb : k < b
        · rw [h2 k hkb, show decide (t ≤ k) = false from decide_eq_false (by omega)]
        · rw [show k = b by omega, hg]
theorem mB_ge {α : Type} {bg : Option Nat} {x y : α} (h : okBg bg) : (if 0 ≤ mB bg then x else y) = (if bg.isSome = true then x else y) := by
  cases bg with
  | none => rfl
  | some b =>
    have hb := h b rfl
    rw [show mB (some b) = nI b from rfl, iz_le (by omega)]
    rfl
theorem sh_l : ∀ m, m < 7 → nI 1 <<< (nI m &&& 31) = nI (2 ^ m) := by decide +kernel
/-- one set of wet nights, in the reference -/
theorem mo_set {R C n q N m x t set : Nat} {d : Nat → Nat} {bes damps told o1 : Nat → Int32} {ab be : Int32} (hY : yAll R C n q d bes damps told) (hN : 100000 ≤ N) (hm : m ≤ 6) (hx : x ≤ 10) (hset : set < 64) (f : Nat → wX n) (ht : ∀ k, k < 7 → (f k).1.2.2 = decide (t ≤ k))
    (hf : ∀ k, ∀ (nt : Nat) (bg : Option Nat), nt < 10000 → okBg bg → bg.isSome = (f k).1.2.2 → ∃ (sl : Bool) (bg' : Option Nat), okBg bg' ∧ bg'.isSome = (f (k + 1)).1.2.2 ∧
      (∀ (now fr to : Nat → Int32), mSc (f k).1.1 (f k).1.2.1 nt bg now → ∃ now' fr' to', mSc (f (k + 1)).1.1 (f (k + 1)).1.2.1 (nt + 1) bg' now' ∧ fX8_goesBy N (nI 6) now told fr to = some (fl sl, now', fr', to')))
    (K : Int32 → Int32 → Int32 → (Nat → Int32) → (Nat → Int32) → (Nat → Int32) → Option (Int32 × Int32 × (Nat → Int32) × (Nat → Int32) × (Nat → Int32) × (Nat → Int32))) :
    ∀ (j k w a fc nt : Nat) (bg : Option Nat) (now fr to : Nat → Int32), k + j = m → w ≤ k → j < fc → nt + j < 10000 → okBg bg → bg.isSome = (f w).1.2.2 → mSc (f w).1.1 (f w).1.2.1 nt bg now →
      ∃ now' fr' to', eq28 now' o1 ∧ fX8_chances_29 N (nI m) (nI x) told o1 (nI set) ab be K fc (nI a) (nI k) now fr to = K (nI set + nI 1) (ab + nI (if t ≤ w + (mP x set j k a).2 then (mP x set j k a).1 else 0)) (be + nI (mP x set j k a).1) now' fr' to' := by
  intro j
  induction j with
  | zero =>
    intro k w a fc nt bg now fr to hk hw hfc hnt hbg hb hS
    obtain ⟨g, rfl⟩ : ∃ g, fc = g + 1 := ⟨fc - 1, by omega⟩
    obtain ⟨p, p1, p2⟩ := mo_backs (N := N) (aside := o1) (now := now) (by omega)
    refine ⟨p, fr, to, p1, ?_⟩
    rw [fX8_chances_29_s, ile_t (by omega) (by omega), hS.2.2.1, mB_ge hbg, hb, ht w (by omega)]
    rw [show mP x set 0 k a = (a, 0) from rfl]
    by_cases h : t ≤ w
    · rw [if_pos (show t ≤ w + ((a, 0) : Nat × Nat).2 from h), if_pos (show decide (t ≤ w) = true from decide_eq_true h), fX8_chances_123_e, p2]
      rfl
    · rw [if_neg (show ¬ t ≤ w + ((a, 0) : Nat × Nat).2 from h), if_neg (show ¬ decide (t ≤ w) = true by simp [h]), fX8_chances_123_e, p2]
      rfl
  | succ j ih =>
    intro k w a fc nt bg now fr to hk hw hfc hnt hbg hb hS
    obtain ⟨g, rfl⟩ : ∃ g, fc = g + 1 := ⟨fc - 1, by omega⟩
    rw [fX8_chances_29_s, ile_f (by omega) (by omega)]
    have hbit := sb_bit set hset k (by omega)
    by_cases h : sb set k = true
    · obtain ⟨sl, bg', a1, a2, a3⟩ := hf w nt bg (by omega) hbg hb
      obtain ⟨nw, fr1, to1, b1, b2⟩ := a3 now fr to hS
      obtain ⟨nw', fr', to', c1, c2⟩ := ih (k + 1) (w + 1) (a * x) g (nt + 1) bg' nw fr1 to1 (by omega) (by omega) (by omega) (by omega) a1 a2 b1
      refine ⟨nw', fr', to', c1, ?_⟩
      rw [if_pos (hbit.2 h), fX8_chances_50_e, iz_eqf (by omega) (by omega), fX8_chances_67_e, iz_eqf (by omega) (by omega), fX8_chances_82_e, b2]
      simp only [ob]
      rw [show w + 1 + (mP x set j (k + 1) (a * x)).2 = w + ((mP x set j (k + 1) (a * x)).2 + 1) by omega] at c2
      have hP : mP x set (j + 1) k a = ((mP x set j (k + 1) (a * x)).1, (mP x set j (k + 1) (a * x)).2 + 1) := by
        rw [mP, if_pos h]
      rw [pk_mul, nI_add, hP]
      exact c2
    · obtain ⟨sl, nw, fr1, to1, b1, b2⟩ := dry hY.1 hY.2.1 hN (f w).2 hbg (by omega) now fr to hS
      obtain ⟨nw', fr', to', c1, c2⟩ := ih (k + 1) w (a * (10 - x)) g (nt + 1) bg nw fr1 to1 (by omega) (by omega) (by omega) (by omega) hbg hb b1
      refine ⟨nw', fr', to', c1, ?_⟩
      rw [if_neg (fun e => h (hbit.1 e)), fX8_chances_50_e, iz_eqt rfl, fX8_chances_67_e, iz_eqt rfl, fX8_chances_82_e, b2]
      simp only [ob]
      have hP : mP x set (j + 1) k a = mP x set j (k + 1) (a * (10 - x)) := by
        rw [mP, if_neg h]
      rw [pk_sub hx, pk_mul, nI_add, hP]
      exact c2
/-- all sets -/
theorem mo_sets {R C n q N m x t nt : Nat} {bg : Option Nat} {d : Nat → Nat} {bes damps told o1 : Nat → Int32} (hY : yAll R C n q d bes damps told) (hN : 100000 ≤ N) (hm : m ≤ 6) (hx : x ≤ 10) (f : Nat → wX n) (ht : ∀ k, k < 7 → (f k).1.2.2 = decide (t ≤ k))
    (hf : ∀ k, ∀ (nt : Nat) (bg : Option Nat), nt < 10000 → okBg bg → bg.isSome = (f k).1.2.2 → ∃ (sl : Bool) (bg' : Option Nat), okBg bg' ∧ bg'.isSome = (f (k + 1)).1.2.2 ∧
      (∀ (now fr to : Nat → Int32), mSc (f k).1.1 (f k).1.2.1 nt bg now → ∃ now' fr' to', mSc (f (k + 1)).1.1 (f (k + 1)).1.2.1 (nt + 1) bg' now' ∧ fX8_goesBy N (nI 6) now told fr to = some (fl sl, now', fr', to')))
    (hnt : nt ≤ 999) (hbg : okBg bg) (hb : bg.isSome = (f 0).1.2.2) (ho : mSc (f 0).1.1 (f 0).1.2.1 nt bg o1) :
    ∀ (j set fc va vb : Nat) (now fr to : Nat → Int32), set + j = 2 ^ m → j < fc → eq28 now o1 →
      ∃ now' fr' to', eq28 now' o1 ∧ fX8_chances_16 N (nI m) (nI x) told o1 fc (nI set) (nI va) (nI vb) now fr to = some (nI (va + mA m x t j set), nI (vb + mBl m x j set), o1, now', fr', to') := by
  have h64 : 2 ^ m ≤ 64 := Nat.pow_le_pow_right (n := 2) (by omega) hm
  intro j
  induction j with
  | zero =>
    intro set fc va vb now fr to hs hfc he
    obtain ⟨g, rfl⟩ : ∃ g, fc = g + 1 := ⟨fc - 1, by omega⟩
    refine ⟨now, fr, to, he, ?_⟩
    rw [fX8_chances_16_s, sh_l m (by omega), ile_t (by omega) (by omega)]
    rfl
  | succ j ih =>
    intro set fc va vb now fr to hs hfc he
    obtain ⟨g, rfl⟩ : ∃ g, fc = g + 1 := ⟨fc - 1, by omega⟩
    obtain ⟨nw, fr1, to1, a1, a2⟩ := mo_set (o1 := o1) (ab := nI va) (be := nI vb) (set := set) hY hN hm hx (by omega) f ht hf (fX8_chances_16 N (nI m) (nI x) told o1 g) m 0 0 1 N nt bg now fr to (by omega) (by omega) (by omega) (by omega) hbg hb (mSc_eq28 ho he)
    obtain ⟨nw', fr', to', c1, c2⟩ := ih (set + 1) g (va + (if t ≤ (mP x set m 0 1).2 then (mP x set m 0 1).1 else 0)) (vb + (mP x set m 0 1).1) nw fr1 to1 (by omega) (by omega) a1
    refine ⟨nw', fr', to', c1, ?_⟩
    rw [fX8_chances_16_s, sh_l m (by omega), ile_f (by omega) (by omega), a2, nI_add, nI_add, nI_add, Nat.zero_add, c2]
    simp only [mA, mBl, Nat.add_assoc]
/-- both sums -/
theorem chn {R C n q N s nt m x : Nat} {d : Nat → Nat} {bes damps told nk now tk fS fG fr to aside : Nat → Int32} {bg : Option Nat} (hY : yAll R C n q d bes damps told) (hS : scR n nk s nt bg now) (hN : 100000 ≤ N) (hm : m ≤ 6) (hx : x ≤ 10) :
    ∃ t, t < 8 ∧ (∃ ts' tn' tb' tk' fS' fG', fX7_waysToBegin N (nI m) (nI x) (nI s) (nI nt) (oI bg) nk tk (nI C) (nI n) fS bes fG = some (nI (cA m x t (m + 1) 0), ts', tn', tb', tk', fS', fG')) ∧
      ∃ o1 now' fr' to', eq28 now' now ∧ fX8_chances N (nI m) (nI x) aside now told fr to = some (nI (cA m x t (m + 1) 0), nI (pw 10 m), o1, now', fr', to') := by
  have h25 := hY.1.1.n25
  have hc : ∀ y, y < 25 → va_cpy nk tk 0 0 25 y = nk y := fun y hy => cpy25 hy
  obtain ⟨f, f0, fs⟩ := wet (N := N) bg.isSome hY hN (okSc_K hS.2.1 (by omega) hc)
  obtain ⟨t, t1, t2⟩ := thr (g := fun k => (f k).1.2.2) (fun k => (fs k).1) 7
  have hb0 : bg.isSome = (f 0).1.2.2 := by rw [f0]
  refine ⟨t, by omega, ?_, ?_⟩
  · obtain ⟨ts', tn', tb', tk', fS', fG', e⟩ := cl_ways (m := m) (x := x) (t := t) hY hN hm hx f t2 (fun k nt bg h1 h2 h3 => by
      obtain ⟨sl, bg', a1, a2, a3, a4⟩ := (fs k).2 nt bg h1 h2 h3
      exact ⟨sl, bg', a1, a2, a3⟩) (m + 1) 0 N nt 0 bg fS fG (by omega) (by omega) (by have := hS.2.2.1; omega) hS.2.2.2 hb0
    refine ⟨ts', tn', tb', tk', fS', fG', ?_⟩
    rw [f0, Nat.zero_add] at e
    rw [fX7_waysToBegin_e, fX3_become_e]
    simp only [ob]
    exact e
  · obtain ⟨o1, p1, p2⟩ := mo_asides (N := N) (aside := aside) (now := now) (by omega)
    obtain ⟨nw, fr', to', c1, c2⟩ := mo_sets (m := m) (x := x) (t := t) (nt := nt) (bg := bg) (o1 := o1) hY hN hm hx f t2 (fun k nt bg h1 h2 h3 => by
      obtain ⟨sl, bg', a1, a2, a3, a4⟩ := (fs k).2 nt bg h1 h2 h3
      exact ⟨sl, bg', a1, a2, a4⟩) hS.2.2.1 hS.2.2.2 hb0 (by rw [f0]; exact mSc_K (mSc_eq28 hS.1 p1) hc) (2 ^ m) 0 N 0 0 now fr to (by omega) (by have h64 : 2 ^ m ≤ 64 := Nat.pow_le_pow_right (n := 2) (by omega) hm; omega) (fun i hi => (p1 i hi).symm)
    have T := tab_A m (by omega) x (by omega) t (by omega)
    refine ⟨o1, nw, fr', to', fun i hi => (c1 i hi).trans (p1 i hi), ?_⟩
    rw [fX8_chances_e, p2]
    simp only [ob]
    rw [c2, Nat.zero_add, Nat.zero_add, T.1, T.2.1]
/-! shortening -/
def gd : Nat → Int32 → Int32 → Option Int32
  | 0, _, _ => none
  | f + 1, a, b => if b = 0 then some a else gd f b (a - a / b * b)
theorem gd_z (a b : Int32) : gd 0 a b = none := rfl
theorem gd_s (f : Nat) (a b : Int32) : gd (f + 1) a b = if b = 0 then some a else gd f b (a - a / b * b) := rfl
theorem cd_mono : ∀ (f m : Nat) (a b c r : Int32), fX7_commonDivisor_7 f a b c = some r → fX7_commonDivisor_7 (f + m) a b c = some r := by
  intro f
  induction f with
  | zero => intro m a b c r h; rw [fX7_commonDivisor_7_z] at h; cases h
  | succ f ih =>
    intro m a b c r h
    rw [show f + 1 + m = (f + m) + 1 by omega]
    rw [fX7_commonDivisor_7_s] at h
    rw [fX7_commonDivisor_7_s]
    by_cases h1 : b ≤ 0
    · rw [if_pos h1] at h
      rw [if_pos h1]
      exact h
    · rw [if_neg h1] at h
      rw [if_neg h1]
      by_cases h2 : nI 64 ≤ c
      · rw [if_pos h2] at h
        rw [if_pos h2]
        exact h
      · rw [if_neg h2] at h
        rw [if_neg h2]
        by_cases h3 : ¬ b = 0
        · rw [if_pos h3] at h
          rw [if_pos h3]
          exact ih m _ _ _ _ h
        · rw [if_neg h3] at h
          cases h
theorem mo_short {p3 : Int32} {o : Int32 × Int32 × (Nat → Int32) × (Nat → Int32) × (Nat → Int32) × (Nat → Int32)} {g : Int32} (hg : ¬ g = 0) : ∀ (f m : Nat) (a b : Int32), gd f a b = some g → fX8_likely_54 p3 o (f + m) a b = some ((if p3 = 0 then o.1 else o.2.1) / g, o) := by
  intro f
  induction f with
  | zero => intro m a b h; rw [gd_z] at h; cases h
  | succ f ih =>
    intro m a b h
    rw [show f + 1 + m = (f + m) + 1 by omega]
    rw [gd_s] at h
    rw [fX8_likely_54_s]
    by_cases h1 : b = 0
    · rw [if_pos h1] at h
      rw [if_pos h1]
      have e : a = g := by injection h
      rw [e]
      by_cases h2 : p3 = 0
      · rw [if_pos h2, if_pos h2, if_pos hg]
      · rw [if_neg h2, if_neg h2, if_pos hg]
    · rw [if_neg h1] at h
      rw [if_neg h1, if_pos h1]
      exact ih m _ _ h
theorem tab_G : ∀ m, m < 7 → ∀ x, x < 11 → ∀ t, t < 8 → fX7_commonDivisor_7 40 (nI (cA m x t (m + 1) 0)) (nI (pw 10 m)) (nI 0) = some (nI (Nat.gcd (cA m x t (m + 1) 0) (pw 10 m))) ∧ gd 40 (nI (cA m x t (m + 1) 0)) (nI (pw 10 m)) = some (nI (Nat.gcd (cA m x t (m + 1) 0) (pw 10 m))) ∧ 0 < Nat.gcd (cA m x t (m + 1) 0) (pw 10 m) ∧ Nat.gcd (cA m x t (m + 1) 0) (pw 10 m) ≤ 1000000 := by decide +kernel
theorem noCh (N : Nat) (p0 p1 : Int32) : (fX7_isNoChance N p0 p1 = some (nI 1) ∧ (fX8_in N p0.toInt64 (lN 0) (lN 6) = some (nI 0) ∨ (fX8_in N p0.toInt64 (lN 0) (lN 6) = some (nI 1) ∧ fX8_in N p1.toInt64 (lN 0) (lN 10) = some (nI 0)))) ∨ ∃ m x, m ≤ 6 ∧ x ≤ 10 ∧ p0 = nI m ∧ p1 = nI x ∧ fX7_isNoChance N p0 p1 = some (nI 0) ∧ fX8_in N p0.toInt64 (lN 0) (lN 6) = some (nI 1) ∧ fX8_in N p1.toInt64 (lN 0) (lN 10) = some (nI 1) := by
  rw [fX7_isNoChance_e]
  rcases nI_S p0 6 (by omega) with hq | hq | ⟨m, hm, rfl⟩
  · rw [if_pos hq, mo_inN (by omega) (by omega) hq]
    exact Or.inl ⟨rfl, Or.inl rfl⟩
  · have h9 : nI 6 < p0 := by
      rw [Int32.le_iff_toInt_le, nI_toInt (by omega)] at hq
      rw [Int32.lt_iff_toInt_lt, nI_toInt (by omega)]
      omega
    rw [if_neg (big_nlt0 (by omega) hq), if_pos h9, mo_inB (by omega) (by omega) hq]
    exact Or.inl ⟨rfl, Or.inl rfl⟩
  · rw [iz_lt (by omega), ilt_f (by omega) (by omega), mo_inY (by omega) (by omega) hm]
    rcases nI_S p1 10 (by omega) with hq | hq | ⟨x, hx, rfl⟩
    · rw [if_pos hq, mo_inN (by omega) (by omega) hq]
      exact Or.inl ⟨rfl, Or.inr ⟨rfl, rfl⟩⟩
    · rw [if_neg (big_nlt0 (by omega) hq), if_neg (big_nle (by omega) (by omega) hq), mo_inB (by omega) (by omega) hq]
      exact Or.inl ⟨rfl, Or.inr ⟨rfl, rfl⟩⟩
    · rw [iz_lt (by omega), ile_t (by omega) (by omega), mo_inY (by omega) (by omega) hx]
      exact Or.inr ⟨m, x, hm, hx, rfl, rfl, rfl, rfl, rfl⟩
theorem p_bet {R C n q N s nt : Nat} {d : Nat → Nat} {bes damps told nk now tk fS fG fr to aside : Nat → Int32} {bg : Option Nat} {ts tn tb ab be : Int32} (hY : yAll R C n q d bes damps told) (hS : scR n nk s nt bg now) (hN : 100000 ≤ N) (p1 p2 : Int32) :
    ∃ r ts' tn' tb' tk' fS' fG' ab' be' aside' now' fr' to', fX7_bet N p1 p2 ts tn tb (nI s) (nI nt) (oI bg) nk tk (nI C) (nI n) fS bes fG = some (r, ts', tn', tb', tk', fS', fG') ∧ fX8_bet N ab be p1 p2 aside now told fr to = some (r, ab', be', aside', now', fr', to') ∧ eq28 now' now := by
  have bad : ∃ r ts' tn' tb' tk' fS' fG' ab' be' aside' now' fr' to', some ((-1 : Int32), ts, tn, tb, tk, fS, fG) = some (r, ts', tn', tb', tk', fS', fG') ∧ some ((-1 : Int32), ab, be, aside, now, fr, to) = some (r, ab', be', aside', now', fr', to') ∧ eq28 now' now := ⟨_, _, _, _, _, _, _, _, _, _, _, _, _, rfl, rfl, fun _ _ => rfl⟩
  rw [fX7_bet_e, fX8_bet_e]
  rcases noCh N p1 p2 with ⟨h1, h2 | ⟨h2, h3⟩⟩ | ⟨m, x, hm, hx, rfl, rfl, h1, h2, h3⟩
  · rw [h1, h2]
    simp only [ob]
    rw [iz_eqf (by omega) (by omega), iz_eqt rfl]
    exact bad
  · rw [h1, h2, h3]
    simp only [ob]
    rw [iz_eqf (by omega) (by omega), iz_eqf (by omega) (by omega), iz_eqt rfl]
    exact bad
  · rw [h1, h2, h3]
    obtain ⟨t, ht, ⟨ts', tn', tb', tk', fS', fG', e1⟩, o1, nw, fr', to', he, e2⟩ := chn (N := N) (m := m) (x := x) (tk := tk) (fS := fS) (fG := fG) (fr := fr) (to := to) (aside := aside) hY hS hN hm hx
    have T := tab_A m (by omega) x (by omega) t ht
    generalize hA : cA m x t (m + 1) 0 = A at e1 e2 T
    generalize hB : pw 10 m = B at e2 T
    obtain ⟨-, -, hAB, hB6⟩ := T
    simp only [ob]
    rw [iz_eqt rfl, iz_eqf (by omega) (by omega), iz_eqf (by omega) (by omega), e1, e2]
    simp only [ob]
    rw [cl_power hm (by omega), hB]
    simp only [ob]
    rw [pk_sub hAB, pk_mul]
    by_cases c1 : A = B - A
    · refine ⟨nI 0, ts', tn', tb', tk', fS', fG', nI A, nI B, o1, nw, fr', to', ?_, ?_, he⟩
      · rw [if_pos (show nI A = nI (B - A) by rw [← c1])]
      · rw [ile_t (by omega) (by omega), ile_t (by omega) (by omega)]
    · have hne : ¬ nI A = nI (B - A) := fun e => c1 ((nI_eq (by omega) (by omega)).mp e)
      rw [if_neg hne]
      by_cases c2 : A ≤ B - A
      · refine ⟨nI 2, ts', tn', tb', tk', fS', fG', nI A, nI B, o1, nw, fr', to', ?_, ?_, he⟩
        · rw [ile_t (by omega) (by omega)]
        · rw [ile_t (by omega) (by omega), ile_f (by omega) (by omega)]
      · refine ⟨nI 1, ts', tn', tb', tk', fS', fG', nI A, nI B, o1, nw, fr', to', ?_, ?_, he⟩
        · rw [ile_f (by omega) (by omega)]
        · rw [ile_f (by omega) (by omega)]
theorem p_likely {R C n q N s nt : Nat} {d : Nat → Nat} {bes damps told nk now tk fS fG fr to aside : Nat → Int32} {bg : Option Nat} {ts tn tb ab be : Int32} (hY : yAll R C n q d bes damps told) (hS : scR n nk s nt bg now) (hN : 100000 ≤ N) (p1 p2 p3 : Int32) :
    ∃ r ts' tn' tb' tk' fS' fG' ab' be' aside' now' fr' to', fX7_likely N p1 p2 p3 ts tn tb (nI s) (nI nt) (oI bg) nk tk (nI C) (nI n) fS bes fG = some (r, ts', tn', tb', tk', fS', fG') ∧ fX8_likely N ab be p1 p2 p3 aside now told fr to = some (r, ab', be', aside', now', fr', to') ∧ eq28 now' now := by
  have bad : ∃ r ts' tn' tb' tk' fS' fG' ab' be' aside' now' fr' to', some ((-1 : Int32), ts, tn, tb, tk, fS, fG) = some (r, ts', tn', tb', tk', fS', fG') ∧ some ((-1 : Int32), ab, be, aside, now, fr, to) = some (r, ab', be', aside', now', fr', to') ∧ eq28 now' now := ⟨_, _, _, _, _, _, _, _, _, _, _, _, _, rfl, rfl, fun _ _ => rfl⟩
  rw [fX7_likely_e, fX8_likely_e]
  rcases noCh N p1 p2 with ⟨h1, h2 | ⟨h2, h3⟩⟩ | ⟨m, x, hm, hx, rfl, rfl, h1, h2, h3⟩
  · rw [h1, h2]
    simp only [ob]
    rw [iz_eqf (by omega) (by omega), iz_eqt rfl]
    exact bad
  · rw [h1, h2, h3]
    simp only [ob]
    rw [iz_eqf (by omega) (by omega), iz_eqf (by omega) (by omega), iz_eqt rfl]
    exact bad
  · rw [h1, h2, h3]
    simp only [ob]
    rw [iz_eqt rfl, iz_eqf (by omega) (by omega), iz_eqf (by omega) (by omega)]
    rcases nI_S p3 1 (by omega) with hq | hq | ⟨k, hk, rfl⟩
    · rw [if_pos hq, mo_inN (by omega) (by omega) hq]
      simp only [ob]
      rw [iz_eqt rfl]
      exact bad
    · rw [if_neg (big_nlt0 (by omega) hq), if_neg (big_nle (by omega) (by omega) hq), mo_inB (by omega) (by omega) hq]
      simp only [ob]
      rw [iz_eqt rfl]
      exact bad
    · rw [iz_lt (by omega), ile_t (by omega) (by omega), mo_inY (by omega) (by omega) hk]
      obtain ⟨t, ht, ⟨ts', tn', tb', tk', fS', fG', e1⟩, o1, nw, fr', to', he, e2⟩ := chn (N := N) (m := m) (x := x) (tk := tk) (fS := fS) (fG := fG) (fr := fr) (to := to) (aside := aside) hY hS hN hm hx
      have T := tab_G m (by omega) x (by omega) t ht
      generalize hA : cA m x t (m + 1) 0 = A at e1 e2 T
      generalize hB : pw 10 m = B at e2 T
      generalize hG : Nat.gcd A B = G at T
      obtain ⟨g1, g2, g3, g4⟩ := T
      have h0 : ¬ nI G = 0 := nI_ne0 g3 (by omega)
      have hg1 : (if nI 1 < nI G then nI G else nI 1) = nI G := by
        by_cases hG1 : 1 < G
        · rw [ilt_t hG1 (by omega)]
        · rw [ilt_f (by omega) (by omega), show G = 1 by omega]
      have c1 := cd_mono 40 (N - 40) _ _ _ _ g1
      have c2 := mo_short (p3 := nI k) (o := (nI A, nI B, o1, nw, fr', to')) h0 40 (N - 40) _ _ g2
      rw [show 40 + (N - 40) = N by omega] at c1 c2
      refine ⟨(if nI k = 0 then nI A else nI B) / nI G, ts', tn', tb', tk', fS', fG', nI A, nI B, o1, nw, fr', to', ?_, ?_, he⟩
      · rw [e1]
        simp only [ob]
        rw [cl_power hm (by omega), hB]
        simp only [ob]
        rw [fX7_commonDivisor_e, c1]
        simp only [ob]
        rw [hg1]
        by_cases hk0 : nI k = 0
        · rw [if_pos hk0, if_pos hk0, if_pos h0]
        · rw [if_neg hk0, if_neg hk0, if_pos h0]
      · simp only [ob]
        rw [iz_eqf (by omega) (by omega), e2]
        simp only [ob]
        exact c2
