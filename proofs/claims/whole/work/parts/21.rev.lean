/-- from the goal and to the goal: the same ways, walked backwards -/
theorem rx_rev {n g : Nat} {nb : Nat → Nat → Option Nat} {w d t : Nat → Nat} (hw : ∀ y, 1 ≤ w y ∧ (w y ≤ 3 ∨ 1000 ≤ w y)) (hg : w g < 1000)
  (hC1 : rx_C n g nb (fun _ y => w y) d) (hS1 : rx_S n g nb (fun _ y => w y) d) (hC2 : rx_C n g nb (fun x _ => w x) t) (hS2 : rx_S n g nb (fun x _ => w x) t)
  (hd : ∀ y, y < n → d y < 1000 → d y ≤ 75) (ht : ∀ y, y < n → t y < 1000 → t y ≤ 75) (hnb : ∀ x s y, x < n → nb x s = some y → y < n) (hgn : g < n) :
  ∀ y, y < n → w y < 1000 → (d y < 1000 → t y + w y ≤ d y + w g) ∧ (t y < 1000 → d y + w g ≤ t y + w y) := by
  have A : rx_C n g nb (fun x _ => w x) (fun y => if n ≤ y then 0 else if 1000 ≤ w y then 0 else if 1000 ≤ d y then 1000 else d y + w g - w y) := by
    refine ⟨?_, fun y => ?_, fun x hx s hs y hy => ?_⟩
    · have := hC1.1
      simp only [this]
      rw [if_neg (by omega), if_neg (by omega), if_neg (by omega)]
      omega
    · show (if n ≤ y then 0 else if 1000 ≤ w y then 0 else if 1000 ≤ d y then 1000 else d y + w g - w y) ≤ 1000
      have h1 := hw g
      by_cases hn : n ≤ y
      · rw [if_pos hn]; omega
      · have h2 := hd y (by omega)
        rw [if_neg hn]
        split
        · omega
        · split
          · omega
          · have := h2 (by omega)
            omega
    · have h1 := hC1.2.2 x hx s hs y hy
      have h2 := hnb x s y hx hy
      have h3 := hd x hx
      have h4 := hd y h2
      have hwx := hw x
      have hwy := hw y
      have hwg := hw g
      simp only at h1
      show (if n ≤ y then 0 else if 1000 ≤ w y then 0 else if 1000 ≤ d y then 1000 else d y + w g - w y) ≤ (if n ≤ x then 0 else if 1000 ≤ w x then 0 else if 1000 ≤ d x then 1000 else d x + w g - w x) + w x
      rw [if_neg (by omega), if_neg (show ¬ n ≤ x by omega)]
      by_cases a1 : 1000 ≤ w y
      · rw [if_pos a1]; omega
      · rw [if_neg a1]
        by_cases a2 : 1000 ≤ w x
        · rw [if_pos a2]
          split
          · omega
          · have := h4 (by omega)
            omega
        · rw [if_neg a2]
          by_cases a3 : 1000 ≤ d x
          · rw [if_pos a3]
            split
            · omega
            · have := h4 (by omega)
              omega
          · rw [if_neg a3]
            have := h3 (by omega)
            rw [if_neg (by omega)]
            omega
  have B : rx_C n g nb (fun _ y => w y) (fun y => if n ≤ y then 0 else if 1000 ≤ w y then 1000 else if 1000 ≤ t y then 1000 else if y = g then 0 else t y + w y - w g) := by
    refine ⟨?_, fun y => ?_, fun x hx s hs y hy => ?_⟩
    · have := hC2.1
      show (if n ≤ g then 0 else if 1000 ≤ w g then 1000 else if 1000 ≤ t g then 1000 else if g = g then 0 else t g + w g - w g) = 0
      rw [if_neg (by omega), if_neg (by omega), if_neg (by omega), if_pos rfl]
    · show (if n ≤ y then 0 else if 1000 ≤ w y then 1000 else if 1000 ≤ t y then 1000 else if y = g then 0 else t y + w y - w g) ≤ 1000
      have h1 := hw y
      by_cases hn : n ≤ y
      · rw [if_pos hn]; omega
      · have h2 := ht y (by omega)
        rw [if_neg hn]
        split
        · omega
        · split
          · omega
          · have := h2 (by omega)
            split <;> omega
    · have h1 := hC2.2.2 x hx s hs y hy
      have h2 := hnb x s y hx hy
      have h3 := ht x hx
      have h4 := ht y h2
      have hwx := hw x
      have hwy := hw y
      have hwg := hw g
      have h0 := hC2.1
      simp only at h1
      show (if n ≤ y then 0 else if 1000 ≤ w y then 1000 else if 1000 ≤ t y then 1000 else if y = g then 0 else t y + w y - w g) ≤ (if n ≤ x then 0 else if 1000 ≤ w x then 1000 else if 1000 ≤ t x then 1000 else if x = g then 0 else t x + w x - w g) + w y
      rw [if_neg (by omega), if_neg (show ¬ n ≤ x by omega)]
      by_cases a1 : 1000 ≤ w y
      · rw [if_pos a1]; omega
      · rw [if_neg a1]
        by_cases a2 : 1000 ≤ w x
        · rw [if_pos a2]
          split
          · omega
          · have := h4 (by omega)
            split <;> omega
        · rw [if_neg a2]
          by_cases a3 : 1000 ≤ t x
          · rw [if_pos a3]
            split
            · omega
            · have := h4 (by omega)
              split <;> omega
          · rw [if_neg a3]
            have := h3 (by omega)
            rw [if_neg (by omega)]
            by_cases a4 : y = g
            · rw [if_pos a4]; omega
            · rw [if_neg a4]
              by_cases a5 : x = g
              · rw [if_pos a5]
                subst a5
                omega
              · rw [if_neg a5]; omega
  intro y hy hwy
  have hA := hS2 _ A y hy
  have hB := hS1 _ B y hy
  rw [if_neg (by omega), if_neg (by omega)] at hA hB
  refine ⟨fun h => ?_, fun h => ?_⟩
  · by_cases a1 : 1000 ≤ t y
    · rw [if_pos a1] at hB; omega
    · rw [if_neg a1] at hB
      by_cases a2 : y = g
      · subst a2
        have := hC2.1
        omega
      · rw [if_neg a2] at hB; omega
  · by_cases a1 : 1000 ≤ d y
    · rw [if_pos a1] at hA; omega
    · rw [if_neg a1] at hA; omega
