theorem hdX8_goesOn : yX8_goesOn.cls ≠ "java/lang/invoke/MethodHandle" ∧ yX8_goesOn.cls ≠ "java/lang/invoke/VarHandle" ∧ (parseMethodDescriptor yX8_goesOn.desc).map (fun d => d.parameters.length) = some 1 := by decide +kernel
set_option maxHeartbeats 40000000 in
set_option maxRecDepth 100000 in
theorem kX8_goesOn (l : Launch) (dC : Nat → ClassId) (dI : Nat → Nat → Nat) (cI : ClassId) (q_th : Nat) (q_th_now : Nat) (q_th_told : Nat) (q_th_from : Nat) (q_th_to : Nat) (sz : Nat) (x_th_text : Value) (th_letters : Int32) (th_at : Int32) (x_th_read : Value) (th_isMore : Int32) (th_told0 : Int32) (x_th_undone : Value) (th_undos : Int32) (x_th_aside : Value) (th_beganOn : Int32) (th_beganIn : Int32) (th_first : Int32) (th_second : Int32) (x_th_seenCell : Value) (x_th_seenNight : Value) (th_seens : Int32) (th_above : Int32) (th_below : Int32) (x_th_kept : Value) (th_keeps : Int32) (th_now : Nat → Int32) (th_told : Nat → Int32) (th_from : Nat → Int32) (th_to : Nat → Int32) (p1 : Int32) (N : Nat) (o : (Nat → Int32) × (Nat → Int32) × (Nat → Int32)) (hF : fX8_goesOn N p1 th_now th_told th_from th_to = some o) : nx_V l yX8_goesOn wsX8_goesOn ({ frames := 6, cells := 0, slots := 0, locals := 144 } : Room) (dC, dI) cI [.ref q_th, .int p1] [(q_th, .inr (8, [.ref q_th_told, .ref q_th_now, x_th_text, .int th_letters, .int th_at, x_th_read, .int th_isMore, .int th_told0, .ref q_th_from, .ref q_th_to, x_th_undone, .int th_undos, x_th_aside, .int th_beganOn, .int th_beganIn, .int th_first, .int th_second, x_th_seenCell, x_th_seenNight, .int th_seens, .int th_above, .int th_below, x_th_kept, .int th_keeps])), (q_th_now, .inl (cI, 28, .inl th_now)), (q_th_told, .inl (cI, 54, .inl th_told)), (q_th_from, .inl (cI, 25, .inl th_from)), (q_th_to, .inl (cI, 25, .inl th_to))] sz [(q_th, .inr (8, [.ref q_th_told, .ref q_th_now, x_th_text, .int th_letters, .int th_at, x_th_read, .int th_isMore, .int th_told0, .ref q_th_from, .ref q_th_to, x_th_undone, .int th_undos, x_th_aside, .int th_beganOn, .int th_beganIn, .int th_first, .int th_second, x_th_seenCell, x_th_seenNight, .int th_seens, .int th_above, .int th_below, x_th_kept, .int th_keeps])), (q_th_now, .inl (cI, 28, .inl o.1)), (q_th_told, .inl (cI, 54, .inl th_told)), (q_th_from, .inl (cI, 25, .inl o.2.1)), (q_th_to, .inl (cI, 25, .inl o.2.2))] := by
  refine nx_void (cc := cX8_goesOn) (maxL := 3) (by decide) rfl (Nat.le_of_ble_eq_true rfl) ?_
  intro p e s m args below meth c Q A S0 hK hN hA ret0 hP hD hS ls hl
  have S0 : CallFix p m c cX8_goesOn 3 s args wsX8_goesOn RX8 := S0
  have hx := S0.1
  have hb := S0.2.1
  have hown := S0.2.2.2.1
  have hts := S0.2.2.2.2
  have hf_13 := hts (.fieldLink RX8 13 "SnailsYearModel" "now" "[I") (by decide +kernel)
  have hin_X8 : ∀ w ∈ wsX80, w ∈ wsX8_goesOn := by decide +kernel
  have hl : lv_has ls 3 [(0, .ref q_th), (1, .int p1)] := hl
  have hret : ∀ (y0 : Nat → Int32) (y1 : Nat → Int32) (y2 : Nat → Int32) (H : Heap) (locs : List Loc) (ls : Array Slot) (pc : Nat), some (y0, y1, y2) = some o → decode cX8_goesOn pc = .ok (.return_, 1) → va_P (dC, dI) vwCl [(q_th, .inr (8, [.ref q_th_told, .ref q_th_now, x_th_text, .int th_letters, .int th_at, x_th_read, .int th_isMore, .int th_told0, .ref q_th_from, .ref q_th_to, x_th_undone, .int th_undos, x_th_aside, .int th_beganOn, .int th_beganIn, .int th_first, .int th_second, x_th_seenCell, x_th_seenNight, .int th_seens, .int th_above, .int th_below, x_th_kept, .int th_keeps])), (q_th_now, .inl (cI, 28, .inl y0)), (q_th_told, .inl (cI, 54, .inl th_told)), (q_th_from, .inl (cI, 25, .inl y1)), (q_th_to, .inl (cI, 25, .inl y2))] H → va_D A [(q_th, .inr (8, [.ref q_th_told, .ref q_th_now, x_th_text, .int th_letters, .int th_at, x_th_read, .int th_isMore, .int th_told0, .ref q_th_from, .ref q_th_to, x_th_undone, .int th_undos, x_th_aside, .int th_beganOn, .int th_beganIn, .int th_first, .int th_second, x_th_seenCell, x_th_seenNight, .int th_seens, .int th_above, .int th_below, x_th_kept, .int th_keeps])), (q_th_now, .inl (cI, 28, .inl y0)), (q_th_told, .inl (cI, 54, .inl th_told)), (q_th_from, .inl (cI, 25, .inl y1)), (q_th_to, .inl (cI, 25, .inl y2))] → va_S A s.heap H locs → W p l e ({ frames := 6, cells := 0, slots := 0, locals := 144 } : Room) s m args below meth c H locs 0 0 Q (F0 m pc ls []) := by
    intro y0 y1 y2 H locs ls pc ho hd hP hD hS
    cases ho
    exact ret0 H locs ls pc hd hP hD hS
  rw [fX8_goesOn_e] at hF
  refine lv_iconst (v := (nI 0)) hx hb dX8_goesOn_0 (by decide) ?_
  have B_2 : ∀ (n_2 : Nat) (v2_2 : Int32) (th_now_2 : Nat → Int32) (th_from_2 : Nat → Int32) (th_to_2 : Nat → Int32), fX8_goesOn_2 N p1 th_told n_2 v2_2 th_now_2 th_from_2 th_to_2 = some o → ∀ (H : Heap) (locs : List Loc) (ls : Array Slot), va_P (dC, dI) vwCl [(q_th, .inr (8, [.ref q_th_told, .ref q_th_now, x_th_text, .int th_letters, .int th_at, x_th_read, .int th_isMore, .int th_told0, .ref q_th_from, .ref q_th_to, x_th_undone, .int th_undos, x_th_aside, .int th_beganOn, .int th_beganIn, .int th_first, .int th_second, x_th_seenCell, x_th_seenNight, .int th_seens, .int th_above, .int th_below, x_th_kept, .int th_keeps])), (q_th_now, .inl (cI, 28, .inl th_now_2)), (q_th_told, .inl (cI, 54, .inl th_told)), (q_th_from, .inl (cI, 25, .inl th_from_2)), (q_th_to, .inl (cI, 25, .inl th_to_2))] H → va_D A [(q_th, .inr (8, [.ref q_th_told, .ref q_th_now, x_th_text, .int th_letters, .int th_at, x_th_read, .int th_isMore, .int th_told0, .ref q_th_from, .ref q_th_to, x_th_undone, .int th_undos, x_th_aside, .int th_beganOn, .int th_beganIn, .int th_first, .int th_second, x_th_seenCell, x_th_seenNight, .int th_seens, .int th_above, .int th_below, x_th_kept, .int th_keeps])), (q_th_now, .inl (cI, 28, .inl th_now_2)), (q_th_told, .inl (cI, 54, .inl th_told)), (q_th_from, .inl (cI, 25, .inl th_from_2)), (q_th_to, .inl (cI, 25, .inl th_to_2))] → va_S A s.heap H locs → lv_has ls 3 [(0, .ref q_th), (1, .int p1), (2, .int v2_2)] → W p l e ({ frames := 6, cells := 0, slots := 0, locals := 144 } : Room) s m args below meth c H locs 0 0 Q (F0 m 2 ls []) := by
    intro n_2
    induction n_2 with
    | zero =>
      intro v2_2 th_now_2 th_from_2 th_to_2 hF
      rw [fX8_goesOn_2_z] at hF
      cases hF
    | succ n_2 ih_2 =>
      intro v2_2 th_now_2 th_from_2 th_to_2 hF H locs ls hP hD hS hl
      rw [fX8_goesOn_2_s] at hF
      refine lv_iload_n hx hb dX8_goesOn_2 rfl (lv_at hl 2 rfl) ?_
      refine lv_iload_n hx hb dX8_goesOn_3 rfl (lv_at hl 1 rfl) ?_
      refine lv_icmp_ge (tgt := 28) hx hb dX8_goesOn_4 (by decide) (fun hc => ?_) (fun hc => ?_)
      · have hF := ng_t hc hF
        exact hret th_now_2 th_from_2 th_to_2 _ _ _ _ hF dX8_goesOn_28 hP hD hS
      · have hF := ng_f hc hF
        refine lv_aload_n hx hb dX8_goesOn_7 rfl (lv_at hl 0 rfl) ?_
        refine lv_aload_n hx hb dX8_goesOn_8 rfl (lv_at hl 0 rfl) ?_
        refine lv_aload_n hx hb dX8_goesOn_9 rfl (lv_at hl 0 rfl) ?_
        refine nx_get S0 hK hP 0 1 hin_X8 hf_13 rfl rfl (by decide) rfl rfl dX8_goesOn_10 ?_
        refine lv_iconst (v := (nI 0)) hx hb dX8_goesOn_13 (by decide) ?_
        refine nx_iald S0 hK hP 1 (v := th_now_2 0) rfl (by decide) rfl dX8_goesOn_14 ?_
        obtain ⟨o15, hF1, hF⟩ := ng_b hF
        refine nx_callVi (As := [.int (th_now_2 0)]) (rest := [.ref q_th]) (W1 := [(q_th, .inr (8, [.ref q_th_told, .ref q_th_now, x_th_text, .int th_letters, .int th_at, x_th_read, .int th_isMore, .int th_told0, .ref q_th_from, .ref q_th_to, x_th_undone, .int th_undos, x_th_aside, .int th_beganOn, .int th_beganIn, .int th_first, .int th_second, x_th_seenCell, x_th_seenNight, .int th_seens, .int th_above, .int th_below, x_th_kept, .int th_keeps])), (q_th_now, .inl (cI, 28, .inl th_now_2)), (q_th_told, .inl (cI, 54, .inl th_told)), (q_th_from, .inl (cI, 25, .inl th_from_2)), (q_th_to, .inl (cI, 25, .inl th_to_2))]) (wr := [(q_th_now, .inl (cI, 28, .inl th_now_2)), (q_th_from, .inl (cI, 25, .inl th_from_2)), (q_th_to, .inl (cI, 25, .inl th_to_2))]) S0 hK hN hA hP hD hS (kX8_dampOf l dC dI cI q_th q_th_told _ (.ref q_th_now) (x_th_text) th_letters th_at (x_th_read) th_isMore th_told0 (.ref q_th_from) (.ref q_th_to) (x_th_undone) th_undos (x_th_aside) th_beganOn th_beganIn th_first th_second (x_th_seenCell) (x_th_seenNight) th_seens th_above th_below (x_th_kept) th_keeps th_told (th_now_2 0) N o15 hF1) (cwV 1 hts gX8_goesOn_X8_dampOf rfl rfl rfl ⟨rfl, hdX8_dampOf⟩ ⟨Nat.le_of_ble_eq_true rfl, Nat.le_of_ble_eq_true rfl⟩) [0, 2] [1, 3, 4] [3, 0, 4, 1, 2] rfl rfl rfl rfl 0 8 rfl rfl rfl rfl hl.1 rfl (Nat.le_of_ble_eq_true rfl) dX8_goesOn_15 (fun H locs hP hD hS => ?_)
        obtain ⟨o18, hF1, hF⟩ := ng_b hF
        refine nx_callVi (As := [.int o15]) (rest := []) (W1 := [(q_th, .inr (8, [.ref q_th_told, .ref q_th_now, x_th_text, .int th_letters, .int th_at, x_th_read, .int th_isMore, .int th_told0, .ref q_th_from, .ref q_th_to, x_th_undone, .int th_undos, x_th_aside, .int th_beganOn, .int th_beganIn, .int th_first, .int th_second, x_th_seenCell, x_th_seenNight, .int th_seens, .int th_above, .int th_below, x_th_kept, .int th_keeps])), (q_th_now, .inl (cI, 28, .inl o18.2.1)), (q_th_told, .inl (cI, 54, .inl th_told)), (q_th_from, .inl (cI, 25, .inl o18.2.2.1)), (q_th_to, .inl (cI, 25, .inl o18.2.2.2))]) (wr := []) S0 hK hN hA hP hD hS (kX8_goesBy l dC dI cI q_th q_th_now q_th_told q_th_from q_th_to _ (x_th_text) th_letters th_at (x_th_read) th_isMore th_told0 (x_th_undone) th_undos (x_th_aside) th_beganOn th_beganIn th_first th_second (x_th_seenCell) (x_th_seenNight) th_seens th_above th_below (x_th_kept) th_keeps th_now_2 th_told th_from_2 th_to_2 o15 N o18 hF1) (cwV 1 hts gX8_goesOn_X8_goesBy rfl rfl rfl ⟨rfl, hdX8_goesBy⟩ ⟨Nat.le_of_ble_eq_true rfl, Nat.le_of_ble_eq_true rfl⟩) [0, 1, 2, 3, 4] [] [0, 1, 2, 3, 4] rfl rfl rfl rfl 0 8 rfl rfl rfl rfl hl.1 rfl (Nat.le_of_ble_eq_true rfl) dX8_goesOn_18 (fun H locs hP hD hS => ?_)
        refine lv_pop hx hb dX8_goesOn_21 rfl ?_
        refine lv_iinc (v := v2_2 + (nI 1)) (lv' := [(2, .int (v2_2 + (nI 1))), (0, .ref q_th), (1, .int p1)]) hx hb dX8_goesOn_22 hl (k := 2) rfl rfl (by decide) rfl (fun ls hl => ?_)
        refine lv_goto (tgt := 2) hx hb dX8_goesOn_25 (by decide) ?_
        exact ih_2 (v2_2 + (nI 1)) o18.2.1 o18.2.2.1 o18.2.2.2 hF _ _ _ hP hD hS (lv_sub hl [1, 2, 0] rfl)
  refine lv_istore_n (lv' := [(2, .int (nI 0)), (0, .ref q_th), (1, .int p1)]) hx hb dX8_goesOn_1 rfl hl (by decide) rfl (fun ls hl => ?_)
  exact B_2 N (nI 0) th_now th_from th_to hF _ _ _ hP hD hS (lv_sub hl [1, 2, 0] rfl)
theorem hdX8_cell : yX8_cell.cls ≠ "java/lang/invoke/MethodHandle" ∧ yX8_cell.cls ≠ "java/lang/invoke/VarHandle" ∧ (parseMethodDescriptor yX8_cell.desc).map (fun d => d.parameters.length) = some 2 := by decide +kernel
set_option maxHeartbeats 40000000 in
set_option maxRecDepth 100000 in
theorem kX8_cell (l : Launch) (dC : Nat → ClassId) (dI : Nat → Nat → Nat) (cI : ClassId) (q_th : Nat) (q_th_told : Nat) (q_th_now : Nat) (sz : Nat) (x_th_text : Value) (th_letters : Int32) (th_at : Int32) (x_th_read : Value) (th_isMore : Int32) (th_told0 : Int32) (x_th_from : Value) (x_th_to : Value) (x_th_undone : Value) (th_undos : Int32) (x_th_aside : Value) (th_beganOn : Int32) (th_beganIn : Int32) (th_first : Int32) (th_second : Int32) (x_th_seenCell : Value) (x_th_seenNight : Value) (th_seens : Int32) (th_above : Int32) (th_below : Int32) (x_th_kept : Value) (th_keeps : Int32) (th_told : Nat → Int32) (th_now : Nat → Int32) (p1 : Int32) (p2 : Int32) (N : Nat) (o : Int32) (hF : fX8_cell N p1 p2 th_told th_now = some o) : nx_I l yX8_cell wsX8_cell ({ frames := 2, cells := 0, slots := 0, locals := 46 } : Room) (dC, dI) cI [.ref q_th, .int p1, .int p2] [(q_th, .inr (8, [.ref q_th_told, .ref q_th_now, x_th_text, .int th_letters, .int th_at, x_th_read, .int th_isMore, .int th_told0, x_th_from, x_th_to, x_th_undone, .int th_undos, x_th_aside, .int th_beganOn, .int th_beganIn, .int th_first, .int th_second, x_th_seenCell, x_th_seenNight, .int th_seens, .int th_above, .int th_below, x_th_kept, .int th_keeps])), (q_th_told, .inl (cI, 54, .inl th_told)), (q_th_now, .inl (cI, 28, .inl th_now))] sz o [(q_th, .inr (8, [.ref q_th_told, .ref q_th_now, x_th_text, .int th_letters, .int th_at, x_th_read, .int th_isMore, .int th_told0, x_th_from, x_th_to, x_th_undone, .int th_undos, x_th_aside, .int th_beganOn, .int th_beganIn, .int th_first, .int th_second, x_th_seenCell, x_th_seenNight, .int th_seens, .int th_above, .int th_below, x_th_kept, .int th_keeps])), (q_th_told, .inl (cI, 54, .inl th_told)), (q_th_now, .inl (cI, 28, .inl th_now))] := by
  refine nx_int (cc := cX8_cell) (maxL := 3) (by decide) rfl (Nat.le_of_ble_eq_true rfl) ?_
  intro p e s m args below meth c Q A S0 hK hN hA ret0 hP hD hS ls hl
  have S0 : CallFix p m c cX8_cell 3 s args wsX8_cell RX8 := S0
  have hx := S0.1
  have hb := S0.2.1
  have hown := S0.2.2.2.1
  have hts := S0.2.2.2.2
  have hf_13 := hts (.fieldLink RX8 13 "SnailsYearModel" "now" "[I") (by decide +kernel)
  have hin_X8 : ∀ w ∈ wsX80, w ∈ wsX8_cell := by decide +kernel
  have hl : lv_has ls 3 [(0, .ref q_th), (1, .int p1), (2, .int p2)] := hl
  have hret : ∀ (r0 : Int32) (H : Heap) (locs : List Loc) (ls : Array Slot) (pc : Nat), some r0 = some o → decode cX8_cell pc = .ok (.ireturn, 1) → va_P (dC, dI) vwCl [(q_th, .inr (8, [.ref q_th_told, .ref q_th_now, x_th_text, .int th_letters, .int th_at, x_th_read, .int th_isMore, .int th_told0, x_th_from, x_th_to, x_th_undone, .int th_undos, x_th_aside, .int th_beganOn, .int th_beganIn, .int th_first, .int th_second, x_th_seenCell, x_th_seenNight, .int th_seens, .int th_above, .int th_below, x_th_kept, .int th_keeps])), (q_th_told, .inl (cI, 54, .inl th_told)), (q_th_now, .inl (cI, 28, .inl th_now))] H → va_D A [(q_th, .inr (8, [.ref q_th_told, .ref q_th_now, x_th_text, .int th_letters, .int th_at, x_th_read, .int th_isMore, .int th_told0, x_th_from, x_th_to, x_th_undone, .int th_undos, x_th_aside, .int th_beganOn, .int th_beganIn, .int th_first, .int th_second, x_th_seenCell, x_th_seenNight, .int th_seens, .int th_above, .int th_below, x_th_kept, .int th_keeps])), (q_th_told, .inl (cI, 54, .inl th_told)), (q_th_now, .inl (cI, 28, .inl th_now))] → va_S A s.heap H locs → W p l e ({ frames := 2, cells := 0, slots := 0, locals := 46 } : Room) s m args below meth c H locs 0 0 Q (F0 m pc ls [.int r0]) := by
    intro r0 H locs ls pc ho hd hP hD hS
    cases ho
    exact ret0 H locs ls pc hd hP hD hS
  rw [fX8_cell_e] at hF
  refine lv_aload_n hx hb dX8_cell_0 rfl (lv_at hl 0 rfl) ?_
  refine lv_iload_n hx hb dX8_cell_1 rfl (lv_at hl 1 rfl) ?_
  obtain ⟨o2, hF1, hF⟩ := ng_b hF
  refine nx_callVi (As := [.int p1]) (rest := []) (W1 := [(q_th, .inr (8, [.ref q_th_told, .ref q_th_now, x_th_text, .int th_letters, .int th_at, x_th_read, .int th_isMore, .int th_told0, x_th_from, x_th_to, x_th_undone, .int th_undos, x_th_aside, .int th_beganOn, .int th_beganIn, .int th_first, .int th_second, x_th_seenCell, x_th_seenNight, .int th_seens, .int th_above, .int th_below, x_th_kept, .int th_keeps])), (q_th_told, .inl (cI, 54, .inl th_told)), (q_th_now, .inl (cI, 28, .inl th_now))]) (wr := [(q_th_now, .inl (cI, 28, .inl th_now))]) S0 hK hN hA hP hD hS (kX8_isCell l dC dI cI q_th q_th_told _ (.ref q_th_now) (x_th_text) th_letters th_at (x_th_read) th_isMore th_told0 (x_th_from) (x_th_to) (x_th_undone) th_undos (x_th_aside) th_beganOn th_beganIn th_first th_second (x_th_seenCell) (x_th_seenNight) th_seens th_above th_below (x_th_kept) th_keeps th_told p1 N o2 hF1) (cwV 1 hts gX8_cell_X8_isCell rfl rfl rfl ⟨rfl, hdX8_isCell⟩ ⟨Nat.le_of_ble_eq_true rfl, Nat.le_of_ble_eq_true rfl⟩) [0, 1] [2] [1, 2, 0] rfl rfl rfl rfl 0 8 rfl rfl rfl rfl hl.1 rfl (Nat.le_of_ble_eq_true rfl) dX8_cell_2 (fun H locs hP hD hS => ?_)
  refine lv_if_eq (tgt := 18) hx hb dX8_cell_5 (by decide) (fun hc => ?_) (fun hc => ?_)
  · have hF := ng_t hc hF
    refine lv_iconst (v := (-1 : Int32)) hx hb dX8_cell_18 (by decide) ?_
    exact hret (-1 : Int32) _ _ _ _ hF dX8_cell_19 hP hD hS
  · have hF := ng_f hc hF
    refine lv_iload_n hx hb dX8_cell_8 rfl (lv_at hl 2 rfl) ?_
    refine lv_i2l hx hb dX8_cell_9 rfl ?_
    refine lv_lconst (v := (lN 0)) hx hb dX8_cell_10 (by decide) ?_
    refine lv_lconst (v := (lN 1)) hx hb dX8_cell_11 (by decide) ?_
    obtain ⟨o12, hF1, hF⟩ := ng_b hF
    refine nx_callSi (As := [.long p2.toInt64, .long (lN 0), .long (lN 1)]) (rest := []) (W1 := [(q_th, .inr (8, [.ref q_th_told, .ref q_th_now, x_th_text, .int th_letters, .int th_at, x_th_read, .int th_isMore, .int th_told0, x_th_from, x_th_to, x_th_undone, .int th_undos, x_th_aside, .int th_beganOn, .int th_beganIn, .int th_first, .int th_second, x_th_seenCell, x_th_seenNight, .int th_seens, .int th_above, .int th_below, x_th_kept, .int th_keeps])), (q_th_told, .inl (cI, 54, .inl th_told)), (q_th_now, .inl (cI, 28, .inl th_now))]) (wr := [(q_th, .inr (8, [.ref q_th_told, .ref q_th_now, x_th_text, .int th_letters, .int th_at, x_th_read, .int th_isMore, .int th_told0, x_th_from, x_th_to, x_th_undone, .int th_undos, x_th_aside, .int th_beganOn, .int th_beganIn, .int th_first, .int th_second, x_th_seenCell, x_th_seenNight, .int th_seens, .int th_above, .int th_below, x_th_kept, .int th_keeps])), (q_th_told, .inl (cI, 54, .inl th_told)), (q_th_now, .inl (cI, 28, .inl th_now))]) S0 hK hN hA hP hD hS (kX8_in l dC dI cI _ p2.toInt64 (lN 0) (lN 1) N o12 hF1) (va_cwS 3 hts gX8_cell_X8_in rfl rfl rfl hdX8_in ⟨Nat.le_of_ble_eq_true rfl, Nat.le_of_ble_eq_true rfl⟩) [] [0, 1, 2] [0, 1, 2] rfl rfl rfl rfl rfl hl.1 rfl (Nat.le_of_ble_eq_true rfl) dX8_cell_12 (fun H locs hP hD hS => ?_)
    refine lv_if_ne (tgt := 20) hx hb dX8_cell_15 (by decide) (fun hc => ?_) (fun hc => ?_)
    · have hF := ng_f hc hF
      refine lv_iload_n hx hb dX8_cell_20 rfl (lv_at hl 2 rfl) ?_
      refine lv_if_ne (tgt := 30) hx hb dX8_cell_21 (by decide) (fun hc => ?_) (fun hc => ?_)
      · have hF := ng_f hc hF
        refine lv_aload_n hx hb dX8_cell_30 rfl (lv_at hl 0 rfl) ?_
        refine lv_iload_n hx hb dX8_cell_31 rfl (lv_at hl 1 rfl) ?_
        obtain ⟨o32, hF1, hF⟩ := ng_b hF
        refine nx_callVi (As := [.int p1]) (rest := []) (W1 := [(q_th, .inr (8, [.ref q_th_told, .ref q_th_now, x_th_text, .int th_letters, .int th_at, x_th_read, .int th_isMore, .int th_told0, x_th_from, x_th_to, x_th_undone, .int th_undos, x_th_aside, .int th_beganOn, .int th_beganIn, .int th_first, .int th_second, x_th_seenCell, x_th_seenNight, .int th_seens, .int th_above, .int th_below, x_th_kept, .int th_keeps])), (q_th_told, .inl (cI, 54, .inl th_told)), (q_th_now, .inl (cI, 28, .inl th_now))]) (wr := [(q_th_told, .inl (cI, 54, .inl th_told))]) S0 hK hN hA hP hD hS (kX8_kind l dC dI cI q_th q_th_now _ (.ref q_th_told) (x_th_text) th_letters th_at (x_th_read) th_isMore th_told0 (x_th_from) (x_th_to) (x_th_undone) th_undos (x_th_aside) th_beganOn th_beganIn th_first th_second (x_th_seenCell) (x_th_seenNight) th_seens th_above th_below (x_th_kept) th_keeps th_now p1 N o32 hF1) (cwV 1 hts gX8_cell_X8_kind rfl rfl rfl ⟨rfl, hdX8_kind⟩ ⟨Nat.le_of_ble_eq_true rfl, Nat.le_of_ble_eq_true rfl⟩) [0, 2] [1] [1, 0, 2] rfl rfl rfl rfl 0 8 rfl rfl rfl rfl hl.1 rfl (Nat.le_of_ble_eq_true rfl) dX8_cell_32 (fun H locs hP hD hS => ?_)
        refine lv_iconst (v := (nI 2)) hx hb dX8_cell_35 (by decide) ?_
        refine lv_icmp_ne (tgt := 44) hx hb dX8_cell_36 (by decide) (fun hc => ?_) (fun hc => ?_)
        · have hF := ng_f hc hF
          refine lv_aload_n hx hb dX8_cell_44 rfl (lv_at hl 0 rfl) ?_
          refine lv_iload_n hx hb dX8_cell_45 rfl (lv_at hl 1 rfl) ?_
          refine lv_aload_n hx hb dX8_cell_46 rfl (lv_at hl 0 rfl) ?_
          refine lv_aload_n hx hb dX8_cell_47 rfl (lv_at hl 0 rfl) ?_
          refine nx_get S0 hK hP 0 1 hin_X8 hf_13 rfl rfl (by decide) rfl rfl dX8_cell_48 ?_
          refine lv_iconst (v := (nI 0)) hx hb dX8_cell_51 (by decide) ?_
          refine nx_iald S0 hK hP 2 (v := th_now 0) rfl (by decide) rfl dX8_cell_52 ?_
          obtain ⟨o53, hF1, hF⟩ := ng_b hF
          refine nx_callVi (As := [.int (th_now 0)]) (rest := [.int p1, .ref q_th]) (W1 := [(q_th, .inr (8, [.ref q_th_told, .ref q_th_now, x_th_text, .int th_letters, .int th_at, x_th_read, .int th_isMore, .int th_told0, x_th_from, x_th_to, x_th_undone, .int th_undos, x_th_aside, .int th_beganOn, .int th_beganIn, .int th_first, .int th_second, x_th_seenCell, x_th_seenNight, .int th_seens, .int th_above, .int th_below, x_th_kept, .int th_keeps])), (q_th_told, .inl (cI, 54, .inl th_told)), (q_th_now, .inl (cI, 28, .inl th_now))]) (wr := [(q_th_now, .inl (cI, 28, .inl th_now))]) S0 hK hN hA hP hD hS (kX8_dampOf l dC dI cI q_th q_th_told _ (.ref q_th_now) (x_th_text) th_letters th_at (x_th_read) th_isMore th_told0 (x_th_from) (x_th_to) (x_th_undone) th_undos (x_th_aside) th_beganOn th_beganIn th_first th_second (x_th_seenCell) (x_th_seenNight) th_seens th_above th_below (x_th_kept) th_keeps th_told (th_now 0) N o53 hF1) (cwV 1 hts gX8_cell_X8_dampOf rfl rfl rfl ⟨rfl, hdX8_dampOf⟩ ⟨Nat.le_of_ble_eq_true rfl, Nat.le_of_ble_eq_true rfl⟩) [0, 1] [2] [1, 2, 0] rfl rfl rfl rfl 0 8 rfl rfl rfl rfl hl.1 rfl (Nat.le_of_ble_eq_true rfl) dX8_cell_53 (fun H locs hP hD hS => ?_)
          refine lv_iconst (v := (nI 3)) hx hb dX8_cell_56 (by decide) ?_
          have B_65 : ∀ (s2_65 : Int32), fX8_cell_65 N p1 th_now s2_65 = some o → ∀ (H : Heap) (locs : List Loc) (ls : Array Slot), va_P (dC, dI) vwCl [(q_th, .inr (8, [.ref q_th_told, .ref q_th_now, x_th_text, .int th_letters, .int th_at, x_th_read, .int th_isMore, .int th_told0, x_th_from, x_th_to, x_th_undone, .int th_undos, x_th_aside, .int th_beganOn, .int th_beganIn, .int th_first, .int th_second, x_th_seenCell, x_th_seenNight, .int th_seens, .int th_above, .int th_below, x_th_kept, .int th_keeps])), (q_th_told, .inl (cI, 54, .inl th_told)), (q_th_now, .inl (cI, 28, .inl th_now))] H → va_D A [(q_th, .inr (8, [.ref q_th_told, .ref q_th_now, x_th_text, .int th_letters, .int th_at, x_th_read, .int th_isMore, .int th_told0, x_th_from, x_th_to, x_th_undone, .int th_undos, x_th_aside, .int th_beganOn, .int th_beganIn, .int th_first, .int th_second, x_th_seenCell, x_th_seenNight, .int th_seens, .int th_above, .int th_below, x_th_kept, .int th_keeps])), (q_th_told, .inl (cI, 54, .inl th_told)), (q_th_now, .inl (cI, 28, .inl th_now))] → va_S A s.heap H locs → lv_has ls 3 [] → W p l e ({ frames := 2, cells := 0, slots := 0, locals := 46 } : Room) s m args below meth c H locs 0 0 Q (F0 m 65 ls [.int s2_65, .int p1, .ref q_th]) := by
            intro s2_65 hF H locs ls hP hD hS hl
            rw [fX8_cell_65_e] at hF
            obtain ⟨o65, hF1, hF⟩ := ng_b hF
            refine nx_callVi (As := [.int p1, .int s2_65]) (rest := []) (W1 := [(q_th, .inr (8, [.ref q_th_told, .ref q_th_now, x_th_text, .int th_letters, .int th_at, x_th_read, .int th_isMore, .int th_told0, x_th_from, x_th_to, x_th_undone, .int th_undos, x_th_aside, .int th_beganOn, .int th_beganIn, .int th_first, .int th_second, x_th_seenCell, x_th_seenNight, .int th_seens, .int th_above, .int th_below, x_th_kept, .int th_keeps])), (q_th_told, .inl (cI, 54, .inl th_told)), (q_th_now, .inl (cI, 28, .inl th_now))]) (wr := [(q_th_told, .inl (cI, 54, .inl th_told))]) S0 hK hN hA hP hD hS (kX8_into l dC dI cI q_th q_th_now _ (.ref q_th_told) (x_th_text) th_letters th_at (x_th_read) th_isMore th_told0 (x_th_from) (x_th_to) (x_th_undone) th_undos (x_th_aside) th_beganOn th_beganIn th_first th_second (x_th_seenCell) (x_th_seenNight) th_seens th_above th_below (x_th_kept) th_keeps th_now p1 s2_65 N o65 hF1) (cwV 2 hts gX8_cell_X8_into rfl rfl rfl ⟨rfl, hdX8_into⟩ ⟨Nat.le_of_ble_eq_true rfl, Nat.le_of_ble_eq_true rfl⟩) [0, 2] [1] [1, 0, 2] rfl rfl rfl rfl 0 8 rfl rfl rfl rfl hl.1 rfl (Nat.le_of_ble_eq_true rfl) dX8_cell_65 (fun H locs hP hD hS => ?_)
            exact hret o65 _ _ _ _ hF dX8_cell_68 hP hD hS
          refine lv_icmp_ge (tgt := 64) hx hb dX8_cell_57 (by decide) (fun hc => ?_) (fun hc => ?_)
          · have hF := ng_t hc hF
            refine lv_iconst (v := (nI 2)) hx hb dX8_cell_64 (by decide) ?_
            exact B_65 (nI 2) hF _ _ _ hP hD hS (lv_sub hl [] rfl)
          · have hF := ng_f hc hF
            refine lv_iconst (v := (nI 1)) hx hb dX8_cell_60 (by decide) ?_
            refine lv_goto (tgt := 65) hx hb dX8_cell_61 (by decide) ?_
            exact B_65 (nI 1) hF _ _ _ hP hD hS (lv_sub hl [] rfl)
        · have hF := ng_t hc hF
          refine lv_bipush (v := (-4 : Int32)) hx hb dX8_cell_39 (by decide) ?_
          refine lv_goto (tgt := 68) hx hb dX8_cell_41 (by decide) ?_
          exact hret (-4 : Int32) _ _ _ _ hF dX8_cell_68 hP hD hS
      · have hF := ng_t hc hF
        refine lv_aload_n hx hb dX8_cell_24 rfl (lv_at hl 0 rfl) ?_
        refine lv_iload_n hx hb dX8_cell_25 rfl (lv_at hl 1 rfl) ?_
        obtain ⟨o26, hF1, hF⟩ := ng_b hF
        refine nx_callVi (As := [.int p1]) (rest := []) (W1 := [(q_th, .inr (8, [.ref q_th_told, .ref q_th_now, x_th_text, .int th_letters, .int th_at, x_th_read, .int th_isMore, .int th_told0, x_th_from, x_th_to, x_th_undone, .int th_undos, x_th_aside, .int th_beganOn, .int th_beganIn, .int th_first, .int th_second, x_th_seenCell, x_th_seenNight, .int th_seens, .int th_above, .int th_below, x_th_kept, .int th_keeps])), (q_th_told, .inl (cI, 54, .inl th_told)), (q_th_now, .inl (cI, 28, .inl th_now))]) (wr := [(q_th_told, .inl (cI, 54, .inl th_told))]) S0 hK hN hA hP hD hS (kX8_kind l dC dI cI q_th q_th_now _ (.ref q_th_told) (x_th_text) th_letters th_at (x_th_read) th_isMore th_told0 (x_th_from) (x_th_to) (x_th_undone) th_undos (x_th_aside) th_beganOn th_beganIn th_first th_second (x_th_seenCell) (x_th_seenNight) th_seens th_above th_below (x_th_kept) th_keeps th_now p1 N o26 hF1) (cwV 1 hts gX8_cell_X8_kind rfl rfl rfl ⟨rfl, hdX8_kind⟩ ⟨Nat.le_of_ble_eq_true rfl, Nat.le_of_ble_eq_true rfl⟩) [0, 2] [1] [1, 0, 2] rfl rfl rfl rfl 0 8 rfl rfl rfl rfl hl.1 rfl (Nat.le_of_ble_eq_true rfl) dX8_cell_26 (fun H locs hP hD hS => ?_)
        exact hret o26 _ _ _ _ hF dX8_cell_29 hP hD hS
    · have hF := ng_t hc hF
      refine lv_iconst (v := (-1 : Int32)) hx hb dX8_cell_18 (by decide) ?_
      exact hret (-1 : Int32) _ _ _ _ hF dX8_cell_19 hP hD hS
theorem hdX8_damp : yX8_damp.cls ≠ "java/lang/invoke/MethodHandle" ∧ yX8_damp.cls ≠ "java/lang/invoke/VarHandle" ∧ (parseMethodDescriptor yX8_damp.desc).map (fun d => d.parameters.length) = some 1 := by decide +kernel
set_option maxHeartbeats 40000000 in
set_option maxRecDepth 100000 in
theorem kX8_damp (l : Launch) (dC : Nat → ClassId) (dI : Nat → Nat → Nat) (cI : ClassId) (q_th : Nat) (q_th_told : Nat) (sz : Nat) (x_th_now : Value) (x_th_text : Value) (th_letters : Int32) (th_at : Int32) (x_th_read : Value) (th_isMore : Int32) (th_told0 : Int32) (x_th_from : Value) (x_th_to : Value) (x_th_undone : Value) (th_undos : Int32) (x_th_aside : Value) (th_beganOn : Int32) (th_beganIn : Int32) (th_first : Int32) (th_second : Int32) (x_th_seenCell : Value) (x_th_seenNight : Value) (th_seens : Int32) (th_above : Int32) (th_below : Int32) (x_th_kept : Value) (th_keeps : Int32) (th_told : Nat → Int32) (p1 : Int32) (N : Nat) (o : Int32) (hF : fX8_damp N p1 th_told = some o) : nx_I l yX8_damp wsX8_damp ({ frames := 1, cells := 0, slots := 0, locals := 25 } : Room) (dC, dI) cI [.ref q_th, .int p1] [(q_th, .inr (8, [.ref q_th_told, x_th_now, x_th_text, .int th_letters, .int th_at, x_th_read, .int th_isMore, .int th_told0, x_th_from, x_th_to, x_th_undone, .int th_undos, x_th_aside, .int th_beganOn, .int th_beganIn, .int th_first, .int th_second, x_th_seenCell, x_th_seenNight, .int th_seens, .int th_above, .int th_below, x_th_kept, .int th_keeps])), (q_th_told, .inl (cI, 54, .inl th_told))] sz o [(q_th, .inr (8, [.ref q_th_told, x_th_now, x_th_text, .int th_letters, .int th_at, x_th_read, .int th_isMore, .int th_told0, x_th_from, x_th_to, x_th_undone, .int th_undos, x_th_aside, .int th_beganOn, .int th_beganIn, .int th_first, .int th_second, x_th_seenCell, x_th_seenNight, .int th_seens, .int th_above, .int th_below, x_th_kept, .int th_keeps])), (q_th_told, .inl (cI, 54, .inl th_told))] := by
  refine nx_int (cc := cX8_damp) (maxL := 2) (by decide) rfl (Nat.le_of_ble_eq_true rfl) ?_
  intro p e s m args below meth c Q A S0 hK hN hA ret0 hP hD hS ls hl
  have S0 : CallFix p m c cX8_damp 2 s args wsX8_damp RX8 := S0
  have hx := S0.1
  have hb := S0.2.1
  have hown := S0.2.2.2.1
  have hts := S0.2.2.2.2
  have hl : lv_has ls 2 [(0, .ref q_th), (1, .int p1)] := hl
  have hret : ∀ (r0 : Int32) (H : Heap) (locs : List Loc) (ls : Array Slot) (pc : Nat), some r0 = some o → decode cX8_damp pc = .ok (.ireturn, 1) → va_P (dC, dI) vwCl [(q_th, .inr (8, [.ref q_th_told, x_th_now, x_th_text, .int th_letters, .int th_at, x_th_read, .int th_isMore, .int th_told0, x_th_from, x_th_to, x_th_undone, .int th_undos, x_th_aside, .int th_beganOn, .int th_beganIn, .int th_first, .int th_second, x_th_seenCell, x_th_seenNight, .int th_seens, .int th_above, .int th_below, x_th_kept, .int th_keeps])), (q_th_told, .inl (cI, 54, .inl th_told))] H → va_D A [(q_th, .inr (8, [.ref q_th_told, x_th_now, x_th_text, .int th_letters, .int th_at, x_th_read, .int th_isMore, .int th_told0, x_th_from, x_th_to, x_th_undone, .int th_undos, x_th_aside, .int th_beganOn, .int th_beganIn, .int th_first, .int th_second, x_th_seenCell, x_th_seenNight, .int th_seens, .int th_above, .int th_below, x_th_kept, .int th_keeps])), (q_th_told, .inl (cI, 54, .inl th_told))] → va_S A s.heap H locs → W p l e ({ frames := 1, cells := 0, slots := 0, locals := 25 } : Room) s m args below meth c H locs 0 0 Q (F0 m pc ls [.int r0]) := by
    intro r0 H locs ls pc ho hd hP hD hS
    cases ho
    exact ret0 H locs ls pc hd hP hD hS
  rw [fX8_damp_e] at hF
  refine lv_iload_n hx hb dX8_damp_0 rfl (lv_at hl 1 rfl) ?_
  refine lv_i2l hx hb dX8_damp_1 rfl ?_
  refine lv_lconst (v := (lN 0)) hx hb dX8_damp_2 (by decide) ?_
  refine lv_ldc2 (v := (lN 999)) hx hb hown (hts (.constantLong RX8 149 999) (by decide +kernel)) dX8_damp_3 ?_
  obtain ⟨o6, hF1, hF⟩ := ng_b hF
  refine nx_callSi (As := [.long p1.toInt64, .long (lN 0), .long (lN 999)]) (rest := []) (W1 := [(q_th, .inr (8, [.ref q_th_told, x_th_now, x_th_text, .int th_letters, .int th_at, x_th_read, .int th_isMore, .int th_told0, x_th_from, x_th_to, x_th_undone, .int th_undos, x_th_aside, .int th_beganOn, .int th_beganIn, .int th_first, .int th_second, x_th_seenCell, x_th_seenNight, .int th_seens, .int th_above, .int th_below, x_th_kept, .int th_keeps])), (q_th_told, .inl (cI, 54, .inl th_told))]) (wr := [(q_th, .inr (8, [.ref q_th_told, x_th_now, x_th_text, .int th_letters, .int th_at, x_th_read, .int th_isMore, .int th_told0, x_th_from, x_th_to, x_th_undone, .int th_undos, x_th_aside, .int th_beganOn, .int th_beganIn, .int th_first, .int th_second, x_th_seenCell, x_th_seenNight, .int th_seens, .int th_above, .int th_below, x_th_kept, .int th_keeps])), (q_th_told, .inl (cI, 54, .inl th_told))]) S0 hK hN hA hP hD hS (kX8_in l dC dI cI _ p1.toInt64 (lN 0) (lN 999) N o6 hF1) (va_cwS 3 hts gX8_damp_X8_in rfl rfl rfl hdX8_in ⟨Nat.le_of_ble_eq_true rfl, Nat.le_of_ble_eq_true rfl⟩) [] [0, 1] [0, 1] rfl rfl rfl rfl rfl hl.1 rfl (Nat.le_of_ble_eq_true rfl) dX8_damp_6 (fun H locs hP hD hS => ?_)
  refine lv_if_eq (tgt := 20) hx hb dX8_damp_9 (by decide) (fun hc => ?_) (fun hc => ?_)
  · have hF := ng_t hc hF
    refine lv_iconst (v := (-1 : Int32)) hx hb dX8_damp_20 (by decide) ?_
    exact hret (-1 : Int32) _ _ _ _ hF dX8_damp_21 hP hD hS
  · have hF := ng_f hc hF
    refine lv_aload_n hx hb dX8_damp_12 rfl (lv_at hl 0 rfl) ?_
    refine lv_iload_n hx hb dX8_damp_13 rfl (lv_at hl 1 rfl) ?_
    obtain ⟨o14, hF1, hF⟩ := ng_b hF
    refine nx_callVi (As := [.int p1]) (rest := []) (W1 := [(q_th, .inr (8, [.ref q_th_told, x_th_now, x_th_text, .int th_letters, .int th_at, x_th_read, .int th_isMore, .int th_told0, x_th_from, x_th_to, x_th_undone, .int th_undos, x_th_aside, .int th_beganOn, .int th_beganIn, .int th_first, .int th_second, x_th_seenCell, x_th_seenNight, .int th_seens, .int th_above, .int th_below, x_th_kept, .int th_keeps])), (q_th_told, .inl (cI, 54, .inl th_told))]) (wr := []) S0 hK hN hA hP hD hS (kX8_dampOf l dC dI cI q_th q_th_told _ (x_th_now) (x_th_text) th_letters th_at (x_th_read) th_isMore th_told0 (x_th_from) (x_th_to) (x_th_undone) th_undos (x_th_aside) th_beganOn th_beganIn th_first th_second (x_th_seenCell) (x_th_seenNight) th_seens th_above th_below (x_th_kept) th_keeps th_told p1 N o14 hF1) (cwV 1 hts gX8_damp_X8_dampOf rfl rfl rfl ⟨rfl, hdX8_dampOf⟩ ⟨Nat.le_of_ble_eq_true rfl, Nat.le_of_ble_eq_true rfl⟩) [0, 1] [] [0, 1] rfl rfl rfl rfl 0 8 rfl rfl rfl rfl hl.1 rfl (Nat.le_of_ble_eq_true rfl) dX8_damp_14 (fun H locs hP hD hS => ?_)
    refine lv_goto (tgt := 21) hx hb dX8_damp_17 (by decide) ?_
    exact hret o14 _ _ _ _ hF dX8_damp_21 hP hD hS
theorem hdX8_notes : yX8_notes.cls ≠ "java/lang/invoke/MethodHandle" ∧ yX8_notes.cls ≠ "java/lang/invoke/VarHandle" ∧ (parseMethodDescriptor yX8_notes.desc).map (fun d => d.parameters.length) = some 0 := by decide +kernel
set_option maxHeartbeats 40000000 in
set_option maxRecDepth 100000 in
theorem kX8_notes (l : Launch) (dC : Nat → ClassId) (dI : Nat → Nat → Nat) (cI : ClassId) (q_th : Nat) (q_th_undone : Nat) (q_th_now : Nat) (sz : Nat) (x_th_told : Value) (x_th_text : Value) (th_letters : Int32) (th_at : Int32) (x_th_read : Value) (th_isMore : Int32) (th_told0 : Int32) (x_th_from : Value) (x_th_to : Value) (th_undos : Int32) (x_th_aside : Value) (th_beganOn : Int32) (th_beganIn : Int32) (th_first : Int32) (th_second : Int32) (x_th_seenCell : Value) (x_th_seenNight : Value) (th_seens : Int32) (th_above : Int32) (th_below : Int32) (x_th_kept : Value) (th_keeps : Int32) (th_undone : Nat → Int32) (th_now : Nat → Int32) (N : Nat) (o : Int32 × (Nat → Int32)) (hF : fX8_notes N th_undos th_undone th_now = some o) : nx_V l yX8_notes wsX8_notes ({ frames := 0, cells := 0, slots := 0, locals := 0 } : Room) (dC, dI) cI [.ref q_th] [(q_th, .inr (8, [x_th_told, .ref q_th_now, x_th_text, .int th_letters, .int th_at, x_th_read, .int th_isMore, .int th_told0, x_th_from, x_th_to, .ref q_th_undone, .int th_undos, x_th_aside, .int th_beganOn, .int th_beganIn, .int th_first, .int th_second, x_th_seenCell, x_th_seenNight, .int th_seens, .int th_above, .int th_below, x_th_kept, .int th_keeps])), (q_th_undone, .inl (cI, 224, .inl th_undone)), (q_th_now, .inl (cI, 28, .inl th_now))] sz [(q_th, .inr (8, [x_th_told, .ref q_th_now, x_th_text, .int th_letters, .int th_at, x_th_read, .int th_isMore, .int th_told0, x_th_from, x_th_to, .ref q_th_undone, .int o.1, x_th_aside, .int th_beganOn, .int th_beganIn, .int th_first, .int th_second, x_th_seenCell, x_th_seenNight, .int th_seens, .int th_above, .int th_below, x_th_kept, .int th_keeps])), (q_th_undone, .inl (cI, 224, .inl o.2)), (q_th_now, .inl (cI, 28, .inl th_now))] := by
  refine nx_void (cc := cX8_notes) (maxL := 2) (by decide) rfl (Nat.le_of_ble_eq_true rfl) ?_
  intro p e s m args below meth c Q A S0 hK hN hA ret0 hP hD hS ls hl
  have S0 : CallFix p m c cX8_notes 2 s args wsX8_notes RX8 := S0
  have hx := S0.1
  have hb := S0.2.1
  have hown := S0.2.2.2.1
  have hts := S0.2.2.2.2
  have hf_109 := hts (.fieldLink RX8 109 "SnailsYearModel" "undos" "I") (by decide +kernel)
  have hin_X8 : ∀ w ∈ wsX80, w ∈ wsX8_notes := by decide +kernel
  have hf_28 := hts (.fieldLink RX8 28 "SnailsYearModel" "undone" "[I") (by decide +kernel)
  have hf_13 := hts (.fieldLink RX8 13 "SnailsYearModel" "now" "[I") (by decide +kernel)
  have hl : lv_has ls 2 [(0, .ref q_th)] := hl
  have hret : ∀ (y0 : Int32) (y1 : Nat → Int32) (H : Heap) (locs : List Loc) (ls : Array Slot) (pc : Nat), some (y0, y1) = some o → decode cX8_notes pc = .ok (.return_, 1) → va_P (dC, dI) vwCl [(q_th, .inr (8, [x_th_told, .ref q_th_now, x_th_text, .int th_letters, .int th_at, x_th_read, .int th_isMore, .int th_told0, x_th_from, x_th_to, .ref q_th_undone, .int y0, x_th_aside, .int th_beganOn, .int th_beganIn, .int th_first, .int th_second, x_th_seenCell, x_th_seenNight, .int th_seens, .int th_above, .int th_below, x_th_kept, .int th_keeps])), (q_th_undone, .inl (cI, 224, .inl y1)), (q_th_now, .inl (cI, 28, .inl th_now))] H → va_D A [(q_th, .inr (8, [x_th_told, .ref q_th_now, x_th_text, .int th_letters, .int th_at, x_th_read, .int th_isMore, .int th_told0, x_th_from, x_th_to, .ref q_th_undone, .int y0, x_th_aside, .int th_beganOn, .int th_beganIn, .int th_first, .int th_second, x_th_seenCell, x_th_seenNight, .int th_seens, .int th_above, .int th_below, x_th_kept, .int th_keeps])), (q_th_undone, .inl (cI, 224, .inl y1)), (q_th_now, .inl (cI, 28, .inl th_now))] → va_S A s.heap H locs → W p l e ({ frames := 0, cells := 0, slots := 0, locals := 0 } : Room) s m args below meth c H locs 0 0 Q (F0 m pc ls []) := by
    intro y0 y1 H locs ls pc ho hd hP hD hS
    cases ho
    exact ret0 H locs ls pc hd hP hD hS
  rw [fX8_notes_e] at hF
  refine lv_aload_n hx hb dX8_notes_0 rfl (lv_at hl 0 rfl) ?_
  refine nx_get S0 hK hP 0 11 hin_X8 hf_109 rfl rfl (by decide) rfl rfl dX8_notes_1 ?_
  refine lv_bipush (v := (nI 8)) hx hb dX8_notes_4 (by decide) ?_
  have B_46 : ∀ (th_undos_46 : Int32) (th_undone_46 : Nat → Int32), fX8_notes_46 N th_now th_undos_46 th_undone_46 = some o → ∀ (H : Heap) (locs : List Loc) (ls : Array Slot), va_P (dC, dI) vwCl [(q_th, .inr (8, [x_th_told, .ref q_th_now, x_th_text, .int th_letters, .int th_at, x_th_read, .int th_isMore, .int th_told0, x_th_from, x_th_to, .ref q_th_undone, .int th_undos_46, x_th_aside, .int th_beganOn, .int th_beganIn, .int th_first, .int th_second, x_th_seenCell, x_th_seenNight, .int th_seens, .int th_above, .int th_below, x_th_kept, .int th_keeps])), (q_th_undone, .inl (cI, 224, .inl th_undone_46)), (q_th_now, .inl (cI, 28, .inl th_now))] H → va_D A [(q_th, .inr (8, [x_th_told, .ref q_th_now, x_th_text, .int th_letters, .int th_at, x_th_read, .int th_isMore, .int th_told0, x_th_from, x_th_to, .ref q_th_undone, .int th_undos_46, x_th_aside, .int th_beganOn, .int th_beganIn, .int th_first, .int th_second, x_th_seenCell, x_th_seenNight, .int th_seens, .int th_above, .int th_below, x_th_kept, .int th_keeps])), (q_th_undone, .inl (cI, 224, .inl th_undone_46)), (q_th_now, .inl (cI, 28, .inl th_now))] → va_S A s.heap H locs → lv_has ls 2 [(0, .ref q_th)] → W p l e ({ frames := 0, cells := 0, slots := 0, locals := 0 } : Room) s m args below meth c H locs 0 0 Q (F0 m 46 ls []) := by
    intro th_undos_46 th_undone_46 hF H locs ls hP hD hS hl
    rw [fX8_notes_46_e] at hF
    refine lv_iconst (v := (nI 0)) hx hb dX8_notes_46 (by decide) ?_
    have B_48 : ∀ (n_48 : Nat) (v1_48 : Int32) (th_undone_48 : Nat → Int32), fX8_notes_48 th_now th_undos_46 n_48 v1_48 th_undone_48 = some o → ∀ (H : Heap) (locs : List Loc) (ls : Array Slot), va_P (dC, dI) vwCl [(q_th, .inr (8, [x_th_told, .ref q_th_now, x_th_text, .int th_letters, .int th_at, x_th_read, .int th_isMore, .int th_told0, x_th_from, x_th_to, .ref q_th_undone, .int th_undos_46, x_th_aside, .int th_beganOn, .int th_beganIn, .int th_first, .int th_second, x_th_seenCell, x_th_seenNight, .int th_seens, .int th_above, .int th_below, x_th_kept, .int th_keeps])), (q_th_undone, .inl (cI, 224, .inl th_undone_48)), (q_th_now, .inl (cI, 28, .inl th_now))] H → va_D A [(q_th, .inr (8, [x_th_told, .ref q_th_now, x_th_text, .int th_letters, .int th_at, x_th_read, .int th_isMore, .int th_told0, x_th_from, x_th_to, .ref q_th_undone, .int th_undos_46, x_th_aside, .int th_beganOn, .int th_beganIn, .int th_first, .int th_second, x_th_seenCell, x_th_seenNight, .int th_seens, .int th_above, .int th_below, x_th_kept, .int th_keeps])), (q_th_undone, .inl (cI, 224, .inl th_undone_48)), (q_th_now, .inl (cI, 28, .inl th_now))] → va_S A s.heap H locs → lv_has ls 2 [(0, .ref q_th), (1, .int v1_48)] → W p l e ({ frames := 0, cells := 0, slots := 0, locals := 0 } : Room) s m args below meth c H locs 0 0 Q (F0 m 48 ls []) := by
      intro n_48
      induction n_48 with
      | zero =>
        intro v1_48 th_undone_48 hF
        rw [fX8_notes_48_z] at hF
        cases hF
      | succ n_48 ih_48 =>
        intro v1_48 th_undone_48 hF H locs ls hP hD hS hl
        rw [fX8_notes_48_s] at hF
        refine lv_iload_n hx hb dX8_notes_48 rfl (lv_at hl 1 rfl) ?_
        refine lv_bipush (v := (nI 28)) hx hb dX8_notes_49 (by decide) ?_
        refine lv_icmp_ge (tgt := 80) hx hb dX8_notes_51 (by decide) (fun hc => ?_) (fun hc => ?_)
        · have hF := ng_t hc hF
          refine lv_aload_n hx hb dX8_notes_80 rfl (lv_at hl 0 rfl) ?_
          refine lv_dup hx hb dX8_notes_81 rfl ?_
          refine nx_get S0 hK hP 0 11 hin_X8 hf_109 rfl rfl (by decide) rfl rfl dX8_notes_82 ?_
          refine lv_iconst (v := (nI 1)) hx hb dX8_notes_85 (by decide) ?_
          refine lv_iadd hx hb dX8_notes_86 ?_
          refine nx_put S0 hK hP hD hS 0 11 hin_X8 tyX8 tyX8_ok nmX8 hf_109 rfl rfl (by decide) rfl rfl rfl rfl (Nat.le_of_ble_eq_true rfl) dX8_notes_87 (W1 := [(q_th, .inr (8, [x_th_told, .ref q_th_now, x_th_text, .int th_letters, .int th_at, x_th_read, .int th_isMore, .int th_told0, x_th_from, x_th_to, .ref q_th_undone, .int (th_undos_46 + (nI 1)), x_th_aside, .int th_beganOn, .int th_beganIn, .int th_first, .int th_second, x_th_seenCell, x_th_seenNight, .int th_seens, .int th_above, .int th_below, x_th_kept, .int th_keeps])), (q_th_undone, .inl (cI, 224, .inl th_undone_48)), (q_th_now, .inl (cI, 28, .inl th_now))]) rfl (fun H locs hP hD hS => ?_)
          exact hret (th_undos_46 + (nI 1)) th_undone_48 _ _ _ _ hF dX8_notes_90 hP hD hS
        · have hF := ng_f hc hF
          refine lv_aload_n hx hb dX8_notes_54 rfl (lv_at hl 0 rfl) ?_
          refine nx_get S0 hK hP 0 10 hin_X8 hf_28 rfl rfl (by decide) rfl rfl dX8_notes_55 ?_
          refine lv_bipush (v := (nI 28)) hx hb dX8_notes_58 (by decide) ?_
          refine lv_aload_n hx hb dX8_notes_60 rfl (lv_at hl 0 rfl) ?_
          refine nx_get S0 hK hP 0 11 hin_X8 hf_109 rfl rfl (by decide) rfl rfl dX8_notes_61 ?_
          refine lv_imul hx hb dX8_notes_64 ?_
          refine lv_iload_n hx hb dX8_notes_65 rfl (lv_at hl 1 rfl) ?_
          refine lv_iadd hx hb dX8_notes_66 ?_
          refine lv_aload_n hx hb dX8_notes_67 rfl (lv_at hl 0 rfl) ?_
          refine nx_get S0 hK hP 0 1 hin_X8 hf_13 rfl rfl (by decide) rfl rfl dX8_notes_68 ?_
          refine lv_iload_n hx hb dX8_notes_71 rfl (lv_at hl 1 rfl) ?_
          have hg := ng_p hF
          have hF := ng_x hF
          refine nx_iald S0 hK hP 2 (v := th_now v1_48.toNatClampNeg) rfl hg rfl dX8_notes_72 ?_
          have hg := ng_p hF
          have hF := ng_x hF
          refine nx_iast S0 hK hP hD hS 1 rfl hg dX8_notes_73 (W1 := [(q_th, .inr (8, [x_th_told, .ref q_th_now, x_th_text, .int th_letters, .int th_at, x_th_read, .int th_isMore, .int th_told0, x_th_from, x_th_to, .ref q_th_undone, .int th_undos_46, x_th_aside, .int th_beganOn, .int th_beganIn, .int th_first, .int th_second, x_th_seenCell, x_th_seenNight, .int th_seens, .int th_above, .int th_below, x_th_kept, .int th_keeps])), (q_th_undone, .inl (cI, 224, .inl (upd th_undone_48 ((((nI 28) * th_undos_46) + v1_48).toNatClampNeg) (th_now v1_48.toNatClampNeg)))), (q_th_now, .inl (cI, 28, .inl th_now))]) rfl (fun H locs hP hD hS => ?_)
          refine lv_iinc (v := v1_48 + (nI 1)) (lv' := [(1, .int (v1_48 + (nI 1))), (0, .ref q_th)]) hx hb dX8_notes_74 hl (k := 1) rfl rfl (by decide) rfl (fun ls hl => ?_)
          refine lv_goto (tgt := 48) hx hb dX8_notes_77 (by decide) ?_
          exact ih_48 (v1_48 + (nI 1)) (upd th_undone_48 ((((nI 28) * th_undos_46) + v1_48).toNatClampNeg) (th_now v1_48.toNatClampNeg)) hF _ _ _ hP hD hS (lv_sub hl [1, 0] rfl)
    refine lv_istore_n (lv' := [(1, .int (nI 0)), (0, .ref q_th)]) hx hb dX8_notes_47 rfl hl (by decide) rfl (fun ls hl => ?_)
    exact B_48 N (nI 0) th_undone_46 hF _ _ _ hP hD hS (lv_sub hl [1, 0] rfl)
  refine lv_icmp_ne (tgt := 46) hx hb dX8_notes_6 (by decide) (fun hc => ?_) (fun hc => ?_)
  · have hF := ng_f hc hF
    exact B_46 th_undos th_undone hF _ _ _ hP hD hS (lv_sub hl [0] rfl)
  · have hF := ng_t hc hF
    refine lv_bipush (v := (nI 28)) hx hb dX8_notes_9 (by decide) ?_
    have B_12 : ∀ (n_12 : Nat) (v1_12 : Int32) (th_undone_12 : Nat → Int32), fX8_notes_12 N th_now n_12 v1_12 th_undone_12 = some o → ∀ (H : Heap) (locs : List Loc) (ls : Array Slot), va_P (dC, dI) vwCl [(q_th, .inr (8, [x_th_told, .ref q_th_now, x_th_text, .int th_letters, .int th_at, x_th_read, .int th_isMore, .int th_told0, x_th_from, x_th_to, .ref q_th_undone, .int th_undos, x_th_aside, .int th_beganOn, .int th_beganIn, .int th_first, .int th_second, x_th_seenCell, x_th_seenNight, .int th_seens, .int th_above, .int th_below, x_th_kept, .int th_keeps])), (q_th_undone, .inl (cI, 224, .inl th_undone_12)), (q_th_now, .inl (cI, 28, .inl th_now))] H → va_D A [(q_th, .inr (8, [x_th_told, .ref q_th_now, x_th_text, .int th_letters, .int th_at, x_th_read, .int th_isMore, .int th_told0, x_th_from, x_th_to, .ref q_th_undone, .int th_undos, x_th_aside, .int th_beganOn, .int th_beganIn, .int th_first, .int th_second, x_th_seenCell, x_th_seenNight, .int th_seens, .int th_above, .int th_below, x_th_kept, .int th_keeps])), (q_th_undone, .inl (cI, 224, .inl th_undone_12)), (q_th_now, .inl (cI, 28, .inl th_now))] → va_S A s.heap H locs → lv_has ls 2 [(0, .ref q_th), (1, .int v1_12)] → W p l e ({ frames := 0, cells := 0, slots := 0, locals := 0 } : Room) s m args below meth c H locs 0 0 Q (F0 m 12 ls []) := by
      intro n_12
      induction n_12 with
      | zero =>
        intro v1_12 th_undone_12 hF
        rw [fX8_notes_12_z] at hF
        cases hF
      | succ n_12 ih_12 =>
        intro v1_12 th_undone_12 hF H locs ls hP hD hS hl
        rw [fX8_notes_12_s] at hF
        refine lv_iload_n hx hb dX8_notes_12 rfl (lv_at hl 1 rfl) ?_
        refine lv_sipush (v := (nI 224)) hx hb dX8_notes_13 (by decide) ?_
        refine lv_icmp_ge (tgt := 40) hx hb dX8_notes_16 (by decide) (fun hc => ?_) (fun hc => ?_)
        · have hF := ng_t hc hF
          refine lv_aload_n hx hb dX8_notes_40 rfl (lv_at hl 0 rfl) ?_
          refine lv_bipush (v := (nI 7)) hx hb dX8_notes_41 (by decide) ?_
          refine nx_put S0 hK hP hD hS 0 11 hin_X8 tyX8 tyX8_ok nmX8 hf_109 rfl rfl (by decide) rfl rfl rfl rfl (Nat.le_of_ble_eq_true rfl) dX8_notes_43 (W1 := [(q_th, .inr (8, [x_th_told, .ref q_th_now, x_th_text, .int th_letters, .int th_at, x_th_read, .int th_isMore, .int th_told0, x_th_from, x_th_to, .ref q_th_undone, .int (nI 7), x_th_aside, .int th_beganOn, .int th_beganIn, .int th_first, .int th_second, x_th_seenCell, x_th_seenNight, .int th_seens, .int th_above, .int th_below, x_th_kept, .int th_keeps])), (q_th_undone, .inl (cI, 224, .inl th_undone_12)), (q_th_now, .inl (cI, 28, .inl th_now))]) rfl (fun H locs hP hD hS => ?_)
          exact B_46 (nI 7) th_undone_12 hF _ _ _ hP hD hS (lv_sub hl [0] rfl)
        · have hF := ng_f hc hF
          refine lv_aload_n hx hb dX8_notes_19 rfl (lv_at hl 0 rfl) ?_
          refine nx_get S0 hK hP 0 10 hin_X8 hf_28 rfl rfl (by decide) rfl rfl dX8_notes_20 ?_
          refine lv_iload_n hx hb dX8_notes_23 rfl (lv_at hl 1 rfl) ?_
          refine lv_bipush (v := (nI 28)) hx hb dX8_notes_24 (by decide) ?_
          refine lv_isub hx hb dX8_notes_26 ?_
          refine lv_aload_n hx hb dX8_notes_27 rfl (lv_at hl 0 rfl) ?_
          refine nx_get S0 hK hP 0 10 hin_X8 hf_28 rfl rfl (by decide) rfl rfl dX8_notes_28 ?_
          refine lv_iload_n hx hb dX8_notes_31 rfl (lv_at hl 1 rfl) ?_
          have hg := ng_p hF
          have hF := ng_x hF
          refine nx_iald S0 hK hP 1 (v := th_undone_12 v1_12.toNatClampNeg) rfl hg rfl dX8_notes_32 ?_
          have hg := ng_p hF
          have hF := ng_x hF
          refine nx_iast S0 hK hP hD hS 1 rfl hg dX8_notes_33 (W1 := [(q_th, .inr (8, [x_th_told, .ref q_th_now, x_th_text, .int th_letters, .int th_at, x_th_read, .int th_isMore, .int th_told0, x_th_from, x_th_to, .ref q_th_undone, .int th_undos, x_th_aside, .int th_beganOn, .int th_beganIn, .int th_first, .int th_second, x_th_seenCell, x_th_seenNight, .int th_seens, .int th_above, .int th_below, x_th_kept, .int th_keeps])), (q_th_undone, .inl (cI, 224, .inl (upd th_undone_12 ((v1_12 - (nI 28)).toNatClampNeg) (th_undone_12 v1_12.toNatClampNeg)))), (q_th_now, .inl (cI, 28, .inl th_now))]) rfl (fun H locs hP hD hS => ?_)
          refine lv_iinc (v := v1_12 + (nI 1)) (lv' := [(1, .int (v1_12 + (nI 1))), (0, .ref q_th)]) hx hb dX8_notes_34 hl (k := 1) rfl rfl (by decide) rfl (fun ls hl => ?_)
          refine lv_goto (tgt := 12) hx hb dX8_notes_37 (by decide) ?_
          exact ih_12 (v1_12 + (nI 1)) (upd th_undone_12 ((v1_12 - (nI 28)).toNatClampNeg) (th_undone_12 v1_12.toNatClampNeg)) hF _ _ _ hP hD hS (lv_sub hl [1, 0] rfl)
    refine lv_istore_n (lv' := [(1, .int (nI 28)), (0, .ref q_th)]) hx hb dX8_notes_11 rfl hl (by decide) rfl (fun ls hl => ?_)
    exact B_12 N (nI 28) th_undone hF _ _ _ hP hD hS (lv_sub hl [1, 0] rfl)
theorem hdX8_many : yX8_many.cls ≠ "java/lang/invoke/MethodHandle" ∧ yX8_many.cls ≠ "java/lang/invoke/VarHandle" ∧ (parseMethodDescriptor yX8_many.desc).map (fun d => d.parameters.length) = some 1 := by decide +kernel
set_option maxHeartbeats 40000000 in
set_option maxRecDepth 100000 in
theorem kX8_many (l : Launch) (dC : Nat → ClassId) (dI : Nat → Nat → Nat) (cI : ClassId) (q_th : Nat) (q_th_told : Nat) (q_th_now : Nat) (sz : Nat) (x_th_text : Value) (th_letters : Int32) (th_at : Int32) (x_th_read : Value) (th_isMore : Int32) (th_told0 : Int32) (x_th_from : Value) (x_th_to : Value) (x_th_undone : Value) (th_undos : Int32) (x_th_aside : Value) (th_beganOn : Int32) (th_beganIn : Int32) (th_first : Int32) (th_second : Int32) (x_th_seenCell : Value) (x_th_seenNight : Value) (th_seens : Int32) (th_above : Int32) (th_below : Int32) (x_th_kept : Value) (th_keeps : Int32) (th_told : Nat → Int32) (th_now : Nat → Int32) (p1 : Int32) (N : Nat) (o : Int32) (hF : fX8_many N p1 th_told th_now = some o) : nx_I l yX8_many wsX8_many ({ frames := 1, cells := 0, slots := 0, locals := 21 } : Room) (dC, dI) cI [.ref q_th, .int p1] [(q_th, .inr (8, [.ref q_th_told, .ref q_th_now, x_th_text, .int th_letters, .int th_at, x_th_read, .int th_isMore, .int th_told0, x_th_from, x_th_to, x_th_undone, .int th_undos, x_th_aside, .int th_beganOn, .int th_beganIn, .int th_first, .int th_second, x_th_seenCell, x_th_seenNight, .int th_seens, .int th_above, .int th_below, x_th_kept, .int th_keeps])), (q_th_told, .inl (cI, 54, .inl th_told)), (q_th_now, .inl (cI, 28, .inl th_now))] sz o [(q_th, .inr (8, [.ref q_th_told, .ref q_th_now, x_th_text, .int th_letters, .int th_at, x_th_read, .int th_isMore, .int th_told0, x_th_from, x_th_to, x_th_undone, .int th_undos, x_th_aside, .int th_beganOn, .int th_beganIn, .int th_first, .int th_second, x_th_seenCell, x_th_seenNight, .int th_seens, .int th_above, .int th_below, x_th_kept, .int th_keeps])), (q_th_told, .inl (cI, 54, .inl th_told)), (q_th_now, .inl (cI, 28, .inl th_now))] := by
  refine nx_int (cc := cX8_many) (maxL := 4) (by decide) rfl (Nat.le_of_ble_eq_true rfl) ?_
  intro p e s m args below meth c Q A S0 hK hN hA ret0 hP hD hS ls hl
  have S0 : CallFix p m c cX8_many 4 s args wsX8_many RX8 := S0
  have hx := S0.1
  have hb := S0.2.1
  have hown := S0.2.2.2.1
  have hts := S0.2.2.2.2
  have hl : lv_has ls 4 [(0, .ref q_th), (1, .int p1)] := hl
  have hret : ∀ (r0 : Int32) (H : Heap) (locs : List Loc) (ls : Array Slot) (pc : Nat), some r0 = some o → decode cX8_many pc = .ok (.ireturn, 1) → va_P (dC, dI) vwCl [(q_th, .inr (8, [.ref q_th_told, .ref q_th_now, x_th_text, .int th_letters, .int th_at, x_th_read, .int th_isMore, .int th_told0, x_th_from, x_th_to, x_th_undone, .int th_undos, x_th_aside, .int th_beganOn, .int th_beganIn, .int th_first, .int th_second, x_th_seenCell, x_th_seenNight, .int th_seens, .int th_above, .int th_below, x_th_kept, .int th_keeps])), (q_th_told, .inl (cI, 54, .inl th_told)), (q_th_now, .inl (cI, 28, .inl th_now))] H → va_D A [(q_th, .inr (8, [.ref q_th_told, .ref q_th_now, x_th_text, .int th_letters, .int th_at, x_th_read, .int th_isMore, .int th_told0, x_th_from, x_th_to, x_th_undone, .int th_undos, x_th_aside, .int th_beganOn, .int th_beganIn, .int th_first, .int th_second, x_th_seenCell, x_th_seenNight, .int th_seens, .int th_above, .int th_below, x_th_kept, .int th_keeps])), (q_th_told, .inl (cI, 54, .inl th_told)), (q_th_now, .inl (cI, 28, .inl th_now))] → va_S A s.heap H locs → W p l e ({ frames := 1, cells := 0, slots := 0, locals := 21 } : Room) s m args below meth c H locs 0 0 Q (F0 m pc ls [.int r0]) := by
    intro r0 H locs ls pc ho hd hP hD hS
    cases ho
    exact ret0 H locs ls pc hd hP hD hS
  rw [fX8_many_e] at hF
  refine lv_iconst (v := (nI 0)) hx hb dX8_many_0 (by decide) ?_
  refine lv_istore_n (lv' := [(2, .int (nI 0)), (0, .ref q_th), (1, .int p1)]) hx hb dX8_many_1 rfl hl (by decide) rfl (fun ls hl => ?_)
  refine lv_iconst (v := (nI 0)) hx hb dX8_many_2 (by decide) ?_
  have B_4 : ∀ (n_4 : Nat) (v2_4 : Int32) (v3_4 : Int32), fX8_many_4 N p1 th_told th_now n_4 v2_4 v3_4 = some o → ∀ (H : Heap) (locs : List Loc) (ls : Array Slot), va_P (dC, dI) vwCl [(q_th, .inr (8, [.ref q_th_told, .ref q_th_now, x_th_text, .int th_letters, .int th_at, x_th_read, .int th_isMore, .int th_told0, x_th_from, x_th_to, x_th_undone, .int th_undos, x_th_aside, .int th_beganOn, .int th_beganIn, .int th_first, .int th_second, x_th_seenCell, x_th_seenNight, .int th_seens, .int th_above, .int th_below, x_th_kept, .int th_keeps])), (q_th_told, .inl (cI, 54, .inl th_told)), (q_th_now, .inl (cI, 28, .inl th_now))] H → va_D A [(q_th, .inr (8, [.ref q_th_told, .ref q_th_now, x_th_text, .int th_letters, .int th_at, x_th_read, .int th_isMore, .int th_told0, x_th_from, x_th_to, x_th_undone, .int th_undos, x_th_aside, .int th_beganOn, .int th_beganIn, .int th_first, .int th_second, x_th_seenCell, x_th_seenNight, .int th_seens, .int th_above, .int th_below, x_th_kept, .int th_keeps])), (q_th_told, .inl (cI, 54, .inl th_told)), (q_th_now, .inl (cI, 28, .inl th_now))] → va_S A s.heap H locs → lv_has ls 4 [(0, .ref q_th), (1, .int p1), (2, .int v2_4), (3, .int v3_4)] → W p l e ({ frames := 1, cells := 0, slots := 0, locals := 21 } : Room) s m args below meth c H locs 0 0 Q (F0 m 4 ls []) := by
    intro n_4
    induction n_4 with
    | zero =>
      intro v2_4 v3_4 hF
      rw [fX8_many_4_z] at hF
      cases hF
    | succ n_4 ih_4 =>
      intro v2_4 v3_4 hF H locs ls hP hD hS hl
      rw [fX8_many_4_s] at hF
      refine lv_iload_n hx hb dX8_many_4 rfl (lv_at hl 3 rfl) ?_
      refine lv_aload_n hx hb dX8_many_5 rfl (lv_at hl 0 rfl) ?_
      obtain ⟨o6, hF1, hF⟩ := ng_b hF
      refine nx_callVi (As := []) (rest := [.int v3_4]) (W1 := [(q_th, .inr (8, [.ref q_th_told, .ref q_th_now, x_th_text, .int th_letters, .int th_at, x_th_read, .int th_isMore, .int th_told0, x_th_from, x_th_to, x_th_undone, .int th_undos, x_th_aside, .int th_beganOn, .int th_beganIn, .int th_first, .int th_second, x_th_seenCell, x_th_seenNight, .int th_seens, .int th_above, .int th_below, x_th_kept, .int th_keeps])), (q_th_told, .inl (cI, 54, .inl th_told)), (q_th_now, .inl (cI, 28, .inl th_now))]) (wr := [(q_th_now, .inl (cI, 28, .inl th_now))]) S0 hK hN hA hP hD hS (kX8_cells l dC dI cI q_th q_th_told _ (.ref q_th_now) (x_th_text) th_letters th_at (x_th_read) th_isMore th_told0 (x_th_from) (x_th_to) (x_th_undone) th_undos (x_th_aside) th_beganOn th_beganIn th_first th_second (x_th_seenCell) (x_th_seenNight) th_seens th_above th_below (x_th_kept) th_keeps th_told N o6 hF1) (cwV 0 hts gX8_many_X8_cells rfl rfl rfl ⟨rfl, hdX8_cells⟩ ⟨Nat.le_of_ble_eq_true rfl, Nat.le_of_ble_eq_true rfl⟩) [0, 1] [2] [1, 2, 0] rfl rfl rfl rfl 0 8 rfl rfl rfl rfl hl.1 rfl (Nat.le_of_ble_eq_true rfl) dX8_many_6 (fun H locs hP hD hS => ?_)
      refine lv_icmp_ge (tgt := 35) hx hb dX8_many_9 (by decide) (fun hc => ?_) (fun hc => ?_)
      · have hF := ng_t hc hF
        refine lv_iload_n hx hb dX8_many_35 rfl (lv_at hl 2 rfl) ?_
        exact hret v2_4 _ _ _ _ hF dX8_many_36 hP hD hS
      · have hF := ng_f hc hF
        refine lv_iload_n hx hb dX8_many_12 rfl (lv_at hl 2 rfl) ?_
        refine lv_aload_n hx hb dX8_many_13 rfl (lv_at hl 0 rfl) ?_
        refine lv_iload_n hx hb dX8_many_14 rfl (lv_at hl 3 rfl) ?_
        obtain ⟨o15, hF1, hF⟩ := ng_b hF
        refine nx_callVi (As := [.int v3_4]) (rest := [.int v2_4]) (W1 := [(q_th, .inr (8, [.ref q_th_told, .ref q_th_now, x_th_text, .int th_letters, .int th_at, x_th_read, .int th_isMore, .int th_told0, x_th_from, x_th_to, x_th_undone, .int th_undos, x_th_aside, .int th_beganOn, .int th_beganIn, .int th_first, .int th_second, x_th_seenCell, x_th_seenNight, .int th_seens, .int th_above, .int th_below, x_th_kept, .int th_keeps])), (q_th_told, .inl (cI, 54, .inl th_told)), (q_th_now, .inl (cI, 28, .inl th_now))]) (wr := [(q_th_told, .inl (cI, 54, .inl th_told))]) S0 hK hN hA hP hD hS (kX8_kind l dC dI cI q_th q_th_now _ (.ref q_th_told) (x_th_text) th_letters th_at (x_th_read) th_isMore th_told0 (x_th_from) (x_th_to) (x_th_undone) th_undos (x_th_aside) th_beganOn th_beganIn th_first th_second (x_th_seenCell) (x_th_seenNight) th_seens th_above th_below (x_th_kept) th_keeps th_now v3_4 N o15 hF1) (cwV 1 hts gX8_many_X8_kind rfl rfl rfl ⟨rfl, hdX8_kind⟩ ⟨Nat.le_of_ble_eq_true rfl, Nat.le_of_ble_eq_true rfl⟩) [0, 2] [1] [1, 0, 2] rfl rfl rfl rfl 0 8 rfl rfl rfl rfl hl.1 rfl (Nat.le_of_ble_eq_true rfl) dX8_many_15 (fun H locs hP hD hS => ?_)
        refine lv_iload_n hx hb dX8_many_18 rfl (lv_at hl 1 rfl) ?_
        refine lv_icmp_ne (tgt := 26) hx hb dX8_many_19 (by decide) (fun hc => ?_) (fun hc => ?_)
        · have hF := ng_f hc hF
          refine lv_iconst (v := (nI 0)) hx hb dX8_many_26 (by decide) ?_
          refine lv_iadd hx hb dX8_many_27 ?_
          refine lv_istore_n (lv' := [(2, .int (v2_4 + (nI 0))), (0, .ref q_th), (1, .int p1), (3, .int v3_4)]) hx hb dX8_many_28 rfl hl (by decide) rfl (fun ls hl => ?_)
          refine lv_iinc (v := v3_4 + (nI 1)) (lv' := [(3, .int (v3_4 + (nI 1))), (2, .int (v2_4 + (nI 0))), (0, .ref q_th), (1, .int p1)]) hx hb dX8_many_29 hl (k := 3) rfl rfl (by decide) rfl (fun ls hl => ?_)
          refine lv_goto (tgt := 4) hx hb dX8_many_32 (by decide) ?_
          exact ih_4 (v2_4 + (nI 0)) (v3_4 + (nI 1)) hF _ _ _ hP hD hS (lv_sub hl [2, 3, 1, 0] rfl)
        · have hF := ng_t hc hF
          refine lv_iconst (v := (nI 1)) hx hb dX8_many_22 (by decide) ?_
          refine lv_goto (tgt := 27) hx hb dX8_many_23 (by decide) ?_
          refine lv_iadd hx hb dX8_many_27 ?_
          refine lv_istore_n (lv' := [(2, .int (v2_4 + (nI 1))), (0, .ref q_th), (1, .int p1), (3, .int v3_4)]) hx hb dX8_many_28 rfl hl (by decide) rfl (fun ls hl => ?_)
          refine lv_iinc (v := v3_4 + (nI 1)) (lv' := [(3, .int (v3_4 + (nI 1))), (2, .int (v2_4 + (nI 1))), (0, .ref q_th), (1, .int p1)]) hx hb dX8_many_29 hl (k := 3) rfl rfl (by decide) rfl (fun ls hl => ?_)
          refine lv_goto (tgt := 4) hx hb dX8_many_32 (by decide) ?_
          exact ih_4 (v2_4 + (nI 1)) (v3_4 + (nI 1)) hF _ _ _ hP hD hS (lv_sub hl [2, 3, 1, 0] rfl)
  refine lv_istore_n (lv' := [(3, .int (nI 0)), (2, .int (nI 0)), (0, .ref q_th), (1, .int p1)]) hx hb dX8_many_3 rfl hl (by decide) rfl (fun ls hl => ?_)
  exact B_4 N (nI 0) (nI 0) hF _ _ _ hP hD hS (lv_sub hl [2, 3, 1, 0] rfl)
theorem hdX8_pass : yX8_pass.cls ≠ "java/lang/invoke/MethodHandle" ∧ yX8_pass.cls ≠ "java/lang/invoke/VarHandle" ∧ (parseMethodDescriptor yX8_pass.desc).map (fun d => d.parameters.length) = some 1 := by decide +kernel
set_option maxHeartbeats 40000000 in
set_option maxRecDepth 100000 in
theorem kX8_pass (l : Launch) (dC : Nat → ClassId) (dI : Nat → Nat → Nat) (cI : ClassId) (q_th : Nat) (q_th_now : Nat) (q_th_undone : Nat) (q_th_told : Nat) (q_th_from : Nat) (q_th_to : Nat) (sz : Nat) (x_th_text : Value) (th_letters : Int32) (th_at : Int32) (x_th_read : Value) (th_isMore : Int32) (th_told0 : Int32) (th_undos : Int32) (x_th_aside : Value) (th_beganOn : Int32) (th_beganIn : Int32) (th_first : Int32) (th_second : Int32) (x_th_seenCell : Value) (x_th_seenNight : Value) (th_seens : Int32) (th_above : Int32) (th_below : Int32) (x_th_kept : Value) (th_keeps : Int32) (th_now : Nat → Int32) (th_undone : Nat → Int32) (th_told : Nat → Int32) (th_from : Nat → Int32) (th_to : Nat → Int32) (p1 : Int32) (N : Nat) (o : Int32 × Int32 × (Nat → Int32) × (Nat → Int32) × (Nat → Int32) × (Nat → Int32)) (hF : fX8_pass N th_undos p1 th_now th_undone th_told th_from th_to = some o) : nx_I l yX8_pass wsX8_pass ({ frames := 7, cells := 0, slots := 0, locals := 166 } : Room) (dC, dI) cI [.ref q_th, .int p1] [(q_th, .inr (8, [.ref q_th_told, .ref q_th_now, x_th_text, .int th_letters, .int th_at, x_th_read, .int th_isMore, .int th_told0, .ref q_th_from, .ref q_th_to, .ref q_th_undone, .int th_undos, x_th_aside, .int th_beganOn, .int th_beganIn, .int th_first, .int th_second, x_th_seenCell, x_th_seenNight, .int th_seens, .int th_above, .int th_below, x_th_kept, .int th_keeps])), (q_th_now, .inl (cI, 28, .inl th_now)), (q_th_undone, .inl (cI, 224, .inl th_undone)), (q_th_told, .inl (cI, 54, .inl th_told)), (q_th_from, .inl (cI, 25, .inl th_from)), (q_th_to, .inl (cI, 25, .inl th_to))] sz o.1 [(q_th, .inr (8, [.ref q_th_told, .ref q_th_now, x_th_text, .int th_letters, .int th_at, x_th_read, .int th_isMore, .int th_told0, .ref q_th_from, .ref q_th_to, .ref q_th_undone, .int o.2.1, x_th_aside, .int th_beganOn, .int th_beganIn, .int th_first, .int th_second, x_th_seenCell, x_th_seenNight, .int th_seens, .int th_above, .int th_below, x_th_kept, .int th_keeps])), (q_th_now, .inl (cI, 28, .inl o.2.2.1)), (q_th_undone, .inl (cI, 224, .inl o.2.2.2.1)), (q_th_told, .inl (cI, 54, .inl th_told)), (q_th_from, .inl (cI, 25, .inl o.2.2.2.2.1)), (q_th_to, .inl (cI, 25, .inl o.2.2.2.2.2))] := by
  refine nx_int (cc := cX8_pass) (maxL := 2) (by decide) rfl (Nat.le_of_ble_eq_true rfl) ?_
  intro p e s m args below meth c Q A S0 hK hN hA ret0 hP hD hS ls hl
  have S0 : CallFix p m c cX8_pass 2 s args wsX8_pass RX8 := S0
  have hx := S0.1
  have hb := S0.2.1
  have hown := S0.2.2.2.1
  have hts := S0.2.2.2.2
  have hf_13 := hts (.fieldLink RX8 13 "SnailsYearModel" "now" "[I") (by decide +kernel)
  have hin_X8 : ∀ w ∈ wsX80, w ∈ wsX8_pass := by decide +kernel
  have hl : lv_has ls 2 [(0, .ref q_th), (1, .int p1)] := hl
  have hret : ∀ (r0 : Int32) (y0 : Int32) (y1 : Nat → Int32) (y2 : Nat → Int32) (y3 : Nat → Int32) (y4 : Nat → Int32) (H : Heap) (locs : List Loc) (ls : Array Slot) (pc : Nat), some (r0, y0, y1, y2, y3, y4) = some o → decode cX8_pass pc = .ok (.ireturn, 1) → va_P (dC, dI) vwCl [(q_th, .inr (8, [.ref q_th_told, .ref q_th_now, x_th_text, .int th_letters, .int th_at, x_th_read, .int th_isMore, .int th_told0, .ref q_th_from, .ref q_th_to, .ref q_th_undone, .int y0, x_th_aside, .int th_beganOn, .int th_beganIn, .int th_first, .int th_second, x_th_seenCell, x_th_seenNight, .int th_seens, .int th_above, .int th_below, x_th_kept, .int th_keeps])), (q_th_now, .inl (cI, 28, .inl y1)), (q_th_undone, .inl (cI, 224, .inl y2)), (q_th_told, .inl (cI, 54, .inl th_told)), (q_th_from, .inl (cI, 25, .inl y3)), (q_th_to, .inl (cI, 25, .inl y4))] H → va_D A [(q_th, .inr (8, [.ref q_th_told, .ref q_th_now, x_th_text, .int th_letters, .int th_at, x_th_read, .int th_isMore, .int th_told0, .ref q_th_from, .ref q_th_to, .ref q_th_undone, .int y0, x_th_aside, .int th_beganOn, .int th_beganIn, .int th_first, .int th_second, x_th_seenCell, x_th_seenNight, .int th_seens, .int th_above, .int th_below, x_th_kept, .int th_keeps])), (q_th_now, .inl (cI, 28, .inl y1)), (q_th_undone, .inl (cI, 224, .inl y2)), (q_th_told, .inl (cI, 54, .inl th_told)), (q_th_from, .inl (cI, 25, .inl y3)), (q_th_to, .inl (cI, 25, .inl y4))] → va_S A s.heap H locs → W p l e ({ frames := 7, cells := 0, slots := 0, locals := 166 } : Room) s m args below meth c H locs 0 0 Q (F0 m pc ls [.int r0]) := by
    intro r0 y0 y1 y2 y3 y4 H locs ls pc ho hd hP hD hS
    cases ho
    exact ret0 H locs ls pc hd hP hD hS
  rw [fX8_pass_e] at hF
  refine lv_iload_n hx hb dX8_pass_0 rfl (lv_at hl 1 rfl) ?_
  refine lv_i2l hx hb dX8_pass_1 rfl ?_
  refine lv_lconst (v := (lN 1)) hx hb dX8_pass_2 (by decide) ?_
  refine lv_ldc2 (v := (lN 30)) hx hb hown (hts (.constantLong RX8 151 30) (by decide +kernel)) dX8_pass_3 ?_
  obtain ⟨o6, hF1, hF⟩ := ng_b hF
  refine nx_callSi (As := [.long p1.toInt64, .long (lN 1), .long (lN 30)]) (rest := []) (W1 := [(q_th, .inr (8, [.ref q_th_told, .ref q_th_now, x_th_text, .int th_letters, .int th_at, x_th_read, .int th_isMore, .int th_told0, .ref q_th_from, .ref q_th_to, .ref q_th_undone, .int th_undos, x_th_aside, .int th_beganOn, .int th_beganIn, .int th_first, .int th_second, x_th_seenCell, x_th_seenNight, .int th_seens, .int th_above, .int th_below, x_th_kept, .int th_keeps])), (q_th_now, .inl (cI, 28, .inl th_now)), (q_th_undone, .inl (cI, 224, .inl th_undone)), (q_th_told, .inl (cI, 54, .inl th_told)), (q_th_from, .inl (cI, 25, .inl th_from)), (q_th_to, .inl (cI, 25, .inl th_to))]) (wr := [(q_th, .inr (8, [.ref q_th_told, .ref q_th_now, x_th_text, .int th_letters, .int th_at, x_th_read, .int th_isMore, .int th_told0, .ref q_th_from, .ref q_th_to, .ref q_th_undone, .int th_undos, x_th_aside, .int th_beganOn, .int th_beganIn, .int th_first, .int th_second, x_th_seenCell, x_th_seenNight, .int th_seens, .int th_above, .int th_below, x_th_kept, .int th_keeps])), (q_th_now, .inl (cI, 28, .inl th_now)), (q_th_undone, .inl (cI, 224, .inl th_undone)), (q_th_told, .inl (cI, 54, .inl th_told)), (q_th_from, .inl (cI, 25, .inl th_from)), (q_th_to, .inl (cI, 25, .inl th_to))]) S0 hK hN hA hP hD hS (kX8_in l dC dI cI _ p1.toInt64 (lN 1) (lN 30) N o6 hF1) (va_cwS 3 hts gX8_pass_X8_in rfl rfl rfl hdX8_in ⟨Nat.le_of_ble_eq_true rfl, Nat.le_of_ble_eq_true rfl⟩) [] [0, 1, 2, 3, 4, 5] [0, 1, 2, 3, 4, 5] rfl rfl rfl rfl rfl hl.1 rfl (Nat.le_of_ble_eq_true rfl) dX8_pass_6 (fun H locs hP hD hS => ?_)
  refine lv_if_ne (tgt := 14) hx hb dX8_pass_9 (by decide) (fun hc => ?_) (fun hc => ?_)
  · have hF := ng_f hc hF
    refine lv_aload_n hx hb dX8_pass_14 rfl (lv_at hl 0 rfl) ?_
    refine nx_get S0 hK hP 0 1 hin_X8 hf_13 rfl rfl (by decide) rfl rfl dX8_pass_15 ?_
    refine lv_iconst (v := (nI 0)) hx hb dX8_pass_18 (by decide) ?_
    refine nx_iald S0 hK hP 1 (v := th_now 0) rfl (by decide) rfl dX8_pass_19 ?_
    refine lv_iload_n hx hb dX8_pass_20 rfl (lv_at hl 1 rfl) ?_
    refine lv_iadd hx hb dX8_pass_21 ?_
    refine lv_sipush (v := (nI 999)) hx hb dX8_pass_22 (by decide) ?_
    refine lv_icmp_le (tgt := 31) hx hb dX8_pass_25 (by decide) (fun hc => ?_) (fun hc => ?_)
    · have hF := ng_t hc hF
      refine lv_aload_n hx hb dX8_pass_31 rfl (lv_at hl 0 rfl) ?_
      obtain ⟨o32, hF1, hF⟩ := ng_b hF
      refine nx_callVv (As := []) (rest := []) (W1 := [(q_th, .inr (8, [.ref q_th_told, .ref q_th_now, x_th_text, .int th_letters, .int th_at, x_th_read, .int th_isMore, .int th_told0, .ref q_th_from, .ref q_th_to, .ref q_th_undone, .int o32.1, x_th_aside, .int th_beganOn, .int th_beganIn, .int th_first, .int th_second, x_th_seenCell, x_th_seenNight, .int th_seens, .int th_above, .int th_below, x_th_kept, .int th_keeps])), (q_th_now, .inl (cI, 28, .inl th_now)), (q_th_undone, .inl (cI, 224, .inl o32.2)), (q_th_told, .inl (cI, 54, .inl th_told)), (q_th_from, .inl (cI, 25, .inl th_from)), (q_th_to, .inl (cI, 25, .inl th_to))]) (wr := [(q_th_told, .inl (cI, 54, .inl th_told)), (q_th_from, .inl (cI, 25, .inl th_from)), (q_th_to, .inl (cI, 25, .inl th_to))]) S0 hK hN hA hP hD hS (kX8_notes l dC dI cI q_th q_th_undone q_th_now _ (.ref q_th_told) (x_th_text) th_letters th_at (x_th_read) th_isMore th_told0 (.ref q_th_from) (.ref q_th_to) th_undos (x_th_aside) th_beganOn th_beganIn th_first th_second (x_th_seenCell) (x_th_seenNight) th_seens th_above th_below (x_th_kept) th_keeps th_undone th_now N o32 hF1) (cwV 0 hts gX8_pass_X8_notes rfl rfl rfl ⟨rfl, hdX8_notes⟩ ⟨Nat.le_of_ble_eq_true rfl, Nat.le_of_ble_eq_true rfl⟩) [0, 2, 1] [3, 4, 5] [3, 5, 4, 0, 1, 2] rfl rfl rfl rfl 0 8 rfl rfl rfl rfl hl.1 rfl (Nat.le_of_ble_eq_true rfl) dX8_pass_32 (fun H locs hP hD hS => ?_)
      refine lv_aload_n hx hb dX8_pass_35 rfl (lv_at hl 0 rfl) ?_
      refine lv_iload_n hx hb dX8_pass_36 rfl (lv_at hl 1 rfl) ?_
      obtain ⟨o37, hF1, hF⟩ := ng_b hF
      refine nx_callVv (As := [.int p1]) (rest := []) (W1 := [(q_th, .inr (8, [.ref q_th_told, .ref q_th_now, x_th_text, .int th_letters, .int th_at, x_th_read, .int th_isMore, .int th_told0, .ref q_th_from, .ref q_th_to, .ref q_th_undone, .int o32.1, x_th_aside, .int th_beganOn, .int th_beganIn, .int th_first, .int th_second, x_th_seenCell, x_th_seenNight, .int th_seens, .int th_above, .int th_below, x_th_kept, .int th_keeps])), (q_th_now, .inl (cI, 28, .inl o37.1)), (q_th_undone, .inl (cI, 224, .inl o32.2)), (q_th_told, .inl (cI, 54, .inl th_told)), (q_th_from, .inl (cI, 25, .inl o37.2.1)), (q_th_to, .inl (cI, 25, .inl o37.2.2))]) (wr := [(q_th_undone, .inl (cI, 224, .inl o32.2))]) S0 hK hN hA hP hD hS (kX8_goesOn l dC dI cI q_th q_th_now q_th_told q_th_from q_th_to _ (x_th_text) th_letters th_at (x_th_read) th_isMore th_told0 (.ref q_th_undone) o32.1 (x_th_aside) th_beganOn th_beganIn th_first th_second (x_th_seenCell) (x_th_seenNight) th_seens th_above th_below (x_th_kept) th_keeps th_now th_told th_from th_to p1 N o37 hF1) (cwV 1 hts gX8_pass_X8_goesOn rfl rfl rfl ⟨rfl, hdX8_goesOn⟩ ⟨Nat.le_of_ble_eq_true rfl, Nat.le_of_ble_eq_true rfl⟩) [0, 1, 3, 4, 5] [2] [1, 2, 0, 3, 4, 5] rfl rfl rfl rfl 0 8 rfl rfl rfl rfl hl.1 rfl (Nat.le_of_ble_eq_true rfl) dX8_pass_37 (fun H locs hP hD hS => ?_)
      refine lv_aload_n hx hb dX8_pass_40 rfl (lv_at hl 0 rfl) ?_
      refine nx_get S0 hK hP 0 1 hin_X8 hf_13 rfl rfl (by decide) rfl rfl dX8_pass_41 ?_
      refine lv_iconst (v := (nI 0)) hx hb dX8_pass_44 (by decide) ?_
      refine nx_iald S0 hK hP 1 (v := o37.1 0) rfl (by decide) rfl dX8_pass_45 ?_
      exact hret (o37.1 0) o32.1 o37.1 o32.2 o37.2.1 o37.2.2 _ _ _ _ hF dX8_pass_46 hP hD hS
    · have hF := ng_f hc hF
      refine lv_bipush (v := (-2 : Int32)) hx hb dX8_pass_28 (by decide) ?_
      exact hret (-2 : Int32) th_undos th_now th_undone th_from th_to _ _ _ _ hF dX8_pass_30 hP hD hS
  · have hF := ng_t hc hF
    refine lv_iconst (v := (-1 : Int32)) hx hb dX8_pass_12 (by decide) ?_
    exact hret (-1 : Int32) th_undos th_now th_undone th_from th_to _ _ _ _ hF dX8_pass_13 hP hD hS
theorem hdX8_lettuce : yX8_lettuce.cls ≠ "java/lang/invoke/MethodHandle" ∧ yX8_lettuce.cls ≠ "java/lang/invoke/VarHandle" ∧ (parseMethodDescriptor yX8_lettuce.desc).map (fun d => d.parameters.length) = some 1 := by decide +kernel
set_option maxHeartbeats 40000000 in
set_option maxRecDepth 100000 in
theorem kX8_lettuce (l : Launch) (dC : Nat → ClassId) (dI : Nat → Nat → Nat) (cI : ClassId) (q_th : Nat) (q_th_told : Nat) (q_th_now : Nat) (q_th_undone : Nat) (sz : Nat) (x_th_text : Value) (th_letters : Int32) (th_at : Int32) (x_th_read : Value) (th_isMore : Int32) (th_told0 : Int32) (x_th_from : Value) (x_th_to : Value) (th_undos : Int32) (x_th_aside : Value) (th_beganOn : Int32) (th_beganIn : Int32) (th_first : Int32) (th_second : Int32) (x_th_seenCell : Value) (x_th_seenNight : Value) (th_seens : Int32) (th_above : Int32) (th_below : Int32) (x_th_kept : Value) (th_keeps : Int32) (th_told : Nat → Int32) (th_now : Nat → Int32) (th_undone : Nat → Int32) (p1 : Int32) (N : Nat) (o : Int32 × Int32 × (Nat → Int32) × (Nat → Int32)) (hF : fX8_lettuce N th_undos p1 th_told th_now th_undone = some o) : nx_I l yX8_lettuce wsX8_lettuce ({ frames := 2, cells := 0, slots := 0, locals := 46 } : Room) (dC, dI) cI [.ref q_th, .int p1] [(q_th, .inr (8, [.ref q_th_told, .ref q_th_now, x_th_text, .int th_letters, .int th_at, x_th_read, .int th_isMore, .int th_told0, x_th_from, x_th_to, .ref q_th_undone, .int th_undos, x_th_aside, .int th_beganOn, .int th_beganIn, .int th_first, .int th_second, x_th_seenCell, x_th_seenNight, .int th_seens, .int th_above, .int th_below, x_th_kept, .int th_keeps])), (q_th_told, .inl (cI, 54, .inl th_told)), (q_th_now, .inl (cI, 28, .inl th_now)), (q_th_undone, .inl (cI, 224, .inl th_undone))] sz o.1 [(q_th, .inr (8, [.ref q_th_told, .ref q_th_now, x_th_text, .int th_letters, .int th_at, x_th_read, .int th_isMore, .int th_told0, x_th_from, x_th_to, .ref q_th_undone, .int o.2.1, x_th_aside, .int th_beganOn, .int th_beganIn, .int th_first, .int th_second, x_th_seenCell, x_th_seenNight, .int th_seens, .int th_above, .int th_below, x_th_kept, .int th_keeps])), (q_th_told, .inl (cI, 54, .inl th_told)), (q_th_now, .inl (cI, 28, .inl o.2.2.1)), (q_th_undone, .inl (cI, 224, .inl o.2.2.2))] := by
  refine nx_int (cc := cX8_lettuce) (maxL := 2) (by decide) rfl (Nat.le_of_ble_eq_true rfl) ?_
  intro p e s m args below meth c Q A S0 hK hN hA ret0 hP hD hS ls hl
  have S0 : CallFix p m c cX8_lettuce 2 s args wsX8_lettuce RX8 := S0
  have hx := S0.1
  have hb := S0.2.1
  have hown := S0.2.2.2.1
  have hts := S0.2.2.2.2
  have hf_13 := hts (.fieldLink RX8 13 "SnailsYearModel" "now" "[I") (by decide +kernel)
  have hin_X8 : ∀ w ∈ wsX80, w ∈ wsX8_lettuce := by decide +kernel
  have hl : lv_has ls 2 [(0, .ref q_th), (1, .int p1)] := hl
  have hret : ∀ (r0 : Int32) (y0 : Int32) (y1 : Nat → Int32) (y2 : Nat → Int32) (H : Heap) (locs : List Loc) (ls : Array Slot) (pc : Nat), some (r0, y0, y1, y2) = some o → decode cX8_lettuce pc = .ok (.ireturn, 1) → va_P (dC, dI) vwCl [(q_th, .inr (8, [.ref q_th_told, .ref q_th_now, x_th_text, .int th_letters, .int th_at, x_th_read, .int th_isMore, .int th_told0, x_th_from, x_th_to, .ref q_th_undone, .int y0, x_th_aside, .int th_beganOn, .int th_beganIn, .int th_first, .int th_second, x_th_seenCell, x_th_seenNight, .int th_seens, .int th_above, .int th_below, x_th_kept, .int th_keeps])), (q_th_told, .inl (cI, 54, .inl th_told)), (q_th_now, .inl (cI, 28, .inl y1)), (q_th_undone, .inl (cI, 224, .inl y2))] H → va_D A [(q_th, .inr (8, [.ref q_th_told, .ref q_th_now, x_th_text, .int th_letters, .int th_at, x_th_read, .int th_isMore, .int th_told0, x_th_from, x_th_to, .ref q_th_undone, .int y0, x_th_aside, .int th_beganOn, .int th_beganIn, .int th_first, .int th_second, x_th_seenCell, x_th_seenNight, .int th_seens, .int th_above, .int th_below, x_th_kept, .int th_keeps])), (q_th_told, .inl (cI, 54, .inl th_told)), (q_th_now, .inl (cI, 28, .inl y1)), (q_th_undone, .inl (cI, 224, .inl y2))] → va_S A s.heap H locs → W p l e ({ frames := 2, cells := 0, slots := 0, locals := 46 } : Room) s m args below meth c H locs 0 0 Q (F0 m pc ls [.int r0]) := by
    intro r0 y0 y1 y2 H locs ls pc ho hd hP hD hS
    cases ho
    exact ret0 H locs ls pc hd hP hD hS
  rw [fX8_lettuce_e] at hF
  refine lv_aload_n hx hb dX8_lettuce_0 rfl (lv_at hl 0 rfl) ?_
  refine lv_iload_n hx hb dX8_lettuce_1 rfl (lv_at hl 1 rfl) ?_
  obtain ⟨o2, hF1, hF⟩ := ng_b hF
  refine nx_callVi (As := [.int p1]) (rest := []) (W1 := [(q_th, .inr (8, [.ref q_th_told, .ref q_th_now, x_th_text, .int th_letters, .int th_at, x_th_read, .int th_isMore, .int th_told0, x_th_from, x_th_to, .ref q_th_undone, .int th_undos, x_th_aside, .int th_beganOn, .int th_beganIn, .int th_first, .int th_second, x_th_seenCell, x_th_seenNight, .int th_seens, .int th_above, .int th_below, x_th_kept, .int th_keeps])), (q_th_told, .inl (cI, 54, .inl th_told)), (q_th_now, .inl (cI, 28, .inl th_now)), (q_th_undone, .inl (cI, 224, .inl th_undone))]) (wr := [(q_th_now, .inl (cI, 28, .inl th_now)), (q_th_undone, .inl (cI, 224, .inl th_undone))]) S0 hK hN hA hP hD hS (kX8_isCell l dC dI cI q_th q_th_told _ (.ref q_th_now) (x_th_text) th_letters th_at (x_th_read) th_isMore th_told0 (x_th_from) (x_th_to) (.ref q_th_undone) th_undos (x_th_aside) th_beganOn th_beganIn th_first th_second (x_th_seenCell) (x_th_seenNight) th_seens th_above th_below (x_th_kept) th_keeps th_told p1 N o2 hF1) (cwV 1 hts gX8_lettuce_X8_isCell rfl rfl rfl ⟨rfl, hdX8_isCell⟩ ⟨Nat.le_of_ble_eq_true rfl, Nat.le_of_ble_eq_true rfl⟩) [0, 1] [2, 3] [2, 3, 0, 1] rfl rfl rfl rfl 0 8 rfl rfl rfl rfl hl.1 rfl (Nat.le_of_ble_eq_true rfl) dX8_lettuce_2 (fun H locs hP hD hS => ?_)
  refine lv_if_ne (tgt := 10) hx hb dX8_lettuce_5 (by decide) (fun hc => ?_) (fun hc => ?_)
  · have hF := ng_f hc hF
    refine lv_aload_n hx hb dX8_lettuce_10 rfl (lv_at hl 0 rfl) ?_
    refine lv_iload_n hx hb dX8_lettuce_11 rfl (lv_at hl 1 rfl) ?_
    obtain ⟨o12, hF1, hF⟩ := ng_b hF
    refine nx_callVi (As := [.int p1]) (rest := []) (W1 := [(q_th, .inr (8, [.ref q_th_told, .ref q_th_now, x_th_text, .int th_letters, .int th_at, x_th_read, .int th_isMore, .int th_told0, x_th_from, x_th_to, .ref q_th_undone, .int th_undos, x_th_aside, .int th_beganOn, .int th_beganIn, .int th_first, .int th_second, x_th_seenCell, x_th_seenNight, .int th_seens, .int th_above, .int th_below, x_th_kept, .int th_keeps])), (q_th_told, .inl (cI, 54, .inl th_told)), (q_th_now, .inl (cI, 28, .inl th_now)), (q_th_undone, .inl (cI, 224, .inl th_undone))]) (wr := [(q_th_told, .inl (cI, 54, .inl th_told)), (q_th_undone, .inl (cI, 224, .inl th_undone))]) S0 hK hN hA hP hD hS (kX8_kind l dC dI cI q_th q_th_now _ (.ref q_th_told) (x_th_text) th_letters th_at (x_th_read) th_isMore th_told0 (x_th_from) (x_th_to) (.ref q_th_undone) th_undos (x_th_aside) th_beganOn th_beganIn th_first th_second (x_th_seenCell) (x_th_seenNight) th_seens th_above th_below (x_th_kept) th_keeps th_now p1 N o12 hF1) (cwV 1 hts gX8_lettuce_X8_kind rfl rfl rfl ⟨rfl, hdX8_kind⟩ ⟨Nat.le_of_ble_eq_true rfl, Nat.le_of_ble_eq_true rfl⟩) [0, 2] [1, 3] [2, 0, 3, 1] rfl rfl rfl rfl 0 8 rfl rfl rfl rfl hl.1 rfl (Nat.le_of_ble_eq_true rfl) dX8_lettuce_12 (fun H locs hP hD hS => ?_)
    refine lv_if_ne (tgt := 28) hx hb dX8_lettuce_15 (by decide) (fun hc => ?_) (fun hc => ?_)
    · have hF := ng_f hc hF
      refine lv_bipush (v := (-2 : Int32)) hx hb dX8_lettuce_28 (by decide) ?_
      exact hret (-2 : Int32) th_undos th_now th_undone _ _ _ _ hF dX8_lettuce_30 hP hD hS
    · have hF := ng_t hc hF
      refine lv_aload_n hx hb dX8_lettuce_18 rfl (lv_at hl 0 rfl) ?_
      refine nx_get S0 hK hP 0 1 hin_X8 hf_13 rfl rfl (by decide) rfl rfl dX8_lettuce_19 ?_
      refine lv_iconst (v := (nI 1)) hx hb dX8_lettuce_22 (by decide) ?_
      refine nx_iald S0 hK hP 2 (v := th_now 1) rfl (by decide) rfl dX8_lettuce_23 ?_
      refine lv_iload_n hx hb dX8_lettuce_24 rfl (lv_at hl 1 rfl) ?_
      refine lv_icmp_ne (tgt := 31) hx hb dX8_lettuce_25 (by decide) (fun hc => ?_) (fun hc => ?_)
      · have hF := ng_f hc hF
        refine lv_aload_n hx hb dX8_lettuce_31 rfl (lv_at hl 0 rfl) ?_
        obtain ⟨o32, hF1, hF⟩ := ng_b hF
        refine nx_callVv (As := []) (rest := []) (W1 := [(q_th, .inr (8, [.ref q_th_told, .ref q_th_now, x_th_text, .int th_letters, .int th_at, x_th_read, .int th_isMore, .int th_told0, x_th_from, x_th_to, .ref q_th_undone, .int o32.1, x_th_aside, .int th_beganOn, .int th_beganIn, .int th_first, .int th_second, x_th_seenCell, x_th_seenNight, .int th_seens, .int th_above, .int th_below, x_th_kept, .int th_keeps])), (q_th_told, .inl (cI, 54, .inl th_told)), (q_th_now, .inl (cI, 28, .inl th_now)), (q_th_undone, .inl (cI, 224, .inl o32.2))]) (wr := [(q_th_told, .inl (cI, 54, .inl th_told))]) S0 hK hN hA hP hD hS (kX8_notes l dC dI cI q_th q_th_undone q_th_now _ (.ref q_th_told) (x_th_text) th_letters th_at (x_th_read) th_isMore th_told0 (x_th_from) (x_th_to) th_undos (x_th_aside) th_beganOn th_beganIn th_first th_second (x_th_seenCell) (x_th_seenNight) th_seens th_above th_below (x_th_kept) th_keeps th_undone th_now N o32 hF1) (cwV 0 hts gX8_lettuce_X8_notes rfl rfl rfl ⟨rfl, hdX8_notes⟩ ⟨Nat.le_of_ble_eq_true rfl, Nat.le_of_ble_eq_true rfl⟩) [0, 3, 2] [1] [1, 0, 3, 2] rfl rfl rfl rfl 0 8 rfl rfl rfl rfl hl.1 rfl (Nat.le_of_ble_eq_true rfl) dX8_lettuce_32 (fun H locs hP hD hS => ?_)
        refine lv_aload_n hx hb dX8_lettuce_35 rfl (lv_at hl 0 rfl) ?_
        refine nx_get S0 hK hP 0 1 hin_X8 hf_13 rfl rfl (by decide) rfl rfl dX8_lettuce_36 ?_
        refine lv_iconst (v := (nI 3)) hx hb dX8_lettuce_39 (by decide) ?_
        refine lv_iload_n hx hb dX8_lettuce_40 rfl (lv_at hl 1 rfl) ?_
        refine lv_iadd hx hb dX8_lettuce_41 ?_
        refine lv_iconst (v := (nI 3)) hx hb dX8_lettuce_42 (by decide) ?_
        have hg := ng_p hF
        have hF := ng_x hF
        refine nx_iast S0 hK hP hD hS 2 rfl hg dX8_lettuce_43 (W1 := [(q_th, .inr (8, [.ref q_th_told, .ref q_th_now, x_th_text, .int th_letters, .int th_at, x_th_read, .int th_isMore, .int th_told0, x_th_from, x_th_to, .ref q_th_undone, .int o32.1, x_th_aside, .int th_beganOn, .int th_beganIn, .int th_first, .int th_second, x_th_seenCell, x_th_seenNight, .int th_seens, .int th_above, .int th_below, x_th_kept, .int th_keeps])), (q_th_told, .inl (cI, 54, .inl th_told)), (q_th_now, .inl (cI, 28, .inl (upd th_now (((nI 3) + p1).toNatClampNeg) (nI 3)))), (q_th_undone, .inl (cI, 224, .inl o32.2))]) rfl (fun H locs hP hD hS => ?_)
        refine lv_aload_n hx hb dX8_lettuce_44 rfl (lv_at hl 0 rfl) ?_
        refine lv_iconst (v := (nI 3)) hx hb dX8_lettuce_45 (by decide) ?_
        obtain ⟨o46, hF1, hF⟩ := ng_b hF
        refine nx_callVi (As := [.int (nI 3)]) (rest := []) (W1 := [(q_th, .inr (8, [.ref q_th_told, .ref q_th_now, x_th_text, .int th_letters, .int th_at, x_th_read, .int th_isMore, .int th_told0, x_th_from, x_th_to, .ref q_th_undone, .int o32.1, x_th_aside, .int th_beganOn, .int th_beganIn, .int th_first, .int th_second, x_th_seenCell, x_th_seenNight, .int th_seens, .int th_above, .int th_below, x_th_kept, .int th_keeps])), (q_th_told, .inl (cI, 54, .inl th_told)), (q_th_now, .inl (cI, 28, .inl (upd th_now (((nI 3) + p1).toNatClampNeg) (nI 3)))), (q_th_undone, .inl (cI, 224, .inl o32.2))]) (wr := [(q_th_undone, .inl (cI, 224, .inl o32.2))]) S0 hK hN hA hP hD hS (kX8_many l dC dI cI q_th q_th_told q_th_now _ (x_th_text) th_letters th_at (x_th_read) th_isMore th_told0 (x_th_from) (x_th_to) (.ref q_th_undone) o32.1 (x_th_aside) th_beganOn th_beganIn th_first th_second (x_th_seenCell) (x_th_seenNight) th_seens th_above th_below (x_th_kept) th_keeps th_told (upd th_now (((nI 3) + p1).toNatClampNeg) (nI 3)) (nI 3) N o46 hF1) (cwV 1 hts gX8_lettuce_X8_many rfl rfl rfl ⟨rfl, hdX8_many⟩ ⟨Nat.le_of_ble_eq_true rfl, Nat.le_of_ble_eq_true rfl⟩) [0, 1, 2] [3] [1, 2, 3, 0] rfl rfl rfl rfl 0 8 rfl rfl rfl rfl hl.1 rfl (Nat.le_of_ble_eq_true rfl) dX8_lettuce_46 (fun H locs hP hD hS => ?_)
        exact hret o46 o32.1 (upd th_now (((nI 3) + p1).toNatClampNeg) (nI 3)) o32.2 _ _ _ _ hF dX8_lettuce_49 hP hD hS
      · have hF := ng_t hc hF
        refine lv_bipush (v := (-2 : Int32)) hx hb dX8_lettuce_28 (by decide) ?_
        exact hret (-2 : Int32) th_undos th_now th_undone _ _ _ _ hF dX8_lettuce_30 hP hD hS
  · have hF := ng_t hc hF
    refine lv_iconst (v := (-1 : Int32)) hx hb dX8_lettuce_8 (by decide) ?_
    exact hret (-1 : Int32) th_undos th_now th_undone _ _ _ _ hF dX8_lettuce_9 hP hD hS
theorem hdX8_salt : yX8_salt.cls ≠ "java/lang/invoke/MethodHandle" ∧ yX8_salt.cls ≠ "java/lang/invoke/VarHandle" ∧ (parseMethodDescriptor yX8_salt.desc).map (fun d => d.parameters.length) = some 1 := by decide +kernel
set_option maxHeartbeats 40000000 in
set_option maxRecDepth 100000 in
theorem kX8_salt (l : Launch) (dC : Nat → ClassId) (dI : Nat → Nat → Nat) (cI : ClassId) (q_th : Nat) (q_th_told : Nat) (q_th_now : Nat) (q_th_undone : Nat) (sz : Nat) (x_th_text : Value) (th_letters : Int32) (th_at : Int32) (x_th_read : Value) (th_isMore : Int32) (th_told0 : Int32) (x_th_from : Value) (x_th_to : Value) (th_undos : Int32) (x_th_aside : Value) (th_beganOn : Int32) (th_beganIn : Int32) (th_first : Int32) (th_second : Int32) (x_th_seenCell : Value) (x_th_seenNight : Value) (th_seens : Int32) (th_above : Int32) (th_below : Int32) (x_th_kept : Value) (th_keeps : Int32) (th_told : Nat → Int32) (th_now : Nat → Int32) (th_undone : Nat → Int32) (p1 : Int32) (N : Nat) (o : Int32 × Int32 × (Nat → Int32) × (Nat → Int32)) (hF : fX8_salt N th_undos p1 th_told th_now th_undone = some o) : nx_I l yX8_salt wsX8_salt ({ frames := 2, cells := 0, slots := 0, locals := 46 } : Room) (dC, dI) cI [.ref q_th, .int p1] [(q_th, .inr (8, [.ref q_th_told, .ref q_th_now, x_th_text, .int th_letters, .int th_at, x_th_read, .int th_isMore, .int th_told0, x_th_from, x_th_to, .ref q_th_undone, .int th_undos, x_th_aside, .int th_beganOn, .int th_beganIn, .int th_first, .int th_second, x_th_seenCell, x_th_seenNight, .int th_seens, .int th_above, .int th_below, x_th_kept, .int th_keeps])), (q_th_told, .inl (cI, 54, .inl th_told)), (q_th_now, .inl (cI, 28, .inl th_now)), (q_th_undone, .inl (cI, 224, .inl th_undone))] sz o.1 [(q_th, .inr (8, [.ref q_th_told, .ref q_th_now, x_th_text, .int th_letters, .int th_at, x_th_read, .int th_isMore, .int th_told0, x_th_from, x_th_to, .ref q_th_undone, .int o.2.1, x_th_aside, .int th_beganOn, .int th_beganIn, .int th_first, .int th_second, x_th_seenCell, x_th_seenNight, .int th_seens, .int th_above, .int th_below, x_th_kept, .int th_keeps])), (q_th_told, .inl (cI, 54, .inl th_told)), (q_th_now, .inl (cI, 28, .inl o.2.2.1)), (q_th_undone, .inl (cI, 224, .inl o.2.2.2))] := by
  refine nx_int (cc := cX8_salt) (maxL := 3) (by decide) rfl (Nat.le_of_ble_eq_true rfl) ?_
  intro p e s m args below meth c Q A S0 hK hN hA ret0 hP hD hS ls hl
  have S0 : CallFix p m c cX8_salt 3 s args wsX8_salt RX8 := S0
  have hx := S0.1
  have hb := S0.2.1
  have hown := S0.2.2.2.1
  have hts := S0.2.2.2.2
  have hf_13 := hts (.fieldLink RX8 13 "SnailsYearModel" "now" "[I") (by decide +kernel)
  have hin_X8 : ∀ w ∈ wsX80, w ∈ wsX8_salt := by decide +kernel
  have hl : lv_has ls 3 [(0, .ref q_th), (1, .int p1)] := hl
  have hret : ∀ (r0 : Int32) (y0 : Int32) (y1 : Nat → Int32) (y2 : Nat → Int32) (H : Heap) (locs : List Loc) (ls : Array Slot) (pc : Nat), some (r0, y0, y1, y2) = some o → decode cX8_salt pc = .ok (.ireturn, 1) → va_P (dC, dI) vwCl [(q_th, .inr (8, [.ref q_th_told, .ref q_th_now, x_th_text, .int th_letters, .int th_at, x_th_read, .int th_isMore, .int th_told0, x_th_from, x_th_to, .ref q_th_undone, .int y0, x_th_aside, .int th_beganOn, .int th_beganIn, .int th_first, .int th_second, x_th_seenCell, x_th_seenNight, .int th_seens, .int th_above, .int th_below, x_th_kept, .int th_keeps])), (q_th_told, .inl (cI, 54, .inl th_told)), (q_th_now, .inl (cI, 28, .inl y1)), (q_th_undone, .inl (cI, 224, .inl y2))] H → va_D A [(q_th, .inr (8, [.ref q_th_told, .ref q_th_now, x_th_text, .int th_letters, .int th_at, x_th_read, .int th_isMore, .int th_told0, x_th_from, x_th_to, .ref q_th_undone, .int y0, x_th_aside, .int th_beganOn, .int th_beganIn, .int th_first, .int th_second, x_th_seenCell, x_th_seenNight, .int th_seens, .int th_above, .int th_below, x_th_kept, .int th_keeps])), (q_th_told, .inl (cI, 54, .inl th_told)), (q_th_now, .inl (cI, 28, .inl y1)), (q_th_undone, .inl (cI, 224, .inl y2))] → va_S A s.heap H locs → W p l e ({ frames := 2, cells := 0, slots := 0, locals := 46 } : Room) s m args below meth c H locs 0 0 Q (F0 m pc ls [.int r0]) := by
    intro r0 y0 y1 y2 H locs ls pc ho hd hP hD hS
    cases ho
    exact ret0 H locs ls pc hd hP hD hS
  rw [fX8_salt_e] at hF
  refine lv_aload_n hx hb dX8_salt_0 rfl (lv_at hl 0 rfl) ?_
  refine lv_iload_n hx hb dX8_salt_1 rfl (lv_at hl 1 rfl) ?_
  obtain ⟨o2, hF1, hF⟩ := ng_b hF
  refine nx_callVi (As := [.int p1]) (rest := []) (W1 := [(q_th, .inr (8, [.ref q_th_told, .ref q_th_now, x_th_text, .int th_letters, .int th_at, x_th_read, .int th_isMore, .int th_told0, x_th_from, x_th_to, .ref q_th_undone, .int th_undos, x_th_aside, .int th_beganOn, .int th_beganIn, .int th_first, .int th_second, x_th_seenCell, x_th_seenNight, .int th_seens, .int th_above, .int th_below, x_th_kept, .int th_keeps])), (q_th_told, .inl (cI, 54, .inl th_told)), (q_th_now, .inl (cI, 28, .inl th_now)), (q_th_undone, .inl (cI, 224, .inl th_undone))]) (wr := [(q_th_now, .inl (cI, 28, .inl th_now)), (q_th_undone, .inl (cI, 224, .inl th_undone))]) S0 hK hN hA hP hD hS (kX8_isCell l dC dI cI q_th q_th_told _ (.ref q_th_now) (x_th_text) th_letters th_at (x_th_read) th_isMore th_told0 (x_th_from) (x_th_to) (.ref q_th_undone) th_undos (x_th_aside) th_beganOn th_beganIn th_first th_second (x_th_seenCell) (x_th_seenNight) th_seens th_above th_below (x_th_kept) th_keeps th_told p1 N o2 hF1) (cwV 1 hts gX8_salt_X8_isCell rfl rfl rfl ⟨rfl, hdX8_isCell⟩ ⟨Nat.le_of_ble_eq_true rfl, Nat.le_of_ble_eq_true rfl⟩) [0, 1] [2, 3] [2, 3, 0, 1] rfl rfl rfl rfl 0 8 rfl rfl rfl rfl hl.1 rfl (Nat.le_of_ble_eq_true rfl) dX8_salt_2 (fun H locs hP hD hS => ?_)
  refine lv_if_ne (tgt := 10) hx hb dX8_salt_5 (by decide) (fun hc => ?_) (fun hc => ?_)
  · have hF := ng_f hc hF
    refine lv_aload_n hx hb dX8_salt_10 rfl (lv_at hl 0 rfl) ?_
    refine lv_iload_n hx hb dX8_salt_11 rfl (lv_at hl 1 rfl) ?_
    obtain ⟨o12, hF1, hF⟩ := ng_b hF
    refine nx_callVi (As := [.int p1]) (rest := []) (W1 := [(q_th, .inr (8, [.ref q_th_told, .ref q_th_now, x_th_text, .int th_letters, .int th_at, x_th_read, .int th_isMore, .int th_told0, x_th_from, x_th_to, .ref q_th_undone, .int th_undos, x_th_aside, .int th_beganOn, .int th_beganIn, .int th_first, .int th_second, x_th_seenCell, x_th_seenNight, .int th_seens, .int th_above, .int th_below, x_th_kept, .int th_keeps])), (q_th_told, .inl (cI, 54, .inl th_told)), (q_th_now, .inl (cI, 28, .inl th_now)), (q_th_undone, .inl (cI, 224, .inl th_undone))]) (wr := [(q_th_told, .inl (cI, 54, .inl th_told)), (q_th_undone, .inl (cI, 224, .inl th_undone))]) S0 hK hN hA hP hD hS (kX8_kind l dC dI cI q_th q_th_now _ (.ref q_th_told) (x_th_text) th_letters th_at (x_th_read) th_isMore th_told0 (x_th_from) (x_th_to) (.ref q_th_undone) th_undos (x_th_aside) th_beganOn th_beganIn th_first th_second (x_th_seenCell) (x_th_seenNight) th_seens th_above th_below (x_th_kept) th_keeps th_now p1 N o12 hF1) (cwV 1 hts gX8_salt_X8_kind rfl rfl rfl ⟨rfl, hdX8_kind⟩ ⟨Nat.le_of_ble_eq_true rfl, Nat.le_of_ble_eq_true rfl⟩) [0, 2] [1, 3] [2, 0, 3, 1] rfl rfl rfl rfl 0 8 rfl rfl rfl rfl hl.1 rfl (Nat.le_of_ble_eq_true rfl) dX8_salt_12 (fun H locs hP hD hS => ?_)
    refine lv_istore_n (lv' := [(2, .int o12), (0, .ref q_th), (1, .int p1)]) hx hb dX8_salt_15 rfl hl (by decide) rfl (fun ls hl => ?_)
    refine lv_iload_n hx hb dX8_salt_16 rfl (lv_at hl 0 rfl) ?_
    refine lv_iconst (v := (nI 1)) hx hb dX8_salt_17 (by decide) ?_
    refine lv_icmp_eq (tgt := 36) hx hb dX8_salt_18 (by decide) (fun hc => ?_) (fun hc => ?_)
    · have hF := ng_t hc hF
      refine lv_bipush (v := (-2 : Int32)) hx hb dX8_salt_36 (by decide) ?_
      exact hret (-2 : Int32) th_undos th_now th_undone _ _ _ _ hF dX8_salt_38 hP hD hS
    · have hF := ng_f hc hF
      refine lv_iload_n hx hb dX8_salt_21 rfl (lv_at hl 0 rfl) ?_
      refine lv_iconst (v := (nI 2)) hx hb dX8_salt_22 (by decide) ?_
      refine lv_icmp_eq (tgt := 36) hx hb dX8_salt_23 (by decide) (fun hc => ?_) (fun hc => ?_)
      · have hF := ng_t hc hF
        refine lv_bipush (v := (-2 : Int32)) hx hb dX8_salt_36 (by decide) ?_
        exact hret (-2 : Int32) th_undos th_now th_undone _ _ _ _ hF dX8_salt_38 hP hD hS
      · have hF := ng_f hc hF
        refine lv_aload_n hx hb dX8_salt_26 rfl (lv_at hl 1 rfl) ?_
        refine nx_get S0 hK hP 0 1 hin_X8 hf_13 rfl rfl (by decide) rfl rfl dX8_salt_27 ?_
        refine lv_iconst (v := (nI 1)) hx hb dX8_salt_30 (by decide) ?_
        refine nx_iald S0 hK hP 2 (v := th_now 1) rfl (by decide) rfl dX8_salt_31 ?_
        refine lv_iload_n hx hb dX8_salt_32 rfl (lv_at hl 2 rfl) ?_
        refine lv_icmp_ne (tgt := 39) hx hb dX8_salt_33 (by decide) (fun hc => ?_) (fun hc => ?_)
        · have hF := ng_f hc hF
          refine lv_aload_n hx hb dX8_salt_39 rfl (lv_at hl 1 rfl) ?_
          obtain ⟨o40, hF1, hF⟩ := ng_b hF
          refine nx_callVv (As := []) (rest := []) (W1 := [(q_th, .inr (8, [.ref q_th_told, .ref q_th_now, x_th_text, .int th_letters, .int th_at, x_th_read, .int th_isMore, .int th_told0, x_th_from, x_th_to, .ref q_th_undone, .int o40.1, x_th_aside, .int th_beganOn, .int th_beganIn, .int th_first, .int th_second, x_th_seenCell, x_th_seenNight, .int th_seens, .int th_above, .int th_below, x_th_kept, .int th_keeps])), (q_th_told, .inl (cI, 54, .inl th_told)), (q_th_now, .inl (cI, 28, .inl th_now)), (q_th_undone, .inl (cI, 224, .inl o40.2))]) (wr := [(q_th_told, .inl (cI, 54, .inl th_told))]) S0 hK hN hA hP hD hS (kX8_notes l dC dI cI q_th q_th_undone q_th_now _ (.ref q_th_told) (x_th_text) th_letters th_at (x_th_read) th_isMore th_told0 (x_th_from) (x_th_to) th_undos (x_th_aside) th_beganOn th_beganIn th_first th_second (x_th_seenCell) (x_th_seenNight) th_seens th_above th_below (x_th_kept) th_keeps th_undone th_now N o40 hF1) (cwV 0 hts gX8_salt_X8_notes rfl rfl rfl ⟨rfl, hdX8_notes⟩ ⟨Nat.le_of_ble_eq_true rfl, Nat.le_of_ble_eq_true rfl⟩) [0, 3, 2] [1] [1, 0, 3, 2] rfl rfl rfl rfl 0 8 rfl rfl rfl rfl hl.1 rfl (Nat.le_of_ble_eq_true rfl) dX8_salt_40 (fun H locs hP hD hS => ?_)
          refine lv_aload_n hx hb dX8_salt_43 rfl (lv_at hl 1 rfl) ?_
          refine nx_get S0 hK hP 0 1 hin_X8 hf_13 rfl rfl (by decide) rfl rfl dX8_salt_44 ?_
          refine lv_iconst (v := (nI 3)) hx hb dX8_salt_47 (by decide) ?_
          refine lv_iload_n hx hb dX8_salt_48 rfl (lv_at hl 2 rfl) ?_
          refine lv_iadd hx hb dX8_salt_49 ?_
          refine lv_iconst (v := (nI 2)) hx hb dX8_salt_50 (by decide) ?_
          have hg := ng_p hF
          have hF := ng_x hF
          refine nx_iast S0 hK hP hD hS 2 rfl hg dX8_salt_51 (W1 := [(q_th, .inr (8, [.ref q_th_told, .ref q_th_now, x_th_text, .int th_letters, .int th_at, x_th_read, .int th_isMore, .int th_told0, x_th_from, x_th_to, .ref q_th_undone, .int o40.1, x_th_aside, .int th_beganOn, .int th_beganIn, .int th_first, .int th_second, x_th_seenCell, x_th_seenNight, .int th_seens, .int th_above, .int th_below, x_th_kept, .int th_keeps])), (q_th_told, .inl (cI, 54, .inl th_told)), (q_th_now, .inl (cI, 28, .inl (upd th_now (((nI 3) + p1).toNatClampNeg) (nI 2)))), (q_th_undone, .inl (cI, 224, .inl o40.2))]) rfl (fun H locs hP hD hS => ?_)
          refine lv_iload_n hx hb dX8_salt_52 rfl (lv_at hl 0 rfl) ?_
          exact hret o12 o40.1 (upd th_now (((nI 3) + p1).toNatClampNeg) (nI 2)) o40.2 _ _ _ _ hF dX8_salt_53 hP hD hS
        · have hF := ng_t hc hF
          refine lv_bipush (v := (-2 : Int32)) hx hb dX8_salt_36 (by decide) ?_
          exact hret (-2 : Int32) th_undos th_now th_undone _ _ _ _ hF dX8_salt_38 hP hD hS
  · have hF := ng_t hc hF
    refine lv_iconst (v := (-1 : Int32)) hx hb dX8_salt_8 (by decide) ?_
    exact hret (-1 : Int32) th_undos th_now th_undone _ _ _ _ hF dX8_salt_9 hP hD hS
theorem hdX8_stone : yX8_stone.cls ≠ "java/lang/invoke/MethodHandle" ∧ yX8_stone.cls ≠ "java/lang/invoke/VarHandle" ∧ (parseMethodDescriptor yX8_stone.desc).map (fun d => d.parameters.length) = some 2 := by decide +kernel
set_option maxHeartbeats 40000000 in
set_option maxRecDepth 100000 in
theorem kX8_stone (l : Launch) (dC : Nat → ClassId) (dI : Nat → Nat → Nat) (cI : ClassId) (q_th : Nat) (q_th_told : Nat) (q_th_now : Nat) (q_th_undone : Nat) (sz : Nat) (x_th_text : Value) (th_letters : Int32) (th_at : Int32) (x_th_read : Value) (th_isMore : Int32) (th_told0 : Int32) (x_th_from : Value) (x_th_to : Value) (th_undos : Int32) (x_th_aside : Value) (th_beganOn : Int32) (th_beganIn : Int32) (th_first : Int32) (th_second : Int32) (x_th_seenCell : Value) (x_th_seenNight : Value) (th_seens : Int32) (th_above : Int32) (th_below : Int32) (x_th_kept : Value) (th_keeps : Int32) (th_told : Nat → Int32) (th_now : Nat → Int32) (th_undone : Nat → Int32) (p1 : Int32) (p2 : Int32) (N : Nat) (o : Int32 × Int32 × (Nat → Int32) × (Nat → Int32)) (hF : fX8_stone N th_undos p1 p2 th_told th_now th_undone = some o) : nx_I l yX8_stone wsX8_stone ({ frames := 2, cells := 0, slots := 0, locals := 46 } : Room) (dC, dI) cI [.ref q_th, .int p1, .int p2] [(q_th, .inr (8, [.ref q_th_told, .ref q_th_now, x_th_text, .int th_letters, .int th_at, x_th_read, .int th_isMore, .int th_told0, x_th_from, x_th_to, .ref q_th_undone, .int th_undos, x_th_aside, .int th_beganOn, .int th_beganIn, .int th_first, .int th_second, x_th_seenCell, x_th_seenNight, .int th_seens, .int th_above, .int th_below, x_th_kept, .int th_keeps])), (q_th_told, .inl (cI, 54, .inl th_told)), (q_th_now, .inl (cI, 28, .inl th_now)), (q_th_undone, .inl (cI, 224, .inl th_undone))] sz o.1 [(q_th, .inr (8, [.ref q_th_told, .ref q_th_now, x_th_text, .int th_letters, .int th_at, x_th_read, .int th_isMore, .int th_told0, x_th_from, x_th_to, .ref q_th_undone, .int o.2.1, x_th_aside, .int th_beganOn, .int th_beganIn, .int th_first, .int th_second, x_th_seenCell, x_th_seenNight, .int th_seens, .int th_above, .int th_below, x_th_kept, .int th_keeps])), (q_th_told, .inl (cI, 54, .inl th_told)), (q_th_now, .inl (cI, 28, .inl o.2.2.1)), (q_th_undone, .inl (cI, 224, .inl o.2.2.2))] := by
  refine nx_int (cc := cX8_stone) (maxL := 3) (by decide) rfl (Nat.le_of_ble_eq_true rfl) ?_
  intro p e s m args below meth c Q A S0 hK hN hA ret0 hP hD hS ls hl
  have S0 : CallFix p m c cX8_stone 3 s args wsX8_stone RX8 := S0
  have hx := S0.1
  have hb := S0.2.1
  have hown := S0.2.2.2.1
  have hts := S0.2.2.2.2
  have hf_13 := hts (.fieldLink RX8 13 "SnailsYearModel" "now" "[I") (by decide +kernel)
  have hin_X8 : ∀ w ∈ wsX80, w ∈ wsX8_stone := by decide +kernel
  have hl : lv_has ls 3 [(0, .ref q_th), (1, .int p1), (2, .int p2)] := hl
  have hret : ∀ (r0 : Int32) (y0 : Int32) (y1 : Nat → Int32) (y2 : Nat → Int32) (H : Heap) (locs : List Loc) (ls : Array Slot) (pc : Nat), some (r0, y0, y1, y2) = some o → decode cX8_stone pc = .ok (.ireturn, 1) → va_P (dC, dI) vwCl [(q_th, .inr (8, [.ref q_th_told, .ref q_th_now, x_th_text, .int th_letters, .int th_at, x_th_read, .int th_isMore, .int th_told0, x_th_from, x_th_to, .ref q_th_undone, .int y0, x_th_aside, .int th_beganOn, .int th_beganIn, .int th_first, .int th_second, x_th_seenCell, x_th_seenNight, .int th_seens, .int th_above, .int th_below, x_th_kept, .int th_keeps])), (q_th_told, .inl (cI, 54, .inl th_told)), (q_th_now, .inl (cI, 28, .inl y1)), (q_th_undone, .inl (cI, 224, .inl y2))] H → va_D A [(q_th, .inr (8, [.ref q_th_told, .ref q_th_now, x_th_text, .int th_letters, .int th_at, x_th_read, .int th_isMore, .int th_told0, x_th_from, x_th_to, .ref q_th_undone, .int y0, x_th_aside, .int th_beganOn, .int th_beganIn, .int th_first, .int th_second, x_th_seenCell, x_th_seenNight, .int th_seens, .int th_above, .int th_below, x_th_kept, .int th_keeps])), (q_th_told, .inl (cI, 54, .inl th_told)), (q_th_now, .inl (cI, 28, .inl y1)), (q_th_undone, .inl (cI, 224, .inl y2))] → va_S A s.heap H locs → W p l e ({ frames := 2, cells := 0, slots := 0, locals := 46 } : Room) s m args below meth c H locs 0 0 Q (F0 m pc ls [.int r0]) := by
    intro r0 y0 y1 y2 H locs ls pc ho hd hP hD hS
    cases ho
    exact ret0 H locs ls pc hd hP hD hS
  rw [fX8_stone_e] at hF
  refine lv_aload_n hx hb dX8_stone_0 rfl (lv_at hl 0 rfl) ?_
  refine lv_iload_n hx hb dX8_stone_1 rfl (lv_at hl 1 rfl) ?_
  obtain ⟨o2, hF1, hF⟩ := ng_b hF
  refine nx_callVi (As := [.int p1]) (rest := []) (W1 := [(q_th, .inr (8, [.ref q_th_told, .ref q_th_now, x_th_text, .int th_letters, .int th_at, x_th_read, .int th_isMore, .int th_told0, x_th_from, x_th_to, .ref q_th_undone, .int th_undos, x_th_aside, .int th_beganOn, .int th_beganIn, .int th_first, .int th_second, x_th_seenCell, x_th_seenNight, .int th_seens, .int th_above, .int th_below, x_th_kept, .int th_keeps])), (q_th_told, .inl (cI, 54, .inl th_told)), (q_th_now, .inl (cI, 28, .inl th_now)), (q_th_undone, .inl (cI, 224, .inl th_undone))]) (wr := [(q_th_now, .inl (cI, 28, .inl th_now)), (q_th_undone, .inl (cI, 224, .inl th_undone))]) S0 hK hN hA hP hD hS (kX8_isCell l dC dI cI q_th q_th_told _ (.ref q_th_now) (x_th_text) th_letters th_at (x_th_read) th_isMore th_told0 (x_th_from) (x_th_to) (.ref q_th_undone) th_undos (x_th_aside) th_beganOn th_beganIn th_first th_second (x_th_seenCell) (x_th_seenNight) th_seens th_above th_below (x_th_kept) th_keeps th_told p1 N o2 hF1) (cwV 1 hts gX8_stone_X8_isCell rfl rfl rfl ⟨rfl, hdX8_isCell⟩ ⟨Nat.le_of_ble_eq_true rfl, Nat.le_of_ble_eq_true rfl⟩) [0, 1] [2, 3] [2, 3, 0, 1] rfl rfl rfl rfl 0 8 rfl rfl rfl rfl hl.1 rfl (Nat.le_of_ble_eq_true rfl) dX8_stone_2 (fun H locs hP hD hS => ?_)
  refine lv_if_eq (tgt := 16) hx hb dX8_stone_5 (by decide) (fun hc => ?_) (fun hc => ?_)
  · have hF := ng_t hc hF
    refine lv_iconst (v := (-1 : Int32)) hx hb dX8_stone_16 (by decide) ?_
    exact hret (-1 : Int32) th_undos th_now th_undone _ _ _ _ hF dX8_stone_17 hP hD hS
  · have hF := ng_f hc hF
    refine lv_aload_n hx hb dX8_stone_8 rfl (lv_at hl 0 rfl) ?_
    refine lv_iload_n hx hb dX8_stone_9 rfl (lv_at hl 2 rfl) ?_
    obtain ⟨o10, hF1, hF⟩ := ng_b hF
    refine nx_callVi (As := [.int p2]) (rest := []) (W1 := [(q_th, .inr (8, [.ref q_th_told, .ref q_th_now, x_th_text, .int th_letters, .int th_at, x_th_read, .int th_isMore, .int th_told0, x_th_from, x_th_to, .ref q_th_undone, .int th_undos, x_th_aside, .int th_beganOn, .int th_beganIn, .int th_first, .int th_second, x_th_seenCell, x_th_seenNight, .int th_seens, .int th_above, .int th_below, x_th_kept, .int th_keeps])), (q_th_told, .inl (cI, 54, .inl th_told)), (q_th_now, .inl (cI, 28, .inl th_now)), (q_th_undone, .inl (cI, 224, .inl th_undone))]) (wr := [(q_th_now, .inl (cI, 28, .inl th_now)), (q_th_undone, .inl (cI, 224, .inl th_undone))]) S0 hK hN hA hP hD hS (kX8_isCell l dC dI cI q_th q_th_told _ (.ref q_th_now) (x_th_text) th_letters th_at (x_th_read) th_isMore th_told0 (x_th_from) (x_th_to) (.ref q_th_undone) th_undos (x_th_aside) th_beganOn th_beganIn th_first th_second (x_th_seenCell) (x_th_seenNight) th_seens th_above th_below (x_th_kept) th_keeps th_told p2 N o10 hF1) (cwV 1 hts gX8_stone_X8_isCell rfl rfl rfl ⟨rfl, hdX8_isCell⟩ ⟨Nat.le_of_ble_eq_true rfl, Nat.le_of_ble_eq_true rfl⟩) [0, 1] [2, 3] [2, 3, 0, 1] rfl rfl rfl rfl 0 8 rfl rfl rfl rfl hl.1 rfl (Nat.le_of_ble_eq_true rfl) dX8_stone_10 (fun H locs hP hD hS => ?_)
    refine lv_if_ne (tgt := 18) hx hb dX8_stone_13 (by decide) (fun hc => ?_) (fun hc => ?_)
    · have hF := ng_f hc hF
      refine lv_aload_n hx hb dX8_stone_18 rfl (lv_at hl 0 rfl) ?_
      refine lv_iload_n hx hb dX8_stone_19 rfl (lv_at hl 1 rfl) ?_
      obtain ⟨o20, hF1, hF⟩ := ng_b hF
      refine nx_callVi (As := [.int p1]) (rest := []) (W1 := [(q_th, .inr (8, [.ref q_th_told, .ref q_th_now, x_th_text, .int th_letters, .int th_at, x_th_read, .int th_isMore, .int th_told0, x_th_from, x_th_to, .ref q_th_undone, .int th_undos, x_th_aside, .int th_beganOn, .int th_beganIn, .int th_first, .int th_second, x_th_seenCell, x_th_seenNight, .int th_seens, .int th_above, .int th_below, x_th_kept, .int th_keeps])), (q_th_told, .inl (cI, 54, .inl th_told)), (q_th_now, .inl (cI, 28, .inl th_now)), (q_th_undone, .inl (cI, 224, .inl th_undone))]) (wr := [(q_th_told, .inl (cI, 54, .inl th_told)), (q_th_undone, .inl (cI, 224, .inl th_undone))]) S0 hK hN hA hP hD hS (kX8_kind l dC dI cI q_th q_th_now _ (.ref q_th_told) (x_th_text) th_letters th_at (x_th_read) th_isMore th_told0 (x_th_from) (x_th_to) (.ref q_th_undone) th_undos (x_th_aside) th_beganOn th_beganIn th_first th_second (x_th_seenCell) (x_th_seenNight) th_seens th_above th_below (x_th_kept) th_keeps th_now p1 N o20 hF1) (cwV 1 hts gX8_stone_X8_kind rfl rfl rfl ⟨rfl, hdX8_kind⟩ ⟨Nat.le_of_ble_eq_true rfl, Nat.le_of_ble_eq_true rfl⟩) [0, 2] [1, 3] [2, 0, 3, 1] rfl rfl rfl rfl 0 8 rfl rfl rfl rfl hl.1 rfl (Nat.le_of_ble_eq_true rfl) dX8_stone_20 (fun H locs hP hD hS => ?_)
      refine lv_iconst (v := (nI 1)) hx hb dX8_stone_23 (by decide) ?_
      refine lv_icmp_ne (tgt := 45) hx hb dX8_stone_24 (by decide) (fun hc => ?_) (fun hc => ?_)
      · have hF := ng_f hc hF
        refine lv_bipush (v := (-2 : Int32)) hx hb dX8_stone_45 (by decide) ?_
        exact hret (-2 : Int32) th_undos th_now th_undone _ _ _ _ hF dX8_stone_47 hP hD hS
      · have hF := ng_t hc hF
        refine lv_aload_n hx hb dX8_stone_27 rfl (lv_at hl 0 rfl) ?_
        refine lv_iload_n hx hb dX8_stone_28 rfl (lv_at hl 2 rfl) ?_
        obtain ⟨o29, hF1, hF⟩ := ng_b hF
        refine nx_callVi (As := [.int p2]) (rest := []) (W1 := [(q_th, .inr (8, [.ref q_th_told, .ref q_th_now, x_th_text, .int th_letters, .int th_at, x_th_read, .int th_isMore, .int th_told0, x_th_from, x_th_to, .ref q_th_undone, .int th_undos, x_th_aside, .int th_beganOn, .int th_beganIn, .int th_first, .int th_second, x_th_seenCell, x_th_seenNight, .int th_seens, .int th_above, .int th_below, x_th_kept, .int th_keeps])), (q_th_told, .inl (cI, 54, .inl th_told)), (q_th_now, .inl (cI, 28, .inl th_now)), (q_th_undone, .inl (cI, 224, .inl th_undone))]) (wr := [(q_th_told, .inl (cI, 54, .inl th_told)), (q_th_undone, .inl (cI, 224, .inl th_undone))]) S0 hK hN hA hP hD hS (kX8_kind l dC dI cI q_th q_th_now _ (.ref q_th_told) (x_th_text) th_letters th_at (x_th_read) th_isMore th_told0 (x_th_from) (x_th_to) (.ref q_th_undone) th_undos (x_th_aside) th_beganOn th_beganIn th_first th_second (x_th_seenCell) (x_th_seenNight) th_seens th_above th_below (x_th_kept) th_keeps th_now p2 N o29 hF1) (cwV 1 hts gX8_stone_X8_kind rfl rfl rfl ⟨rfl, hdX8_kind⟩ ⟨Nat.le_of_ble_eq_true rfl, Nat.le_of_ble_eq_true rfl⟩) [0, 2] [1, 3] [2, 0, 3, 1] rfl rfl rfl rfl 0 8 rfl rfl rfl rfl hl.1 rfl (Nat.le_of_ble_eq_true rfl) dX8_stone_29 (fun H locs hP hD hS => ?_)
        refine lv_if_ne (tgt := 45) hx hb dX8_stone_32 (by decide) (fun hc => ?_) (fun hc => ?_)
        · have hF := ng_f hc hF
          refine lv_bipush (v := (-2 : Int32)) hx hb dX8_stone_45 (by decide) ?_
          exact hret (-2 : Int32) th_undos th_now th_undone _ _ _ _ hF dX8_stone_47 hP hD hS
        · have hF := ng_t hc hF
          refine lv_aload_n hx hb dX8_stone_35 rfl (lv_at hl 0 rfl) ?_
          refine nx_get S0 hK hP 0 1 hin_X8 hf_13 rfl rfl (by decide) rfl rfl dX8_stone_36 ?_
          refine lv_iconst (v := (nI 1)) hx hb dX8_stone_39 (by decide) ?_
          refine nx_iald S0 hK hP 2 (v := th_now 1) rfl (by decide) rfl dX8_stone_40 ?_
          refine lv_iload_n hx hb dX8_stone_41 rfl (lv_at hl 2 rfl) ?_
          refine lv_icmp_ne (tgt := 48) hx hb dX8_stone_42 (by decide) (fun hc => ?_) (fun hc => ?_)
          · have hF := ng_f hc hF
            refine lv_aload_n hx hb dX8_stone_48 rfl (lv_at hl 0 rfl) ?_
            obtain ⟨o49, hF1, hF⟩ := ng_b hF
            refine nx_callVv (As := []) (rest := []) (W1 := [(q_th, .inr (8, [.ref q_th_told, .ref q_th_now, x_th_text, .int th_letters, .int th_at, x_th_read, .int th_isMore, .int th_told0, x_th_from, x_th_to, .ref q_th_undone, .int o49.1, x_th_aside, .int th_beganOn, .int th_beganIn, .int th_first, .int th_second, x_th_seenCell, x_th_seenNight, .int th_seens, .int th_above, .int th_below, x_th_kept, .int th_keeps])), (q_th_told, .inl (cI, 54, .inl th_told)), (q_th_now, .inl (cI, 28, .inl th_now)), (q_th_undone, .inl (cI, 224, .inl o49.2))]) (wr := [(q_th_told, .inl (cI, 54, .inl th_told))]) S0 hK hN hA hP hD hS (kX8_notes l dC dI cI q_th q_th_undone q_th_now _ (.ref q_th_told) (x_th_text) th_letters th_at (x_th_read) th_isMore th_told0 (x_th_from) (x_th_to) th_undos (x_th_aside) th_beganOn th_beganIn th_first th_second (x_th_seenCell) (x_th_seenNight) th_seens th_above th_below (x_th_kept) th_keeps th_undone th_now N o49 hF1) (cwV 0 hts gX8_stone_X8_notes rfl rfl rfl ⟨rfl, hdX8_notes⟩ ⟨Nat.le_of_ble_eq_true rfl, Nat.le_of_ble_eq_true rfl⟩) [0, 3, 2] [1] [1, 0, 3, 2] rfl rfl rfl rfl 0 8 rfl rfl rfl rfl hl.1 rfl (Nat.le_of_ble_eq_true rfl) dX8_stone_49 (fun H locs hP hD hS => ?_)
            refine lv_aload_n hx hb dX8_stone_52 rfl (lv_at hl 0 rfl) ?_
            refine nx_get S0 hK hP 0 1 hin_X8 hf_13 rfl rfl (by decide) rfl rfl dX8_stone_53 ?_
            refine lv_iconst (v := (nI 3)) hx hb dX8_stone_56 (by decide) ?_
            refine lv_iload_n hx hb dX8_stone_57 rfl (lv_at hl 1 rfl) ?_
            refine lv_iadd hx hb dX8_stone_58 ?_
            refine lv_iconst (v := (nI 0)) hx hb dX8_stone_59 (by decide) ?_
            have hg := ng_p hF
            have hF := ng_x hF
            refine nx_iast S0 hK hP hD hS 2 rfl hg dX8_stone_60 (W1 := [(q_th, .inr (8, [.ref q_th_told, .ref q_th_now, x_th_text, .int th_letters, .int th_at, x_th_read, .int th_isMore, .int th_told0, x_th_from, x_th_to, .ref q_th_undone, .int o49.1, x_th_aside, .int th_beganOn, .int th_beganIn, .int th_first, .int th_second, x_th_seenCell, x_th_seenNight, .int th_seens, .int th_above, .int th_below, x_th_kept, .int th_keeps])), (q_th_told, .inl (cI, 54, .inl th_told)), (q_th_now, .inl (cI, 28, .inl (upd th_now (((nI 3) + p1).toNatClampNeg) (nI 0)))), (q_th_undone, .inl (cI, 224, .inl o49.2))]) rfl (fun H locs hP hD hS => ?_)
            refine lv_aload_n hx hb dX8_stone_61 rfl (lv_at hl 0 rfl) ?_
            refine nx_get S0 hK hP 0 1 hin_X8 hf_13 rfl rfl (by decide) rfl rfl dX8_stone_62 ?_
            refine lv_iconst (v := (nI 3)) hx hb dX8_stone_65 (by decide) ?_
            refine lv_iload_n hx hb dX8_stone_66 rfl (lv_at hl 2 rfl) ?_
            refine lv_iadd hx hb dX8_stone_67 ?_
            refine lv_iconst (v := (nI 1)) hx hb dX8_stone_68 (by decide) ?_
            have hg := ng_p hF
            have hF := ng_x hF
            refine nx_iast S0 hK hP hD hS 2 rfl hg dX8_stone_69 (W1 := [(q_th, .inr (8, [.ref q_th_told, .ref q_th_now, x_th_text, .int th_letters, .int th_at, x_th_read, .int th_isMore, .int th_told0, x_th_from, x_th_to, .ref q_th_undone, .int o49.1, x_th_aside, .int th_beganOn, .int th_beganIn, .int th_first, .int th_second, x_th_seenCell, x_th_seenNight, .int th_seens, .int th_above, .int th_below, x_th_kept, .int th_keeps])), (q_th_told, .inl (cI, 54, .inl th_told)), (q_th_now, .inl (cI, 28, .inl (upd (upd th_now (((nI 3) + p1).toNatClampNeg) (nI 0)) (((nI 3) + p2).toNatClampNeg) (nI 1)))), (q_th_undone, .inl (cI, 224, .inl o49.2))]) rfl (fun H locs hP hD hS => ?_)
            refine lv_aload_n hx hb dX8_stone_70 rfl (lv_at hl 0 rfl) ?_
            refine lv_iconst (v := (nI 1)) hx hb dX8_stone_71 (by decide) ?_
            obtain ⟨o72, hF1, hF⟩ := ng_b hF
            refine nx_callVi (As := [.int (nI 1)]) (rest := []) (W1 := [(q_th, .inr (8, [.ref q_th_told, .ref q_th_now, x_th_text, .int th_letters, .int th_at, x_th_read, .int th_isMore, .int th_told0, x_th_from, x_th_to, .ref q_th_undone, .int o49.1, x_th_aside, .int th_beganOn, .int th_beganIn, .int th_first, .int th_second, x_th_seenCell, x_th_seenNight, .int th_seens, .int th_above, .int th_below, x_th_kept, .int th_keeps])), (q_th_told, .inl (cI, 54, .inl th_told)), (q_th_now, .inl (cI, 28, .inl (upd (upd th_now (((nI 3) + p1).toNatClampNeg) (nI 0)) (((nI 3) + p2).toNatClampNeg) (nI 1)))), (q_th_undone, .inl (cI, 224, .inl o49.2))]) (wr := [(q_th_undone, .inl (cI, 224, .inl o49.2))]) S0 hK hN hA hP hD hS (kX8_many l dC dI cI q_th q_th_told q_th_now _ (x_th_text) th_letters th_at (x_th_read) th_isMore th_told0 (x_th_from) (x_th_to) (.ref q_th_undone) o49.1 (x_th_aside) th_beganOn th_beganIn th_first th_second (x_th_seenCell) (x_th_seenNight) th_seens th_above th_below (x_th_kept) th_keeps th_told (upd (upd th_now (((nI 3) + p1).toNatClampNeg) (nI 0)) (((nI 3) + p2).toNatClampNeg) (nI 1)) (nI 1) N o72 hF1) (cwV 1 hts gX8_stone_X8_many rfl rfl rfl ⟨rfl, hdX8_many⟩ ⟨Nat.le_of_ble_eq_true rfl, Nat.le_of_ble_eq_true rfl⟩) [0, 1, 2] [3] [1, 2, 3, 0] rfl rfl rfl rfl 0 8 rfl rfl rfl rfl hl.1 rfl (Nat.le_of_ble_eq_true rfl) dX8_stone_72 (fun H locs hP hD hS => ?_)
            exact hret o72 o49.1 (upd (upd th_now (((nI 3) + p1).toNatClampNeg) (nI 0)) (((nI 3) + p2).toNatClampNeg) (nI 1)) o49.2 _ _ _ _ hF dX8_stone_75 hP hD hS
          · have hF := ng_t hc hF
            refine lv_bipush (v := (-2 : Int32)) hx hb dX8_stone_45 (by decide) ?_
            exact hret (-2 : Int32) th_undos th_now th_undone _ _ _ _ hF dX8_stone_47 hP hD hS
    · have hF := ng_t hc hF
      refine lv_iconst (v := (-1 : Int32)) hx hb dX8_stone_16 (by decide) ?_
      exact hret (-1 : Int32) th_undos th_now th_undone _ _ _ _ hF dX8_stone_17 hP hD hS
theorem hdX8_undo : yX8_undo.cls ≠ "java/lang/invoke/MethodHandle" ∧ yX8_undo.cls ≠ "java/lang/invoke/VarHandle" ∧ (parseMethodDescriptor yX8_undo.desc).map (fun d => d.parameters.length) = some 0 := by decide +kernel
set_option maxHeartbeats 40000000 in
set_option maxRecDepth 100000 in
theorem kX8_undo (l : Launch) (dC : Nat → ClassId) (dI : Nat → Nat → Nat) (cI : ClassId) (q_th : Nat) (q_th_now : Nat) (q_th_undone : Nat) (sz : Nat) (x_th_told : Value) (x_th_text : Value) (th_letters : Int32) (th_at : Int32) (x_th_read : Value) (th_isMore : Int32) (th_told0 : Int32) (x_th_from : Value) (x_th_to : Value) (th_undos : Int32) (x_th_aside : Value) (th_beganOn : Int32) (th_beganIn : Int32) (th_first : Int32) (th_second : Int32) (x_th_seenCell : Value) (x_th_seenNight : Value) (th_seens : Int32) (th_above : Int32) (th_below : Int32) (x_th_kept : Value) (th_keeps : Int32) (th_now : Nat → Int32) (th_undone : Nat → Int32) (N : Nat) (o : Int32 × Int32 × (Nat → Int32)) (hF : fX8_undo N th_undos th_now th_undone = some o) : nx_I l yX8_undo wsX8_undo ({ frames := 0, cells := 0, slots := 0, locals := 0 } : Room) (dC, dI) cI [.ref q_th] [(q_th, .inr (8, [x_th_told, .ref q_th_now, x_th_text, .int th_letters, .int th_at, x_th_read, .int th_isMore, .int th_told0, x_th_from, x_th_to, .ref q_th_undone, .int th_undos, x_th_aside, .int th_beganOn, .int th_beganIn, .int th_first, .int th_second, x_th_seenCell, x_th_seenNight, .int th_seens, .int th_above, .int th_below, x_th_kept, .int th_keeps])), (q_th_now, .inl (cI, 28, .inl th_now)), (q_th_undone, .inl (cI, 224, .inl th_undone))] sz o.1 [(q_th, .inr (8, [x_th_told, .ref q_th_now, x_th_text, .int th_letters, .int th_at, x_th_read, .int th_isMore, .int th_told0, x_th_from, x_th_to, .ref q_th_undone, .int o.2.1, x_th_aside, .int th_beganOn, .int th_beganIn, .int th_first, .int th_second, x_th_seenCell, x_th_seenNight, .int th_seens, .int th_above, .int th_below, x_th_kept, .int th_keeps])), (q_th_now, .inl (cI, 28, .inl o.2.2)), (q_th_undone, .inl (cI, 224, .inl th_undone))] := by
  refine nx_int (cc := cX8_undo) (maxL := 2) (by decide) rfl (Nat.le_of_ble_eq_true rfl) ?_
  intro p e s m args below meth c Q A S0 hK hN hA ret0 hP hD hS ls hl
  have S0 : CallFix p m c cX8_undo 2 s args wsX8_undo RX8 := S0
  have hx := S0.1
  have hb := S0.2.1
  have hown := S0.2.2.2.1
  have hts := S0.2.2.2.2
  have hf_109 := hts (.fieldLink RX8 109 "SnailsYearModel" "undos" "I") (by decide +kernel)
  have hin_X8 : ∀ w ∈ wsX80, w ∈ wsX8_undo := by decide +kernel
  have hf_13 := hts (.fieldLink RX8 13 "SnailsYearModel" "now" "[I") (by decide +kernel)
  have hf_28 := hts (.fieldLink RX8 28 "SnailsYearModel" "undone" "[I") (by decide +kernel)
  have hl : lv_has ls 2 [(0, .ref q_th)] := hl
  have hret : ∀ (r0 : Int32) (y0 : Int32) (y1 : Nat → Int32) (H : Heap) (locs : List Loc) (ls : Array Slot) (pc : Nat), some (r0, y0, y1) = some o → decode cX8_undo pc = .ok (.ireturn, 1) → va_P (dC, dI) vwCl [(q_th, .inr (8, [x_th_told, .ref q_th_now, x_th_text, .int th_letters, .int th_at, x_th_read, .int th_isMore, .int th_told0, x_th_from, x_th_to, .ref q_th_undone, .int y0, x_th_aside, .int th_beganOn, .int th_beganIn, .int th_first, .int th_second, x_th_seenCell, x_th_seenNight, .int th_seens, .int th_above, .int th_below, x_th_kept, .int th_keeps])), (q_th_now, .inl (cI, 28, .inl y1)), (q_th_undone, .inl (cI, 224, .inl th_undone))] H → va_D A [(q_th, .inr (8, [x_th_told, .ref q_th_now, x_th_text, .int th_letters, .int th_at, x_th_read, .int th_isMore, .int th_told0, x_th_from, x_th_to, .ref q_th_undone, .int y0, x_th_aside, .int th_beganOn, .int th_beganIn, .int th_first, .int th_second, x_th_seenCell, x_th_seenNight, .int th_seens, .int th_above, .int th_below, x_th_kept, .int th_keeps])), (q_th_now, .inl (cI, 28, .inl y1)), (q_th_undone, .inl (cI, 224, .inl th_undone))] → va_S A s.heap H locs → W p l e ({ frames := 0, cells := 0, slots := 0, locals := 0 } : Room) s m args below meth c H locs 0 0 Q (F0 m pc ls [.int r0]) := by
    intro r0 y0 y1 H locs ls pc ho hd hP hD hS
    cases ho
    exact ret0 H locs ls pc hd hP hD hS
  rw [fX8_undo_e] at hF
  refine lv_aload_n hx hb dX8_undo_0 rfl (lv_at hl 0 rfl) ?_
  refine nx_get S0 hK hP 0 11 hin_X8 hf_109 rfl rfl (by decide) rfl rfl dX8_undo_1 ?_
  refine lv_if_ne (tgt := 10) hx hb dX8_undo_4 (by decide) (fun hc => ?_) (fun hc => ?_)
  · have hF := ng_f hc hF
    refine lv_aload_n hx hb dX8_undo_10 rfl (lv_at hl 0 rfl) ?_
    refine lv_dup hx hb dX8_undo_11 rfl ?_
    refine nx_get S0 hK hP 0 11 hin_X8 hf_109 rfl rfl (by decide) rfl rfl dX8_undo_12 ?_
    refine lv_iconst (v := (nI 1)) hx hb dX8_undo_15 (by decide) ?_
    refine lv_isub hx hb dX8_undo_16 ?_
    refine nx_put S0 hK hP hD hS 0 11 hin_X8 tyX8 tyX8_ok nmX8 hf_109 rfl rfl (by decide) rfl rfl rfl rfl (Nat.le_of_ble_eq_true rfl) dX8_undo_17 (W1 := [(q_th, .inr (8, [x_th_told, .ref q_th_now, x_th_text, .int th_letters, .int th_at, x_th_read, .int th_isMore, .int th_told0, x_th_from, x_th_to, .ref q_th_undone, .int (th_undos - (nI 1)), x_th_aside, .int th_beganOn, .int th_beganIn, .int th_first, .int th_second, x_th_seenCell, x_th_seenNight, .int th_seens, .int th_above, .int th_below, x_th_kept, .int th_keeps])), (q_th_now, .inl (cI, 28, .inl th_now)), (q_th_undone, .inl (cI, 224, .inl th_undone))]) rfl (fun H locs hP hD hS => ?_)
    refine lv_iconst (v := (nI 0)) hx hb dX8_undo_20 (by decide) ?_
    have B_22 : ∀ (n_22 : Nat) (v1_22 : Int32) (th_now_22 : Nat → Int32), fX8_undo_22 th_undos th_undone n_22 v1_22 th_now_22 = some o → ∀ (H : Heap) (locs : List Loc) (ls : Array Slot), va_P (dC, dI) vwCl [(q_th, .inr (8, [x_th_told, .ref q_th_now, x_th_text, .int th_letters, .int th_at, x_th_read, .int th_isMore, .int th_told0, x_th_from, x_th_to, .ref q_th_undone, .int (th_undos - (nI 1)), x_th_aside, .int th_beganOn, .int th_beganIn, .int th_first, .int th_second, x_th_seenCell, x_th_seenNight, .int th_seens, .int th_above, .int th_below, x_th_kept, .int th_keeps])), (q_th_now, .inl (cI, 28, .inl th_now_22)), (q_th_undone, .inl (cI, 224, .inl th_undone))] H → va_D A [(q_th, .inr (8, [x_th_told, .ref q_th_now, x_th_text, .int th_letters, .int th_at, x_th_read, .int th_isMore, .int th_told0, x_th_from, x_th_to, .ref q_th_undone, .int (th_undos - (nI 1)), x_th_aside, .int th_beganOn, .int th_beganIn, .int th_first, .int th_second, x_th_seenCell, x_th_seenNight, .int th_seens, .int th_above, .int th_below, x_th_kept, .int th_keeps])), (q_th_now, .inl (cI, 28, .inl th_now_22)), (q_th_undone, .inl (cI, 224, .inl th_undone))] → va_S A s.heap H locs → lv_has ls 2 [(0, .ref q_th), (1, .int v1_22)] → W p l e ({ frames := 0, cells := 0, slots := 0, locals := 0 } : Room) s m args below meth c H locs 0 0 Q (F0 m 22 ls []) := by
      intro n_22
      induction n_22 with
      | zero =>
        intro v1_22 th_now_22 hF
        rw [fX8_undo_22_z] at hF
        cases hF
      | succ n_22 ih_22 =>
        intro v1_22 th_now_22 hF H locs ls hP hD hS hl
        rw [fX8_undo_22_s] at hF
        refine lv_iload_n hx hb dX8_undo_22 rfl (lv_at hl 1 rfl) ?_
        refine lv_bipush (v := (nI 28)) hx hb dX8_undo_23 (by decide) ?_
        refine lv_icmp_ge (tgt := 54) hx hb dX8_undo_25 (by decide) (fun hc => ?_) (fun hc => ?_)
        · have hF := ng_t hc hF
          refine lv_aload_n hx hb dX8_undo_54 rfl (lv_at hl 0 rfl) ?_
          refine nx_get S0 hK hP 0 11 hin_X8 hf_109 rfl rfl (by decide) rfl rfl dX8_undo_55 ?_
          exact hret (th_undos - (nI 1)) (th_undos - (nI 1)) th_now_22 _ _ _ _ hF dX8_undo_58 hP hD hS
        · have hF := ng_f hc hF
          refine lv_aload_n hx hb dX8_undo_28 rfl (lv_at hl 0 rfl) ?_
          refine nx_get S0 hK hP 0 1 hin_X8 hf_13 rfl rfl (by decide) rfl rfl dX8_undo_29 ?_
          refine lv_iload_n hx hb dX8_undo_32 rfl (lv_at hl 1 rfl) ?_
          refine lv_aload_n hx hb dX8_undo_33 rfl (lv_at hl 0 rfl) ?_
          refine nx_get S0 hK hP 0 10 hin_X8 hf_28 rfl rfl (by decide) rfl rfl dX8_undo_34 ?_
          refine lv_bipush (v := (nI 28)) hx hb dX8_undo_37 (by decide) ?_
          refine lv_aload_n hx hb dX8_undo_39 rfl (lv_at hl 0 rfl) ?_
          refine nx_get S0 hK hP 0 11 hin_X8 hf_109 rfl rfl (by decide) rfl rfl dX8_undo_40 ?_
          refine lv_imul hx hb dX8_undo_43 ?_
          refine lv_iload_n hx hb dX8_undo_44 rfl (lv_at hl 1 rfl) ?_
          refine lv_iadd hx hb dX8_undo_45 ?_
          have hg := ng_p hF
          have hF := ng_x hF
          refine nx_iald S0 hK hP 2 (v := th_undone ((((nI 28) * (th_undos - (nI 1))) + v1_22).toNatClampNeg)) rfl hg rfl dX8_undo_46 ?_
          have hg := ng_p hF
          have hF := ng_x hF
          refine nx_iast S0 hK hP hD hS 1 rfl hg dX8_undo_47 (W1 := [(q_th, .inr (8, [x_th_told, .ref q_th_now, x_th_text, .int th_letters, .int th_at, x_th_read, .int th_isMore, .int th_told0, x_th_from, x_th_to, .ref q_th_undone, .int (th_undos - (nI 1)), x_th_aside, .int th_beganOn, .int th_beganIn, .int th_first, .int th_second, x_th_seenCell, x_th_seenNight, .int th_seens, .int th_above, .int th_below, x_th_kept, .int th_keeps])), (q_th_now, .inl (cI, 28, .inl (upd th_now_22 v1_22.toNatClampNeg (th_undone ((((nI 28) * (th_undos - (nI 1))) + v1_22).toNatClampNeg))))), (q_th_undone, .inl (cI, 224, .inl th_undone))]) rfl (fun H locs hP hD hS => ?_)
          refine lv_iinc (v := v1_22 + (nI 1)) (lv' := [(1, .int (v1_22 + (nI 1))), (0, .ref q_th)]) hx hb dX8_undo_48 hl (k := 1) rfl rfl (by decide) rfl (fun ls hl => ?_)
          refine lv_goto (tgt := 22) hx hb dX8_undo_51 (by decide) ?_
          exact ih_22 (v1_22 + (nI 1)) (upd th_now_22 v1_22.toNatClampNeg (th_undone ((((nI 28) * (th_undos - (nI 1))) + v1_22).toNatClampNeg))) hF _ _ _ hP hD hS (lv_sub hl [1, 0] rfl)
    refine lv_istore_n (lv' := [(1, .int (nI 0)), (0, .ref q_th)]) hx hb dX8_undo_21 rfl hl (by decide) rfl (fun ls hl => ?_)
    exact B_22 N (nI 0) th_now hF _ _ _ hP hD hS (lv_sub hl [1, 0] rfl)
  · have hF := ng_t hc hF
    refine lv_bipush (v := (-2 : Int32)) hx hb dX8_undo_7 (by decide) ?_
    exact hret (-2 : Int32) th_undos th_now _ _ _ _ hF dX8_undo_9 hP hD hS
theorem hdX8_asides : yX8_asides.cls ≠ "java/lang/invoke/MethodHandle" ∧ yX8_asides.cls ≠ "java/lang/invoke/VarHandle" ∧ (parseMethodDescriptor yX8_asides.desc).map (fun d => d.parameters.length) = some 0 := by decide +kernel
set_option maxHeartbeats 40000000 in
set_option maxRecDepth 100000 in
theorem kX8_asides (l : Launch) (dC : Nat → ClassId) (dI : Nat → Nat → Nat) (cI : ClassId) (q_th : Nat) (q_th_aside : Nat) (q_th_now : Nat) (sz : Nat) (x_th_told : Value) (x_th_text : Value) (th_letters : Int32) (th_at : Int32) (x_th_read : Value) (th_isMore : Int32) (th_told0 : Int32) (x_th_from : Value) (x_th_to : Value) (x_th_undone : Value) (th_undos : Int32) (th_beganOn : Int32) (th_beganIn : Int32) (th_first : Int32) (th_second : Int32) (x_th_seenCell : Value) (x_th_seenNight : Value) (th_seens : Int32) (th_above : Int32) (th_below : Int32) (x_th_kept : Value) (th_keeps : Int32) (th_aside : Nat → Int32) (th_now : Nat → Int32) (N : Nat) (o : (Nat → Int32)) (hF : fX8_asides N th_aside th_now = some o) : nx_V l yX8_asides wsX8_asides ({ frames := 0, cells := 0, slots := 0, locals := 0 } : Room) (dC, dI) cI [.ref q_th] [(q_th, .inr (8, [x_th_told, .ref q_th_now, x_th_text, .int th_letters, .int th_at, x_th_read, .int th_isMore, .int th_told0, x_th_from, x_th_to, x_th_undone, .int th_undos, .ref q_th_aside, .int th_beganOn, .int th_beganIn, .int th_first, .int th_second, x_th_seenCell, x_th_seenNight, .int th_seens, .int th_above, .int th_below, x_th_kept, .int th_keeps])), (q_th_aside, .inl (cI, 28, .inl th_aside)), (q_th_now, .inl (cI, 28, .inl th_now))] sz [(q_th, .inr (8, [x_th_told, .ref q_th_now, x_th_text, .int th_letters, .int th_at, x_th_read, .int th_isMore, .int th_told0, x_th_from, x_th_to, x_th_undone, .int th_undos, .ref q_th_aside, .int th_beganOn, .int th_beganIn, .int th_first, .int th_second, x_th_seenCell, x_th_seenNight, .int th_seens, .int th_above, .int th_below, x_th_kept, .int th_keeps])), (q_th_aside, .inl (cI, 28, .inl o)), (q_th_now, .inl (cI, 28, .inl th_now))] := by
  refine nx_void (cc := cX8_asides) (maxL := 2) (by decide) rfl (Nat.le_of_ble_eq_true rfl) ?_
  intro p e s m args below meth c Q A S0 hK hN hA ret0 hP hD hS ls hl
  have S0 : CallFix p m c cX8_asides 2 s args wsX8_asides RX8 := S0
  have hx := S0.1
  have hb := S0.2.1
  have hown := S0.2.2.2.1
  have hts := S0.2.2.2.2
  have hf_31 := hts (.fieldLink RX8 31 "SnailsYearModel" "aside" "[I") (by decide +kernel)
  have hin_X8 : ∀ w ∈ wsX80, w ∈ wsX8_asides := by decide +kernel
  have hf_13 := hts (.fieldLink RX8 13 "SnailsYearModel" "now" "[I") (by decide +kernel)
  have hl : lv_has ls 2 [(0, .ref q_th)] := hl
  have hret : ∀ (y0 : Nat → Int32) (H : Heap) (locs : List Loc) (ls : Array Slot) (pc : Nat), some y0 = some o → decode cX8_asides pc = .ok (.return_, 1) → va_P (dC, dI) vwCl [(q_th, .inr (8, [x_th_told, .ref q_th_now, x_th_text, .int th_letters, .int th_at, x_th_read, .int th_isMore, .int th_told0, x_th_from, x_th_to, x_th_undone, .int th_undos, .ref q_th_aside, .int th_beganOn, .int th_beganIn, .int th_first, .int th_second, x_th_seenCell, x_th_seenNight, .int th_seens, .int th_above, .int th_below, x_th_kept, .int th_keeps])), (q_th_aside, .inl (cI, 28, .inl y0)), (q_th_now, .inl (cI, 28, .inl th_now))] H → va_D A [(q_th, .inr (8, [x_th_told, .ref q_th_now, x_th_text, .int th_letters, .int th_at, x_th_read, .int th_isMore, .int th_told0, x_th_from, x_th_to, x_th_undone, .int th_undos, .ref q_th_aside, .int th_beganOn, .int th_beganIn, .int th_first, .int th_second, x_th_seenCell, x_th_seenNight, .int th_seens, .int th_above, .int th_below, x_th_kept, .int th_keeps])), (q_th_aside, .inl (cI, 28, .inl y0)), (q_th_now, .inl (cI, 28, .inl th_now))] → va_S A s.heap H locs → W p l e ({ frames := 0, cells := 0, slots := 0, locals := 0 } : Room) s m args below meth c H locs 0 0 Q (F0 m pc ls []) := by
    intro y0 H locs ls pc ho hd hP hD hS
    cases ho
    exact ret0 H locs ls pc hd hP hD hS
  rw [fX8_asides_e] at hF
  refine lv_iconst (v := (nI 0)) hx hb dX8_asides_0 (by decide) ?_
  have B_2 : ∀ (n_2 : Nat) (v1_2 : Int32) (th_aside_2 : Nat → Int32), fX8_asides_2 th_now n_2 v1_2 th_aside_2 = some o → ∀ (H : Heap) (locs : List Loc) (ls : Array Slot), va_P (dC, dI) vwCl [(q_th, .inr (8, [x_th_told, .ref q_th_now, x_th_text, .int th_letters, .int th_at, x_th_read, .int th_isMore, .int th_told0, x_th_from, x_th_to, x_th_undone, .int th_undos, .ref q_th_aside, .int th_beganOn, .int th_beganIn, .int th_first, .int th_second, x_th_seenCell, x_th_seenNight, .int th_seens, .int th_above, .int th_below, x_th_kept, .int th_keeps])), (q_th_aside, .inl (cI, 28, .inl th_aside_2)), (q_th_now, .inl (cI, 28, .inl th_now))] H → va_D A [(q_th, .inr (8, [x_th_told, .ref q_th_now, x_th_text, .int th_letters, .int th_at, x_th_read, .int th_isMore, .int th_told0, x_th_from, x_th_to, x_th_undone, .int th_undos, .ref q_th_aside, .int th_beganOn, .int th_beganIn, .int th_first, .int th_second, x_th_seenCell, x_th_seenNight, .int th_seens, .int th_above, .int th_below, x_th_kept, .int th_keeps])), (q_th_aside, .inl (cI, 28, .inl th_aside_2)), (q_th_now, .inl (cI, 28, .inl th_now))] → va_S A s.heap H locs → lv_has ls 2 [(0, .ref q_th), (1, .int v1_2)] → W p l e ({ frames := 0, cells := 0, slots := 0, locals := 0 } : Room) s m args below meth c H locs 0 0 Q (F0 m 2 ls []) := by
    intro n_2
    induction n_2 with
    | zero =>
      intro v1_2 th_aside_2 hF
      rw [fX8_asides_2_z] at hF
      cases hF
    | succ n_2 ih_2 =>
      intro v1_2 th_aside_2 hF H locs ls hP hD hS hl
      rw [fX8_asides_2_s] at hF
      refine lv_iload_n hx hb dX8_asides_2 rfl (lv_at hl 1 rfl) ?_
      refine lv_bipush (v := (nI 28)) hx hb dX8_asides_3 (by decide) ?_
      refine lv_icmp_ge (tgt := 26) hx hb dX8_asides_5 (by decide) (fun hc => ?_) (fun hc => ?_)
      · have hF := ng_t hc hF
        exact hret th_aside_2 _ _ _ _ hF dX8_asides_26 hP hD hS
      · have hF := ng_f hc hF
        refine lv_aload_n hx hb dX8_asides_8 rfl (lv_at hl 0 rfl) ?_
        refine nx_get S0 hK hP 0 12 hin_X8 hf_31 rfl rfl (by decide) rfl rfl dX8_asides_9 ?_
        refine lv_iload_n hx hb dX8_asides_12 rfl (lv_at hl 1 rfl) ?_
        refine lv_aload_n hx hb dX8_asides_13 rfl (lv_at hl 0 rfl) ?_
        refine nx_get S0 hK hP 0 1 hin_X8 hf_13 rfl rfl (by decide) rfl rfl dX8_asides_14 ?_
        refine lv_iload_n hx hb dX8_asides_17 rfl (lv_at hl 1 rfl) ?_
        have hg := ng_p hF
        have hF := ng_x hF
        refine nx_iald S0 hK hP 2 (v := th_now v1_2.toNatClampNeg) rfl hg rfl dX8_asides_18 ?_
        have hg := ng_p hF
        have hF := ng_x hF
        refine nx_iast S0 hK hP hD hS 1 rfl hg dX8_asides_19 (W1 := [(q_th, .inr (8, [x_th_told, .ref q_th_now, x_th_text, .int th_letters, .int th_at, x_th_read, .int th_isMore, .int th_told0, x_th_from, x_th_to, x_th_undone, .int th_undos, .ref q_th_aside, .int th_beganOn, .int th_beganIn, .int th_first, .int th_second, x_th_seenCell, x_th_seenNight, .int th_seens, .int th_above, .int th_below, x_th_kept, .int th_keeps])), (q_th_aside, .inl (cI, 28, .inl (upd th_aside_2 v1_2.toNatClampNeg (th_now v1_2.toNatClampNeg)))), (q_th_now, .inl (cI, 28, .inl th_now))]) rfl (fun H locs hP hD hS => ?_)
        refine lv_iinc (v := v1_2 + (nI 1)) (lv' := [(1, .int (v1_2 + (nI 1))), (0, .ref q_th)]) hx hb dX8_asides_20 hl (k := 1) rfl rfl (by decide) rfl (fun ls hl => ?_)
        refine lv_goto (tgt := 2) hx hb dX8_asides_23 (by decide) ?_
        exact ih_2 (v1_2 + (nI 1)) (upd th_aside_2 v1_2.toNatClampNeg (th_now v1_2.toNatClampNeg)) hF _ _ _ hP hD hS (lv_sub hl [1, 0] rfl)
  refine lv_istore_n (lv' := [(1, .int (nI 0)), (0, .ref q_th)]) hx hb dX8_asides_1 rfl hl (by decide) rfl (fun ls hl => ?_)
  exact B_2 N (nI 0) th_aside hF _ _ _ hP hD hS (lv_sub hl [1, 0] rfl)
theorem hdX8_backs : yX8_backs.cls ≠ "java/lang/invoke/MethodHandle" ∧ yX8_backs.cls ≠ "java/lang/invoke/VarHandle" ∧ (parseMethodDescriptor yX8_backs.desc).map (fun d => d.parameters.length) = some 0 := by decide +kernel
set_option maxHeartbeats 40000000 in
set_option maxRecDepth 100000 in
theorem kX8_backs (l : Launch) (dC : Nat → ClassId) (dI : Nat → Nat → Nat) (cI : ClassId) (q_th : Nat) (q_th_now : Nat) (q_th_aside : Nat) (sz : Nat) (x_th_told : Value) (x_th_text : Value) (th_letters : Int32) (th_at : Int32) (x_th_read : Value) (th_isMore : Int32) (th_told0 : Int32) (x_th_from : Value) (x_th_to : Value) (x_th_undone : Value) (th_undos : Int32) (th_beganOn : Int32) (th_beganIn : Int32) (th_first : Int32) (th_second : Int32) (x_th_seenCell : Value) (x_th_seenNight : Value) (th_seens : Int32) (th_above : Int32) (th_below : Int32) (x_th_kept : Value) (th_keeps : Int32) (th_now : Nat → Int32) (th_aside : Nat → Int32) (N : Nat) (o : (Nat → Int32)) (hF : fX8_backs N th_now th_aside = some o) : nx_V l yX8_backs wsX8_backs ({ frames := 0, cells := 0, slots := 0, locals := 0 } : Room) (dC, dI) cI [.ref q_th] [(q_th, .inr (8, [x_th_told, .ref q_th_now, x_th_text, .int th_letters, .int th_at, x_th_read, .int th_isMore, .int th_told0, x_th_from, x_th_to, x_th_undone, .int th_undos, .ref q_th_aside, .int th_beganOn, .int th_beganIn, .int th_first, .int th_second, x_th_seenCell, x_th_seenNight, .int th_seens, .int th_above, .int th_below, x_th_kept, .int th_keeps])), (q_th_now, .inl (cI, 28, .inl th_now)), (q_th_aside, .inl (cI, 28, .inl th_aside))] sz [(q_th, .inr (8, [x_th_told, .ref q_th_now, x_th_text, .int th_letters, .int th_at, x_th_read, .int th_isMore, .int th_told0, x_th_from, x_th_to, x_th_undone, .int th_undos, .ref q_th_aside, .int th_beganOn, .int th_beganIn, .int th_first, .int th_second, x_th_seenCell, x_th_seenNight, .int th_seens, .int th_above, .int th_below, x_th_kept, .int th_keeps])), (q_th_now, .inl (cI, 28, .inl o)), (q_th_aside, .inl (cI, 28, .inl th_aside))] := by
  refine nx_void (cc := cX8_backs) (maxL := 2) (by decide) rfl (Nat.le_of_ble_eq_true rfl) ?_
  intro p e s m args below meth c Q A S0 hK hN hA ret0 hP hD hS ls hl
  have S0 : CallFix p m c cX8_backs 2 s args wsX8_backs RX8 := S0
  have hx := S0.1
  have hb := S0.2.1
  have hown := S0.2.2.2.1
  have hts := S0.2.2.2.2
  have hf_13 := hts (.fieldLink RX8 13 "SnailsYearModel" "now" "[I") (by decide +kernel)
  have hin_X8 : ∀ w ∈ wsX80, w ∈ wsX8_backs := by decide +kernel
  have hf_31 := hts (.fieldLink RX8 31 "SnailsYearModel" "aside" "[I") (by decide +kernel)
  have hl : lv_has ls 2 [(0, .ref q_th)] := hl
  have hret : ∀ (y0 : Nat → Int32) (H : Heap) (locs : List Loc) (ls : Array Slot) (pc : Nat), some y0 = some o → decode cX8_backs pc = .ok (.return_, 1) → va_P (dC, dI) vwCl [(q_th, .inr (8, [x_th_told, .ref q_th_now, x_th_text, .int th_letters, .int th_at, x_th_read, .int th_isMore, .int th_told0, x_th_from, x_th_to, x_th_undone, .int th_undos, .ref q_th_aside, .int th_beganOn, .int th_beganIn, .int th_first, .int th_second, x_th_seenCell, x_th_seenNight, .int th_seens, .int th_above, .int th_below, x_th_kept, .int th_keeps])), (q_th_now, .inl (cI, 28, .inl y0)), (q_th_aside, .inl (cI, 28, .inl th_aside))] H → va_D A [(q_th, .inr (8, [x_th_told, .ref q_th_now, x_th_text, .int th_letters, .int th_at, x_th_read, .int th_isMore, .int th_told0, x_th_from, x_th_to, x_th_undone, .int th_undos, .ref q_th_aside, .int th_beganOn, .int th_beganIn, .int th_first, .int th_second, x_th_seenCell, x_th_seenNight, .int th_seens, .int th_above, .int th_below, x_th_kept, .int th_keeps])), (q_th_now, .inl (cI, 28, .inl y0)), (q_th_aside, .inl (cI, 28, .inl th_aside))] → va_S A s.heap H locs → W p l e ({ frames := 0, cells := 0, slots := 0, locals := 0 } : Room) s m args below meth c H locs 0 0 Q (F0 m pc ls []) := by
    intro y0 H locs ls pc ho hd hP hD hS
    cases ho
    exact ret0 H locs ls pc hd hP hD hS
  rw [fX8_backs_e] at hF
  refine lv_iconst (v := (nI 0)) hx hb dX8_backs_0 (by decide) ?_
  have B_2 : ∀ (n_2 : Nat) (v1_2 : Int32) (th_now_2 : Nat → Int32), fX8_backs_2 th_aside n_2 v1_2 th_now_2 = some o → ∀ (H : Heap) (locs : List Loc) (ls : Array Slot), va_P (dC, dI) vwCl [(q_th, .inr (8, [x_th_told, .ref q_th_now, x_th_text, .int th_letters, .int th_at, x_th_read, .int th_isMore, .int th_told0, x_th_from, x_th_to, x_th_undone, .int th_undos, .ref q_th_aside, .int th_beganOn, .int th_beganIn, .int th_first, .int th_second, x_th_seenCell, x_th_seenNight, .int th_seens, .int th_above, .int th_below, x_th_kept, .int th_keeps])), (q_th_now, .inl (cI, 28, .inl th_now_2)), (q_th_aside, .inl (cI, 28, .inl th_aside))] H → va_D A [(q_th, .inr (8, [x_th_told, .ref q_th_now, x_th_text, .int th_letters, .int th_at, x_th_read, .int th_isMore, .int th_told0, x_th_from, x_th_to, x_th_undone, .int th_undos, .ref q_th_aside, .int th_beganOn, .int th_beganIn, .int th_first, .int th_second, x_th_seenCell, x_th_seenNight, .int th_seens, .int th_above, .int th_below, x_th_kept, .int th_keeps])), (q_th_now, .inl (cI, 28, .inl th_now_2)), (q_th_aside, .inl (cI, 28, .inl th_aside))] → va_S A s.heap H locs → lv_has ls 2 [(0, .ref q_th), (1, .int v1_2)] → W p l e ({ frames := 0, cells := 0, slots := 0, locals := 0 } : Room) s m args below meth c H locs 0 0 Q (F0 m 2 ls []) := by
    intro n_2
    induction n_2 with
    | zero =>
      intro v1_2 th_now_2 hF
      rw [fX8_backs_2_z] at hF
      cases hF
    | succ n_2 ih_2 =>
      intro v1_2 th_now_2 hF H locs ls hP hD hS hl
      rw [fX8_backs_2_s] at hF
      refine lv_iload_n hx hb dX8_backs_2 rfl (lv_at hl 1 rfl) ?_
      refine lv_bipush (v := (nI 28)) hx hb dX8_backs_3 (by decide) ?_
      refine lv_icmp_ge (tgt := 26) hx hb dX8_backs_5 (by decide) (fun hc => ?_) (fun hc => ?_)
      · have hF := ng_t hc hF
        exact hret th_now_2 _ _ _ _ hF dX8_backs_26 hP hD hS
      · have hF := ng_f hc hF
        refine lv_aload_n hx hb dX8_backs_8 rfl (lv_at hl 0 rfl) ?_
        refine nx_get S0 hK hP 0 1 hin_X8 hf_13 rfl rfl (by decide) rfl rfl dX8_backs_9 ?_
        refine lv_iload_n hx hb dX8_backs_12 rfl (lv_at hl 1 rfl) ?_
        refine lv_aload_n hx hb dX8_backs_13 rfl (lv_at hl 0 rfl) ?_
        refine nx_get S0 hK hP 0 12 hin_X8 hf_31 rfl rfl (by decide) rfl rfl dX8_backs_14 ?_
        refine lv_iload_n hx hb dX8_backs_17 rfl (lv_at hl 1 rfl) ?_
        have hg := ng_p hF
        have hF := ng_x hF
        refine nx_iald S0 hK hP 2 (v := th_aside v1_2.toNatClampNeg) rfl hg rfl dX8_backs_18 ?_
        have hg := ng_p hF
        have hF := ng_x hF
        refine nx_iast S0 hK hP hD hS 1 rfl hg dX8_backs_19 (W1 := [(q_th, .inr (8, [x_th_told, .ref q_th_now, x_th_text, .int th_letters, .int th_at, x_th_read, .int th_isMore, .int th_told0, x_th_from, x_th_to, x_th_undone, .int th_undos, .ref q_th_aside, .int th_beganOn, .int th_beganIn, .int th_first, .int th_second, x_th_seenCell, x_th_seenNight, .int th_seens, .int th_above, .int th_below, x_th_kept, .int th_keeps])), (q_th_now, .inl (cI, 28, .inl (upd th_now_2 v1_2.toNatClampNeg (th_aside v1_2.toNatClampNeg)))), (q_th_aside, .inl (cI, 28, .inl th_aside))]) rfl (fun H locs hP hD hS => ?_)
        refine lv_iinc (v := v1_2 + (nI 1)) (lv' := [(1, .int (v1_2 + (nI 1))), (0, .ref q_th)]) hx hb dX8_backs_20 hl (k := 1) rfl rfl (by decide) rfl (fun ls hl => ?_)
        refine lv_goto (tgt := 2) hx hb dX8_backs_23 (by decide) ?_
        exact ih_2 (v1_2 + (nI 1)) (upd th_now_2 v1_2.toNatClampNeg (th_aside v1_2.toNatClampNeg)) hF _ _ _ hP hD hS (lv_sub hl [1, 0] rfl)
  refine lv_istore_n (lv' := [(1, .int (nI 0)), (0, .ref q_th)]) hx hb dX8_backs_1 rfl hl (by decide) rfl (fun ls hl => ?_)
  exact B_2 N (nI 0) th_now hF _ _ _ hP hD hS (lv_sub hl [1, 0] rfl)
theorem hdX8_beginsSo : yX8_beginsSo.cls ≠ "java/lang/invoke/MethodHandle" ∧ yX8_beginsSo.cls ≠ "java/lang/invoke/VarHandle" ∧ (parseMethodDescriptor yX8_beginsSo.desc).map (fun d => d.parameters.length) = some 0 := by decide +kernel
set_option maxHeartbeats 40000000 in
set_option maxRecDepth 100000 in
theorem kX8_beginsSo (l : Launch) (dC : Nat → ClassId) (dI : Nat → Nat → Nat) (cI : ClassId) (q_th : Nat) (q_th_now : Nat) (q_th_told : Nat) (q_th_from : Nat) (q_th_to : Nat) (sz : Nat) (x_th_text : Value) (th_letters : Int32) (th_at : Int32) (x_th_read : Value) (th_isMore : Int32) (th_told0 : Int32) (x_th_undone : Value) (th_undos : Int32) (x_th_aside : Value) (th_beganOn : Int32) (th_beganIn : Int32) (th_first : Int32) (th_second : Int32) (x_th_seenCell : Value) (x_th_seenNight : Value) (th_seens : Int32) (th_above : Int32) (th_below : Int32) (x_th_kept : Value) (th_keeps : Int32) (th_now : Nat → Int32) (th_told : Nat → Int32) (th_from : Nat → Int32) (th_to : Nat → Int32) (N : Nat) (o : Int32 × Int32 × Int32 × (Nat → Int32) × (Nat → Int32) × (Nat → Int32)) (hF : fX8_beginsSo N th_now th_told th_from th_to = some o) : nx_I l yX8_beginsSo wsX8_beginsSo ({ frames := 6, cells := 0, slots := 0, locals := 144 } : Room) (dC, dI) cI [.ref q_th] [(q_th, .inr (8, [.ref q_th_told, .ref q_th_now, x_th_text, .int th_letters, .int th_at, x_th_read, .int th_isMore, .int th_told0, .ref q_th_from, .ref q_th_to, x_th_undone, .int th_undos, x_th_aside, .int th_beganOn, .int th_beganIn, .int th_first, .int th_second, x_th_seenCell, x_th_seenNight, .int th_seens, .int th_above, .int th_below, x_th_kept, .int th_keeps])), (q_th_now, .inl (cI, 28, .inl th_now)), (q_th_told, .inl (cI, 54, .inl th_told)), (q_th_from, .inl (cI, 25, .inl th_from)), (q_th_to, .inl (cI, 25, .inl th_to))] sz o.1 [(q_th, .inr (8, [.ref q_th_told, .ref q_th_now, x_th_text, .int th_letters, .int th_at, x_th_read, .int th_isMore, .int th_told0, .ref q_th_from, .ref q_th_to, x_th_undone, .int th_undos, x_th_aside, .int o.2.1, .int o.2.2.1, .int th_first, .int th_second, x_th_seenCell, x_th_seenNight, .int th_seens, .int th_above, .int th_below, x_th_kept, .int th_keeps])), (q_th_now, .inl (cI, 28, .inl o.2.2.2.1)), (q_th_told, .inl (cI, 54, .inl th_told)), (q_th_from, .inl (cI, 25, .inl o.2.2.2.2.1)), (q_th_to, .inl (cI, 25, .inl o.2.2.2.2.2))] := by
  refine nx_int (cc := cX8_beginsSo) (maxL := 2) (by decide) rfl (Nat.le_of_ble_eq_true rfl) ?_
  intro p e s m args below meth c Q A S0 hK hN hA ret0 hP hD hS ls hl
  have S0 : CallFix p m c cX8_beginsSo 2 s args wsX8_beginsSo RX8 := S0
  have hx := S0.1
  have hb := S0.2.1
  have hown := S0.2.2.2.1
  have hts := S0.2.2.2.2
  have hf_13 := hts (.fieldLink RX8 13 "SnailsYearModel" "now" "[I") (by decide +kernel)
  have hin_X8 : ∀ w ∈ wsX80, w ∈ wsX8_beginsSo := by decide +kernel
  have hf_162 := hts (.fieldLink RX8 162 "SnailsYearModel" "beganOn" "I") (by decide +kernel)
  have hf_165 := hts (.fieldLink RX8 165 "SnailsYearModel" "beganIn" "I") (by decide +kernel)
  have hl : lv_has ls 2 [(0, .ref q_th)] := hl
  have hret : ∀ (r0 : Int32) (y0 : Int32) (y1 : Int32) (y2 : Nat → Int32) (y3 : Nat → Int32) (y4 : Nat → Int32) (H : Heap) (locs : List Loc) (ls : Array Slot) (pc : Nat), some (r0, y0, y1, y2, y3, y4) = some o → decode cX8_beginsSo pc = .ok (.ireturn, 1) → va_P (dC, dI) vwCl [(q_th, .inr (8, [.ref q_th_told, .ref q_th_now, x_th_text, .int th_letters, .int th_at, x_th_read, .int th_isMore, .int th_told0, .ref q_th_from, .ref q_th_to, x_th_undone, .int th_undos, x_th_aside, .int y0, .int y1, .int th_first, .int th_second, x_th_seenCell, x_th_seenNight, .int th_seens, .int th_above, .int th_below, x_th_kept, .int th_keeps])), (q_th_now, .inl (cI, 28, .inl y2)), (q_th_told, .inl (cI, 54, .inl th_told)), (q_th_from, .inl (cI, 25, .inl y3)), (q_th_to, .inl (cI, 25, .inl y4))] H → va_D A [(q_th, .inr (8, [.ref q_th_told, .ref q_th_now, x_th_text, .int th_letters, .int th_at, x_th_read, .int th_isMore, .int th_told0, .ref q_th_from, .ref q_th_to, x_th_undone, .int th_undos, x_th_aside, .int y0, .int y1, .int th_first, .int th_second, x_th_seenCell, x_th_seenNight, .int th_seens, .int th_above, .int th_below, x_th_kept, .int th_keeps])), (q_th_now, .inl (cI, 28, .inl y2)), (q_th_told, .inl (cI, 54, .inl th_told)), (q_th_from, .inl (cI, 25, .inl y3)), (q_th_to, .inl (cI, 25, .inl y4))] → va_S A s.heap H locs → W p l e ({ frames := 6, cells := 0, slots := 0, locals := 144 } : Room) s m args below meth c H locs 0 0 Q (F0 m pc ls [.int r0]) := by
    intro r0 y0 y1 y2 y3 y4 H locs ls pc ho hd hP hD hS
    cases ho
    exact ret0 H locs ls pc hd hP hD hS
  rw [fX8_beginsSo_e] at hF
  refine lv_iconst (v := (nI 0)) hx hb dX8_beginsSo_0 (by decide) ?_
  have B_2 : ∀ (n_2 : Nat) (v1_2 : Int32) (th_now_2 : Nat → Int32) (th_from_2 : Nat → Int32) (th_to_2 : Nat → Int32), fX8_beginsSo_2 N th_told n_2 v1_2 th_now_2 th_from_2 th_to_2 = some o → ∀ (H : Heap) (locs : List Loc) (ls : Array Slot), va_P (dC, dI) vwCl [(q_th, .inr (8, [.ref q_th_told, .ref q_th_now, x_th_text, .int th_letters, .int th_at, x_th_read, .int th_isMore, .int th_told0, .ref q_th_from, .ref q_th_to, x_th_undone, .int th_undos, x_th_aside, .int th_beganOn, .int th_beganIn, .int th_first, .int th_second, x_th_seenCell, x_th_seenNight, .int th_seens, .int th_above, .int th_below, x_th_kept, .int th_keeps])), (q_th_now, .inl (cI, 28, .inl th_now_2)), (q_th_told, .inl (cI, 54, .inl th_told)), (q_th_from, .inl (cI, 25, .inl th_from_2)), (q_th_to, .inl (cI, 25, .inl th_to_2))] H → va_D A [(q_th, .inr (8, [.ref q_th_told, .ref q_th_now, x_th_text, .int th_letters, .int th_at, x_th_read, .int th_isMore, .int th_told0, .ref q_th_from, .ref q_th_to, x_th_undone, .int th_undos, x_th_aside, .int th_beganOn, .int th_beganIn, .int th_first, .int th_second, x_th_seenCell, x_th_seenNight, .int th_seens, .int th_above, .int th_below, x_th_kept, .int th_keeps])), (q_th_now, .inl (cI, 28, .inl th_now_2)), (q_th_told, .inl (cI, 54, .inl th_told)), (q_th_from, .inl (cI, 25, .inl th_from_2)), (q_th_to, .inl (cI, 25, .inl th_to_2))] → va_S A s.heap H locs → lv_has ls 2 [(0, .ref q_th), (1, .int v1_2)] → W p l e ({ frames := 6, cells := 0, slots := 0, locals := 144 } : Room) s m args below meth c H locs 0 0 Q (F0 m 2 ls []) := by
    intro n_2
    induction n_2 with
    | zero =>
      intro v1_2 th_now_2 th_from_2 th_to_2 hF
      rw [fX8_beginsSo_2_z] at hF
      cases hF
    | succ n_2 ih_2 =>
      intro v1_2 th_now_2 th_from_2 th_to_2 hF H locs ls hP hD hS hl
      rw [fX8_beginsSo_2_s] at hF
      refine lv_iload_n hx hb dX8_beginsSo_2 rfl (lv_at hl 1 rfl) ?_
      refine lv_bipush (v := (nI 30)) hx hb dX8_beginsSo_3 (by decide) ?_
      have B_38 : fX8_beginsSo_38 v1_2 th_now_2 th_from_2 th_to_2 = some o → ∀ (H : Heap) (locs : List Loc) (ls : Array Slot), va_P (dC, dI) vwCl [(q_th, .inr (8, [.ref q_th_told, .ref q_th_now, x_th_text, .int th_letters, .int th_at, x_th_read, .int th_isMore, .int th_told0, .ref q_th_from, .ref q_th_to, x_th_undone, .int th_undos, x_th_aside, .int th_beganOn, .int th_beganIn, .int th_first, .int th_second, x_th_seenCell, x_th_seenNight, .int th_seens, .int th_above, .int th_below, x_th_kept, .int th_keeps])), (q_th_now, .inl (cI, 28, .inl th_now_2)), (q_th_told, .inl (cI, 54, .inl th_told)), (q_th_from, .inl (cI, 25, .inl th_from_2)), (q_th_to, .inl (cI, 25, .inl th_to_2))] H → va_D A [(q_th, .inr (8, [.ref q_th_told, .ref q_th_now, x_th_text, .int th_letters, .int th_at, x_th_read, .int th_isMore, .int th_told0, .ref q_th_from, .ref q_th_to, x_th_undone, .int th_undos, x_th_aside, .int th_beganOn, .int th_beganIn, .int th_first, .int th_second, x_th_seenCell, x_th_seenNight, .int th_seens, .int th_above, .int th_below, x_th_kept, .int th_keeps])), (q_th_now, .inl (cI, 28, .inl th_now_2)), (q_th_told, .inl (cI, 54, .inl th_told)), (q_th_from, .inl (cI, 25, .inl th_from_2)), (q_th_to, .inl (cI, 25, .inl th_to_2))] → va_S A s.heap H locs → lv_has ls 2 [(0, .ref q_th), (1, .int v1_2)] → W p l e ({ frames := 6, cells := 0, slots := 0, locals := 144 } : Room) s m args below meth c H locs 0 0 Q (F0 m 38 ls []) := by
        intro  hF H locs ls hP hD hS hl
        rw [fX8_beginsSo_38_e] at hF
        refine lv_aload_n hx hb dX8_beginsSo_38 rfl (lv_at hl 0 rfl) ?_
        refine lv_aload_n hx hb dX8_beginsSo_39 rfl (lv_at hl 0 rfl) ?_
        refine nx_get S0 hK hP 0 1 hin_X8 hf_13 rfl rfl (by decide) rfl rfl dX8_beginsSo_40 ?_
        refine lv_iconst (v := (nI 2)) hx hb dX8_beginsSo_43 (by decide) ?_
        refine nx_iald S0 hK hP 1 (v := th_now_2 2) rfl (by decide) rfl dX8_beginsSo_44 ?_
        refine nx_put S0 hK hP hD hS 0 13 hin_X8 tyX8 tyX8_ok nmX8 hf_162 rfl rfl (by decide) rfl rfl rfl rfl (Nat.le_of_ble_eq_true rfl) dX8_beginsSo_45 (W1 := [(q_th, .inr (8, [.ref q_th_told, .ref q_th_now, x_th_text, .int th_letters, .int th_at, x_th_read, .int th_isMore, .int th_told0, .ref q_th_from, .ref q_th_to, x_th_undone, .int th_undos, x_th_aside, .int (th_now_2 2), .int th_beganIn, .int th_first, .int th_second, x_th_seenCell, x_th_seenNight, .int th_seens, .int th_above, .int th_below, x_th_kept, .int th_keeps])), (q_th_now, .inl (cI, 28, .inl th_now_2)), (q_th_told, .inl (cI, 54, .inl th_told)), (q_th_from, .inl (cI, 25, .inl th_from_2)), (q_th_to, .inl (cI, 25, .inl th_to_2))]) rfl (fun H locs hP hD hS => ?_)
        refine lv_aload_n hx hb dX8_beginsSo_48 rfl (lv_at hl 0 rfl) ?_
        refine lv_aload_n hx hb dX8_beginsSo_49 rfl (lv_at hl 0 rfl) ?_
        refine nx_get S0 hK hP 0 1 hin_X8 hf_13 rfl rfl (by decide) rfl rfl dX8_beginsSo_50 ?_
        refine lv_iconst (v := (nI 1)) hx hb dX8_beginsSo_53 (by decide) ?_
        refine nx_iald S0 hK hP 1 (v := th_now_2 1) rfl (by decide) rfl dX8_beginsSo_54 ?_
        refine nx_put S0 hK hP hD hS 0 14 hin_X8 tyX8 tyX8_ok nmX8 hf_165 rfl rfl (by decide) rfl rfl rfl rfl (Nat.le_of_ble_eq_true rfl) dX8_beginsSo_55 (W1 := [(q_th, .inr (8, [.ref q_th_told, .ref q_th_now, x_th_text, .int th_letters, .int th_at, x_th_read, .int th_isMore, .int th_told0, .ref q_th_from, .ref q_th_to, x_th_undone, .int th_undos, x_th_aside, .int (th_now_2 2), .int (th_now_2 1), .int th_first, .int th_second, x_th_seenCell, x_th_seenNight, .int th_seens, .int th_above, .int th_below, x_th_kept, .int th_keeps])), (q_th_now, .inl (cI, 28, .inl th_now_2)), (q_th_told, .inl (cI, 54, .inl th_told)), (q_th_from, .inl (cI, 25, .inl th_from_2)), (q_th_to, .inl (cI, 25, .inl th_to_2))]) rfl (fun H locs hP hD hS => ?_)
        refine lv_aload_n hx hb dX8_beginsSo_58 rfl (lv_at hl 0 rfl) ?_
        refine nx_get S0 hK hP 0 1 hin_X8 hf_13 rfl rfl (by decide) rfl rfl dX8_beginsSo_59 ?_
        refine lv_iconst (v := (nI 2)) hx hb dX8_beginsSo_62 (by decide) ?_
        refine nx_iald S0 hK hP 1 (v := th_now_2 2) rfl (by decide) rfl dX8_beginsSo_63 ?_
        refine lv_if_ge (tgt := 72) hx hb dX8_beginsSo_64 (by decide) (fun hc => ?_) (fun hc => ?_)
        · have hF := ng_t hc hF
          refine lv_iload_n hx hb dX8_beginsSo_72 rfl (lv_at hl 1 rfl) ?_
          exact hret v1_2 (th_now_2 2) (th_now_2 1) th_now_2 th_from_2 th_to_2 _ _ _ _ hF dX8_beginsSo_73 hP hD hS
        · have hF := ng_f hc hF
          refine lv_bipush (v := (-4 : Int32)) hx hb dX8_beginsSo_67 (by decide) ?_
          refine lv_goto (tgt := 73) hx hb dX8_beginsSo_69 (by decide) ?_
          exact hret (-4 : Int32) (th_now_2 2) (th_now_2 1) th_now_2 th_from_2 th_to_2 _ _ _ _ hF dX8_beginsSo_73 hP hD hS
      refine lv_icmp_ge (tgt := 38) hx hb dX8_beginsSo_5 (by decide) (fun hc => ?_) (fun hc => ?_)
      · have hF := ng_t hc hF
        exact B_38  hF _ _ _ hP hD hS (lv_sub hl [0, 1] rfl)
      · have hF := ng_f hc hF
        refine lv_aload_n hx hb dX8_beginsSo_8 rfl (lv_at hl 0 rfl) ?_
        refine nx_get S0 hK hP 0 1 hin_X8 hf_13 rfl rfl (by decide) rfl rfl dX8_beginsSo_9 ?_
        refine lv_iconst (v := (nI 2)) hx hb dX8_beginsSo_12 (by decide) ?_
        refine nx_iald S0 hK hP 1 (v := th_now_2 2) rfl (by decide) rfl dX8_beginsSo_13 ?_
        refine lv_if_ge (tgt := 38) hx hb dX8_beginsSo_14 (by decide) (fun hc => ?_) (fun hc => ?_)
        · have hF := ng_t hc hF
          exact B_38  hF _ _ _ hP hD hS (lv_sub hl [0, 1] rfl)
        · have hF := ng_f hc hF
          refine lv_aload_n hx hb dX8_beginsSo_17 rfl (lv_at hl 0 rfl) ?_
          refine lv_aload_n hx hb dX8_beginsSo_18 rfl (lv_at hl 0 rfl) ?_
          refine lv_aload_n hx hb dX8_beginsSo_19 rfl (lv_at hl 0 rfl) ?_
          refine nx_get S0 hK hP 0 1 hin_X8 hf_13 rfl rfl (by decide) rfl rfl dX8_beginsSo_20 ?_
          refine lv_iconst (v := (nI 0)) hx hb dX8_beginsSo_23 (by decide) ?_
          refine nx_iald S0 hK hP 1 (v := th_now_2 0) rfl (by decide) rfl dX8_beginsSo_24 ?_
          obtain ⟨o25, hF1, hF⟩ := ng_b hF
          refine nx_callVi (As := [.int (th_now_2 0)]) (rest := [.ref q_th]) (W1 := [(q_th, .inr (8, [.ref q_th_told, .ref q_th_now, x_th_text, .int th_letters, .int th_at, x_th_read, .int th_isMore, .int th_told0, .ref q_th_from, .ref q_th_to, x_th_undone, .int th_undos, x_th_aside, .int th_beganOn, .int th_beganIn, .int th_first, .int th_second, x_th_seenCell, x_th_seenNight, .int th_seens, .int th_above, .int th_below, x_th_kept, .int th_keeps])), (q_th_now, .inl (cI, 28, .inl th_now_2)), (q_th_told, .inl (cI, 54, .inl th_told)), (q_th_from, .inl (cI, 25, .inl th_from_2)), (q_th_to, .inl (cI, 25, .inl th_to_2))]) (wr := [(q_th_now, .inl (cI, 28, .inl th_now_2)), (q_th_from, .inl (cI, 25, .inl th_from_2)), (q_th_to, .inl (cI, 25, .inl th_to_2))]) S0 hK hN hA hP hD hS (kX8_dampOf l dC dI cI q_th q_th_told _ (.ref q_th_now) (x_th_text) th_letters th_at (x_th_read) th_isMore th_told0 (.ref q_th_from) (.ref q_th_to) (x_th_undone) th_undos (x_th_aside) th_beganOn th_beganIn th_first th_second (x_th_seenCell) (x_th_seenNight) th_seens th_above th_below (x_th_kept) th_keeps th_told (th_now_2 0) N o25 hF1) (cwV 1 hts gX8_beginsSo_X8_dampOf rfl rfl rfl ⟨rfl, hdX8_dampOf⟩ ⟨Nat.le_of_ble_eq_true rfl, Nat.le_of_ble_eq_true rfl⟩) [0, 2] [1, 3, 4] [3, 0, 4, 1, 2] rfl rfl rfl rfl 0 8 rfl rfl rfl rfl hl.1 rfl (Nat.le_of_ble_eq_true rfl) dX8_beginsSo_25 (fun H locs hP hD hS => ?_)
          obtain ⟨o28, hF1, hF⟩ := ng_b hF
          refine nx_callVi (As := [.int o25]) (rest := []) (W1 := [(q_th, .inr (8, [.ref q_th_told, .ref q_th_now, x_th_text, .int th_letters, .int th_at, x_th_read, .int th_isMore, .int th_told0, .ref q_th_from, .ref q_th_to, x_th_undone, .int th_undos, x_th_aside, .int th_beganOn, .int th_beganIn, .int th_first, .int th_second, x_th_seenCell, x_th_seenNight, .int th_seens, .int th_above, .int th_below, x_th_kept, .int th_keeps])), (q_th_now, .inl (cI, 28, .inl o28.2.1)), (q_th_told, .inl (cI, 54, .inl th_told)), (q_th_from, .inl (cI, 25, .inl o28.2.2.1)), (q_th_to, .inl (cI, 25, .inl o28.2.2.2))]) (wr := []) S0 hK hN hA hP hD hS (kX8_goesBy l dC dI cI q_th q_th_now q_th_told q_th_from q_th_to _ (x_th_text) th_letters th_at (x_th_read) th_isMore th_told0 (x_th_undone) th_undos (x_th_aside) th_beganOn th_beganIn th_first th_second (x_th_seenCell) (x_th_seenNight) th_seens th_above th_below (x_th_kept) th_keeps th_now_2 th_told th_from_2 th_to_2 o25 N o28 hF1) (cwV 1 hts gX8_beginsSo_X8_goesBy rfl rfl rfl ⟨rfl, hdX8_goesBy⟩ ⟨Nat.le_of_ble_eq_true rfl, Nat.le_of_ble_eq_true rfl⟩) [0, 1, 2, 3, 4] [] [0, 1, 2, 3, 4] rfl rfl rfl rfl 0 8 rfl rfl rfl rfl hl.1 rfl (Nat.le_of_ble_eq_true rfl) dX8_beginsSo_28 (fun H locs hP hD hS => ?_)
          refine lv_pop hx hb dX8_beginsSo_31 rfl ?_
          refine lv_iinc (v := v1_2 + (nI 1)) (lv' := [(1, .int (v1_2 + (nI 1))), (0, .ref q_th)]) hx hb dX8_beginsSo_32 hl (k := 1) rfl rfl (by decide) rfl (fun ls hl => ?_)
          refine lv_goto (tgt := 2) hx hb dX8_beginsSo_35 (by decide) ?_
          exact ih_2 (v1_2 + (nI 1)) o28.2.1 o28.2.2.1 o28.2.2.2 hF _ _ _ hP hD hS (lv_sub hl [1, 0] rfl)
  refine lv_istore_n (lv' := [(1, .int (nI 0)), (0, .ref q_th)]) hx hb dX8_beginsSo_1 rfl hl (by decide) rfl (fun ls hl => ?_)
  exact B_2 N (nI 0) th_now th_from th_to hF _ _ _ hP hD hS (lv_sub hl [1, 0] rfl)
theorem hdX8_beginsNow : yX8_beginsNow.cls ≠ "java/lang/invoke/MethodHandle" ∧ yX8_beginsNow.cls ≠ "java/lang/invoke/VarHandle" ∧ (parseMethodDescriptor yX8_beginsNow.desc).map (fun d => d.parameters.length) = some 0 := by decide +kernel
set_option maxHeartbeats 40000000 in
set_option maxRecDepth 100000 in
theorem kX8_beginsNow (l : Launch) (dC : Nat → ClassId) (dI : Nat → Nat → Nat) (cI : ClassId) (q_th : Nat) (q_th_aside : Nat) (q_th_now : Nat) (q_th_told : Nat) (q_th_from : Nat) (q_th_to : Nat) (sz : Nat) (x_th_text : Value) (th_letters : Int32) (th_at : Int32) (x_th_read : Value) (th_isMore : Int32) (th_told0 : Int32) (x_th_undone : Value) (th_undos : Int32) (th_beganOn : Int32) (th_beganIn : Int32) (th_first : Int32) (th_second : Int32) (x_th_seenCell : Value) (x_th_seenNight : Value) (th_seens : Int32) (th_above : Int32) (th_below : Int32) (x_th_kept : Value) (th_keeps : Int32) (th_aside : Nat → Int32) (th_now : Nat → Int32) (th_told : Nat → Int32) (th_from : Nat → Int32) (th_to : Nat → Int32) (N : Nat) (o : Int32 × Int32 × Int32 × (Nat → Int32) × (Nat → Int32) × (Nat → Int32) × (Nat → Int32)) (hF : fX8_beginsNow N th_aside th_now th_told th_from th_to = some o) : nx_I l yX8_beginsNow wsX8_beginsNow ({ frames := 7, cells := 0, slots := 0, locals := 165 } : Room) (dC, dI) cI [.ref q_th] [(q_th, .inr (8, [.ref q_th_told, .ref q_th_now, x_th_text, .int th_letters, .int th_at, x_th_read, .int th_isMore, .int th_told0, .ref q_th_from, .ref q_th_to, x_th_undone, .int th_undos, .ref q_th_aside, .int th_beganOn, .int th_beganIn, .int th_first, .int th_second, x_th_seenCell, x_th_seenNight, .int th_seens, .int th_above, .int th_below, x_th_kept, .int th_keeps])), (q_th_aside, .inl (cI, 28, .inl th_aside)), (q_th_now, .inl (cI, 28, .inl th_now)), (q_th_told, .inl (cI, 54, .inl th_told)), (q_th_from, .inl (cI, 25, .inl th_from)), (q_th_to, .inl (cI, 25, .inl th_to))] sz o.1 [(q_th, .inr (8, [.ref q_th_told, .ref q_th_now, x_th_text, .int th_letters, .int th_at, x_th_read, .int th_isMore, .int th_told0, .ref q_th_from, .ref q_th_to, x_th_undone, .int th_undos, .ref q_th_aside, .int o.2.1, .int o.2.2.1, .int th_first, .int th_second, x_th_seenCell, x_th_seenNight, .int th_seens, .int th_above, .int th_below, x_th_kept, .int th_keeps])), (q_th_aside, .inl (cI, 28, .inl o.2.2.2.1)), (q_th_now, .inl (cI, 28, .inl o.2.2.2.2.1)), (q_th_told, .inl (cI, 54, .inl th_told)), (q_th_from, .inl (cI, 25, .inl o.2.2.2.2.2.1)), (q_th_to, .inl (cI, 25, .inl o.2.2.2.2.2.2))] := by
  refine nx_int (cc := cX8_beginsNow) (maxL := 2) (by decide) rfl (Nat.le_of_ble_eq_true rfl) ?_
  intro p e s m args below meth c Q A S0 hK hN hA ret0 hP hD hS ls hl
  have S0 : CallFix p m c cX8_beginsNow 2 s args wsX8_beginsNow RX8 := S0
  have hx := S0.1
  have hb := S0.2.1
  have hown := S0.2.2.2.1
  have hts := S0.2.2.2.2
  have hl : lv_has ls 2 [(0, .ref q_th)] := hl
  have hret : ∀ (r0 : Int32) (y0 : Int32) (y1 : Int32) (y2 : Nat → Int32) (y3 : Nat → Int32) (y4 : Nat → Int32) (y5 : Nat → Int32) (H : Heap) (locs : List Loc) (ls : Array Slot) (pc : Nat), some (r0, y0, y1, y2, y3, y4, y5) = some o → decode cX8_beginsNow pc = .ok (.ireturn, 1) → va_P (dC, dI) vwCl [(q_th, .inr (8, [.ref q_th_told, .ref q_th_now, x_th_text, .int th_letters, .int th_at, x_th_read, .int th_isMore, .int th_told0, .ref q_th_from, .ref q_th_to, x_th_undone, .int th_undos, .ref q_th_aside, .int y0, .int y1, .int th_first, .int th_second, x_th_seenCell, x_th_seenNight, .int th_seens, .int th_above, .int th_below, x_th_kept, .int th_keeps])), (q_th_aside, .inl (cI, 28, .inl y2)), (q_th_now, .inl (cI, 28, .inl y3)), (q_th_told, .inl (cI, 54, .inl th_told)), (q_th_from, .inl (cI, 25, .inl y4)), (q_th_to, .inl (cI, 25, .inl y5))] H → va_D A [(q_th, .inr (8, [.ref q_th_told, .ref q_th_now, x_th_text, .int th_letters, .int th_at, x_th_read, .int th_isMore, .int th_told0, .ref q_th_from, .ref q_th_to, x_th_undone, .int th_undos, .ref q_th_aside, .int y0, .int y1, .int th_first, .int th_second, x_th_seenCell, x_th_seenNight, .int th_seens, .int th_above, .int th_below, x_th_kept, .int th_keeps])), (q_th_aside, .inl (cI, 28, .inl y2)), (q_th_now, .inl (cI, 28, .inl y3)), (q_th_told, .inl (cI, 54, .inl th_told)), (q_th_from, .inl (cI, 25, .inl y4)), (q_th_to, .inl (cI, 25, .inl y5))] → va_S A s.heap H locs → W p l e ({ frames := 7, cells := 0, slots := 0, locals := 165 } : Room) s m args below meth c H locs 0 0 Q (F0 m pc ls [.int r0]) := by
    intro r0 y0 y1 y2 y3 y4 y5 H locs ls pc ho hd hP hD hS
    cases ho
    exact ret0 H locs ls pc hd hP hD hS
  rw [fX8_beginsNow_e] at hF
  refine lv_aload_n hx hb dX8_beginsNow_0 rfl (lv_at hl 0 rfl) ?_
  obtain ⟨o1, hF1, hF⟩ := ng_b hF
  refine nx_callVv (As := []) (rest := []) (W1 := [(q_th, .inr (8, [.ref q_th_told, .ref q_th_now, x_th_text, .int th_letters, .int th_at, x_th_read, .int th_isMore, .int th_told0, .ref q_th_from, .ref q_th_to, x_th_undone, .int th_undos, .ref q_th_aside, .int th_beganOn, .int th_beganIn, .int th_first, .int th_second, x_th_seenCell, x_th_seenNight, .int th_seens, .int th_above, .int th_below, x_th_kept, .int th_keeps])), (q_th_aside, .inl (cI, 28, .inl o1)), (q_th_now, .inl (cI, 28, .inl th_now)), (q_th_told, .inl (cI, 54, .inl th_told)), (q_th_from, .inl (cI, 25, .inl th_from)), (q_th_to, .inl (cI, 25, .inl th_to))]) (wr := [(q_th_told, .inl (cI, 54, .inl th_told)), (q_th_from, .inl (cI, 25, .inl th_from)), (q_th_to, .inl (cI, 25, .inl th_to))]) S0 hK hN hA hP hD hS (kX8_asides l dC dI cI q_th q_th_aside q_th_now _ (.ref q_th_told) (x_th_text) th_letters th_at (x_th_read) th_isMore th_told0 (.ref q_th_from) (.ref q_th_to) (x_th_undone) th_undos th_beganOn th_beganIn th_first th_second (x_th_seenCell) (x_th_seenNight) th_seens th_above th_below (x_th_kept) th_keeps th_aside th_now N o1 hF1) (cwV 0 hts gX8_beginsNow_X8_asides rfl rfl rfl ⟨rfl, hdX8_asides⟩ ⟨Nat.le_of_ble_eq_true rfl, Nat.le_of_ble_eq_true rfl⟩) [0, 1, 2] [3, 4, 5] [3, 4, 5, 0, 1, 2] rfl rfl rfl rfl 0 8 rfl rfl rfl rfl hl.1 rfl (Nat.le_of_ble_eq_true rfl) dX8_beginsNow_1 (fun H locs hP hD hS => ?_)
  refine lv_aload_n hx hb dX8_beginsNow_4 rfl (lv_at hl 0 rfl) ?_
  obtain ⟨o5, hF1, hF⟩ := ng_b hF
  refine nx_callVi (As := []) (rest := []) (W1 := [(q_th, .inr (8, [.ref q_th_told, .ref q_th_now, x_th_text, .int th_letters, .int th_at, x_th_read, .int th_isMore, .int th_told0, .ref q_th_from, .ref q_th_to, x_th_undone, .int th_undos, .ref q_th_aside, .int o5.2.1, .int o5.2.2.1, .int th_first, .int th_second, x_th_seenCell, x_th_seenNight, .int th_seens, .int th_above, .int th_below, x_th_kept, .int th_keeps])), (q_th_aside, .inl (cI, 28, .inl o1)), (q_th_now, .inl (cI, 28, .inl o5.2.2.2.1)), (q_th_told, .inl (cI, 54, .inl th_told)), (q_th_from, .inl (cI, 25, .inl o5.2.2.2.2.1)), (q_th_to, .inl (cI, 25, .inl o5.2.2.2.2.2))]) (wr := [(q_th_aside, .inl (cI, 28, .inl o1))]) S0 hK hN hA hP hD hS (kX8_beginsSo l dC dI cI q_th q_th_now q_th_told q_th_from q_th_to _ (x_th_text) th_letters th_at (x_th_read) th_isMore th_told0 (x_th_undone) th_undos (.ref q_th_aside) th_beganOn th_beganIn th_first th_second (x_th_seenCell) (x_th_seenNight) th_seens th_above th_below (x_th_kept) th_keeps th_now th_told th_from th_to N o5 hF1) (cwV 0 hts gX8_beginsNow_X8_beginsSo rfl rfl rfl ⟨rfl, hdX8_beginsSo⟩ ⟨Nat.le_of_ble_eq_true rfl, Nat.le_of_ble_eq_true rfl⟩) [0, 2, 3, 4, 5] [1] [1, 0, 2, 3, 4, 5] rfl rfl rfl rfl 0 8 rfl rfl rfl rfl hl.1 rfl (Nat.le_of_ble_eq_true rfl) dX8_beginsNow_5 (fun H locs hP hD hS => ?_)
  refine lv_istore_n (lv' := [(1, .int o5.1), (0, .ref q_th)]) hx hb dX8_beginsNow_8 rfl hl (by decide) rfl (fun ls hl => ?_)
  refine lv_aload_n hx hb dX8_beginsNow_9 rfl (lv_at hl 1 rfl) ?_
  obtain ⟨o10, hF1, hF⟩ := ng_b hF
  refine nx_callVv (As := []) (rest := []) (W1 := [(q_th, .inr (8, [.ref q_th_told, .ref q_th_now, x_th_text, .int th_letters, .int th_at, x_th_read, .int th_isMore, .int th_told0, .ref q_th_from, .ref q_th_to, x_th_undone, .int th_undos, .ref q_th_aside, .int o5.2.1, .int o5.2.2.1, .int th_first, .int th_second, x_th_seenCell, x_th_seenNight, .int th_seens, .int th_above, .int th_below, x_th_kept, .int th_keeps])), (q_th_aside, .inl (cI, 28, .inl o1)), (q_th_now, .inl (cI, 28, .inl o10)), (q_th_told, .inl (cI, 54, .inl th_told)), (q_th_from, .inl (cI, 25, .inl o5.2.2.2.2.1)), (q_th_to, .inl (cI, 25, .inl o5.2.2.2.2.2))]) (wr := [(q_th_told, .inl (cI, 54, .inl th_told)), (q_th_from, .inl (cI, 25, .inl o5.2.2.2.2.1)), (q_th_to, .inl (cI, 25, .inl o5.2.2.2.2.2))]) S0 hK hN hA hP hD hS (kX8_backs l dC dI cI q_th q_th_now q_th_aside _ (.ref q_th_told) (x_th_text) th_letters th_at (x_th_read) th_isMore th_told0 (.ref q_th_from) (.ref q_th_to) (x_th_undone) th_undos o5.2.1 o5.2.2.1 th_first th_second (x_th_seenCell) (x_th_seenNight) th_seens th_above th_below (x_th_kept) th_keeps o5.2.2.2.1 o1 N o10 hF1) (cwV 0 hts gX8_beginsNow_X8_backs rfl rfl rfl ⟨rfl, hdX8_backs⟩ ⟨Nat.le_of_ble_eq_true rfl, Nat.le_of_ble_eq_true rfl⟩) [0, 2, 1] [3, 4, 5] [3, 5, 4, 0, 1, 2] rfl rfl rfl rfl 0 8 rfl rfl rfl rfl hl.1 rfl (Nat.le_of_ble_eq_true rfl) dX8_beginsNow_10 (fun H locs hP hD hS => ?_)
  refine lv_iload_n hx hb dX8_beginsNow_13 rfl (lv_at hl 0 rfl) ?_
  exact hret o5.1 o5.2.1 o5.2.2.1 o1 o10 o5.2.2.2.2.1 o5.2.2.2.2.2 _ _ _ _ hF dX8_beginsNow_14 hP hD hS
theorem hdX8_where : yX8_where.cls ≠ "java/lang/invoke/MethodHandle" ∧ yX8_where.cls ≠ "java/lang/invoke/VarHandle" ∧ (parseMethodDescriptor yX8_where.desc).map (fun d => d.parameters.length) = some 1 := by decide +kernel
set_option maxHeartbeats 40000000 in
set_option maxRecDepth 100000 in
theorem kX8_where (l : Launch) (dC : Nat → ClassId) (dI : Nat → Nat → Nat) (cI : ClassId) (q_th : Nat) (q_th_aside : Nat) (q_th_now : Nat) (q_th_told : Nat) (q_th_from : Nat) (q_th_to : Nat) (sz : Nat) (x_th_text : Value) (th_letters : Int32) (th_at : Int32) (x_th_read : Value) (th_isMore : Int32) (th_told0 : Int32) (x_th_undone : Value) (th_undos : Int32) (th_beganOn : Int32) (th_beganIn : Int32) (th_first : Int32) (th_second : Int32) (x_th_seenCell : Value) (x_th_seenNight : Value) (th_seens : Int32) (th_above : Int32) (th_below : Int32) (x_th_kept : Value) (th_keeps : Int32) (th_aside : Nat → Int32) (th_now : Nat → Int32) (th_told : Nat → Int32) (th_from : Nat → Int32) (th_to : Nat → Int32) (p1 : Int32) (N : Nat) (o : Int32 × (Nat → Int32) × (Nat → Int32) × (Nat → Int32) × (Nat → Int32)) (hF : fX8_where N p1 th_aside th_now th_told th_from th_to = some o) : nx_I l yX8_where wsX8_where ({ frames := 7, cells := 0, slots := 0, locals := 166 } : Room) (dC, dI) cI [.ref q_th, .int p1] [(q_th, .inr (8, [.ref q_th_told, .ref q_th_now, x_th_text, .int th_letters, .int th_at, x_th_read, .int th_isMore, .int th_told0, .ref q_th_from, .ref q_th_to, x_th_undone, .int th_undos, .ref q_th_aside, .int th_beganOn, .int th_beganIn, .int th_first, .int th_second, x_th_seenCell, x_th_seenNight, .int th_seens, .int th_above, .int th_below, x_th_kept, .int th_keeps])), (q_th_aside, .inl (cI, 28, .inl th_aside)), (q_th_now, .inl (cI, 28, .inl th_now)), (q_th_told, .inl (cI, 54, .inl th_told)), (q_th_from, .inl (cI, 25, .inl th_from)), (q_th_to, .inl (cI, 25, .inl th_to))] sz o.1 [(q_th, .inr (8, [.ref q_th_told, .ref q_th_now, x_th_text, .int th_letters, .int th_at, x_th_read, .int th_isMore, .int th_told0, .ref q_th_from, .ref q_th_to, x_th_undone, .int th_undos, .ref q_th_aside, .int th_beganOn, .int th_beganIn, .int th_first, .int th_second, x_th_seenCell, x_th_seenNight, .int th_seens, .int th_above, .int th_below, x_th_kept, .int th_keeps])), (q_th_aside, .inl (cI, 28, .inl o.2.1)), (q_th_now, .inl (cI, 28, .inl o.2.2.1)), (q_th_told, .inl (cI, 54, .inl th_told)), (q_th_from, .inl (cI, 25, .inl o.2.2.2.1)), (q_th_to, .inl (cI, 25, .inl o.2.2.2.2))] := by
  refine nx_int (cc := cX8_where) (maxL := 3) (by decide) rfl (Nat.le_of_ble_eq_true rfl) ?_
  intro p e s m args below meth c Q A S0 hK hN hA ret0 hP hD hS ls hl
  have S0 : CallFix p m c cX8_where 3 s args wsX8_where RX8 := S0
  have hx := S0.1
  have hb := S0.2.1
  have hown := S0.2.2.2.1
  have hts := S0.2.2.2.2
  have hf_13 := hts (.fieldLink RX8 13 "SnailsYearModel" "now" "[I") (by decide +kernel)
  have hin_X8 : ∀ w ∈ wsX80, w ∈ wsX8_where := by decide +kernel
  have hl : lv_has ls 3 [(0, .ref q_th), (1, .int p1)] := hl
  have hret : ∀ (r0 : Int32) (y0 : Nat → Int32) (y1 : Nat → Int32) (y2 : Nat → Int32) (y3 : Nat → Int32) (H : Heap) (locs : List Loc) (ls : Array Slot) (pc : Nat), some (r0, y0, y1, y2, y3) = some o → decode cX8_where pc = .ok (.ireturn, 1) → va_P (dC, dI) vwCl [(q_th, .inr (8, [.ref q_th_told, .ref q_th_now, x_th_text, .int th_letters, .int th_at, x_th_read, .int th_isMore, .int th_told0, .ref q_th_from, .ref q_th_to, x_th_undone, .int th_undos, .ref q_th_aside, .int th_beganOn, .int th_beganIn, .int th_first, .int th_second, x_th_seenCell, x_th_seenNight, .int th_seens, .int th_above, .int th_below, x_th_kept, .int th_keeps])), (q_th_aside, .inl (cI, 28, .inl y0)), (q_th_now, .inl (cI, 28, .inl y1)), (q_th_told, .inl (cI, 54, .inl th_told)), (q_th_from, .inl (cI, 25, .inl y2)), (q_th_to, .inl (cI, 25, .inl y3))] H → va_D A [(q_th, .inr (8, [.ref q_th_told, .ref q_th_now, x_th_text, .int th_letters, .int th_at, x_th_read, .int th_isMore, .int th_told0, .ref q_th_from, .ref q_th_to, x_th_undone, .int th_undos, .ref q_th_aside, .int th_beganOn, .int th_beganIn, .int th_first, .int th_second, x_th_seenCell, x_th_seenNight, .int th_seens, .int th_above, .int th_below, x_th_kept, .int th_keeps])), (q_th_aside, .inl (cI, 28, .inl y0)), (q_th_now, .inl (cI, 28, .inl y1)), (q_th_told, .inl (cI, 54, .inl th_told)), (q_th_from, .inl (cI, 25, .inl y2)), (q_th_to, .inl (cI, 25, .inl y3))] → va_S A s.heap H locs → W p l e ({ frames := 7, cells := 0, slots := 0, locals := 166 } : Room) s m args below meth c H locs 0 0 Q (F0 m pc ls [.int r0]) := by
    intro r0 y0 y1 y2 y3 H locs ls pc ho hd hP hD hS
    cases ho
    exact ret0 H locs ls pc hd hP hD hS
  rw [fX8_where_e] at hF
  refine lv_iload_n hx hb dX8_where_0 rfl (lv_at hl 1 rfl) ?_
  refine lv_i2l hx hb dX8_where_1 rfl ?_
  refine lv_lconst (v := (lN 0)) hx hb dX8_where_2 (by decide) ?_
  refine lv_ldc2 (v := (lN 30)) hx hb hown (hts (.constantLong RX8 151 30) (by decide +kernel)) dX8_where_3 ?_
  obtain ⟨o6, hF1, hF⟩ := ng_b hF
  refine nx_callSi (As := [.long p1.toInt64, .long (lN 0), .long (lN 30)]) (rest := []) (W1 := [(q_th, .inr (8, [.ref q_th_told, .ref q_th_now, x_th_text, .int th_letters, .int th_at, x_th_read, .int th_isMore, .int th_told0, .ref q_th_from, .ref q_th_to, x_th_undone, .int th_undos, .ref q_th_aside, .int th_beganOn, .int th_beganIn, .int th_first, .int th_second, x_th_seenCell, x_th_seenNight, .int th_seens, .int th_above, .int th_below, x_th_kept, .int th_keeps])), (q_th_aside, .inl (cI, 28, .inl th_aside)), (q_th_now, .inl (cI, 28, .inl th_now)), (q_th_told, .inl (cI, 54, .inl th_told)), (q_th_from, .inl (cI, 25, .inl th_from)), (q_th_to, .inl (cI, 25, .inl th_to))]) (wr := [(q_th, .inr (8, [.ref q_th_told, .ref q_th_now, x_th_text, .int th_letters, .int th_at, x_th_read, .int th_isMore, .int th_told0, .ref q_th_from, .ref q_th_to, x_th_undone, .int th_undos, .ref q_th_aside, .int th_beganOn, .int th_beganIn, .int th_first, .int th_second, x_th_seenCell, x_th_seenNight, .int th_seens, .int th_above, .int th_below, x_th_kept, .int th_keeps])), (q_th_aside, .inl (cI, 28, .inl th_aside)), (q_th_now, .inl (cI, 28, .inl th_now)), (q_th_told, .inl (cI, 54, .inl th_told)), (q_th_from, .inl (cI, 25, .inl th_from)), (q_th_to, .inl (cI, 25, .inl th_to))]) S0 hK hN hA hP hD hS (kX8_in l dC dI cI _ p1.toInt64 (lN 0) (lN 30) N o6 hF1) (va_cwS 3 hts gX8_where_X8_in rfl rfl rfl hdX8_in ⟨Nat.le_of_ble_eq_true rfl, Nat.le_of_ble_eq_true rfl⟩) [] [0, 1, 2, 3, 4, 5] [0, 1, 2, 3, 4, 5] rfl rfl rfl rfl rfl hl.1 rfl (Nat.le_of_ble_eq_true rfl) dX8_where_6 (fun H locs hP hD hS => ?_)
  refine lv_if_ne (tgt := 14) hx hb dX8_where_9 (by decide) (fun hc => ?_) (fun hc => ?_)
  · have hF := ng_f hc hF
    refine lv_aload_n hx hb dX8_where_14 rfl (lv_at hl 0 rfl) ?_
    obtain ⟨o15, hF1, hF⟩ := ng_b hF
    refine nx_callVv (As := []) (rest := []) (W1 := [(q_th, .inr (8, [.ref q_th_told, .ref q_th_now, x_th_text, .int th_letters, .int th_at, x_th_read, .int th_isMore, .int th_told0, .ref q_th_from, .ref q_th_to, x_th_undone, .int th_undos, .ref q_th_aside, .int th_beganOn, .int th_beganIn, .int th_first, .int th_second, x_th_seenCell, x_th_seenNight, .int th_seens, .int th_above, .int th_below, x_th_kept, .int th_keeps])), (q_th_aside, .inl (cI, 28, .inl o15)), (q_th_now, .inl (cI, 28, .inl th_now)), (q_th_told, .inl (cI, 54, .inl th_told)), (q_th_from, .inl (cI, 25, .inl th_from)), (q_th_to, .inl (cI, 25, .inl th_to))]) (wr := [(q_th_told, .inl (cI, 54, .inl th_told)), (q_th_from, .inl (cI, 25, .inl th_from)), (q_th_to, .inl (cI, 25, .inl th_to))]) S0 hK hN hA hP hD hS (kX8_asides l dC dI cI q_th q_th_aside q_th_now _ (.ref q_th_told) (x_th_text) th_letters th_at (x_th_read) th_isMore th_told0 (.ref q_th_from) (.ref q_th_to) (x_th_undone) th_undos th_beganOn th_beganIn th_first th_second (x_th_seenCell) (x_th_seenNight) th_seens th_above th_below (x_th_kept) th_keeps th_aside th_now N o15 hF1) (cwV 0 hts gX8_where_X8_asides rfl rfl rfl ⟨rfl, hdX8_asides⟩ ⟨Nat.le_of_ble_eq_true rfl, Nat.le_of_ble_eq_true rfl⟩) [0, 1, 2] [3, 4, 5] [3, 4, 5, 0, 1, 2] rfl rfl rfl rfl 0 8 rfl rfl rfl rfl hl.1 rfl (Nat.le_of_ble_eq_true rfl) dX8_where_15 (fun H locs hP hD hS => ?_)
    refine lv_aload_n hx hb dX8_where_18 rfl (lv_at hl 0 rfl) ?_
    refine lv_iload_n hx hb dX8_where_19 rfl (lv_at hl 1 rfl) ?_
    obtain ⟨o20, hF1, hF⟩ := ng_b hF
    refine nx_callVv (As := [.int p1]) (rest := []) (W1 := [(q_th, .inr (8, [.ref q_th_told, .ref q_th_now, x_th_text, .int th_letters, .int th_at, x_th_read, .int th_isMore, .int th_told0, .ref q_th_from, .ref q_th_to, x_th_undone, .int th_undos, .ref q_th_aside, .int th_beganOn, .int th_beganIn, .int th_first, .int th_second, x_th_seenCell, x_th_seenNight, .int th_seens, .int th_above, .int th_below, x_th_kept, .int th_keeps])), (q_th_aside, .inl (cI, 28, .inl o15)), (q_th_now, .inl (cI, 28, .inl o20.1)), (q_th_told, .inl (cI, 54, .inl th_told)), (q_th_from, .inl (cI, 25, .inl o20.2.1)), (q_th_to, .inl (cI, 25, .inl o20.2.2))]) (wr := [(q_th_aside, .inl (cI, 28, .inl o15))]) S0 hK hN hA hP hD hS (kX8_goesOn l dC dI cI q_th q_th_now q_th_told q_th_from q_th_to _ (x_th_text) th_letters th_at (x_th_read) th_isMore th_told0 (x_th_undone) th_undos (.ref q_th_aside) th_beganOn th_beganIn th_first th_second (x_th_seenCell) (x_th_seenNight) th_seens th_above th_below (x_th_kept) th_keeps th_now th_told th_from th_to p1 N o20 hF1) (cwV 1 hts gX8_where_X8_goesOn rfl rfl rfl ⟨rfl, hdX8_goesOn⟩ ⟨Nat.le_of_ble_eq_true rfl, Nat.le_of_ble_eq_true rfl⟩) [0, 2, 3, 4, 5] [1] [1, 0, 2, 3, 4, 5] rfl rfl rfl rfl 0 8 rfl rfl rfl rfl hl.1 rfl (Nat.le_of_ble_eq_true rfl) dX8_where_20 (fun H locs hP hD hS => ?_)
    refine lv_aload_n hx hb dX8_where_23 rfl (lv_at hl 0 rfl) ?_
    refine nx_get S0 hK hP 0 1 hin_X8 hf_13 rfl rfl (by decide) rfl rfl dX8_where_24 ?_
    refine lv_iconst (v := (nI 1)) hx hb dX8_where_27 (by decide) ?_
    refine nx_iald S0 hK hP 2 (v := o20.1 1) rfl (by decide) rfl dX8_where_28 ?_
    refine lv_istore_n (lv' := [(2, .int (o20.1 1)), (0, .ref q_th), (1, .int p1)]) hx hb dX8_where_29 rfl hl (by decide) rfl (fun ls hl => ?_)
    refine lv_aload_n hx hb dX8_where_30 rfl (lv_at hl 1 rfl) ?_
    obtain ⟨o31, hF1, hF⟩ := ng_b hF
    refine nx_callVv (As := []) (rest := []) (W1 := [(q_th, .inr (8, [.ref q_th_told, .ref q_th_now, x_th_text, .int th_letters, .int th_at, x_th_read, .int th_isMore, .int th_told0, .ref q_th_from, .ref q_th_to, x_th_undone, .int th_undos, .ref q_th_aside, .int th_beganOn, .int th_beganIn, .int th_first, .int th_second, x_th_seenCell, x_th_seenNight, .int th_seens, .int th_above, .int th_below, x_th_kept, .int th_keeps])), (q_th_aside, .inl (cI, 28, .inl o15)), (q_th_now, .inl (cI, 28, .inl o31)), (q_th_told, .inl (cI, 54, .inl th_told)), (q_th_from, .inl (cI, 25, .inl o20.2.1)), (q_th_to, .inl (cI, 25, .inl o20.2.2))]) (wr := [(q_th_told, .inl (cI, 54, .inl th_told)), (q_th_from, .inl (cI, 25, .inl o20.2.1)), (q_th_to, .inl (cI, 25, .inl o20.2.2))]) S0 hK hN hA hP hD hS (kX8_backs l dC dI cI q_th q_th_now q_th_aside _ (.ref q_th_told) (x_th_text) th_letters th_at (x_th_read) th_isMore th_told0 (.ref q_th_from) (.ref q_th_to) (x_th_undone) th_undos th_beganOn th_beganIn th_first th_second (x_th_seenCell) (x_th_seenNight) th_seens th_above th_below (x_th_kept) th_keeps o20.1 o15 N o31 hF1) (cwV 0 hts gX8_where_X8_backs rfl rfl rfl ⟨rfl, hdX8_backs⟩ ⟨Nat.le_of_ble_eq_true rfl, Nat.le_of_ble_eq_true rfl⟩) [0, 2, 1] [3, 4, 5] [3, 5, 4, 0, 1, 2] rfl rfl rfl rfl 0 8 rfl rfl rfl rfl hl.1 rfl (Nat.le_of_ble_eq_true rfl) dX8_where_31 (fun H locs hP hD hS => ?_)
    refine lv_iload_n hx hb dX8_where_34 rfl (lv_at hl 0 rfl) ?_
    exact hret (o20.1 1) o15 o31 o20.2.1 o20.2.2 _ _ _ _ hF dX8_where_35 hP hD hS
  · have hF := ng_t hc hF
    refine lv_iconst (v := (-1 : Int32)) hx hb dX8_where_12 (by decide) ?_
    exact hret (-1 : Int32) th_aside th_now th_from th_to _ _ _ _ hF dX8_where_13 hP hD hS
theorem hdX8_begins : yX8_begins.cls ≠ "java/lang/invoke/MethodHandle" ∧ yX8_begins.cls ≠ "java/lang/invoke/VarHandle" ∧ (parseMethodDescriptor yX8_begins.desc).map (fun d => d.parameters.length) = some 0 := by decide +kernel
set_option maxHeartbeats 40000000 in
set_option maxRecDepth 100000 in
theorem kX8_begins (l : Launch) (dC : Nat → ClassId) (dI : Nat → Nat → Nat) (cI : ClassId) (q_th : Nat) (q_th_aside : Nat) (q_th_now : Nat) (q_th_told : Nat) (q_th_from : Nat) (q_th_to : Nat) (sz : Nat) (x_th_text : Value) (th_letters : Int32) (th_at : Int32) (x_th_read : Value) (th_isMore : Int32) (th_told0 : Int32) (x_th_undone : Value) (th_undos : Int32) (th_beganOn : Int32) (th_beganIn : Int32) (th_first : Int32) (th_second : Int32) (x_th_seenCell : Value) (x_th_seenNight : Value) (th_seens : Int32) (th_above : Int32) (th_below : Int32) (x_th_kept : Value) (th_keeps : Int32) (th_aside : Nat → Int32) (th_now : Nat → Int32) (th_told : Nat → Int32) (th_from : Nat → Int32) (th_to : Nat → Int32) (N : Nat) (o : Int32 × Int32 × Int32 × (Nat → Int32) × (Nat → Int32) × (Nat → Int32) × (Nat → Int32)) (hF : fX8_begins N th_aside th_now th_told th_from th_to = some o) : nx_I l yX8_begins wsX8_begins ({ frames := 8, cells := 0, slots := 0, locals := 186 } : Room) (dC, dI) cI [.ref q_th] [(q_th, .inr (8, [.ref q_th_told, .ref q_th_now, x_th_text, .int th_letters, .int th_at, x_th_read, .int th_isMore, .int th_told0, .ref q_th_from, .ref q_th_to, x_th_undone, .int th_undos, .ref q_th_aside, .int th_beganOn, .int th_beganIn, .int th_first, .int th_second, x_th_seenCell, x_th_seenNight, .int th_seens, .int th_above, .int th_below, x_th_kept, .int th_keeps])), (q_th_aside, .inl (cI, 28, .inl th_aside)), (q_th_now, .inl (cI, 28, .inl th_now)), (q_th_told, .inl (cI, 54, .inl th_told)), (q_th_from, .inl (cI, 25, .inl th_from)), (q_th_to, .inl (cI, 25, .inl th_to))] sz o.1 [(q_th, .inr (8, [.ref q_th_told, .ref q_th_now, x_th_text, .int th_letters, .int th_at, x_th_read, .int th_isMore, .int th_told0, .ref q_th_from, .ref q_th_to, x_th_undone, .int th_undos, .ref q_th_aside, .int o.2.1, .int o.2.2.1, .int th_first, .int th_second, x_th_seenCell, x_th_seenNight, .int th_seens, .int th_above, .int th_below, x_th_kept, .int th_keeps])), (q_th_aside, .inl (cI, 28, .inl o.2.2.2.1)), (q_th_now, .inl (cI, 28, .inl o.2.2.2.2.1)), (q_th_told, .inl (cI, 54, .inl th_told)), (q_th_from, .inl (cI, 25, .inl o.2.2.2.2.2.1)), (q_th_to, .inl (cI, 25, .inl o.2.2.2.2.2.2))] := by
  refine nx_int (cc := cX8_begins) (maxL := 1) (by decide) rfl (Nat.le_of_ble_eq_true rfl) ?_
  intro p e s m args below meth c Q A S0 hK hN hA ret0 hP hD hS ls hl
  have S0 : CallFix p m c cX8_begins 1 s args wsX8_begins RX8 := S0
  have hx := S0.1
  have hb := S0.2.1
  have hown := S0.2.2.2.1
  have hts := S0.2.2.2.2
  have hl : lv_has ls 1 [(0, .ref q_th)] := hl
  have hret : ∀ (r0 : Int32) (y0 : Int32) (y1 : Int32) (y2 : Nat → Int32) (y3 : Nat → Int32) (y4 : Nat → Int32) (y5 : Nat → Int32) (H : Heap) (locs : List Loc) (ls : Array Slot) (pc : Nat), some (r0, y0, y1, y2, y3, y4, y5) = some o → decode cX8_begins pc = .ok (.ireturn, 1) → va_P (dC, dI) vwCl [(q_th, .inr (8, [.ref q_th_told, .ref q_th_now, x_th_text, .int th_letters, .int th_at, x_th_read, .int th_isMore, .int th_told0, .ref q_th_from, .ref q_th_to, x_th_undone, .int th_undos, .ref q_th_aside, .int y0, .int y1, .int th_first, .int th_second, x_th_seenCell, x_th_seenNight, .int th_seens, .int th_above, .int th_below, x_th_kept, .int th_keeps])), (q_th_aside, .inl (cI, 28, .inl y2)), (q_th_now, .inl (cI, 28, .inl y3)), (q_th_told, .inl (cI, 54, .inl th_told)), (q_th_from, .inl (cI, 25, .inl y4)), (q_th_to, .inl (cI, 25, .inl y5))] H → va_D A [(q_th, .inr (8, [.ref q_th_told, .ref q_th_now, x_th_text, .int th_letters, .int th_at, x_th_read, .int th_isMore, .int th_told0, .ref q_th_from, .ref q_th_to, x_th_undone, .int th_undos, .ref q_th_aside, .int y0, .int y1, .int th_first, .int th_second, x_th_seenCell, x_th_seenNight, .int th_seens, .int th_above, .int th_below, x_th_kept, .int th_keeps])), (q_th_aside, .inl (cI, 28, .inl y2)), (q_th_now, .inl (cI, 28, .inl y3)), (q_th_told, .inl (cI, 54, .inl th_told)), (q_th_from, .inl (cI, 25, .inl y4)), (q_th_to, .inl (cI, 25, .inl y5))] → va_S A s.heap H locs → W p l e ({ frames := 8, cells := 0, slots := 0, locals := 186 } : Room) s m args below meth c H locs 0 0 Q (F0 m pc ls [.int r0]) := by
    intro r0 y0 y1 y2 y3 y4 y5 H locs ls pc ho hd hP hD hS
    cases ho
    exact ret0 H locs ls pc hd hP hD hS
  rw [fX8_begins_e] at hF
  refine lv_aload_n hx hb dX8_begins_0 rfl (lv_at hl 0 rfl) ?_
  obtain ⟨o1, hF1, hF⟩ := ng_b hF
  refine nx_callVi (As := []) (rest := []) (W1 := [(q_th, .inr (8, [.ref q_th_told, .ref q_th_now, x_th_text, .int th_letters, .int th_at, x_th_read, .int th_isMore, .int th_told0, .ref q_th_from, .ref q_th_to, x_th_undone, .int th_undos, .ref q_th_aside, .int o1.2.1, .int o1.2.2.1, .int th_first, .int th_second, x_th_seenCell, x_th_seenNight, .int th_seens, .int th_above, .int th_below, x_th_kept, .int th_keeps])), (q_th_aside, .inl (cI, 28, .inl o1.2.2.2.1)), (q_th_now, .inl (cI, 28, .inl o1.2.2.2.2.1)), (q_th_told, .inl (cI, 54, .inl th_told)), (q_th_from, .inl (cI, 25, .inl o1.2.2.2.2.2.1)), (q_th_to, .inl (cI, 25, .inl o1.2.2.2.2.2.2))]) (wr := []) S0 hK hN hA hP hD hS (kX8_beginsNow l dC dI cI q_th q_th_aside q_th_now q_th_told q_th_from q_th_to _ (x_th_text) th_letters th_at (x_th_read) th_isMore th_told0 (x_th_undone) th_undos th_beganOn th_beganIn th_first th_second (x_th_seenCell) (x_th_seenNight) th_seens th_above th_below (x_th_kept) th_keeps th_aside th_now th_told th_from th_to N o1 hF1) (cwV 0 hts gX8_begins_X8_beginsNow rfl rfl rfl ⟨rfl, hdX8_beginsNow⟩ ⟨Nat.le_of_ble_eq_true rfl, Nat.le_of_ble_eq_true rfl⟩) [0, 1, 2, 3, 4, 5] [] [0, 1, 2, 3, 4, 5] rfl rfl rfl rfl 0 8 rfl rfl rfl rfl hl.1 rfl (Nat.le_of_ble_eq_true rfl) dX8_begins_1 (fun H locs hP hD hS => ?_)
  exact hret o1.1 o1.2.1 o1.2.2.1 o1.2.2.2.1 o1.2.2.2.2.1 o1.2.2.2.2.2.1 o1.2.2.2.2.2.2 _ _ _ _ hF dX8_begins_4 hP hD hS
theorem hdX8_due : yX8_due.cls ≠ "java/lang/invoke/MethodHandle" ∧ yX8_due.cls ≠ "java/lang/invoke/VarHandle" ∧ (parseMethodDescriptor yX8_due.desc).map (fun d => d.parameters.length) = some 0 := by decide +kernel
set_option maxHeartbeats 40000000 in
set_option maxRecDepth 100000 in
theorem kX8_due (l : Launch) (dC : Nat → ClassId) (dI : Nat → Nat → Nat) (cI : ClassId) (q_th : Nat) (q_th_aside : Nat) (q_th_now : Nat) (q_th_told : Nat) (q_th_from : Nat) (q_th_to : Nat) (sz : Nat) (x_th_text : Value) (th_letters : Int32) (th_at : Int32) (x_th_read : Value) (th_isMore : Int32) (th_told0 : Int32) (x_th_undone : Value) (th_undos : Int32) (th_beganOn : Int32) (th_beganIn : Int32) (th_first : Int32) (th_second : Int32) (x_th_seenCell : Value) (x_th_seenNight : Value) (th_seens : Int32) (th_above : Int32) (th_below : Int32) (x_th_kept : Value) (th_keeps : Int32) (th_aside : Nat → Int32) (th_now : Nat → Int32) (th_told : Nat → Int32) (th_from : Nat → Int32) (th_to : Nat → Int32) (N : Nat) (o : Int32 × Int32 × Int32 × (Nat → Int32) × (Nat → Int32) × (Nat → Int32) × (Nat → Int32)) (hF : fX8_due N th_aside th_now th_told th_from th_to = some o) : nx_I l yX8_due wsX8_due ({ frames := 8, cells := 0, slots := 0, locals := 186 } : Room) (dC, dI) cI [.ref q_th] [(q_th, .inr (8, [.ref q_th_told, .ref q_th_now, x_th_text, .int th_letters, .int th_at, x_th_read, .int th_isMore, .int th_told0, .ref q_th_from, .ref q_th_to, x_th_undone, .int th_undos, .ref q_th_aside, .int th_beganOn, .int th_beganIn, .int th_first, .int th_second, x_th_seenCell, x_th_seenNight, .int th_seens, .int th_above, .int th_below, x_th_kept, .int th_keeps])), (q_th_aside, .inl (cI, 28, .inl th_aside)), (q_th_now, .inl (cI, 28, .inl th_now)), (q_th_told, .inl (cI, 54, .inl th_told)), (q_th_from, .inl (cI, 25, .inl th_from)), (q_th_to, .inl (cI, 25, .inl th_to))] sz o.1 [(q_th, .inr (8, [.ref q_th_told, .ref q_th_now, x_th_text, .int th_letters, .int th_at, x_th_read, .int th_isMore, .int th_told0, .ref q_th_from, .ref q_th_to, x_th_undone, .int th_undos, .ref q_th_aside, .int o.2.1, .int o.2.2.1, .int th_first, .int th_second, x_th_seenCell, x_th_seenNight, .int th_seens, .int th_above, .int th_below, x_th_kept, .int th_keeps])), (q_th_aside, .inl (cI, 28, .inl o.2.2.2.1)), (q_th_now, .inl (cI, 28, .inl o.2.2.2.2.1)), (q_th_told, .inl (cI, 54, .inl th_told)), (q_th_from, .inl (cI, 25, .inl o.2.2.2.2.2.1)), (q_th_to, .inl (cI, 25, .inl o.2.2.2.2.2.2))] := by
  refine nx_int (cc := cX8_due) (maxL := 3) (by decide) rfl (Nat.le_of_ble_eq_true rfl) ?_
  intro p e s m args below meth c Q A S0 hK hN hA ret0 hP hD hS ls hl
  have S0 : CallFix p m c cX8_due 3 s args wsX8_due RX8 := S0
  have hx := S0.1
  have hb := S0.2.1
  have hown := S0.2.2.2.1
  have hts := S0.2.2.2.2
  have hf_7 := hts (.fieldLink RX8 7 "SnailsYearModel" "told" "[I") (by decide +kernel)
  have hin_X8 : ∀ w ∈ wsX80, w ∈ wsX8_due := by decide +kernel
  have hf_162 := hts (.fieldLink RX8 162 "SnailsYearModel" "beganOn" "I") (by decide +kernel)
  have hl : lv_has ls 3 [(0, .ref q_th)] := hl
  have hret : ∀ (r0 : Int32) (y0 : Int32) (y1 : Int32) (y2 : Nat → Int32) (y3 : Nat → Int32) (y4 : Nat → Int32) (y5 : Nat → Int32) (H : Heap) (locs : List Loc) (ls : Array Slot) (pc : Nat), some (r0, y0, y1, y2, y3, y4, y5) = some o → decode cX8_due pc = .ok (.ireturn, 1) → va_P (dC, dI) vwCl [(q_th, .inr (8, [.ref q_th_told, .ref q_th_now, x_th_text, .int th_letters, .int th_at, x_th_read, .int th_isMore, .int th_told0, .ref q_th_from, .ref q_th_to, x_th_undone, .int th_undos, .ref q_th_aside, .int y0, .int y1, .int th_first, .int th_second, x_th_seenCell, x_th_seenNight, .int th_seens, .int th_above, .int th_below, x_th_kept, .int th_keeps])), (q_th_aside, .inl (cI, 28, .inl y2)), (q_th_now, .inl (cI, 28, .inl y3)), (q_th_told, .inl (cI, 54, .inl th_told)), (q_th_from, .inl (cI, 25, .inl y4)), (q_th_to, .inl (cI, 25, .inl y5))] H → va_D A [(q_th, .inr (8, [.ref q_th_told, .ref q_th_now, x_th_text, .int th_letters, .int th_at, x_th_read, .int th_isMore, .int th_told0, .ref q_th_from, .ref q_th_to, x_th_undone, .int th_undos, .ref q_th_aside, .int y0, .int y1, .int th_first, .int th_second, x_th_seenCell, x_th_seenNight, .int th_seens, .int th_above, .int th_below, x_th_kept, .int th_keeps])), (q_th_aside, .inl (cI, 28, .inl y2)), (q_th_now, .inl (cI, 28, .inl y3)), (q_th_told, .inl (cI, 54, .inl th_told)), (q_th_from, .inl (cI, 25, .inl y4)), (q_th_to, .inl (cI, 25, .inl y5))] → va_S A s.heap H locs → W p l e ({ frames := 8, cells := 0, slots := 0, locals := 186 } : Room) s m args below meth c H locs 0 0 Q (F0 m pc ls [.int r0]) := by
    intro r0 y0 y1 y2 y3 y4 y5 H locs ls pc ho hd hP hD hS
    cases ho
    exact ret0 H locs ls pc hd hP hD hS
  rw [fX8_due_e] at hF
  refine lv_aload_n hx hb dX8_due_0 rfl (lv_at hl 0 rfl) ?_
  obtain ⟨o1, hF1, hF⟩ := ng_b hF
  refine nx_callVi (As := []) (rest := []) (W1 := [(q_th, .inr (8, [.ref q_th_told, .ref q_th_now, x_th_text, .int th_letters, .int th_at, x_th_read, .int th_isMore, .int th_told0, .ref q_th_from, .ref q_th_to, x_th_undone, .int th_undos, .ref q_th_aside, .int o1.2.1, .int o1.2.2.1, .int th_first, .int th_second, x_th_seenCell, x_th_seenNight, .int th_seens, .int th_above, .int th_below, x_th_kept, .int th_keeps])), (q_th_aside, .inl (cI, 28, .inl o1.2.2.2.1)), (q_th_now, .inl (cI, 28, .inl o1.2.2.2.2.1)), (q_th_told, .inl (cI, 54, .inl th_told)), (q_th_from, .inl (cI, 25, .inl o1.2.2.2.2.2.1)), (q_th_to, .inl (cI, 25, .inl o1.2.2.2.2.2.2))]) (wr := []) S0 hK hN hA hP hD hS (kX8_beginsNow l dC dI cI q_th q_th_aside q_th_now q_th_told q_th_from q_th_to _ (x_th_text) th_letters th_at (x_th_read) th_isMore th_told0 (x_th_undone) th_undos th_beganOn th_beganIn th_first th_second (x_th_seenCell) (x_th_seenNight) th_seens th_above th_below (x_th_kept) th_keeps th_aside th_now th_told th_from th_to N o1 hF1) (cwV 0 hts gX8_due_X8_beginsNow rfl rfl rfl ⟨rfl, hdX8_beginsNow⟩ ⟨Nat.le_of_ble_eq_true rfl, Nat.le_of_ble_eq_true rfl⟩) [0, 1, 2, 3, 4, 5] [] [0, 1, 2, 3, 4, 5] rfl rfl rfl rfl 0 8 rfl rfl rfl rfl hl.1 rfl (Nat.le_of_ble_eq_true rfl) dX8_due_1 (fun H locs hP hD hS => ?_)
  refine lv_pop hx hb dX8_due_4 rfl ?_
  refine lv_iconst (v := (nI 0)) hx hb dX8_due_5 (by decide) ?_
  refine lv_istore_n (lv' := [(1, .int (nI 0)), (0, .ref q_th)]) hx hb dX8_due_6 rfl hl (by decide) rfl (fun ls hl => ?_)
  refine lv_iconst (v := (nI 0)) hx hb dX8_due_7 (by decide) ?_
  have B_9 : ∀ (n_9 : Nat) (v1_9 : Int32) (v2_9 : Int32), fX8_due_9 th_told o1 n_9 v1_9 v2_9 = some o → ∀ (H : Heap) (locs : List Loc) (ls : Array Slot), va_P (dC, dI) vwCl [(q_th, .inr (8, [.ref q_th_told, .ref q_th_now, x_th_text, .int th_letters, .int th_at, x_th_read, .int th_isMore, .int th_told0, .ref q_th_from, .ref q_th_to, x_th_undone, .int th_undos, .ref q_th_aside, .int o1.2.1, .int o1.2.2.1, .int th_first, .int th_second, x_th_seenCell, x_th_seenNight, .int th_seens, .int th_above, .int th_below, x_th_kept, .int th_keeps])), (q_th_aside, .inl (cI, 28, .inl o1.2.2.2.1)), (q_th_now, .inl (cI, 28, .inl o1.2.2.2.2.1)), (q_th_told, .inl (cI, 54, .inl th_told)), (q_th_from, .inl (cI, 25, .inl o1.2.2.2.2.2.1)), (q_th_to, .inl (cI, 25, .inl o1.2.2.2.2.2.2))] H → va_D A [(q_th, .inr (8, [.ref q_th_told, .ref q_th_now, x_th_text, .int th_letters, .int th_at, x_th_read, .int th_isMore, .int th_told0, .ref q_th_from, .ref q_th_to, x_th_undone, .int th_undos, .ref q_th_aside, .int o1.2.1, .int o1.2.2.1, .int th_first, .int th_second, x_th_seenCell, x_th_seenNight, .int th_seens, .int th_above, .int th_below, x_th_kept, .int th_keeps])), (q_th_aside, .inl (cI, 28, .inl o1.2.2.2.1)), (q_th_now, .inl (cI, 28, .inl o1.2.2.2.2.1)), (q_th_told, .inl (cI, 54, .inl th_told)), (q_th_from, .inl (cI, 25, .inl o1.2.2.2.2.2.1)), (q_th_to, .inl (cI, 25, .inl o1.2.2.2.2.2.2))] → va_S A s.heap H locs → lv_has ls 3 [(0, .ref q_th), (1, .int v1_9), (2, .int v2_9)] → W p l e ({ frames := 8, cells := 0, slots := 0, locals := 186 } : Room) s m args below meth c H locs 0 0 Q (F0 m 9 ls []) := by
    intro n_9
    induction n_9 with
    | zero =>
      intro v1_9 v2_9 hF
      rw [fX8_due_9_z] at hF
      cases hF
    | succ n_9 ih_9 =>
      intro v1_9 v2_9 hF H locs ls hP hD hS hl
      rw [fX8_due_9_s] at hF
      refine lv_iload_n hx hb dX8_due_9 rfl (lv_at hl 2 rfl) ?_
      refine lv_aload_n hx hb dX8_due_10 rfl (lv_at hl 0 rfl) ?_
      refine nx_get S0 hK hP 0 0 hin_X8 hf_7 rfl rfl (by decide) rfl rfl dX8_due_11 ?_
      refine lv_bipush (v := (nI 13)) hx hb dX8_due_14 (by decide) ?_
      refine nx_iald S0 hK hP 3 (v := th_told 13) rfl (by decide) rfl dX8_due_16 ?_
      refine lv_icmp_ge (tgt := 69) hx hb dX8_due_17 (by decide) (fun hc => ?_) (fun hc => ?_)
      · have hF := ng_t hc hF
        refine lv_iload_n hx hb dX8_due_69 rfl (lv_at hl 1 rfl) ?_
        exact hret v1_9 o1.2.1 o1.2.2.1 o1.2.2.2.1 o1.2.2.2.2.1 o1.2.2.2.2.2.1 o1.2.2.2.2.2.2 _ _ _ _ hF dX8_due_70 hP hD hS
      · have hF := ng_f hc hF
        refine lv_iload_n hx hb dX8_due_20 rfl (lv_at hl 1 rfl) ?_
        refine lv_aload_n hx hb dX8_due_21 rfl (lv_at hl 0 rfl) ?_
        refine nx_get S0 hK hP 0 13 hin_X8 hf_162 rfl rfl (by decide) rfl rfl dX8_due_22 ?_
        have B_46 : fX8_due_46 th_told v1_9 v2_9 (fX8_due_9 th_told o1 n_9) = some o → ∀ (H : Heap) (locs : List Loc) (ls : Array Slot), va_P (dC, dI) vwCl [(q_th, .inr (8, [.ref q_th_told, .ref q_th_now, x_th_text, .int th_letters, .int th_at, x_th_read, .int th_isMore, .int th_told0, .ref q_th_from, .ref q_th_to, x_th_undone, .int th_undos, .ref q_th_aside, .int o1.2.1, .int o1.2.2.1, .int th_first, .int th_second, x_th_seenCell, x_th_seenNight, .int th_seens, .int th_above, .int th_below, x_th_kept, .int th_keeps])), (q_th_aside, .inl (cI, 28, .inl o1.2.2.2.1)), (q_th_now, .inl (cI, 28, .inl o1.2.2.2.2.1)), (q_th_told, .inl (cI, 54, .inl th_told)), (q_th_from, .inl (cI, 25, .inl o1.2.2.2.2.2.1)), (q_th_to, .inl (cI, 25, .inl o1.2.2.2.2.2.2))] H → va_D A [(q_th, .inr (8, [.ref q_th_told, .ref q_th_now, x_th_text, .int th_letters, .int th_at, x_th_read, .int th_isMore, .int th_told0, .ref q_th_from, .ref q_th_to, x_th_undone, .int th_undos, .ref q_th_aside, .int o1.2.1, .int o1.2.2.1, .int th_first, .int th_second, x_th_seenCell, x_th_seenNight, .int th_seens, .int th_above, .int th_below, x_th_kept, .int th_keeps])), (q_th_aside, .inl (cI, 28, .inl o1.2.2.2.1)), (q_th_now, .inl (cI, 28, .inl o1.2.2.2.2.1)), (q_th_told, .inl (cI, 54, .inl th_told)), (q_th_from, .inl (cI, 25, .inl o1.2.2.2.2.2.1)), (q_th_to, .inl (cI, 25, .inl o1.2.2.2.2.2.2))] → va_S A s.heap H locs → lv_has ls 3 [(0, .ref q_th), (2, .int v2_9)] → W p l e ({ frames := 8, cells := 0, slots := 0, locals := 186 } : Room) s m args below meth c H locs 0 0 Q (F0 m 46 ls [.int v1_9]) := by
          intro  hF H locs ls hP hD hS hl
          rw [fX8_due_46_e] at hF
          refine lv_aload_n hx hb dX8_due_46 rfl (lv_at hl 0 rfl) ?_
          refine nx_get S0 hK hP 0 0 hin_X8 hf_7 rfl rfl (by decide) rfl rfl dX8_due_47 ?_
          refine lv_bipush (v := (nI 15)) hx hb dX8_due_50 (by decide) ?_
          refine lv_iconst (v := (nI 2)) hx hb dX8_due_52 (by decide) ?_
          refine lv_iload_n hx hb dX8_due_53 rfl (lv_at hl 1 rfl) ?_
          refine lv_imul hx hb dX8_due_54 ?_
          refine lv_iadd hx hb dX8_due_55 ?_
          have hg := ng_p hF
          have hF := ng_x hF
          refine nx_iald S0 hK hP 3 (v := th_told (((nI 15) + ((nI 2) * v2_9)).toNatClampNeg)) rfl hg rfl dX8_due_56 ?_
          refine lv_goto (tgt := 61) hx hb dX8_due_57 (by decide) ?_
          refine lv_iadd hx hb dX8_due_61 ?_
          refine lv_istore_n (lv' := [(1, .int (v1_9 + (th_told (((nI 15) + ((nI 2) * v2_9)).toNatClampNeg)))), (0, .ref q_th), (2, .int v2_9)]) hx hb dX8_due_62 rfl hl (by decide) rfl (fun ls hl => ?_)
          refine lv_iinc (v := v2_9 + (nI 1)) (lv' := [(2, .int (v2_9 + (nI 1))), (1, .int (v1_9 + (th_told (((nI 15) + ((nI 2) * v2_9)).toNatClampNeg)))), (0, .ref q_th)]) hx hb dX8_due_63 hl (k := 2) rfl rfl (by decide) rfl (fun ls hl => ?_)
          refine lv_goto (tgt := 9) hx hb dX8_due_66 (by decide) ?_
          exact ih_9 (v1_9 + (th_told (((nI 15) + ((nI 2) * v2_9)).toNatClampNeg))) (v2_9 + (nI 1)) hF _ _ _ hP hD hS (lv_sub hl [2, 1, 0] rfl)
        refine lv_if_lt (tgt := 46) hx hb dX8_due_25 (by decide) (fun hc => ?_) (fun hc => ?_)
        · have hF := ng_t hc hF
          exact B_46  hF _ _ _ hP hD hS (lv_sub hl [0, 2] rfl)
        · have hF := ng_f hc hF
          refine lv_aload_n hx hb dX8_due_28 rfl (lv_at hl 0 rfl) ?_
          refine nx_get S0 hK hP 0 0 hin_X8 hf_7 rfl rfl (by decide) rfl rfl dX8_due_29 ?_
          refine lv_bipush (v := (nI 14)) hx hb dX8_due_32 (by decide) ?_
          refine lv_iconst (v := (nI 2)) hx hb dX8_due_34 (by decide) ?_
          refine lv_iload_n hx hb dX8_due_35 rfl (lv_at hl 2 rfl) ?_
          refine lv_imul hx hb dX8_due_36 ?_
          refine lv_iadd hx hb dX8_due_37 ?_
          have hg := ng_p hF
          have hF := ng_x hF
          refine nx_iald S0 hK hP 3 (v := th_told (((nI 14) + ((nI 2) * v2_9)).toNatClampNeg)) rfl hg rfl dX8_due_38 ?_
          refine lv_aload_n hx hb dX8_due_39 rfl (lv_at hl 0 rfl) ?_
          refine nx_get S0 hK hP 0 13 hin_X8 hf_162 rfl rfl (by decide) rfl rfl dX8_due_40 ?_
          refine lv_icmp_gt (tgt := 60) hx hb dX8_due_43 (by decide) (fun hc => ?_) (fun hc => ?_)
          · have hF := ng_t hc hF
            refine lv_iconst (v := (nI 0)) hx hb dX8_due_60 (by decide) ?_
            refine lv_iadd hx hb dX8_due_61 ?_
            refine lv_istore_n (lv' := [(1, .int (v1_9 + (nI 0))), (0, .ref q_th), (2, .int v2_9)]) hx hb dX8_due_62 rfl hl (by decide) rfl (fun ls hl => ?_)
            refine lv_iinc (v := v2_9 + (nI 1)) (lv' := [(2, .int (v2_9 + (nI 1))), (1, .int (v1_9 + (nI 0))), (0, .ref q_th)]) hx hb dX8_due_63 hl (k := 2) rfl rfl (by decide) rfl (fun ls hl => ?_)
            refine lv_goto (tgt := 9) hx hb dX8_due_66 (by decide) ?_
            exact ih_9 (v1_9 + (nI 0)) (v2_9 + (nI 1)) hF _ _ _ hP hD hS (lv_sub hl [2, 1, 0] rfl)
          · have hF := ng_f hc hF
            exact B_46  hF _ _ _ hP hD hS (lv_sub hl [0, 2] rfl)
  refine lv_istore_n (lv' := [(2, .int (nI 0)), (1, .int (nI 0)), (0, .ref q_th)]) hx hb dX8_due_8 rfl hl (by decide) rfl (fun ls hl => ?_)
  exact B_9 N (nI 0) (nI 0) hF _ _ _ hP hD hS (lv_sub hl [2, 1, 0] rfl)
theorem hdX8_apart : yX8_apart.cls ≠ "java/lang/invoke/MethodHandle" ∧ yX8_apart.cls ≠ "java/lang/invoke/VarHandle" ∧ (parseMethodDescriptor yX8_apart.desc).map (fun d => d.parameters.length) = some 2 := by decide +kernel
set_option maxHeartbeats 40000000 in
set_option maxRecDepth 100000 in
theorem kX8_apart (l : Launch) (dC : Nat → ClassId) (dI : Nat → Nat → Nat) (cI : ClassId) (sz : Nat) (p0 : Int32) (p1 : Int32) (N : Nat) (o : Int32) (hF : fX8_apart N p0 p1 = some o) : nx_I l yX8_apart wsX8_apart ({ frames := 0, cells := 0, slots := 0, locals := 0 } : Room) (dC, dI) cI [.int p0, .int p1] [] sz o [] := by
  refine nx_int (cc := cX8_apart) (maxL := 2) (by decide) rfl (Nat.le_of_ble_eq_true rfl) ?_
  intro p e s m args below meth c Q A S0 hK hN hA ret0 hP hD hS ls hl
  have S0 : CallFix p m c cX8_apart 2 s args wsX8_apart RX8 := S0
  have hx := S0.1
  have hb := S0.2.1
  have hown := S0.2.2.2.1
  have hts := S0.2.2.2.2
  have hl : lv_has ls 2 [(0, .int p0), (1, .int p1)] := hl
  have hret : ∀ (r0 : Int32) (H : Heap) (locs : List Loc) (ls : Array Slot) (pc : Nat), some r0 = some o → decode cX8_apart pc = .ok (.ireturn, 1) → va_P (dC, dI) vwCl [] H → va_D A [] → va_S A s.heap H locs → W p l e ({ frames := 0, cells := 0, slots := 0, locals := 0 } : Room) s m args below meth c H locs 0 0 Q (F0 m pc ls [.int r0]) := by
    intro r0 H locs ls pc ho hd hP hD hS
    cases ho
    exact ret0 H locs ls pc hd hP hD hS
  rw [fX8_apart_e] at hF
  refine lv_iload_n hx hb dX8_apart_0 rfl (lv_at hl 0 rfl) ?_
  refine lv_iload_n hx hb dX8_apart_1 rfl (lv_at hl 1 rfl) ?_
  refine lv_icmp_ge (tgt := 11) hx hb dX8_apart_2 (by decide) (fun hc => ?_) (fun hc => ?_)
  · have hF := ng_t hc hF
    refine lv_iload_n hx hb dX8_apart_11 rfl (lv_at hl 0 rfl) ?_
    refine lv_iload_n hx hb dX8_apart_12 rfl (lv_at hl 1 rfl) ?_
    refine lv_isub hx hb dX8_apart_13 ?_
    exact hret (p0 - p1) _ _ _ _ hF dX8_apart_14 hP hD hS
  · have hF := ng_f hc hF
    refine lv_iload_n hx hb dX8_apart_5 rfl (lv_at hl 1 rfl) ?_
    refine lv_iload_n hx hb dX8_apart_6 rfl (lv_at hl 0 rfl) ?_
    refine lv_isub hx hb dX8_apart_7 ?_
    refine lv_goto (tgt := 14) hx hb dX8_apart_8 (by decide) ?_
    exact hret (p1 - p0) _ _ _ _ hF dX8_apart_14 hP hD hS
theorem hdX8_heir : yX8_heir.cls ≠ "java/lang/invoke/MethodHandle" ∧ yX8_heir.cls ≠ "java/lang/invoke/VarHandle" ∧ (parseMethodDescriptor yX8_heir.desc).map (fun d => d.parameters.length) = some 0 := by decide +kernel
set_option maxHeartbeats 40000000 in
set_option maxRecDepth 100000 in
theorem kX8_heir (l : Launch) (dC : Nat → ClassId) (dI : Nat → Nat → Nat) (cI : ClassId) (q_th : Nat) (q_th_aside : Nat) (q_th_now : Nat) (q_th_told : Nat) (q_th_from : Nat) (q_th_to : Nat) (sz : Nat) (x_th_text : Value) (th_letters : Int32) (th_at : Int32) (x_th_read : Value) (th_isMore : Int32) (th_told0 : Int32) (x_th_undone : Value) (th_undos : Int32) (th_beganOn : Int32) (th_beganIn : Int32) (th_first : Int32) (th_second : Int32) (x_th_seenCell : Value) (x_th_seenNight : Value) (th_seens : Int32) (th_above : Int32) (th_below : Int32) (x_th_kept : Value) (th_keeps : Int32) (th_aside : Nat → Int32) (th_now : Nat → Int32) (th_told : Nat → Int32) (th_from : Nat → Int32) (th_to : Nat → Int32) (N : Nat) (o : Int32 × Int32 × Int32 × (Nat → Int32) × (Nat → Int32) × (Nat → Int32) × (Nat → Int32)) (hF : fX8_heir N th_aside th_now th_told th_from th_to = some o) : nx_I l yX8_heir wsX8_heir ({ frames := 8, cells := 0, slots := 0, locals := 186 } : Room) (dC, dI) cI [.ref q_th] [(q_th, .inr (8, [.ref q_th_told, .ref q_th_now, x_th_text, .int th_letters, .int th_at, x_th_read, .int th_isMore, .int th_told0, .ref q_th_from, .ref q_th_to, x_th_undone, .int th_undos, .ref q_th_aside, .int th_beganOn, .int th_beganIn, .int th_first, .int th_second, x_th_seenCell, x_th_seenNight, .int th_seens, .int th_above, .int th_below, x_th_kept, .int th_keeps])), (q_th_aside, .inl (cI, 28, .inl th_aside)), (q_th_now, .inl (cI, 28, .inl th_now)), (q_th_told, .inl (cI, 54, .inl th_told)), (q_th_from, .inl (cI, 25, .inl th_from)), (q_th_to, .inl (cI, 25, .inl th_to))] sz o.1 [(q_th, .inr (8, [.ref q_th_told, .ref q_th_now, x_th_text, .int th_letters, .int th_at, x_th_read, .int th_isMore, .int th_told0, .ref q_th_from, .ref q_th_to, x_th_undone, .int th_undos, .ref q_th_aside, .int o.2.1, .int o.2.2.1, .int th_first, .int th_second, x_th_seenCell, x_th_seenNight, .int th_seens, .int th_above, .int th_below, x_th_kept, .int th_keeps])), (q_th_aside, .inl (cI, 28, .inl o.2.2.2.1)), (q_th_now, .inl (cI, 28, .inl o.2.2.2.2.1)), (q_th_told, .inl (cI, 54, .inl th_told)), (q_th_from, .inl (cI, 25, .inl o.2.2.2.2.2.1)), (q_th_to, .inl (cI, 25, .inl o.2.2.2.2.2.2))] := by
  refine nx_int (cc := cX8_heir) (maxL := 5) (by decide) rfl (Nat.le_of_ble_eq_true rfl) ?_
  intro p e s m args below meth c Q A S0 hK hN hA ret0 hP hD hS ls hl
  have S0 : CallFix p m c cX8_heir 5 s args wsX8_heir RX8 := S0
  have hx := S0.1
  have hb := S0.2.1
  have hown := S0.2.2.2.1
  have hts := S0.2.2.2.2
  have hf_165 := hts (.fieldLink RX8 165 "SnailsYearModel" "beganIn" "I") (by decide +kernel)
  have hin_X8 : ∀ w ∈ wsX80, w ∈ wsX8_heir := by decide +kernel
  have hf_7 := hts (.fieldLink RX8 7 "SnailsYearModel" "told" "[I") (by decide +kernel)
  have hl : lv_has ls 5 [(0, .ref q_th)] := hl
  have hret : ∀ (r0 : Int32) (y0 : Int32) (y1 : Int32) (y2 : Nat → Int32) (y3 : Nat → Int32) (y4 : Nat → Int32) (y5 : Nat → Int32) (H : Heap) (locs : List Loc) (ls : Array Slot) (pc : Nat), some (r0, y0, y1, y2, y3, y4, y5) = some o → decode cX8_heir pc = .ok (.ireturn, 1) → va_P (dC, dI) vwCl [(q_th, .inr (8, [.ref q_th_told, .ref q_th_now, x_th_text, .int th_letters, .int th_at, x_th_read, .int th_isMore, .int th_told0, .ref q_th_from, .ref q_th_to, x_th_undone, .int th_undos, .ref q_th_aside, .int y0, .int y1, .int th_first, .int th_second, x_th_seenCell, x_th_seenNight, .int th_seens, .int th_above, .int th_below, x_th_kept, .int th_keeps])), (q_th_aside, .inl (cI, 28, .inl y2)), (q_th_now, .inl (cI, 28, .inl y3)), (q_th_told, .inl (cI, 54, .inl th_told)), (q_th_from, .inl (cI, 25, .inl y4)), (q_th_to, .inl (cI, 25, .inl y5))] H → va_D A [(q_th, .inr (8, [.ref q_th_told, .ref q_th_now, x_th_text, .int th_letters, .int th_at, x_th_read, .int th_isMore, .int th_told0, .ref q_th_from, .ref q_th_to, x_th_undone, .int th_undos, .ref q_th_aside, .int y0, .int y1, .int th_first, .int th_second, x_th_seenCell, x_th_seenNight, .int th_seens, .int th_above, .int th_below, x_th_kept, .int th_keeps])), (q_th_aside, .inl (cI, 28, .inl y2)), (q_th_now, .inl (cI, 28, .inl y3)), (q_th_told, .inl (cI, 54, .inl th_told)), (q_th_from, .inl (cI, 25, .inl y4)), (q_th_to, .inl (cI, 25, .inl y5))] → va_S A s.heap H locs → W p l e ({ frames := 8, cells := 0, slots := 0, locals := 186 } : Room) s m args below meth c H locs 0 0 Q (F0 m pc ls [.int r0]) := by
    intro r0 y0 y1 y2 y3 y4 y5 H locs ls pc ho hd hP hD hS
    cases ho
    exact ret0 H locs ls pc hd hP hD hS
  rw [fX8_heir_e] at hF
  refine lv_aload_n hx hb dX8_heir_0 rfl (lv_at hl 0 rfl) ?_
  obtain ⟨o1, hF1, hF⟩ := ng_b hF
  refine nx_callVi (As := []) (rest := []) (W1 := [(q_th, .inr (8, [.ref q_th_told, .ref q_th_now, x_th_text, .int th_letters, .int th_at, x_th_read, .int th_isMore, .int th_told0, .ref q_th_from, .ref q_th_to, x_th_undone, .int th_undos, .ref q_th_aside, .int o1.2.1, .int o1.2.2.1, .int th_first, .int th_second, x_th_seenCell, x_th_seenNight, .int th_seens, .int th_above, .int th_below, x_th_kept, .int th_keeps])), (q_th_aside, .inl (cI, 28, .inl o1.2.2.2.1)), (q_th_now, .inl (cI, 28, .inl o1.2.2.2.2.1)), (q_th_told, .inl (cI, 54, .inl th_told)), (q_th_from, .inl (cI, 25, .inl o1.2.2.2.2.2.1)), (q_th_to, .inl (cI, 25, .inl o1.2.2.2.2.2.2))]) (wr := []) S0 hK hN hA hP hD hS (kX8_beginsNow l dC dI cI q_th q_th_aside q_th_now q_th_told q_th_from q_th_to _ (x_th_text) th_letters th_at (x_th_read) th_isMore th_told0 (x_th_undone) th_undos th_beganOn th_beganIn th_first th_second (x_th_seenCell) (x_th_seenNight) th_seens th_above th_below (x_th_kept) th_keeps th_aside th_now th_told th_from th_to N o1 hF1) (cwV 0 hts gX8_heir_X8_beginsNow rfl rfl rfl ⟨rfl, hdX8_beginsNow⟩ ⟨Nat.le_of_ble_eq_true rfl, Nat.le_of_ble_eq_true rfl⟩) [0, 1, 2, 3, 4, 5] [] [0, 1, 2, 3, 4, 5] rfl rfl rfl rfl 0 8 rfl rfl rfl rfl hl.1 rfl (Nat.le_of_ble_eq_true rfl) dX8_heir_1 (fun H locs hP hD hS => ?_)
  refine lv_bipush (v := (-4 : Int32)) hx hb dX8_heir_4 (by decide) ?_
  refine lv_icmp_ne (tgt := 12) hx hb dX8_heir_6 (by decide) (fun hc => ?_) (fun hc => ?_)
  · have hF := ng_f hc hF
    refine lv_aload_n hx hb dX8_heir_12 rfl (lv_at hl 0 rfl) ?_
    refine nx_get S0 hK hP 0 14 hin_X8 hf_165 rfl rfl (by decide) rfl rfl dX8_heir_13 ?_
    refine lv_aload_n hx hb dX8_heir_16 rfl (lv_at hl 0 rfl) ?_
    refine nx_get S0 hK hP 0 0 hin_X8 hf_7 rfl rfl (by decide) rfl rfl dX8_heir_17 ?_
    refine lv_iconst (v := (nI 1)) hx hb dX8_heir_20 (by decide) ?_
    refine nx_iald S0 hK hP 3 (v := th_told 1) rfl (by decide) rfl dX8_heir_21 ?_
    have hg := ng_p hF
    have hF := ng_x hF
    refine lv_irem hx hb dX8_heir_22 hg ?_
    refine lv_istore_n (lv' := [(1, .int (o1.2.2.1 - o1.2.2.1 / (th_told 1) * (th_told 1))), (0, .ref q_th)]) hx hb dX8_heir_23 rfl hl (by decide) rfl (fun ls hl => ?_)
    refine lv_bipush (v := (-4 : Int32)) hx hb dX8_heir_24 (by decide) ?_
    refine lv_istore_n (lv' := [(2, .int (-4 : Int32)), (1, .int (o1.2.2.1 - o1.2.2.1 / (th_told 1) * (th_told 1))), (0, .ref q_th)]) hx hb dX8_heir_26 rfl hl (by decide) rfl (fun ls hl => ?_)
    refine lv_iconst (v := (nI 0)) hx hb dX8_heir_27 (by decide) ?_
    have B_29 : ∀ (n_29 : Nat) (v2_29 : Int32) (v3_29 : Int32), fX8_heir_29 N th_told o1 n_29 v2_29 v3_29 = some o → ∀ (H : Heap) (locs : List Loc) (ls : Array Slot), va_P (dC, dI) vwCl [(q_th, .inr (8, [.ref q_th_told, .ref q_th_now, x_th_text, .int th_letters, .int th_at, x_th_read, .int th_isMore, .int th_told0, .ref q_th_from, .ref q_th_to, x_th_undone, .int th_undos, .ref q_th_aside, .int o1.2.1, .int o1.2.2.1, .int th_first, .int th_second, x_th_seenCell, x_th_seenNight, .int th_seens, .int th_above, .int th_below, x_th_kept, .int th_keeps])), (q_th_aside, .inl (cI, 28, .inl o1.2.2.2.1)), (q_th_now, .inl (cI, 28, .inl o1.2.2.2.2.1)), (q_th_told, .inl (cI, 54, .inl th_told)), (q_th_from, .inl (cI, 25, .inl o1.2.2.2.2.2.1)), (q_th_to, .inl (cI, 25, .inl o1.2.2.2.2.2.2))] H → va_D A [(q_th, .inr (8, [.ref q_th_told, .ref q_th_now, x_th_text, .int th_letters, .int th_at, x_th_read, .int th_isMore, .int th_told0, .ref q_th_from, .ref q_th_to, x_th_undone, .int th_undos, .ref q_th_aside, .int o1.2.1, .int o1.2.2.1, .int th_first, .int th_second, x_th_seenCell, x_th_seenNight, .int th_seens, .int th_above, .int th_below, x_th_kept, .int th_keeps])), (q_th_aside, .inl (cI, 28, .inl o1.2.2.2.1)), (q_th_now, .inl (cI, 28, .inl o1.2.2.2.2.1)), (q_th_told, .inl (cI, 54, .inl th_told)), (q_th_from, .inl (cI, 25, .inl o1.2.2.2.2.2.1)), (q_th_to, .inl (cI, 25, .inl o1.2.2.2.2.2.2))] → va_S A s.heap H locs → lv_has ls 5 [(0, .ref q_th), (1, .int (o1.2.2.1 - o1.2.2.1 / (th_told 1) * (th_told 1))), (2, .int v2_29), (3, .int v3_29)] → W p l e ({ frames := 8, cells := 0, slots := 0, locals := 186 } : Room) s m args below meth c H locs 0 0 Q (F0 m 29 ls []) := by
      intro n_29
      induction n_29 with
      | zero =>
        intro v2_29 v3_29 hF
        rw [fX8_heir_29_z] at hF
        cases hF
      | succ n_29 ih_29 =>
        intro v2_29 v3_29 hF H locs ls hP hD hS hl
        rw [fX8_heir_29_s] at hF
        refine lv_iload_n hx hb dX8_heir_29 rfl (lv_at hl 3 rfl) ?_
        refine lv_aload_n hx hb dX8_heir_30 rfl (lv_at hl 0 rfl) ?_
        refine nx_get S0 hK hP 0 0 hin_X8 hf_7 rfl rfl (by decide) rfl rfl dX8_heir_31 ?_
        refine lv_bipush (v := (nI 24)) hx hb dX8_heir_34 (by decide) ?_
        refine nx_iald S0 hK hP 3 (v := th_told 24) rfl (by decide) rfl dX8_heir_36 ?_
        refine lv_icmp_ge (tgt := 99) hx hb dX8_heir_37 (by decide) (fun hc => ?_) (fun hc => ?_)
        · have hF := ng_t hc hF
          refine lv_iload_n hx hb dX8_heir_99 rfl (lv_at hl 2 rfl) ?_
          exact hret v2_29 o1.2.1 o1.2.2.1 o1.2.2.2.1 o1.2.2.2.2.1 o1.2.2.2.2.2.1 o1.2.2.2.2.2.2 _ _ _ _ hF dX8_heir_100 hP hD hS
        · have hF := ng_f hc hF
          refine lv_iload_n hx hb dX8_heir_40 rfl (lv_at hl 2 rfl) ?_
          refine lv_bipush (v := (-4 : Int32)) hx hb dX8_heir_41 (by decide) ?_
          have B_80 : ∀ (s0_80 : Int32), fX8_heir_80 v2_29 v3_29 s0_80 (fX8_heir_29 N th_told o1 n_29) = some o → ∀ (H : Heap) (locs : List Loc) (ls : Array Slot), va_P (dC, dI) vwCl [(q_th, .inr (8, [.ref q_th_told, .ref q_th_now, x_th_text, .int th_letters, .int th_at, x_th_read, .int th_isMore, .int th_told0, .ref q_th_from, .ref q_th_to, x_th_undone, .int th_undos, .ref q_th_aside, .int o1.2.1, .int o1.2.2.1, .int th_first, .int th_second, x_th_seenCell, x_th_seenNight, .int th_seens, .int th_above, .int th_below, x_th_kept, .int th_keeps])), (q_th_aside, .inl (cI, 28, .inl o1.2.2.2.1)), (q_th_now, .inl (cI, 28, .inl o1.2.2.2.2.1)), (q_th_told, .inl (cI, 54, .inl th_told)), (q_th_from, .inl (cI, 25, .inl o1.2.2.2.2.2.1)), (q_th_to, .inl (cI, 25, .inl o1.2.2.2.2.2.2))] H → va_D A [(q_th, .inr (8, [.ref q_th_told, .ref q_th_now, x_th_text, .int th_letters, .int th_at, x_th_read, .int th_isMore, .int th_told0, .ref q_th_from, .ref q_th_to, x_th_undone, .int th_undos, .ref q_th_aside, .int o1.2.1, .int o1.2.2.1, .int th_first, .int th_second, x_th_seenCell, x_th_seenNight, .int th_seens, .int th_above, .int th_below, x_th_kept, .int th_keeps])), (q_th_aside, .inl (cI, 28, .inl o1.2.2.2.1)), (q_th_now, .inl (cI, 28, .inl o1.2.2.2.2.1)), (q_th_told, .inl (cI, 54, .inl th_told)), (q_th_from, .inl (cI, 25, .inl o1.2.2.2.2.2.1)), (q_th_to, .inl (cI, 25, .inl o1.2.2.2.2.2.2))] → va_S A s.heap H locs → lv_has ls 5 [(0, .ref q_th), (1, .int (o1.2.2.1 - o1.2.2.1 / (th_told 1) * (th_told 1))), (2, .int v2_29), (3, .int v3_29)] → W p l e ({ frames := 8, cells := 0, slots := 0, locals := 186 } : Room) s m args below meth c H locs 0 0 Q (F0 m 80 ls [.int s0_80]) := by
            intro s0_80 hF H locs ls hP hD hS hl
            rw [fX8_heir_80_e] at hF
            refine lv_istore (lv' := [(4, .int s0_80), (0, .ref q_th), (1, .int (o1.2.2.1 - o1.2.2.1 / (th_told 1) * (th_told 1))), (2, .int v2_29), (3, .int v3_29)]) hx hb dX8_heir_80 hl (by decide) rfl (fun ls hl => ?_)
            refine lv_iload hx hb dX8_heir_82 (lv_at hl 0 rfl) ?_
            refine lv_if_eq (tgt := 91) hx hb dX8_heir_84 (by decide) (fun hc => ?_) (fun hc => ?_)
            · have hF := ng_t hc hF
              refine lv_iload_n hx hb dX8_heir_91 rfl (lv_at hl 3 rfl) ?_
              refine lv_istore_n (lv' := [(2, .int v2_29), (4, .int s0_80), (0, .ref q_th), (1, .int (o1.2.2.1 - o1.2.2.1 / (th_told 1) * (th_told 1))), (3, .int v3_29)]) hx hb dX8_heir_92 rfl hl (by decide) rfl (fun ls hl => ?_)
              refine lv_iinc (v := v3_29 + (nI 1)) (lv' := [(3, .int (v3_29 + (nI 1))), (2, .int v2_29), (4, .int s0_80), (0, .ref q_th), (1, .int (o1.2.2.1 - o1.2.2.1 / (th_told 1) * (th_told 1)))]) hx hb dX8_heir_93 hl (k := 4) rfl rfl (by decide) rfl (fun ls hl => ?_)
              refine lv_goto (tgt := 29) hx hb dX8_heir_96 (by decide) ?_
              exact ih_29 v2_29 (v3_29 + (nI 1)) hF _ _ _ hP hD hS (lv_sub hl [3, 4, 1, 0] rfl)
            · have hF := ng_f hc hF
              refine lv_iload_n hx hb dX8_heir_87 rfl (lv_at hl 4 rfl) ?_
              refine lv_goto (tgt := 92) hx hb dX8_heir_88 (by decide) ?_
              refine lv_istore_n (lv' := [(2, .int v3_29), (4, .int s0_80), (0, .ref q_th), (1, .int (o1.2.2.1 - o1.2.2.1 / (th_told 1) * (th_told 1))), (3, .int v3_29)]) hx hb dX8_heir_92 rfl hl (by decide) rfl (fun ls hl => ?_)
              refine lv_iinc (v := v3_29 + (nI 1)) (lv' := [(3, .int (v3_29 + (nI 1))), (2, .int v3_29), (4, .int s0_80), (0, .ref q_th), (1, .int (o1.2.2.1 - o1.2.2.1 / (th_told 1) * (th_told 1)))]) hx hb dX8_heir_93 hl (k := 4) rfl rfl (by decide) rfl (fun ls hl => ?_)
              refine lv_goto (tgt := 29) hx hb dX8_heir_96 (by decide) ?_
              exact ih_29 v3_29 (v3_29 + (nI 1)) hF _ _ _ hP hD hS (lv_sub hl [3, 4, 1, 0] rfl)
          have B_75 : fX8_heir_75 v2_29 v3_29 (fX8_heir_29 N th_told o1 n_29) = some o → ∀ (H : Heap) (locs : List Loc) (ls : Array Slot), va_P (dC, dI) vwCl [(q_th, .inr (8, [.ref q_th_told, .ref q_th_now, x_th_text, .int th_letters, .int th_at, x_th_read, .int th_isMore, .int th_told0, .ref q_th_from, .ref q_th_to, x_th_undone, .int th_undos, .ref q_th_aside, .int o1.2.1, .int o1.2.2.1, .int th_first, .int th_second, x_th_seenCell, x_th_seenNight, .int th_seens, .int th_above, .int th_below, x_th_kept, .int th_keeps])), (q_th_aside, .inl (cI, 28, .inl o1.2.2.2.1)), (q_th_now, .inl (cI, 28, .inl o1.2.2.2.2.1)), (q_th_told, .inl (cI, 54, .inl th_told)), (q_th_from, .inl (cI, 25, .inl o1.2.2.2.2.2.1)), (q_th_to, .inl (cI, 25, .inl o1.2.2.2.2.2.2))] H → va_D A [(q_th, .inr (8, [.ref q_th_told, .ref q_th_now, x_th_text, .int th_letters, .int th_at, x_th_read, .int th_isMore, .int th_told0, .ref q_th_from, .ref q_th_to, x_th_undone, .int th_undos, .ref q_th_aside, .int o1.2.1, .int o1.2.2.1, .int th_first, .int th_second, x_th_seenCell, x_th_seenNight, .int th_seens, .int th_above, .int th_below, x_th_kept, .int th_keeps])), (q_th_aside, .inl (cI, 28, .inl o1.2.2.2.1)), (q_th_now, .inl (cI, 28, .inl o1.2.2.2.2.1)), (q_th_told, .inl (cI, 54, .inl th_told)), (q_th_from, .inl (cI, 25, .inl o1.2.2.2.2.2.1)), (q_th_to, .inl (cI, 25, .inl o1.2.2.2.2.2.2))] → va_S A s.heap H locs → lv_has ls 5 [(0, .ref q_th), (1, .int (o1.2.2.1 - o1.2.2.1 / (th_told 1) * (th_told 1))), (2, .int v2_29), (3, .int v3_29)] → W p l e ({ frames := 8, cells := 0, slots := 0, locals := 186 } : Room) s m args below meth c H locs 0 0 Q (F0 m 75 ls []) := by
            intro  hF H locs ls hP hD hS hl
            rw [fX8_heir_75_e] at hF
            refine lv_iconst (v := (nI 1)) hx hb dX8_heir_75 (by decide) ?_
            refine lv_goto (tgt := 80) hx hb dX8_heir_76 (by decide) ?_
            exact B_80 (nI 1) hF _ _ _ hP hD hS (lv_sub hl [0, 1, 2, 3] rfl)
          refine lv_icmp_eq (tgt := 75) hx hb dX8_heir_43 (by decide) (fun hc => ?_) (fun hc => ?_)
          · have hF := ng_t hc hF
            exact B_75  hF _ _ _ hP hD hS (lv_sub hl [0, 1, 2, 3] rfl)
          · have hF := ng_f hc hF
            refine lv_aload_n hx hb dX8_heir_46 rfl (lv_at hl 0 rfl) ?_
            refine nx_get S0 hK hP 0 0 hin_X8 hf_7 rfl rfl (by decide) rfl rfl dX8_heir_47 ?_
            refine lv_bipush (v := (nI 25)) hx hb dX8_heir_50 (by decide) ?_
            refine lv_iload_n hx hb dX8_heir_52 rfl (lv_at hl 3 rfl) ?_
            refine lv_iadd hx hb dX8_heir_53 ?_
            have hg := ng_p hF
            have hF := ng_x hF
            refine nx_iald S0 hK hP 3 (v := th_told (((nI 25) + v3_29).toNatClampNeg)) rfl hg rfl dX8_heir_54 ?_
            refine lv_iload_n hx hb dX8_heir_55 rfl (lv_at hl 1 rfl) ?_
            obtain ⟨o56, hF1, hF⟩ := ng_b hF
            refine nx_callSi (As := [.int (th_told (((nI 25) + v3_29).toNatClampNeg)), .int (o1.2.2.1 - o1.2.2.1 / (th_told 1) * (th_told 1))]) (rest := []) (W1 := [(q_th, .inr (8, [.ref q_th_told, .ref q_th_now, x_th_text, .int th_letters, .int th_at, x_th_read, .int th_isMore, .int th_told0, .ref q_th_from, .ref q_th_to, x_th_undone, .int th_undos, .ref q_th_aside, .int o1.2.1, .int o1.2.2.1, .int th_first, .int th_second, x_th_seenCell, x_th_seenNight, .int th_seens, .int th_above, .int th_below, x_th_kept, .int th_keeps])), (q_th_aside, .inl (cI, 28, .inl o1.2.2.2.1)), (q_th_now, .inl (cI, 28, .inl o1.2.2.2.2.1)), (q_th_told, .inl (cI, 54, .inl th_told)), (q_th_from, .inl (cI, 25, .inl o1.2.2.2.2.2.1)), (q_th_to, .inl (cI, 25, .inl o1.2.2.2.2.2.2))]) (wr := [(q_th, .inr (8, [.ref q_th_told, .ref q_th_now, x_th_text, .int th_letters, .int th_at, x_th_read, .int th_isMore, .int th_told0, .ref q_th_from, .ref q_th_to, x_th_undone, .int th_undos, .ref q_th_aside, .int o1.2.1, .int o1.2.2.1, .int th_first, .int th_second, x_th_seenCell, x_th_seenNight, .int th_seens, .int th_above, .int th_below, x_th_kept, .int th_keeps])), (q_th_aside, .inl (cI, 28, .inl o1.2.2.2.1)), (q_th_now, .inl (cI, 28, .inl o1.2.2.2.2.1)), (q_th_told, .inl (cI, 54, .inl th_told)), (q_th_from, .inl (cI, 25, .inl o1.2.2.2.2.2.1)), (q_th_to, .inl (cI, 25, .inl o1.2.2.2.2.2.2))]) S0 hK hN hA hP hD hS (kX8_apart l dC dI cI _ (th_told (((nI 25) + v3_29).toNatClampNeg)) (o1.2.2.1 - o1.2.2.1 / (th_told 1) * (th_told 1)) N o56 hF1) (va_cwS 2 hts gX8_heir_X8_apart rfl rfl rfl hdX8_apart ⟨Nat.le_of_ble_eq_true rfl, Nat.le_of_ble_eq_true rfl⟩) [] [0, 1, 2, 3, 4, 5] [0, 1, 2, 3, 4, 5] rfl rfl rfl rfl rfl hl.1 rfl (Nat.le_of_ble_eq_true rfl) dX8_heir_56 (fun H locs hP hD hS => ?_)
            refine lv_aload_n hx hb dX8_heir_59 rfl (lv_at hl 0 rfl) ?_
            refine nx_get S0 hK hP 0 0 hin_X8 hf_7 rfl rfl (by decide) rfl rfl dX8_heir_60 ?_
            refine lv_bipush (v := (nI 25)) hx hb dX8_heir_63 (by decide) ?_
            refine lv_iload_n hx hb dX8_heir_65 rfl (lv_at hl 2 rfl) ?_
            refine lv_iadd hx hb dX8_heir_66 ?_
            have hg := ng_p hF
            have hF := ng_x hF
            refine nx_iald S0 hK hP 3 (v := th_told (((nI 25) + v2_29).toNatClampNeg)) rfl hg rfl dX8_heir_67 ?_
            refine lv_iload_n hx hb dX8_heir_68 rfl (lv_at hl 1 rfl) ?_
            obtain ⟨o69, hF1, hF⟩ := ng_b hF
            refine nx_callSi (As := [.int (th_told (((nI 25) + v2_29).toNatClampNeg)), .int (o1.2.2.1 - o1.2.2.1 / (th_told 1) * (th_told 1))]) (rest := [.int o56]) (W1 := [(q_th, .inr (8, [.ref q_th_told, .ref q_th_now, x_th_text, .int th_letters, .int th_at, x_th_read, .int th_isMore, .int th_told0, .ref q_th_from, .ref q_th_to, x_th_undone, .int th_undos, .ref q_th_aside, .int o1.2.1, .int o1.2.2.1, .int th_first, .int th_second, x_th_seenCell, x_th_seenNight, .int th_seens, .int th_above, .int th_below, x_th_kept, .int th_keeps])), (q_th_aside, .inl (cI, 28, .inl o1.2.2.2.1)), (q_th_now, .inl (cI, 28, .inl o1.2.2.2.2.1)), (q_th_told, .inl (cI, 54, .inl th_told)), (q_th_from, .inl (cI, 25, .inl o1.2.2.2.2.2.1)), (q_th_to, .inl (cI, 25, .inl o1.2.2.2.2.2.2))]) (wr := [(q_th, .inr (8, [.ref q_th_told, .ref q_th_now, x_th_text, .int th_letters, .int th_at, x_th_read, .int th_isMore, .int th_told0, .ref q_th_from, .ref q_th_to, x_th_undone, .int th_undos, .ref q_th_aside, .int o1.2.1, .int o1.2.2.1, .int th_first, .int th_second, x_th_seenCell, x_th_seenNight, .int th_seens, .int th_above, .int th_below, x_th_kept, .int th_keeps])), (q_th_aside, .inl (cI, 28, .inl o1.2.2.2.1)), (q_th_now, .inl (cI, 28, .inl o1.2.2.2.2.1)), (q_th_told, .inl (cI, 54, .inl th_told)), (q_th_from, .inl (cI, 25, .inl o1.2.2.2.2.2.1)), (q_th_to, .inl (cI, 25, .inl o1.2.2.2.2.2.2))]) S0 hK hN hA hP hD hS (kX8_apart l dC dI cI _ (th_told (((nI 25) + v2_29).toNatClampNeg)) (o1.2.2.1 - o1.2.2.1 / (th_told 1) * (th_told 1)) N o69 hF1) (va_cwS 2 hts gX8_heir_X8_apart rfl rfl rfl hdX8_apart ⟨Nat.le_of_ble_eq_true rfl, Nat.le_of_ble_eq_true rfl⟩) [] [0, 1, 2, 3, 4, 5] [0, 1, 2, 3, 4, 5] rfl rfl rfl rfl rfl hl.1 rfl (Nat.le_of_ble_eq_true rfl) dX8_heir_69 (fun H locs hP hD hS => ?_)
            refine lv_icmp_ge (tgt := 79) hx hb dX8_heir_72 (by decide) (fun hc => ?_) (fun hc => ?_)
            · have hF := ng_t hc hF
              refine lv_iconst (v := (nI 0)) hx hb dX8_heir_79 (by decide) ?_
              exact B_80 (nI 0) hF _ _ _ hP hD hS (lv_sub hl [0, 1, 2, 3] rfl)
            · have hF := ng_f hc hF
              exact B_75  hF _ _ _ hP hD hS (lv_sub hl [0, 1, 2, 3] rfl)
    refine lv_istore_n (lv' := [(3, .int (nI 0)), (2, .int (-4 : Int32)), (1, .int (o1.2.2.1 - o1.2.2.1 / (th_told 1) * (th_told 1))), (0, .ref q_th)]) hx hb dX8_heir_28 rfl hl (by decide) rfl (fun ls hl => ?_)
    exact B_29 N (-4 : Int32) (nI 0) hF _ _ _ hP hD hS (lv_sub hl [3, 2, 1, 0] rfl)
  · have hF := ng_t hc hF
    refine lv_bipush (v := (-4 : Int32)) hx hb dX8_heir_9 (by decide) ?_
    exact hret (-4 : Int32) o1.2.1 o1.2.2.1 o1.2.2.2.1 o1.2.2.2.2.1 o1.2.2.2.2.2.1 o1.2.2.2.2.2.2 _ _ _ _ hF dX8_heir_11 hP hD hS
theorem hdX8_far : yX8_far.cls ≠ "java/lang/invoke/MethodHandle" ∧ yX8_far.cls ≠ "java/lang/invoke/VarHandle" ∧ (parseMethodDescriptor yX8_far.desc).map (fun d => d.parameters.length) = some 1 := by decide +kernel
set_option maxHeartbeats 40000000 in
set_option maxRecDepth 100000 in
theorem kX8_far (l : Launch) (dC : Nat → ClassId) (dI : Nat → Nat → Nat) (cI : ClassId) (q_th : Nat) (q_th_told : Nat) (q_th_from : Nat) (q_th_now : Nat) (sz : Nat) (x_th_text : Value) (th_letters : Int32) (th_at : Int32) (x_th_read : Value) (th_isMore : Int32) (th_told0 : Int32) (x_th_to : Value) (x_th_undone : Value) (th_undos : Int32) (x_th_aside : Value) (th_beganOn : Int32) (th_beganIn : Int32) (th_first : Int32) (th_second : Int32) (x_th_seenCell : Value) (x_th_seenNight : Value) (th_seens : Int32) (th_above : Int32) (th_below : Int32) (x_th_kept : Value) (th_keeps : Int32) (th_told : Nat → Int32) (th_from : Nat → Int32) (th_now : Nat → Int32) (p1 : Int32) (N : Nat) (o : Int32 × (Nat → Int32)) (hF : fX8_far N p1 th_told th_from th_now = some o) : nx_I l yX8_far wsX8_far ({ frames := 3, cells := 0, slots := 0, locals := 69 } : Room) (dC, dI) cI [.ref q_th, .int p1] [(q_th, .inr (8, [.ref q_th_told, .ref q_th_now, x_th_text, .int th_letters, .int th_at, x_th_read, .int th_isMore, .int th_told0, .ref q_th_from, x_th_to, x_th_undone, .int th_undos, x_th_aside, .int th_beganOn, .int th_beganIn, .int th_first, .int th_second, x_th_seenCell, x_th_seenNight, .int th_seens, .int th_above, .int th_below, x_th_kept, .int th_keeps])), (q_th_told, .inl (cI, 54, .inl th_told)), (q_th_from, .inl (cI, 25, .inl th_from)), (q_th_now, .inl (cI, 28, .inl th_now))] sz o.1 [(q_th, .inr (8, [.ref q_th_told, .ref q_th_now, x_th_text, .int th_letters, .int th_at, x_th_read, .int th_isMore, .int th_told0, .ref q_th_from, x_th_to, x_th_undone, .int th_undos, x_th_aside, .int th_beganOn, .int th_beganIn, .int th_first, .int th_second, x_th_seenCell, x_th_seenNight, .int th_seens, .int th_above, .int th_below, x_th_kept, .int th_keeps])), (q_th_told, .inl (cI, 54, .inl th_told)), (q_th_from, .inl (cI, 25, .inl o.2)), (q_th_now, .inl (cI, 28, .inl th_now))] := by
  refine nx_int (cc := cX8_far) (maxL := 2) (by decide) rfl (Nat.le_of_ble_eq_true rfl) ?_
  intro p e s m args below meth c Q A S0 hK hN hA ret0 hP hD hS ls hl
  have S0 : CallFix p m c cX8_far 2 s args wsX8_far RX8 := S0
  have hx := S0.1
  have hb := S0.2.1
  have hown := S0.2.2.2.1
  have hts := S0.2.2.2.2
  have hf_22 := hts (.fieldLink RX8 22 "SnailsYearModel" "from" "[I") (by decide +kernel)
  have hin_X8 : ∀ w ∈ wsX80, w ∈ wsX8_far := by decide +kernel
  have hl : lv_has ls 2 [(0, .ref q_th), (1, .int p1)] := hl
  have hret : ∀ (r0 : Int32) (y0 : Nat → Int32) (H : Heap) (locs : List Loc) (ls : Array Slot) (pc : Nat), some (r0, y0) = some o → decode cX8_far pc = .ok (.ireturn, 1) → va_P (dC, dI) vwCl [(q_th, .inr (8, [.ref q_th_told, .ref q_th_now, x_th_text, .int th_letters, .int th_at, x_th_read, .int th_isMore, .int th_told0, .ref q_th_from, x_th_to, x_th_undone, .int th_undos, x_th_aside, .int th_beganOn, .int th_beganIn, .int th_first, .int th_second, x_th_seenCell, x_th_seenNight, .int th_seens, .int th_above, .int th_below, x_th_kept, .int th_keeps])), (q_th_told, .inl (cI, 54, .inl th_told)), (q_th_from, .inl (cI, 25, .inl y0)), (q_th_now, .inl (cI, 28, .inl th_now))] H → va_D A [(q_th, .inr (8, [.ref q_th_told, .ref q_th_now, x_th_text, .int th_letters, .int th_at, x_th_read, .int th_isMore, .int th_told0, .ref q_th_from, x_th_to, x_th_undone, .int th_undos, x_th_aside, .int th_beganOn, .int th_beganIn, .int th_first, .int th_second, x_th_seenCell, x_th_seenNight, .int th_seens, .int th_above, .int th_below, x_th_kept, .int th_keeps])), (q_th_told, .inl (cI, 54, .inl th_told)), (q_th_from, .inl (cI, 25, .inl y0)), (q_th_now, .inl (cI, 28, .inl th_now))] → va_S A s.heap H locs → W p l e ({ frames := 3, cells := 0, slots := 0, locals := 69 } : Room) s m args below meth c H locs 0 0 Q (F0 m pc ls [.int r0]) := by
    intro r0 y0 H locs ls pc ho hd hP hD hS
    cases ho
    exact ret0 H locs ls pc hd hP hD hS
  rw [fX8_far_e] at hF
  refine lv_aload_n hx hb dX8_far_0 rfl (lv_at hl 0 rfl) ?_
  refine lv_iload_n hx hb dX8_far_1 rfl (lv_at hl 1 rfl) ?_
  obtain ⟨o2, hF1, hF⟩ := ng_b hF
  refine nx_callVi (As := [.int p1]) (rest := []) (W1 := [(q_th, .inr (8, [.ref q_th_told, .ref q_th_now, x_th_text, .int th_letters, .int th_at, x_th_read, .int th_isMore, .int th_told0, .ref q_th_from, x_th_to, x_th_undone, .int th_undos, x_th_aside, .int th_beganOn, .int th_beganIn, .int th_first, .int th_second, x_th_seenCell, x_th_seenNight, .int th_seens, .int th_above, .int th_below, x_th_kept, .int th_keeps])), (q_th_told, .inl (cI, 54, .inl th_told)), (q_th_from, .inl (cI, 25, .inl th_from)), (q_th_now, .inl (cI, 28, .inl th_now))]) (wr := [(q_th_from, .inl (cI, 25, .inl th_from)), (q_th_now, .inl (cI, 28, .inl th_now))]) S0 hK hN hA hP hD hS (kX8_isCell l dC dI cI q_th q_th_told _ (.ref q_th_now) (x_th_text) th_letters th_at (x_th_read) th_isMore th_told0 (.ref q_th_from) (x_th_to) (x_th_undone) th_undos (x_th_aside) th_beganOn th_beganIn th_first th_second (x_th_seenCell) (x_th_seenNight) th_seens th_above th_below (x_th_kept) th_keeps th_told p1 N o2 hF1) (cwV 1 hts gX8_far_X8_isCell rfl rfl rfl ⟨rfl, hdX8_isCell⟩ ⟨Nat.le_of_ble_eq_true rfl, Nat.le_of_ble_eq_true rfl⟩) [0, 1] [2, 3] [2, 3, 0, 1] rfl rfl rfl rfl 0 8 rfl rfl rfl rfl hl.1 rfl (Nat.le_of_ble_eq_true rfl) dX8_far_2 (fun H locs hP hD hS => ?_)
  refine lv_if_ne (tgt := 10) hx hb dX8_far_5 (by decide) (fun hc => ?_) (fun hc => ?_)
  · have hF := ng_f hc hF
    refine lv_aload_n hx hb dX8_far_10 rfl (lv_at hl 0 rfl) ?_
    obtain ⟨o11, hF1, hF⟩ := ng_b hF
    refine nx_callVv (As := []) (rest := []) (W1 := [(q_th, .inr (8, [.ref q_th_told, .ref q_th_now, x_th_text, .int th_letters, .int th_at, x_th_read, .int th_isMore, .int th_told0, .ref q_th_from, x_th_to, x_th_undone, .int th_undos, x_th_aside, .int th_beganOn, .int th_beganIn, .int th_first, .int th_second, x_th_seenCell, x_th_seenNight, .int th_seens, .int th_above, .int th_below, x_th_kept, .int th_keeps])), (q_th_told, .inl (cI, 54, .inl th_told)), (q_th_from, .inl (cI, 25, .inl o11)), (q_th_now, .inl (cI, 28, .inl th_now))]) (wr := []) S0 hK hN hA hP hD hS (kX8_seeks l dC dI cI q_th q_th_told q_th_from q_th_now _ (x_th_text) th_letters th_at (x_th_read) th_isMore th_told0 (x_th_to) (x_th_undone) th_undos (x_th_aside) th_beganOn th_beganIn th_first th_second (x_th_seenCell) (x_th_seenNight) th_seens th_above th_below (x_th_kept) th_keeps th_told th_from th_now N o11 hF1) (cwV 0 hts gX8_far_X8_seeks rfl rfl rfl ⟨rfl, hdX8_seeks⟩ ⟨Nat.le_of_ble_eq_true rfl, Nat.le_of_ble_eq_true rfl⟩) [0, 1, 2, 3] [] [0, 1, 2, 3] rfl rfl rfl rfl 0 8 rfl rfl rfl rfl hl.1 rfl (Nat.le_of_ble_eq_true rfl) dX8_far_11 (fun H locs hP hD hS => ?_)
    refine lv_aload_n hx hb dX8_far_14 rfl (lv_at hl 0 rfl) ?_
    refine nx_get S0 hK hP 0 8 hin_X8 hf_22 rfl rfl (by decide) rfl rfl dX8_far_15 ?_
    refine lv_iload_n hx hb dX8_far_18 rfl (lv_at hl 1 rfl) ?_
    have hg := ng_p hF
    have hF := ng_x hF
    refine nx_iald S0 hK hP 2 (v := o11 p1.toNatClampNeg) rfl hg rfl dX8_far_19 ?_
    refine lv_sipush (v := (nI 9999)) hx hb dX8_far_20 (by decide) ?_
    refine lv_icmp_ge (tgt := 35) hx hb dX8_far_23 (by decide) (fun hc => ?_) (fun hc => ?_)
    · have hF := ng_t hc hF
      refine lv_bipush (v := (-4 : Int32)) hx hb dX8_far_35 (by decide) ?_
      exact hret (-4 : Int32) o11 _ _ _ _ hF dX8_far_37 hP hD hS
    · have hF := ng_f hc hF
      refine lv_aload_n hx hb dX8_far_26 rfl (lv_at hl 0 rfl) ?_
      refine nx_get S0 hK hP 0 8 hin_X8 hf_22 rfl rfl (by decide) rfl rfl dX8_far_27 ?_
      refine lv_iload_n hx hb dX8_far_30 rfl (lv_at hl 1 rfl) ?_
      have hg := ng_p hF
      have hF := ng_x hF
      refine nx_iald S0 hK hP 2 (v := o11 p1.toNatClampNeg) rfl hg rfl dX8_far_31 ?_
      refine lv_goto (tgt := 37) hx hb dX8_far_32 (by decide) ?_
      exact hret (o11 p1.toNatClampNeg) o11 _ _ _ _ hF dX8_far_37 hP hD hS
  · have hF := ng_t hc hF
    refine lv_iconst (v := (-1 : Int32)) hx hb dX8_far_8 (by decide) ?_
    exact hret (-1 : Int32) th_from _ _ _ _ hF dX8_far_9 hP hD hS
theorem hdX8_mayLay : yX8_mayLay.cls ≠ "java/lang/invoke/MethodHandle" ∧ yX8_mayLay.cls ≠ "java/lang/invoke/VarHandle" ∧ (parseMethodDescriptor yX8_mayLay.desc).map (fun d => d.parameters.length) = some 1 := by decide +kernel
set_option maxHeartbeats 40000000 in
set_option maxRecDepth 100000 in
theorem kX8_mayLay (l : Launch) (dC : Nat → ClassId) (dI : Nat → Nat → Nat) (cI : ClassId) (q_th : Nat) (q_th_now : Nat) (sz : Nat) (x_th_told : Value) (x_th_text : Value) (th_letters : Int32) (th_at : Int32) (x_th_read : Value) (th_isMore : Int32) (th_told0 : Int32) (x_th_from : Value) (x_th_to : Value) (x_th_undone : Value) (th_undos : Int32) (x_th_aside : Value) (th_beganOn : Int32) (th_beganIn : Int32) (th_first : Int32) (th_second : Int32) (x_th_seenCell : Value) (x_th_seenNight : Value) (th_seens : Int32) (th_above : Int32) (th_below : Int32) (x_th_kept : Value) (th_keeps : Int32) (th_now : Nat → Int32) (p1 : Int32) (N : Nat) (o : Int32) (hF : fX8_mayLay N p1 th_now = some o) : nx_I l yX8_mayLay wsX8_mayLay ({ frames := 1, cells := 0, slots := 0, locals := 21 } : Room) (dC, dI) cI [.ref q_th, .int p1] [(q_th, .inr (8, [x_th_told, .ref q_th_now, x_th_text, .int th_letters, .int th_at, x_th_read, .int th_isMore, .int th_told0, x_th_from, x_th_to, x_th_undone, .int th_undos, x_th_aside, .int th_beganOn, .int th_beganIn, .int th_first, .int th_second, x_th_seenCell, x_th_seenNight, .int th_seens, .int th_above, .int th_below, x_th_kept, .int th_keeps])), (q_th_now, .inl (cI, 28, .inl th_now))] sz o [(q_th, .inr (8, [x_th_told, .ref q_th_now, x_th_text, .int th_letters, .int th_at, x_th_read, .int th_isMore, .int th_told0, x_th_from, x_th_to, x_th_undone, .int th_undos, x_th_aside, .int th_beganOn, .int th_beganIn, .int th_first, .int th_second, x_th_seenCell, x_th_seenNight, .int th_seens, .int th_above, .int th_below, x_th_kept, .int th_keeps])), (q_th_now, .inl (cI, 28, .inl th_now))] := by
  refine nx_zint (cc := cX8_mayLay) (maxL := 2) (by decide) rfl (Nat.le_of_ble_eq_true rfl) ?_
  intro p e s m args below meth c Q A S0 hK hN hA ret0 hP hD hS ls hl
  have S0 : CallFix p m c cX8_mayLay 2 s args wsX8_mayLay RX8 := S0
  have hx := S0.1
  have hb := S0.2.1
  have hown := S0.2.2.2.1
  have hts := S0.2.2.2.2
  have hf_13 := hts (.fieldLink RX8 13 "SnailsYearModel" "now" "[I") (by decide +kernel)
  have hin_X8 : ∀ w ∈ wsX80, w ∈ wsX8_mayLay := by decide +kernel
  have hl : lv_has ls 2 [(0, .ref q_th), (1, .int p1)] := hl
  have hret : ∀ (r0 : Int32) (H : Heap) (locs : List Loc) (ls : Array Slot) (pc : Nat), (r0 = 0 ∨ r0 = 1) → some r0 = some o → decode cX8_mayLay pc = .ok (.ireturn, 1) → va_P (dC, dI) vwCl [(q_th, .inr (8, [x_th_told, .ref q_th_now, x_th_text, .int th_letters, .int th_at, x_th_read, .int th_isMore, .int th_told0, x_th_from, x_th_to, x_th_undone, .int th_undos, x_th_aside, .int th_beganOn, .int th_beganIn, .int th_first, .int th_second, x_th_seenCell, x_th_seenNight, .int th_seens, .int th_above, .int th_below, x_th_kept, .int th_keeps])), (q_th_now, .inl (cI, 28, .inl th_now))] H → va_D A [(q_th, .inr (8, [x_th_told, .ref q_th_now, x_th_text, .int th_letters, .int th_at, x_th_read, .int th_isMore, .int th_told0, x_th_from, x_th_to, x_th_undone, .int th_undos, x_th_aside, .int th_beganOn, .int th_beganIn, .int th_first, .int th_second, x_th_seenCell, x_th_seenNight, .int th_seens, .int th_above, .int th_below, x_th_kept, .int th_keeps])), (q_th_now, .inl (cI, 28, .inl th_now))] → va_S A s.heap H locs → W p l e ({ frames := 1, cells := 0, slots := 0, locals := 21 } : Room) s m args below meth c H locs 0 0 Q (F0 m pc ls [.int r0]) := by
    intro r0 H locs ls pc hz ho hd hP hD hS
    cases ho
    exact ret0 H locs ls pc hz hd hP hD hS
  rw [fX8_mayLay_e] at hF
  refine lv_aload_n hx hb dX8_mayLay_0 rfl (lv_at hl 0 rfl) ?_
  refine lv_iload_n hx hb dX8_mayLay_1 rfl (lv_at hl 1 rfl) ?_
  obtain ⟨o2, hF1, hF⟩ := ng_b hF
  refine nx_callVi (As := [.int p1]) (rest := []) (W1 := [(q_th, .inr (8, [x_th_told, .ref q_th_now, x_th_text, .int th_letters, .int th_at, x_th_read, .int th_isMore, .int th_told0, x_th_from, x_th_to, x_th_undone, .int th_undos, x_th_aside, .int th_beganOn, .int th_beganIn, .int th_first, .int th_second, x_th_seenCell, x_th_seenNight, .int th_seens, .int th_above, .int th_below, x_th_kept, .int th_keeps])), (q_th_now, .inl (cI, 28, .inl th_now))]) (wr := []) S0 hK hN hA hP hD hS (kX8_kind l dC dI cI q_th q_th_now _ (x_th_told) (x_th_text) th_letters th_at (x_th_read) th_isMore th_told0 (x_th_from) (x_th_to) (x_th_undone) th_undos (x_th_aside) th_beganOn th_beganIn th_first th_second (x_th_seenCell) (x_th_seenNight) th_seens th_above th_below (x_th_kept) th_keeps th_now p1 N o2 hF1) (cwV 1 hts gX8_mayLay_X8_kind rfl rfl rfl ⟨rfl, hdX8_kind⟩ ⟨Nat.le_of_ble_eq_true rfl, Nat.le_of_ble_eq_true rfl⟩) [0, 1] [] [0, 1] rfl rfl rfl rfl 0 8 rfl rfl rfl rfl hl.1 rfl (Nat.le_of_ble_eq_true rfl) dX8_mayLay_2 (fun H locs hP hD hS => ?_)
  refine lv_if_ne (tgt := 22) hx hb dX8_mayLay_5 (by decide) (fun hc => ?_) (fun hc => ?_)
  · have hF := ng_f hc hF
    refine lv_iconst (v := (nI 0)) hx hb dX8_mayLay_22 (by decide) ?_
    exact hret (nI 0) _ _ _ _ (Or.inl rfl) hF dX8_mayLay_23 hP hD hS
  · have hF := ng_t hc hF
    refine lv_aload_n hx hb dX8_mayLay_8 rfl (lv_at hl 0 rfl) ?_
    refine nx_get S0 hK hP 0 1 hin_X8 hf_13 rfl rfl (by decide) rfl rfl dX8_mayLay_9 ?_
    refine lv_iconst (v := (nI 1)) hx hb dX8_mayLay_12 (by decide) ?_
    refine nx_iald S0 hK hP 1 (v := th_now 1) rfl (by decide) rfl dX8_mayLay_13 ?_
    refine lv_iload_n hx hb dX8_mayLay_14 rfl (lv_at hl 1 rfl) ?_
    refine lv_icmp_eq (tgt := 22) hx hb dX8_mayLay_15 (by decide) (fun hc => ?_) (fun hc => ?_)
    · have hF := ng_t hc hF
      refine lv_iconst (v := (nI 0)) hx hb dX8_mayLay_22 (by decide) ?_
      exact hret (nI 0) _ _ _ _ (Or.inl rfl) hF dX8_mayLay_23 hP hD hS
    · have hF := ng_f hc hF
      refine lv_iconst (v := (nI 1)) hx hb dX8_mayLay_18 (by decide) ?_
      refine lv_goto (tgt := 23) hx hb dX8_mayLay_19 (by decide) ?_
      exact hret (nI 1) _ _ _ _ (Or.inr rfl) hF dX8_mayLay_23 hP hD hS
theorem hdX8_isWell : yX8_isWell.cls ≠ "java/lang/invoke/MethodHandle" ∧ yX8_isWell.cls ≠ "java/lang/invoke/VarHandle" ∧ (parseMethodDescriptor yX8_isWell.desc).map (fun d => d.parameters.length) = some 2 := by decide +kernel
set_option maxHeartbeats 40000000 in
set_option maxRecDepth 100000 in
theorem kX8_isWell (l : Launch) (dC : Nat → ClassId) (dI : Nat → Nat → Nat) (cI : ClassId) (q_th : Nat) (q_th_now : Nat) (q_th_told : Nat) (q_th_from : Nat) (q_th_to : Nat) (q_th_aside : Nat) (sz : Nat) (x_th_text : Value) (th_letters : Int32) (th_at : Int32) (x_th_read : Value) (th_isMore : Int32) (th_told0 : Int32) (x_th_undone : Value) (th_undos : Int32) (th_beganOn : Int32) (th_beganIn : Int32) (th_first : Int32) (th_second : Int32) (x_th_seenCell : Value) (x_th_seenNight : Value) (th_seens : Int32) (th_above : Int32) (th_below : Int32) (x_th_kept : Value) (th_keeps : Int32) (th_now : Nat → Int32) (th_told : Nat → Int32) (th_from : Nat → Int32) (th_to : Nat → Int32) (th_aside : Nat → Int32) (p1 : Int32) (p2 : Int32) (N : Nat) (o : Int32 × Int32 × Int32 × (Nat → Int32) × (Nat → Int32) × (Nat → Int32)) (hF : fX8_isWell N p1 p2 th_now th_told th_from th_to th_aside = some o) : nx_I l yX8_isWell wsX8_isWell ({ frames := 7, cells := 0, slots := 0, locals := 165 } : Room) (dC, dI) cI [.ref q_th, .int p1, .int p2] [(q_th, .inr (8, [.ref q_th_told, .ref q_th_now, x_th_text, .int th_letters, .int th_at, x_th_read, .int th_isMore, .int th_told0, .ref q_th_from, .ref q_th_to, x_th_undone, .int th_undos, .ref q_th_aside, .int th_beganOn, .int th_beganIn, .int th_first, .int th_second, x_th_seenCell, x_th_seenNight, .int th_seens, .int th_above, .int th_below, x_th_kept, .int th_keeps])), (q_th_now, .inl (cI, 28, .inl th_now)), (q_th_told, .inl (cI, 54, .inl th_told)), (q_th_from, .inl (cI, 25, .inl th_from)), (q_th_to, .inl (cI, 25, .inl th_to)), (q_th_aside, .inl (cI, 28, .inl th_aside))] sz o.1 [(q_th, .inr (8, [.ref q_th_told, .ref q_th_now, x_th_text, .int th_letters, .int th_at, x_th_read, .int th_isMore, .int th_told0, .ref q_th_from, .ref q_th_to, x_th_undone, .int th_undos, .ref q_th_aside, .int o.2.1, .int o.2.2.1, .int th_first, .int th_second, x_th_seenCell, x_th_seenNight, .int th_seens, .int th_above, .int th_below, x_th_kept, .int th_keeps])), (q_th_now, .inl (cI, 28, .inl o.2.2.2.1)), (q_th_told, .inl (cI, 54, .inl th_told)), (q_th_from, .inl (cI, 25, .inl o.2.2.2.2.1)), (q_th_to, .inl (cI, 25, .inl o.2.2.2.2.2)), (q_th_aside, .inl (cI, 28, .inl th_aside))] := by
  refine nx_zint (cc := cX8_isWell) (maxL := 4) (by decide) rfl (Nat.le_of_ble_eq_true rfl) ?_
  intro p e s m args below meth c Q A S0 hK hN hA ret0 hP hD hS ls hl
  have S0 : CallFix p m c cX8_isWell 4 s args wsX8_isWell RX8 := S0
  have hx := S0.1
  have hb := S0.2.1
  have hown := S0.2.2.2.1
  have hts := S0.2.2.2.2
  have hl : lv_has ls 4 [(0, .ref q_th), (1, .int p1), (2, .int p2)] := hl
  have hret : ∀ (r0 : Int32) (y0 : Int32) (y1 : Int32) (y2 : Nat → Int32) (y3 : Nat → Int32) (y4 : Nat → Int32) (H : Heap) (locs : List Loc) (ls : Array Slot) (pc : Nat), (r0 = 0 ∨ r0 = 1) → some (r0, y0, y1, y2, y3, y4) = some o → decode cX8_isWell pc = .ok (.ireturn, 1) → va_P (dC, dI) vwCl [(q_th, .inr (8, [.ref q_th_told, .ref q_th_now, x_th_text, .int th_letters, .int th_at, x_th_read, .int th_isMore, .int th_told0, .ref q_th_from, .ref q_th_to, x_th_undone, .int th_undos, .ref q_th_aside, .int y0, .int y1, .int th_first, .int th_second, x_th_seenCell, x_th_seenNight, .int th_seens, .int th_above, .int th_below, x_th_kept, .int th_keeps])), (q_th_now, .inl (cI, 28, .inl y2)), (q_th_told, .inl (cI, 54, .inl th_told)), (q_th_from, .inl (cI, 25, .inl y3)), (q_th_to, .inl (cI, 25, .inl y4)), (q_th_aside, .inl (cI, 28, .inl th_aside))] H → va_D A [(q_th, .inr (8, [.ref q_th_told, .ref q_th_now, x_th_text, .int th_letters, .int th_at, x_th_read, .int th_isMore, .int th_told0, .ref q_th_from, .ref q_th_to, x_th_undone, .int th_undos, .ref q_th_aside, .int y0, .int y1, .int th_first, .int th_second, x_th_seenCell, x_th_seenNight, .int th_seens, .int th_above, .int th_below, x_th_kept, .int th_keeps])), (q_th_now, .inl (cI, 28, .inl y2)), (q_th_told, .inl (cI, 54, .inl th_told)), (q_th_from, .inl (cI, 25, .inl y3)), (q_th_to, .inl (cI, 25, .inl y4)), (q_th_aside, .inl (cI, 28, .inl th_aside))] → va_S A s.heap H locs → W p l e ({ frames := 7, cells := 0, slots := 0, locals := 165 } : Room) s m args below meth c H locs 0 0 Q (F0 m pc ls [.int r0]) := by
    intro r0 y0 y1 y2 y3 y4 H locs ls pc hz ho hd hP hD hS
    cases ho
    exact ret0 H locs ls pc hz hd hP hD hS
  rw [fX8_isWell_e] at hF
  refine lv_aload_n hx hb dX8_isWell_0 rfl (lv_at hl 0 rfl) ?_
  obtain ⟨o1, hF1, hF⟩ := ng_b hF
  refine nx_callVi (As := []) (rest := []) (W1 := [(q_th, .inr (8, [.ref q_th_told, .ref q_th_now, x_th_text, .int th_letters, .int th_at, x_th_read, .int th_isMore, .int th_told0, .ref q_th_from, .ref q_th_to, x_th_undone, .int th_undos, .ref q_th_aside, .int o1.2.1, .int o1.2.2.1, .int th_first, .int th_second, x_th_seenCell, x_th_seenNight, .int th_seens, .int th_above, .int th_below, x_th_kept, .int th_keeps])), (q_th_now, .inl (cI, 28, .inl o1.2.2.2.1)), (q_th_told, .inl (cI, 54, .inl th_told)), (q_th_from, .inl (cI, 25, .inl o1.2.2.2.2.1)), (q_th_to, .inl (cI, 25, .inl o1.2.2.2.2.2)), (q_th_aside, .inl (cI, 28, .inl th_aside))]) (wr := [(q_th_aside, .inl (cI, 28, .inl th_aside))]) S0 hK hN hA hP hD hS (kX8_beginsSo l dC dI cI q_th q_th_now q_th_told q_th_from q_th_to _ (x_th_text) th_letters th_at (x_th_read) th_isMore th_told0 (x_th_undone) th_undos (.ref q_th_aside) th_beganOn th_beganIn th_first th_second (x_th_seenCell) (x_th_seenNight) th_seens th_above th_below (x_th_kept) th_keeps th_now th_told th_from th_to N o1 hF1) (cwV 0 hts gX8_isWell_X8_beginsSo rfl rfl rfl ⟨rfl, hdX8_beginsSo⟩ ⟨Nat.le_of_ble_eq_true rfl, Nat.le_of_ble_eq_true rfl⟩) [0, 1, 2, 3, 4] [5] [1, 2, 3, 4, 5, 0] rfl rfl rfl rfl 0 8 rfl rfl rfl rfl hl.1 rfl (Nat.le_of_ble_eq_true rfl) dX8_isWell_1 (fun H locs hP hD hS => ?_)
  refine lv_istore_n (lv' := [(3, .int o1.1), (0, .ref q_th), (1, .int p1), (2, .int p2)]) hx hb dX8_isWell_4 rfl hl (by decide) rfl (fun ls hl => ?_)
  refine lv_aload_n hx hb dX8_isWell_5 rfl (lv_at hl 1 rfl) ?_
  obtain ⟨o6, hF1, hF⟩ := ng_b hF
  refine nx_callVv (As := []) (rest := []) (W1 := [(q_th, .inr (8, [.ref q_th_told, .ref q_th_now, x_th_text, .int th_letters, .int th_at, x_th_read, .int th_isMore, .int th_told0, .ref q_th_from, .ref q_th_to, x_th_undone, .int th_undos, .ref q_th_aside, .int o1.2.1, .int o1.2.2.1, .int th_first, .int th_second, x_th_seenCell, x_th_seenNight, .int th_seens, .int th_above, .int th_below, x_th_kept, .int th_keeps])), (q_th_now, .inl (cI, 28, .inl o6)), (q_th_told, .inl (cI, 54, .inl th_told)), (q_th_from, .inl (cI, 25, .inl o1.2.2.2.2.1)), (q_th_to, .inl (cI, 25, .inl o1.2.2.2.2.2)), (q_th_aside, .inl (cI, 28, .inl th_aside))]) (wr := [(q_th_told, .inl (cI, 54, .inl th_told)), (q_th_from, .inl (cI, 25, .inl o1.2.2.2.2.1)), (q_th_to, .inl (cI, 25, .inl o1.2.2.2.2.2))]) S0 hK hN hA hP hD hS (kX8_backs l dC dI cI q_th q_th_now q_th_aside _ (.ref q_th_told) (x_th_text) th_letters th_at (x_th_read) th_isMore th_told0 (.ref q_th_from) (.ref q_th_to) (x_th_undone) th_undos o1.2.1 o1.2.2.1 th_first th_second (x_th_seenCell) (x_th_seenNight) th_seens th_above th_below (x_th_kept) th_keeps o1.2.2.2.1 th_aside N o6 hF1) (cwV 0 hts gX8_isWell_X8_backs rfl rfl rfl ⟨rfl, hdX8_backs⟩ ⟨Nat.le_of_ble_eq_true rfl, Nat.le_of_ble_eq_true rfl⟩) [0, 1, 5] [2, 3, 4] [3, 4, 0, 1, 2, 5] rfl rfl rfl rfl 0 8 rfl rfl rfl rfl hl.1 rfl (Nat.le_of_ble_eq_true rfl) dX8_isWell_6 (fun H locs hP hD hS => ?_)
  refine lv_iload_n hx hb dX8_isWell_9 rfl (lv_at hl 0 rfl) ?_
  refine lv_bipush (v := (-4 : Int32)) hx hb dX8_isWell_10 (by decide) ?_
  refine lv_icmp_eq (tgt := 31) hx hb dX8_isWell_12 (by decide) (fun hc => ?_) (fun hc => ?_)
  · have hF := ng_t hc hF
    refine lv_iconst (v := (nI 0)) hx hb dX8_isWell_31 (by decide) ?_
    exact hret (nI 0) o1.2.1 o1.2.2.1 o6 o1.2.2.2.2.1 o1.2.2.2.2.2 _ _ _ _ (Or.inl rfl) hF dX8_isWell_32 hP hD hS
  · have hF := ng_f hc hF
    refine lv_iload_n hx hb dX8_isWell_15 rfl (lv_at hl 0 rfl) ?_
    refine lv_i2l hx hb dX8_isWell_16 rfl ?_
    refine lv_iload_n hx hb dX8_isWell_17 rfl (lv_at hl 2 rfl) ?_
    refine lv_i2l hx hb dX8_isWell_18 rfl ?_
    refine lv_iload_n hx hb dX8_isWell_19 rfl (lv_at hl 3 rfl) ?_
    refine lv_i2l hx hb dX8_isWell_20 rfl ?_
    obtain ⟨o21, hF1, hF⟩ := ng_b hF
    refine nx_callSi (As := [.long o1.1.toInt64, .long p1.toInt64, .long p2.toInt64]) (rest := []) (W1 := [(q_th, .inr (8, [.ref q_th_told, .ref q_th_now, x_th_text, .int th_letters, .int th_at, x_th_read, .int th_isMore, .int th_told0, .ref q_th_from, .ref q_th_to, x_th_undone, .int th_undos, .ref q_th_aside, .int o1.2.1, .int o1.2.2.1, .int th_first, .int th_second, x_th_seenCell, x_th_seenNight, .int th_seens, .int th_above, .int th_below, x_th_kept, .int th_keeps])), (q_th_now, .inl (cI, 28, .inl o6)), (q_th_told, .inl (cI, 54, .inl th_told)), (q_th_from, .inl (cI, 25, .inl o1.2.2.2.2.1)), (q_th_to, .inl (cI, 25, .inl o1.2.2.2.2.2)), (q_th_aside, .inl (cI, 28, .inl th_aside))]) (wr := [(q_th, .inr (8, [.ref q_th_told, .ref q_th_now, x_th_text, .int th_letters, .int th_at, x_th_read, .int th_isMore, .int th_told0, .ref q_th_from, .ref q_th_to, x_th_undone, .int th_undos, .ref q_th_aside, .int o1.2.1, .int o1.2.2.1, .int th_first, .int th_second, x_th_seenCell, x_th_seenNight, .int th_seens, .int th_above, .int th_below, x_th_kept, .int th_keeps])), (q_th_now, .inl (cI, 28, .inl o6)), (q_th_told, .inl (cI, 54, .inl th_told)), (q_th_from, .inl (cI, 25, .inl o1.2.2.2.2.1)), (q_th_to, .inl (cI, 25, .inl o1.2.2.2.2.2)), (q_th_aside, .inl (cI, 28, .inl th_aside))]) S0 hK hN hA hP hD hS (kX8_in l dC dI cI _ o1.1.toInt64 p1.toInt64 p2.toInt64 N o21 hF1) (va_cwS 3 hts gX8_isWell_X8_in rfl rfl rfl hdX8_in ⟨Nat.le_of_ble_eq_true rfl, Nat.le_of_ble_eq_true rfl⟩) [] [0, 1, 2, 3, 4, 5] [0, 1, 2, 3, 4, 5] rfl rfl rfl rfl rfl hl.1 rfl (Nat.le_of_ble_eq_true rfl) dX8_isWell_21 (fun H locs hP hD hS => ?_)
    refine lv_if_eq (tgt := 31) hx hb dX8_isWell_24 (by decide) (fun hc => ?_) (fun hc => ?_)
    · have hF := ng_t hc hF
      refine lv_iconst (v := (nI 0)) hx hb dX8_isWell_31 (by decide) ?_
      exact hret (nI 0) o1.2.1 o1.2.2.1 o6 o1.2.2.2.2.1 o1.2.2.2.2.2 _ _ _ _ (Or.inl rfl) hF dX8_isWell_32 hP hD hS
    · have hF := ng_f hc hF
      refine lv_iconst (v := (nI 1)) hx hb dX8_isWell_27 (by decide) ?_
      refine lv_goto (tgt := 32) hx hb dX8_isWell_28 (by decide) ?_
      exact hret (nI 1) o1.2.1 o1.2.2.1 o6 o1.2.2.2.2.1 o1.2.2.2.2.2 _ _ _ _ (Or.inr rfl) hF dX8_isWell_32 hP hD hS
theorem hdX8_lays : yX8_lays.cls ≠ "java/lang/invoke/MethodHandle" ∧ yX8_lays.cls ≠ "java/lang/invoke/VarHandle" ∧ (parseMethodDescriptor yX8_lays.desc).map (fun d => d.parameters.length) = some 2 := by decide +kernel
set_option maxHeartbeats 40000000 in
set_option maxRecDepth 100000 in
theorem kX8_lays (l : Launch) (dC : Nat → ClassId) (dI : Nat → Nat → Nat) (cI : ClassId) (q_th : Nat) (q_th_aside : Nat) (q_th_now : Nat) (q_th_told : Nat) (q_th_from : Nat) (q_th_to : Nat) (sz : Nat) (x_th_text : Value) (th_letters : Int32) (th_at : Int32) (x_th_read : Value) (th_isMore : Int32) (th_told0 : Int32) (x_th_undone : Value) (th_undos : Int32) (th_beganOn : Int32) (th_beganIn : Int32) (th_first : Int32) (th_second : Int32) (x_th_seenCell : Value) (x_th_seenNight : Value) (th_seens : Int32) (th_above : Int32) (th_below : Int32) (x_th_kept : Value) (th_keeps : Int32) (th_aside : Nat → Int32) (th_now : Nat → Int32) (th_told : Nat → Int32) (th_from : Nat → Int32) (th_to : Nat → Int32) (p1 : Int32) (p2 : Int32) (N : Nat) (o : Int32 × Int32 × Int32 × Int32 × Int32 × (Nat → Int32) × (Nat → Int32) × (Nat → Int32) × (Nat → Int32)) (hF : fX8_lays N p1 p2 th_aside th_now th_told th_from th_to = some o) : nx_I l yX8_lays wsX8_lays ({ frames := 8, cells := 0, slots := 0, locals := 188 } : Room) (dC, dI) cI [.ref q_th, .int p1, .int p2] [(q_th, .inr (8, [.ref q_th_told, .ref q_th_now, x_th_text, .int th_letters, .int th_at, x_th_read, .int th_isMore, .int th_told0, .ref q_th_from, .ref q_th_to, x_th_undone, .int th_undos, .ref q_th_aside, .int th_beganOn, .int th_beganIn, .int th_first, .int th_second, x_th_seenCell, x_th_seenNight, .int th_seens, .int th_above, .int th_below, x_th_kept, .int th_keeps])), (q_th_aside, .inl (cI, 28, .inl th_aside)), (q_th_now, .inl (cI, 28, .inl th_now)), (q_th_told, .inl (cI, 54, .inl th_told)), (q_th_from, .inl (cI, 25, .inl th_from)), (q_th_to, .inl (cI, 25, .inl th_to))] sz o.1 [(q_th, .inr (8, [.ref q_th_told, .ref q_th_now, x_th_text, .int th_letters, .int th_at, x_th_read, .int th_isMore, .int th_told0, .ref q_th_from, .ref q_th_to, x_th_undone, .int th_undos, .ref q_th_aside, .int o.2.1, .int o.2.2.1, .int o.2.2.2.1, .int o.2.2.2.2.1, x_th_seenCell, x_th_seenNight, .int th_seens, .int th_above, .int th_below, x_th_kept, .int th_keeps])), (q_th_aside, .inl (cI, 28, .inl o.2.2.2.2.2.1)), (q_th_now, .inl (cI, 28, .inl o.2.2.2.2.2.2.1)), (q_th_told, .inl (cI, 54, .inl th_told)), (q_th_from, .inl (cI, 25, .inl o.2.2.2.2.2.2.2.1)), (q_th_to, .inl (cI, 25, .inl o.2.2.2.2.2.2.2.2))] := by
  refine nx_int (cc := cX8_lays) (maxL := 5) (by decide) rfl (Nat.le_of_ble_eq_true rfl) ?_
  intro p e s m args below meth c Q A S0 hK hN hA ret0 hP hD hS ls hl
  have S0 : CallFix p m c cX8_lays 5 s args wsX8_lays RX8 := S0
  have hx := S0.1
  have hb := S0.2.1
  have hown := S0.2.2.2.1
  have hts := S0.2.2.2.2
  have hf_183 := hts (.fieldLink RX8 183 "SnailsYearModel" "first" "I") (by decide +kernel)
  have hin_X8 : ∀ w ∈ wsX80, w ∈ wsX8_lays := by decide +kernel
  have hf_186 := hts (.fieldLink RX8 186 "SnailsYearModel" "second" "I") (by decide +kernel)
  have hf_13 := hts (.fieldLink RX8 13 "SnailsYearModel" "now" "[I") (by decide +kernel)
  have hl : lv_has ls 5 [(0, .ref q_th), (1, .int p1), (2, .int p2)] := hl
  have hret : ∀ (r0 : Int32) (y0 : Int32) (y1 : Int32) (y2 : Int32) (y3 : Int32) (y4 : Nat → Int32) (y5 : Nat → Int32) (y6 : Nat → Int32) (y7 : Nat → Int32) (H : Heap) (locs : List Loc) (ls : Array Slot) (pc : Nat), some (r0, y0, y1, y2, y3, y4, y5, y6, y7) = some o → decode cX8_lays pc = .ok (.ireturn, 1) → va_P (dC, dI) vwCl [(q_th, .inr (8, [.ref q_th_told, .ref q_th_now, x_th_text, .int th_letters, .int th_at, x_th_read, .int th_isMore, .int th_told0, .ref q_th_from, .ref q_th_to, x_th_undone, .int th_undos, .ref q_th_aside, .int y0, .int y1, .int y2, .int y3, x_th_seenCell, x_th_seenNight, .int th_seens, .int th_above, .int th_below, x_th_kept, .int th_keeps])), (q_th_aside, .inl (cI, 28, .inl y4)), (q_th_now, .inl (cI, 28, .inl y5)), (q_th_told, .inl (cI, 54, .inl th_told)), (q_th_from, .inl (cI, 25, .inl y6)), (q_th_to, .inl (cI, 25, .inl y7))] H → va_D A [(q_th, .inr (8, [.ref q_th_told, .ref q_th_now, x_th_text, .int th_letters, .int th_at, x_th_read, .int th_isMore, .int th_told0, .ref q_th_from, .ref q_th_to, x_th_undone, .int th_undos, .ref q_th_aside, .int y0, .int y1, .int y2, .int y3, x_th_seenCell, x_th_seenNight, .int th_seens, .int th_above, .int th_below, x_th_kept, .int th_keeps])), (q_th_aside, .inl (cI, 28, .inl y4)), (q_th_now, .inl (cI, 28, .inl y5)), (q_th_told, .inl (cI, 54, .inl th_told)), (q_th_from, .inl (cI, 25, .inl y6)), (q_th_to, .inl (cI, 25, .inl y7))] → va_S A s.heap H locs → W p l e ({ frames := 8, cells := 0, slots := 0, locals := 188 } : Room) s m args below meth c H locs 0 0 Q (F0 m pc ls [.int r0]) := by
    intro r0 y0 y1 y2 y3 y4 y5 y6 y7 H locs ls pc ho hd hP hD hS
    cases ho
    exact ret0 H locs ls pc hd hP hD hS
  rw [fX8_lays_e] at hF
  refine lv_aload_n hx hb dX8_lays_0 rfl (lv_at hl 0 rfl) ?_
  refine lv_bipush (v := (-4 : Int32)) hx hb dX8_lays_1 (by decide) ?_
  refine nx_put S0 hK hP hD hS 0 15 hin_X8 tyX8 tyX8_ok nmX8 hf_183 rfl rfl (by decide) rfl rfl rfl rfl (Nat.le_of_ble_eq_true rfl) dX8_lays_3 (W1 := [(q_th, .inr (8, [.ref q_th_told, .ref q_th_now, x_th_text, .int th_letters, .int th_at, x_th_read, .int th_isMore, .int th_told0, .ref q_th_from, .ref q_th_to, x_th_undone, .int th_undos, .ref q_th_aside, .int th_beganOn, .int th_beganIn, .int (-4 : Int32), .int th_second, x_th_seenCell, x_th_seenNight, .int th_seens, .int th_above, .int th_below, x_th_kept, .int th_keeps])), (q_th_aside, .inl (cI, 28, .inl th_aside)), (q_th_now, .inl (cI, 28, .inl th_now)), (q_th_told, .inl (cI, 54, .inl th_told)), (q_th_from, .inl (cI, 25, .inl th_from)), (q_th_to, .inl (cI, 25, .inl th_to))]) rfl (fun H locs hP hD hS => ?_)
  refine lv_aload_n hx hb dX8_lays_6 rfl (lv_at hl 0 rfl) ?_
  refine lv_bipush (v := (-4 : Int32)) hx hb dX8_lays_7 (by decide) ?_
  refine nx_put S0 hK hP hD hS 0 16 hin_X8 tyX8 tyX8_ok nmX8 hf_186 rfl rfl (by decide) rfl rfl rfl rfl (Nat.le_of_ble_eq_true rfl) dX8_lays_9 (W1 := [(q_th, .inr (8, [.ref q_th_told, .ref q_th_now, x_th_text, .int th_letters, .int th_at, x_th_read, .int th_isMore, .int th_told0, .ref q_th_from, .ref q_th_to, x_th_undone, .int th_undos, .ref q_th_aside, .int th_beganOn, .int th_beganIn, .int (-4 : Int32), .int (-4 : Int32), x_th_seenCell, x_th_seenNight, .int th_seens, .int th_above, .int th_below, x_th_kept, .int th_keeps])), (q_th_aside, .inl (cI, 28, .inl th_aside)), (q_th_now, .inl (cI, 28, .inl th_now)), (q_th_told, .inl (cI, 54, .inl th_told)), (q_th_from, .inl (cI, 25, .inl th_from)), (q_th_to, .inl (cI, 25, .inl th_to))]) rfl (fun H locs hP hD hS => ?_)
  refine lv_aload_n hx hb dX8_lays_12 rfl (lv_at hl 0 rfl) ?_
  obtain ⟨o13, hF1, hF⟩ := ng_b hF
  refine nx_callVv (As := []) (rest := []) (W1 := [(q_th, .inr (8, [.ref q_th_told, .ref q_th_now, x_th_text, .int th_letters, .int th_at, x_th_read, .int th_isMore, .int th_told0, .ref q_th_from, .ref q_th_to, x_th_undone, .int th_undos, .ref q_th_aside, .int th_beganOn, .int th_beganIn, .int (-4 : Int32), .int (-4 : Int32), x_th_seenCell, x_th_seenNight, .int th_seens, .int th_above, .int th_below, x_th_kept, .int th_keeps])), (q_th_aside, .inl (cI, 28, .inl o13)), (q_th_now, .inl (cI, 28, .inl th_now)), (q_th_told, .inl (cI, 54, .inl th_told)), (q_th_from, .inl (cI, 25, .inl th_from)), (q_th_to, .inl (cI, 25, .inl th_to))]) (wr := [(q_th_told, .inl (cI, 54, .inl th_told)), (q_th_from, .inl (cI, 25, .inl th_from)), (q_th_to, .inl (cI, 25, .inl th_to))]) S0 hK hN hA hP hD hS (kX8_asides l dC dI cI q_th q_th_aside q_th_now _ (.ref q_th_told) (x_th_text) th_letters th_at (x_th_read) th_isMore th_told0 (.ref q_th_from) (.ref q_th_to) (x_th_undone) th_undos th_beganOn th_beganIn (-4 : Int32) (-4 : Int32) (x_th_seenCell) (x_th_seenNight) th_seens th_above th_below (x_th_kept) th_keeps th_aside th_now N o13 hF1) (cwV 0 hts gX8_lays_X8_asides rfl rfl rfl ⟨rfl, hdX8_asides⟩ ⟨Nat.le_of_ble_eq_true rfl, Nat.le_of_ble_eq_true rfl⟩) [0, 1, 2] [3, 4, 5] [3, 4, 5, 0, 1, 2] rfl rfl rfl rfl 0 8 rfl rfl rfl rfl hl.1 rfl (Nat.le_of_ble_eq_true rfl) dX8_lays_13 (fun H locs hP hD hS => ?_)
  refine lv_aload_n hx hb dX8_lays_16 rfl (lv_at hl 0 rfl) ?_
  refine lv_iload_n hx hb dX8_lays_17 rfl (lv_at hl 1 rfl) ?_
  refine lv_iload_n hx hb dX8_lays_18 rfl (lv_at hl 2 rfl) ?_
  obtain ⟨o19, hF1, hF⟩ := ng_b hF
  refine nx_callVi (As := [.int p1, .int p2]) (rest := []) (W1 := [(q_th, .inr (8, [.ref q_th_told, .ref q_th_now, x_th_text, .int th_letters, .int th_at, x_th_read, .int th_isMore, .int th_told0, .ref q_th_from, .ref q_th_to, x_th_undone, .int th_undos, .ref q_th_aside, .int o19.2.1, .int o19.2.2.1, .int (-4 : Int32), .int (-4 : Int32), x_th_seenCell, x_th_seenNight, .int th_seens, .int th_above, .int th_below, x_th_kept, .int th_keeps])), (q_th_aside, .inl (cI, 28, .inl o13)), (q_th_now, .inl (cI, 28, .inl o19.2.2.2.1)), (q_th_told, .inl (cI, 54, .inl th_told)), (q_th_from, .inl (cI, 25, .inl o19.2.2.2.2.1)), (q_th_to, .inl (cI, 25, .inl o19.2.2.2.2.2))]) (wr := []) S0 hK hN hA hP hD hS (kX8_isWell l dC dI cI q_th q_th_now q_th_told q_th_from q_th_to q_th_aside _ (x_th_text) th_letters th_at (x_th_read) th_isMore th_told0 (x_th_undone) th_undos th_beganOn th_beganIn (-4 : Int32) (-4 : Int32) (x_th_seenCell) (x_th_seenNight) th_seens th_above th_below (x_th_kept) th_keeps th_now th_told th_from th_to o13 p1 p2 N o19 hF1) (cwV 2 hts gX8_lays_X8_isWell rfl rfl rfl ⟨rfl, hdX8_isWell⟩ ⟨Nat.le_of_ble_eq_true rfl, Nat.le_of_ble_eq_true rfl⟩) [0, 2, 3, 4, 5, 1] [] [0, 5, 1, 2, 3, 4] rfl rfl rfl rfl 0 8 rfl rfl rfl rfl hl.1 rfl (Nat.le_of_ble_eq_true rfl) dX8_lays_19 (fun H locs hP hD hS => ?_)
  refine lv_if_eq (tgt := 27) hx hb dX8_lays_22 (by decide) (fun hc => ?_) (fun hc => ?_)
  · have hF := ng_t hc hF
    refine lv_iconst (v := (nI 0)) hx hb dX8_lays_27 (by decide) ?_
    have B_29 : ∀ (n_29 : Nat) (v3_29 : Int32) (th_beganOn_29 : Int32) (th_beganIn_29 : Int32) (th_now_29 : Nat → Int32) (th_from_29 : Nat → Int32) (th_to_29 : Nat → Int32), fX8_lays_29 N p1 p2 th_told o13 n_29 v3_29 th_beganOn_29 th_beganIn_29 th_now_29 th_from_29 th_to_29 = some o → ∀ (H : Heap) (locs : List Loc) (ls : Array Slot), va_P (dC, dI) vwCl [(q_th, .inr (8, [.ref q_th_told, .ref q_th_now, x_th_text, .int th_letters, .int th_at, x_th_read, .int th_isMore, .int th_told0, .ref q_th_from, .ref q_th_to, x_th_undone, .int th_undos, .ref q_th_aside, .int th_beganOn_29, .int th_beganIn_29, .int (-4 : Int32), .int (-4 : Int32), x_th_seenCell, x_th_seenNight, .int th_seens, .int th_above, .int th_below, x_th_kept, .int th_keeps])), (q_th_aside, .inl (cI, 28, .inl o13)), (q_th_now, .inl (cI, 28, .inl th_now_29)), (q_th_told, .inl (cI, 54, .inl th_told)), (q_th_from, .inl (cI, 25, .inl th_from_29)), (q_th_to, .inl (cI, 25, .inl th_to_29))] H → va_D A [(q_th, .inr (8, [.ref q_th_told, .ref q_th_now, x_th_text, .int th_letters, .int th_at, x_th_read, .int th_isMore, .int th_told0, .ref q_th_from, .ref q_th_to, x_th_undone, .int th_undos, .ref q_th_aside, .int th_beganOn_29, .int th_beganIn_29, .int (-4 : Int32), .int (-4 : Int32), x_th_seenCell, x_th_seenNight, .int th_seens, .int th_above, .int th_below, x_th_kept, .int th_keeps])), (q_th_aside, .inl (cI, 28, .inl o13)), (q_th_now, .inl (cI, 28, .inl th_now_29)), (q_th_told, .inl (cI, 54, .inl th_told)), (q_th_from, .inl (cI, 25, .inl th_from_29)), (q_th_to, .inl (cI, 25, .inl th_to_29))] → va_S A s.heap H locs → lv_has ls 5 [(0, .ref q_th), (1, .int p1), (2, .int p2), (3, .int v3_29)] → W p l e ({ frames := 8, cells := 0, slots := 0, locals := 188 } : Room) s m args below meth c H locs 0 0 Q (F0 m 29 ls []) := by
      intro n_29
      induction n_29 with
      | zero =>
        intro v3_29 th_beganOn_29 th_beganIn_29 th_now_29 th_from_29 th_to_29 hF
        rw [fX8_lays_29_z] at hF
        cases hF
      | succ n_29 ih_29 =>
        intro v3_29 th_beganOn_29 th_beganIn_29 th_now_29 th_from_29 th_to_29 hF H locs ls hP hD hS hl
        rw [fX8_lays_29_s] at hF
        refine lv_iload_n hx hb dX8_lays_29 rfl (lv_at hl 3 rfl) ?_
        refine lv_aload_n hx hb dX8_lays_30 rfl (lv_at hl 0 rfl) ?_
        obtain ⟨o31, hF1, hF⟩ := ng_b hF
        refine nx_callVi (As := []) (rest := [.int v3_29]) (W1 := [(q_th, .inr (8, [.ref q_th_told, .ref q_th_now, x_th_text, .int th_letters, .int th_at, x_th_read, .int th_isMore, .int th_told0, .ref q_th_from, .ref q_th_to, x_th_undone, .int th_undos, .ref q_th_aside, .int th_beganOn_29, .int th_beganIn_29, .int (-4 : Int32), .int (-4 : Int32), x_th_seenCell, x_th_seenNight, .int th_seens, .int th_above, .int th_below, x_th_kept, .int th_keeps])), (q_th_aside, .inl (cI, 28, .inl o13)), (q_th_now, .inl (cI, 28, .inl th_now_29)), (q_th_told, .inl (cI, 54, .inl th_told)), (q_th_from, .inl (cI, 25, .inl th_from_29)), (q_th_to, .inl (cI, 25, .inl th_to_29))]) (wr := [(q_th_aside, .inl (cI, 28, .inl o13)), (q_th_now, .inl (cI, 28, .inl th_now_29)), (q_th_from, .inl (cI, 25, .inl th_from_29)), (q_th_to, .inl (cI, 25, .inl th_to_29))]) S0 hK hN hA hP hD hS (kX8_cells l dC dI cI q_th q_th_told _ (.ref q_th_now) (x_th_text) th_letters th_at (x_th_read) th_isMore th_told0 (.ref q_th_from) (.ref q_th_to) (x_th_undone) th_undos (.ref q_th_aside) th_beganOn_29 th_beganIn_29 (-4 : Int32) (-4 : Int32) (x_th_seenCell) (x_th_seenNight) th_seens th_above th_below (x_th_kept) th_keeps th_told N o31 hF1) (cwV 0 hts gX8_lays_X8_cells rfl rfl rfl ⟨rfl, hdX8_cells⟩ ⟨Nat.le_of_ble_eq_true rfl, Nat.le_of_ble_eq_true rfl⟩) [0, 3] [1, 2, 4, 5] [4, 0, 1, 5, 2, 3] rfl rfl rfl rfl 0 8 rfl rfl rfl rfl hl.1 rfl (Nat.le_of_ble_eq_true rfl) dX8_lays_31 (fun H locs hP hD hS => ?_)
        refine lv_icmp_ge (tgt := 76) hx hb dX8_lays_34 (by decide) (fun hc => ?_) (fun hc => ?_)
        · have hF := ng_t hc hF
          refine lv_iconst (v := (nI 0)) hx hb dX8_lays_76 (by decide) ?_
          have B_78 : ∀ (n_78 : Nat) (v3_78 : Int32) (th_beganOn_78 : Int32) (th_beganIn_78 : Int32) (th_now_78 : Nat → Int32) (th_from_78 : Nat → Int32) (th_to_78 : Nat → Int32), fX8_lays_78 N p1 p2 th_told o13 n_78 v3_78 th_beganOn_78 th_beganIn_78 th_now_78 th_from_78 th_to_78 = some o → ∀ (H : Heap) (locs : List Loc) (ls : Array Slot), va_P (dC, dI) vwCl [(q_th, .inr (8, [.ref q_th_told, .ref q_th_now, x_th_text, .int th_letters, .int th_at, x_th_read, .int th_isMore, .int th_told0, .ref q_th_from, .ref q_th_to, x_th_undone, .int th_undos, .ref q_th_aside, .int th_beganOn_78, .int th_beganIn_78, .int (-4 : Int32), .int (-4 : Int32), x_th_seenCell, x_th_seenNight, .int th_seens, .int th_above, .int th_below, x_th_kept, .int th_keeps])), (q_th_aside, .inl (cI, 28, .inl o13)), (q_th_now, .inl (cI, 28, .inl th_now_78)), (q_th_told, .inl (cI, 54, .inl th_told)), (q_th_from, .inl (cI, 25, .inl th_from_78)), (q_th_to, .inl (cI, 25, .inl th_to_78))] H → va_D A [(q_th, .inr (8, [.ref q_th_told, .ref q_th_now, x_th_text, .int th_letters, .int th_at, x_th_read, .int th_isMore, .int th_told0, .ref q_th_from, .ref q_th_to, x_th_undone, .int th_undos, .ref q_th_aside, .int th_beganOn_78, .int th_beganIn_78, .int (-4 : Int32), .int (-4 : Int32), x_th_seenCell, x_th_seenNight, .int th_seens, .int th_above, .int th_below, x_th_kept, .int th_keeps])), (q_th_aside, .inl (cI, 28, .inl o13)), (q_th_now, .inl (cI, 28, .inl th_now_78)), (q_th_told, .inl (cI, 54, .inl th_told)), (q_th_from, .inl (cI, 25, .inl th_from_78)), (q_th_to, .inl (cI, 25, .inl th_to_78))] → va_S A s.heap H locs → lv_has ls 5 [(0, .ref q_th), (1, .int p1), (2, .int p2), (3, .int v3_78)] → W p l e ({ frames := 8, cells := 0, slots := 0, locals := 188 } : Room) s m args below meth c H locs 0 0 Q (F0 m 78 ls []) := by
            intro n_78
            induction n_78 with
            | zero =>
              intro v3_78 th_beganOn_78 th_beganIn_78 th_now_78 th_from_78 th_to_78 hF
              rw [fX8_lays_78_z] at hF
              cases hF
            | succ n_78 ih_78 =>
              intro v3_78 th_beganOn_78 th_beganIn_78 th_now_78 th_from_78 th_to_78 hF H locs ls hP hD hS hl
              rw [fX8_lays_78_s] at hF
              refine lv_iload_n hx hb dX8_lays_78 rfl (lv_at hl 3 rfl) ?_
              refine lv_aload_n hx hb dX8_lays_79 rfl (lv_at hl 0 rfl) ?_
              obtain ⟨o80, hF1, hF⟩ := ng_b hF
              refine nx_callVi (As := []) (rest := [.int v3_78]) (W1 := [(q_th, .inr (8, [.ref q_th_told, .ref q_th_now, x_th_text, .int th_letters, .int th_at, x_th_read, .int th_isMore, .int th_told0, .ref q_th_from, .ref q_th_to, x_th_undone, .int th_undos, .ref q_th_aside, .int th_beganOn_78, .int th_beganIn_78, .int (-4 : Int32), .int (-4 : Int32), x_th_seenCell, x_th_seenNight, .int th_seens, .int th_above, .int th_below, x_th_kept, .int th_keeps])), (q_th_aside, .inl (cI, 28, .inl o13)), (q_th_now, .inl (cI, 28, .inl th_now_78)), (q_th_told, .inl (cI, 54, .inl th_told)), (q_th_from, .inl (cI, 25, .inl th_from_78)), (q_th_to, .inl (cI, 25, .inl th_to_78))]) (wr := [(q_th_aside, .inl (cI, 28, .inl o13)), (q_th_now, .inl (cI, 28, .inl th_now_78)), (q_th_from, .inl (cI, 25, .inl th_from_78)), (q_th_to, .inl (cI, 25, .inl th_to_78))]) S0 hK hN hA hP hD hS (kX8_cells l dC dI cI q_th q_th_told _ (.ref q_th_now) (x_th_text) th_letters th_at (x_th_read) th_isMore th_told0 (.ref q_th_from) (.ref q_th_to) (x_th_undone) th_undos (.ref q_th_aside) th_beganOn_78 th_beganIn_78 (-4 : Int32) (-4 : Int32) (x_th_seenCell) (x_th_seenNight) th_seens th_above th_below (x_th_kept) th_keeps th_told N o80 hF1) (cwV 0 hts gX8_lays_X8_cells rfl rfl rfl ⟨rfl, hdX8_cells⟩ ⟨Nat.le_of_ble_eq_true rfl, Nat.le_of_ble_eq_true rfl⟩) [0, 3] [1, 2, 4, 5] [4, 0, 1, 5, 2, 3] rfl rfl rfl rfl 0 8 rfl rfl rfl rfl hl.1 rfl (Nat.le_of_ble_eq_true rfl) dX8_lays_80 (fun H locs hP hD hS => ?_)
              refine lv_icmp_ge (tgt := 170) hx hb dX8_lays_83 (by decide) (fun hc => ?_) (fun hc => ?_)
              · have hF := ng_t hc hF
                refine lv_bipush (v := (-4 : Int32)) hx hb dX8_lays_170 (by decide) ?_
                exact hret (-4 : Int32) th_beganOn_78 th_beganIn_78 (-4 : Int32) (-4 : Int32) o13 th_now_78 th_from_78 th_to_78 _ _ _ _ hF dX8_lays_172 hP hD hS
              · have hF := ng_f hc hF
                refine lv_iload_n hx hb dX8_lays_86 rfl (lv_at hl 3 rfl) ?_
                refine lv_iconst (v := (nI 1)) hx hb dX8_lays_87 (by decide) ?_
                refine lv_iadd hx hb dX8_lays_88 ?_
                have B_91 : ∀ (n_91 : Nat) (v4_91 : Int32) (th_beganOn_91 : Int32) (th_beganIn_91 : Int32) (th_now_91 : Nat → Int32) (th_from_91 : Nat → Int32) (th_to_91 : Nat → Int32), fX8_lays_91 N p1 p2 th_told o13 v3_78 (fX8_lays_78 N p1 p2 th_told o13 n_78) n_91 v4_91 th_beganOn_91 th_beganIn_91 th_now_91 th_from_91 th_to_91 = some o → ∀ (H : Heap) (locs : List Loc) (ls : Array Slot), va_P (dC, dI) vwCl [(q_th, .inr (8, [.ref q_th_told, .ref q_th_now, x_th_text, .int th_letters, .int th_at, x_th_read, .int th_isMore, .int th_told0, .ref q_th_from, .ref q_th_to, x_th_undone, .int th_undos, .ref q_th_aside, .int th_beganOn_91, .int th_beganIn_91, .int (-4 : Int32), .int (-4 : Int32), x_th_seenCell, x_th_seenNight, .int th_seens, .int th_above, .int th_below, x_th_kept, .int th_keeps])), (q_th_aside, .inl (cI, 28, .inl o13)), (q_th_now, .inl (cI, 28, .inl th_now_91)), (q_th_told, .inl (cI, 54, .inl th_told)), (q_th_from, .inl (cI, 25, .inl th_from_91)), (q_th_to, .inl (cI, 25, .inl th_to_91))] H → va_D A [(q_th, .inr (8, [.ref q_th_told, .ref q_th_now, x_th_text, .int th_letters, .int th_at, x_th_read, .int th_isMore, .int th_told0, .ref q_th_from, .ref q_th_to, x_th_undone, .int th_undos, .ref q_th_aside, .int th_beganOn_91, .int th_beganIn_91, .int (-4 : Int32), .int (-4 : Int32), x_th_seenCell, x_th_seenNight, .int th_seens, .int th_above, .int th_below, x_th_kept, .int th_keeps])), (q_th_aside, .inl (cI, 28, .inl o13)), (q_th_now, .inl (cI, 28, .inl th_now_91)), (q_th_told, .inl (cI, 54, .inl th_told)), (q_th_from, .inl (cI, 25, .inl th_from_91)), (q_th_to, .inl (cI, 25, .inl th_to_91))] → va_S A s.heap H locs → lv_has ls 5 [(0, .ref q_th), (1, .int p1), (2, .int p2), (3, .int v3_78), (4, .int v4_91)] → W p l e ({ frames := 8, cells := 0, slots := 0, locals := 188 } : Room) s m args below meth c H locs 0 0 Q (F0 m 91 ls []) := by
                  intro n_91
                  induction n_91 with
                  | zero =>
                    intro v4_91 th_beganOn_91 th_beganIn_91 th_now_91 th_from_91 th_to_91 hF
                    rw [fX8_lays_91_z] at hF
                    cases hF
                  | succ n_91 ih_91 =>
                    intro v4_91 th_beganOn_91 th_beganIn_91 th_now_91 th_from_91 th_to_91 hF H locs ls hP hD hS hl
                    rw [fX8_lays_91_s] at hF
                    refine lv_iload hx hb dX8_lays_91 (lv_at hl 4 rfl) ?_
                    refine lv_aload_n hx hb dX8_lays_93 rfl (lv_at hl 0 rfl) ?_
                    obtain ⟨o94, hF1, hF⟩ := ng_b hF
                    refine nx_callVi (As := []) (rest := [.int v4_91]) (W1 := [(q_th, .inr (8, [.ref q_th_told, .ref q_th_now, x_th_text, .int th_letters, .int th_at, x_th_read, .int th_isMore, .int th_told0, .ref q_th_from, .ref q_th_to, x_th_undone, .int th_undos, .ref q_th_aside, .int th_beganOn_91, .int th_beganIn_91, .int (-4 : Int32), .int (-4 : Int32), x_th_seenCell, x_th_seenNight, .int th_seens, .int th_above, .int th_below, x_th_kept, .int th_keeps])), (q_th_aside, .inl (cI, 28, .inl o13)), (q_th_now, .inl (cI, 28, .inl th_now_91)), (q_th_told, .inl (cI, 54, .inl th_told)), (q_th_from, .inl (cI, 25, .inl th_from_91)), (q_th_to, .inl (cI, 25, .inl th_to_91))]) (wr := [(q_th_aside, .inl (cI, 28, .inl o13)), (q_th_now, .inl (cI, 28, .inl th_now_91)), (q_th_from, .inl (cI, 25, .inl th_from_91)), (q_th_to, .inl (cI, 25, .inl th_to_91))]) S0 hK hN hA hP hD hS (kX8_cells l dC dI cI q_th q_th_told _ (.ref q_th_now) (x_th_text) th_letters th_at (x_th_read) th_isMore th_told0 (.ref q_th_from) (.ref q_th_to) (x_th_undone) th_undos (.ref q_th_aside) th_beganOn_91 th_beganIn_91 (-4 : Int32) (-4 : Int32) (x_th_seenCell) (x_th_seenNight) th_seens th_above th_below (x_th_kept) th_keeps th_told N o94 hF1) (cwV 0 hts gX8_lays_X8_cells rfl rfl rfl ⟨rfl, hdX8_cells⟩ ⟨Nat.le_of_ble_eq_true rfl, Nat.le_of_ble_eq_true rfl⟩) [0, 3] [1, 2, 4, 5] [4, 0, 1, 5, 2, 3] rfl rfl rfl rfl 0 8 rfl rfl rfl rfl hl.1 rfl (Nat.le_of_ble_eq_true rfl) dX8_lays_94 (fun H locs hP hD hS => ?_)
                    refine lv_icmp_ge (tgt := 164) hx hb dX8_lays_97 (by decide) (fun hc => ?_) (fun hc => ?_)
                    · have hF := ng_t hc hF
                      refine lv_iinc (v := v3_78 + (nI 1)) (lv' := [(3, .int (v3_78 + (nI 1))), (0, .ref q_th), (1, .int p1), (2, .int p2), (4, .int v4_91)]) hx hb dX8_lays_164 hl (k := 3) rfl rfl (by decide) rfl (fun ls hl => ?_)
                      refine lv_goto (tgt := 78) hx hb dX8_lays_167 (by decide) ?_
                      exact ih_78 (v3_78 + (nI 1)) th_beganOn_91 th_beganIn_91 th_now_91 th_from_91 th_to_91 hF _ _ _ hP hD hS (lv_sub hl [1, 2, 3, 0] rfl)
                    · have hF := ng_f hc hF
                      refine lv_aload_n hx hb dX8_lays_100 rfl (lv_at hl 0 rfl) ?_
                      refine lv_iload_n hx hb dX8_lays_101 rfl (lv_at hl 3 rfl) ?_
                      obtain ⟨o102, hF1, hF⟩ := ng_b hF
                      refine nx_callVi (As := [.int v3_78]) (rest := []) (W1 := [(q_th, .inr (8, [.ref q_th_told, .ref q_th_now, x_th_text, .int th_letters, .int th_at, x_th_read, .int th_isMore, .int th_told0, .ref q_th_from, .ref q_th_to, x_th_undone, .int th_undos, .ref q_th_aside, .int th_beganOn_91, .int th_beganIn_91, .int (-4 : Int32), .int (-4 : Int32), x_th_seenCell, x_th_seenNight, .int th_seens, .int th_above, .int th_below, x_th_kept, .int th_keeps])), (q_th_aside, .inl (cI, 28, .inl o13)), (q_th_now, .inl (cI, 28, .inl th_now_91)), (q_th_told, .inl (cI, 54, .inl th_told)), (q_th_from, .inl (cI, 25, .inl th_from_91)), (q_th_to, .inl (cI, 25, .inl th_to_91))]) (wr := [(q_th_aside, .inl (cI, 28, .inl o13)), (q_th_told, .inl (cI, 54, .inl th_told)), (q_th_from, .inl (cI, 25, .inl th_from_91)), (q_th_to, .inl (cI, 25, .inl th_to_91))]) S0 hK hN hA hP hD hS (kX8_mayLay l dC dI cI q_th q_th_now _ (.ref q_th_told) (x_th_text) th_letters th_at (x_th_read) th_isMore th_told0 (.ref q_th_from) (.ref q_th_to) (x_th_undone) th_undos (.ref q_th_aside) th_beganOn_91 th_beganIn_91 (-4 : Int32) (-4 : Int32) (x_th_seenCell) (x_th_seenNight) th_seens th_above th_below (x_th_kept) th_keeps th_now_91 v3_78 N o102 hF1) (cwV 1 hts gX8_lays_X8_mayLay rfl rfl rfl ⟨rfl, hdX8_mayLay⟩ ⟨Nat.le_of_ble_eq_true rfl, Nat.le_of_ble_eq_true rfl⟩) [0, 2] [1, 3, 4, 5] [4, 0, 5, 1, 2, 3] rfl rfl rfl rfl 0 8 rfl rfl rfl rfl hl.1 rfl (Nat.le_of_ble_eq_true rfl) dX8_lays_102 (fun H locs hP hD hS => ?_)
                      refine lv_if_eq (tgt := 164) hx hb dX8_lays_105 (by decide) (fun hc => ?_) (fun hc => ?_)
                      · have hF := ng_t hc hF
                        refine lv_iinc (v := v3_78 + (nI 1)) (lv' := [(3, .int (v3_78 + (nI 1))), (0, .ref q_th), (1, .int p1), (2, .int p2), (4, .int v4_91)]) hx hb dX8_lays_164 hl (k := 3) rfl rfl (by decide) rfl (fun ls hl => ?_)
                        refine lv_goto (tgt := 78) hx hb dX8_lays_167 (by decide) ?_
                        exact ih_78 (v3_78 + (nI 1)) th_beganOn_91 th_beganIn_91 th_now_91 th_from_91 th_to_91 hF _ _ _ hP hD hS (lv_sub hl [1, 2, 3, 0] rfl)
                      · have hF := ng_f hc hF
                        refine lv_aload_n hx hb dX8_lays_108 rfl (lv_at hl 0 rfl) ?_
                        refine lv_iload hx hb dX8_lays_109 (lv_at hl 4 rfl) ?_
                        obtain ⟨o111, hF1, hF⟩ := ng_b hF
                        refine nx_callVi (As := [.int v4_91]) (rest := []) (W1 := [(q_th, .inr (8, [.ref q_th_told, .ref q_th_now, x_th_text, .int th_letters, .int th_at, x_th_read, .int th_isMore, .int th_told0, .ref q_th_from, .ref q_th_to, x_th_undone, .int th_undos, .ref q_th_aside, .int th_beganOn_91, .int th_beganIn_91, .int (-4 : Int32), .int (-4 : Int32), x_th_seenCell, x_th_seenNight, .int th_seens, .int th_above, .int th_below, x_th_kept, .int th_keeps])), (q_th_aside, .inl (cI, 28, .inl o13)), (q_th_now, .inl (cI, 28, .inl th_now_91)), (q_th_told, .inl (cI, 54, .inl th_told)), (q_th_from, .inl (cI, 25, .inl th_from_91)), (q_th_to, .inl (cI, 25, .inl th_to_91))]) (wr := [(q_th_aside, .inl (cI, 28, .inl o13)), (q_th_told, .inl (cI, 54, .inl th_told)), (q_th_from, .inl (cI, 25, .inl th_from_91)), (q_th_to, .inl (cI, 25, .inl th_to_91))]) S0 hK hN hA hP hD hS (kX8_mayLay l dC dI cI q_th q_th_now _ (.ref q_th_told) (x_th_text) th_letters th_at (x_th_read) th_isMore th_told0 (.ref q_th_from) (.ref q_th_to) (x_th_undone) th_undos (.ref q_th_aside) th_beganOn_91 th_beganIn_91 (-4 : Int32) (-4 : Int32) (x_th_seenCell) (x_th_seenNight) th_seens th_above th_below (x_th_kept) th_keeps th_now_91 v4_91 N o111 hF1) (cwV 1 hts gX8_lays_X8_mayLay rfl rfl rfl ⟨rfl, hdX8_mayLay⟩ ⟨Nat.le_of_ble_eq_true rfl, Nat.le_of_ble_eq_true rfl⟩) [0, 2] [1, 3, 4, 5] [4, 0, 5, 1, 2, 3] rfl rfl rfl rfl 0 8 rfl rfl rfl rfl hl.1 rfl (Nat.le_of_ble_eq_true rfl) dX8_lays_111 (fun H locs hP hD hS => ?_)
                        refine lv_if_eq (tgt := 158) hx hb dX8_lays_114 (by decide) (fun hc => ?_) (fun hc => ?_)
                        · have hF := ng_t hc hF
                          refine lv_iinc (v := v4_91 + (nI 1)) (lv' := [(4, .int (v4_91 + (nI 1))), (0, .ref q_th), (1, .int p1), (2, .int p2), (3, .int v3_78)]) hx hb dX8_lays_158 hl (k := 4) rfl rfl (by decide) rfl (fun ls hl => ?_)
                          refine lv_goto (tgt := 91) hx hb dX8_lays_161 (by decide) ?_
                          exact ih_91 (v4_91 + (nI 1)) th_beganOn_91 th_beganIn_91 th_now_91 th_from_91 th_to_91 hF _ _ _ hP hD hS (lv_sub hl [1, 2, 3, 4, 0] rfl)
                        · have hF := ng_f hc hF
                          refine lv_aload_n hx hb dX8_lays_117 rfl (lv_at hl 0 rfl) ?_
                          refine nx_get S0 hK hP 0 1 hin_X8 hf_13 rfl rfl (by decide) rfl rfl dX8_lays_118 ?_
                          refine lv_iconst (v := (nI 3)) hx hb dX8_lays_121 (by decide) ?_
                          refine lv_iload_n hx hb dX8_lays_122 rfl (lv_at hl 3 rfl) ?_
                          refine lv_iadd hx hb dX8_lays_123 ?_
                          refine lv_iconst (v := (nI 3)) hx hb dX8_lays_124 (by decide) ?_
                          have hg := ng_p hF
                          have hF := ng_x hF
                          refine nx_iast S0 hK hP hD hS 2 rfl hg dX8_lays_125 (W1 := [(q_th, .inr (8, [.ref q_th_told, .ref q_th_now, x_th_text, .int th_letters, .int th_at, x_th_read, .int th_isMore, .int th_told0, .ref q_th_from, .ref q_th_to, x_th_undone, .int th_undos, .ref q_th_aside, .int th_beganOn_91, .int th_beganIn_91, .int (-4 : Int32), .int (-4 : Int32), x_th_seenCell, x_th_seenNight, .int th_seens, .int th_above, .int th_below, x_th_kept, .int th_keeps])), (q_th_aside, .inl (cI, 28, .inl o13)), (q_th_now, .inl (cI, 28, .inl (upd th_now_91 (((nI 3) + v3_78).toNatClampNeg) (nI 3)))), (q_th_told, .inl (cI, 54, .inl th_told)), (q_th_from, .inl (cI, 25, .inl th_from_91)), (q_th_to, .inl (cI, 25, .inl th_to_91))]) rfl (fun H locs hP hD hS => ?_)
                          refine lv_aload_n hx hb dX8_lays_126 rfl (lv_at hl 0 rfl) ?_
                          refine nx_get S0 hK hP 0 1 hin_X8 hf_13 rfl rfl (by decide) rfl rfl dX8_lays_127 ?_
                          refine lv_iconst (v := (nI 3)) hx hb dX8_lays_130 (by decide) ?_
                          refine lv_iload hx hb dX8_lays_131 (lv_at hl 4 rfl) ?_
                          refine lv_iadd hx hb dX8_lays_133 ?_
                          refine lv_iconst (v := (nI 3)) hx hb dX8_lays_134 (by decide) ?_
                          have hg := ng_p hF
                          have hF := ng_x hF
                          refine nx_iast S0 hK hP hD hS 2 rfl hg dX8_lays_135 (W1 := [(q_th, .inr (8, [.ref q_th_told, .ref q_th_now, x_th_text, .int th_letters, .int th_at, x_th_read, .int th_isMore, .int th_told0, .ref q_th_from, .ref q_th_to, x_th_undone, .int th_undos, .ref q_th_aside, .int th_beganOn_91, .int th_beganIn_91, .int (-4 : Int32), .int (-4 : Int32), x_th_seenCell, x_th_seenNight, .int th_seens, .int th_above, .int th_below, x_th_kept, .int th_keeps])), (q_th_aside, .inl (cI, 28, .inl o13)), (q_th_now, .inl (cI, 28, .inl (upd (upd th_now_91 (((nI 3) + v3_78).toNatClampNeg) (nI 3)) (((nI 3) + v4_91).toNatClampNeg) (nI 3)))), (q_th_told, .inl (cI, 54, .inl th_told)), (q_th_from, .inl (cI, 25, .inl th_from_91)), (q_th_to, .inl (cI, 25, .inl th_to_91))]) rfl (fun H locs hP hD hS => ?_)
                          refine lv_aload_n hx hb dX8_lays_136 rfl (lv_at hl 0 rfl) ?_
                          refine lv_iload_n hx hb dX8_lays_137 rfl (lv_at hl 1 rfl) ?_
                          refine lv_iload_n hx hb dX8_lays_138 rfl (lv_at hl 2 rfl) ?_
                          obtain ⟨o139, hF1, hF⟩ := ng_b hF
                          refine nx_callVi (As := [.int p1, .int p2]) (rest := []) (W1 := [(q_th, .inr (8, [.ref q_th_told, .ref q_th_now, x_th_text, .int th_letters, .int th_at, x_th_read, .int th_isMore, .int th_told0, .ref q_th_from, .ref q_th_to, x_th_undone, .int th_undos, .ref q_th_aside, .int o139.2.1, .int o139.2.2.1, .int (-4 : Int32), .int (-4 : Int32), x_th_seenCell, x_th_seenNight, .int th_seens, .int th_above, .int th_below, x_th_kept, .int th_keeps])), (q_th_aside, .inl (cI, 28, .inl o13)), (q_th_now, .inl (cI, 28, .inl o139.2.2.2.1)), (q_th_told, .inl (cI, 54, .inl th_told)), (q_th_from, .inl (cI, 25, .inl o139.2.2.2.2.1)), (q_th_to, .inl (cI, 25, .inl o139.2.2.2.2.2))]) (wr := []) S0 hK hN hA hP hD hS (kX8_isWell l dC dI cI q_th q_th_now q_th_told q_th_from q_th_to q_th_aside _ (x_th_text) th_letters th_at (x_th_read) th_isMore th_told0 (x_th_undone) th_undos th_beganOn_91 th_beganIn_91 (-4 : Int32) (-4 : Int32) (x_th_seenCell) (x_th_seenNight) th_seens th_above th_below (x_th_kept) th_keeps (upd (upd th_now_91 (((nI 3) + v3_78).toNatClampNeg) (nI 3)) (((nI 3) + v4_91).toNatClampNeg) (nI 3)) th_told th_from_91 th_to_91 o13 p1 p2 N o139 hF1) (cwV 2 hts gX8_lays_X8_isWell rfl rfl rfl ⟨rfl, hdX8_isWell⟩ ⟨Nat.le_of_ble_eq_true rfl, Nat.le_of_ble_eq_true rfl⟩) [0, 2, 3, 4, 5, 1] [] [0, 5, 1, 2, 3, 4] rfl rfl rfl rfl 0 8 rfl rfl rfl rfl hl.1 rfl (Nat.le_of_ble_eq_true rfl) dX8_lays_139 (fun H locs hP hD hS => ?_)
                          refine lv_if_eq (tgt := 158) hx hb dX8_lays_142 (by decide) (fun hc => ?_) (fun hc => ?_)
                          · have hF := ng_t hc hF
                            refine lv_iinc (v := v4_91 + (nI 1)) (lv' := [(4, .int (v4_91 + (nI 1))), (0, .ref q_th), (1, .int p1), (2, .int p2), (3, .int v3_78)]) hx hb dX8_lays_158 hl (k := 4) rfl rfl (by decide) rfl (fun ls hl => ?_)
                            refine lv_goto (tgt := 91) hx hb dX8_lays_161 (by decide) ?_
                            exact ih_91 (v4_91 + (nI 1)) o139.2.1 o139.2.2.1 o139.2.2.2.1 o139.2.2.2.2.1 o139.2.2.2.2.2 hF _ _ _ hP hD hS (lv_sub hl [1, 2, 3, 4, 0] rfl)
                          · have hF := ng_f hc hF
                            refine lv_aload_n hx hb dX8_lays_145 rfl (lv_at hl 0 rfl) ?_
                            refine lv_iload_n hx hb dX8_lays_146 rfl (lv_at hl 3 rfl) ?_
                            refine nx_put S0 hK hP hD hS 0 15 hin_X8 tyX8 tyX8_ok nmX8 hf_183 rfl rfl (by decide) rfl rfl rfl rfl (Nat.le_of_ble_eq_true rfl) dX8_lays_147 (W1 := [(q_th, .inr (8, [.ref q_th_told, .ref q_th_now, x_th_text, .int th_letters, .int th_at, x_th_read, .int th_isMore, .int th_told0, .ref q_th_from, .ref q_th_to, x_th_undone, .int th_undos, .ref q_th_aside, .int o139.2.1, .int o139.2.2.1, .int v3_78, .int (-4 : Int32), x_th_seenCell, x_th_seenNight, .int th_seens, .int th_above, .int th_below, x_th_kept, .int th_keeps])), (q_th_aside, .inl (cI, 28, .inl o13)), (q_th_now, .inl (cI, 28, .inl o139.2.2.2.1)), (q_th_told, .inl (cI, 54, .inl th_told)), (q_th_from, .inl (cI, 25, .inl o139.2.2.2.2.1)), (q_th_to, .inl (cI, 25, .inl o139.2.2.2.2.2))]) rfl (fun H locs hP hD hS => ?_)
                            refine lv_aload_n hx hb dX8_lays_150 rfl (lv_at hl 0 rfl) ?_
                            refine lv_iload hx hb dX8_lays_151 (lv_at hl 4 rfl) ?_
                            refine nx_put S0 hK hP hD hS 0 16 hin_X8 tyX8 tyX8_ok nmX8 hf_186 rfl rfl (by decide) rfl rfl rfl rfl (Nat.le_of_ble_eq_true rfl) dX8_lays_153 (W1 := [(q_th, .inr (8, [.ref q_th_told, .ref q_th_now, x_th_text, .int th_letters, .int th_at, x_th_read, .int th_isMore, .int th_told0, .ref q_th_from, .ref q_th_to, x_th_undone, .int th_undos, .ref q_th_aside, .int o139.2.1, .int o139.2.2.1, .int v3_78, .int v4_91, x_th_seenCell, x_th_seenNight, .int th_seens, .int th_above, .int th_below, x_th_kept, .int th_keeps])), (q_th_aside, .inl (cI, 28, .inl o13)), (q_th_now, .inl (cI, 28, .inl o139.2.2.2.1)), (q_th_told, .inl (cI, 54, .inl th_told)), (q_th_from, .inl (cI, 25, .inl o139.2.2.2.2.1)), (q_th_to, .inl (cI, 25, .inl o139.2.2.2.2.2))]) rfl (fun H locs hP hD hS => ?_)
                            refine lv_iconst (v := (nI 2)) hx hb dX8_lays_156 (by decide) ?_
                            exact hret (nI 2) o139.2.1 o139.2.2.1 v3_78 v4_91 o13 o139.2.2.2.1 o139.2.2.2.2.1 o139.2.2.2.2.2 _ _ _ _ hF dX8_lays_157 hP hD hS
                refine lv_istore (lv' := [(4, .int (v3_78 + (nI 1))), (0, .ref q_th), (1, .int p1), (2, .int p2), (3, .int v3_78)]) hx hb dX8_lays_89 hl (by decide) rfl (fun ls hl => ?_)
                exact B_91 N (v3_78 + (nI 1)) th_beganOn_78 th_beganIn_78 th_now_78 th_from_78 th_to_78 hF _ _ _ hP hD hS (lv_sub hl [1, 2, 3, 4, 0] rfl)
          refine lv_istore_n (lv' := [(3, .int (nI 0)), (0, .ref q_th), (1, .int p1), (2, .int p2)]) hx hb dX8_lays_77 rfl hl (by decide) rfl (fun ls hl => ?_)
          exact B_78 N (nI 0) th_beganOn_29 th_beganIn_29 th_now_29 th_from_29 th_to_29 hF _ _ _ hP hD hS (lv_sub hl [1, 2, 3, 0] rfl)
        · have hF := ng_f hc hF
          refine lv_aload_n hx hb dX8_lays_37 rfl (lv_at hl 0 rfl) ?_
          refine lv_iload_n hx hb dX8_lays_38 rfl (lv_at hl 3 rfl) ?_
          obtain ⟨o39, hF1, hF⟩ := ng_b hF
          refine nx_callVi (As := [.int v3_29]) (rest := []) (W1 := [(q_th, .inr (8, [.ref q_th_told, .ref q_th_now, x_th_text, .int th_letters, .int th_at, x_th_read, .int th_isMore, .int th_told0, .ref q_th_from, .ref q_th_to, x_th_undone, .int th_undos, .ref q_th_aside, .int th_beganOn_29, .int th_beganIn_29, .int (-4 : Int32), .int (-4 : Int32), x_th_seenCell, x_th_seenNight, .int th_seens, .int th_above, .int th_below, x_th_kept, .int th_keeps])), (q_th_aside, .inl (cI, 28, .inl o13)), (q_th_now, .inl (cI, 28, .inl th_now_29)), (q_th_told, .inl (cI, 54, .inl th_told)), (q_th_from, .inl (cI, 25, .inl th_from_29)), (q_th_to, .inl (cI, 25, .inl th_to_29))]) (wr := [(q_th_aside, .inl (cI, 28, .inl o13)), (q_th_told, .inl (cI, 54, .inl th_told)), (q_th_from, .inl (cI, 25, .inl th_from_29)), (q_th_to, .inl (cI, 25, .inl th_to_29))]) S0 hK hN hA hP hD hS (kX8_mayLay l dC dI cI q_th q_th_now _ (.ref q_th_told) (x_th_text) th_letters th_at (x_th_read) th_isMore th_told0 (.ref q_th_from) (.ref q_th_to) (x_th_undone) th_undos (.ref q_th_aside) th_beganOn_29 th_beganIn_29 (-4 : Int32) (-4 : Int32) (x_th_seenCell) (x_th_seenNight) th_seens th_above th_below (x_th_kept) th_keeps th_now_29 v3_29 N o39 hF1) (cwV 1 hts gX8_lays_X8_mayLay rfl rfl rfl ⟨rfl, hdX8_mayLay⟩ ⟨Nat.le_of_ble_eq_true rfl, Nat.le_of_ble_eq_true rfl⟩) [0, 2] [1, 3, 4, 5] [4, 0, 5, 1, 2, 3] rfl rfl rfl rfl 0 8 rfl rfl rfl rfl hl.1 rfl (Nat.le_of_ble_eq_true rfl) dX8_lays_39 (fun H locs hP hD hS => ?_)
          refine lv_if_eq (tgt := 70) hx hb dX8_lays_42 (by decide) (fun hc => ?_) (fun hc => ?_)
          · have hF := ng_t hc hF
            refine lv_iinc (v := v3_29 + (nI 1)) (lv' := [(3, .int (v3_29 + (nI 1))), (0, .ref q_th), (1, .int p1), (2, .int p2)]) hx hb dX8_lays_70 hl (k := 3) rfl rfl (by decide) rfl (fun ls hl => ?_)
            refine lv_goto (tgt := 29) hx hb dX8_lays_73 (by decide) ?_
            exact ih_29 (v3_29 + (nI 1)) th_beganOn_29 th_beganIn_29 th_now_29 th_from_29 th_to_29 hF _ _ _ hP hD hS (lv_sub hl [1, 2, 3, 0] rfl)
          · have hF := ng_f hc hF
            refine lv_aload_n hx hb dX8_lays_45 rfl (lv_at hl 0 rfl) ?_
            refine nx_get S0 hK hP 0 1 hin_X8 hf_13 rfl rfl (by decide) rfl rfl dX8_lays_46 ?_
            refine lv_iconst (v := (nI 3)) hx hb dX8_lays_49 (by decide) ?_
            refine lv_iload_n hx hb dX8_lays_50 rfl (lv_at hl 3 rfl) ?_
            refine lv_iadd hx hb dX8_lays_51 ?_
            refine lv_iconst (v := (nI 3)) hx hb dX8_lays_52 (by decide) ?_
            have hg := ng_p hF
            have hF := ng_x hF
            refine nx_iast S0 hK hP hD hS 2 rfl hg dX8_lays_53 (W1 := [(q_th, .inr (8, [.ref q_th_told, .ref q_th_now, x_th_text, .int th_letters, .int th_at, x_th_read, .int th_isMore, .int th_told0, .ref q_th_from, .ref q_th_to, x_th_undone, .int th_undos, .ref q_th_aside, .int th_beganOn_29, .int th_beganIn_29, .int (-4 : Int32), .int (-4 : Int32), x_th_seenCell, x_th_seenNight, .int th_seens, .int th_above, .int th_below, x_th_kept, .int th_keeps])), (q_th_aside, .inl (cI, 28, .inl o13)), (q_th_now, .inl (cI, 28, .inl (upd th_now_29 (((nI 3) + v3_29).toNatClampNeg) (nI 3)))), (q_th_told, .inl (cI, 54, .inl th_told)), (q_th_from, .inl (cI, 25, .inl th_from_29)), (q_th_to, .inl (cI, 25, .inl th_to_29))]) rfl (fun H locs hP hD hS => ?_)
            refine lv_aload_n hx hb dX8_lays_54 rfl (lv_at hl 0 rfl) ?_
            refine lv_iload_n hx hb dX8_lays_55 rfl (lv_at hl 1 rfl) ?_
            refine lv_iload_n hx hb dX8_lays_56 rfl (lv_at hl 2 rfl) ?_
            obtain ⟨o57, hF1, hF⟩ := ng_b hF
            refine nx_callVi (As := [.int p1, .int p2]) (rest := []) (W1 := [(q_th, .inr (8, [.ref q_th_told, .ref q_th_now, x_th_text, .int th_letters, .int th_at, x_th_read, .int th_isMore, .int th_told0, .ref q_th_from, .ref q_th_to, x_th_undone, .int th_undos, .ref q_th_aside, .int o57.2.1, .int o57.2.2.1, .int (-4 : Int32), .int (-4 : Int32), x_th_seenCell, x_th_seenNight, .int th_seens, .int th_above, .int th_below, x_th_kept, .int th_keeps])), (q_th_aside, .inl (cI, 28, .inl o13)), (q_th_now, .inl (cI, 28, .inl o57.2.2.2.1)), (q_th_told, .inl (cI, 54, .inl th_told)), (q_th_from, .inl (cI, 25, .inl o57.2.2.2.2.1)), (q_th_to, .inl (cI, 25, .inl o57.2.2.2.2.2))]) (wr := []) S0 hK hN hA hP hD hS (kX8_isWell l dC dI cI q_th q_th_now q_th_told q_th_from q_th_to q_th_aside _ (x_th_text) th_letters th_at (x_th_read) th_isMore th_told0 (x_th_undone) th_undos th_beganOn_29 th_beganIn_29 (-4 : Int32) (-4 : Int32) (x_th_seenCell) (x_th_seenNight) th_seens th_above th_below (x_th_kept) th_keeps (upd th_now_29 (((nI 3) + v3_29).toNatClampNeg) (nI 3)) th_told th_from_29 th_to_29 o13 p1 p2 N o57 hF1) (cwV 2 hts gX8_lays_X8_isWell rfl rfl rfl ⟨rfl, hdX8_isWell⟩ ⟨Nat.le_of_ble_eq_true rfl, Nat.le_of_ble_eq_true rfl⟩) [0, 2, 3, 4, 5, 1] [] [0, 5, 1, 2, 3, 4] rfl rfl rfl rfl 0 8 rfl rfl rfl rfl hl.1 rfl (Nat.le_of_ble_eq_true rfl) dX8_lays_57 (fun H locs hP hD hS => ?_)
            refine lv_if_eq (tgt := 70) hx hb dX8_lays_60 (by decide) (fun hc => ?_) (fun hc => ?_)
            · have hF := ng_t hc hF
              refine lv_iinc (v := v3_29 + (nI 1)) (lv' := [(3, .int (v3_29 + (nI 1))), (0, .ref q_th), (1, .int p1), (2, .int p2)]) hx hb dX8_lays_70 hl (k := 3) rfl rfl (by decide) rfl (fun ls hl => ?_)
              refine lv_goto (tgt := 29) hx hb dX8_lays_73 (by decide) ?_
              exact ih_29 (v3_29 + (nI 1)) o57.2.1 o57.2.2.1 o57.2.2.2.1 o57.2.2.2.2.1 o57.2.2.2.2.2 hF _ _ _ hP hD hS (lv_sub hl [1, 2, 3, 0] rfl)
            · have hF := ng_f hc hF
              refine lv_aload_n hx hb dX8_lays_63 rfl (lv_at hl 0 rfl) ?_
              refine lv_iload_n hx hb dX8_lays_64 rfl (lv_at hl 3 rfl) ?_
              refine nx_put S0 hK hP hD hS 0 15 hin_X8 tyX8 tyX8_ok nmX8 hf_183 rfl rfl (by decide) rfl rfl rfl rfl (Nat.le_of_ble_eq_true rfl) dX8_lays_65 (W1 := [(q_th, .inr (8, [.ref q_th_told, .ref q_th_now, x_th_text, .int th_letters, .int th_at, x_th_read, .int th_isMore, .int th_told0, .ref q_th_from, .ref q_th_to, x_th_undone, .int th_undos, .ref q_th_aside, .int o57.2.1, .int o57.2.2.1, .int v3_29, .int (-4 : Int32), x_th_seenCell, x_th_seenNight, .int th_seens, .int th_above, .int th_below, x_th_kept, .int th_keeps])), (q_th_aside, .inl (cI, 28, .inl o13)), (q_th_now, .inl (cI, 28, .inl o57.2.2.2.1)), (q_th_told, .inl (cI, 54, .inl th_told)), (q_th_from, .inl (cI, 25, .inl o57.2.2.2.2.1)), (q_th_to, .inl (cI, 25, .inl o57.2.2.2.2.2))]) rfl (fun H locs hP hD hS => ?_)
              refine lv_iconst (v := (nI 1)) hx hb dX8_lays_68 (by decide) ?_
              exact hret (nI 1) o57.2.1 o57.2.2.1 v3_29 (-4 : Int32) o13 o57.2.2.2.1 o57.2.2.2.2.1 o57.2.2.2.2.2 _ _ _ _ hF dX8_lays_69 hP hD hS
    refine lv_istore_n (lv' := [(3, .int (nI 0)), (0, .ref q_th), (1, .int p1), (2, .int p2)]) hx hb dX8_lays_28 rfl hl (by decide) rfl (fun ls hl => ?_)
    exact B_29 N (nI 0) o19.2.1 o19.2.2.1 o19.2.2.2.1 o19.2.2.2.2.1 o19.2.2.2.2.2 hF _ _ _ hP hD hS (lv_sub hl [1, 2, 3, 0] rfl)
  · have hF := ng_f hc hF
    refine lv_iconst (v := (nI 0)) hx hb dX8_lays_25 (by decide) ?_
    exact hret (nI 0) o19.2.1 o19.2.2.1 (-4 : Int32) (-4 : Int32) o13 o19.2.2.2.1 o19.2.2.2.2.1 o19.2.2.2.2.2 _ _ _ _ hF dX8_lays_26 hP hD hS
theorem hdX8_layFor : yX8_layFor.cls ≠ "java/lang/invoke/MethodHandle" ∧ yX8_layFor.cls ≠ "java/lang/invoke/VarHandle" ∧ (parseMethodDescriptor yX8_layFor.desc).map (fun d => d.parameters.length) = some 3 := by decide +kernel
set_option maxHeartbeats 40000000 in
set_option maxRecDepth 100000 in
theorem kX8_layFor (l : Launch) (dC : Nat → ClassId) (dI : Nat → Nat → Nat) (cI : ClassId) (q_th : Nat) (q_th_aside : Nat) (q_th_now : Nat) (q_th_told : Nat) (q_th_from : Nat) (q_th_to : Nat) (sz : Nat) (x_th_text : Value) (th_letters : Int32) (th_at : Int32) (x_th_read : Value) (th_isMore : Int32) (th_told0 : Int32) (x_th_undone : Value) (th_undos : Int32) (th_beganOn : Int32) (th_beganIn : Int32) (th_first : Int32) (th_second : Int32) (x_th_seenCell : Value) (x_th_seenNight : Value) (th_seens : Int32) (th_above : Int32) (th_below : Int32) (x_th_kept : Value) (th_keeps : Int32) (th_aside : Nat → Int32) (th_now : Nat → Int32) (th_told : Nat → Int32) (th_from : Nat → Int32) (th_to : Nat → Int32) (p1 : Int32) (p2 : Int32) (p3 : Int32) (N : Nat) (o : Int32 × Int32 × Int32 × Int32 × Int32 × (Nat → Int32) × (Nat → Int32) × (Nat → Int32) × (Nat → Int32)) (hF : fX8_layFor N th_beganOn th_beganIn th_first th_second p1 p2 p3 th_aside th_now th_told th_from th_to = some o) : nx_I l yX8_layFor wsX8_layFor ({ frames := 9, cells := 0, slots := 0, locals := 212 } : Room) (dC, dI) cI [.ref q_th, .int p1, .int p2, .int p3] [(q_th, .inr (8, [.ref q_th_told, .ref q_th_now, x_th_text, .int th_letters, .int th_at, x_th_read, .int th_isMore, .int th_told0, .ref q_th_from, .ref q_th_to, x_th_undone, .int th_undos, .ref q_th_aside, .int th_beganOn, .int th_beganIn, .int th_first, .int th_second, x_th_seenCell, x_th_seenNight, .int th_seens, .int th_above, .int th_below, x_th_kept, .int th_keeps])), (q_th_aside, .inl (cI, 28, .inl th_aside)), (q_th_now, .inl (cI, 28, .inl th_now)), (q_th_told, .inl (cI, 54, .inl th_told)), (q_th_from, .inl (cI, 25, .inl th_from)), (q_th_to, .inl (cI, 25, .inl th_to))] sz o.1 [(q_th, .inr (8, [.ref q_th_told, .ref q_th_now, x_th_text, .int th_letters, .int th_at, x_th_read, .int th_isMore, .int th_told0, .ref q_th_from, .ref q_th_to, x_th_undone, .int th_undos, .ref q_th_aside, .int o.2.1, .int o.2.2.1, .int o.2.2.2.1, .int o.2.2.2.2.1, x_th_seenCell, x_th_seenNight, .int th_seens, .int th_above, .int th_below, x_th_kept, .int th_keeps])), (q_th_aside, .inl (cI, 28, .inl o.2.2.2.2.2.1)), (q_th_now, .inl (cI, 28, .inl o.2.2.2.2.2.2.1)), (q_th_told, .inl (cI, 54, .inl th_told)), (q_th_from, .inl (cI, 25, .inl o.2.2.2.2.2.2.2.1)), (q_th_to, .inl (cI, 25, .inl o.2.2.2.2.2.2.2.2))] := by
  refine nx_int (cc := cX8_layFor) (maxL := 5) (by decide) rfl (Nat.le_of_ble_eq_true rfl) ?_
  intro p e s m args below meth c Q A S0 hK hN hA ret0 hP hD hS ls hl
  have S0 : CallFix p m c cX8_layFor 5 s args wsX8_layFor RX8 := S0
  have hx := S0.1
  have hb := S0.2.1
  have hown := S0.2.2.2.1
  have hts := S0.2.2.2.2
  have hf_186 := hts (.fieldLink RX8 186 "SnailsYearModel" "second" "I") (by decide +kernel)
  have hin_X8 : ∀ w ∈ wsX80, w ∈ wsX8_layFor := by decide +kernel
  have hf_183 := hts (.fieldLink RX8 183 "SnailsYearModel" "first" "I") (by decide +kernel)
  have hl : lv_has ls 5 [(0, .ref q_th), (1, .int p1), (2, .int p2), (3, .int p3)] := hl
  have hret : ∀ (r0 : Int32) (y0 : Int32) (y1 : Int32) (y2 : Int32) (y3 : Int32) (y4 : Nat → Int32) (y5 : Nat → Int32) (y6 : Nat → Int32) (y7 : Nat → Int32) (H : Heap) (locs : List Loc) (ls : Array Slot) (pc : Nat), some (r0, y0, y1, y2, y3, y4, y5, y6, y7) = some o → decode cX8_layFor pc = .ok (.ireturn, 1) → va_P (dC, dI) vwCl [(q_th, .inr (8, [.ref q_th_told, .ref q_th_now, x_th_text, .int th_letters, .int th_at, x_th_read, .int th_isMore, .int th_told0, .ref q_th_from, .ref q_th_to, x_th_undone, .int th_undos, .ref q_th_aside, .int y0, .int y1, .int y2, .int y3, x_th_seenCell, x_th_seenNight, .int th_seens, .int th_above, .int th_below, x_th_kept, .int th_keeps])), (q_th_aside, .inl (cI, 28, .inl y4)), (q_th_now, .inl (cI, 28, .inl y5)), (q_th_told, .inl (cI, 54, .inl th_told)), (q_th_from, .inl (cI, 25, .inl y6)), (q_th_to, .inl (cI, 25, .inl y7))] H → va_D A [(q_th, .inr (8, [.ref q_th_told, .ref q_th_now, x_th_text, .int th_letters, .int th_at, x_th_read, .int th_isMore, .int th_told0, .ref q_th_from, .ref q_th_to, x_th_undone, .int th_undos, .ref q_th_aside, .int y0, .int y1, .int y2, .int y3, x_th_seenCell, x_th_seenNight, .int th_seens, .int th_above, .int th_below, x_th_kept, .int th_keeps])), (q_th_aside, .inl (cI, 28, .inl y4)), (q_th_now, .inl (cI, 28, .inl y5)), (q_th_told, .inl (cI, 54, .inl th_told)), (q_th_from, .inl (cI, 25, .inl y6)), (q_th_to, .inl (cI, 25, .inl y7))] → va_S A s.heap H locs → W p l e ({ frames := 9, cells := 0, slots := 0, locals := 212 } : Room) s m args below meth c H locs 0 0 Q (F0 m pc ls [.int r0]) := by
    intro r0 y0 y1 y2 y3 y4 y5 y6 y7 H locs ls pc ho hd hP hD hS
    cases ho
    exact ret0 H locs ls pc hd hP hD hS
  rw [fX8_layFor_e] at hF
  refine lv_iload_n hx hb dX8_layFor_0 rfl (lv_at hl 1 rfl) ?_
  refine lv_i2l hx hb dX8_layFor_1 rfl ?_
  refine lv_lconst (v := (lN 0)) hx hb dX8_layFor_2 (by decide) ?_
  refine lv_ldc2 (v := (lN 30)) hx hb hown (hts (.constantLong RX8 151 30) (by decide +kernel)) dX8_layFor_3 ?_
  obtain ⟨o6, hF1, hF⟩ := ng_b hF
  refine nx_callSi (As := [.long p1.toInt64, .long (lN 0), .long (lN 30)]) (rest := []) (W1 := [(q_th, .inr (8, [.ref q_th_told, .ref q_th_now, x_th_text, .int th_letters, .int th_at, x_th_read, .int th_isMore, .int th_told0, .ref q_th_from, .ref q_th_to, x_th_undone, .int th_undos, .ref q_th_aside, .int th_beganOn, .int th_beganIn, .int th_first, .int th_second, x_th_seenCell, x_th_seenNight, .int th_seens, .int th_above, .int th_below, x_th_kept, .int th_keeps])), (q_th_aside, .inl (cI, 28, .inl th_aside)), (q_th_now, .inl (cI, 28, .inl th_now)), (q_th_told, .inl (cI, 54, .inl th_told)), (q_th_from, .inl (cI, 25, .inl th_from)), (q_th_to, .inl (cI, 25, .inl th_to))]) (wr := [(q_th, .inr (8, [.ref q_th_told, .ref q_th_now, x_th_text, .int th_letters, .int th_at, x_th_read, .int th_isMore, .int th_told0, .ref q_th_from, .ref q_th_to, x_th_undone, .int th_undos, .ref q_th_aside, .int th_beganOn, .int th_beganIn, .int th_first, .int th_second, x_th_seenCell, x_th_seenNight, .int th_seens, .int th_above, .int th_below, x_th_kept, .int th_keeps])), (q_th_aside, .inl (cI, 28, .inl th_aside)), (q_th_now, .inl (cI, 28, .inl th_now)), (q_th_told, .inl (cI, 54, .inl th_told)), (q_th_from, .inl (cI, 25, .inl th_from)), (q_th_to, .inl (cI, 25, .inl th_to))]) S0 hK hN hA hP hD hS (kX8_in l dC dI cI _ p1.toInt64 (lN 0) (lN 30) N o6 hF1) (va_cwS 3 hts gX8_layFor_X8_in rfl rfl rfl hdX8_in ⟨Nat.le_of_ble_eq_true rfl, Nat.le_of_ble_eq_true rfl⟩) [] [0, 1, 2, 3, 4, 5] [0, 1, 2, 3, 4, 5] rfl rfl rfl rfl rfl hl.1 rfl (Nat.le_of_ble_eq_true rfl) dX8_layFor_6 (fun H locs hP hD hS => ?_)
  refine lv_if_eq (tgt := 36) hx hb dX8_layFor_9 (by decide) (fun hc => ?_) (fun hc => ?_)
  · have hF := ng_t hc hF
    refine lv_iconst (v := (-1 : Int32)) hx hb dX8_layFor_36 (by decide) ?_
    exact hret (-1 : Int32) th_beganOn th_beganIn th_first th_second th_aside th_now th_from th_to _ _ _ _ hF dX8_layFor_37 hP hD hS
  · have hF := ng_f hc hF
    refine lv_iload_n hx hb dX8_layFor_12 rfl (lv_at hl 2 rfl) ?_
    refine lv_i2l hx hb dX8_layFor_13 rfl ?_
    refine lv_lconst (v := (lN 0)) hx hb dX8_layFor_14 (by decide) ?_
    refine lv_ldc2 (v := (lN 30)) hx hb hown (hts (.constantLong RX8 151 30) (by decide +kernel)) dX8_layFor_15 ?_
    obtain ⟨o18, hF1, hF⟩ := ng_b hF
    refine nx_callSi (As := [.long p2.toInt64, .long (lN 0), .long (lN 30)]) (rest := []) (W1 := [(q_th, .inr (8, [.ref q_th_told, .ref q_th_now, x_th_text, .int th_letters, .int th_at, x_th_read, .int th_isMore, .int th_told0, .ref q_th_from, .ref q_th_to, x_th_undone, .int th_undos, .ref q_th_aside, .int th_beganOn, .int th_beganIn, .int th_first, .int th_second, x_th_seenCell, x_th_seenNight, .int th_seens, .int th_above, .int th_below, x_th_kept, .int th_keeps])), (q_th_aside, .inl (cI, 28, .inl th_aside)), (q_th_now, .inl (cI, 28, .inl th_now)), (q_th_told, .inl (cI, 54, .inl th_told)), (q_th_from, .inl (cI, 25, .inl th_from)), (q_th_to, .inl (cI, 25, .inl th_to))]) (wr := [(q_th, .inr (8, [.ref q_th_told, .ref q_th_now, x_th_text, .int th_letters, .int th_at, x_th_read, .int th_isMore, .int th_told0, .ref q_th_from, .ref q_th_to, x_th_undone, .int th_undos, .ref q_th_aside, .int th_beganOn, .int th_beganIn, .int th_first, .int th_second, x_th_seenCell, x_th_seenNight, .int th_seens, .int th_above, .int th_below, x_th_kept, .int th_keeps])), (q_th_aside, .inl (cI, 28, .inl th_aside)), (q_th_now, .inl (cI, 28, .inl th_now)), (q_th_told, .inl (cI, 54, .inl th_told)), (q_th_from, .inl (cI, 25, .inl th_from)), (q_th_to, .inl (cI, 25, .inl th_to))]) S0 hK hN hA hP hD hS (kX8_in l dC dI cI _ p2.toInt64 (lN 0) (lN 30) N o18 hF1) (va_cwS 3 hts gX8_layFor_X8_in rfl rfl rfl hdX8_in ⟨Nat.le_of_ble_eq_true rfl, Nat.le_of_ble_eq_true rfl⟩) [] [0, 1, 2, 3, 4, 5] [0, 1, 2, 3, 4, 5] rfl rfl rfl rfl rfl hl.1 rfl (Nat.le_of_ble_eq_true rfl) dX8_layFor_18 (fun H locs hP hD hS => ?_)
    refine lv_if_eq (tgt := 36) hx hb dX8_layFor_21 (by decide) (fun hc => ?_) (fun hc => ?_)
    · have hF := ng_t hc hF
      refine lv_iconst (v := (-1 : Int32)) hx hb dX8_layFor_36 (by decide) ?_
      exact hret (-1 : Int32) th_beganOn th_beganIn th_first th_second th_aside th_now th_from th_to _ _ _ _ hF dX8_layFor_37 hP hD hS
    · have hF := ng_f hc hF
      refine lv_iload_n hx hb dX8_layFor_24 rfl (lv_at hl 3 rfl) ?_
      refine lv_i2l hx hb dX8_layFor_25 rfl ?_
      refine lv_lconst (v := (lN 0)) hx hb dX8_layFor_26 (by decide) ?_
      refine lv_ldc2 (v := (lN 2)) hx hb hown (hts (.constantLong RX8 196 2) (by decide +kernel)) dX8_layFor_27 ?_
      obtain ⟨o30, hF1, hF⟩ := ng_b hF
      refine nx_callSi (As := [.long p3.toInt64, .long (lN 0), .long (lN 2)]) (rest := []) (W1 := [(q_th, .inr (8, [.ref q_th_told, .ref q_th_now, x_th_text, .int th_letters, .int th_at, x_th_read, .int th_isMore, .int th_told0, .ref q_th_from, .ref q_th_to, x_th_undone, .int th_undos, .ref q_th_aside, .int th_beganOn, .int th_beganIn, .int th_first, .int th_second, x_th_seenCell, x_th_seenNight, .int th_seens, .int th_above, .int th_below, x_th_kept, .int th_keeps])), (q_th_aside, .inl (cI, 28, .inl th_aside)), (q_th_now, .inl (cI, 28, .inl th_now)), (q_th_told, .inl (cI, 54, .inl th_told)), (q_th_from, .inl (cI, 25, .inl th_from)), (q_th_to, .inl (cI, 25, .inl th_to))]) (wr := [(q_th, .inr (8, [.ref q_th_told, .ref q_th_now, x_th_text, .int th_letters, .int th_at, x_th_read, .int th_isMore, .int th_told0, .ref q_th_from, .ref q_th_to, x_th_undone, .int th_undos, .ref q_th_aside, .int th_beganOn, .int th_beganIn, .int th_first, .int th_second, x_th_seenCell, x_th_seenNight, .int th_seens, .int th_above, .int th_below, x_th_kept, .int th_keeps])), (q_th_aside, .inl (cI, 28, .inl th_aside)), (q_th_now, .inl (cI, 28, .inl th_now)), (q_th_told, .inl (cI, 54, .inl th_told)), (q_th_from, .inl (cI, 25, .inl th_from)), (q_th_to, .inl (cI, 25, .inl th_to))]) S0 hK hN hA hP hD hS (kX8_in l dC dI cI _ p3.toInt64 (lN 0) (lN 2) N o30 hF1) (va_cwS 3 hts gX8_layFor_X8_in rfl rfl rfl hdX8_in ⟨Nat.le_of_ble_eq_true rfl, Nat.le_of_ble_eq_true rfl⟩) [] [0, 1, 2, 3, 4, 5] [0, 1, 2, 3, 4, 5] rfl rfl rfl rfl rfl hl.1 rfl (Nat.le_of_ble_eq_true rfl) dX8_layFor_30 (fun H locs hP hD hS => ?_)
      refine lv_if_ne (tgt := 38) hx hb dX8_layFor_33 (by decide) (fun hc => ?_) (fun hc => ?_)
      · have hF := ng_f hc hF
        refine lv_aload_n hx hb dX8_layFor_38 rfl (lv_at hl 0 rfl) ?_
        refine lv_iload_n hx hb dX8_layFor_39 rfl (lv_at hl 1 rfl) ?_
        refine lv_iload_n hx hb dX8_layFor_40 rfl (lv_at hl 2 rfl) ?_
        obtain ⟨o41, hF1, hF⟩ := ng_b hF
        refine nx_callVi (As := [.int p1, .int p2]) (rest := []) (W1 := [(q_th, .inr (8, [.ref q_th_told, .ref q_th_now, x_th_text, .int th_letters, .int th_at, x_th_read, .int th_isMore, .int th_told0, .ref q_th_from, .ref q_th_to, x_th_undone, .int th_undos, .ref q_th_aside, .int o41.2.1, .int o41.2.2.1, .int o41.2.2.2.1, .int o41.2.2.2.2.1, x_th_seenCell, x_th_seenNight, .int th_seens, .int th_above, .int th_below, x_th_kept, .int th_keeps])), (q_th_aside, .inl (cI, 28, .inl o41.2.2.2.2.2.1)), (q_th_now, .inl (cI, 28, .inl o41.2.2.2.2.2.2.1)), (q_th_told, .inl (cI, 54, .inl th_told)), (q_th_from, .inl (cI, 25, .inl o41.2.2.2.2.2.2.2.1)), (q_th_to, .inl (cI, 25, .inl o41.2.2.2.2.2.2.2.2))]) (wr := []) S0 hK hN hA hP hD hS (kX8_lays l dC dI cI q_th q_th_aside q_th_now q_th_told q_th_from q_th_to _ (x_th_text) th_letters th_at (x_th_read) th_isMore th_told0 (x_th_undone) th_undos th_beganOn th_beganIn th_first th_second (x_th_seenCell) (x_th_seenNight) th_seens th_above th_below (x_th_kept) th_keeps th_aside th_now th_told th_from th_to p1 p2 N o41 hF1) (cwV 2 hts gX8_layFor_X8_lays rfl rfl rfl ⟨rfl, hdX8_lays⟩ ⟨Nat.le_of_ble_eq_true rfl, Nat.le_of_ble_eq_true rfl⟩) [0, 1, 2, 3, 4, 5] [] [0, 1, 2, 3, 4, 5] rfl rfl rfl rfl 0 8 rfl rfl rfl rfl hl.1 rfl (Nat.le_of_ble_eq_true rfl) dX8_layFor_41 (fun H locs hP hD hS => ?_)
        refine lv_istore (lv' := [(4, .int o41.1), (0, .ref q_th), (1, .int p1), (2, .int p2), (3, .int p3)]) hx hb dX8_layFor_44 hl (by decide) rfl (fun ls hl => ?_)
        refine lv_iload_n hx hb dX8_layFor_46 rfl (lv_at hl 4 rfl) ?_
        refine lv_if_eq (tgt := 57) hx hb dX8_layFor_47 (by decide) (fun hc => ?_) (fun hc => ?_)
        · have hF := ng_t hc hF
          refine lv_iload hx hb dX8_layFor_57 (lv_at hl 0 rfl) ?_
          refine lv_goto (tgt := 78) hx hb dX8_layFor_59 (by decide) ?_
          exact hret o41.1 o41.2.1 o41.2.2.1 o41.2.2.2.1 o41.2.2.2.2.1 o41.2.2.2.2.2.1 o41.2.2.2.2.2.2.1 o41.2.2.2.2.2.2.2.1 o41.2.2.2.2.2.2.2.2 _ _ _ _ hF dX8_layFor_78 hP hD hS
        · have hF := ng_f hc hF
          refine lv_iload hx hb dX8_layFor_50 (lv_at hl 0 rfl) ?_
          refine lv_bipush (v := (-4 : Int32)) hx hb dX8_layFor_52 (by decide) ?_
          refine lv_icmp_ne (tgt := 62) hx hb dX8_layFor_54 (by decide) (fun hc => ?_) (fun hc => ?_)
          · have hF := ng_f hc hF
            refine lv_iload_n hx hb dX8_layFor_62 rfl (lv_at hl 4 rfl) ?_
            refine lv_iconst (v := (nI 1)) hx hb dX8_layFor_63 (by decide) ?_
            refine lv_icmp_ne (tgt := 74) hx hb dX8_layFor_64 (by decide) (fun hc => ?_) (fun hc => ?_)
            · have hF := ng_f hc hF
              refine lv_aload_n hx hb dX8_layFor_74 rfl (lv_at hl 1 rfl) ?_
              refine nx_get S0 hK hP 0 16 hin_X8 hf_186 rfl rfl (by decide) rfl rfl dX8_layFor_75 ?_
              exact hret o41.2.2.2.2.1 o41.2.1 o41.2.2.1 o41.2.2.2.1 o41.2.2.2.2.1 o41.2.2.2.2.2.1 o41.2.2.2.2.2.2.1 o41.2.2.2.2.2.2.2.1 o41.2.2.2.2.2.2.2.2 _ _ _ _ hF dX8_layFor_78 hP hD hS
            · have hF := ng_t hc hF
              refine lv_aload_n hx hb dX8_layFor_67 rfl (lv_at hl 1 rfl) ?_
              refine nx_get S0 hK hP 0 15 hin_X8 hf_183 rfl rfl (by decide) rfl rfl dX8_layFor_68 ?_
              refine lv_goto (tgt := 78) hx hb dX8_layFor_71 (by decide) ?_
              exact hret o41.2.2.2.1 o41.2.1 o41.2.2.1 o41.2.2.2.1 o41.2.2.2.2.1 o41.2.2.2.2.2.1 o41.2.2.2.2.2.2.1 o41.2.2.2.2.2.2.2.1 o41.2.2.2.2.2.2.2.2 _ _ _ _ hF dX8_layFor_78 hP hD hS
          · have hF := ng_t hc hF
            refine lv_iload hx hb dX8_layFor_57 (lv_at hl 0 rfl) ?_
            refine lv_goto (tgt := 78) hx hb dX8_layFor_59 (by decide) ?_
            exact hret o41.1 o41.2.1 o41.2.2.1 o41.2.2.2.1 o41.2.2.2.2.1 o41.2.2.2.2.2.1 o41.2.2.2.2.2.2.1 o41.2.2.2.2.2.2.2.1 o41.2.2.2.2.2.2.2.2 _ _ _ _ hF dX8_layFor_78 hP hD hS
      · have hF := ng_t hc hF
        refine lv_iconst (v := (-1 : Int32)) hx hb dX8_layFor_36 (by decide) ?_
        exact hret (-1 : Int32) th_beganOn th_beganIn th_first th_second th_aside th_now th_from th_to _ _ _ _ hF dX8_layFor_37 hP hD hS
theorem hdX8_decides : yX8_decides.cls ≠ "java/lang/invoke/MethodHandle" ∧ yX8_decides.cls ≠ "java/lang/invoke/VarHandle" ∧ (parseMethodDescriptor yX8_decides.desc).map (fun d => d.parameters.length) = some 0 := by decide +kernel
set_option maxHeartbeats 40000000 in
set_option maxRecDepth 100000 in
theorem kX8_decides (l : Launch) (dC : Nat → ClassId) (dI : Nat → Nat → Nat) (cI : ClassId) (q_th : Nat) (q_th_aside : Nat) (q_th_now : Nat) (q_th_told : Nat) (q_th_from : Nat) (q_th_to : Nat) (sz : Nat) (x_th_text : Value) (th_letters : Int32) (th_at : Int32) (x_th_read : Value) (th_isMore : Int32) (th_told0 : Int32) (x_th_undone : Value) (th_undos : Int32) (th_beganOn : Int32) (th_beganIn : Int32) (th_first : Int32) (th_second : Int32) (x_th_seenCell : Value) (x_th_seenNight : Value) (th_seens : Int32) (th_above : Int32) (th_below : Int32) (x_th_kept : Value) (th_keeps : Int32) (th_aside : Nat → Int32) (th_now : Nat → Int32) (th_told : Nat → Int32) (th_from : Nat → Int32) (th_to : Nat → Int32) (N : Nat) (o : Int32 × Int32 × Int32 × (Nat → Int32) × (Nat → Int32) × (Nat → Int32) × (Nat → Int32)) (hF : fX8_decides N th_aside th_now th_told th_from th_to = some o) : nx_I l yX8_decides wsX8_decides ({ frames := 8, cells := 0, slots := 0, locals := 186 } : Room) (dC, dI) cI [.ref q_th] [(q_th, .inr (8, [.ref q_th_told, .ref q_th_now, x_th_text, .int th_letters, .int th_at, x_th_read, .int th_isMore, .int th_told0, .ref q_th_from, .ref q_th_to, x_th_undone, .int th_undos, .ref q_th_aside, .int th_beganOn, .int th_beganIn, .int th_first, .int th_second, x_th_seenCell, x_th_seenNight, .int th_seens, .int th_above, .int th_below, x_th_kept, .int th_keeps])), (q_th_aside, .inl (cI, 28, .inl th_aside)), (q_th_now, .inl (cI, 28, .inl th_now)), (q_th_told, .inl (cI, 54, .inl th_told)), (q_th_from, .inl (cI, 25, .inl th_from)), (q_th_to, .inl (cI, 25, .inl th_to))] sz o.1 [(q_th, .inr (8, [.ref q_th_told, .ref q_th_now, x_th_text, .int th_letters, .int th_at, x_th_read, .int th_isMore, .int th_told0, .ref q_th_from, .ref q_th_to, x_th_undone, .int th_undos, .ref q_th_aside, .int o.2.1, .int o.2.2.1, .int th_first, .int th_second, x_th_seenCell, x_th_seenNight, .int th_seens, .int th_above, .int th_below, x_th_kept, .int th_keeps])), (q_th_aside, .inl (cI, 28, .inl o.2.2.2.1)), (q_th_now, .inl (cI, 28, .inl o.2.2.2.2.1)), (q_th_told, .inl (cI, 54, .inl th_told)), (q_th_from, .inl (cI, 25, .inl o.2.2.2.2.2.1)), (q_th_to, .inl (cI, 25, .inl o.2.2.2.2.2.2))] := by
  refine nx_int (cc := cX8_decides) (maxL := 4) (by decide) rfl (Nat.le_of_ble_eq_true rfl) ?_
  intro p e s m args below meth c Q A S0 hK hN hA ret0 hP hD hS ls hl
  have S0 : CallFix p m c cX8_decides 4 s args wsX8_decides RX8 := S0
  have hx := S0.1
  have hb := S0.2.1
  have hown := S0.2.2.2.1
  have hts := S0.2.2.2.2
  have hf_13 := hts (.fieldLink RX8 13 "SnailsYearModel" "now" "[I") (by decide +kernel)
  have hin_X8 : ∀ w ∈ wsX80, w ∈ wsX8_decides := by decide +kernel
  have hl : lv_has ls 4 [(0, .ref q_th)] := hl
  have hret : ∀ (r0 : Int32) (y0 : Int32) (y1 : Int32) (y2 : Nat → Int32) (y3 : Nat → Int32) (y4 : Nat → Int32) (y5 : Nat → Int32) (H : Heap) (locs : List Loc) (ls : Array Slot) (pc : Nat), some (r0, y0, y1, y2, y3, y4, y5) = some o → decode cX8_decides pc = .ok (.ireturn, 1) → va_P (dC, dI) vwCl [(q_th, .inr (8, [.ref q_th_told, .ref q_th_now, x_th_text, .int th_letters, .int th_at, x_th_read, .int th_isMore, .int th_told0, .ref q_th_from, .ref q_th_to, x_th_undone, .int th_undos, .ref q_th_aside, .int y0, .int y1, .int th_first, .int th_second, x_th_seenCell, x_th_seenNight, .int th_seens, .int th_above, .int th_below, x_th_kept, .int th_keeps])), (q_th_aside, .inl (cI, 28, .inl y2)), (q_th_now, .inl (cI, 28, .inl y3)), (q_th_told, .inl (cI, 54, .inl th_told)), (q_th_from, .inl (cI, 25, .inl y4)), (q_th_to, .inl (cI, 25, .inl y5))] H → va_D A [(q_th, .inr (8, [.ref q_th_told, .ref q_th_now, x_th_text, .int th_letters, .int th_at, x_th_read, .int th_isMore, .int th_told0, .ref q_th_from, .ref q_th_to, x_th_undone, .int th_undos, .ref q_th_aside, .int y0, .int y1, .int th_first, .int th_second, x_th_seenCell, x_th_seenNight, .int th_seens, .int th_above, .int th_below, x_th_kept, .int th_keeps])), (q_th_aside, .inl (cI, 28, .inl y2)), (q_th_now, .inl (cI, 28, .inl y3)), (q_th_told, .inl (cI, 54, .inl th_told)), (q_th_from, .inl (cI, 25, .inl y4)), (q_th_to, .inl (cI, 25, .inl y5))] → va_S A s.heap H locs → W p l e ({ frames := 8, cells := 0, slots := 0, locals := 186 } : Room) s m args below meth c H locs 0 0 Q (F0 m pc ls [.int r0]) := by
    intro r0 y0 y1 y2 y3 y4 y5 H locs ls pc ho hd hP hD hS
    cases ho
    exact ret0 H locs ls pc hd hP hD hS
  rw [fX8_decides_e] at hF
  refine lv_aload_n hx hb dX8_decides_0 rfl (lv_at hl 0 rfl) ?_
  obtain ⟨o1, hF1, hF⟩ := ng_b hF
  refine nx_callVi (As := []) (rest := []) (W1 := [(q_th, .inr (8, [.ref q_th_told, .ref q_th_now, x_th_text, .int th_letters, .int th_at, x_th_read, .int th_isMore, .int th_told0, .ref q_th_from, .ref q_th_to, x_th_undone, .int th_undos, .ref q_th_aside, .int o1.2.1, .int o1.2.2.1, .int th_first, .int th_second, x_th_seenCell, x_th_seenNight, .int th_seens, .int th_above, .int th_below, x_th_kept, .int th_keeps])), (q_th_aside, .inl (cI, 28, .inl o1.2.2.2.1)), (q_th_now, .inl (cI, 28, .inl o1.2.2.2.2.1)), (q_th_told, .inl (cI, 54, .inl th_told)), (q_th_from, .inl (cI, 25, .inl o1.2.2.2.2.2.1)), (q_th_to, .inl (cI, 25, .inl o1.2.2.2.2.2.2))]) (wr := []) S0 hK hN hA hP hD hS (kX8_beginsNow l dC dI cI q_th q_th_aside q_th_now q_th_told q_th_from q_th_to _ (x_th_text) th_letters th_at (x_th_read) th_isMore th_told0 (x_th_undone) th_undos th_beganOn th_beganIn th_first th_second (x_th_seenCell) (x_th_seenNight) th_seens th_above th_below (x_th_kept) th_keeps th_aside th_now th_told th_from th_to N o1 hF1) (cwV 0 hts gX8_decides_X8_beginsNow rfl rfl rfl ⟨rfl, hdX8_beginsNow⟩ ⟨Nat.le_of_ble_eq_true rfl, Nat.le_of_ble_eq_true rfl⟩) [0, 1, 2, 3, 4, 5] [] [0, 1, 2, 3, 4, 5] rfl rfl rfl rfl 0 8 rfl rfl rfl rfl hl.1 rfl (Nat.le_of_ble_eq_true rfl) dX8_decides_1 (fun H locs hP hD hS => ?_)
  refine lv_istore_n (lv' := [(1, .int o1.1), (0, .ref q_th)]) hx hb dX8_decides_4 rfl hl (by decide) rfl (fun ls hl => ?_)
  refine lv_iconst (v := (nI 0)) hx hb dX8_decides_5 (by decide) ?_
  refine lv_istore_n (lv' := [(2, .int (nI 0)), (1, .int o1.1), (0, .ref q_th)]) hx hb dX8_decides_6 rfl hl (by decide) rfl (fun ls hl => ?_)
  refine lv_iconst (v := (nI 0)) hx hb dX8_decides_7 (by decide) ?_
  have B_9 : ∀ (n_9 : Nat) (v2_9 : Int32) (v3_9 : Int32) (th_beganOn_9 : Int32) (th_beganIn_9 : Int32) (th_aside_9 : Nat → Int32) (th_now_9 : Nat → Int32) (th_from_9 : Nat → Int32) (th_to_9 : Nat → Int32), fX8_decides_9 N th_told o1 n_9 v2_9 v3_9 th_beganOn_9 th_beganIn_9 th_aside_9 th_now_9 th_from_9 th_to_9 = some o → ∀ (H : Heap) (locs : List Loc) (ls : Array Slot), va_P (dC, dI) vwCl [(q_th, .inr (8, [.ref q_th_told, .ref q_th_now, x_th_text, .int th_letters, .int th_at, x_th_read, .int th_isMore, .int th_told0, .ref q_th_from, .ref q_th_to, x_th_undone, .int th_undos, .ref q_th_aside, .int th_beganOn_9, .int th_beganIn_9, .int th_first, .int th_second, x_th_seenCell, x_th_seenNight, .int th_seens, .int th_above, .int th_below, x_th_kept, .int th_keeps])), (q_th_aside, .inl (cI, 28, .inl th_aside_9)), (q_th_now, .inl (cI, 28, .inl th_now_9)), (q_th_told, .inl (cI, 54, .inl th_told)), (q_th_from, .inl (cI, 25, .inl th_from_9)), (q_th_to, .inl (cI, 25, .inl th_to_9))] H → va_D A [(q_th, .inr (8, [.ref q_th_told, .ref q_th_now, x_th_text, .int th_letters, .int th_at, x_th_read, .int th_isMore, .int th_told0, .ref q_th_from, .ref q_th_to, x_th_undone, .int th_undos, .ref q_th_aside, .int th_beganOn_9, .int th_beganIn_9, .int th_first, .int th_second, x_th_seenCell, x_th_seenNight, .int th_seens, .int th_above, .int th_below, x_th_kept, .int th_keeps])), (q_th_aside, .inl (cI, 28, .inl th_aside_9)), (q_th_now, .inl (cI, 28, .inl th_now_9)), (q_th_told, .inl (cI, 54, .inl th_told)), (q_th_from, .inl (cI, 25, .inl th_from_9)), (q_th_to, .inl (cI, 25, .inl th_to_9))] → va_S A s.heap H locs → lv_has ls 4 [(0, .ref q_th), (1, .int o1.1), (2, .int v2_9), (3, .int v3_9)] → W p l e ({ frames := 8, cells := 0, slots := 0, locals := 186 } : Room) s m args below meth c H locs 0 0 Q (F0 m 9 ls []) := by
    intro n_9
    induction n_9 with
    | zero =>
      intro v2_9 v3_9 th_beganOn_9 th_beganIn_9 th_aside_9 th_now_9 th_from_9 th_to_9 hF
      rw [fX8_decides_9_z] at hF
      cases hF
    | succ n_9 ih_9 =>
      intro v2_9 v3_9 th_beganOn_9 th_beganIn_9 th_aside_9 th_now_9 th_from_9 th_to_9 hF H locs ls hP hD hS hl
      rw [fX8_decides_9_s] at hF
      refine lv_iload_n hx hb dX8_decides_9 rfl (lv_at hl 3 rfl) ?_
      refine lv_aload_n hx hb dX8_decides_10 rfl (lv_at hl 0 rfl) ?_
      obtain ⟨o11, hF1, hF⟩ := ng_b hF
      refine nx_callVi (As := []) (rest := [.int v3_9]) (W1 := [(q_th, .inr (8, [.ref q_th_told, .ref q_th_now, x_th_text, .int th_letters, .int th_at, x_th_read, .int th_isMore, .int th_told0, .ref q_th_from, .ref q_th_to, x_th_undone, .int th_undos, .ref q_th_aside, .int th_beganOn_9, .int th_beganIn_9, .int th_first, .int th_second, x_th_seenCell, x_th_seenNight, .int th_seens, .int th_above, .int th_below, x_th_kept, .int th_keeps])), (q_th_aside, .inl (cI, 28, .inl th_aside_9)), (q_th_now, .inl (cI, 28, .inl th_now_9)), (q_th_told, .inl (cI, 54, .inl th_told)), (q_th_from, .inl (cI, 25, .inl th_from_9)), (q_th_to, .inl (cI, 25, .inl th_to_9))]) (wr := [(q_th_aside, .inl (cI, 28, .inl th_aside_9)), (q_th_now, .inl (cI, 28, .inl th_now_9)), (q_th_from, .inl (cI, 25, .inl th_from_9)), (q_th_to, .inl (cI, 25, .inl th_to_9))]) S0 hK hN hA hP hD hS (kX8_cells l dC dI cI q_th q_th_told _ (.ref q_th_now) (x_th_text) th_letters th_at (x_th_read) th_isMore th_told0 (.ref q_th_from) (.ref q_th_to) (x_th_undone) th_undos (.ref q_th_aside) th_beganOn_9 th_beganIn_9 th_first th_second (x_th_seenCell) (x_th_seenNight) th_seens th_above th_below (x_th_kept) th_keeps th_told N o11 hF1) (cwV 0 hts gX8_decides_X8_cells rfl rfl rfl ⟨rfl, hdX8_cells⟩ ⟨Nat.le_of_ble_eq_true rfl, Nat.le_of_ble_eq_true rfl⟩) [0, 3] [1, 2, 4, 5] [4, 0, 1, 5, 2, 3] rfl rfl rfl rfl 0 8 rfl rfl rfl rfl hl.1 rfl (Nat.le_of_ble_eq_true rfl) dX8_decides_11 (fun H locs hP hD hS => ?_)
      refine lv_icmp_ge (tgt := 67) hx hb dX8_decides_14 (by decide) (fun hc => ?_) (fun hc => ?_)
      · have hF := ng_t hc hF
        refine lv_iload_n hx hb dX8_decides_67 rfl (lv_at hl 2 rfl) ?_
        exact hret v2_9 th_beganOn_9 th_beganIn_9 th_aside_9 th_now_9 th_from_9 th_to_9 _ _ _ _ hF dX8_decides_68 hP hD hS
      · have hF := ng_f hc hF
        refine lv_aload_n hx hb dX8_decides_17 rfl (lv_at hl 0 rfl) ?_
        refine lv_iload_n hx hb dX8_decides_18 rfl (lv_at hl 3 rfl) ?_
        obtain ⟨o19, hF1, hF⟩ := ng_b hF
        refine nx_callVi (As := [.int v3_9]) (rest := []) (W1 := [(q_th, .inr (8, [.ref q_th_told, .ref q_th_now, x_th_text, .int th_letters, .int th_at, x_th_read, .int th_isMore, .int th_told0, .ref q_th_from, .ref q_th_to, x_th_undone, .int th_undos, .ref q_th_aside, .int th_beganOn_9, .int th_beganIn_9, .int th_first, .int th_second, x_th_seenCell, x_th_seenNight, .int th_seens, .int th_above, .int th_below, x_th_kept, .int th_keeps])), (q_th_aside, .inl (cI, 28, .inl th_aside_9)), (q_th_now, .inl (cI, 28, .inl th_now_9)), (q_th_told, .inl (cI, 54, .inl th_told)), (q_th_from, .inl (cI, 25, .inl th_from_9)), (q_th_to, .inl (cI, 25, .inl th_to_9))]) (wr := [(q_th_aside, .inl (cI, 28, .inl th_aside_9)), (q_th_told, .inl (cI, 54, .inl th_told)), (q_th_from, .inl (cI, 25, .inl th_from_9)), (q_th_to, .inl (cI, 25, .inl th_to_9))]) S0 hK hN hA hP hD hS (kX8_kind l dC dI cI q_th q_th_now _ (.ref q_th_told) (x_th_text) th_letters th_at (x_th_read) th_isMore th_told0 (.ref q_th_from) (.ref q_th_to) (x_th_undone) th_undos (.ref q_th_aside) th_beganOn_9 th_beganIn_9 th_first th_second (x_th_seenCell) (x_th_seenNight) th_seens th_above th_below (x_th_kept) th_keeps th_now_9 v3_9 N o19 hF1) (cwV 1 hts gX8_decides_X8_kind rfl rfl rfl ⟨rfl, hdX8_kind⟩ ⟨Nat.le_of_ble_eq_true rfl, Nat.le_of_ble_eq_true rfl⟩) [0, 2] [1, 3, 4, 5] [4, 0, 5, 1, 2, 3] rfl rfl rfl rfl 0 8 rfl rfl rfl rfl hl.1 rfl (Nat.le_of_ble_eq_true rfl) dX8_decides_19 (fun H locs hP hD hS => ?_)
        refine lv_iconst (v := (nI 1)) hx hb dX8_decides_22 (by decide) ?_
        refine lv_icmp_ne (tgt := 61) hx hb dX8_decides_23 (by decide) (fun hc => ?_) (fun hc => ?_)
        · have hF := ng_f hc hF
          refine lv_iinc (v := v3_9 + (nI 1)) (lv' := [(3, .int (v3_9 + (nI 1))), (0, .ref q_th), (1, .int o1.1), (2, .int v2_9)]) hx hb dX8_decides_61 hl (k := 3) rfl rfl (by decide) rfl (fun ls hl => ?_)
          refine lv_goto (tgt := 9) hx hb dX8_decides_64 (by decide) ?_
          exact ih_9 v2_9 (v3_9 + (nI 1)) th_beganOn_9 th_beganIn_9 th_aside_9 th_now_9 th_from_9 th_to_9 hF _ _ _ hP hD hS (lv_sub hl [1, 2, 3, 0] rfl)
        · have hF := ng_t hc hF
          refine lv_aload_n hx hb dX8_decides_26 rfl (lv_at hl 0 rfl) ?_
          obtain ⟨o27, hF1, hF⟩ := ng_b hF
          refine nx_callVv (As := []) (rest := []) (W1 := [(q_th, .inr (8, [.ref q_th_told, .ref q_th_now, x_th_text, .int th_letters, .int th_at, x_th_read, .int th_isMore, .int th_told0, .ref q_th_from, .ref q_th_to, x_th_undone, .int th_undos, .ref q_th_aside, .int th_beganOn_9, .int th_beganIn_9, .int th_first, .int th_second, x_th_seenCell, x_th_seenNight, .int th_seens, .int th_above, .int th_below, x_th_kept, .int th_keeps])), (q_th_aside, .inl (cI, 28, .inl o27)), (q_th_now, .inl (cI, 28, .inl th_now_9)), (q_th_told, .inl (cI, 54, .inl th_told)), (q_th_from, .inl (cI, 25, .inl th_from_9)), (q_th_to, .inl (cI, 25, .inl th_to_9))]) (wr := [(q_th_told, .inl (cI, 54, .inl th_told)), (q_th_from, .inl (cI, 25, .inl th_from_9)), (q_th_to, .inl (cI, 25, .inl th_to_9))]) S0 hK hN hA hP hD hS (kX8_asides l dC dI cI q_th q_th_aside q_th_now _ (.ref q_th_told) (x_th_text) th_letters th_at (x_th_read) th_isMore th_told0 (.ref q_th_from) (.ref q_th_to) (x_th_undone) th_undos th_beganOn_9 th_beganIn_9 th_first th_second (x_th_seenCell) (x_th_seenNight) th_seens th_above th_below (x_th_kept) th_keeps th_aside_9 th_now_9 N o27 hF1) (cwV 0 hts gX8_decides_X8_asides rfl rfl rfl ⟨rfl, hdX8_asides⟩ ⟨Nat.le_of_ble_eq_true rfl, Nat.le_of_ble_eq_true rfl⟩) [0, 1, 2] [3, 4, 5] [3, 4, 5, 0, 1, 2] rfl rfl rfl rfl 0 8 rfl rfl rfl rfl hl.1 rfl (Nat.le_of_ble_eq_true rfl) dX8_decides_27 (fun H locs hP hD hS => ?_)
          refine lv_aload_n hx hb dX8_decides_30 rfl (lv_at hl 0 rfl) ?_
          refine nx_get S0 hK hP 0 1 hin_X8 hf_13 rfl rfl (by decide) rfl rfl dX8_decides_31 ?_
          refine lv_iconst (v := (nI 3)) hx hb dX8_decides_34 (by decide) ?_
          refine lv_iload_n hx hb dX8_decides_35 rfl (lv_at hl 3 rfl) ?_
          refine lv_iadd hx hb dX8_decides_36 ?_
          refine lv_iconst (v := (nI 0)) hx hb dX8_decides_37 (by decide) ?_
          have hg := ng_p hF
          have hF := ng_x hF
          refine nx_iast S0 hK hP hD hS 2 rfl hg dX8_decides_38 (W1 := [(q_th, .inr (8, [.ref q_th_told, .ref q_th_now, x_th_text, .int th_letters, .int th_at, x_th_read, .int th_isMore, .int th_told0, .ref q_th_from, .ref q_th_to, x_th_undone, .int th_undos, .ref q_th_aside, .int th_beganOn_9, .int th_beganIn_9, .int th_first, .int th_second, x_th_seenCell, x_th_seenNight, .int th_seens, .int th_above, .int th_below, x_th_kept, .int th_keeps])), (q_th_aside, .inl (cI, 28, .inl o27)), (q_th_now, .inl (cI, 28, .inl (upd th_now_9 (((nI 3) + v3_9).toNatClampNeg) (nI 0)))), (q_th_told, .inl (cI, 54, .inl th_told)), (q_th_from, .inl (cI, 25, .inl th_from_9)), (q_th_to, .inl (cI, 25, .inl th_to_9))]) rfl (fun H locs hP hD hS => ?_)
          refine lv_iload_n hx hb dX8_decides_39 rfl (lv_at hl 2 rfl) ?_
          refine lv_aload_n hx hb dX8_decides_40 rfl (lv_at hl 0 rfl) ?_
          obtain ⟨o41, hF1, hF⟩ := ng_b hF
          refine nx_callVi (As := []) (rest := [.int v2_9]) (W1 := [(q_th, .inr (8, [.ref q_th_told, .ref q_th_now, x_th_text, .int th_letters, .int th_at, x_th_read, .int th_isMore, .int th_told0, .ref q_th_from, .ref q_th_to, x_th_undone, .int th_undos, .ref q_th_aside, .int o41.2.1, .int o41.2.2.1, .int th_first, .int th_second, x_th_seenCell, x_th_seenNight, .int th_seens, .int th_above, .int th_below, x_th_kept, .int th_keeps])), (q_th_aside, .inl (cI, 28, .inl o27)), (q_th_now, .inl (cI, 28, .inl o41.2.2.2.1)), (q_th_told, .inl (cI, 54, .inl th_told)), (q_th_from, .inl (cI, 25, .inl o41.2.2.2.2.1)), (q_th_to, .inl (cI, 25, .inl o41.2.2.2.2.2))]) (wr := [(q_th_aside, .inl (cI, 28, .inl o27))]) S0 hK hN hA hP hD hS (kX8_beginsSo l dC dI cI q_th q_th_now q_th_told q_th_from q_th_to _ (x_th_text) th_letters th_at (x_th_read) th_isMore th_told0 (x_th_undone) th_undos (.ref q_th_aside) th_beganOn_9 th_beganIn_9 th_first th_second (x_th_seenCell) (x_th_seenNight) th_seens th_above th_below (x_th_kept) th_keeps (upd th_now_9 (((nI 3) + v3_9).toNatClampNeg) (nI 0)) th_told th_from_9 th_to_9 N o41 hF1) (cwV 0 hts gX8_decides_X8_beginsSo rfl rfl rfl ⟨rfl, hdX8_beginsSo⟩ ⟨Nat.le_of_ble_eq_true rfl, Nat.le_of_ble_eq_true rfl⟩) [0, 2, 3, 4, 5] [1] [1, 0, 2, 3, 4, 5] rfl rfl rfl rfl 0 8 rfl rfl rfl rfl hl.1 rfl (Nat.le_of_ble_eq_true rfl) dX8_decides_41 (fun H locs hP hD hS => ?_)
          refine lv_iload_n hx hb dX8_decides_44 rfl (lv_at hl 1 rfl) ?_
          have B_55 : ∀ (s1_55 : Int32), fX8_decides_55 N v2_9 v3_9 o27 o41 s1_55 (fX8_decides_9 N th_told o1 n_9) = some o → ∀ (H : Heap) (locs : List Loc) (ls : Array Slot), va_P (dC, dI) vwCl [(q_th, .inr (8, [.ref q_th_told, .ref q_th_now, x_th_text, .int th_letters, .int th_at, x_th_read, .int th_isMore, .int th_told0, .ref q_th_from, .ref q_th_to, x_th_undone, .int th_undos, .ref q_th_aside, .int o41.2.1, .int o41.2.2.1, .int th_first, .int th_second, x_th_seenCell, x_th_seenNight, .int th_seens, .int th_above, .int th_below, x_th_kept, .int th_keeps])), (q_th_aside, .inl (cI, 28, .inl o27)), (q_th_now, .inl (cI, 28, .inl o41.2.2.2.1)), (q_th_told, .inl (cI, 54, .inl th_told)), (q_th_from, .inl (cI, 25, .inl o41.2.2.2.2.1)), (q_th_to, .inl (cI, 25, .inl o41.2.2.2.2.2))] H → va_D A [(q_th, .inr (8, [.ref q_th_told, .ref q_th_now, x_th_text, .int th_letters, .int th_at, x_th_read, .int th_isMore, .int th_told0, .ref q_th_from, .ref q_th_to, x_th_undone, .int th_undos, .ref q_th_aside, .int o41.2.1, .int o41.2.2.1, .int th_first, .int th_second, x_th_seenCell, x_th_seenNight, .int th_seens, .int th_above, .int th_below, x_th_kept, .int th_keeps])), (q_th_aside, .inl (cI, 28, .inl o27)), (q_th_now, .inl (cI, 28, .inl o41.2.2.2.1)), (q_th_told, .inl (cI, 54, .inl th_told)), (q_th_from, .inl (cI, 25, .inl o41.2.2.2.2.1)), (q_th_to, .inl (cI, 25, .inl o41.2.2.2.2.2))] → va_S A s.heap H locs → lv_has ls 4 [(0, .ref q_th), (1, .int o1.1), (3, .int v3_9)] → W p l e ({ frames := 8, cells := 0, slots := 0, locals := 186 } : Room) s m args below meth c H locs 0 0 Q (F0 m 55 ls [.int s1_55, .int v2_9]) := by
            intro s1_55 hF H locs ls hP hD hS hl
            rw [fX8_decides_55_e] at hF
            refine lv_ior hx hb dX8_decides_55 ?_
            refine lv_istore_n (lv' := [(2, .int (v2_9 ||| s1_55)), (0, .ref q_th), (1, .int o1.1), (3, .int v3_9)]) hx hb dX8_decides_56 rfl hl (by decide) rfl (fun ls hl => ?_)
            refine lv_aload_n hx hb dX8_decides_57 rfl (lv_at hl 1 rfl) ?_
            obtain ⟨o58, hF1, hF⟩ := ng_b hF
            refine nx_callVv (As := []) (rest := []) (W1 := [(q_th, .inr (8, [.ref q_th_told, .ref q_th_now, x_th_text, .int th_letters, .int th_at, x_th_read, .int th_isMore, .int th_told0, .ref q_th_from, .ref q_th_to, x_th_undone, .int th_undos, .ref q_th_aside, .int o41.2.1, .int o41.2.2.1, .int th_first, .int th_second, x_th_seenCell, x_th_seenNight, .int th_seens, .int th_above, .int th_below, x_th_kept, .int th_keeps])), (q_th_aside, .inl (cI, 28, .inl o27)), (q_th_now, .inl (cI, 28, .inl o58)), (q_th_told, .inl (cI, 54, .inl th_told)), (q_th_from, .inl (cI, 25, .inl o41.2.2.2.2.1)), (q_th_to, .inl (cI, 25, .inl o41.2.2.2.2.2))]) (wr := [(q_th_told, .inl (cI, 54, .inl th_told)), (q_th_from, .inl (cI, 25, .inl o41.2.2.2.2.1)), (q_th_to, .inl (cI, 25, .inl o41.2.2.2.2.2))]) S0 hK hN hA hP hD hS (kX8_backs l dC dI cI q_th q_th_now q_th_aside _ (.ref q_th_told) (x_th_text) th_letters th_at (x_th_read) th_isMore th_told0 (.ref q_th_from) (.ref q_th_to) (x_th_undone) th_undos o41.2.1 o41.2.2.1 th_first th_second (x_th_seenCell) (x_th_seenNight) th_seens th_above th_below (x_th_kept) th_keeps o41.2.2.2.1 o27 N o58 hF1) (cwV 0 hts gX8_decides_X8_backs rfl rfl rfl ⟨rfl, hdX8_backs⟩ ⟨Nat.le_of_ble_eq_true rfl, Nat.le_of_ble_eq_true rfl⟩) [0, 2, 1] [3, 4, 5] [3, 5, 4, 0, 1, 2] rfl rfl rfl rfl 0 8 rfl rfl rfl rfl hl.1 rfl (Nat.le_of_ble_eq_true rfl) dX8_decides_58 (fun H locs hP hD hS => ?_)
            refine lv_iinc (v := v3_9 + (nI 1)) (lv' := [(3, .int (v3_9 + (nI 1))), (2, .int (v2_9 ||| s1_55)), (0, .ref q_th), (1, .int o1.1)]) hx hb dX8_decides_61 hl (k := 3) rfl rfl (by decide) rfl (fun ls hl => ?_)
            refine lv_goto (tgt := 9) hx hb dX8_decides_64 (by decide) ?_
            exact ih_9 (v2_9 ||| s1_55) (v3_9 + (nI 1)) o41.2.1 o41.2.2.1 o27 o58 o41.2.2.2.2.1 o41.2.2.2.2.2 hF _ _ _ hP hD hS (lv_sub hl [2, 3, 1, 0] rfl)
          refine lv_icmp_ne (tgt := 52) hx hb dX8_decides_45 (by decide) (fun hc => ?_) (fun hc => ?_)
          · have hF := ng_f hc hF
            refine lv_iconst (v := (nI 1)) hx hb dX8_decides_52 (by decide) ?_
            refine lv_iload_n hx hb dX8_decides_53 rfl (lv_at hl 3 rfl) ?_
            refine lv_ishl hx hb dX8_decides_54 ?_
            exact B_55 ((nI 1) <<< (v3_9 &&& 31)) hF _ _ _ hP hD hS (lv_sub hl [0, 1, 3] rfl)
          · have hF := ng_t hc hF
            refine lv_iconst (v := (nI 0)) hx hb dX8_decides_48 (by decide) ?_
            refine lv_goto (tgt := 55) hx hb dX8_decides_49 (by decide) ?_
            exact B_55 (nI 0) hF _ _ _ hP hD hS (lv_sub hl [0, 1, 3] rfl)
  refine lv_istore_n (lv' := [(3, .int (nI 0)), (2, .int (nI 0)), (1, .int o1.1), (0, .ref q_th)]) hx hb dX8_decides_8 rfl hl (by decide) rfl (fun ls hl => ?_)
  exact B_9 N (nI 0) (nI 0) o1.2.1 o1.2.2.1 o1.2.2.2.1 o1.2.2.2.2.1 o1.2.2.2.2.2.1 o1.2.2.2.2.2.2 hF _ _ _ hP hD hS (lv_sub hl [3, 2, 1, 0] rfl)
theorem hdX8_latest : yX8_latest.cls ≠ "java/lang/invoke/MethodHandle" ∧ yX8_latest.cls ≠ "java/lang/invoke/VarHandle" ∧ (parseMethodDescriptor yX8_latest.desc).map (fun d => d.parameters.length) = some 1 := by decide +kernel
set_option maxHeartbeats 40000000 in
set_option maxRecDepth 100000 in
theorem kX8_latest (l : Launch) (dC : Nat → ClassId) (dI : Nat → Nat → Nat) (cI : ClassId) (q_th : Nat) (q_th_aside : Nat) (q_th_now : Nat) (q_th_told : Nat) (q_th_from : Nat) (q_th_to : Nat) (sz : Nat) (x_th_text : Value) (th_letters : Int32) (th_at : Int32) (x_th_read : Value) (th_isMore : Int32) (th_told0 : Int32) (x_th_undone : Value) (th_undos : Int32) (th_beganOn : Int32) (th_beganIn : Int32) (th_first : Int32) (th_second : Int32) (x_th_seenCell : Value) (x_th_seenNight : Value) (th_seens : Int32) (th_above : Int32) (th_below : Int32) (x_th_kept : Value) (th_keeps : Int32) (th_aside : Nat → Int32) (th_now : Nat → Int32) (th_told : Nat → Int32) (th_from : Nat → Int32) (th_to : Nat → Int32) (p1 : Int32) (N : Nat) (o : Int32 × Int32 × Int32 × (Nat → Int32) × (Nat → Int32) × (Nat → Int32) × (Nat → Int32)) (hF : fX8_latest N th_beganOn th_beganIn p1 th_aside th_now th_told th_from th_to = some o) : nx_I l yX8_latest wsX8_latest ({ frames := 7, cells := 0, slots := 0, locals := 165 } : Room) (dC, dI) cI [.ref q_th, .int p1] [(q_th, .inr (8, [.ref q_th_told, .ref q_th_now, x_th_text, .int th_letters, .int th_at, x_th_read, .int th_isMore, .int th_told0, .ref q_th_from, .ref q_th_to, x_th_undone, .int th_undos, .ref q_th_aside, .int th_beganOn, .int th_beganIn, .int th_first, .int th_second, x_th_seenCell, x_th_seenNight, .int th_seens, .int th_above, .int th_below, x_th_kept, .int th_keeps])), (q_th_aside, .inl (cI, 28, .inl th_aside)), (q_th_now, .inl (cI, 28, .inl th_now)), (q_th_told, .inl (cI, 54, .inl th_told)), (q_th_from, .inl (cI, 25, .inl th_from)), (q_th_to, .inl (cI, 25, .inl th_to))] sz o.1 [(q_th, .inr (8, [.ref q_th_told, .ref q_th_now, x_th_text, .int th_letters, .int th_at, x_th_read, .int th_isMore, .int th_told0, .ref q_th_from, .ref q_th_to, x_th_undone, .int th_undos, .ref q_th_aside, .int o.2.1, .int o.2.2.1, .int th_first, .int th_second, x_th_seenCell, x_th_seenNight, .int th_seens, .int th_above, .int th_below, x_th_kept, .int th_keeps])), (q_th_aside, .inl (cI, 28, .inl o.2.2.2.1)), (q_th_now, .inl (cI, 28, .inl o.2.2.2.2.1)), (q_th_told, .inl (cI, 54, .inl th_told)), (q_th_from, .inl (cI, 25, .inl o.2.2.2.2.2.1)), (q_th_to, .inl (cI, 25, .inl o.2.2.2.2.2.2))] := by
  refine nx_int (cc := cX8_latest) (maxL := 7) (by decide) rfl (Nat.le_of_ble_eq_true rfl) ?_
  intro p e s m args below meth c Q A S0 hK hN hA ret0 hP hD hS ls hl
  have S0 : CallFix p m c cX8_latest 7 s args wsX8_latest RX8 := S0
  have hx := S0.1
  have hb := S0.2.1
  have hown := S0.2.2.2.1
  have hts := S0.2.2.2.2
  have hf_13 := hts (.fieldLink RX8 13 "SnailsYearModel" "now" "[I") (by decide +kernel)
  have hin_X8 : ∀ w ∈ wsX80, w ∈ wsX8_latest := by decide +kernel
  have hl : lv_has ls 7 [(0, .ref q_th), (1, .int p1)] := hl
  have hret : ∀ (r0 : Int32) (y0 : Int32) (y1 : Int32) (y2 : Nat → Int32) (y3 : Nat → Int32) (y4 : Nat → Int32) (y5 : Nat → Int32) (H : Heap) (locs : List Loc) (ls : Array Slot) (pc : Nat), some (r0, y0, y1, y2, y3, y4, y5) = some o → decode cX8_latest pc = .ok (.ireturn, 1) → va_P (dC, dI) vwCl [(q_th, .inr (8, [.ref q_th_told, .ref q_th_now, x_th_text, .int th_letters, .int th_at, x_th_read, .int th_isMore, .int th_told0, .ref q_th_from, .ref q_th_to, x_th_undone, .int th_undos, .ref q_th_aside, .int y0, .int y1, .int th_first, .int th_second, x_th_seenCell, x_th_seenNight, .int th_seens, .int th_above, .int th_below, x_th_kept, .int th_keeps])), (q_th_aside, .inl (cI, 28, .inl y2)), (q_th_now, .inl (cI, 28, .inl y3)), (q_th_told, .inl (cI, 54, .inl th_told)), (q_th_from, .inl (cI, 25, .inl y4)), (q_th_to, .inl (cI, 25, .inl y5))] H → va_D A [(q_th, .inr (8, [.ref q_th_told, .ref q_th_now, x_th_text, .int th_letters, .int th_at, x_th_read, .int th_isMore, .int th_told0, .ref q_th_from, .ref q_th_to, x_th_undone, .int th_undos, .ref q_th_aside, .int y0, .int y1, .int th_first, .int th_second, x_th_seenCell, x_th_seenNight, .int th_seens, .int th_above, .int th_below, x_th_kept, .int th_keeps])), (q_th_aside, .inl (cI, 28, .inl y2)), (q_th_now, .inl (cI, 28, .inl y3)), (q_th_told, .inl (cI, 54, .inl th_told)), (q_th_from, .inl (cI, 25, .inl y4)), (q_th_to, .inl (cI, 25, .inl y5))] → va_S A s.heap H locs → W p l e ({ frames := 7, cells := 0, slots := 0, locals := 165 } : Room) s m args below meth c H locs 0 0 Q (F0 m pc ls [.int r0]) := by
    intro r0 y0 y1 y2 y3 y4 y5 H locs ls pc ho hd hP hD hS
    cases ho
    exact ret0 H locs ls pc hd hP hD hS
  rw [fX8_latest_e] at hF
  refine lv_iload_n hx hb dX8_latest_0 rfl (lv_at hl 1 rfl) ?_
  refine lv_i2l hx hb dX8_latest_1 rfl ?_
  refine lv_lconst (v := (lN 0)) hx hb dX8_latest_2 (by decide) ?_
  refine lv_lconst (v := (lN 1)) hx hb dX8_latest_3 (by decide) ?_
  obtain ⟨o4, hF1, hF⟩ := ng_b hF
  refine nx_callSi (As := [.long p1.toInt64, .long (lN 0), .long (lN 1)]) (rest := []) (W1 := [(q_th, .inr (8, [.ref q_th_told, .ref q_th_now, x_th_text, .int th_letters, .int th_at, x_th_read, .int th_isMore, .int th_told0, .ref q_th_from, .ref q_th_to, x_th_undone, .int th_undos, .ref q_th_aside, .int th_beganOn, .int th_beganIn, .int th_first, .int th_second, x_th_seenCell, x_th_seenNight, .int th_seens, .int th_above, .int th_below, x_th_kept, .int th_keeps])), (q_th_aside, .inl (cI, 28, .inl th_aside)), (q_th_now, .inl (cI, 28, .inl th_now)), (q_th_told, .inl (cI, 54, .inl th_told)), (q_th_from, .inl (cI, 25, .inl th_from)), (q_th_to, .inl (cI, 25, .inl th_to))]) (wr := [(q_th, .inr (8, [.ref q_th_told, .ref q_th_now, x_th_text, .int th_letters, .int th_at, x_th_read, .int th_isMore, .int th_told0, .ref q_th_from, .ref q_th_to, x_th_undone, .int th_undos, .ref q_th_aside, .int th_beganOn, .int th_beganIn, .int th_first, .int th_second, x_th_seenCell, x_th_seenNight, .int th_seens, .int th_above, .int th_below, x_th_kept, .int th_keeps])), (q_th_aside, .inl (cI, 28, .inl th_aside)), (q_th_now, .inl (cI, 28, .inl th_now)), (q_th_told, .inl (cI, 54, .inl th_told)), (q_th_from, .inl (cI, 25, .inl th_from)), (q_th_to, .inl (cI, 25, .inl th_to))]) S0 hK hN hA hP hD hS (kX8_in l dC dI cI _ p1.toInt64 (lN 0) (lN 1) N o4 hF1) (va_cwS 3 hts gX8_latest_X8_in rfl rfl rfl hdX8_in ⟨Nat.le_of_ble_eq_true rfl, Nat.le_of_ble_eq_true rfl⟩) [] [0, 1, 2, 3, 4, 5] [0, 1, 2, 3, 4, 5] rfl rfl rfl rfl rfl hl.1 rfl (Nat.le_of_ble_eq_true rfl) dX8_latest_4 (fun H locs hP hD hS => ?_)
  refine lv_if_ne (tgt := 12) hx hb dX8_latest_7 (by decide) (fun hc => ?_) (fun hc => ?_)
  · have hF := ng_f hc hF
    refine lv_bipush (v := (-4 : Int32)) hx hb dX8_latest_12 (by decide) ?_
    refine lv_istore_n (lv' := [(2, .int (-4 : Int32)), (0, .ref q_th), (1, .int p1)]) hx hb dX8_latest_14 rfl hl (by decide) rfl (fun ls hl => ?_)
    refine lv_bipush (v := (-4 : Int32)) hx hb dX8_latest_15 (by decide) ?_
    refine lv_istore_n (lv' := [(3, .int (-4 : Int32)), (2, .int (-4 : Int32)), (0, .ref q_th), (1, .int p1)]) hx hb dX8_latest_17 rfl hl (by decide) rfl (fun ls hl => ?_)
    refine lv_aload_n hx hb dX8_latest_18 rfl (lv_at hl 2 rfl) ?_
    obtain ⟨o19, hF1, hF⟩ := ng_b hF
    refine nx_callVv (As := []) (rest := []) (W1 := [(q_th, .inr (8, [.ref q_th_told, .ref q_th_now, x_th_text, .int th_letters, .int th_at, x_th_read, .int th_isMore, .int th_told0, .ref q_th_from, .ref q_th_to, x_th_undone, .int th_undos, .ref q_th_aside, .int th_beganOn, .int th_beganIn, .int th_first, .int th_second, x_th_seenCell, x_th_seenNight, .int th_seens, .int th_above, .int th_below, x_th_kept, .int th_keeps])), (q_th_aside, .inl (cI, 28, .inl o19)), (q_th_now, .inl (cI, 28, .inl th_now)), (q_th_told, .inl (cI, 54, .inl th_told)), (q_th_from, .inl (cI, 25, .inl th_from)), (q_th_to, .inl (cI, 25, .inl th_to))]) (wr := [(q_th_told, .inl (cI, 54, .inl th_told)), (q_th_from, .inl (cI, 25, .inl th_from)), (q_th_to, .inl (cI, 25, .inl th_to))]) S0 hK hN hA hP hD hS (kX8_asides l dC dI cI q_th q_th_aside q_th_now _ (.ref q_th_told) (x_th_text) th_letters th_at (x_th_read) th_isMore th_told0 (.ref q_th_from) (.ref q_th_to) (x_th_undone) th_undos th_beganOn th_beganIn th_first th_second (x_th_seenCell) (x_th_seenNight) th_seens th_above th_below (x_th_kept) th_keeps th_aside th_now N o19 hF1) (cwV 0 hts gX8_latest_X8_asides rfl rfl rfl ⟨rfl, hdX8_asides⟩ ⟨Nat.le_of_ble_eq_true rfl, Nat.le_of_ble_eq_true rfl⟩) [0, 1, 2] [3, 4, 5] [3, 4, 5, 0, 1, 2] rfl rfl rfl rfl 0 8 rfl rfl rfl rfl hl.1 rfl (Nat.le_of_ble_eq_true rfl) dX8_latest_19 (fun H locs hP hD hS => ?_)
    refine lv_iconst (v := (nI 0)) hx hb dX8_latest_22 (by decide) ?_
    have B_25 : ∀ (n_25 : Nat) (v2_25 : Int32) (v3_25 : Int32) (v4_25 : Int32) (th_beganOn_25 : Int32) (th_beganIn_25 : Int32) (th_now_25 : Nat → Int32) (th_from_25 : Nat → Int32) (th_to_25 : Nat → Int32), fX8_latest_25 N p1 th_told o19 n_25 v2_25 v3_25 v4_25 th_beganOn_25 th_beganIn_25 th_now_25 th_from_25 th_to_25 = some o → ∀ (H : Heap) (locs : List Loc) (ls : Array Slot), va_P (dC, dI) vwCl [(q_th, .inr (8, [.ref q_th_told, .ref q_th_now, x_th_text, .int th_letters, .int th_at, x_th_read, .int th_isMore, .int th_told0, .ref q_th_from, .ref q_th_to, x_th_undone, .int th_undos, .ref q_th_aside, .int th_beganOn_25, .int th_beganIn_25, .int th_first, .int th_second, x_th_seenCell, x_th_seenNight, .int th_seens, .int th_above, .int th_below, x_th_kept, .int th_keeps])), (q_th_aside, .inl (cI, 28, .inl o19)), (q_th_now, .inl (cI, 28, .inl th_now_25)), (q_th_told, .inl (cI, 54, .inl th_told)), (q_th_from, .inl (cI, 25, .inl th_from_25)), (q_th_to, .inl (cI, 25, .inl th_to_25))] H → va_D A [(q_th, .inr (8, [.ref q_th_told, .ref q_th_now, x_th_text, .int th_letters, .int th_at, x_th_read, .int th_isMore, .int th_told0, .ref q_th_from, .ref q_th_to, x_th_undone, .int th_undos, .ref q_th_aside, .int th_beganOn_25, .int th_beganIn_25, .int th_first, .int th_second, x_th_seenCell, x_th_seenNight, .int th_seens, .int th_above, .int th_below, x_th_kept, .int th_keeps])), (q_th_aside, .inl (cI, 28, .inl o19)), (q_th_now, .inl (cI, 28, .inl th_now_25)), (q_th_told, .inl (cI, 54, .inl th_told)), (q_th_from, .inl (cI, 25, .inl th_from_25)), (q_th_to, .inl (cI, 25, .inl th_to_25))] → va_S A s.heap H locs → lv_has ls 7 [(0, .ref q_th), (1, .int p1), (2, .int v2_25), (3, .int v3_25), (4, .int v4_25)] → W p l e ({ frames := 7, cells := 0, slots := 0, locals := 165 } : Room) s m args below meth c H locs 0 0 Q (F0 m 25 ls []) := by
      intro n_25
      induction n_25 with
      | zero =>
        intro v2_25 v3_25 v4_25 th_beganOn_25 th_beganIn_25 th_now_25 th_from_25 th_to_25 hF
        rw [fX8_latest_25_z] at hF
        cases hF
      | succ n_25 ih_25 =>
        intro v2_25 v3_25 v4_25 th_beganOn_25 th_beganIn_25 th_now_25 th_from_25 th_to_25 hF H locs ls hP hD hS hl
        rw [fX8_latest_25_s] at hF
        refine lv_iload hx hb dX8_latest_25 (lv_at hl 4 rfl) ?_
        refine lv_aload_n hx hb dX8_latest_27 rfl (lv_at hl 0 rfl) ?_
        obtain ⟨o28, hF1, hF⟩ := ng_b hF
        refine nx_callVi (As := []) (rest := [.int v4_25]) (W1 := [(q_th, .inr (8, [.ref q_th_told, .ref q_th_now, x_th_text, .int th_letters, .int th_at, x_th_read, .int th_isMore, .int th_told0, .ref q_th_from, .ref q_th_to, x_th_undone, .int th_undos, .ref q_th_aside, .int th_beganOn_25, .int th_beganIn_25, .int th_first, .int th_second, x_th_seenCell, x_th_seenNight, .int th_seens, .int th_above, .int th_below, x_th_kept, .int th_keeps])), (q_th_aside, .inl (cI, 28, .inl o19)), (q_th_now, .inl (cI, 28, .inl th_now_25)), (q_th_told, .inl (cI, 54, .inl th_told)), (q_th_from, .inl (cI, 25, .inl th_from_25)), (q_th_to, .inl (cI, 25, .inl th_to_25))]) (wr := [(q_th_aside, .inl (cI, 28, .inl o19)), (q_th_now, .inl (cI, 28, .inl th_now_25)), (q_th_from, .inl (cI, 25, .inl th_from_25)), (q_th_to, .inl (cI, 25, .inl th_to_25))]) S0 hK hN hA hP hD hS (kX8_cells l dC dI cI q_th q_th_told _ (.ref q_th_now) (x_th_text) th_letters th_at (x_th_read) th_isMore th_told0 (.ref q_th_from) (.ref q_th_to) (x_th_undone) th_undos (.ref q_th_aside) th_beganOn_25 th_beganIn_25 th_first th_second (x_th_seenCell) (x_th_seenNight) th_seens th_above th_below (x_th_kept) th_keeps th_told N o28 hF1) (cwV 0 hts gX8_latest_X8_cells rfl rfl rfl ⟨rfl, hdX8_cells⟩ ⟨Nat.le_of_ble_eq_true rfl, Nat.le_of_ble_eq_true rfl⟩) [0, 3] [1, 2, 4, 5] [4, 0, 1, 5, 2, 3] rfl rfl rfl rfl 0 8 rfl rfl rfl rfl hl.1 rfl (Nat.le_of_ble_eq_true rfl) dX8_latest_28 (fun H locs hP hD hS => ?_)
        refine lv_icmp_ge (tgt := 119) hx hb dX8_latest_31 (by decide) (fun hc => ?_) (fun hc => ?_)
        · have hF := ng_t hc hF
          refine lv_iload_n hx hb dX8_latest_119 rfl (lv_at hl 1 rfl) ?_
          refine lv_if_ne (tgt := 127) hx hb dX8_latest_120 (by decide) (fun hc => ?_) (fun hc => ?_)
          · have hF := ng_f hc hF
            refine lv_iload_n hx hb dX8_latest_127 rfl (lv_at hl 3 rfl) ?_
            exact hret v3_25 th_beganOn_25 th_beganIn_25 o19 th_now_25 th_from_25 th_to_25 _ _ _ _ hF dX8_latest_128 hP hD hS
          · have hF := ng_t hc hF
            refine lv_iload_n hx hb dX8_latest_123 rfl (lv_at hl 2 rfl) ?_
            refine lv_goto (tgt := 128) hx hb dX8_latest_124 (by decide) ?_
            exact hret v2_25 th_beganOn_25 th_beganIn_25 o19 th_now_25 th_from_25 th_to_25 _ _ _ _ hF dX8_latest_128 hP hD hS
        · have hF := ng_f hc hF
          refine lv_aload_n hx hb dX8_latest_34 rfl (lv_at hl 0 rfl) ?_
          refine lv_iload hx hb dX8_latest_35 (lv_at hl 4 rfl) ?_
          obtain ⟨o37, hF1, hF⟩ := ng_b hF
          refine nx_callVi (As := [.int v4_25]) (rest := []) (W1 := [(q_th, .inr (8, [.ref q_th_told, .ref q_th_now, x_th_text, .int th_letters, .int th_at, x_th_read, .int th_isMore, .int th_told0, .ref q_th_from, .ref q_th_to, x_th_undone, .int th_undos, .ref q_th_aside, .int th_beganOn_25, .int th_beganIn_25, .int th_first, .int th_second, x_th_seenCell, x_th_seenNight, .int th_seens, .int th_above, .int th_below, x_th_kept, .int th_keeps])), (q_th_aside, .inl (cI, 28, .inl o19)), (q_th_now, .inl (cI, 28, .inl th_now_25)), (q_th_told, .inl (cI, 54, .inl th_told)), (q_th_from, .inl (cI, 25, .inl th_from_25)), (q_th_to, .inl (cI, 25, .inl th_to_25))]) (wr := [(q_th_aside, .inl (cI, 28, .inl o19)), (q_th_told, .inl (cI, 54, .inl th_told)), (q_th_from, .inl (cI, 25, .inl th_from_25)), (q_th_to, .inl (cI, 25, .inl th_to_25))]) S0 hK hN hA hP hD hS (kX8_mayLay l dC dI cI q_th q_th_now _ (.ref q_th_told) (x_th_text) th_letters th_at (x_th_read) th_isMore th_told0 (.ref q_th_from) (.ref q_th_to) (x_th_undone) th_undos (.ref q_th_aside) th_beganOn_25 th_beganIn_25 th_first th_second (x_th_seenCell) (x_th_seenNight) th_seens th_above th_below (x_th_kept) th_keeps th_now_25 v4_25 N o37 hF1) (cwV 1 hts gX8_latest_X8_mayLay rfl rfl rfl ⟨rfl, hdX8_mayLay⟩ ⟨Nat.le_of_ble_eq_true rfl, Nat.le_of_ble_eq_true rfl⟩) [0, 2] [1, 3, 4, 5] [4, 0, 5, 1, 2, 3] rfl rfl rfl rfl 0 8 rfl rfl rfl rfl hl.1 rfl (Nat.le_of_ble_eq_true rfl) dX8_latest_37 (fun H locs hP hD hS => ?_)
          refine lv_if_eq (tgt := 113) hx hb dX8_latest_40 (by decide) (fun hc => ?_) (fun hc => ?_)
          · have hF := ng_t hc hF
            refine lv_iinc (v := v4_25 + (nI 1)) (lv' := [(4, .int (v4_25 + (nI 1))), (0, .ref q_th), (1, .int p1), (2, .int v2_25), (3, .int v3_25)]) hx hb dX8_latest_113 hl (k := 4) rfl rfl (by decide) rfl (fun ls hl => ?_)
            refine lv_goto (tgt := 25) hx hb dX8_latest_116 (by decide) ?_
            exact ih_25 v2_25 v3_25 (v4_25 + (nI 1)) th_beganOn_25 th_beganIn_25 th_now_25 th_from_25 th_to_25 hF _ _ _ hP hD hS (lv_sub hl [1, 2, 3, 4, 0] rfl)
          · have hF := ng_f hc hF
            refine lv_aload_n hx hb dX8_latest_43 rfl (lv_at hl 0 rfl) ?_
            refine nx_get S0 hK hP 0 1 hin_X8 hf_13 rfl rfl (by decide) rfl rfl dX8_latest_44 ?_
            refine lv_iconst (v := (nI 3)) hx hb dX8_latest_47 (by decide) ?_
            refine lv_iload hx hb dX8_latest_48 (lv_at hl 4 rfl) ?_
            refine lv_iadd hx hb dX8_latest_50 ?_
            refine lv_iconst (v := (nI 2)) hx hb dX8_latest_51 (by decide) ?_
            have hg := ng_p hF
            have hF := ng_x hF
            refine nx_iast S0 hK hP hD hS 2 rfl hg dX8_latest_52 (W1 := [(q_th, .inr (8, [.ref q_th_told, .ref q_th_now, x_th_text, .int th_letters, .int th_at, x_th_read, .int th_isMore, .int th_told0, .ref q_th_from, .ref q_th_to, x_th_undone, .int th_undos, .ref q_th_aside, .int th_beganOn_25, .int th_beganIn_25, .int th_first, .int th_second, x_th_seenCell, x_th_seenNight, .int th_seens, .int th_above, .int th_below, x_th_kept, .int th_keeps])), (q_th_aside, .inl (cI, 28, .inl o19)), (q_th_now, .inl (cI, 28, .inl (upd th_now_25 (((nI 3) + v4_25).toNatClampNeg) (nI 2)))), (q_th_told, .inl (cI, 54, .inl th_told)), (q_th_from, .inl (cI, 25, .inl th_from_25)), (q_th_to, .inl (cI, 25, .inl th_to_25))]) rfl (fun H locs hP hD hS => ?_)
            refine lv_aload_n hx hb dX8_latest_53 rfl (lv_at hl 0 rfl) ?_
            obtain ⟨o54, hF1, hF⟩ := ng_b hF
            refine nx_callVi (As := []) (rest := []) (W1 := [(q_th, .inr (8, [.ref q_th_told, .ref q_th_now, x_th_text, .int th_letters, .int th_at, x_th_read, .int th_isMore, .int th_told0, .ref q_th_from, .ref q_th_to, x_th_undone, .int th_undos, .ref q_th_aside, .int o54.2.1, .int o54.2.2.1, .int th_first, .int th_second, x_th_seenCell, x_th_seenNight, .int th_seens, .int th_above, .int th_below, x_th_kept, .int th_keeps])), (q_th_aside, .inl (cI, 28, .inl o19)), (q_th_now, .inl (cI, 28, .inl o54.2.2.2.1)), (q_th_told, .inl (cI, 54, .inl th_told)), (q_th_from, .inl (cI, 25, .inl o54.2.2.2.2.1)), (q_th_to, .inl (cI, 25, .inl o54.2.2.2.2.2))]) (wr := [(q_th_aside, .inl (cI, 28, .inl o19))]) S0 hK hN hA hP hD hS (kX8_beginsSo l dC dI cI q_th q_th_now q_th_told q_th_from q_th_to _ (x_th_text) th_letters th_at (x_th_read) th_isMore th_told0 (x_th_undone) th_undos (.ref q_th_aside) th_beganOn_25 th_beganIn_25 th_first th_second (x_th_seenCell) (x_th_seenNight) th_seens th_above th_below (x_th_kept) th_keeps (upd th_now_25 (((nI 3) + v4_25).toNatClampNeg) (nI 2)) th_told th_from_25 th_to_25 N o54 hF1) (cwV 0 hts gX8_latest_X8_beginsSo rfl rfl rfl ⟨rfl, hdX8_beginsSo⟩ ⟨Nat.le_of_ble_eq_true rfl, Nat.le_of_ble_eq_true rfl⟩) [0, 2, 3, 4, 5] [1] [1, 0, 2, 3, 4, 5] rfl rfl rfl rfl 0 8 rfl rfl rfl rfl hl.1 rfl (Nat.le_of_ble_eq_true rfl) dX8_latest_54 (fun H locs hP hD hS => ?_)
            refine lv_istore (lv' := [(5, .int o54.1), (0, .ref q_th), (1, .int p1), (2, .int v2_25), (3, .int v3_25), (4, .int v4_25)]) hx hb dX8_latest_57 hl (by decide) rfl (fun ls hl => ?_)
            refine lv_aload_n hx hb dX8_latest_59 rfl (lv_at hl 1 rfl) ?_
            obtain ⟨o60, hF1, hF⟩ := ng_b hF
            refine nx_callVv (As := []) (rest := []) (W1 := [(q_th, .inr (8, [.ref q_th_told, .ref q_th_now, x_th_text, .int th_letters, .int th_at, x_th_read, .int th_isMore, .int th_told0, .ref q_th_from, .ref q_th_to, x_th_undone, .int th_undos, .ref q_th_aside, .int o54.2.1, .int o54.2.2.1, .int th_first, .int th_second, x_th_seenCell, x_th_seenNight, .int th_seens, .int th_above, .int th_below, x_th_kept, .int th_keeps])), (q_th_aside, .inl (cI, 28, .inl o19)), (q_th_now, .inl (cI, 28, .inl o60)), (q_th_told, .inl (cI, 54, .inl th_told)), (q_th_from, .inl (cI, 25, .inl o54.2.2.2.2.1)), (q_th_to, .inl (cI, 25, .inl o54.2.2.2.2.2))]) (wr := [(q_th_told, .inl (cI, 54, .inl th_told)), (q_th_from, .inl (cI, 25, .inl o54.2.2.2.2.1)), (q_th_to, .inl (cI, 25, .inl o54.2.2.2.2.2))]) S0 hK hN hA hP hD hS (kX8_backs l dC dI cI q_th q_th_now q_th_aside _ (.ref q_th_told) (x_th_text) th_letters th_at (x_th_read) th_isMore th_told0 (.ref q_th_from) (.ref q_th_to) (x_th_undone) th_undos o54.2.1 o54.2.2.1 th_first th_second (x_th_seenCell) (x_th_seenNight) th_seens th_above th_below (x_th_kept) th_keeps o54.2.2.2.1 o19 N o60 hF1) (cwV 0 hts gX8_latest_X8_backs rfl rfl rfl ⟨rfl, hdX8_backs⟩ ⟨Nat.le_of_ble_eq_true rfl, Nat.le_of_ble_eq_true rfl⟩) [0, 2, 1] [3, 4, 5] [3, 5, 4, 0, 1, 2] rfl rfl rfl rfl 0 8 rfl rfl rfl rfl hl.1 rfl (Nat.le_of_ble_eq_true rfl) dX8_latest_60 (fun H locs hP hD hS => ?_)
            refine lv_iload hx hb dX8_latest_63 (lv_at hl 0 rfl) ?_
            refine lv_bipush (v := (-4 : Int32)) hx hb dX8_latest_65 (by decide) ?_
            have B_87 : ∀ (s0_87 : Int32), fX8_latest_87 v2_25 v3_25 v4_25 o54 o60 s0_87 (fX8_latest_25 N p1 th_told o19 n_25) = some o → ∀ (H : Heap) (locs : List Loc) (ls : Array Slot), va_P (dC, dI) vwCl [(q_th, .inr (8, [.ref q_th_told, .ref q_th_now, x_th_text, .int th_letters, .int th_at, x_th_read, .int th_isMore, .int th_told0, .ref q_th_from, .ref q_th_to, x_th_undone, .int th_undos, .ref q_th_aside, .int o54.2.1, .int o54.2.2.1, .int th_first, .int th_second, x_th_seenCell, x_th_seenNight, .int th_seens, .int th_above, .int th_below, x_th_kept, .int th_keeps])), (q_th_aside, .inl (cI, 28, .inl o19)), (q_th_now, .inl (cI, 28, .inl o60)), (q_th_told, .inl (cI, 54, .inl th_told)), (q_th_from, .inl (cI, 25, .inl o54.2.2.2.2.1)), (q_th_to, .inl (cI, 25, .inl o54.2.2.2.2.2))] H → va_D A [(q_th, .inr (8, [.ref q_th_told, .ref q_th_now, x_th_text, .int th_letters, .int th_at, x_th_read, .int th_isMore, .int th_told0, .ref q_th_from, .ref q_th_to, x_th_undone, .int th_undos, .ref q_th_aside, .int o54.2.1, .int o54.2.2.1, .int th_first, .int th_second, x_th_seenCell, x_th_seenNight, .int th_seens, .int th_above, .int th_below, x_th_kept, .int th_keeps])), (q_th_aside, .inl (cI, 28, .inl o19)), (q_th_now, .inl (cI, 28, .inl o60)), (q_th_told, .inl (cI, 54, .inl th_told)), (q_th_from, .inl (cI, 25, .inl o54.2.2.2.2.1)), (q_th_to, .inl (cI, 25, .inl o54.2.2.2.2.2))] → va_S A s.heap H locs → lv_has ls 7 [(0, .ref q_th), (1, .int p1), (2, .int v2_25), (3, .int v3_25), (4, .int v4_25), (5, .int o54.1)] → W p l e ({ frames := 7, cells := 0, slots := 0, locals := 165 } : Room) s m args below meth c H locs 0 0 Q (F0 m 87 ls [.int s0_87]) := by
              intro s0_87 hF H locs ls hP hD hS hl
              rw [fX8_latest_87_e] at hF
              refine lv_istore (lv' := [(6, .int s0_87), (0, .ref q_th), (1, .int p1), (2, .int v2_25), (3, .int v3_25), (4, .int v4_25), (5, .int o54.1)]) hx hb dX8_latest_87 hl (by decide) rfl (fun ls hl => ?_)
              refine lv_iload hx hb dX8_latest_89 (lv_at hl 0 rfl) ?_
              have B_100 : ∀ (s0_100 : Int32), fX8_latest_100 v3_25 v4_25 o54 o60 s0_87 s0_100 (fX8_latest_25 N p1 th_told o19 n_25) = some o → ∀ (H : Heap) (locs : List Loc) (ls : Array Slot), va_P (dC, dI) vwCl [(q_th, .inr (8, [.ref q_th_told, .ref q_th_now, x_th_text, .int th_letters, .int th_at, x_th_read, .int th_isMore, .int th_told0, .ref q_th_from, .ref q_th_to, x_th_undone, .int th_undos, .ref q_th_aside, .int o54.2.1, .int o54.2.2.1, .int th_first, .int th_second, x_th_seenCell, x_th_seenNight, .int th_seens, .int th_above, .int th_below, x_th_kept, .int th_keeps])), (q_th_aside, .inl (cI, 28, .inl o19)), (q_th_now, .inl (cI, 28, .inl o60)), (q_th_told, .inl (cI, 54, .inl th_told)), (q_th_from, .inl (cI, 25, .inl o54.2.2.2.2.1)), (q_th_to, .inl (cI, 25, .inl o54.2.2.2.2.2))] H → va_D A [(q_th, .inr (8, [.ref q_th_told, .ref q_th_now, x_th_text, .int th_letters, .int th_at, x_th_read, .int th_isMore, .int th_told0, .ref q_th_from, .ref q_th_to, x_th_undone, .int th_undos, .ref q_th_aside, .int o54.2.1, .int o54.2.2.1, .int th_first, .int th_second, x_th_seenCell, x_th_seenNight, .int th_seens, .int th_above, .int th_below, x_th_kept, .int th_keeps])), (q_th_aside, .inl (cI, 28, .inl o19)), (q_th_now, .inl (cI, 28, .inl o60)), (q_th_told, .inl (cI, 54, .inl th_told)), (q_th_from, .inl (cI, 25, .inl o54.2.2.2.2.1)), (q_th_to, .inl (cI, 25, .inl o54.2.2.2.2.2))] → va_S A s.heap H locs → lv_has ls 7 [(0, .ref q_th), (1, .int p1), (3, .int v3_25), (4, .int v4_25), (5, .int o54.1), (6, .int s0_87)] → W p l e ({ frames := 7, cells := 0, slots := 0, locals := 165 } : Room) s m args below meth c H locs 0 0 Q (F0 m 100 ls [.int s0_100]) := by
                intro s0_100 hF H locs ls hP hD hS hl
                rw [fX8_latest_100_e] at hF
                refine lv_istore_n (lv' := [(2, .int s0_100), (0, .ref q_th), (1, .int p1), (3, .int v3_25), (4, .int v4_25), (5, .int o54.1), (6, .int s0_87)]) hx hb dX8_latest_100 rfl hl (by decide) rfl (fun ls hl => ?_)
                refine lv_iload hx hb dX8_latest_101 (lv_at hl 6 rfl) ?_
                refine lv_if_eq (tgt := 111) hx hb dX8_latest_103 (by decide) (fun hc => ?_) (fun hc => ?_)
                · have hF := ng_t hc hF
                  refine lv_iload_n hx hb dX8_latest_111 rfl (lv_at hl 3 rfl) ?_
                  refine lv_istore_n (lv' := [(3, .int v3_25), (2, .int s0_100), (0, .ref q_th), (1, .int p1), (4, .int v4_25), (5, .int o54.1), (6, .int s0_87)]) hx hb dX8_latest_112 rfl hl (by decide) rfl (fun ls hl => ?_)
                  refine lv_iinc (v := v4_25 + (nI 1)) (lv' := [(4, .int (v4_25 + (nI 1))), (3, .int v3_25), (2, .int s0_100), (0, .ref q_th), (1, .int p1), (5, .int o54.1), (6, .int s0_87)]) hx hb dX8_latest_113 hl (k := 4) rfl rfl (by decide) rfl (fun ls hl => ?_)
                  refine lv_goto (tgt := 25) hx hb dX8_latest_116 (by decide) ?_
                  exact ih_25 s0_100 v3_25 (v4_25 + (nI 1)) o54.2.1 o54.2.2.1 o60 o54.2.2.2.2.1 o54.2.2.2.2.2 hF _ _ _ hP hD hS (lv_sub hl [3, 4, 2, 1, 0] rfl)
                · have hF := ng_f hc hF
                  refine lv_iload hx hb dX8_latest_106 (lv_at hl 5 rfl) ?_
                  refine lv_goto (tgt := 112) hx hb dX8_latest_108 (by decide) ?_
                  refine lv_istore_n (lv' := [(3, .int o54.1), (2, .int s0_100), (0, .ref q_th), (1, .int p1), (4, .int v4_25), (5, .int o54.1), (6, .int s0_87)]) hx hb dX8_latest_112 rfl hl (by decide) rfl (fun ls hl => ?_)
                  refine lv_iinc (v := v4_25 + (nI 1)) (lv' := [(4, .int (v4_25 + (nI 1))), (3, .int o54.1), (2, .int s0_100), (0, .ref q_th), (1, .int p1), (5, .int o54.1), (6, .int s0_87)]) hx hb dX8_latest_113 hl (k := 4) rfl rfl (by decide) rfl (fun ls hl => ?_)
                  refine lv_goto (tgt := 25) hx hb dX8_latest_116 (by decide) ?_
                  exact ih_25 s0_100 o54.1 (v4_25 + (nI 1)) o54.2.1 o54.2.2.1 o60 o54.2.2.2.2.1 o54.2.2.2.2.2 hF _ _ _ hP hD hS (lv_sub hl [3, 4, 2, 1, 0] rfl)
              refine lv_if_eq (tgt := 99) hx hb dX8_latest_91 (by decide) (fun hc => ?_) (fun hc => ?_)
              · have hF := ng_t hc hF
                refine lv_iload_n hx hb dX8_latest_99 rfl (lv_at hl 3 rfl) ?_
                exact B_100 v2_25 hF _ _ _ hP hD hS (lv_sub hl [1, 2, 4, 5, 6, 0] rfl)
              · have hF := ng_f hc hF
                refine lv_iload hx hb dX8_latest_94 (lv_at hl 5 rfl) ?_
                refine lv_goto (tgt := 100) hx hb dX8_latest_96 (by decide) ?_
                exact B_100 v4_25 hF _ _ _ hP hD hS (lv_sub hl [1, 2, 4, 5, 6, 0] rfl)
            have B_86 : fX8_latest_86 v2_25 v3_25 v4_25 o54 o60 (fX8_latest_25 N p1 th_told o19 n_25) = some o → ∀ (H : Heap) (locs : List Loc) (ls : Array Slot), va_P (dC, dI) vwCl [(q_th, .inr (8, [.ref q_th_told, .ref q_th_now, x_th_text, .int th_letters, .int th_at, x_th_read, .int th_isMore, .int th_told0, .ref q_th_from, .ref q_th_to, x_th_undone, .int th_undos, .ref q_th_aside, .int o54.2.1, .int o54.2.2.1, .int th_first, .int th_second, x_th_seenCell, x_th_seenNight, .int th_seens, .int th_above, .int th_below, x_th_kept, .int th_keeps])), (q_th_aside, .inl (cI, 28, .inl o19)), (q_th_now, .inl (cI, 28, .inl o60)), (q_th_told, .inl (cI, 54, .inl th_told)), (q_th_from, .inl (cI, 25, .inl o54.2.2.2.2.1)), (q_th_to, .inl (cI, 25, .inl o54.2.2.2.2.2))] H → va_D A [(q_th, .inr (8, [.ref q_th_told, .ref q_th_now, x_th_text, .int th_letters, .int th_at, x_th_read, .int th_isMore, .int th_told0, .ref q_th_from, .ref q_th_to, x_th_undone, .int th_undos, .ref q_th_aside, .int o54.2.1, .int o54.2.2.1, .int th_first, .int th_second, x_th_seenCell, x_th_seenNight, .int th_seens, .int th_above, .int th_below, x_th_kept, .int th_keeps])), (q_th_aside, .inl (cI, 28, .inl o19)), (q_th_now, .inl (cI, 28, .inl o60)), (q_th_told, .inl (cI, 54, .inl th_told)), (q_th_from, .inl (cI, 25, .inl o54.2.2.2.2.1)), (q_th_to, .inl (cI, 25, .inl o54.2.2.2.2.2))] → va_S A s.heap H locs → lv_has ls 7 [(0, .ref q_th), (1, .int p1), (2, .int v2_25), (3, .int v3_25), (4, .int v4_25), (5, .int o54.1)] → W p l e ({ frames := 7, cells := 0, slots := 0, locals := 165 } : Room) s m args below meth c H locs 0 0 Q (F0 m 86 ls []) := by
              intro  hF H locs ls hP hD hS hl
              rw [fX8_latest_86_e] at hF
              refine lv_iconst (v := (nI 0)) hx hb dX8_latest_86 (by decide) ?_
              exact B_87 (nI 0) hF _ _ _ hP hD hS (lv_sub hl [0, 1, 2, 3, 4, 5] rfl)
            refine lv_icmp_eq (tgt := 86) hx hb dX8_latest_67 (by decide) (fun hc => ?_) (fun hc => ?_)
            · have hF := ng_t hc hF
              exact B_86  hF _ _ _ hP hD hS (lv_sub hl [1, 2, 3, 4, 5, 0] rfl)
            · have hF := ng_f hc hF
              refine lv_iload_n hx hb dX8_latest_70 rfl (lv_at hl 4 rfl) ?_
              refine lv_bipush (v := (-4 : Int32)) hx hb dX8_latest_71 (by decide) ?_
              have B_82 : fX8_latest_82 v2_25 v3_25 v4_25 o54 o60 (fX8_latest_25 N p1 th_told o19 n_25) = some o → ∀ (H : Heap) (locs : List Loc) (ls : Array Slot), va_P (dC, dI) vwCl [(q_th, .inr (8, [.ref q_th_told, .ref q_th_now, x_th_text, .int th_letters, .int th_at, x_th_read, .int th_isMore, .int th_told0, .ref q_th_from, .ref q_th_to, x_th_undone, .int th_undos, .ref q_th_aside, .int o54.2.1, .int o54.2.2.1, .int th_first, .int th_second, x_th_seenCell, x_th_seenNight, .int th_seens, .int th_above, .int th_below, x_th_kept, .int th_keeps])), (q_th_aside, .inl (cI, 28, .inl o19)), (q_th_now, .inl (cI, 28, .inl o60)), (q_th_told, .inl (cI, 54, .inl th_told)), (q_th_from, .inl (cI, 25, .inl o54.2.2.2.2.1)), (q_th_to, .inl (cI, 25, .inl o54.2.2.2.2.2))] H → va_D A [(q_th, .inr (8, [.ref q_th_told, .ref q_th_now, x_th_text, .int th_letters, .int th_at, x_th_read, .int th_isMore, .int th_told0, .ref q_th_from, .ref q_th_to, x_th_undone, .int th_undos, .ref q_th_aside, .int o54.2.1, .int o54.2.2.1, .int th_first, .int th_second, x_th_seenCell, x_th_seenNight, .int th_seens, .int th_above, .int th_below, x_th_kept, .int th_keeps])), (q_th_aside, .inl (cI, 28, .inl o19)), (q_th_now, .inl (cI, 28, .inl o60)), (q_th_told, .inl (cI, 54, .inl th_told)), (q_th_from, .inl (cI, 25, .inl o54.2.2.2.2.1)), (q_th_to, .inl (cI, 25, .inl o54.2.2.2.2.2))] → va_S A s.heap H locs → lv_has ls 7 [(0, .ref q_th), (1, .int p1), (2, .int v2_25), (3, .int v3_25), (4, .int v4_25), (5, .int o54.1)] → W p l e ({ frames := 7, cells := 0, slots := 0, locals := 165 } : Room) s m args below meth c H locs 0 0 Q (F0 m 82 ls []) := by
                intro  hF H locs ls hP hD hS hl
                rw [fX8_latest_82_e] at hF
                refine lv_iconst (v := (nI 1)) hx hb dX8_latest_82 (by decide) ?_
                refine lv_goto (tgt := 87) hx hb dX8_latest_83 (by decide) ?_
                exact B_87 (nI 1) hF _ _ _ hP hD hS (lv_sub hl [0, 1, 2, 3, 4, 5] rfl)
              refine lv_icmp_eq (tgt := 82) hx hb dX8_latest_73 (by decide) (fun hc => ?_) (fun hc => ?_)
              · have hF := ng_t hc hF
                exact B_82  hF _ _ _ hP hD hS (lv_sub hl [1, 2, 3, 4, 5, 0] rfl)
              · have hF := ng_f hc hF
                refine lv_iload hx hb dX8_latest_76 (lv_at hl 0 rfl) ?_
                refine lv_iload_n hx hb dX8_latest_78 rfl (lv_at hl 4 rfl) ?_
                refine lv_icmp_le (tgt := 86) hx hb dX8_latest_79 (by decide) (fun hc => ?_) (fun hc => ?_)
                · have hF := ng_t hc hF
                  exact B_86  hF _ _ _ hP hD hS (lv_sub hl [1, 2, 3, 4, 5, 0] rfl)
                · have hF := ng_f hc hF
                  exact B_82  hF _ _ _ hP hD hS (lv_sub hl [1, 2, 3, 4, 5, 0] rfl)
    refine lv_istore (lv' := [(4, .int (nI 0)), (3, .int (-4 : Int32)), (2, .int (-4 : Int32)), (0, .ref q_th), (1, .int p1)]) hx hb dX8_latest_23 hl (by decide) rfl (fun ls hl => ?_)
    exact B_25 N (-4 : Int32) (-4 : Int32) (nI 0) th_beganOn th_beganIn th_now th_from th_to hF _ _ _ hP hD hS (lv_sub hl [3, 4, 2, 1, 0] rfl)
  · have hF := ng_t hc hF
    refine lv_iconst (v := (-1 : Int32)) hx hb dX8_latest_10 (by decide) ?_
    exact hret (-1 : Int32) th_beganOn th_beganIn th_aside th_now th_from th_to _ _ _ _ hF dX8_latest_11 hP hD hS
theorem hdX8_seen : yX8_seen.cls ≠ "java/lang/invoke/MethodHandle" ∧ yX8_seen.cls ≠ "java/lang/invoke/VarHandle" ∧ (parseMethodDescriptor yX8_seen.desc).map (fun d => d.parameters.length) = some 2 := by decide +kernel
set_option maxHeartbeats 40000000 in
set_option maxRecDepth 100000 in
theorem kX8_seen (l : Launch) (dC : Nat → ClassId) (dI : Nat → Nat → Nat) (cI : ClassId) (q_th : Nat) (q_th_told : Nat) (q_th_seenCell : Nat) (q_th_seenNight : Nat) (sz : Nat) (x_th_now : Value) (x_th_text : Value) (th_letters : Int32) (th_at : Int32) (x_th_read : Value) (th_isMore : Int32) (th_told0 : Int32) (x_th_from : Value) (x_th_to : Value) (x_th_undone : Value) (th_undos : Int32) (x_th_aside : Value) (th_beganOn : Int32) (th_beganIn : Int32) (th_first : Int32) (th_second : Int32) (th_seens : Int32) (th_above : Int32) (th_below : Int32) (x_th_kept : Value) (th_keeps : Int32) (th_told : Nat → Int32) (th_seenCell : Nat → Int32) (th_seenNight : Nat → Int32) (p1 : Int32) (p2 : Int32) (N : Nat) (o : Int32 × Int32 × (Nat → Int32) × (Nat → Int32)) (hF : fX8_seen N th_seens p1 p2 th_told th_seenCell th_seenNight = some o) : nx_I l yX8_seen wsX8_seen ({ frames := 2, cells := 0, slots := 0, locals := 46 } : Room) (dC, dI) cI [.ref q_th, .int p1, .int p2] [(q_th, .inr (8, [.ref q_th_told, x_th_now, x_th_text, .int th_letters, .int th_at, x_th_read, .int th_isMore, .int th_told0, x_th_from, x_th_to, x_th_undone, .int th_undos, x_th_aside, .int th_beganOn, .int th_beganIn, .int th_first, .int th_second, .ref q_th_seenCell, .ref q_th_seenNight, .int th_seens, .int th_above, .int th_below, x_th_kept, .int th_keeps])), (q_th_told, .inl (cI, 54, .inl th_told)), (q_th_seenCell, .inl (cI, 8, .inl th_seenCell)), (q_th_seenNight, .inl (cI, 8, .inl th_seenNight))] sz o.1 [(q_th, .inr (8, [.ref q_th_told, x_th_now, x_th_text, .int th_letters, .int th_at, x_th_read, .int th_isMore, .int th_told0, x_th_from, x_th_to, x_th_undone, .int th_undos, x_th_aside, .int th_beganOn, .int th_beganIn, .int th_first, .int th_second, .ref q_th_seenCell, .ref q_th_seenNight, .int o.2.1, .int th_above, .int th_below, x_th_kept, .int th_keeps])), (q_th_told, .inl (cI, 54, .inl th_told)), (q_th_seenCell, .inl (cI, 8, .inl o.2.2.1)), (q_th_seenNight, .inl (cI, 8, .inl o.2.2.2))] := by
  refine nx_int (cc := cX8_seen) (maxL := 3) (by decide) rfl (Nat.le_of_ble_eq_true rfl) ?_
  intro p e s m args below meth c Q A S0 hK hN hA ret0 hP hD hS ls hl
  have S0 : CallFix p m c cX8_seen 3 s args wsX8_seen RX8 := S0
  have hx := S0.1
  have hb := S0.2.1
  have hown := S0.2.2.2.1
  have hts := S0.2.2.2.2
  have hf_106 := hts (.fieldLink RX8 106 "SnailsYearModel" "seens" "I") (by decide +kernel)
  have hin_X8 : ∀ w ∈ wsX80, w ∈ wsX8_seen := by decide +kernel
  have hf_34 := hts (.fieldLink RX8 34 "SnailsYearModel" "seenCell" "[I") (by decide +kernel)
  have hf_37 := hts (.fieldLink RX8 37 "SnailsYearModel" "seenNight" "[I") (by decide +kernel)
  have hl : lv_has ls 3 [(0, .ref q_th), (1, .int p1), (2, .int p2)] := hl
  have hret : ∀ (r0 : Int32) (y0 : Int32) (y1 : Nat → Int32) (y2 : Nat → Int32) (H : Heap) (locs : List Loc) (ls : Array Slot) (pc : Nat), some (r0, y0, y1, y2) = some o → decode cX8_seen pc = .ok (.ireturn, 1) → va_P (dC, dI) vwCl [(q_th, .inr (8, [.ref q_th_told, x_th_now, x_th_text, .int th_letters, .int th_at, x_th_read, .int th_isMore, .int th_told0, x_th_from, x_th_to, x_th_undone, .int th_undos, x_th_aside, .int th_beganOn, .int th_beganIn, .int th_first, .int th_second, .ref q_th_seenCell, .ref q_th_seenNight, .int y0, .int th_above, .int th_below, x_th_kept, .int th_keeps])), (q_th_told, .inl (cI, 54, .inl th_told)), (q_th_seenCell, .inl (cI, 8, .inl y1)), (q_th_seenNight, .inl (cI, 8, .inl y2))] H → va_D A [(q_th, .inr (8, [.ref q_th_told, x_th_now, x_th_text, .int th_letters, .int th_at, x_th_read, .int th_isMore, .int th_told0, x_th_from, x_th_to, x_th_undone, .int th_undos, x_th_aside, .int th_beganOn, .int th_beganIn, .int th_first, .int th_second, .ref q_th_seenCell, .ref q_th_seenNight, .int y0, .int th_above, .int th_below, x_th_kept, .int th_keeps])), (q_th_told, .inl (cI, 54, .inl th_told)), (q_th_seenCell, .inl (cI, 8, .inl y1)), (q_th_seenNight, .inl (cI, 8, .inl y2))] → va_S A s.heap H locs → W p l e ({ frames := 2, cells := 0, slots := 0, locals := 46 } : Room) s m args below meth c H locs 0 0 Q (F0 m pc ls [.int r0]) := by
    intro r0 y0 y1 y2 H locs ls pc ho hd hP hD hS
    cases ho
    exact ret0 H locs ls pc hd hP hD hS
  rw [fX8_seen_e] at hF
  refine lv_aload_n hx hb dX8_seen_0 rfl (lv_at hl 0 rfl) ?_
  refine lv_iload_n hx hb dX8_seen_1 rfl (lv_at hl 1 rfl) ?_
  obtain ⟨o2, hF1, hF⟩ := ng_b hF
  refine nx_callVi (As := [.int p1]) (rest := []) (W1 := [(q_th, .inr (8, [.ref q_th_told, x_th_now, x_th_text, .int th_letters, .int th_at, x_th_read, .int th_isMore, .int th_told0, x_th_from, x_th_to, x_th_undone, .int th_undos, x_th_aside, .int th_beganOn, .int th_beganIn, .int th_first, .int th_second, .ref q_th_seenCell, .ref q_th_seenNight, .int th_seens, .int th_above, .int th_below, x_th_kept, .int th_keeps])), (q_th_told, .inl (cI, 54, .inl th_told)), (q_th_seenCell, .inl (cI, 8, .inl th_seenCell)), (q_th_seenNight, .inl (cI, 8, .inl th_seenNight))]) (wr := [(q_th_seenCell, .inl (cI, 8, .inl th_seenCell)), (q_th_seenNight, .inl (cI, 8, .inl th_seenNight))]) S0 hK hN hA hP hD hS (kX8_isCell l dC dI cI q_th q_th_told _ (x_th_now) (x_th_text) th_letters th_at (x_th_read) th_isMore th_told0 (x_th_from) (x_th_to) (x_th_undone) th_undos (x_th_aside) th_beganOn th_beganIn th_first th_second (.ref q_th_seenCell) (.ref q_th_seenNight) th_seens th_above th_below (x_th_kept) th_keeps th_told p1 N o2 hF1) (cwV 1 hts gX8_seen_X8_isCell rfl rfl rfl ⟨rfl, hdX8_isCell⟩ ⟨Nat.le_of_ble_eq_true rfl, Nat.le_of_ble_eq_true rfl⟩) [0, 1] [2, 3] [2, 3, 0, 1] rfl rfl rfl rfl 0 8 rfl rfl rfl rfl hl.1 rfl (Nat.le_of_ble_eq_true rfl) dX8_seen_2 (fun H locs hP hD hS => ?_)
  refine lv_if_eq (tgt := 20) hx hb dX8_seen_5 (by decide) (fun hc => ?_) (fun hc => ?_)
  · have hF := ng_t hc hF
    refine lv_iconst (v := (-1 : Int32)) hx hb dX8_seen_20 (by decide) ?_
    exact hret (-1 : Int32) th_seens th_seenCell th_seenNight _ _ _ _ hF dX8_seen_21 hP hD hS
  · have hF := ng_f hc hF
    refine lv_iload_n hx hb dX8_seen_8 rfl (lv_at hl 2 rfl) ?_
    refine lv_i2l hx hb dX8_seen_9 rfl ?_
    refine lv_lconst (v := (lN 0)) hx hb dX8_seen_10 (by decide) ?_
    refine lv_ldc2 (v := (lN 30)) hx hb hown (hts (.constantLong RX8 151 30) (by decide +kernel)) dX8_seen_11 ?_
    obtain ⟨o14, hF1, hF⟩ := ng_b hF
    refine nx_callSi (As := [.long p2.toInt64, .long (lN 0), .long (lN 30)]) (rest := []) (W1 := [(q_th, .inr (8, [.ref q_th_told, x_th_now, x_th_text, .int th_letters, .int th_at, x_th_read, .int th_isMore, .int th_told0, x_th_from, x_th_to, x_th_undone, .int th_undos, x_th_aside, .int th_beganOn, .int th_beganIn, .int th_first, .int th_second, .ref q_th_seenCell, .ref q_th_seenNight, .int th_seens, .int th_above, .int th_below, x_th_kept, .int th_keeps])), (q_th_told, .inl (cI, 54, .inl th_told)), (q_th_seenCell, .inl (cI, 8, .inl th_seenCell)), (q_th_seenNight, .inl (cI, 8, .inl th_seenNight))]) (wr := [(q_th, .inr (8, [.ref q_th_told, x_th_now, x_th_text, .int th_letters, .int th_at, x_th_read, .int th_isMore, .int th_told0, x_th_from, x_th_to, x_th_undone, .int th_undos, x_th_aside, .int th_beganOn, .int th_beganIn, .int th_first, .int th_second, .ref q_th_seenCell, .ref q_th_seenNight, .int th_seens, .int th_above, .int th_below, x_th_kept, .int th_keeps])), (q_th_told, .inl (cI, 54, .inl th_told)), (q_th_seenCell, .inl (cI, 8, .inl th_seenCell)), (q_th_seenNight, .inl (cI, 8, .inl th_seenNight))]) S0 hK hN hA hP hD hS (kX8_in l dC dI cI _ p2.toInt64 (lN 0) (lN 30) N o14 hF1) (va_cwS 3 hts gX8_seen_X8_in rfl rfl rfl hdX8_in ⟨Nat.le_of_ble_eq_true rfl, Nat.le_of_ble_eq_true rfl⟩) [] [0, 1, 2, 3] [0, 1, 2, 3] rfl rfl rfl rfl rfl hl.1 rfl (Nat.le_of_ble_eq_true rfl) dX8_seen_14 (fun H locs hP hD hS => ?_)
    refine lv_if_ne (tgt := 22) hx hb dX8_seen_17 (by decide) (fun hc => ?_) (fun hc => ?_)
    · have hF := ng_f hc hF
      refine lv_aload_n hx hb dX8_seen_22 rfl (lv_at hl 0 rfl) ?_
      refine nx_get S0 hK hP 0 19 hin_X8 hf_106 rfl rfl (by decide) rfl rfl dX8_seen_23 ?_
      refine lv_bipush (v := (nI 8)) hx hb dX8_seen_26 (by decide) ?_
      refine lv_icmp_ne (tgt := 34) hx hb dX8_seen_28 (by decide) (fun hc => ?_) (fun hc => ?_)
      · have hF := ng_f hc hF
        refine lv_aload_n hx hb dX8_seen_34 rfl (lv_at hl 0 rfl) ?_
        refine nx_get S0 hK hP 0 17 hin_X8 hf_34 rfl rfl (by decide) rfl rfl dX8_seen_35 ?_
        refine lv_aload_n hx hb dX8_seen_38 rfl (lv_at hl 0 rfl) ?_
        refine nx_get S0 hK hP 0 19 hin_X8 hf_106 rfl rfl (by decide) rfl rfl dX8_seen_39 ?_
        refine lv_iload_n hx hb dX8_seen_42 rfl (lv_at hl 1 rfl) ?_
        have hg := ng_p hF
        have hF := ng_x hF
        refine nx_iast S0 hK hP hD hS 2 rfl hg dX8_seen_43 (W1 := [(q_th, .inr (8, [.ref q_th_told, x_th_now, x_th_text, .int th_letters, .int th_at, x_th_read, .int th_isMore, .int th_told0, x_th_from, x_th_to, x_th_undone, .int th_undos, x_th_aside, .int th_beganOn, .int th_beganIn, .int th_first, .int th_second, .ref q_th_seenCell, .ref q_th_seenNight, .int th_seens, .int th_above, .int th_below, x_th_kept, .int th_keeps])), (q_th_told, .inl (cI, 54, .inl th_told)), (q_th_seenCell, .inl (cI, 8, .inl (upd th_seenCell th_seens.toNatClampNeg p1))), (q_th_seenNight, .inl (cI, 8, .inl th_seenNight))]) rfl (fun H locs hP hD hS => ?_)
        refine lv_aload_n hx hb dX8_seen_44 rfl (lv_at hl 0 rfl) ?_
        refine nx_get S0 hK hP 0 18 hin_X8 hf_37 rfl rfl (by decide) rfl rfl dX8_seen_45 ?_
        refine lv_aload_n hx hb dX8_seen_48 rfl (lv_at hl 0 rfl) ?_
        refine nx_get S0 hK hP 0 19 hin_X8 hf_106 rfl rfl (by decide) rfl rfl dX8_seen_49 ?_
        refine lv_iload_n hx hb dX8_seen_52 rfl (lv_at hl 2 rfl) ?_
        have hg := ng_p hF
        have hF := ng_x hF
        refine nx_iast S0 hK hP hD hS 3 rfl hg dX8_seen_53 (W1 := [(q_th, .inr (8, [.ref q_th_told, x_th_now, x_th_text, .int th_letters, .int th_at, x_th_read, .int th_isMore, .int th_told0, x_th_from, x_th_to, x_th_undone, .int th_undos, x_th_aside, .int th_beganOn, .int th_beganIn, .int th_first, .int th_second, .ref q_th_seenCell, .ref q_th_seenNight, .int th_seens, .int th_above, .int th_below, x_th_kept, .int th_keeps])), (q_th_told, .inl (cI, 54, .inl th_told)), (q_th_seenCell, .inl (cI, 8, .inl (upd th_seenCell th_seens.toNatClampNeg p1))), (q_th_seenNight, .inl (cI, 8, .inl (upd th_seenNight th_seens.toNatClampNeg p2)))]) rfl (fun H locs hP hD hS => ?_)
        refine lv_aload_n hx hb dX8_seen_54 rfl (lv_at hl 0 rfl) ?_
        refine lv_dup hx hb dX8_seen_55 rfl ?_
        refine nx_get S0 hK hP 0 19 hin_X8 hf_106 rfl rfl (by decide) rfl rfl dX8_seen_56 ?_
        refine lv_iconst (v := (nI 1)) hx hb dX8_seen_59 (by decide) ?_
        refine lv_iadd hx hb dX8_seen_60 ?_
        refine nx_put S0 hK hP hD hS 0 19 hin_X8 tyX8 tyX8_ok nmX8 hf_106 rfl rfl (by decide) rfl rfl rfl rfl (Nat.le_of_ble_eq_true rfl) dX8_seen_61 (W1 := [(q_th, .inr (8, [.ref q_th_told, x_th_now, x_th_text, .int th_letters, .int th_at, x_th_read, .int th_isMore, .int th_told0, x_th_from, x_th_to, x_th_undone, .int th_undos, x_th_aside, .int th_beganOn, .int th_beganIn, .int th_first, .int th_second, .ref q_th_seenCell, .ref q_th_seenNight, .int (th_seens + (nI 1)), .int th_above, .int th_below, x_th_kept, .int th_keeps])), (q_th_told, .inl (cI, 54, .inl th_told)), (q_th_seenCell, .inl (cI, 8, .inl (upd th_seenCell th_seens.toNatClampNeg p1))), (q_th_seenNight, .inl (cI, 8, .inl (upd th_seenNight th_seens.toNatClampNeg p2)))]) rfl (fun H locs hP hD hS => ?_)
        refine lv_aload_n hx hb dX8_seen_64 rfl (lv_at hl 0 rfl) ?_
        refine nx_get S0 hK hP 0 19 hin_X8 hf_106 rfl rfl (by decide) rfl rfl dX8_seen_65 ?_
        exact hret (th_seens + (nI 1)) (th_seens + (nI 1)) (upd th_seenCell th_seens.toNatClampNeg p1) (upd th_seenNight th_seens.toNatClampNeg p2) _ _ _ _ hF dX8_seen_68 hP hD hS
      · have hF := ng_t hc hF
        refine lv_bipush (v := (-3 : Int32)) hx hb dX8_seen_31 (by decide) ?_
        exact hret (-3 : Int32) th_seens th_seenCell th_seenNight _ _ _ _ hF dX8_seen_33 hP hD hS
    · have hF := ng_t hc hF
      refine lv_iconst (v := (-1 : Int32)) hx hb dX8_seen_20 (by decide) ?_
      exact hret (-1 : Int32) th_seens th_seenCell th_seenNight _ _ _ _ hF dX8_seen_21 hP hD hS
theorem hdX8_forget : yX8_forget.cls ≠ "java/lang/invoke/MethodHandle" ∧ yX8_forget.cls ≠ "java/lang/invoke/VarHandle" ∧ (parseMethodDescriptor yX8_forget.desc).map (fun d => d.parameters.length) = some 0 := by decide +kernel
set_option maxHeartbeats 40000000 in
set_option maxRecDepth 100000 in
theorem kX8_forget (l : Launch) (dC : Nat → ClassId) (dI : Nat → Nat → Nat) (cI : ClassId) (q_th : Nat) (sz : Nat) (x_th_told : Value) (x_th_now : Value) (x_th_text : Value) (th_letters : Int32) (th_at : Int32) (x_th_read : Value) (th_isMore : Int32) (th_told0 : Int32) (x_th_from : Value) (x_th_to : Value) (x_th_undone : Value) (th_undos : Int32) (x_th_aside : Value) (th_beganOn : Int32) (th_beganIn : Int32) (th_first : Int32) (th_second : Int32) (x_th_seenCell : Value) (x_th_seenNight : Value) (th_seens : Int32) (th_above : Int32) (th_below : Int32) (x_th_kept : Value) (th_keeps : Int32) (N : Nat) (o : Int32 × Int32) (hF : fX8_forget N th_seens = some o) : nx_I l yX8_forget wsX8_forget ({ frames := 0, cells := 0, slots := 0, locals := 0 } : Room) (dC, dI) cI [.ref q_th] [(q_th, .inr (8, [x_th_told, x_th_now, x_th_text, .int th_letters, .int th_at, x_th_read, .int th_isMore, .int th_told0, x_th_from, x_th_to, x_th_undone, .int th_undos, x_th_aside, .int th_beganOn, .int th_beganIn, .int th_first, .int th_second, x_th_seenCell, x_th_seenNight, .int th_seens, .int th_above, .int th_below, x_th_kept, .int th_keeps]))] sz o.1 [(q_th, .inr (8, [x_th_told, x_th_now, x_th_text, .int th_letters, .int th_at, x_th_read, .int th_isMore, .int th_told0, x_th_from, x_th_to, x_th_undone, .int th_undos, x_th_aside, .int th_beganOn, .int th_beganIn, .int th_first, .int th_second, x_th_seenCell, x_th_seenNight, .int o.2, .int th_above, .int th_below, x_th_kept, .int th_keeps]))] := by
  refine nx_int (cc := cX8_forget) (maxL := 2) (by decide) rfl (Nat.le_of_ble_eq_true rfl) ?_
  intro p e s m args below meth c Q A S0 hK hN hA ret0 hP hD hS ls hl
  have S0 : CallFix p m c cX8_forget 2 s args wsX8_forget RX8 := S0
  have hx := S0.1
  have hb := S0.2.1
  have hown := S0.2.2.2.1
  have hts := S0.2.2.2.2
  have hf_106 := hts (.fieldLink RX8 106 "SnailsYearModel" "seens" "I") (by decide +kernel)
  have hin_X8 : ∀ w ∈ wsX80, w ∈ wsX8_forget := by decide +kernel
  have hl : lv_has ls 2 [(0, .ref q_th)] := hl
  have hret : ∀ (r0 : Int32) (y0 : Int32) (H : Heap) (locs : List Loc) (ls : Array Slot) (pc : Nat), some (r0, y0) = some o → decode cX8_forget pc = .ok (.ireturn, 1) → va_P (dC, dI) vwCl [(q_th, .inr (8, [x_th_told, x_th_now, x_th_text, .int th_letters, .int th_at, x_th_read, .int th_isMore, .int th_told0, x_th_from, x_th_to, x_th_undone, .int th_undos, x_th_aside, .int th_beganOn, .int th_beganIn, .int th_first, .int th_second, x_th_seenCell, x_th_seenNight, .int y0, .int th_above, .int th_below, x_th_kept, .int th_keeps]))] H → va_D A [(q_th, .inr (8, [x_th_told, x_th_now, x_th_text, .int th_letters, .int th_at, x_th_read, .int th_isMore, .int th_told0, x_th_from, x_th_to, x_th_undone, .int th_undos, x_th_aside, .int th_beganOn, .int th_beganIn, .int th_first, .int th_second, x_th_seenCell, x_th_seenNight, .int y0, .int th_above, .int th_below, x_th_kept, .int th_keeps]))] → va_S A s.heap H locs → W p l e ({ frames := 0, cells := 0, slots := 0, locals := 0 } : Room) s m args below meth c H locs 0 0 Q (F0 m pc ls [.int r0]) := by
    intro r0 y0 H locs ls pc ho hd hP hD hS
    cases ho
    exact ret0 H locs ls pc hd hP hD hS
  rw [fX8_forget_e] at hF
  refine lv_aload_n hx hb dX8_forget_0 rfl (lv_at hl 0 rfl) ?_
  refine nx_get S0 hK hP 0 19 hin_X8 hf_106 rfl rfl (by decide) rfl rfl dX8_forget_1 ?_
  refine lv_istore_n (lv' := [(1, .int th_seens), (0, .ref q_th)]) hx hb dX8_forget_4 rfl hl (by decide) rfl (fun ls hl => ?_)
  refine lv_aload_n hx hb dX8_forget_5 rfl (lv_at hl 1 rfl) ?_
  refine lv_iconst (v := (nI 0)) hx hb dX8_forget_6 (by decide) ?_
  refine nx_put S0 hK hP hD hS 0 19 hin_X8 tyX8 tyX8_ok nmX8 hf_106 rfl rfl (by decide) rfl rfl rfl rfl (Nat.le_of_ble_eq_true rfl) dX8_forget_7 (W1 := [(q_th, .inr (8, [x_th_told, x_th_now, x_th_text, .int th_letters, .int th_at, x_th_read, .int th_isMore, .int th_told0, x_th_from, x_th_to, x_th_undone, .int th_undos, x_th_aside, .int th_beganOn, .int th_beganIn, .int th_first, .int th_second, x_th_seenCell, x_th_seenNight, .int (nI 0), .int th_above, .int th_below, x_th_kept, .int th_keeps]))]) rfl (fun H locs hP hD hS => ?_)
  refine lv_iload_n hx hb dX8_forget_10 rfl (lv_at hl 0 rfl) ?_
  exact hret th_seens (nI 0) _ _ _ _ hF dX8_forget_11 hP hD hS
theorem hdX8_isSo : yX8_isSo.cls ≠ "java/lang/invoke/MethodHandle" ∧ yX8_isSo.cls ≠ "java/lang/invoke/VarHandle" ∧ (parseMethodDescriptor yX8_isSo.desc).map (fun d => d.parameters.length) = some 0 := by decide +kernel
set_option maxHeartbeats 40000000 in
set_option maxRecDepth 100000 in
theorem kX8_isSo (l : Launch) (dC : Nat → ClassId) (dI : Nat → Nat → Nat) (cI : ClassId) (q_th : Nat) (q_th_now : Nat) (q_th_aside : Nat) (q_th_told : Nat) (q_th_from : Nat) (q_th_to : Nat) (q_th_seenNight : Nat) (q_th_seenCell : Nat) (sz : Nat) (x_th_text : Value) (th_letters : Int32) (th_at : Int32) (x_th_read : Value) (th_isMore : Int32) (th_told0 : Int32) (x_th_undone : Value) (th_undos : Int32) (th_beganOn : Int32) (th_beganIn : Int32) (th_first : Int32) (th_second : Int32) (th_seens : Int32) (th_above : Int32) (th_below : Int32) (x_th_kept : Value) (th_keeps : Int32) (th_now : Nat → Int32) (th_aside : Nat → Int32) (th_told : Nat → Int32) (th_from : Nat → Int32) (th_to : Nat → Int32) (th_seenNight : Nat → Int32) (th_seenCell : Nat → Int32) (N : Nat) (o : Int32 × (Nat → Int32) × (Nat → Int32) × (Nat → Int32)) (hF : fX8_isSo N th_seens th_now th_aside th_told th_from th_to th_seenNight th_seenCell = some o) : nx_I l yX8_isSo wsX8_isSo ({ frames := 6, cells := 0, slots := 0, locals := 144 } : Room) (dC, dI) cI [.ref q_th] [(q_th, .inr (8, [.ref q_th_told, .ref q_th_now, x_th_text, .int th_letters, .int th_at, x_th_read, .int th_isMore, .int th_told0, .ref q_th_from, .ref q_th_to, x_th_undone, .int th_undos, .ref q_th_aside, .int th_beganOn, .int th_beganIn, .int th_first, .int th_second, .ref q_th_seenCell, .ref q_th_seenNight, .int th_seens, .int th_above, .int th_below, x_th_kept, .int th_keeps])), (q_th_now, .inl (cI, 28, .inl th_now)), (q_th_aside, .inl (cI, 28, .inl th_aside)), (q_th_told, .inl (cI, 54, .inl th_told)), (q_th_from, .inl (cI, 25, .inl th_from)), (q_th_to, .inl (cI, 25, .inl th_to)), (q_th_seenNight, .inl (cI, 8, .inl th_seenNight)), (q_th_seenCell, .inl (cI, 8, .inl th_seenCell))] sz o.1 [(q_th, .inr (8, [.ref q_th_told, .ref q_th_now, x_th_text, .int th_letters, .int th_at, x_th_read, .int th_isMore, .int th_told0, .ref q_th_from, .ref q_th_to, x_th_undone, .int th_undos, .ref q_th_aside, .int th_beganOn, .int th_beganIn, .int th_first, .int th_second, .ref q_th_seenCell, .ref q_th_seenNight, .int th_seens, .int th_above, .int th_below, x_th_kept, .int th_keeps])), (q_th_now, .inl (cI, 28, .inl o.2.1)), (q_th_aside, .inl (cI, 28, .inl th_aside)), (q_th_told, .inl (cI, 54, .inl th_told)), (q_th_from, .inl (cI, 25, .inl o.2.2.1)), (q_th_to, .inl (cI, 25, .inl o.2.2.2)), (q_th_seenNight, .inl (cI, 8, .inl th_seenNight)), (q_th_seenCell, .inl (cI, 8, .inl th_seenCell))] := by
  refine nx_zint (cc := cX8_isSo) (maxL := 4) (by decide) rfl (Nat.le_of_ble_eq_true rfl) ?_
  intro p e s m args below meth c Q A S0 hK hN hA ret0 hP hD hS ls hl
  have S0 : CallFix p m c cX8_isSo 4 s args wsX8_isSo RX8 := S0
  have hx := S0.1
  have hb := S0.2.1
  have hown := S0.2.2.2.1
  have hts := S0.2.2.2.2
  have hf_106 := hts (.fieldLink RX8 106 "SnailsYearModel" "seens" "I") (by decide +kernel)
  have hin_X8 : ∀ w ∈ wsX80, w ∈ wsX8_isSo := by decide +kernel
  have hf_13 := hts (.fieldLink RX8 13 "SnailsYearModel" "now" "[I") (by decide +kernel)
  have hf_37 := hts (.fieldLink RX8 37 "SnailsYearModel" "seenNight" "[I") (by decide +kernel)
  have hf_34 := hts (.fieldLink RX8 34 "SnailsYearModel" "seenCell" "[I") (by decide +kernel)
  have hl : lv_has ls 4 [(0, .ref q_th)] := hl
  have hret : ∀ (r0 : Int32) (y0 : Nat → Int32) (y1 : Nat → Int32) (y2 : Nat → Int32) (H : Heap) (locs : List Loc) (ls : Array Slot) (pc : Nat), (r0 = 0 ∨ r0 = 1) → some (r0, y0, y1, y2) = some o → decode cX8_isSo pc = .ok (.ireturn, 1) → va_P (dC, dI) vwCl [(q_th, .inr (8, [.ref q_th_told, .ref q_th_now, x_th_text, .int th_letters, .int th_at, x_th_read, .int th_isMore, .int th_told0, .ref q_th_from, .ref q_th_to, x_th_undone, .int th_undos, .ref q_th_aside, .int th_beganOn, .int th_beganIn, .int th_first, .int th_second, .ref q_th_seenCell, .ref q_th_seenNight, .int th_seens, .int th_above, .int th_below, x_th_kept, .int th_keeps])), (q_th_now, .inl (cI, 28, .inl y0)), (q_th_aside, .inl (cI, 28, .inl th_aside)), (q_th_told, .inl (cI, 54, .inl th_told)), (q_th_from, .inl (cI, 25, .inl y1)), (q_th_to, .inl (cI, 25, .inl y2)), (q_th_seenNight, .inl (cI, 8, .inl th_seenNight)), (q_th_seenCell, .inl (cI, 8, .inl th_seenCell))] H → va_D A [(q_th, .inr (8, [.ref q_th_told, .ref q_th_now, x_th_text, .int th_letters, .int th_at, x_th_read, .int th_isMore, .int th_told0, .ref q_th_from, .ref q_th_to, x_th_undone, .int th_undos, .ref q_th_aside, .int th_beganOn, .int th_beganIn, .int th_first, .int th_second, .ref q_th_seenCell, .ref q_th_seenNight, .int th_seens, .int th_above, .int th_below, x_th_kept, .int th_keeps])), (q_th_now, .inl (cI, 28, .inl y0)), (q_th_aside, .inl (cI, 28, .inl th_aside)), (q_th_told, .inl (cI, 54, .inl th_told)), (q_th_from, .inl (cI, 25, .inl y1)), (q_th_to, .inl (cI, 25, .inl y2)), (q_th_seenNight, .inl (cI, 8, .inl th_seenNight)), (q_th_seenCell, .inl (cI, 8, .inl th_seenCell))] → va_S A s.heap H locs → W p l e ({ frames := 6, cells := 0, slots := 0, locals := 144 } : Room) s m args below meth c H locs 0 0 Q (F0 m pc ls [.int r0]) := by
    intro r0 y0 y1 y2 H locs ls pc hz ho hd hP hD hS
    cases ho
    exact ret0 H locs ls pc hz hd hP hD hS
  rw [fX8_isSo_e] at hF
  refine lv_iconst (v := (nI 1)) hx hb dX8_isSo_0 (by decide) ?_
  refine lv_istore_n (lv' := [(1, .int (nI 1)), (0, .ref q_th)]) hx hb dX8_isSo_1 rfl hl (by decide) rfl (fun ls hl => ?_)
  refine lv_iconst (v := (nI 0)) hx hb dX8_isSo_2 (by decide) ?_
  have B_4 : ∀ (n_4 : Nat) (v1_4 : Int32) (v2_4 : Int32) (th_now_4 : Nat → Int32) (th_from_4 : Nat → Int32) (th_to_4 : Nat → Int32), fX8_isSo_4 N th_seens th_aside th_told th_seenNight th_seenCell n_4 v1_4 v2_4 th_now_4 th_from_4 th_to_4 = some o → ∀ (H : Heap) (locs : List Loc) (ls : Array Slot), va_P (dC, dI) vwCl [(q_th, .inr (8, [.ref q_th_told, .ref q_th_now, x_th_text, .int th_letters, .int th_at, x_th_read, .int th_isMore, .int th_told0, .ref q_th_from, .ref q_th_to, x_th_undone, .int th_undos, .ref q_th_aside, .int th_beganOn, .int th_beganIn, .int th_first, .int th_second, .ref q_th_seenCell, .ref q_th_seenNight, .int th_seens, .int th_above, .int th_below, x_th_kept, .int th_keeps])), (q_th_now, .inl (cI, 28, .inl th_now_4)), (q_th_aside, .inl (cI, 28, .inl th_aside)), (q_th_told, .inl (cI, 54, .inl th_told)), (q_th_from, .inl (cI, 25, .inl th_from_4)), (q_th_to, .inl (cI, 25, .inl th_to_4)), (q_th_seenNight, .inl (cI, 8, .inl th_seenNight)), (q_th_seenCell, .inl (cI, 8, .inl th_seenCell))] H → va_D A [(q_th, .inr (8, [.ref q_th_told, .ref q_th_now, x_th_text, .int th_letters, .int th_at, x_th_read, .int th_isMore, .int th_told0, .ref q_th_from, .ref q_th_to, x_th_undone, .int th_undos, .ref q_th_aside, .int th_beganOn, .int th_beganIn, .int th_first, .int th_second, .ref q_th_seenCell, .ref q_th_seenNight, .int th_seens, .int th_above, .int th_below, x_th_kept, .int th_keeps])), (q_th_now, .inl (cI, 28, .inl th_now_4)), (q_th_aside, .inl (cI, 28, .inl th_aside)), (q_th_told, .inl (cI, 54, .inl th_told)), (q_th_from, .inl (cI, 25, .inl th_from_4)), (q_th_to, .inl (cI, 25, .inl th_to_4)), (q_th_seenNight, .inl (cI, 8, .inl th_seenNight)), (q_th_seenCell, .inl (cI, 8, .inl th_seenCell))] → va_S A s.heap H locs → lv_has ls 4 [(0, .ref q_th), (1, .int v1_4), (2, .int v2_4)] → W p l e ({ frames := 6, cells := 0, slots := 0, locals := 144 } : Room) s m args below meth c H locs 0 0 Q (F0 m 4 ls []) := by
    intro n_4
    induction n_4 with
    | zero =>
      intro v1_4 v2_4 th_now_4 th_from_4 th_to_4 hF
      rw [fX8_isSo_4_z] at hF
      cases hF
    | succ n_4 ih_4 =>
      intro v1_4 v2_4 th_now_4 th_from_4 th_to_4 hF H locs ls hP hD hS hl
      rw [fX8_isSo_4_s] at hF
      refine lv_iload_n hx hb dX8_isSo_4 rfl (lv_at hl 2 rfl) ?_
      refine lv_bipush (v := (nI 31)) hx hb dX8_isSo_5 (by decide) ?_
      refine lv_icmp_ge (tgt := 82) hx hb dX8_isSo_7 (by decide) (fun hc => ?_) (fun hc => ?_)
      · have hF := ng_t hc hF
        refine lv_aload_n hx hb dX8_isSo_82 rfl (lv_at hl 0 rfl) ?_
        obtain ⟨o83, hF1, hF⟩ := ng_b hF
        refine nx_callVv (As := []) (rest := []) (W1 := [(q_th, .inr (8, [.ref q_th_told, .ref q_th_now, x_th_text, .int th_letters, .int th_at, x_th_read, .int th_isMore, .int th_told0, .ref q_th_from, .ref q_th_to, x_th_undone, .int th_undos, .ref q_th_aside, .int th_beganOn, .int th_beganIn, .int th_first, .int th_second, .ref q_th_seenCell, .ref q_th_seenNight, .int th_seens, .int th_above, .int th_below, x_th_kept, .int th_keeps])), (q_th_now, .inl (cI, 28, .inl o83)), (q_th_aside, .inl (cI, 28, .inl th_aside)), (q_th_told, .inl (cI, 54, .inl th_told)), (q_th_from, .inl (cI, 25, .inl th_from_4)), (q_th_to, .inl (cI, 25, .inl th_to_4)), (q_th_seenNight, .inl (cI, 8, .inl th_seenNight)), (q_th_seenCell, .inl (cI, 8, .inl th_seenCell))]) (wr := [(q_th_told, .inl (cI, 54, .inl th_told)), (q_th_from, .inl (cI, 25, .inl th_from_4)), (q_th_to, .inl (cI, 25, .inl th_to_4)), (q_th_seenNight, .inl (cI, 8, .inl th_seenNight)), (q_th_seenCell, .inl (cI, 8, .inl th_seenCell))]) S0 hK hN hA hP hD hS (kX8_backs l dC dI cI q_th q_th_now q_th_aside _ (.ref q_th_told) (x_th_text) th_letters th_at (x_th_read) th_isMore th_told0 (.ref q_th_from) (.ref q_th_to) (x_th_undone) th_undos th_beganOn th_beganIn th_first th_second (.ref q_th_seenCell) (.ref q_th_seenNight) th_seens th_above th_below (x_th_kept) th_keeps th_now_4 th_aside N o83 hF1) (cwV 0 hts gX8_isSo_X8_backs rfl rfl rfl ⟨rfl, hdX8_backs⟩ ⟨Nat.le_of_ble_eq_true rfl, Nat.le_of_ble_eq_true rfl⟩) [0, 1, 2] [3, 4, 5, 6, 7] [5, 6, 7, 0, 1, 2, 3, 4] rfl rfl rfl rfl 0 8 rfl rfl rfl rfl hl.1 rfl (Nat.le_of_ble_eq_true rfl) dX8_isSo_83 (fun H locs hP hD hS => ?_)
        refine lv_iload_n hx hb dX8_isSo_86 rfl (lv_at hl 1 rfl) ?_
        have hg := ng_p hF
        have hF := ng_x hF
        exact hret v1_4 o83 th_from_4 th_to_4 _ _ _ _ hg hF dX8_isSo_87 hP hD hS
      · have hF := ng_f hc hF
        refine lv_iconst (v := (nI 0)) hx hb dX8_isSo_10 (by decide) ?_
        have B_12 : ∀ (n_12 : Nat) (v1_12 : Int32) (v3_12 : Int32), fX8_isSo_12 N th_seens th_told th_seenNight th_seenCell v2_4 th_now_4 th_from_4 th_to_4 (fX8_isSo_4 N th_seens th_aside th_told th_seenNight th_seenCell n_4) n_12 v1_12 v3_12 = some o → ∀ (H : Heap) (locs : List Loc) (ls : Array Slot), va_P (dC, dI) vwCl [(q_th, .inr (8, [.ref q_th_told, .ref q_th_now, x_th_text, .int th_letters, .int th_at, x_th_read, .int th_isMore, .int th_told0, .ref q_th_from, .ref q_th_to, x_th_undone, .int th_undos, .ref q_th_aside, .int th_beganOn, .int th_beganIn, .int th_first, .int th_second, .ref q_th_seenCell, .ref q_th_seenNight, .int th_seens, .int th_above, .int th_below, x_th_kept, .int th_keeps])), (q_th_now, .inl (cI, 28, .inl th_now_4)), (q_th_aside, .inl (cI, 28, .inl th_aside)), (q_th_told, .inl (cI, 54, .inl th_told)), (q_th_from, .inl (cI, 25, .inl th_from_4)), (q_th_to, .inl (cI, 25, .inl th_to_4)), (q_th_seenNight, .inl (cI, 8, .inl th_seenNight)), (q_th_seenCell, .inl (cI, 8, .inl th_seenCell))] H → va_D A [(q_th, .inr (8, [.ref q_th_told, .ref q_th_now, x_th_text, .int th_letters, .int th_at, x_th_read, .int th_isMore, .int th_told0, .ref q_th_from, .ref q_th_to, x_th_undone, .int th_undos, .ref q_th_aside, .int th_beganOn, .int th_beganIn, .int th_first, .int th_second, .ref q_th_seenCell, .ref q_th_seenNight, .int th_seens, .int th_above, .int th_below, x_th_kept, .int th_keeps])), (q_th_now, .inl (cI, 28, .inl th_now_4)), (q_th_aside, .inl (cI, 28, .inl th_aside)), (q_th_told, .inl (cI, 54, .inl th_told)), (q_th_from, .inl (cI, 25, .inl th_from_4)), (q_th_to, .inl (cI, 25, .inl th_to_4)), (q_th_seenNight, .inl (cI, 8, .inl th_seenNight)), (q_th_seenCell, .inl (cI, 8, .inl th_seenCell))] → va_S A s.heap H locs → lv_has ls 4 [(0, .ref q_th), (1, .int v1_12), (2, .int v2_4), (3, .int v3_12)] → W p l e ({ frames := 6, cells := 0, slots := 0, locals := 144 } : Room) s m args below meth c H locs 0 0 Q (F0 m 12 ls []) := by
          intro n_12
          induction n_12 with
          | zero =>
            intro v1_12 v3_12 hF
            rw [fX8_isSo_12_z] at hF
            cases hF
          | succ n_12 ih_12 =>
            intro v1_12 v3_12 hF H locs ls hP hD hS hl
            rw [fX8_isSo_12_s] at hF
            refine lv_iload_n hx hb dX8_isSo_12 rfl (lv_at hl 3 rfl) ?_
            refine lv_aload_n hx hb dX8_isSo_13 rfl (lv_at hl 0 rfl) ?_
            refine nx_get S0 hK hP 0 19 hin_X8 hf_106 rfl rfl (by decide) rfl rfl dX8_isSo_14 ?_
            refine lv_icmp_ge (tgt := 61) hx hb dX8_isSo_17 (by decide) (fun hc => ?_) (fun hc => ?_)
            · have hF := ng_t hc hF
              refine lv_aload_n hx hb dX8_isSo_61 rfl (lv_at hl 0 rfl) ?_
              refine lv_aload_n hx hb dX8_isSo_62 rfl (lv_at hl 0 rfl) ?_
              refine lv_aload_n hx hb dX8_isSo_63 rfl (lv_at hl 0 rfl) ?_
              refine nx_get S0 hK hP 0 1 hin_X8 hf_13 rfl rfl (by decide) rfl rfl dX8_isSo_64 ?_
              refine lv_iconst (v := (nI 0)) hx hb dX8_isSo_67 (by decide) ?_
              refine nx_iald S0 hK hP 1 (v := th_now_4 0) rfl (by decide) rfl dX8_isSo_68 ?_
              obtain ⟨o69, hF1, hF⟩ := ng_b hF
              refine nx_callVi (As := [.int (th_now_4 0)]) (rest := [.ref q_th]) (W1 := [(q_th, .inr (8, [.ref q_th_told, .ref q_th_now, x_th_text, .int th_letters, .int th_at, x_th_read, .int th_isMore, .int th_told0, .ref q_th_from, .ref q_th_to, x_th_undone, .int th_undos, .ref q_th_aside, .int th_beganOn, .int th_beganIn, .int th_first, .int th_second, .ref q_th_seenCell, .ref q_th_seenNight, .int th_seens, .int th_above, .int th_below, x_th_kept, .int th_keeps])), (q_th_now, .inl (cI, 28, .inl th_now_4)), (q_th_aside, .inl (cI, 28, .inl th_aside)), (q_th_told, .inl (cI, 54, .inl th_told)), (q_th_from, .inl (cI, 25, .inl th_from_4)), (q_th_to, .inl (cI, 25, .inl th_to_4)), (q_th_seenNight, .inl (cI, 8, .inl th_seenNight)), (q_th_seenCell, .inl (cI, 8, .inl th_seenCell))]) (wr := [(q_th_now, .inl (cI, 28, .inl th_now_4)), (q_th_aside, .inl (cI, 28, .inl th_aside)), (q_th_from, .inl (cI, 25, .inl th_from_4)), (q_th_to, .inl (cI, 25, .inl th_to_4)), (q_th_seenNight, .inl (cI, 8, .inl th_seenNight)), (q_th_seenCell, .inl (cI, 8, .inl th_seenCell))]) S0 hK hN hA hP hD hS (kX8_dampOf l dC dI cI q_th q_th_told _ (.ref q_th_now) (x_th_text) th_letters th_at (x_th_read) th_isMore th_told0 (.ref q_th_from) (.ref q_th_to) (x_th_undone) th_undos (.ref q_th_aside) th_beganOn th_beganIn th_first th_second (.ref q_th_seenCell) (.ref q_th_seenNight) th_seens th_above th_below (x_th_kept) th_keeps th_told (th_now_4 0) N o69 hF1) (cwV 1 hts gX8_isSo_X8_dampOf rfl rfl rfl ⟨rfl, hdX8_dampOf⟩ ⟨Nat.le_of_ble_eq_true rfl, Nat.le_of_ble_eq_true rfl⟩) [0, 3] [1, 2, 4, 5, 6, 7] [6, 0, 1, 7, 2, 3, 4, 5] rfl rfl rfl rfl 0 8 rfl rfl rfl rfl hl.1 rfl (Nat.le_of_ble_eq_true rfl) dX8_isSo_69 (fun H locs hP hD hS => ?_)
              obtain ⟨o72, hF1, hF⟩ := ng_b hF
              refine nx_callVi (As := [.int o69]) (rest := []) (W1 := [(q_th, .inr (8, [.ref q_th_told, .ref q_th_now, x_th_text, .int th_letters, .int th_at, x_th_read, .int th_isMore, .int th_told0, .ref q_th_from, .ref q_th_to, x_th_undone, .int th_undos, .ref q_th_aside, .int th_beganOn, .int th_beganIn, .int th_first, .int th_second, .ref q_th_seenCell, .ref q_th_seenNight, .int th_seens, .int th_above, .int th_below, x_th_kept, .int th_keeps])), (q_th_now, .inl (cI, 28, .inl o72.2.1)), (q_th_aside, .inl (cI, 28, .inl th_aside)), (q_th_told, .inl (cI, 54, .inl th_told)), (q_th_from, .inl (cI, 25, .inl o72.2.2.1)), (q_th_to, .inl (cI, 25, .inl o72.2.2.2)), (q_th_seenNight, .inl (cI, 8, .inl th_seenNight)), (q_th_seenCell, .inl (cI, 8, .inl th_seenCell))]) (wr := [(q_th_aside, .inl (cI, 28, .inl th_aside)), (q_th_seenNight, .inl (cI, 8, .inl th_seenNight)), (q_th_seenCell, .inl (cI, 8, .inl th_seenCell))]) S0 hK hN hA hP hD hS (kX8_goesBy l dC dI cI q_th q_th_now q_th_told q_th_from q_th_to _ (x_th_text) th_letters th_at (x_th_read) th_isMore th_told0 (x_th_undone) th_undos (.ref q_th_aside) th_beganOn th_beganIn th_first th_second (.ref q_th_seenCell) (.ref q_th_seenNight) th_seens th_above th_below (x_th_kept) th_keeps th_now_4 th_told th_from_4 th_to_4 o69 N o72 hF1) (cwV 1 hts gX8_isSo_X8_goesBy rfl rfl rfl ⟨rfl, hdX8_goesBy⟩ ⟨Nat.le_of_ble_eq_true rfl, Nat.le_of_ble_eq_true rfl⟩) [0, 1, 3, 4, 5] [2, 6, 7] [3, 4, 0, 5, 6, 7, 1, 2] rfl rfl rfl rfl 0 8 rfl rfl rfl rfl hl.1 rfl (Nat.le_of_ble_eq_true rfl) dX8_isSo_72 (fun H locs hP hD hS => ?_)
              refine lv_pop hx hb dX8_isSo_75 rfl ?_
              refine lv_iinc (v := v2_4 + (nI 1)) (lv' := [(2, .int (v2_4 + (nI 1))), (0, .ref q_th), (1, .int v1_12), (3, .int v3_12)]) hx hb dX8_isSo_76 hl (k := 2) rfl rfl (by decide) rfl (fun ls hl => ?_)
              refine lv_goto (tgt := 4) hx hb dX8_isSo_79 (by decide) ?_
              exact ih_4 v1_12 (v2_4 + (nI 1)) o72.2.1 o72.2.2.1 o72.2.2.2 hF _ _ _ hP hD hS (lv_sub hl [1, 2, 0] rfl)
            · have hF := ng_f hc hF
              refine lv_iload_n hx hb dX8_isSo_20 rfl (lv_at hl 1 rfl) ?_
              refine lv_if_eq (tgt := 53) hx hb dX8_isSo_21 (by decide) (fun hc => ?_) (fun hc => ?_)
              · have hF := ng_t hc hF
                refine lv_iconst (v := (nI 0)) hx hb dX8_isSo_53 (by decide) ?_
                refine lv_istore_n (lv' := [(1, .int (nI 0)), (0, .ref q_th), (2, .int v2_4), (3, .int v3_12)]) hx hb dX8_isSo_54 rfl hl (by decide) rfl (fun ls hl => ?_)
                refine lv_iinc (v := v3_12 + (nI 1)) (lv' := [(3, .int (v3_12 + (nI 1))), (1, .int (nI 0)), (0, .ref q_th), (2, .int v2_4)]) hx hb dX8_isSo_55 hl (k := 3) rfl rfl (by decide) rfl (fun ls hl => ?_)
                refine lv_goto (tgt := 12) hx hb dX8_isSo_58 (by decide) ?_
                exact ih_12 (nI 0) (v3_12 + (nI 1)) hF _ _ _ hP hD hS (lv_sub hl [2, 1, 3, 0] rfl)
              · have hF := ng_f hc hF
                refine lv_aload_n hx hb dX8_isSo_24 rfl (lv_at hl 0 rfl) ?_
                refine nx_get S0 hK hP 0 18 hin_X8 hf_37 rfl rfl (by decide) rfl rfl dX8_isSo_25 ?_
                refine lv_iload_n hx hb dX8_isSo_28 rfl (lv_at hl 3 rfl) ?_
                have hg := ng_p hF
                have hF := ng_x hF
                refine nx_iald S0 hK hP 6 (v := th_seenNight v3_12.toNatClampNeg) rfl hg rfl dX8_isSo_29 ?_
                refine lv_iload_n hx hb dX8_isSo_30 rfl (lv_at hl 2 rfl) ?_
                refine lv_icmp_ne (tgt := 49) hx hb dX8_isSo_31 (by decide) (fun hc => ?_) (fun hc => ?_)
                · have hF := ng_f hc hF
                  refine lv_iconst (v := (nI 1)) hx hb dX8_isSo_49 (by decide) ?_
                  refine lv_goto (tgt := 54) hx hb dX8_isSo_50 (by decide) ?_
                  refine lv_istore_n (lv' := [(1, .int (nI 1)), (0, .ref q_th), (2, .int v2_4), (3, .int v3_12)]) hx hb dX8_isSo_54 rfl hl (by decide) rfl (fun ls hl => ?_)
                  refine lv_iinc (v := v3_12 + (nI 1)) (lv' := [(3, .int (v3_12 + (nI 1))), (1, .int (nI 1)), (0, .ref q_th), (2, .int v2_4)]) hx hb dX8_isSo_55 hl (k := 3) rfl rfl (by decide) rfl (fun ls hl => ?_)
                  refine lv_goto (tgt := 12) hx hb dX8_isSo_58 (by decide) ?_
                  exact ih_12 (nI 1) (v3_12 + (nI 1)) hF _ _ _ hP hD hS (lv_sub hl [2, 1, 3, 0] rfl)
                · have hF := ng_t hc hF
                  refine lv_aload_n hx hb dX8_isSo_34 rfl (lv_at hl 0 rfl) ?_
                  refine nx_get S0 hK hP 0 17 hin_X8 hf_34 rfl rfl (by decide) rfl rfl dX8_isSo_35 ?_
                  refine lv_iload_n hx hb dX8_isSo_38 rfl (lv_at hl 3 rfl) ?_
                  have hg := ng_p hF
                  have hF := ng_x hF
                  refine nx_iald S0 hK hP 7 (v := th_seenCell v3_12.toNatClampNeg) rfl hg rfl dX8_isSo_39 ?_
                  refine lv_aload_n hx hb dX8_isSo_40 rfl (lv_at hl 0 rfl) ?_
                  refine nx_get S0 hK hP 0 1 hin_X8 hf_13 rfl rfl (by decide) rfl rfl dX8_isSo_41 ?_
                  refine lv_iconst (v := (nI 1)) hx hb dX8_isSo_44 (by decide) ?_
                  refine nx_iald S0 hK hP 1 (v := th_now_4 1) rfl (by decide) rfl dX8_isSo_45 ?_
                  refine lv_icmp_ne (tgt := 53) hx hb dX8_isSo_46 (by decide) (fun hc => ?_) (fun hc => ?_)
                  · have hF := ng_f hc hF
                    refine lv_iconst (v := (nI 0)) hx hb dX8_isSo_53 (by decide) ?_
                    refine lv_istore_n (lv' := [(1, .int (nI 0)), (0, .ref q_th), (2, .int v2_4), (3, .int v3_12)]) hx hb dX8_isSo_54 rfl hl (by decide) rfl (fun ls hl => ?_)
                    refine lv_iinc (v := v3_12 + (nI 1)) (lv' := [(3, .int (v3_12 + (nI 1))), (1, .int (nI 0)), (0, .ref q_th), (2, .int v2_4)]) hx hb dX8_isSo_55 hl (k := 3) rfl rfl (by decide) rfl (fun ls hl => ?_)
                    refine lv_goto (tgt := 12) hx hb dX8_isSo_58 (by decide) ?_
                    exact ih_12 (nI 0) (v3_12 + (nI 1)) hF _ _ _ hP hD hS (lv_sub hl [2, 1, 3, 0] rfl)
                  · have hF := ng_t hc hF
                    refine lv_iconst (v := (nI 1)) hx hb dX8_isSo_49 (by decide) ?_
                    refine lv_goto (tgt := 54) hx hb dX8_isSo_50 (by decide) ?_
                    refine lv_istore_n (lv' := [(1, .int (nI 1)), (0, .ref q_th), (2, .int v2_4), (3, .int v3_12)]) hx hb dX8_isSo_54 rfl hl (by decide) rfl (fun ls hl => ?_)
                    refine lv_iinc (v := v3_12 + (nI 1)) (lv' := [(3, .int (v3_12 + (nI 1))), (1, .int (nI 1)), (0, .ref q_th), (2, .int v2_4)]) hx hb dX8_isSo_55 hl (k := 3) rfl rfl (by decide) rfl (fun ls hl => ?_)
                    refine lv_goto (tgt := 12) hx hb dX8_isSo_58 (by decide) ?_
                    exact ih_12 (nI 1) (v3_12 + (nI 1)) hF _ _ _ hP hD hS (lv_sub hl [2, 1, 3, 0] rfl)
        refine lv_istore_n (lv' := [(3, .int (nI 0)), (0, .ref q_th), (1, .int v1_4), (2, .int v2_4)]) hx hb dX8_isSo_11 rfl hl (by decide) rfl (fun ls hl => ?_)
        exact B_12 N v1_4 (nI 0) hF _ _ _ hP hD hS (lv_sub hl [1, 2, 3, 0] rfl)
  refine lv_istore_n (lv' := [(2, .int (nI 0)), (1, .int (nI 1)), (0, .ref q_th)]) hx hb dX8_isSo_3 rfl hl (by decide) rfl (fun ls hl => ?_)
  exact B_4 N (nI 1) (nI 0) th_now th_from th_to hF _ _ _ hP hD hS (lv_sub hl [2, 1, 0] rfl)
theorem hdX8_salter : yX8_salter.cls ≠ "java/lang/invoke/MethodHandle" ∧ yX8_salter.cls ≠ "java/lang/invoke/VarHandle" ∧ (parseMethodDescriptor yX8_salter.desc).map (fun d => d.parameters.length) = some 1 := by decide +kernel
set_option maxHeartbeats 40000000 in
set_option maxRecDepth 100000 in
theorem kX8_salter (l : Launch) (dC : Nat → ClassId) (dI : Nat → Nat → Nat) (cI : ClassId) (q_th : Nat) (q_th_aside : Nat) (q_th_now : Nat) (q_th_told : Nat) (q_th_from : Nat) (q_th_to : Nat) (q_th_seenNight : Nat) (q_th_seenCell : Nat) (sz : Nat) (x_th_text : Value) (th_letters : Int32) (th_at : Int32) (x_th_read : Value) (th_isMore : Int32) (th_told0 : Int32) (x_th_undone : Value) (th_undos : Int32) (th_beganOn : Int32) (th_beganIn : Int32) (th_first : Int32) (th_second : Int32) (th_seens : Int32) (th_above : Int32) (th_below : Int32) (x_th_kept : Value) (th_keeps : Int32) (th_aside : Nat → Int32) (th_now : Nat → Int32) (th_told : Nat → Int32) (th_from : Nat → Int32) (th_to : Nat → Int32) (th_seenNight : Nat → Int32) (th_seenCell : Nat → Int32) (p1 : Int32) (N : Nat) (o : Int32 × (Nat → Int32) × (Nat → Int32) × (Nat → Int32) × (Nat → Int32)) (hF : fX8_salter N th_seens p1 th_aside th_now th_told th_from th_to th_seenNight th_seenCell = some o) : nx_I l yX8_salter wsX8_salter ({ frames := 7, cells := 0, slots := 0, locals := 167 } : Room) (dC, dI) cI [.ref q_th, .int p1] [(q_th, .inr (8, [.ref q_th_told, .ref q_th_now, x_th_text, .int th_letters, .int th_at, x_th_read, .int th_isMore, .int th_told0, .ref q_th_from, .ref q_th_to, x_th_undone, .int th_undos, .ref q_th_aside, .int th_beganOn, .int th_beganIn, .int th_first, .int th_second, .ref q_th_seenCell, .ref q_th_seenNight, .int th_seens, .int th_above, .int th_below, x_th_kept, .int th_keeps])), (q_th_aside, .inl (cI, 28, .inl th_aside)), (q_th_now, .inl (cI, 28, .inl th_now)), (q_th_told, .inl (cI, 54, .inl th_told)), (q_th_from, .inl (cI, 25, .inl th_from)), (q_th_to, .inl (cI, 25, .inl th_to)), (q_th_seenNight, .inl (cI, 8, .inl th_seenNight)), (q_th_seenCell, .inl (cI, 8, .inl th_seenCell))] sz o.1 [(q_th, .inr (8, [.ref q_th_told, .ref q_th_now, x_th_text, .int th_letters, .int th_at, x_th_read, .int th_isMore, .int th_told0, .ref q_th_from, .ref q_th_to, x_th_undone, .int th_undos, .ref q_th_aside, .int th_beganOn, .int th_beganIn, .int th_first, .int th_second, .ref q_th_seenCell, .ref q_th_seenNight, .int th_seens, .int th_above, .int th_below, x_th_kept, .int th_keeps])), (q_th_aside, .inl (cI, 28, .inl o.2.1)), (q_th_now, .inl (cI, 28, .inl o.2.2.1)), (q_th_told, .inl (cI, 54, .inl th_told)), (q_th_from, .inl (cI, 25, .inl o.2.2.2.1)), (q_th_to, .inl (cI, 25, .inl o.2.2.2.2)), (q_th_seenNight, .inl (cI, 8, .inl th_seenNight)), (q_th_seenCell, .inl (cI, 8, .inl th_seenCell))] := by
  refine nx_int (cc := cX8_salter) (maxL := 4) (by decide) rfl (Nat.le_of_ble_eq_true rfl) ?_
  intro p e s m args below meth c Q A S0 hK hN hA ret0 hP hD hS ls hl
  have S0 : CallFix p m c cX8_salter 4 s args wsX8_salter RX8 := S0
  have hx := S0.1
  have hb := S0.2.1
  have hown := S0.2.2.2.1
  have hts := S0.2.2.2.2
  have hf_7 := hts (.fieldLink RX8 7 "SnailsYearModel" "told" "[I") (by decide +kernel)
  have hin_X8 : ∀ w ∈ wsX80, w ∈ wsX8_salter := by decide +kernel
  have hf_13 := hts (.fieldLink RX8 13 "SnailsYearModel" "now" "[I") (by decide +kernel)
  have hl : lv_has ls 4 [(0, .ref q_th), (1, .int p1)] := hl
  have hret : ∀ (r0 : Int32) (y0 : Nat → Int32) (y1 : Nat → Int32) (y2 : Nat → Int32) (y3 : Nat → Int32) (H : Heap) (locs : List Loc) (ls : Array Slot) (pc : Nat), some (r0, y0, y1, y2, y3) = some o → decode cX8_salter pc = .ok (.ireturn, 1) → va_P (dC, dI) vwCl [(q_th, .inr (8, [.ref q_th_told, .ref q_th_now, x_th_text, .int th_letters, .int th_at, x_th_read, .int th_isMore, .int th_told0, .ref q_th_from, .ref q_th_to, x_th_undone, .int th_undos, .ref q_th_aside, .int th_beganOn, .int th_beganIn, .int th_first, .int th_second, .ref q_th_seenCell, .ref q_th_seenNight, .int th_seens, .int th_above, .int th_below, x_th_kept, .int th_keeps])), (q_th_aside, .inl (cI, 28, .inl y0)), (q_th_now, .inl (cI, 28, .inl y1)), (q_th_told, .inl (cI, 54, .inl th_told)), (q_th_from, .inl (cI, 25, .inl y2)), (q_th_to, .inl (cI, 25, .inl y3)), (q_th_seenNight, .inl (cI, 8, .inl th_seenNight)), (q_th_seenCell, .inl (cI, 8, .inl th_seenCell))] H → va_D A [(q_th, .inr (8, [.ref q_th_told, .ref q_th_now, x_th_text, .int th_letters, .int th_at, x_th_read, .int th_isMore, .int th_told0, .ref q_th_from, .ref q_th_to, x_th_undone, .int th_undos, .ref q_th_aside, .int th_beganOn, .int th_beganIn, .int th_first, .int th_second, .ref q_th_seenCell, .ref q_th_seenNight, .int th_seens, .int th_above, .int th_below, x_th_kept, .int th_keeps])), (q_th_aside, .inl (cI, 28, .inl y0)), (q_th_now, .inl (cI, 28, .inl y1)), (q_th_told, .inl (cI, 54, .inl th_told)), (q_th_from, .inl (cI, 25, .inl y2)), (q_th_to, .inl (cI, 25, .inl y3)), (q_th_seenNight, .inl (cI, 8, .inl th_seenNight)), (q_th_seenCell, .inl (cI, 8, .inl th_seenCell))] → va_S A s.heap H locs → W p l e ({ frames := 7, cells := 0, slots := 0, locals := 167 } : Room) s m args below meth c H locs 0 0 Q (F0 m pc ls [.int r0]) := by
    intro r0 y0 y1 y2 y3 H locs ls pc ho hd hP hD hS
    cases ho
    exact ret0 H locs ls pc hd hP hD hS
  rw [fX8_salter_e] at hF
  refine lv_iload_n hx hb dX8_salter_0 rfl (lv_at hl 1 rfl) ?_
  refine lv_i2l hx hb dX8_salter_1 rfl ?_
  refine lv_lconst (v := (lN 0)) hx hb dX8_salter_2 (by decide) ?_
  refine lv_lconst (v := (lN 1)) hx hb dX8_salter_3 (by decide) ?_
  obtain ⟨o4, hF1, hF⟩ := ng_b hF
  refine nx_callSi (As := [.long p1.toInt64, .long (lN 0), .long (lN 1)]) (rest := []) (W1 := [(q_th, .inr (8, [.ref q_th_told, .ref q_th_now, x_th_text, .int th_letters, .int th_at, x_th_read, .int th_isMore, .int th_told0, .ref q_th_from, .ref q_th_to, x_th_undone, .int th_undos, .ref q_th_aside, .int th_beganOn, .int th_beganIn, .int th_first, .int th_second, .ref q_th_seenCell, .ref q_th_seenNight, .int th_seens, .int th_above, .int th_below, x_th_kept, .int th_keeps])), (q_th_aside, .inl (cI, 28, .inl th_aside)), (q_th_now, .inl (cI, 28, .inl th_now)), (q_th_told, .inl (cI, 54, .inl th_told)), (q_th_from, .inl (cI, 25, .inl th_from)), (q_th_to, .inl (cI, 25, .inl th_to)), (q_th_seenNight, .inl (cI, 8, .inl th_seenNight)), (q_th_seenCell, .inl (cI, 8, .inl th_seenCell))]) (wr := [(q_th, .inr (8, [.ref q_th_told, .ref q_th_now, x_th_text, .int th_letters, .int th_at, x_th_read, .int th_isMore, .int th_told0, .ref q_th_from, .ref q_th_to, x_th_undone, .int th_undos, .ref q_th_aside, .int th_beganOn, .int th_beganIn, .int th_first, .int th_second, .ref q_th_seenCell, .ref q_th_seenNight, .int th_seens, .int th_above, .int th_below, x_th_kept, .int th_keeps])), (q_th_aside, .inl (cI, 28, .inl th_aside)), (q_th_now, .inl (cI, 28, .inl th_now)), (q_th_told, .inl (cI, 54, .inl th_told)), (q_th_from, .inl (cI, 25, .inl th_from)), (q_th_to, .inl (cI, 25, .inl th_to)), (q_th_seenNight, .inl (cI, 8, .inl th_seenNight)), (q_th_seenCell, .inl (cI, 8, .inl th_seenCell))]) S0 hK hN hA hP hD hS (kX8_in l dC dI cI _ p1.toInt64 (lN 0) (lN 1) N o4 hF1) (va_cwS 3 hts gX8_salter_X8_in rfl rfl rfl hdX8_in ⟨Nat.le_of_ble_eq_true rfl, Nat.le_of_ble_eq_true rfl⟩) [] [0, 1, 2, 3, 4, 5, 6, 7] [0, 1, 2, 3, 4, 5, 6, 7] rfl rfl rfl rfl rfl hl.1 rfl (Nat.le_of_ble_eq_true rfl) dX8_salter_4 (fun H locs hP hD hS => ?_)
  refine lv_if_ne (tgt := 12) hx hb dX8_salter_7 (by decide) (fun hc => ?_) (fun hc => ?_)
  · have hF := ng_f hc hF
    refine lv_aload_n hx hb dX8_salter_12 rfl (lv_at hl 0 rfl) ?_
    obtain ⟨o13, hF1, hF⟩ := ng_b hF
    refine nx_callVv (As := []) (rest := []) (W1 := [(q_th, .inr (8, [.ref q_th_told, .ref q_th_now, x_th_text, .int th_letters, .int th_at, x_th_read, .int th_isMore, .int th_told0, .ref q_th_from, .ref q_th_to, x_th_undone, .int th_undos, .ref q_th_aside, .int th_beganOn, .int th_beganIn, .int th_first, .int th_second, .ref q_th_seenCell, .ref q_th_seenNight, .int th_seens, .int th_above, .int th_below, x_th_kept, .int th_keeps])), (q_th_aside, .inl (cI, 28, .inl o13)), (q_th_now, .inl (cI, 28, .inl th_now)), (q_th_told, .inl (cI, 54, .inl th_told)), (q_th_from, .inl (cI, 25, .inl th_from)), (q_th_to, .inl (cI, 25, .inl th_to)), (q_th_seenNight, .inl (cI, 8, .inl th_seenNight)), (q_th_seenCell, .inl (cI, 8, .inl th_seenCell))]) (wr := [(q_th_told, .inl (cI, 54, .inl th_told)), (q_th_from, .inl (cI, 25, .inl th_from)), (q_th_to, .inl (cI, 25, .inl th_to)), (q_th_seenNight, .inl (cI, 8, .inl th_seenNight)), (q_th_seenCell, .inl (cI, 8, .inl th_seenCell))]) S0 hK hN hA hP hD hS (kX8_asides l dC dI cI q_th q_th_aside q_th_now _ (.ref q_th_told) (x_th_text) th_letters th_at (x_th_read) th_isMore th_told0 (.ref q_th_from) (.ref q_th_to) (x_th_undone) th_undos th_beganOn th_beganIn th_first th_second (.ref q_th_seenCell) (.ref q_th_seenNight) th_seens th_above th_below (x_th_kept) th_keeps th_aside th_now N o13 hF1) (cwV 0 hts gX8_salter_X8_asides rfl rfl rfl ⟨rfl, hdX8_asides⟩ ⟨Nat.le_of_ble_eq_true rfl, Nat.le_of_ble_eq_true rfl⟩) [0, 1, 2] [3, 4, 5, 6, 7] [5, 6, 7, 0, 1, 2, 3, 4] rfl rfl rfl rfl 0 8 rfl rfl rfl rfl hl.1 rfl (Nat.le_of_ble_eq_true rfl) dX8_salter_13 (fun H locs hP hD hS => ?_)
    refine lv_aload_n hx hb dX8_salter_16 rfl (lv_at hl 0 rfl) ?_
    obtain ⟨o17, hF1, hF⟩ := ng_b hF
    refine nx_callVv (As := []) (rest := []) (W1 := [(q_th, .inr (8, [.ref q_th_told, .ref q_th_now, x_th_text, .int th_letters, .int th_at, x_th_read, .int th_isMore, .int th_told0, .ref q_th_from, .ref q_th_to, x_th_undone, .int th_undos, .ref q_th_aside, .int th_beganOn, .int th_beganIn, .int th_first, .int th_second, .ref q_th_seenCell, .ref q_th_seenNight, .int th_seens, .int th_above, .int th_below, x_th_kept, .int th_keeps])), (q_th_aside, .inl (cI, 28, .inl o13)), (q_th_now, .inl (cI, 28, .inl o17)), (q_th_told, .inl (cI, 54, .inl th_told)), (q_th_from, .inl (cI, 25, .inl th_from)), (q_th_to, .inl (cI, 25, .inl th_to)), (q_th_seenNight, .inl (cI, 8, .inl th_seenNight)), (q_th_seenCell, .inl (cI, 8, .inl th_seenCell))]) (wr := [(q_th_aside, .inl (cI, 28, .inl o13)), (q_th_from, .inl (cI, 25, .inl th_from)), (q_th_to, .inl (cI, 25, .inl th_to)), (q_th_seenNight, .inl (cI, 8, .inl th_seenNight)), (q_th_seenCell, .inl (cI, 8, .inl th_seenCell))]) S0 hK hN hA hP hD hS (kX8_begins0 l dC dI cI q_th q_th_now q_th_told _ (x_th_text) th_letters th_at (x_th_read) th_isMore th_told0 (.ref q_th_from) (.ref q_th_to) (x_th_undone) th_undos (.ref q_th_aside) th_beganOn th_beganIn th_first th_second (.ref q_th_seenCell) (.ref q_th_seenNight) th_seens th_above th_below (x_th_kept) th_keeps th_now th_told N o17 hF1) (cwV 0 hts gX8_salter_X8_begins0 rfl rfl rfl ⟨rfl, hdX8_begins0⟩ ⟨Nat.le_of_ble_eq_true rfl, Nat.le_of_ble_eq_true rfl⟩) [0, 2, 3] [1, 4, 5, 6, 7] [5, 0, 6, 7, 1, 2, 3, 4] rfl rfl rfl rfl 0 8 rfl rfl rfl rfl hl.1 rfl (Nat.le_of_ble_eq_true rfl) dX8_salter_17 (fun H locs hP hD hS => ?_)
    refine lv_iload_n hx hb dX8_salter_20 rfl (lv_at hl 1 rfl) ?_
    refine lv_iconst (v := (nI 1)) hx hb dX8_salter_21 (by decide) ?_
    refine lv_icmp_ne (tgt := 38) hx hb dX8_salter_22 (by decide) (fun hc => ?_) (fun hc => ?_)
    · have hF := ng_f hc hF
      refine lv_iconst (v := (nI 0)) hx hb dX8_salter_38 (by decide) ?_
      refine lv_istore_n (lv' := [(2, .int (nI 0)), (0, .ref q_th), (1, .int p1)]) hx hb dX8_salter_39 rfl hl (by decide) rfl (fun ls hl => ?_)
      refine lv_iconst (v := (nI 0)) hx hb dX8_salter_40 (by decide) ?_
      have B_42 : ∀ (n_42 : Nat) (v2_42 : Int32) (v3_42 : Int32) (th_now_42 : Nat → Int32) (th_from_42 : Nat → Int32) (th_to_42 : Nat → Int32), fX8_salter_42 N th_seens th_told th_seenNight th_seenCell o13 n_42 v2_42 v3_42 th_now_42 th_from_42 th_to_42 = some o → ∀ (H : Heap) (locs : List Loc) (ls : Array Slot), va_P (dC, dI) vwCl [(q_th, .inr (8, [.ref q_th_told, .ref q_th_now, x_th_text, .int th_letters, .int th_at, x_th_read, .int th_isMore, .int th_told0, .ref q_th_from, .ref q_th_to, x_th_undone, .int th_undos, .ref q_th_aside, .int th_beganOn, .int th_beganIn, .int th_first, .int th_second, .ref q_th_seenCell, .ref q_th_seenNight, .int th_seens, .int th_above, .int th_below, x_th_kept, .int th_keeps])), (q_th_aside, .inl (cI, 28, .inl o13)), (q_th_now, .inl (cI, 28, .inl th_now_42)), (q_th_told, .inl (cI, 54, .inl th_told)), (q_th_from, .inl (cI, 25, .inl th_from_42)), (q_th_to, .inl (cI, 25, .inl th_to_42)), (q_th_seenNight, .inl (cI, 8, .inl th_seenNight)), (q_th_seenCell, .inl (cI, 8, .inl th_seenCell))] H → va_D A [(q_th, .inr (8, [.ref q_th_told, .ref q_th_now, x_th_text, .int th_letters, .int th_at, x_th_read, .int th_isMore, .int th_told0, .ref q_th_from, .ref q_th_to, x_th_undone, .int th_undos, .ref q_th_aside, .int th_beganOn, .int th_beganIn, .int th_first, .int th_second, .ref q_th_seenCell, .ref q_th_seenNight, .int th_seens, .int th_above, .int th_below, x_th_kept, .int th_keeps])), (q_th_aside, .inl (cI, 28, .inl o13)), (q_th_now, .inl (cI, 28, .inl th_now_42)), (q_th_told, .inl (cI, 54, .inl th_told)), (q_th_from, .inl (cI, 25, .inl th_from_42)), (q_th_to, .inl (cI, 25, .inl th_to_42)), (q_th_seenNight, .inl (cI, 8, .inl th_seenNight)), (q_th_seenCell, .inl (cI, 8, .inl th_seenCell))] → va_S A s.heap H locs → lv_has ls 4 [(0, .ref q_th), (2, .int v2_42), (3, .int v3_42)] → W p l e ({ frames := 7, cells := 0, slots := 0, locals := 167 } : Room) s m args below meth c H locs 0 0 Q (F0 m 42 ls []) := by
        intro n_42
        induction n_42 with
        | zero =>
          intro v2_42 v3_42 th_now_42 th_from_42 th_to_42 hF
          rw [fX8_salter_42_z] at hF
          cases hF
        | succ n_42 ih_42 =>
          intro v2_42 v3_42 th_now_42 th_from_42 th_to_42 hF H locs ls hP hD hS hl
          rw [fX8_salter_42_s] at hF
          refine lv_iload_n hx hb dX8_salter_42 rfl (lv_at hl 2 rfl) ?_
          refine lv_aload_n hx hb dX8_salter_43 rfl (lv_at hl 0 rfl) ?_
          obtain ⟨o44, hF1, hF⟩ := ng_b hF
          refine nx_callVi (As := []) (rest := [.int v3_42]) (W1 := [(q_th, .inr (8, [.ref q_th_told, .ref q_th_now, x_th_text, .int th_letters, .int th_at, x_th_read, .int th_isMore, .int th_told0, .ref q_th_from, .ref q_th_to, x_th_undone, .int th_undos, .ref q_th_aside, .int th_beganOn, .int th_beganIn, .int th_first, .int th_second, .ref q_th_seenCell, .ref q_th_seenNight, .int th_seens, .int th_above, .int th_below, x_th_kept, .int th_keeps])), (q_th_aside, .inl (cI, 28, .inl o13)), (q_th_now, .inl (cI, 28, .inl th_now_42)), (q_th_told, .inl (cI, 54, .inl th_told)), (q_th_from, .inl (cI, 25, .inl th_from_42)), (q_th_to, .inl (cI, 25, .inl th_to_42)), (q_th_seenNight, .inl (cI, 8, .inl th_seenNight)), (q_th_seenCell, .inl (cI, 8, .inl th_seenCell))]) (wr := [(q_th_aside, .inl (cI, 28, .inl o13)), (q_th_now, .inl (cI, 28, .inl th_now_42)), (q_th_from, .inl (cI, 25, .inl th_from_42)), (q_th_to, .inl (cI, 25, .inl th_to_42)), (q_th_seenNight, .inl (cI, 8, .inl th_seenNight)), (q_th_seenCell, .inl (cI, 8, .inl th_seenCell))]) S0 hK hN hA hP hD hS (kX8_cells l dC dI cI q_th q_th_told _ (.ref q_th_now) (x_th_text) th_letters th_at (x_th_read) th_isMore th_told0 (.ref q_th_from) (.ref q_th_to) (x_th_undone) th_undos (.ref q_th_aside) th_beganOn th_beganIn th_first th_second (.ref q_th_seenCell) (.ref q_th_seenNight) th_seens th_above th_below (x_th_kept) th_keeps th_told N o44 hF1) (cwV 0 hts gX8_salter_X8_cells rfl rfl rfl ⟨rfl, hdX8_cells⟩ ⟨Nat.le_of_ble_eq_true rfl, Nat.le_of_ble_eq_true rfl⟩) [0, 3] [1, 2, 4, 5, 6, 7] [6, 0, 1, 7, 2, 3, 4, 5] rfl rfl rfl rfl 0 8 rfl rfl rfl rfl hl.1 rfl (Nat.le_of_ble_eq_true rfl) dX8_salter_44 (fun H locs hP hD hS => ?_)
          refine lv_icmp_ge (tgt := 108) hx hb dX8_salter_47 (by decide) (fun hc => ?_) (fun hc => ?_)
          · have hF := ng_t hc hF
            refine lv_aload_n hx hb dX8_salter_108 rfl (lv_at hl 0 rfl) ?_
            obtain ⟨o109, hF1, hF⟩ := ng_b hF
            refine nx_callVv (As := []) (rest := []) (W1 := [(q_th, .inr (8, [.ref q_th_told, .ref q_th_now, x_th_text, .int th_letters, .int th_at, x_th_read, .int th_isMore, .int th_told0, .ref q_th_from, .ref q_th_to, x_th_undone, .int th_undos, .ref q_th_aside, .int th_beganOn, .int th_beganIn, .int th_first, .int th_second, .ref q_th_seenCell, .ref q_th_seenNight, .int th_seens, .int th_above, .int th_below, x_th_kept, .int th_keeps])), (q_th_aside, .inl (cI, 28, .inl o13)), (q_th_now, .inl (cI, 28, .inl o109)), (q_th_told, .inl (cI, 54, .inl th_told)), (q_th_from, .inl (cI, 25, .inl th_from_42)), (q_th_to, .inl (cI, 25, .inl th_to_42)), (q_th_seenNight, .inl (cI, 8, .inl th_seenNight)), (q_th_seenCell, .inl (cI, 8, .inl th_seenCell))]) (wr := [(q_th_told, .inl (cI, 54, .inl th_told)), (q_th_from, .inl (cI, 25, .inl th_from_42)), (q_th_to, .inl (cI, 25, .inl th_to_42)), (q_th_seenNight, .inl (cI, 8, .inl th_seenNight)), (q_th_seenCell, .inl (cI, 8, .inl th_seenCell))]) S0 hK hN hA hP hD hS (kX8_backs l dC dI cI q_th q_th_now q_th_aside _ (.ref q_th_told) (x_th_text) th_letters th_at (x_th_read) th_isMore th_told0 (.ref q_th_from) (.ref q_th_to) (x_th_undone) th_undos th_beganOn th_beganIn th_first th_second (.ref q_th_seenCell) (.ref q_th_seenNight) th_seens th_above th_below (x_th_kept) th_keeps th_now_42 o13 N o109 hF1) (cwV 0 hts gX8_salter_X8_backs rfl rfl rfl ⟨rfl, hdX8_backs⟩ ⟨Nat.le_of_ble_eq_true rfl, Nat.le_of_ble_eq_true rfl⟩) [0, 2, 1] [3, 4, 5, 6, 7] [5, 7, 6, 0, 1, 2, 3, 4] rfl rfl rfl rfl 0 8 rfl rfl rfl rfl hl.1 rfl (Nat.le_of_ble_eq_true rfl) dX8_salter_109 (fun H locs hP hD hS => ?_)
            refine lv_iload_n hx hb dX8_salter_112 rfl (lv_at hl 1 rfl) ?_
            exact hret v2_42 o13 o109 th_from_42 th_to_42 _ _ _ _ hF dX8_salter_113 hP hD hS
          · have hF := ng_f hc hF
            refine lv_aload_n hx hb dX8_salter_50 rfl (lv_at hl 0 rfl) ?_
            refine nx_get S0 hK hP 0 0 hin_X8 hf_7 rfl rfl (by decide) rfl rfl dX8_salter_51 ?_
            refine lv_bipush (v := (nI 29)) hx hb dX8_salter_54 (by decide) ?_
            refine lv_iload_n hx hb dX8_salter_56 rfl (lv_at hl 2 rfl) ?_
            refine lv_iadd hx hb dX8_salter_57 ?_
            have hg := ng_p hF
            have hF := ng_x hF
            refine nx_iald S0 hK hP 3 (v := th_told (((nI 29) + v3_42).toNatClampNeg)) rfl hg rfl dX8_salter_58 ?_
            refine lv_if_ne (tgt := 102) hx hb dX8_salter_59 (by decide) (fun hc => ?_) (fun hc => ?_)
            · have hF := ng_f hc hF
              refine lv_iinc (v := v3_42 + (nI 1)) (lv' := [(3, .int (v3_42 + (nI 1))), (0, .ref q_th), (2, .int v2_42)]) hx hb dX8_salter_102 hl (k := 2) rfl rfl (by decide) rfl (fun ls hl => ?_)
              refine lv_goto (tgt := 42) hx hb dX8_salter_105 (by decide) ?_
              exact ih_42 v2_42 (v3_42 + (nI 1)) th_now_42 th_from_42 th_to_42 hF _ _ _ hP hD hS (lv_sub hl [1, 2, 0] rfl)
            · have hF := ng_t hc hF
              refine lv_iload_n hx hb dX8_salter_62 rfl (lv_at hl 2 rfl) ?_
              refine lv_aload_n hx hb dX8_salter_63 rfl (lv_at hl 0 rfl) ?_
              refine nx_get S0 hK hP 0 0 hin_X8 hf_7 rfl rfl (by decide) rfl rfl dX8_salter_64 ?_
              refine lv_iconst (v := (nI 2)) hx hb dX8_salter_67 (by decide) ?_
              refine nx_iald S0 hK hP 3 (v := th_told 2) rfl (by decide) rfl dX8_salter_68 ?_
              refine lv_icmp_eq (tgt := 102) hx hb dX8_salter_69 (by decide) (fun hc => ?_) (fun hc => ?_)
              · have hF := ng_t hc hF
                refine lv_iinc (v := v3_42 + (nI 1)) (lv' := [(3, .int (v3_42 + (nI 1))), (0, .ref q_th), (2, .int v2_42)]) hx hb dX8_salter_102 hl (k := 2) rfl rfl (by decide) rfl (fun ls hl => ?_)
                refine lv_goto (tgt := 42) hx hb dX8_salter_105 (by decide) ?_
                exact ih_42 v2_42 (v3_42 + (nI 1)) th_now_42 th_from_42 th_to_42 hF _ _ _ hP hD hS (lv_sub hl [1, 2, 0] rfl)
              · have hF := ng_f hc hF
                refine lv_aload_n hx hb dX8_salter_72 rfl (lv_at hl 0 rfl) ?_
                obtain ⟨o73, hF1, hF⟩ := ng_b hF
                refine nx_callVv (As := []) (rest := []) (W1 := [(q_th, .inr (8, [.ref q_th_told, .ref q_th_now, x_th_text, .int th_letters, .int th_at, x_th_read, .int th_isMore, .int th_told0, .ref q_th_from, .ref q_th_to, x_th_undone, .int th_undos, .ref q_th_aside, .int th_beganOn, .int th_beganIn, .int th_first, .int th_second, .ref q_th_seenCell, .ref q_th_seenNight, .int th_seens, .int th_above, .int th_below, x_th_kept, .int th_keeps])), (q_th_aside, .inl (cI, 28, .inl o13)), (q_th_now, .inl (cI, 28, .inl o73)), (q_th_told, .inl (cI, 54, .inl th_told)), (q_th_from, .inl (cI, 25, .inl th_from_42)), (q_th_to, .inl (cI, 25, .inl th_to_42)), (q_th_seenNight, .inl (cI, 8, .inl th_seenNight)), (q_th_seenCell, .inl (cI, 8, .inl th_seenCell))]) (wr := [(q_th_aside, .inl (cI, 28, .inl o13)), (q_th_from, .inl (cI, 25, .inl th_from_42)), (q_th_to, .inl (cI, 25, .inl th_to_42)), (q_th_seenNight, .inl (cI, 8, .inl th_seenNight)), (q_th_seenCell, .inl (cI, 8, .inl th_seenCell))]) S0 hK hN hA hP hD hS (kX8_begins0 l dC dI cI q_th q_th_now q_th_told _ (x_th_text) th_letters th_at (x_th_read) th_isMore th_told0 (.ref q_th_from) (.ref q_th_to) (x_th_undone) th_undos (.ref q_th_aside) th_beganOn th_beganIn th_first th_second (.ref q_th_seenCell) (.ref q_th_seenNight) th_seens th_above th_below (x_th_kept) th_keeps th_now_42 th_told N o73 hF1) (cwV 0 hts gX8_salter_X8_begins0 rfl rfl rfl ⟨rfl, hdX8_begins0⟩ ⟨Nat.le_of_ble_eq_true rfl, Nat.le_of_ble_eq_true rfl⟩) [0, 2, 3] [1, 4, 5, 6, 7] [5, 0, 6, 7, 1, 2, 3, 4] rfl rfl rfl rfl 0 8 rfl rfl rfl rfl hl.1 rfl (Nat.le_of_ble_eq_true rfl) dX8_salter_73 (fun H locs hP hD hS => ?_)
                refine lv_aload_n hx hb dX8_salter_76 rfl (lv_at hl 0 rfl) ?_
                refine nx_get S0 hK hP 0 1 hin_X8 hf_13 rfl rfl (by decide) rfl rfl dX8_salter_77 ?_
                refine lv_iconst (v := (nI 3)) hx hb dX8_salter_80 (by decide) ?_
                refine lv_iload_n hx hb dX8_salter_81 rfl (lv_at hl 2 rfl) ?_
                refine lv_iadd hx hb dX8_salter_82 ?_
                refine lv_iconst (v := (nI 2)) hx hb dX8_salter_83 (by decide) ?_
                have hg := ng_p hF
                have hF := ng_x hF
                refine nx_iast S0 hK hP hD hS 2 rfl hg dX8_salter_84 (W1 := [(q_th, .inr (8, [.ref q_th_told, .ref q_th_now, x_th_text, .int th_letters, .int th_at, x_th_read, .int th_isMore, .int th_told0, .ref q_th_from, .ref q_th_to, x_th_undone, .int th_undos, .ref q_th_aside, .int th_beganOn, .int th_beganIn, .int th_first, .int th_second, .ref q_th_seenCell, .ref q_th_seenNight, .int th_seens, .int th_above, .int th_below, x_th_kept, .int th_keeps])), (q_th_aside, .inl (cI, 28, .inl o13)), (q_th_now, .inl (cI, 28, .inl (upd o73 (((nI 3) + v3_42).toNatClampNeg) (nI 2)))), (q_th_told, .inl (cI, 54, .inl th_told)), (q_th_from, .inl (cI, 25, .inl th_from_42)), (q_th_to, .inl (cI, 25, .inl th_to_42)), (q_th_seenNight, .inl (cI, 8, .inl th_seenNight)), (q_th_seenCell, .inl (cI, 8, .inl th_seenCell))]) rfl (fun H locs hP hD hS => ?_)
                refine lv_iload_n hx hb dX8_salter_85 rfl (lv_at hl 1 rfl) ?_
                refine lv_aload_n hx hb dX8_salter_86 rfl (lv_at hl 0 rfl) ?_
                obtain ⟨o87, hF1, hF⟩ := ng_b hF
                refine nx_callVi (As := []) (rest := [.int v2_42]) (W1 := [(q_th, .inr (8, [.ref q_th_told, .ref q_th_now, x_th_text, .int th_letters, .int th_at, x_th_read, .int th_isMore, .int th_told0, .ref q_th_from, .ref q_th_to, x_th_undone, .int th_undos, .ref q_th_aside, .int th_beganOn, .int th_beganIn, .int th_first, .int th_second, .ref q_th_seenCell, .ref q_th_seenNight, .int th_seens, .int th_above, .int th_below, x_th_kept, .int th_keeps])), (q_th_aside, .inl (cI, 28, .inl o13)), (q_th_now, .inl (cI, 28, .inl o87.2.1)), (q_th_told, .inl (cI, 54, .inl th_told)), (q_th_from, .inl (cI, 25, .inl o87.2.2.1)), (q_th_to, .inl (cI, 25, .inl o87.2.2.2)), (q_th_seenNight, .inl (cI, 8, .inl th_seenNight)), (q_th_seenCell, .inl (cI, 8, .inl th_seenCell))]) (wr := []) S0 hK hN hA hP hD hS (kX8_isSo l dC dI cI q_th q_th_now q_th_aside q_th_told q_th_from q_th_to q_th_seenNight q_th_seenCell _ (x_th_text) th_letters th_at (x_th_read) th_isMore th_told0 (x_th_undone) th_undos th_beganOn th_beganIn th_first th_second th_seens th_above th_below (x_th_kept) th_keeps (upd o73 (((nI 3) + v3_42).toNatClampNeg) (nI 2)) o13 th_told th_from_42 th_to_42 th_seenNight th_seenCell N o87 hF1) (cwV 0 hts gX8_salter_X8_isSo rfl rfl rfl ⟨rfl, hdX8_isSo⟩ ⟨Nat.le_of_ble_eq_true rfl, Nat.le_of_ble_eq_true rfl⟩) [0, 2, 1, 3, 4, 5, 6, 7] [] [0, 2, 1, 3, 4, 5, 6, 7] rfl rfl rfl rfl 0 8 rfl rfl rfl rfl hl.1 rfl (Nat.le_of_ble_eq_true rfl) dX8_salter_87 (fun H locs hP hD hS => ?_)
                refine lv_if_eq (tgt := 99) hx hb dX8_salter_90 (by decide) (fun hc => ?_) (fun hc => ?_)
                · have hF := ng_t hc hF
                  refine lv_iconst (v := (nI 0)) hx hb dX8_salter_99 (by decide) ?_
                  refine lv_ior hx hb dX8_salter_100 ?_
                  refine lv_istore_n (lv' := [(2, .int (v2_42 ||| (nI 0))), (0, .ref q_th), (3, .int v3_42)]) hx hb dX8_salter_101 rfl hl (by decide) rfl (fun ls hl => ?_)
                  refine lv_iinc (v := v3_42 + (nI 1)) (lv' := [(3, .int (v3_42 + (nI 1))), (2, .int (v2_42 ||| (nI 0))), (0, .ref q_th)]) hx hb dX8_salter_102 hl (k := 2) rfl rfl (by decide) rfl (fun ls hl => ?_)
                  refine lv_goto (tgt := 42) hx hb dX8_salter_105 (by decide) ?_
                  exact ih_42 (v2_42 ||| (nI 0)) (v3_42 + (nI 1)) o87.2.1 o87.2.2.1 o87.2.2.2 hF _ _ _ hP hD hS (lv_sub hl [2, 1, 0] rfl)
                · have hF := ng_f hc hF
                  refine lv_iconst (v := (nI 1)) hx hb dX8_salter_93 (by decide) ?_
                  refine lv_iload_n hx hb dX8_salter_94 rfl (lv_at hl 2 rfl) ?_
                  refine lv_ishl hx hb dX8_salter_95 ?_
                  refine lv_goto (tgt := 100) hx hb dX8_salter_96 (by decide) ?_
                  refine lv_ior hx hb dX8_salter_100 ?_
                  refine lv_istore_n (lv' := [(2, .int (v2_42 ||| ((nI 1) <<< (v3_42 &&& 31)))), (0, .ref q_th), (3, .int v3_42)]) hx hb dX8_salter_101 rfl hl (by decide) rfl (fun ls hl => ?_)
                  refine lv_iinc (v := v3_42 + (nI 1)) (lv' := [(3, .int (v3_42 + (nI 1))), (2, .int (v2_42 ||| ((nI 1) <<< (v3_42 &&& 31)))), (0, .ref q_th)]) hx hb dX8_salter_102 hl (k := 2) rfl rfl (by decide) rfl (fun ls hl => ?_)
                  refine lv_goto (tgt := 42) hx hb dX8_salter_105 (by decide) ?_
                  exact ih_42 (v2_42 ||| ((nI 1) <<< (v3_42 &&& 31))) (v3_42 + (nI 1)) o87.2.1 o87.2.2.1 o87.2.2.2 hF _ _ _ hP hD hS (lv_sub hl [2, 1, 0] rfl)
      refine lv_istore_n (lv' := [(3, .int (nI 0)), (2, .int (nI 0)), (0, .ref q_th), (1, .int p1)]) hx hb dX8_salter_41 rfl hl (by decide) rfl (fun ls hl => ?_)
      exact B_42 N (nI 0) (nI 0) o17 th_from th_to hF _ _ _ hP hD hS (lv_sub hl [2, 1, 0] rfl)
    · have hF := ng_t hc hF
      refine lv_aload_n hx hb dX8_salter_25 rfl (lv_at hl 0 rfl) ?_
      obtain ⟨o26, hF1, hF⟩ := ng_b hF
      refine nx_callVi (As := []) (rest := []) (W1 := [(q_th, .inr (8, [.ref q_th_told, .ref q_th_now, x_th_text, .int th_letters, .int th_at, x_th_read, .int th_isMore, .int th_told0, .ref q_th_from, .ref q_th_to, x_th_undone, .int th_undos, .ref q_th_aside, .int th_beganOn, .int th_beganIn, .int th_first, .int th_second, .ref q_th_seenCell, .ref q_th_seenNight, .int th_seens, .int th_above, .int th_below, x_th_kept, .int th_keeps])), (q_th_aside, .inl (cI, 28, .inl o13)), (q_th_now, .inl (cI, 28, .inl o26.2.1)), (q_th_told, .inl (cI, 54, .inl th_told)), (q_th_from, .inl (cI, 25, .inl o26.2.2.1)), (q_th_to, .inl (cI, 25, .inl o26.2.2.2)), (q_th_seenNight, .inl (cI, 8, .inl th_seenNight)), (q_th_seenCell, .inl (cI, 8, .inl th_seenCell))]) (wr := []) S0 hK hN hA hP hD hS (kX8_isSo l dC dI cI q_th q_th_now q_th_aside q_th_told q_th_from q_th_to q_th_seenNight q_th_seenCell _ (x_th_text) th_letters th_at (x_th_read) th_isMore th_told0 (x_th_undone) th_undos th_beganOn th_beganIn th_first th_second th_seens th_above th_below (x_th_kept) th_keeps o17 o13 th_told th_from th_to th_seenNight th_seenCell N o26 hF1) (cwV 0 hts gX8_salter_X8_isSo rfl rfl rfl ⟨rfl, hdX8_isSo⟩ ⟨Nat.le_of_ble_eq_true rfl, Nat.le_of_ble_eq_true rfl⟩) [0, 2, 1, 3, 4, 5, 6, 7] [] [0, 2, 1, 3, 4, 5, 6, 7] rfl rfl rfl rfl 0 8 rfl rfl rfl rfl hl.1 rfl (Nat.le_of_ble_eq_true rfl) dX8_salter_26 (fun H locs hP hD hS => ?_)
      refine lv_if_eq (tgt := 36) hx hb dX8_salter_29 (by decide) (fun hc => ?_) (fun hc => ?_)
      · have hF := ng_t hc hF
        refine lv_iconst (v := (nI 0)) hx hb dX8_salter_36 (by decide) ?_
        exact hret (nI 0) o13 o26.2.1 o26.2.2.1 o26.2.2.2 _ _ _ _ hF dX8_salter_37 hP hD hS
      · have hF := ng_f hc hF
        refine lv_iconst (v := (nI 1)) hx hb dX8_salter_32 (by decide) ?_
        refine lv_goto (tgt := 37) hx hb dX8_salter_33 (by decide) ?_
        exact hret (nI 1) o13 o26.2.1 o26.2.2.1 o26.2.2.2 _ _ _ _ hF dX8_salter_37 hP hD hS
  · have hF := ng_t hc hF
    refine lv_iconst (v := (-1 : Int32)) hx hb dX8_salter_10 (by decide) ?_
    exact hret (-1 : Int32) th_aside th_now th_from th_to _ _ _ _ hF dX8_salter_11 hP hD hS
