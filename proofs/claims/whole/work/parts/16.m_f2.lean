theorem hdX8_slept : yX8_slept.cls ≠ "java/lang/invoke/MethodHandle" ∧ yX8_slept.cls ≠ "java/lang/invoke/VarHandle" ∧ (parseMethodDescriptor yX8_slept.desc).map (fun d => d.parameters.length) = some 0 := by decide +kernel
set_option maxHeartbeats 40000000 in
set_option maxRecDepth 100000 in
theorem kX8_slept (l : Launch) (dC : Nat → ClassId) (dI : Nat → Nat → Nat) (cI : ClassId) (q_th : Nat) (q_th_aside : Nat) (q_th_now : Nat) (q_th_told : Nat) (q_th_from : Nat) (q_th_to : Nat) (sz : Nat) (x_th_text : Value) (th_letters : Int32) (th_at : Int32) (x_th_read : Value) (th_isMore : Int32) (th_told0 : Int32) (x_th_undone : Value) (th_undos : Int32) (th_beganOn : Int32) (th_beganIn : Int32) (th_first : Int32) (th_second : Int32) (x_th_seenCell : Value) (x_th_seenNight : Value) (th_seens : Int32) (th_above : Int32) (th_below : Int32) (x_th_kept : Value) (th_keeps : Int32) (th_aside : Nat → Int32) (th_now : Nat → Int32) (th_told : Nat → Int32) (th_from : Nat → Int32) (th_to : Nat → Int32) (N : Nat) (o : Int32 × (Nat → Int32) × (Nat → Int32) × (Nat → Int32) × (Nat → Int32)) (hF : fX8_slept N th_aside th_now th_told th_from th_to = some o) : nx_I l yX8_slept wsX8_slept ({ frames := 6, cells := 0, slots := 0, locals := 144 } : Room) (dC, dI) cI [.ref q_th] [(q_th, .inr (8, [.ref q_th_told, .ref q_th_now, x_th_text, .int th_letters, .int th_at, x_th_read, .int th_isMore, .int th_told0, .ref q_th_from, .ref q_th_to, x_th_undone, .int th_undos, .ref q_th_aside, .int th_beganOn, .int th_beganIn, .int th_first, .int th_second, x_th_seenCell, x_th_seenNight, .int th_seens, .int th_above, .int th_below, x_th_kept, .int th_keeps])), (q_th_aside, .inl (cI, 28, .inl th_aside)), (q_th_now, .inl (cI, 28, .inl th_now)), (q_th_told, .inl (cI, 54, .inl th_told)), (q_th_from, .inl (cI, 25, .inl th_from)), (q_th_to, .inl (cI, 25, .inl th_to))] sz o.1 [(q_th, .inr (8, [.ref q_th_told, .ref q_th_now, x_th_text, .int th_letters, .int th_at, x_th_read, .int th_isMore, .int th_told0, .ref q_th_from, .ref q_th_to, x_th_undone, .int th_undos, .ref q_th_aside, .int th_beganOn, .int th_beganIn, .int th_first, .int th_second, x_th_seenCell, x_th_seenNight, .int th_seens, .int th_above, .int th_below, x_th_kept, .int th_keeps])), (q_th_aside, .inl (cI, 28, .inl o.2.1)), (q_th_now, .inl (cI, 28, .inl o.2.2.1)), (q_th_told, .inl (cI, 54, .inl th_told)), (q_th_from, .inl (cI, 25, .inl o.2.2.2.1)), (q_th_to, .inl (cI, 25, .inl o.2.2.2.2))] := by
  refine nx_int (cc := cX8_slept) (maxL := 3) (by decide) rfl (Nat.le_of_ble_eq_true rfl) ?_
  intro p e s m args below meth c Q A S0 hK hN hA ret0 hP hD hS ls hl
  have S0 : CallFix p m c cX8_slept 3 s args wsX8_slept RX8 := S0
  have hx := S0.1
  have hb := S0.2.1
  have hown := S0.2.2.2.1
  have hts := S0.2.2.2.2
  have hl : lv_has ls 3 [(0, .ref q_th)] := hl
  have hret : ∀ (r0 : Int32) (y0 : Nat → Int32) (y1 : Nat → Int32) (y2 : Nat → Int32) (y3 : Nat → Int32) (H : Heap) (locs : List Loc) (ls : Array Slot) (pc : Nat), some (r0, y0, y1, y2, y3) = some o → decode cX8_slept pc = .ok (.ireturn, 1) → va_P (dC, dI) vwCl [(q_th, .inr (8, [.ref q_th_told, .ref q_th_now, x_th_text, .int th_letters, .int th_at, x_th_read, .int th_isMore, .int th_told0, .ref q_th_from, .ref q_th_to, x_th_undone, .int th_undos, .ref q_th_aside, .int th_beganOn, .int th_beganIn, .int th_first, .int th_second, x_th_seenCell, x_th_seenNight, .int th_seens, .int th_above, .int th_below, x_th_kept, .int th_keeps])), (q_th_aside, .inl (cI, 28, .inl y0)), (q_th_now, .inl (cI, 28, .inl y1)), (q_th_told, .inl (cI, 54, .inl th_told)), (q_th_from, .inl (cI, 25, .inl y2)), (q_th_to, .inl (cI, 25, .inl y3))] H → va_D A [(q_th, .inr (8, [.ref q_th_told, .ref q_th_now, x_th_text, .int th_letters, .int th_at, x_th_read, .int th_isMore, .int th_told0, .ref q_th_from, .ref q_th_to, x_th_undone, .int th_undos, .ref q_th_aside, .int th_beganOn, .int th_beganIn, .int th_first, .int th_second, x_th_seenCell, x_th_seenNight, .int th_seens, .int th_above, .int th_below, x_th_kept, .int th_keeps])), (q_th_aside, .inl (cI, 28, .inl y0)), (q_th_now, .inl (cI, 28, .inl y1)), (q_th_told, .inl (cI, 54, .inl th_told)), (q_th_from, .inl (cI, 25, .inl y2)), (q_th_to, .inl (cI, 25, .inl y3))] → va_S A s.heap H locs → W p l e ({ frames := 6, cells := 0, slots := 0, locals := 144 } : Room) s m args below meth c H locs 0 0 Q (F0 m pc ls [.int r0]) := by
    intro r0 y0 y1 y2 y3 H locs ls pc ho hd hP hD hS
    cases ho
    exact ret0 H locs ls pc hd hP hD hS
  rw [fX8_slept_e] at hF
  refine lv_aload_n hx hb dX8_slept_0 rfl (lv_at hl 0 rfl) ?_
  obtain ⟨o1, hF1, hF⟩ := ng_b hF
  refine nx_callVv (As := []) (rest := []) (W1 := [(q_th, .inr (8, [.ref q_th_told, .ref q_th_now, x_th_text, .int th_letters, .int th_at, x_th_read, .int th_isMore, .int th_told0, .ref q_th_from, .ref q_th_to, x_th_undone, .int th_undos, .ref q_th_aside, .int th_beganOn, .int th_beganIn, .int th_first, .int th_second, x_th_seenCell, x_th_seenNight, .int th_seens, .int th_above, .int th_below, x_th_kept, .int th_keeps])), (q_th_aside, .inl (cI, 28, .inl o1)), (q_th_now, .inl (cI, 28, .inl th_now)), (q_th_told, .inl (cI, 54, .inl th_told)), (q_th_from, .inl (cI, 25, .inl th_from)), (q_th_to, .inl (cI, 25, .inl th_to))]) (wr := [(q_th_told, .inl (cI, 54, .inl th_told)), (q_th_from, .inl (cI, 25, .inl th_from)), (q_th_to, .inl (cI, 25, .inl th_to))]) S0 hK hN hA hP hD hS (kX8_asides l dC dI cI q_th q_th_aside q_th_now _ (.ref q_th_told) (x_th_text) th_letters th_at (x_th_read) th_isMore th_told0 (.ref q_th_from) (.ref q_th_to) (x_th_undone) th_undos th_beganOn th_beganIn th_first th_second (x_th_seenCell) (x_th_seenNight) th_seens th_above th_below (x_th_kept) th_keeps th_aside th_now N o1 hF1) (cwV 0 hts gX8_slept_X8_asides rfl rfl rfl ⟨rfl, hdX8_asides⟩ ⟨Nat.le_of_ble_eq_true rfl, Nat.le_of_ble_eq_true rfl⟩) [0, 1, 2] [3, 4, 5] [3, 4, 5, 0, 1, 2] rfl rfl rfl rfl 0 8 rfl rfl rfl rfl hl.1 rfl (Nat.le_of_ble_eq_true rfl) dX8_slept_1 (fun H locs hP hD hS => ?_)
  refine lv_aload_n hx hb dX8_slept_4 rfl (lv_at hl 0 rfl) ?_
  obtain ⟨o5, hF1, hF⟩ := ng_b hF
  refine nx_callVv (As := []) (rest := []) (W1 := [(q_th, .inr (8, [.ref q_th_told, .ref q_th_now, x_th_text, .int th_letters, .int th_at, x_th_read, .int th_isMore, .int th_told0, .ref q_th_from, .ref q_th_to, x_th_undone, .int th_undos, .ref q_th_aside, .int th_beganOn, .int th_beganIn, .int th_first, .int th_second, x_th_seenCell, x_th_seenNight, .int th_seens, .int th_above, .int th_below, x_th_kept, .int th_keeps])), (q_th_aside, .inl (cI, 28, .inl o1)), (q_th_now, .inl (cI, 28, .inl o5)), (q_th_told, .inl (cI, 54, .inl th_told)), (q_th_from, .inl (cI, 25, .inl th_from)), (q_th_to, .inl (cI, 25, .inl th_to))]) (wr := [(q_th_aside, .inl (cI, 28, .inl o1)), (q_th_from, .inl (cI, 25, .inl th_from)), (q_th_to, .inl (cI, 25, .inl th_to))]) S0 hK hN hA hP hD hS (kX8_begins0 l dC dI cI q_th q_th_now q_th_told _ (x_th_text) th_letters th_at (x_th_read) th_isMore th_told0 (.ref q_th_from) (.ref q_th_to) (x_th_undone) th_undos (.ref q_th_aside) th_beganOn th_beganIn th_first th_second (x_th_seenCell) (x_th_seenNight) th_seens th_above th_below (x_th_kept) th_keeps th_now th_told N o5 hF1) (cwV 0 hts gX8_slept_X8_begins0 rfl rfl rfl ⟨rfl, hdX8_begins0⟩ ⟨Nat.le_of_ble_eq_true rfl, Nat.le_of_ble_eq_true rfl⟩) [0, 2, 3] [1, 4, 5] [3, 0, 4, 5, 1, 2] rfl rfl rfl rfl 0 8 rfl rfl rfl rfl hl.1 rfl (Nat.le_of_ble_eq_true rfl) dX8_slept_5 (fun H locs hP hD hS => ?_)
  refine lv_iconst (v := (nI 0)) hx hb dX8_slept_8 (by decide) ?_
  refine lv_istore_n (lv' := [(1, .int (nI 0)), (0, .ref q_th)]) hx hb dX8_slept_9 rfl hl (by decide) rfl (fun ls hl => ?_)
  refine lv_iconst (v := (nI 0)) hx hb dX8_slept_10 (by decide) ?_
  have B_12 : ∀ (n_12 : Nat) (v1_12 : Int32) (v2_12 : Int32) (th_now_12 : Nat → Int32) (th_from_12 : Nat → Int32) (th_to_12 : Nat → Int32), fX8_slept_12 N th_told o1 n_12 v1_12 v2_12 th_now_12 th_from_12 th_to_12 = some o → ∀ (H : Heap) (locs : List Loc) (ls : Array Slot), va_P (dC, dI) vwCl [(q_th, .inr (8, [.ref q_th_told, .ref q_th_now, x_th_text, .int th_letters, .int th_at, x_th_read, .int th_isMore, .int th_told0, .ref q_th_from, .ref q_th_to, x_th_undone, .int th_undos, .ref q_th_aside, .int th_beganOn, .int th_beganIn, .int th_first, .int th_second, x_th_seenCell, x_th_seenNight, .int th_seens, .int th_above, .int th_below, x_th_kept, .int th_keeps])), (q_th_aside, .inl (cI, 28, .inl o1)), (q_th_now, .inl (cI, 28, .inl th_now_12)), (q_th_told, .inl (cI, 54, .inl th_told)), (q_th_from, .inl (cI, 25, .inl th_from_12)), (q_th_to, .inl (cI, 25, .inl th_to_12))] H → va_D A [(q_th, .inr (8, [.ref q_th_told, .ref q_th_now, x_th_text, .int th_letters, .int th_at, x_th_read, .int th_isMore, .int th_told0, .ref q_th_from, .ref q_th_to, x_th_undone, .int th_undos, .ref q_th_aside, .int th_beganOn, .int th_beganIn, .int th_first, .int th_second, x_th_seenCell, x_th_seenNight, .int th_seens, .int th_above, .int th_below, x_th_kept, .int th_keeps])), (q_th_aside, .inl (cI, 28, .inl o1)), (q_th_now, .inl (cI, 28, .inl th_now_12)), (q_th_told, .inl (cI, 54, .inl th_told)), (q_th_from, .inl (cI, 25, .inl th_from_12)), (q_th_to, .inl (cI, 25, .inl th_to_12))] → va_S A s.heap H locs → lv_has ls 3 [(0, .ref q_th), (1, .int v1_12), (2, .int v2_12)] → W p l e ({ frames := 6, cells := 0, slots := 0, locals := 144 } : Room) s m args below meth c H locs 0 0 Q (F0 m 12 ls []) := by
    intro n_12
    induction n_12 with
    | zero =>
      intro v1_12 v2_12 th_now_12 th_from_12 th_to_12 hF
      rw [fX8_slept_12_z] at hF
      cases hF
    | succ n_12 ih_12 =>
      intro v1_12 v2_12 th_now_12 th_from_12 th_to_12 hF H locs ls hP hD hS hl
      rw [fX8_slept_12_s] at hF
      refine lv_iload_n hx hb dX8_slept_12 rfl (lv_at hl 2 rfl) ?_
      refine lv_bipush (v := (nI 30)) hx hb dX8_slept_13 (by decide) ?_
      refine lv_icmp_ge (tgt := 46) hx hb dX8_slept_15 (by decide) (fun hc => ?_) (fun hc => ?_)
      · have hF := ng_t hc hF
        refine lv_aload_n hx hb dX8_slept_46 rfl (lv_at hl 0 rfl) ?_
        obtain ⟨o47, hF1, hF⟩ := ng_b hF
        refine nx_callVv (As := []) (rest := []) (W1 := [(q_th, .inr (8, [.ref q_th_told, .ref q_th_now, x_th_text, .int th_letters, .int th_at, x_th_read, .int th_isMore, .int th_told0, .ref q_th_from, .ref q_th_to, x_th_undone, .int th_undos, .ref q_th_aside, .int th_beganOn, .int th_beganIn, .int th_first, .int th_second, x_th_seenCell, x_th_seenNight, .int th_seens, .int th_above, .int th_below, x_th_kept, .int th_keeps])), (q_th_aside, .inl (cI, 28, .inl o1)), (q_th_now, .inl (cI, 28, .inl o47)), (q_th_told, .inl (cI, 54, .inl th_told)), (q_th_from, .inl (cI, 25, .inl th_from_12)), (q_th_to, .inl (cI, 25, .inl th_to_12))]) (wr := [(q_th_told, .inl (cI, 54, .inl th_told)), (q_th_from, .inl (cI, 25, .inl th_from_12)), (q_th_to, .inl (cI, 25, .inl th_to_12))]) S0 hK hN hA hP hD hS (kX8_backs l dC dI cI q_th q_th_now q_th_aside _ (.ref q_th_told) (x_th_text) th_letters th_at (x_th_read) th_isMore th_told0 (.ref q_th_from) (.ref q_th_to) (x_th_undone) th_undos th_beganOn th_beganIn th_first th_second (x_th_seenCell) (x_th_seenNight) th_seens th_above th_below (x_th_kept) th_keeps th_now_12 o1 N o47 hF1) (cwV 0 hts gX8_slept_X8_backs rfl rfl rfl ⟨rfl, hdX8_backs⟩ ⟨Nat.le_of_ble_eq_true rfl, Nat.le_of_ble_eq_true rfl⟩) [0, 2, 1] [3, 4, 5] [3, 5, 4, 0, 1, 2] rfl rfl rfl rfl 0 8 rfl rfl rfl rfl hl.1 rfl (Nat.le_of_ble_eq_true rfl) dX8_slept_47 (fun H locs hP hD hS => ?_)
        refine lv_iload_n hx hb dX8_slept_50 rfl (lv_at hl 1 rfl) ?_
        exact hret v1_12 o1 o47 th_from_12 th_to_12 _ _ _ _ hF dX8_slept_51 hP hD hS
      · have hF := ng_f hc hF
        refine lv_iload_n hx hb dX8_slept_18 rfl (lv_at hl 1 rfl) ?_
        refine lv_aload_n hx hb dX8_slept_19 rfl (lv_at hl 0 rfl) ?_
        refine lv_aload_n hx hb dX8_slept_20 rfl (lv_at hl 0 rfl) ?_
        refine lv_iload_n hx hb dX8_slept_21 rfl (lv_at hl 2 rfl) ?_
        obtain ⟨o22, hF1, hF⟩ := ng_b hF
        refine nx_callVi (As := [.int v2_12]) (rest := [.ref q_th, .int v1_12]) (W1 := [(q_th, .inr (8, [.ref q_th_told, .ref q_th_now, x_th_text, .int th_letters, .int th_at, x_th_read, .int th_isMore, .int th_told0, .ref q_th_from, .ref q_th_to, x_th_undone, .int th_undos, .ref q_th_aside, .int th_beganOn, .int th_beganIn, .int th_first, .int th_second, x_th_seenCell, x_th_seenNight, .int th_seens, .int th_above, .int th_below, x_th_kept, .int th_keeps])), (q_th_aside, .inl (cI, 28, .inl o1)), (q_th_now, .inl (cI, 28, .inl th_now_12)), (q_th_told, .inl (cI, 54, .inl th_told)), (q_th_from, .inl (cI, 25, .inl th_from_12)), (q_th_to, .inl (cI, 25, .inl th_to_12))]) (wr := [(q_th_aside, .inl (cI, 28, .inl o1)), (q_th_now, .inl (cI, 28, .inl th_now_12)), (q_th_from, .inl (cI, 25, .inl th_from_12)), (q_th_to, .inl (cI, 25, .inl th_to_12))]) S0 hK hN hA hP hD hS (kX8_dampOf l dC dI cI q_th q_th_told _ (.ref q_th_now) (x_th_text) th_letters th_at (x_th_read) th_isMore th_told0 (.ref q_th_from) (.ref q_th_to) (x_th_undone) th_undos (.ref q_th_aside) th_beganOn th_beganIn th_first th_second (x_th_seenCell) (x_th_seenNight) th_seens th_above th_below (x_th_kept) th_keeps th_told v2_12 N o22 hF1) (cwV 1 hts gX8_slept_X8_dampOf rfl rfl rfl ⟨rfl, hdX8_dampOf⟩ ⟨Nat.le_of_ble_eq_true rfl, Nat.le_of_ble_eq_true rfl⟩) [0, 3] [1, 2, 4, 5] [4, 0, 1, 5, 2, 3] rfl rfl rfl rfl 0 8 rfl rfl rfl rfl hl.1 rfl (Nat.le_of_ble_eq_true rfl) dX8_slept_22 (fun H locs hP hD hS => ?_)
        obtain ⟨o25, hF1, hF⟩ := ng_b hF
        refine nx_callVi (As := [.int o22]) (rest := [.int v1_12]) (W1 := [(q_th, .inr (8, [.ref q_th_told, .ref q_th_now, x_th_text, .int th_letters, .int th_at, x_th_read, .int th_isMore, .int th_told0, .ref q_th_from, .ref q_th_to, x_th_undone, .int th_undos, .ref q_th_aside, .int th_beganOn, .int th_beganIn, .int th_first, .int th_second, x_th_seenCell, x_th_seenNight, .int th_seens, .int th_above, .int th_below, x_th_kept, .int th_keeps])), (q_th_aside, .inl (cI, 28, .inl o1)), (q_th_now, .inl (cI, 28, .inl o25.2.1)), (q_th_told, .inl (cI, 54, .inl th_told)), (q_th_from, .inl (cI, 25, .inl o25.2.2.1)), (q_th_to, .inl (cI, 25, .inl o25.2.2.2))]) (wr := [(q_th_aside, .inl (cI, 28, .inl o1))]) S0 hK hN hA hP hD hS (kX8_goesBy l dC dI cI q_th q_th_now q_th_told q_th_from q_th_to _ (x_th_text) th_letters th_at (x_th_read) th_isMore th_told0 (x_th_undone) th_undos (.ref q_th_aside) th_beganOn th_beganIn th_first th_second (x_th_seenCell) (x_th_seenNight) th_seens th_above th_below (x_th_kept) th_keeps th_now_12 th_told th_from_12 th_to_12 o22 N o25 hF1) (cwV 1 hts gX8_slept_X8_goesBy rfl rfl rfl ⟨rfl, hdX8_goesBy⟩ ⟨Nat.le_of_ble_eq_true rfl, Nat.le_of_ble_eq_true rfl⟩) [0, 2, 3, 4, 5] [1] [1, 0, 2, 3, 4, 5] rfl rfl rfl rfl 0 8 rfl rfl rfl rfl hl.1 rfl (Nat.le_of_ble_eq_true rfl) dX8_slept_25 (fun H locs hP hD hS => ?_)
        refine lv_if_eq (tgt := 37) hx hb dX8_slept_28 (by decide) (fun hc => ?_) (fun hc => ?_)
        · have hF := ng_t hc hF
          refine lv_iconst (v := (nI 0)) hx hb dX8_slept_37 (by decide) ?_
          refine lv_ior hx hb dX8_slept_38 ?_
          refine lv_istore_n (lv' := [(1, .int (v1_12 ||| (nI 0))), (0, .ref q_th), (2, .int v2_12)]) hx hb dX8_slept_39 rfl hl (by decide) rfl (fun ls hl => ?_)
          refine lv_iinc (v := v2_12 + (nI 1)) (lv' := [(2, .int (v2_12 + (nI 1))), (1, .int (v1_12 ||| (nI 0))), (0, .ref q_th)]) hx hb dX8_slept_40 hl (k := 2) rfl rfl (by decide) rfl (fun ls hl => ?_)
          refine lv_goto (tgt := 12) hx hb dX8_slept_43 (by decide) ?_
          exact ih_12 (v1_12 ||| (nI 0)) (v2_12 + (nI 1)) o25.2.1 o25.2.2.1 o25.2.2.2 hF _ _ _ hP hD hS (lv_sub hl [2, 1, 0] rfl)
        · have hF := ng_f hc hF
          refine lv_iconst (v := (nI 1)) hx hb dX8_slept_31 (by decide) ?_
          refine lv_iload_n hx hb dX8_slept_32 rfl (lv_at hl 2 rfl) ?_
          refine lv_ishl hx hb dX8_slept_33 ?_
          refine lv_goto (tgt := 38) hx hb dX8_slept_34 (by decide) ?_
          refine lv_ior hx hb dX8_slept_38 ?_
          refine lv_istore_n (lv' := [(1, .int (v1_12 ||| ((nI 1) <<< (v2_12 &&& 31)))), (0, .ref q_th), (2, .int v2_12)]) hx hb dX8_slept_39 rfl hl (by decide) rfl (fun ls hl => ?_)
          refine lv_iinc (v := v2_12 + (nI 1)) (lv' := [(2, .int (v2_12 + (nI 1))), (1, .int (v1_12 ||| ((nI 1) <<< (v2_12 &&& 31)))), (0, .ref q_th)]) hx hb dX8_slept_40 hl (k := 2) rfl rfl (by decide) rfl (fun ls hl => ?_)
          refine lv_goto (tgt := 12) hx hb dX8_slept_43 (by decide) ?_
          exact ih_12 (v1_12 ||| ((nI 1) <<< (v2_12 &&& 31))) (v2_12 + (nI 1)) o25.2.1 o25.2.2.1 o25.2.2.2 hF _ _ _ hP hD hS (lv_sub hl [2, 1, 0] rfl)
  refine lv_istore_n (lv' := [(2, .int (nI 0)), (1, .int (nI 0)), (0, .ref q_th)]) hx hb dX8_slept_11 rfl hl (by decide) rfl (fun ls hl => ?_)
  exact B_12 N (nI 0) (nI 0) o5 th_from th_to hF _ _ _ hP hD hS (lv_sub hl [2, 1, 0] rfl)
theorem hdX8_chances : yX8_chances.cls ≠ "java/lang/invoke/MethodHandle" ∧ yX8_chances.cls ≠ "java/lang/invoke/VarHandle" ∧ (parseMethodDescriptor yX8_chances.desc).map (fun d => d.parameters.length) = some 2 := by decide +kernel
set_option maxHeartbeats 40000000 in
set_option maxRecDepth 100000 in
theorem kX8_chances (l : Launch) (dC : Nat → ClassId) (dI : Nat → Nat → Nat) (cI : ClassId) (q_th : Nat) (q_th_aside : Nat) (q_th_now : Nat) (q_th_told : Nat) (q_th_from : Nat) (q_th_to : Nat) (sz : Nat) (x_th_text : Value) (th_letters : Int32) (th_at : Int32) (x_th_read : Value) (th_isMore : Int32) (th_told0 : Int32) (x_th_undone : Value) (th_undos : Int32) (th_beganOn : Int32) (th_beganIn : Int32) (th_first : Int32) (th_second : Int32) (x_th_seenCell : Value) (x_th_seenNight : Value) (th_seens : Int32) (th_above : Int32) (th_below : Int32) (x_th_kept : Value) (th_keeps : Int32) (th_aside : Nat → Int32) (th_now : Nat → Int32) (th_told : Nat → Int32) (th_from : Nat → Int32) (th_to : Nat → Int32) (p1 : Int32) (p2 : Int32) (N : Nat) (o : Int32 × Int32 × (Nat → Int32) × (Nat → Int32) × (Nat → Int32) × (Nat → Int32)) (hF : fX8_chances N p1 p2 th_aside th_now th_told th_from th_to = some o) : nx_V l yX8_chances wsX8_chances ({ frames := 6, cells := 0, slots := 0, locals := 144 } : Room) (dC, dI) cI [.ref q_th, .int p1, .int p2] [(q_th, .inr (8, [.ref q_th_told, .ref q_th_now, x_th_text, .int th_letters, .int th_at, x_th_read, .int th_isMore, .int th_told0, .ref q_th_from, .ref q_th_to, x_th_undone, .int th_undos, .ref q_th_aside, .int th_beganOn, .int th_beganIn, .int th_first, .int th_second, x_th_seenCell, x_th_seenNight, .int th_seens, .int th_above, .int th_below, x_th_kept, .int th_keeps])), (q_th_aside, .inl (cI, 28, .inl th_aside)), (q_th_now, .inl (cI, 28, .inl th_now)), (q_th_told, .inl (cI, 54, .inl th_told)), (q_th_from, .inl (cI, 25, .inl th_from)), (q_th_to, .inl (cI, 25, .inl th_to))] sz [(q_th, .inr (8, [.ref q_th_told, .ref q_th_now, x_th_text, .int th_letters, .int th_at, x_th_read, .int th_isMore, .int th_told0, .ref q_th_from, .ref q_th_to, x_th_undone, .int th_undos, .ref q_th_aside, .int th_beganOn, .int th_beganIn, .int th_first, .int th_second, x_th_seenCell, x_th_seenNight, .int th_seens, .int o.1, .int o.2.1, x_th_kept, .int th_keeps])), (q_th_aside, .inl (cI, 28, .inl o.2.2.1)), (q_th_now, .inl (cI, 28, .inl o.2.2.2.1)), (q_th_told, .inl (cI, 54, .inl th_told)), (q_th_from, .inl (cI, 25, .inl o.2.2.2.2.1)), (q_th_to, .inl (cI, 25, .inl o.2.2.2.2.2))] := by
  refine nx_void (cc := cX8_chances) (maxL := 7) (by decide) rfl (Nat.le_of_ble_eq_true rfl) ?_
  intro p e s m args below meth c Q A S0 hK hN hA ret0 hP hD hS ls hl
  have S0 : CallFix p m c cX8_chances 7 s args wsX8_chances RX8 := S0
  have hx := S0.1
  have hb := S0.2.1
  have hown := S0.2.2.2.1
  have hts := S0.2.2.2.2
  have hf_204 := hts (.fieldLink RX8 204 "SnailsYearModel" "above" "I") (by decide +kernel)
  have hin_X8 : ∀ w ∈ wsX80, w ∈ wsX8_chances := by decide +kernel
  have hf_207 := hts (.fieldLink RX8 207 "SnailsYearModel" "below" "I") (by decide +kernel)
  have hf_13 := hts (.fieldLink RX8 13 "SnailsYearModel" "now" "[I") (by decide +kernel)
  have hl : lv_has ls 7 [(0, .ref q_th), (1, .int p1), (2, .int p2)] := hl
  have hret : ∀ (y0 : Int32) (y1 : Int32) (y2 : Nat → Int32) (y3 : Nat → Int32) (y4 : Nat → Int32) (y5 : Nat → Int32) (H : Heap) (locs : List Loc) (ls : Array Slot) (pc : Nat), some (y0, y1, y2, y3, y4, y5) = some o → decode cX8_chances pc = .ok (.return_, 1) → va_P (dC, dI) vwCl [(q_th, .inr (8, [.ref q_th_told, .ref q_th_now, x_th_text, .int th_letters, .int th_at, x_th_read, .int th_isMore, .int th_told0, .ref q_th_from, .ref q_th_to, x_th_undone, .int th_undos, .ref q_th_aside, .int th_beganOn, .int th_beganIn, .int th_first, .int th_second, x_th_seenCell, x_th_seenNight, .int th_seens, .int y0, .int y1, x_th_kept, .int th_keeps])), (q_th_aside, .inl (cI, 28, .inl y2)), (q_th_now, .inl (cI, 28, .inl y3)), (q_th_told, .inl (cI, 54, .inl th_told)), (q_th_from, .inl (cI, 25, .inl y4)), (q_th_to, .inl (cI, 25, .inl y5))] H → va_D A [(q_th, .inr (8, [.ref q_th_told, .ref q_th_now, x_th_text, .int th_letters, .int th_at, x_th_read, .int th_isMore, .int th_told0, .ref q_th_from, .ref q_th_to, x_th_undone, .int th_undos, .ref q_th_aside, .int th_beganOn, .int th_beganIn, .int th_first, .int th_second, x_th_seenCell, x_th_seenNight, .int th_seens, .int y0, .int y1, x_th_kept, .int th_keeps])), (q_th_aside, .inl (cI, 28, .inl y2)), (q_th_now, .inl (cI, 28, .inl y3)), (q_th_told, .inl (cI, 54, .inl th_told)), (q_th_from, .inl (cI, 25, .inl y4)), (q_th_to, .inl (cI, 25, .inl y5))] → va_S A s.heap H locs → W p l e ({ frames := 6, cells := 0, slots := 0, locals := 144 } : Room) s m args below meth c H locs 0 0 Q (F0 m pc ls []) := by
    intro y0 y1 y2 y3 y4 y5 H locs ls pc ho hd hP hD hS
    cases ho
    exact ret0 H locs ls pc hd hP hD hS
  rw [fX8_chances_e] at hF
  refine lv_aload_n hx hb dX8_chances_0 rfl (lv_at hl 0 rfl) ?_
  obtain ⟨o1, hF1, hF⟩ := ng_b hF
  refine nx_callVv (As := []) (rest := []) (W1 := [(q_th, .inr (8, [.ref q_th_told, .ref q_th_now, x_th_text, .int th_letters, .int th_at, x_th_read, .int th_isMore, .int th_told0, .ref q_th_from, .ref q_th_to, x_th_undone, .int th_undos, .ref q_th_aside, .int th_beganOn, .int th_beganIn, .int th_first, .int th_second, x_th_seenCell, x_th_seenNight, .int th_seens, .int th_above, .int th_below, x_th_kept, .int th_keeps])), (q_th_aside, .inl (cI, 28, .inl o1)), (q_th_now, .inl (cI, 28, .inl th_now)), (q_th_told, .inl (cI, 54, .inl th_told)), (q_th_from, .inl (cI, 25, .inl th_from)), (q_th_to, .inl (cI, 25, .inl th_to))]) (wr := [(q_th_told, .inl (cI, 54, .inl th_told)), (q_th_from, .inl (cI, 25, .inl th_from)), (q_th_to, .inl (cI, 25, .inl th_to))]) S0 hK hN hA hP hD hS (kX8_asides l dC dI cI q_th q_th_aside q_th_now _ (.ref q_th_told) (x_th_text) th_letters th_at (x_th_read) th_isMore th_told0 (.ref q_th_from) (.ref q_th_to) (x_th_undone) th_undos th_beganOn th_beganIn th_first th_second (x_th_seenCell) (x_th_seenNight) th_seens th_above th_below (x_th_kept) th_keeps th_aside th_now N o1 hF1) (cwV 0 hts gX8_chances_X8_asides rfl rfl rfl ⟨rfl, hdX8_asides⟩ ⟨Nat.le_of_ble_eq_true rfl, Nat.le_of_ble_eq_true rfl⟩) [0, 1, 2] [3, 4, 5] [3, 4, 5, 0, 1, 2] rfl rfl rfl rfl 0 8 rfl rfl rfl rfl hl.1 rfl (Nat.le_of_ble_eq_true rfl) dX8_chances_1 (fun H locs hP hD hS => ?_)
  refine lv_aload_n hx hb dX8_chances_4 rfl (lv_at hl 0 rfl) ?_
  refine lv_iconst (v := (nI 0)) hx hb dX8_chances_5 (by decide) ?_
  refine nx_put S0 hK hP hD hS 0 20 hin_X8 tyX8 tyX8_ok nmX8 hf_204 rfl rfl (by decide) rfl rfl rfl rfl (Nat.le_of_ble_eq_true rfl) dX8_chances_6 (W1 := [(q_th, .inr (8, [.ref q_th_told, .ref q_th_now, x_th_text, .int th_letters, .int th_at, x_th_read, .int th_isMore, .int th_told0, .ref q_th_from, .ref q_th_to, x_th_undone, .int th_undos, .ref q_th_aside, .int th_beganOn, .int th_beganIn, .int th_first, .int th_second, x_th_seenCell, x_th_seenNight, .int th_seens, .int (nI 0), .int th_below, x_th_kept, .int th_keeps])), (q_th_aside, .inl (cI, 28, .inl o1)), (q_th_now, .inl (cI, 28, .inl th_now)), (q_th_told, .inl (cI, 54, .inl th_told)), (q_th_from, .inl (cI, 25, .inl th_from)), (q_th_to, .inl (cI, 25, .inl th_to))]) rfl (fun H locs hP hD hS => ?_)
  refine lv_aload_n hx hb dX8_chances_9 rfl (lv_at hl 0 rfl) ?_
  refine lv_iconst (v := (nI 0)) hx hb dX8_chances_10 (by decide) ?_
  refine nx_put S0 hK hP hD hS 0 21 hin_X8 tyX8 tyX8_ok nmX8 hf_207 rfl rfl (by decide) rfl rfl rfl rfl (Nat.le_of_ble_eq_true rfl) dX8_chances_11 (W1 := [(q_th, .inr (8, [.ref q_th_told, .ref q_th_now, x_th_text, .int th_letters, .int th_at, x_th_read, .int th_isMore, .int th_told0, .ref q_th_from, .ref q_th_to, x_th_undone, .int th_undos, .ref q_th_aside, .int th_beganOn, .int th_beganIn, .int th_first, .int th_second, x_th_seenCell, x_th_seenNight, .int th_seens, .int (nI 0), .int (nI 0), x_th_kept, .int th_keeps])), (q_th_aside, .inl (cI, 28, .inl o1)), (q_th_now, .inl (cI, 28, .inl th_now)), (q_th_told, .inl (cI, 54, .inl th_told)), (q_th_from, .inl (cI, 25, .inl th_from)), (q_th_to, .inl (cI, 25, .inl th_to))]) rfl (fun H locs hP hD hS => ?_)
  refine lv_iconst (v := (nI 0)) hx hb dX8_chances_14 (by decide) ?_
  have B_16 : ∀ (n_16 : Nat) (v3_16 : Int32) (th_above_16 : Int32) (th_below_16 : Int32) (th_now_16 : Nat → Int32) (th_from_16 : Nat → Int32) (th_to_16 : Nat → Int32), fX8_chances_16 N p1 p2 th_told o1 n_16 v3_16 th_above_16 th_below_16 th_now_16 th_from_16 th_to_16 = some o → ∀ (H : Heap) (locs : List Loc) (ls : Array Slot), va_P (dC, dI) vwCl [(q_th, .inr (8, [.ref q_th_told, .ref q_th_now, x_th_text, .int th_letters, .int th_at, x_th_read, .int th_isMore, .int th_told0, .ref q_th_from, .ref q_th_to, x_th_undone, .int th_undos, .ref q_th_aside, .int th_beganOn, .int th_beganIn, .int th_first, .int th_second, x_th_seenCell, x_th_seenNight, .int th_seens, .int th_above_16, .int th_below_16, x_th_kept, .int th_keeps])), (q_th_aside, .inl (cI, 28, .inl o1)), (q_th_now, .inl (cI, 28, .inl th_now_16)), (q_th_told, .inl (cI, 54, .inl th_told)), (q_th_from, .inl (cI, 25, .inl th_from_16)), (q_th_to, .inl (cI, 25, .inl th_to_16))] H → va_D A [(q_th, .inr (8, [.ref q_th_told, .ref q_th_now, x_th_text, .int th_letters, .int th_at, x_th_read, .int th_isMore, .int th_told0, .ref q_th_from, .ref q_th_to, x_th_undone, .int th_undos, .ref q_th_aside, .int th_beganOn, .int th_beganIn, .int th_first, .int th_second, x_th_seenCell, x_th_seenNight, .int th_seens, .int th_above_16, .int th_below_16, x_th_kept, .int th_keeps])), (q_th_aside, .inl (cI, 28, .inl o1)), (q_th_now, .inl (cI, 28, .inl th_now_16)), (q_th_told, .inl (cI, 54, .inl th_told)), (q_th_from, .inl (cI, 25, .inl th_from_16)), (q_th_to, .inl (cI, 25, .inl th_to_16))] → va_S A s.heap H locs → lv_has ls 7 [(0, .ref q_th), (1, .int p1), (2, .int p2), (3, .int v3_16)] → W p l e ({ frames := 6, cells := 0, slots := 0, locals := 144 } : Room) s m args below meth c H locs 0 0 Q (F0 m 16 ls []) := by
    intro n_16
    induction n_16 with
    | zero =>
      intro v3_16 th_above_16 th_below_16 th_now_16 th_from_16 th_to_16 hF
      rw [fX8_chances_16_z] at hF
      cases hF
    | succ n_16 ih_16 =>
      intro v3_16 th_above_16 th_below_16 th_now_16 th_from_16 th_to_16 hF H locs ls hP hD hS hl
      rw [fX8_chances_16_s] at hF
      refine lv_iload_n hx hb dX8_chances_16 rfl (lv_at hl 3 rfl) ?_
      refine lv_iconst (v := (nI 1)) hx hb dX8_chances_17 (by decide) ?_
      refine lv_iload_n hx hb dX8_chances_18 rfl (lv_at hl 1 rfl) ?_
      refine lv_ishl hx hb dX8_chances_19 ?_
      refine lv_icmp_ge (tgt := 137) hx hb dX8_chances_20 (by decide) (fun hc => ?_) (fun hc => ?_)
      · have hF := ng_t hc hF
        exact hret th_above_16 th_below_16 o1 th_now_16 th_from_16 th_to_16 _ _ _ _ hF dX8_chances_137 hP hD hS
      · have hF := ng_f hc hF
        refine lv_iconst (v := (nI 1)) hx hb dX8_chances_23 (by decide) ?_
        refine lv_istore (lv' := [(4, .int (nI 1)), (0, .ref q_th), (1, .int p1), (2, .int p2), (3, .int v3_16)]) hx hb dX8_chances_24 hl (by decide) rfl (fun ls hl => ?_)
        refine lv_iconst (v := (nI 0)) hx hb dX8_chances_26 (by decide) ?_
        have B_29 : ∀ (n_29 : Nat) (v4_29 : Int32) (v5_29 : Int32) (th_now_29 : Nat → Int32) (th_from_29 : Nat → Int32) (th_to_29 : Nat → Int32), fX8_chances_29 N p1 p2 th_told o1 v3_16 th_above_16 th_below_16 (fX8_chances_16 N p1 p2 th_told o1 n_16) n_29 v4_29 v5_29 th_now_29 th_from_29 th_to_29 = some o → ∀ (H : Heap) (locs : List Loc) (ls : Array Slot), va_P (dC, dI) vwCl [(q_th, .inr (8, [.ref q_th_told, .ref q_th_now, x_th_text, .int th_letters, .int th_at, x_th_read, .int th_isMore, .int th_told0, .ref q_th_from, .ref q_th_to, x_th_undone, .int th_undos, .ref q_th_aside, .int th_beganOn, .int th_beganIn, .int th_first, .int th_second, x_th_seenCell, x_th_seenNight, .int th_seens, .int th_above_16, .int th_below_16, x_th_kept, .int th_keeps])), (q_th_aside, .inl (cI, 28, .inl o1)), (q_th_now, .inl (cI, 28, .inl th_now_29)), (q_th_told, .inl (cI, 54, .inl th_told)), (q_th_from, .inl (cI, 25, .inl th_from_29)), (q_th_to, .inl (cI, 25, .inl th_to_29))] H → va_D A [(q_th, .inr (8, [.ref q_th_told, .ref q_th_now, x_th_text, .int th_letters, .int th_at, x_th_read, .int th_isMore, .int th_told0, .ref q_th_from, .ref q_th_to, x_th_undone, .int th_undos, .ref q_th_aside, .int th_beganOn, .int th_beganIn, .int th_first, .int th_second, x_th_seenCell, x_th_seenNight, .int th_seens, .int th_above_16, .int th_below_16, x_th_kept, .int th_keeps])), (q_th_aside, .inl (cI, 28, .inl o1)), (q_th_now, .inl (cI, 28, .inl th_now_29)), (q_th_told, .inl (cI, 54, .inl th_told)), (q_th_from, .inl (cI, 25, .inl th_from_29)), (q_th_to, .inl (cI, 25, .inl th_to_29))] → va_S A s.heap H locs → lv_has ls 7 [(0, .ref q_th), (1, .int p1), (2, .int p2), (3, .int v3_16), (4, .int v4_29), (5, .int v5_29)] → W p l e ({ frames := 6, cells := 0, slots := 0, locals := 144 } : Room) s m args below meth c H locs 0 0 Q (F0 m 29 ls []) := by
          intro n_29
          induction n_29 with
          | zero =>
            intro v4_29 v5_29 th_now_29 th_from_29 th_to_29 hF
            rw [fX8_chances_29_z] at hF
            cases hF
          | succ n_29 ih_29 =>
            intro v4_29 v5_29 th_now_29 th_from_29 th_to_29 hF H locs ls hP hD hS hl
            rw [fX8_chances_29_s] at hF
            refine lv_iload hx hb dX8_chances_29 (lv_at hl 5 rfl) ?_
            refine lv_iload_n hx hb dX8_chances_31 rfl (lv_at hl 1 rfl) ?_
            refine lv_icmp_ge (tgt := 92) hx hb dX8_chances_32 (by decide) (fun hc => ?_) (fun hc => ?_)
            · have hF := ng_t hc hF
              refine lv_aload_n hx hb dX8_chances_92 rfl (lv_at hl 0 rfl) ?_
              refine lv_dup hx hb dX8_chances_93 rfl ?_
              refine nx_get S0 hK hP 0 21 hin_X8 hf_207 rfl rfl (by decide) rfl rfl dX8_chances_94 ?_
              refine lv_iload hx hb dX8_chances_97 (lv_at hl 4 rfl) ?_
              refine lv_iadd hx hb dX8_chances_99 ?_
              refine nx_put S0 hK hP hD hS 0 21 hin_X8 tyX8 tyX8_ok nmX8 hf_207 rfl rfl (by decide) rfl rfl rfl rfl (Nat.le_of_ble_eq_true rfl) dX8_chances_100 (W1 := [(q_th, .inr (8, [.ref q_th_told, .ref q_th_now, x_th_text, .int th_letters, .int th_at, x_th_read, .int th_isMore, .int th_told0, .ref q_th_from, .ref q_th_to, x_th_undone, .int th_undos, .ref q_th_aside, .int th_beganOn, .int th_beganIn, .int th_first, .int th_second, x_th_seenCell, x_th_seenNight, .int th_seens, .int th_above_16, .int (th_below_16 + v4_29), x_th_kept, .int th_keeps])), (q_th_aside, .inl (cI, 28, .inl o1)), (q_th_now, .inl (cI, 28, .inl th_now_29)), (q_th_told, .inl (cI, 54, .inl th_told)), (q_th_from, .inl (cI, 25, .inl th_from_29)), (q_th_to, .inl (cI, 25, .inl th_to_29))]) rfl (fun H locs hP hD hS => ?_)
              refine lv_aload_n hx hb dX8_chances_103 rfl (lv_at hl 0 rfl) ?_
              refine lv_dup hx hb dX8_chances_104 rfl ?_
              refine nx_get S0 hK hP 0 20 hin_X8 hf_204 rfl rfl (by decide) rfl rfl dX8_chances_105 ?_
              refine lv_aload_n hx hb dX8_chances_108 rfl (lv_at hl 0 rfl) ?_
              refine nx_get S0 hK hP 0 1 hin_X8 hf_13 rfl rfl (by decide) rfl rfl dX8_chances_109 ?_
              refine lv_iconst (v := (nI 2)) hx hb dX8_chances_112 (by decide) ?_
              refine nx_iald S0 hK hP 2 (v := th_now_29 2) rfl (by decide) rfl dX8_chances_113 ?_
              have B_123 : ∀ (s2_123 : Int32), fX8_chances_123 N o1 v3_16 th_above_16 th_below_16 v4_29 th_now_29 th_from_29 th_to_29 s2_123 (fX8_chances_16 N p1 p2 th_told o1 n_16) = some o → ∀ (H : Heap) (locs : List Loc) (ls : Array Slot), va_P (dC, dI) vwCl [(q_th, .inr (8, [.ref q_th_told, .ref q_th_now, x_th_text, .int th_letters, .int th_at, x_th_read, .int th_isMore, .int th_told0, .ref q_th_from, .ref q_th_to, x_th_undone, .int th_undos, .ref q_th_aside, .int th_beganOn, .int th_beganIn, .int th_first, .int th_second, x_th_seenCell, x_th_seenNight, .int th_seens, .int th_above_16, .int (th_below_16 + v4_29), x_th_kept, .int th_keeps])), (q_th_aside, .inl (cI, 28, .inl o1)), (q_th_now, .inl (cI, 28, .inl th_now_29)), (q_th_told, .inl (cI, 54, .inl th_told)), (q_th_from, .inl (cI, 25, .inl th_from_29)), (q_th_to, .inl (cI, 25, .inl th_to_29))] H → va_D A [(q_th, .inr (8, [.ref q_th_told, .ref q_th_now, x_th_text, .int th_letters, .int th_at, x_th_read, .int th_isMore, .int th_told0, .ref q_th_from, .ref q_th_to, x_th_undone, .int th_undos, .ref q_th_aside, .int th_beganOn, .int th_beganIn, .int th_first, .int th_second, x_th_seenCell, x_th_seenNight, .int th_seens, .int th_above_16, .int (th_below_16 + v4_29), x_th_kept, .int th_keeps])), (q_th_aside, .inl (cI, 28, .inl o1)), (q_th_now, .inl (cI, 28, .inl th_now_29)), (q_th_told, .inl (cI, 54, .inl th_told)), (q_th_from, .inl (cI, 25, .inl th_from_29)), (q_th_to, .inl (cI, 25, .inl th_to_29))] → va_S A s.heap H locs → lv_has ls 7 [(0, .ref q_th), (1, .int p1), (2, .int p2), (3, .int v3_16)] → W p l e ({ frames := 6, cells := 0, slots := 0, locals := 144 } : Room) s m args below meth c H locs 0 0 Q (F0 m 123 ls [.int s2_123, .int th_above_16, .ref q_th]) := by
                intro s2_123 hF H locs ls hP hD hS hl
                rw [fX8_chances_123_e] at hF
                refine lv_iadd hx hb dX8_chances_123 ?_
                refine nx_put S0 hK hP hD hS 0 20 hin_X8 tyX8 tyX8_ok nmX8 hf_204 rfl rfl (by decide) rfl rfl rfl rfl (Nat.le_of_ble_eq_true rfl) dX8_chances_124 (W1 := [(q_th, .inr (8, [.ref q_th_told, .ref q_th_now, x_th_text, .int th_letters, .int th_at, x_th_read, .int th_isMore, .int th_told0, .ref q_th_from, .ref q_th_to, x_th_undone, .int th_undos, .ref q_th_aside, .int th_beganOn, .int th_beganIn, .int th_first, .int th_second, x_th_seenCell, x_th_seenNight, .int th_seens, .int (th_above_16 + s2_123), .int (th_below_16 + v4_29), x_th_kept, .int th_keeps])), (q_th_aside, .inl (cI, 28, .inl o1)), (q_th_now, .inl (cI, 28, .inl th_now_29)), (q_th_told, .inl (cI, 54, .inl th_told)), (q_th_from, .inl (cI, 25, .inl th_from_29)), (q_th_to, .inl (cI, 25, .inl th_to_29))]) rfl (fun H locs hP hD hS => ?_)
                refine lv_aload_n hx hb dX8_chances_127 rfl (lv_at hl 0 rfl) ?_
                obtain ⟨o128, hF1, hF⟩ := ng_b hF
                refine nx_callVv (As := []) (rest := []) (W1 := [(q_th, .inr (8, [.ref q_th_told, .ref q_th_now, x_th_text, .int th_letters, .int th_at, x_th_read, .int th_isMore, .int th_told0, .ref q_th_from, .ref q_th_to, x_th_undone, .int th_undos, .ref q_th_aside, .int th_beganOn, .int th_beganIn, .int th_first, .int th_second, x_th_seenCell, x_th_seenNight, .int th_seens, .int (th_above_16 + s2_123), .int (th_below_16 + v4_29), x_th_kept, .int th_keeps])), (q_th_aside, .inl (cI, 28, .inl o1)), (q_th_now, .inl (cI, 28, .inl o128)), (q_th_told, .inl (cI, 54, .inl th_told)), (q_th_from, .inl (cI, 25, .inl th_from_29)), (q_th_to, .inl (cI, 25, .inl th_to_29))]) (wr := [(q_th_told, .inl (cI, 54, .inl th_told)), (q_th_from, .inl (cI, 25, .inl th_from_29)), (q_th_to, .inl (cI, 25, .inl th_to_29))]) S0 hK hN hA hP hD hS (kX8_backs l dC dI cI q_th q_th_now q_th_aside _ (.ref q_th_told) (x_th_text) th_letters th_at (x_th_read) th_isMore th_told0 (.ref q_th_from) (.ref q_th_to) (x_th_undone) th_undos th_beganOn th_beganIn th_first th_second (x_th_seenCell) (x_th_seenNight) th_seens (th_above_16 + s2_123) (th_below_16 + v4_29) (x_th_kept) th_keeps th_now_29 o1 N o128 hF1) (cwV 0 hts gX8_chances_X8_backs rfl rfl rfl ⟨rfl, hdX8_backs⟩ ⟨Nat.le_of_ble_eq_true rfl, Nat.le_of_ble_eq_true rfl⟩) [0, 2, 1] [3, 4, 5] [3, 5, 4, 0, 1, 2] rfl rfl rfl rfl 0 8 rfl rfl rfl rfl hl.1 rfl (Nat.le_of_ble_eq_true rfl) dX8_chances_128 (fun H locs hP hD hS => ?_)
                refine lv_iinc (v := v3_16 + (nI 1)) (lv' := [(3, .int (v3_16 + (nI 1))), (0, .ref q_th), (1, .int p1), (2, .int p2)]) hx hb dX8_chances_131 hl (k := 3) rfl rfl (by decide) rfl (fun ls hl => ?_)
                refine lv_goto (tgt := 16) hx hb dX8_chances_134 (by decide) ?_
                exact ih_16 (v3_16 + (nI 1)) (th_above_16 + s2_123) (th_below_16 + v4_29) o128 th_from_29 th_to_29 hF _ _ _ hP hD hS (lv_sub hl [1, 2, 3, 0] rfl)
              refine lv_if_ge (tgt := 121) hx hb dX8_chances_114 (by decide) (fun hc => ?_) (fun hc => ?_)
              · have hF := ng_t hc hF
                refine lv_iload hx hb dX8_chances_121 (lv_at hl 4 rfl) ?_
                exact B_123 v4_29 hF _ _ _ hP hD hS (lv_sub hl [0, 1, 2, 3] rfl)
              · have hF := ng_f hc hF
                refine lv_iconst (v := (nI 0)) hx hb dX8_chances_117 (by decide) ?_
                refine lv_goto (tgt := 123) hx hb dX8_chances_118 (by decide) ?_
                exact B_123 (nI 0) hF _ _ _ hP hD hS (lv_sub hl [0, 1, 2, 3] rfl)
            · have hF := ng_f hc hF
              refine lv_iload_n hx hb dX8_chances_35 rfl (lv_at hl 3 rfl) ?_
              refine lv_iload hx hb dX8_chances_36 (lv_at hl 5 rfl) ?_
              refine lv_ishr hx hb dX8_chances_38 ?_
              refine lv_iconst (v := (nI 1)) hx hb dX8_chances_39 (by decide) ?_
              refine lv_iand hx hb dX8_chances_40 ?_
              refine lv_iconst (v := (nI 1)) hx hb dX8_chances_41 (by decide) ?_
              have B_50 : ∀ (s0_50 : Int32), fX8_chances_50 N p2 th_told v4_29 v5_29 th_now_29 th_from_29 th_to_29 s0_50 (fX8_chances_29 N p1 p2 th_told o1 v3_16 th_above_16 th_below_16 (fX8_chances_16 N p1 p2 th_told o1 n_16) n_29) = some o → ∀ (H : Heap) (locs : List Loc) (ls : Array Slot), va_P (dC, dI) vwCl [(q_th, .inr (8, [.ref q_th_told, .ref q_th_now, x_th_text, .int th_letters, .int th_at, x_th_read, .int th_isMore, .int th_told0, .ref q_th_from, .ref q_th_to, x_th_undone, .int th_undos, .ref q_th_aside, .int th_beganOn, .int th_beganIn, .int th_first, .int th_second, x_th_seenCell, x_th_seenNight, .int th_seens, .int th_above_16, .int th_below_16, x_th_kept, .int th_keeps])), (q_th_aside, .inl (cI, 28, .inl o1)), (q_th_now, .inl (cI, 28, .inl th_now_29)), (q_th_told, .inl (cI, 54, .inl th_told)), (q_th_from, .inl (cI, 25, .inl th_from_29)), (q_th_to, .inl (cI, 25, .inl th_to_29))] H → va_D A [(q_th, .inr (8, [.ref q_th_told, .ref q_th_now, x_th_text, .int th_letters, .int th_at, x_th_read, .int th_isMore, .int th_told0, .ref q_th_from, .ref q_th_to, x_th_undone, .int th_undos, .ref q_th_aside, .int th_beganOn, .int th_beganIn, .int th_first, .int th_second, x_th_seenCell, x_th_seenNight, .int th_seens, .int th_above_16, .int th_below_16, x_th_kept, .int th_keeps])), (q_th_aside, .inl (cI, 28, .inl o1)), (q_th_now, .inl (cI, 28, .inl th_now_29)), (q_th_told, .inl (cI, 54, .inl th_told)), (q_th_from, .inl (cI, 25, .inl th_from_29)), (q_th_to, .inl (cI, 25, .inl th_to_29))] → va_S A s.heap H locs → lv_has ls 7 [(0, .ref q_th), (1, .int p1), (2, .int p2), (3, .int v3_16), (4, .int v4_29), (5, .int v5_29)] → W p l e ({ frames := 6, cells := 0, slots := 0, locals := 144 } : Room) s m args below meth c H locs 0 0 Q (F0 m 50 ls [.int s0_50]) := by
                intro s0_50 hF H locs ls hP hD hS hl
                rw [fX8_chances_50_e] at hF
                refine lv_istore (lv' := [(6, .int s0_50), (0, .ref q_th), (1, .int p1), (2, .int p2), (3, .int v3_16), (4, .int v4_29), (5, .int v5_29)]) hx hb dX8_chances_50 hl (by decide) rfl (fun ls hl => ?_)
                refine lv_iload hx hb dX8_chances_52 (lv_at hl 5 rfl) ?_
                refine lv_iload hx hb dX8_chances_54 (lv_at hl 0 rfl) ?_
                have B_67 : ∀ (s1_67 : Int32), fX8_chances_67 N th_told v4_29 v5_29 th_now_29 th_from_29 th_to_29 s0_50 s1_67 (fX8_chances_29 N p1 p2 th_told o1 v3_16 th_above_16 th_below_16 (fX8_chances_16 N p1 p2 th_told o1 n_16) n_29) = some o → ∀ (H : Heap) (locs : List Loc) (ls : Array Slot), va_P (dC, dI) vwCl [(q_th, .inr (8, [.ref q_th_told, .ref q_th_now, x_th_text, .int th_letters, .int th_at, x_th_read, .int th_isMore, .int th_told0, .ref q_th_from, .ref q_th_to, x_th_undone, .int th_undos, .ref q_th_aside, .int th_beganOn, .int th_beganIn, .int th_first, .int th_second, x_th_seenCell, x_th_seenNight, .int th_seens, .int th_above_16, .int th_below_16, x_th_kept, .int th_keeps])), (q_th_aside, .inl (cI, 28, .inl o1)), (q_th_now, .inl (cI, 28, .inl th_now_29)), (q_th_told, .inl (cI, 54, .inl th_told)), (q_th_from, .inl (cI, 25, .inl th_from_29)), (q_th_to, .inl (cI, 25, .inl th_to_29))] H → va_D A [(q_th, .inr (8, [.ref q_th_told, .ref q_th_now, x_th_text, .int th_letters, .int th_at, x_th_read, .int th_isMore, .int th_told0, .ref q_th_from, .ref q_th_to, x_th_undone, .int th_undos, .ref q_th_aside, .int th_beganOn, .int th_beganIn, .int th_first, .int th_second, x_th_seenCell, x_th_seenNight, .int th_seens, .int th_above_16, .int th_below_16, x_th_kept, .int th_keeps])), (q_th_aside, .inl (cI, 28, .inl o1)), (q_th_now, .inl (cI, 28, .inl th_now_29)), (q_th_told, .inl (cI, 54, .inl th_told)), (q_th_from, .inl (cI, 25, .inl th_from_29)), (q_th_to, .inl (cI, 25, .inl th_to_29))] → va_S A s.heap H locs → lv_has ls 7 [(0, .ref q_th), (1, .int p1), (2, .int p2), (3, .int v3_16), (5, .int v5_29), (6, .int s0_50)] → W p l e ({ frames := 6, cells := 0, slots := 0, locals := 144 } : Room) s m args below meth c H locs 0 0 Q (F0 m 67 ls [.int s1_67, .int v4_29]) := by
                  intro s1_67 hF H locs ls hP hD hS hl
                  rw [fX8_chances_67_e] at hF
                  refine lv_imul hx hb dX8_chances_67 ?_
                  refine lv_istore (lv' := [(4, .int (v4_29 * s1_67)), (0, .ref q_th), (1, .int p1), (2, .int p2), (3, .int v3_16), (5, .int v5_29), (6, .int s0_50)]) hx hb dX8_chances_68 hl (by decide) rfl (fun ls hl => ?_)
                  refine lv_aload_n hx hb dX8_chances_70 rfl (lv_at hl 1 rfl) ?_
                  refine lv_iload hx hb dX8_chances_71 (lv_at hl 6 rfl) ?_
                  have B_82 : ∀ (s1_82 : Int32), fX8_chances_82 N th_told v4_29 v5_29 th_now_29 th_from_29 th_to_29 s1_67 s1_82 (fX8_chances_29 N p1 p2 th_told o1 v3_16 th_above_16 th_below_16 (fX8_chances_16 N p1 p2 th_told o1 n_16) n_29) = some o → ∀ (H : Heap) (locs : List Loc) (ls : Array Slot), va_P (dC, dI) vwCl [(q_th, .inr (8, [.ref q_th_told, .ref q_th_now, x_th_text, .int th_letters, .int th_at, x_th_read, .int th_isMore, .int th_told0, .ref q_th_from, .ref q_th_to, x_th_undone, .int th_undos, .ref q_th_aside, .int th_beganOn, .int th_beganIn, .int th_first, .int th_second, x_th_seenCell, x_th_seenNight, .int th_seens, .int th_above_16, .int th_below_16, x_th_kept, .int th_keeps])), (q_th_aside, .inl (cI, 28, .inl o1)), (q_th_now, .inl (cI, 28, .inl th_now_29)), (q_th_told, .inl (cI, 54, .inl th_told)), (q_th_from, .inl (cI, 25, .inl th_from_29)), (q_th_to, .inl (cI, 25, .inl th_to_29))] H → va_D A [(q_th, .inr (8, [.ref q_th_told, .ref q_th_now, x_th_text, .int th_letters, .int th_at, x_th_read, .int th_isMore, .int th_told0, .ref q_th_from, .ref q_th_to, x_th_undone, .int th_undos, .ref q_th_aside, .int th_beganOn, .int th_beganIn, .int th_first, .int th_second, x_th_seenCell, x_th_seenNight, .int th_seens, .int th_above_16, .int th_below_16, x_th_kept, .int th_keeps])), (q_th_aside, .inl (cI, 28, .inl o1)), (q_th_now, .inl (cI, 28, .inl th_now_29)), (q_th_told, .inl (cI, 54, .inl th_told)), (q_th_from, .inl (cI, 25, .inl th_from_29)), (q_th_to, .inl (cI, 25, .inl th_to_29))] → va_S A s.heap H locs → lv_has ls 7 [(0, .ref q_th), (1, .int p1), (2, .int p2), (3, .int v3_16), (4, .int (v4_29 * s1_67)), (5, .int v5_29)] → W p l e ({ frames := 6, cells := 0, slots := 0, locals := 144 } : Room) s m args below meth c H locs 0 0 Q (F0 m 82 ls [.int s1_82, .ref q_th]) := by
                    intro s1_82 hF H locs ls hP hD hS hl
                    rw [fX8_chances_82_e] at hF
                    obtain ⟨o82, hF1, hF⟩ := ng_b hF
                    refine nx_callVi (As := [.int s1_82]) (rest := []) (W1 := [(q_th, .inr (8, [.ref q_th_told, .ref q_th_now, x_th_text, .int th_letters, .int th_at, x_th_read, .int th_isMore, .int th_told0, .ref q_th_from, .ref q_th_to, x_th_undone, .int th_undos, .ref q_th_aside, .int th_beganOn, .int th_beganIn, .int th_first, .int th_second, x_th_seenCell, x_th_seenNight, .int th_seens, .int th_above_16, .int th_below_16, x_th_kept, .int th_keeps])), (q_th_aside, .inl (cI, 28, .inl o1)), (q_th_now, .inl (cI, 28, .inl o82.2.1)), (q_th_told, .inl (cI, 54, .inl th_told)), (q_th_from, .inl (cI, 25, .inl o82.2.2.1)), (q_th_to, .inl (cI, 25, .inl o82.2.2.2))]) (wr := [(q_th_aside, .inl (cI, 28, .inl o1))]) S0 hK hN hA hP hD hS (kX8_goesBy l dC dI cI q_th q_th_now q_th_told q_th_from q_th_to _ (x_th_text) th_letters th_at (x_th_read) th_isMore th_told0 (x_th_undone) th_undos (.ref q_th_aside) th_beganOn th_beganIn th_first th_second (x_th_seenCell) (x_th_seenNight) th_seens th_above_16 th_below_16 (x_th_kept) th_keeps th_now_29 th_told th_from_29 th_to_29 s1_82 N o82 hF1) (cwV 1 hts gX8_chances_X8_goesBy rfl rfl rfl ⟨rfl, hdX8_goesBy⟩ ⟨Nat.le_of_ble_eq_true rfl, Nat.le_of_ble_eq_true rfl⟩) [0, 2, 3, 4, 5] [1] [1, 0, 2, 3, 4, 5] rfl rfl rfl rfl 0 8 rfl rfl rfl rfl hl.1 rfl (Nat.le_of_ble_eq_true rfl) dX8_chances_82 (fun H locs hP hD hS => ?_)
                    refine lv_pop hx hb dX8_chances_85 rfl ?_
                    refine lv_iinc (v := v5_29 + (nI 1)) (lv' := [(5, .int (v5_29 + (nI 1))), (0, .ref q_th), (1, .int p1), (2, .int p2), (3, .int v3_16), (4, .int (v4_29 * s1_67))]) hx hb dX8_chances_86 hl (k := 5) rfl rfl (by decide) rfl (fun ls hl => ?_)
                    refine lv_goto (tgt := 29) hx hb dX8_chances_89 (by decide) ?_
                    exact ih_29 (v4_29 * s1_67) (v5_29 + (nI 1)) o82.2.1 o82.2.2.1 o82.2.2.2 hF _ _ _ hP hD hS (lv_sub hl [1, 2, 3, 4, 5, 0] rfl)
                  refine lv_if_eq (tgt := 81) hx hb dX8_chances_73 (by decide) (fun hc => ?_) (fun hc => ?_)
                  · have hF := ng_t hc hF
                    refine lv_iconst (v := (nI 0)) hx hb dX8_chances_81 (by decide) ?_
                    exact B_82 (nI 0) hF _ _ _ hP hD hS (lv_sub hl [1, 2, 3, 4, 0, 5] rfl)
                  · have hF := ng_f hc hF
                    refine lv_bipush (v := (nI 6)) hx hb dX8_chances_76 (by decide) ?_
                    refine lv_goto (tgt := 82) hx hb dX8_chances_78 (by decide) ?_
                    exact B_82 (nI 6) hF _ _ _ hP hD hS (lv_sub hl [1, 2, 3, 4, 0, 5] rfl)
                refine lv_if_eq (tgt := 63) hx hb dX8_chances_56 (by decide) (fun hc => ?_) (fun hc => ?_)
                · have hF := ng_t hc hF
                  refine lv_bipush (v := (nI 10)) hx hb dX8_chances_63 (by decide) ?_
                  refine lv_iload_n hx hb dX8_chances_65 rfl (lv_at hl 3 rfl) ?_
                  refine lv_isub hx hb dX8_chances_66 ?_
                  exact B_67 ((nI 10) - p2) hF _ _ _ hP hD hS (lv_sub hl [1, 2, 3, 4, 6, 0] rfl)
                · have hF := ng_f hc hF
                  refine lv_iload_n hx hb dX8_chances_59 rfl (lv_at hl 3 rfl) ?_
                  refine lv_goto (tgt := 67) hx hb dX8_chances_60 (by decide) ?_
                  exact B_67 p2 hF _ _ _ hP hD hS (lv_sub hl [1, 2, 3, 4, 6, 0] rfl)
              refine lv_icmp_ne (tgt := 49) hx hb dX8_chances_42 (by decide) (fun hc => ?_) (fun hc => ?_)
              · have hF := ng_f hc hF
                refine lv_iconst (v := (nI 0)) hx hb dX8_chances_49 (by decide) ?_
                exact B_50 (nI 0) hF _ _ _ hP hD hS (lv_sub hl [0, 1, 2, 3, 4, 5] rfl)
              · have hF := ng_t hc hF
                refine lv_iconst (v := (nI 1)) hx hb dX8_chances_45 (by decide) ?_
                refine lv_goto (tgt := 50) hx hb dX8_chances_46 (by decide) ?_
                exact B_50 (nI 1) hF _ _ _ hP hD hS (lv_sub hl [0, 1, 2, 3, 4, 5] rfl)
        refine lv_istore (lv' := [(5, .int (nI 0)), (4, .int (nI 1)), (0, .ref q_th), (1, .int p1), (2, .int p2), (3, .int v3_16)]) hx hb dX8_chances_27 hl (by decide) rfl (fun ls hl => ?_)
        exact B_29 N (nI 1) (nI 0) th_now_16 th_from_16 th_to_16 hF _ _ _ hP hD hS (lv_sub hl [2, 3, 4, 5, 1, 0] rfl)
  refine lv_istore_n (lv' := [(3, .int (nI 0)), (0, .ref q_th), (1, .int p1), (2, .int p2)]) hx hb dX8_chances_15 rfl hl (by decide) rfl (fun ls hl => ?_)
  exact B_16 N (nI 0) (nI 0) (nI 0) th_now th_from th_to hF _ _ _ hP hD hS (lv_sub hl [1, 2, 3, 0] rfl)
theorem hdX8_likely : yX8_likely.cls ≠ "java/lang/invoke/MethodHandle" ∧ yX8_likely.cls ≠ "java/lang/invoke/VarHandle" ∧ (parseMethodDescriptor yX8_likely.desc).map (fun d => d.parameters.length) = some 3 := by decide +kernel
set_option maxHeartbeats 40000000 in
set_option maxRecDepth 100000 in
theorem kX8_likely (l : Launch) (dC : Nat → ClassId) (dI : Nat → Nat → Nat) (cI : ClassId) (q_th : Nat) (q_th_aside : Nat) (q_th_now : Nat) (q_th_told : Nat) (q_th_from : Nat) (q_th_to : Nat) (sz : Nat) (x_th_text : Value) (th_letters : Int32) (th_at : Int32) (x_th_read : Value) (th_isMore : Int32) (th_told0 : Int32) (x_th_undone : Value) (th_undos : Int32) (th_beganOn : Int32) (th_beganIn : Int32) (th_first : Int32) (th_second : Int32) (x_th_seenCell : Value) (x_th_seenNight : Value) (th_seens : Int32) (th_above : Int32) (th_below : Int32) (x_th_kept : Value) (th_keeps : Int32) (th_aside : Nat → Int32) (th_now : Nat → Int32) (th_told : Nat → Int32) (th_from : Nat → Int32) (th_to : Nat → Int32) (p1 : Int32) (p2 : Int32) (p3 : Int32) (N : Nat) (o : Int32 × Int32 × Int32 × (Nat → Int32) × (Nat → Int32) × (Nat → Int32) × (Nat → Int32)) (hF : fX8_likely N th_above th_below p1 p2 p3 th_aside th_now th_told th_from th_to = some o) : nx_I l yX8_likely wsX8_likely ({ frames := 7, cells := 0, slots := 0, locals := 170 } : Room) (dC, dI) cI [.ref q_th, .int p1, .int p2, .int p3] [(q_th, .inr (8, [.ref q_th_told, .ref q_th_now, x_th_text, .int th_letters, .int th_at, x_th_read, .int th_isMore, .int th_told0, .ref q_th_from, .ref q_th_to, x_th_undone, .int th_undos, .ref q_th_aside, .int th_beganOn, .int th_beganIn, .int th_first, .int th_second, x_th_seenCell, x_th_seenNight, .int th_seens, .int th_above, .int th_below, x_th_kept, .int th_keeps])), (q_th_aside, .inl (cI, 28, .inl th_aside)), (q_th_now, .inl (cI, 28, .inl th_now)), (q_th_told, .inl (cI, 54, .inl th_told)), (q_th_from, .inl (cI, 25, .inl th_from)), (q_th_to, .inl (cI, 25, .inl th_to))] sz o.1 [(q_th, .inr (8, [.ref q_th_told, .ref q_th_now, x_th_text, .int th_letters, .int th_at, x_th_read, .int th_isMore, .int th_told0, .ref q_th_from, .ref q_th_to, x_th_undone, .int th_undos, .ref q_th_aside, .int th_beganOn, .int th_beganIn, .int th_first, .int th_second, x_th_seenCell, x_th_seenNight, .int th_seens, .int o.2.1, .int o.2.2.1, x_th_kept, .int th_keeps])), (q_th_aside, .inl (cI, 28, .inl o.2.2.2.1)), (q_th_now, .inl (cI, 28, .inl o.2.2.2.2.1)), (q_th_told, .inl (cI, 54, .inl th_told)), (q_th_from, .inl (cI, 25, .inl o.2.2.2.2.2.1)), (q_th_to, .inl (cI, 25, .inl o.2.2.2.2.2.2))] := by
  refine nx_int (cc := cX8_likely) (maxL := 7) (by decide) rfl (Nat.le_of_ble_eq_true rfl) ?_
  intro p e s m args below meth c Q A S0 hK hN hA ret0 hP hD hS ls hl
  have S0 : CallFix p m c cX8_likely 7 s args wsX8_likely RX8 := S0
  have hx := S0.1
  have hb := S0.2.1
  have hown := S0.2.2.2.1
  have hts := S0.2.2.2.2
  have hf_204 := hts (.fieldLink RX8 204 "SnailsYearModel" "above" "I") (by decide +kernel)
  have hin_X8 : ∀ w ∈ wsX80, w ∈ wsX8_likely := by decide +kernel
  have hf_207 := hts (.fieldLink RX8 207 "SnailsYearModel" "below" "I") (by decide +kernel)
  have hl : lv_has ls 7 [(0, .ref q_th), (1, .int p1), (2, .int p2), (3, .int p3)] := hl
  have hret : ∀ (r0 : Int32) (y0 : Int32) (y1 : Int32) (y2 : Nat → Int32) (y3 : Nat → Int32) (y4 : Nat → Int32) (y5 : Nat → Int32) (H : Heap) (locs : List Loc) (ls : Array Slot) (pc : Nat), some (r0, y0, y1, y2, y3, y4, y5) = some o → decode cX8_likely pc = .ok (.ireturn, 1) → va_P (dC, dI) vwCl [(q_th, .inr (8, [.ref q_th_told, .ref q_th_now, x_th_text, .int th_letters, .int th_at, x_th_read, .int th_isMore, .int th_told0, .ref q_th_from, .ref q_th_to, x_th_undone, .int th_undos, .ref q_th_aside, .int th_beganOn, .int th_beganIn, .int th_first, .int th_second, x_th_seenCell, x_th_seenNight, .int th_seens, .int y0, .int y1, x_th_kept, .int th_keeps])), (q_th_aside, .inl (cI, 28, .inl y2)), (q_th_now, .inl (cI, 28, .inl y3)), (q_th_told, .inl (cI, 54, .inl th_told)), (q_th_from, .inl (cI, 25, .inl y4)), (q_th_to, .inl (cI, 25, .inl y5))] H → va_D A [(q_th, .inr (8, [.ref q_th_told, .ref q_th_now, x_th_text, .int th_letters, .int th_at, x_th_read, .int th_isMore, .int th_told0, .ref q_th_from, .ref q_th_to, x_th_undone, .int th_undos, .ref q_th_aside, .int th_beganOn, .int th_beganIn, .int th_first, .int th_second, x_th_seenCell, x_th_seenNight, .int th_seens, .int y0, .int y1, x_th_kept, .int th_keeps])), (q_th_aside, .inl (cI, 28, .inl y2)), (q_th_now, .inl (cI, 28, .inl y3)), (q_th_told, .inl (cI, 54, .inl th_told)), (q_th_from, .inl (cI, 25, .inl y4)), (q_th_to, .inl (cI, 25, .inl y5))] → va_S A s.heap H locs → W p l e ({ frames := 7, cells := 0, slots := 0, locals := 170 } : Room) s m args below meth c H locs 0 0 Q (F0 m pc ls [.int r0]) := by
    intro r0 y0 y1 y2 y3 y4 y5 H locs ls pc ho hd hP hD hS
    cases ho
    exact ret0 H locs ls pc hd hP hD hS
  rw [fX8_likely_e] at hF
  refine lv_iload_n hx hb dX8_likely_0 rfl (lv_at hl 1 rfl) ?_
  refine lv_i2l hx hb dX8_likely_1 rfl ?_
  refine lv_lconst (v := (lN 0)) hx hb dX8_likely_2 (by decide) ?_
  refine lv_ldc2 (v := (lN 6)) hx hb hown (hts (.constantLong RX8 210 6) (by decide +kernel)) dX8_likely_3 ?_
  obtain ⟨o6, hF1, hF⟩ := ng_b hF
  refine nx_callSi (As := [.long p1.toInt64, .long (lN 0), .long (lN 6)]) (rest := []) (W1 := [(q_th, .inr (8, [.ref q_th_told, .ref q_th_now, x_th_text, .int th_letters, .int th_at, x_th_read, .int th_isMore, .int th_told0, .ref q_th_from, .ref q_th_to, x_th_undone, .int th_undos, .ref q_th_aside, .int th_beganOn, .int th_beganIn, .int th_first, .int th_second, x_th_seenCell, x_th_seenNight, .int th_seens, .int th_above, .int th_below, x_th_kept, .int th_keeps])), (q_th_aside, .inl (cI, 28, .inl th_aside)), (q_th_now, .inl (cI, 28, .inl th_now)), (q_th_told, .inl (cI, 54, .inl th_told)), (q_th_from, .inl (cI, 25, .inl th_from)), (q_th_to, .inl (cI, 25, .inl th_to))]) (wr := [(q_th, .inr (8, [.ref q_th_told, .ref q_th_now, x_th_text, .int th_letters, .int th_at, x_th_read, .int th_isMore, .int th_told0, .ref q_th_from, .ref q_th_to, x_th_undone, .int th_undos, .ref q_th_aside, .int th_beganOn, .int th_beganIn, .int th_first, .int th_second, x_th_seenCell, x_th_seenNight, .int th_seens, .int th_above, .int th_below, x_th_kept, .int th_keeps])), (q_th_aside, .inl (cI, 28, .inl th_aside)), (q_th_now, .inl (cI, 28, .inl th_now)), (q_th_told, .inl (cI, 54, .inl th_told)), (q_th_from, .inl (cI, 25, .inl th_from)), (q_th_to, .inl (cI, 25, .inl th_to))]) S0 hK hN hA hP hD hS (kX8_in l dC dI cI _ p1.toInt64 (lN 0) (lN 6) N o6 hF1) (va_cwS 3 hts gX8_likely_X8_in rfl rfl rfl hdX8_in ⟨Nat.le_of_ble_eq_true rfl, Nat.le_of_ble_eq_true rfl⟩) [] [0, 1, 2, 3, 4, 5] [0, 1, 2, 3, 4, 5] rfl rfl rfl rfl rfl hl.1 rfl (Nat.le_of_ble_eq_true rfl) dX8_likely_6 (fun H locs hP hD hS => ?_)
  refine lv_if_eq (tgt := 34) hx hb dX8_likely_9 (by decide) (fun hc => ?_) (fun hc => ?_)
  · have hF := ng_t hc hF
    refine lv_iconst (v := (-1 : Int32)) hx hb dX8_likely_34 (by decide) ?_
    exact hret (-1 : Int32) th_above th_below th_aside th_now th_from th_to _ _ _ _ hF dX8_likely_35 hP hD hS
  · have hF := ng_f hc hF
    refine lv_iload_n hx hb dX8_likely_12 rfl (lv_at hl 2 rfl) ?_
    refine lv_i2l hx hb dX8_likely_13 rfl ?_
    refine lv_lconst (v := (lN 0)) hx hb dX8_likely_14 (by decide) ?_
    refine lv_ldc2 (v := (lN 10)) hx hb hown (hts (.constantLong RX8 212 10) (by decide +kernel)) dX8_likely_15 ?_
    obtain ⟨o18, hF1, hF⟩ := ng_b hF
    refine nx_callSi (As := [.long p2.toInt64, .long (lN 0), .long (lN 10)]) (rest := []) (W1 := [(q_th, .inr (8, [.ref q_th_told, .ref q_th_now, x_th_text, .int th_letters, .int th_at, x_th_read, .int th_isMore, .int th_told0, .ref q_th_from, .ref q_th_to, x_th_undone, .int th_undos, .ref q_th_aside, .int th_beganOn, .int th_beganIn, .int th_first, .int th_second, x_th_seenCell, x_th_seenNight, .int th_seens, .int th_above, .int th_below, x_th_kept, .int th_keeps])), (q_th_aside, .inl (cI, 28, .inl th_aside)), (q_th_now, .inl (cI, 28, .inl th_now)), (q_th_told, .inl (cI, 54, .inl th_told)), (q_th_from, .inl (cI, 25, .inl th_from)), (q_th_to, .inl (cI, 25, .inl th_to))]) (wr := [(q_th, .inr (8, [.ref q_th_told, .ref q_th_now, x_th_text, .int th_letters, .int th_at, x_th_read, .int th_isMore, .int th_told0, .ref q_th_from, .ref q_th_to, x_th_undone, .int th_undos, .ref q_th_aside, .int th_beganOn, .int th_beganIn, .int th_first, .int th_second, x_th_seenCell, x_th_seenNight, .int th_seens, .int th_above, .int th_below, x_th_kept, .int th_keeps])), (q_th_aside, .inl (cI, 28, .inl th_aside)), (q_th_now, .inl (cI, 28, .inl th_now)), (q_th_told, .inl (cI, 54, .inl th_told)), (q_th_from, .inl (cI, 25, .inl th_from)), (q_th_to, .inl (cI, 25, .inl th_to))]) S0 hK hN hA hP hD hS (kX8_in l dC dI cI _ p2.toInt64 (lN 0) (lN 10) N o18 hF1) (va_cwS 3 hts gX8_likely_X8_in rfl rfl rfl hdX8_in ⟨Nat.le_of_ble_eq_true rfl, Nat.le_of_ble_eq_true rfl⟩) [] [0, 1, 2, 3, 4, 5] [0, 1, 2, 3, 4, 5] rfl rfl rfl rfl rfl hl.1 rfl (Nat.le_of_ble_eq_true rfl) dX8_likely_18 (fun H locs hP hD hS => ?_)
    refine lv_if_eq (tgt := 34) hx hb dX8_likely_21 (by decide) (fun hc => ?_) (fun hc => ?_)
    · have hF := ng_t hc hF
      refine lv_iconst (v := (-1 : Int32)) hx hb dX8_likely_34 (by decide) ?_
      exact hret (-1 : Int32) th_above th_below th_aside th_now th_from th_to _ _ _ _ hF dX8_likely_35 hP hD hS
    · have hF := ng_f hc hF
      refine lv_iload_n hx hb dX8_likely_24 rfl (lv_at hl 3 rfl) ?_
      refine lv_i2l hx hb dX8_likely_25 rfl ?_
      refine lv_lconst (v := (lN 0)) hx hb dX8_likely_26 (by decide) ?_
      refine lv_lconst (v := (lN 1)) hx hb dX8_likely_27 (by decide) ?_
      obtain ⟨o28, hF1, hF⟩ := ng_b hF
      refine nx_callSi (As := [.long p3.toInt64, .long (lN 0), .long (lN 1)]) (rest := []) (W1 := [(q_th, .inr (8, [.ref q_th_told, .ref q_th_now, x_th_text, .int th_letters, .int th_at, x_th_read, .int th_isMore, .int th_told0, .ref q_th_from, .ref q_th_to, x_th_undone, .int th_undos, .ref q_th_aside, .int th_beganOn, .int th_beganIn, .int th_first, .int th_second, x_th_seenCell, x_th_seenNight, .int th_seens, .int th_above, .int th_below, x_th_kept, .int th_keeps])), (q_th_aside, .inl (cI, 28, .inl th_aside)), (q_th_now, .inl (cI, 28, .inl th_now)), (q_th_told, .inl (cI, 54, .inl th_told)), (q_th_from, .inl (cI, 25, .inl th_from)), (q_th_to, .inl (cI, 25, .inl th_to))]) (wr := [(q_th, .inr (8, [.ref q_th_told, .ref q_th_now, x_th_text, .int th_letters, .int th_at, x_th_read, .int th_isMore, .int th_told0, .ref q_th_from, .ref q_th_to, x_th_undone, .int th_undos, .ref q_th_aside, .int th_beganOn, .int th_beganIn, .int th_first, .int th_second, x_th_seenCell, x_th_seenNight, .int th_seens, .int th_above, .int th_below, x_th_kept, .int th_keeps])), (q_th_aside, .inl (cI, 28, .inl th_aside)), (q_th_now, .inl (cI, 28, .inl th_now)), (q_th_told, .inl (cI, 54, .inl th_told)), (q_th_from, .inl (cI, 25, .inl th_from)), (q_th_to, .inl (cI, 25, .inl th_to))]) S0 hK hN hA hP hD hS (kX8_in l dC dI cI _ p3.toInt64 (lN 0) (lN 1) N o28 hF1) (va_cwS 3 hts gX8_likely_X8_in rfl rfl rfl hdX8_in ⟨Nat.le_of_ble_eq_true rfl, Nat.le_of_ble_eq_true rfl⟩) [] [0, 1, 2, 3, 4, 5] [0, 1, 2, 3, 4, 5] rfl rfl rfl rfl rfl hl.1 rfl (Nat.le_of_ble_eq_true rfl) dX8_likely_28 (fun H locs hP hD hS => ?_)
      refine lv_if_ne (tgt := 36) hx hb dX8_likely_31 (by decide) (fun hc => ?_) (fun hc => ?_)
      · have hF := ng_f hc hF
        refine lv_aload_n hx hb dX8_likely_36 rfl (lv_at hl 0 rfl) ?_
        refine lv_iload_n hx hb dX8_likely_37 rfl (lv_at hl 1 rfl) ?_
        refine lv_iload_n hx hb dX8_likely_38 rfl (lv_at hl 2 rfl) ?_
        obtain ⟨o39, hF1, hF⟩ := ng_b hF
        refine nx_callVv (As := [.int p1, .int p2]) (rest := []) (W1 := [(q_th, .inr (8, [.ref q_th_told, .ref q_th_now, x_th_text, .int th_letters, .int th_at, x_th_read, .int th_isMore, .int th_told0, .ref q_th_from, .ref q_th_to, x_th_undone, .int th_undos, .ref q_th_aside, .int th_beganOn, .int th_beganIn, .int th_first, .int th_second, x_th_seenCell, x_th_seenNight, .int th_seens, .int o39.1, .int o39.2.1, x_th_kept, .int th_keeps])), (q_th_aside, .inl (cI, 28, .inl o39.2.2.1)), (q_th_now, .inl (cI, 28, .inl o39.2.2.2.1)), (q_th_told, .inl (cI, 54, .inl th_told)), (q_th_from, .inl (cI, 25, .inl o39.2.2.2.2.1)), (q_th_to, .inl (cI, 25, .inl o39.2.2.2.2.2))]) (wr := []) S0 hK hN hA hP hD hS (kX8_chances l dC dI cI q_th q_th_aside q_th_now q_th_told q_th_from q_th_to _ (x_th_text) th_letters th_at (x_th_read) th_isMore th_told0 (x_th_undone) th_undos th_beganOn th_beganIn th_first th_second (x_th_seenCell) (x_th_seenNight) th_seens th_above th_below (x_th_kept) th_keeps th_aside th_now th_told th_from th_to p1 p2 N o39 hF1) (cwV 2 hts gX8_likely_X8_chances rfl rfl rfl ⟨rfl, hdX8_chances⟩ ⟨Nat.le_of_ble_eq_true rfl, Nat.le_of_ble_eq_true rfl⟩) [0, 1, 2, 3, 4, 5] [] [0, 1, 2, 3, 4, 5] rfl rfl rfl rfl 0 8 rfl rfl rfl rfl hl.1 rfl (Nat.le_of_ble_eq_true rfl) dX8_likely_39 (fun H locs hP hD hS => ?_)
        refine lv_aload_n hx hb dX8_likely_42 rfl (lv_at hl 0 rfl) ?_
        refine nx_get S0 hK hP 0 20 hin_X8 hf_204 rfl rfl (by decide) rfl rfl dX8_likely_43 ?_
        refine lv_istore (lv' := [(4, .int o39.1), (0, .ref q_th), (1, .int p1), (2, .int p2), (3, .int p3)]) hx hb dX8_likely_46 hl (by decide) rfl (fun ls hl => ?_)
        refine lv_aload_n hx hb dX8_likely_48 rfl (lv_at hl 1 rfl) ?_
        refine nx_get S0 hK hP 0 21 hin_X8 hf_207 rfl rfl (by decide) rfl rfl dX8_likely_49 ?_
        have B_54 : ∀ (n_54 : Nat) (v4_54 : Int32) (v5_54 : Int32), fX8_likely_54 p3 o39 n_54 v4_54 v5_54 = some o → ∀ (H : Heap) (locs : List Loc) (ls : Array Slot), va_P (dC, dI) vwCl [(q_th, .inr (8, [.ref q_th_told, .ref q_th_now, x_th_text, .int th_letters, .int th_at, x_th_read, .int th_isMore, .int th_told0, .ref q_th_from, .ref q_th_to, x_th_undone, .int th_undos, .ref q_th_aside, .int th_beganOn, .int th_beganIn, .int th_first, .int th_second, x_th_seenCell, x_th_seenNight, .int th_seens, .int o39.1, .int o39.2.1, x_th_kept, .int th_keeps])), (q_th_aside, .inl (cI, 28, .inl o39.2.2.1)), (q_th_now, .inl (cI, 28, .inl o39.2.2.2.1)), (q_th_told, .inl (cI, 54, .inl th_told)), (q_th_from, .inl (cI, 25, .inl o39.2.2.2.2.1)), (q_th_to, .inl (cI, 25, .inl o39.2.2.2.2.2))] H → va_D A [(q_th, .inr (8, [.ref q_th_told, .ref q_th_now, x_th_text, .int th_letters, .int th_at, x_th_read, .int th_isMore, .int th_told0, .ref q_th_from, .ref q_th_to, x_th_undone, .int th_undos, .ref q_th_aside, .int th_beganOn, .int th_beganIn, .int th_first, .int th_second, x_th_seenCell, x_th_seenNight, .int th_seens, .int o39.1, .int o39.2.1, x_th_kept, .int th_keeps])), (q_th_aside, .inl (cI, 28, .inl o39.2.2.1)), (q_th_now, .inl (cI, 28, .inl o39.2.2.2.1)), (q_th_told, .inl (cI, 54, .inl th_told)), (q_th_from, .inl (cI, 25, .inl o39.2.2.2.2.1)), (q_th_to, .inl (cI, 25, .inl o39.2.2.2.2.2))] → va_S A s.heap H locs → lv_has ls 7 [(0, .ref q_th), (3, .int p3), (4, .int v4_54), (5, .int v5_54)] → W p l e ({ frames := 7, cells := 0, slots := 0, locals := 170 } : Room) s m args below meth c H locs 0 0 Q (F0 m 54 ls []) := by
          intro n_54
          induction n_54 with
          | zero =>
            intro v4_54 v5_54 hF
            rw [fX8_likely_54_z] at hF
            cases hF
          | succ n_54 ih_54 =>
            intro v4_54 v5_54 hF H locs ls hP hD hS hl
            rw [fX8_likely_54_s] at hF
            refine lv_iload hx hb dX8_likely_54 (lv_at hl 3 rfl) ?_
            refine lv_if_eq (tgt := 77) hx hb dX8_likely_56 (by decide) (fun hc => ?_) (fun hc => ?_)
            · have hF := ng_t hc hF
              refine lv_iload_n hx hb dX8_likely_77 rfl (lv_at hl 1 rfl) ?_
              refine lv_if_ne (tgt := 91) hx hb dX8_likely_78 (by decide) (fun hc => ?_) (fun hc => ?_)
              · have hF := ng_f hc hF
                refine lv_aload_n hx hb dX8_likely_91 rfl (lv_at hl 0 rfl) ?_
                refine nx_get S0 hK hP 0 21 hin_X8 hf_207 rfl rfl (by decide) rfl rfl dX8_likely_92 ?_
                refine lv_iload hx hb dX8_likely_95 (lv_at hl 2 rfl) ?_
                have hg := ng_p hF
                have hF := ng_x hF
                refine lv_idiv hx hb dX8_likely_97 hg ?_
                exact hret (o39.2.1 / v4_54) o39.1 o39.2.1 o39.2.2.1 o39.2.2.2.1 o39.2.2.2.2.1 o39.2.2.2.2.2 _ _ _ _ hF dX8_likely_98 hP hD hS
              · have hF := ng_t hc hF
                refine lv_aload_n hx hb dX8_likely_81 rfl (lv_at hl 0 rfl) ?_
                refine nx_get S0 hK hP 0 20 hin_X8 hf_204 rfl rfl (by decide) rfl rfl dX8_likely_82 ?_
                refine lv_iload hx hb dX8_likely_85 (lv_at hl 2 rfl) ?_
                have hg := ng_p hF
                have hF := ng_x hF
                refine lv_idiv hx hb dX8_likely_87 hg ?_
                refine lv_goto (tgt := 98) hx hb dX8_likely_88 (by decide) ?_
                exact hret (o39.1 / v4_54) o39.1 o39.2.1 o39.2.2.1 o39.2.2.2.1 o39.2.2.2.2.1 o39.2.2.2.2.2 _ _ _ _ hF dX8_likely_98 hP hD hS
            · have hF := ng_f hc hF
              refine lv_iload hx hb dX8_likely_59 (lv_at hl 2 rfl) ?_
              refine lv_iload hx hb dX8_likely_61 (lv_at hl 3 rfl) ?_
              have hg := ng_p hF
              have hF := ng_x hF
              refine lv_irem hx hb dX8_likely_63 hg ?_
              refine lv_istore (lv' := [(6, .int (v4_54 - v4_54 / v5_54 * v5_54)), (0, .ref q_th), (3, .int p3), (4, .int v4_54), (5, .int v5_54)]) hx hb dX8_likely_64 hl (by decide) rfl (fun ls hl => ?_)
              refine lv_iload hx hb dX8_likely_66 (lv_at hl 4 rfl) ?_
              refine lv_istore (lv' := [(4, .int v5_54), (6, .int (v4_54 - v4_54 / v5_54 * v5_54)), (0, .ref q_th), (3, .int p3), (5, .int v5_54)]) hx hb dX8_likely_68 hl (by decide) rfl (fun ls hl => ?_)
              refine lv_iload hx hb dX8_likely_70 (lv_at hl 1 rfl) ?_
              refine lv_istore (lv' := [(5, .int (v4_54 - v4_54 / v5_54 * v5_54)), (4, .int v5_54), (6, .int (v4_54 - v4_54 / v5_54 * v5_54)), (0, .ref q_th), (3, .int p3)]) hx hb dX8_likely_72 hl (by decide) rfl (fun ls hl => ?_)
              refine lv_goto (tgt := 54) hx hb dX8_likely_74 (by decide) ?_
              exact ih_54 v5_54 (v4_54 - v4_54 / v5_54 * v5_54) hF _ _ _ hP hD hS (lv_sub hl [3, 4, 1, 0] rfl)
        refine lv_istore (lv' := [(5, .int o39.2.1), (4, .int o39.1), (0, .ref q_th), (1, .int p1), (2, .int p2), (3, .int p3)]) hx hb dX8_likely_52 hl (by decide) rfl (fun ls hl => ?_)
        exact B_54 N o39.1 o39.2.1 hF _ _ _ hP hD hS (lv_sub hl [2, 5, 1, 0] rfl)
      · have hF := ng_t hc hF
        refine lv_iconst (v := (-1 : Int32)) hx hb dX8_likely_34 (by decide) ?_
        exact hret (-1 : Int32) th_above th_below th_aside th_now th_from th_to _ _ _ _ hF dX8_likely_35 hP hD hS
theorem hdX8_bet : yX8_bet.cls ≠ "java/lang/invoke/MethodHandle" ∧ yX8_bet.cls ≠ "java/lang/invoke/VarHandle" ∧ (parseMethodDescriptor yX8_bet.desc).map (fun d => d.parameters.length) = some 2 := by decide +kernel
set_option maxHeartbeats 40000000 in
set_option maxRecDepth 100000 in
theorem kX8_bet (l : Launch) (dC : Nat → ClassId) (dI : Nat → Nat → Nat) (cI : ClassId) (q_th : Nat) (q_th_aside : Nat) (q_th_now : Nat) (q_th_told : Nat) (q_th_from : Nat) (q_th_to : Nat) (sz : Nat) (x_th_text : Value) (th_letters : Int32) (th_at : Int32) (x_th_read : Value) (th_isMore : Int32) (th_told0 : Int32) (x_th_undone : Value) (th_undos : Int32) (th_beganOn : Int32) (th_beganIn : Int32) (th_first : Int32) (th_second : Int32) (x_th_seenCell : Value) (x_th_seenNight : Value) (th_seens : Int32) (th_above : Int32) (th_below : Int32) (x_th_kept : Value) (th_keeps : Int32) (th_aside : Nat → Int32) (th_now : Nat → Int32) (th_told : Nat → Int32) (th_from : Nat → Int32) (th_to : Nat → Int32) (p1 : Int32) (p2 : Int32) (N : Nat) (o : Int32 × Int32 × Int32 × (Nat → Int32) × (Nat → Int32) × (Nat → Int32) × (Nat → Int32)) (hF : fX8_bet N th_above th_below p1 p2 th_aside th_now th_told th_from th_to = some o) : nx_I l yX8_bet wsX8_bet ({ frames := 7, cells := 0, slots := 0, locals := 170 } : Room) (dC, dI) cI [.ref q_th, .int p1, .int p2] [(q_th, .inr (8, [.ref q_th_told, .ref q_th_now, x_th_text, .int th_letters, .int th_at, x_th_read, .int th_isMore, .int th_told0, .ref q_th_from, .ref q_th_to, x_th_undone, .int th_undos, .ref q_th_aside, .int th_beganOn, .int th_beganIn, .int th_first, .int th_second, x_th_seenCell, x_th_seenNight, .int th_seens, .int th_above, .int th_below, x_th_kept, .int th_keeps])), (q_th_aside, .inl (cI, 28, .inl th_aside)), (q_th_now, .inl (cI, 28, .inl th_now)), (q_th_told, .inl (cI, 54, .inl th_told)), (q_th_from, .inl (cI, 25, .inl th_from)), (q_th_to, .inl (cI, 25, .inl th_to))] sz o.1 [(q_th, .inr (8, [.ref q_th_told, .ref q_th_now, x_th_text, .int th_letters, .int th_at, x_th_read, .int th_isMore, .int th_told0, .ref q_th_from, .ref q_th_to, x_th_undone, .int th_undos, .ref q_th_aside, .int th_beganOn, .int th_beganIn, .int th_first, .int th_second, x_th_seenCell, x_th_seenNight, .int th_seens, .int o.2.1, .int o.2.2.1, x_th_kept, .int th_keeps])), (q_th_aside, .inl (cI, 28, .inl o.2.2.2.1)), (q_th_now, .inl (cI, 28, .inl o.2.2.2.2.1)), (q_th_told, .inl (cI, 54, .inl th_told)), (q_th_from, .inl (cI, 25, .inl o.2.2.2.2.2.1)), (q_th_to, .inl (cI, 25, .inl o.2.2.2.2.2.2))] := by
  refine nx_int (cc := cX8_bet) (maxL := 3) (by decide) rfl (Nat.le_of_ble_eq_true rfl) ?_
  intro p e s m args below meth c Q A S0 hK hN hA ret0 hP hD hS ls hl
  have S0 : CallFix p m c cX8_bet 3 s args wsX8_bet RX8 := S0
  have hx := S0.1
  have hb := S0.2.1
  have hown := S0.2.2.2.1
  have hts := S0.2.2.2.2
  have hf_204 := hts (.fieldLink RX8 204 "SnailsYearModel" "above" "I") (by decide +kernel)
  have hin_X8 : ∀ w ∈ wsX80, w ∈ wsX8_bet := by decide +kernel
  have hf_207 := hts (.fieldLink RX8 207 "SnailsYearModel" "below" "I") (by decide +kernel)
  have hl : lv_has ls 3 [(0, .ref q_th), (1, .int p1), (2, .int p2)] := hl
  have hret : ∀ (r0 : Int32) (y0 : Int32) (y1 : Int32) (y2 : Nat → Int32) (y3 : Nat → Int32) (y4 : Nat → Int32) (y5 : Nat → Int32) (H : Heap) (locs : List Loc) (ls : Array Slot) (pc : Nat), some (r0, y0, y1, y2, y3, y4, y5) = some o → decode cX8_bet pc = .ok (.ireturn, 1) → va_P (dC, dI) vwCl [(q_th, .inr (8, [.ref q_th_told, .ref q_th_now, x_th_text, .int th_letters, .int th_at, x_th_read, .int th_isMore, .int th_told0, .ref q_th_from, .ref q_th_to, x_th_undone, .int th_undos, .ref q_th_aside, .int th_beganOn, .int th_beganIn, .int th_first, .int th_second, x_th_seenCell, x_th_seenNight, .int th_seens, .int y0, .int y1, x_th_kept, .int th_keeps])), (q_th_aside, .inl (cI, 28, .inl y2)), (q_th_now, .inl (cI, 28, .inl y3)), (q_th_told, .inl (cI, 54, .inl th_told)), (q_th_from, .inl (cI, 25, .inl y4)), (q_th_to, .inl (cI, 25, .inl y5))] H → va_D A [(q_th, .inr (8, [.ref q_th_told, .ref q_th_now, x_th_text, .int th_letters, .int th_at, x_th_read, .int th_isMore, .int th_told0, .ref q_th_from, .ref q_th_to, x_th_undone, .int th_undos, .ref q_th_aside, .int th_beganOn, .int th_beganIn, .int th_first, .int th_second, x_th_seenCell, x_th_seenNight, .int th_seens, .int y0, .int y1, x_th_kept, .int th_keeps])), (q_th_aside, .inl (cI, 28, .inl y2)), (q_th_now, .inl (cI, 28, .inl y3)), (q_th_told, .inl (cI, 54, .inl th_told)), (q_th_from, .inl (cI, 25, .inl y4)), (q_th_to, .inl (cI, 25, .inl y5))] → va_S A s.heap H locs → W p l e ({ frames := 7, cells := 0, slots := 0, locals := 170 } : Room) s m args below meth c H locs 0 0 Q (F0 m pc ls [.int r0]) := by
    intro r0 y0 y1 y2 y3 y4 y5 H locs ls pc ho hd hP hD hS
    cases ho
    exact ret0 H locs ls pc hd hP hD hS
  rw [fX8_bet_e] at hF
  refine lv_iload_n hx hb dX8_bet_0 rfl (lv_at hl 1 rfl) ?_
  refine lv_i2l hx hb dX8_bet_1 rfl ?_
  refine lv_lconst (v := (lN 0)) hx hb dX8_bet_2 (by decide) ?_
  refine lv_ldc2 (v := (lN 6)) hx hb hown (hts (.constantLong RX8 210 6) (by decide +kernel)) dX8_bet_3 ?_
  obtain ⟨o6, hF1, hF⟩ := ng_b hF
  refine nx_callSi (As := [.long p1.toInt64, .long (lN 0), .long (lN 6)]) (rest := []) (W1 := [(q_th, .inr (8, [.ref q_th_told, .ref q_th_now, x_th_text, .int th_letters, .int th_at, x_th_read, .int th_isMore, .int th_told0, .ref q_th_from, .ref q_th_to, x_th_undone, .int th_undos, .ref q_th_aside, .int th_beganOn, .int th_beganIn, .int th_first, .int th_second, x_th_seenCell, x_th_seenNight, .int th_seens, .int th_above, .int th_below, x_th_kept, .int th_keeps])), (q_th_aside, .inl (cI, 28, .inl th_aside)), (q_th_now, .inl (cI, 28, .inl th_now)), (q_th_told, .inl (cI, 54, .inl th_told)), (q_th_from, .inl (cI, 25, .inl th_from)), (q_th_to, .inl (cI, 25, .inl th_to))]) (wr := [(q_th, .inr (8, [.ref q_th_told, .ref q_th_now, x_th_text, .int th_letters, .int th_at, x_th_read, .int th_isMore, .int th_told0, .ref q_th_from, .ref q_th_to, x_th_undone, .int th_undos, .ref q_th_aside, .int th_beganOn, .int th_beganIn, .int th_first, .int th_second, x_th_seenCell, x_th_seenNight, .int th_seens, .int th_above, .int th_below, x_th_kept, .int th_keeps])), (q_th_aside, .inl (cI, 28, .inl th_aside)), (q_th_now, .inl (cI, 28, .inl th_now)), (q_th_told, .inl (cI, 54, .inl th_told)), (q_th_from, .inl (cI, 25, .inl th_from)), (q_th_to, .inl (cI, 25, .inl th_to))]) S0 hK hN hA hP hD hS (kX8_in l dC dI cI _ p1.toInt64 (lN 0) (lN 6) N o6 hF1) (va_cwS 3 hts gX8_bet_X8_in rfl rfl rfl hdX8_in ⟨Nat.le_of_ble_eq_true rfl, Nat.le_of_ble_eq_true rfl⟩) [] [0, 1, 2, 3, 4, 5] [0, 1, 2, 3, 4, 5] rfl rfl rfl rfl rfl hl.1 rfl (Nat.le_of_ble_eq_true rfl) dX8_bet_6 (fun H locs hP hD hS => ?_)
  refine lv_if_eq (tgt := 24) hx hb dX8_bet_9 (by decide) (fun hc => ?_) (fun hc => ?_)
  · have hF := ng_t hc hF
    refine lv_iconst (v := (-1 : Int32)) hx hb dX8_bet_24 (by decide) ?_
    exact hret (-1 : Int32) th_above th_below th_aside th_now th_from th_to _ _ _ _ hF dX8_bet_25 hP hD hS
  · have hF := ng_f hc hF
    refine lv_iload_n hx hb dX8_bet_12 rfl (lv_at hl 2 rfl) ?_
    refine lv_i2l hx hb dX8_bet_13 rfl ?_
    refine lv_lconst (v := (lN 0)) hx hb dX8_bet_14 (by decide) ?_
    refine lv_ldc2 (v := (lN 10)) hx hb hown (hts (.constantLong RX8 212 10) (by decide +kernel)) dX8_bet_15 ?_
    obtain ⟨o18, hF1, hF⟩ := ng_b hF
    refine nx_callSi (As := [.long p2.toInt64, .long (lN 0), .long (lN 10)]) (rest := []) (W1 := [(q_th, .inr (8, [.ref q_th_told, .ref q_th_now, x_th_text, .int th_letters, .int th_at, x_th_read, .int th_isMore, .int th_told0, .ref q_th_from, .ref q_th_to, x_th_undone, .int th_undos, .ref q_th_aside, .int th_beganOn, .int th_beganIn, .int th_first, .int th_second, x_th_seenCell, x_th_seenNight, .int th_seens, .int th_above, .int th_below, x_th_kept, .int th_keeps])), (q_th_aside, .inl (cI, 28, .inl th_aside)), (q_th_now, .inl (cI, 28, .inl th_now)), (q_th_told, .inl (cI, 54, .inl th_told)), (q_th_from, .inl (cI, 25, .inl th_from)), (q_th_to, .inl (cI, 25, .inl th_to))]) (wr := [(q_th, .inr (8, [.ref q_th_told, .ref q_th_now, x_th_text, .int th_letters, .int th_at, x_th_read, .int th_isMore, .int th_told0, .ref q_th_from, .ref q_th_to, x_th_undone, .int th_undos, .ref q_th_aside, .int th_beganOn, .int th_beganIn, .int th_first, .int th_second, x_th_seenCell, x_th_seenNight, .int th_seens, .int th_above, .int th_below, x_th_kept, .int th_keeps])), (q_th_aside, .inl (cI, 28, .inl th_aside)), (q_th_now, .inl (cI, 28, .inl th_now)), (q_th_told, .inl (cI, 54, .inl th_told)), (q_th_from, .inl (cI, 25, .inl th_from)), (q_th_to, .inl (cI, 25, .inl th_to))]) S0 hK hN hA hP hD hS (kX8_in l dC dI cI _ p2.toInt64 (lN 0) (lN 10) N o18 hF1) (va_cwS 3 hts gX8_bet_X8_in rfl rfl rfl hdX8_in ⟨Nat.le_of_ble_eq_true rfl, Nat.le_of_ble_eq_true rfl⟩) [] [0, 1, 2, 3, 4, 5] [0, 1, 2, 3, 4, 5] rfl rfl rfl rfl rfl hl.1 rfl (Nat.le_of_ble_eq_true rfl) dX8_bet_18 (fun H locs hP hD hS => ?_)
    refine lv_if_ne (tgt := 26) hx hb dX8_bet_21 (by decide) (fun hc => ?_) (fun hc => ?_)
    · have hF := ng_f hc hF
      refine lv_aload_n hx hb dX8_bet_26 rfl (lv_at hl 0 rfl) ?_
      refine lv_iload_n hx hb dX8_bet_27 rfl (lv_at hl 1 rfl) ?_
      refine lv_iload_n hx hb dX8_bet_28 rfl (lv_at hl 2 rfl) ?_
      obtain ⟨o29, hF1, hF⟩ := ng_b hF
      refine nx_callVv (As := [.int p1, .int p2]) (rest := []) (W1 := [(q_th, .inr (8, [.ref q_th_told, .ref q_th_now, x_th_text, .int th_letters, .int th_at, x_th_read, .int th_isMore, .int th_told0, .ref q_th_from, .ref q_th_to, x_th_undone, .int th_undos, .ref q_th_aside, .int th_beganOn, .int th_beganIn, .int th_first, .int th_second, x_th_seenCell, x_th_seenNight, .int th_seens, .int o29.1, .int o29.2.1, x_th_kept, .int th_keeps])), (q_th_aside, .inl (cI, 28, .inl o29.2.2.1)), (q_th_now, .inl (cI, 28, .inl o29.2.2.2.1)), (q_th_told, .inl (cI, 54, .inl th_told)), (q_th_from, .inl (cI, 25, .inl o29.2.2.2.2.1)), (q_th_to, .inl (cI, 25, .inl o29.2.2.2.2.2))]) (wr := []) S0 hK hN hA hP hD hS (kX8_chances l dC dI cI q_th q_th_aside q_th_now q_th_told q_th_from q_th_to _ (x_th_text) th_letters th_at (x_th_read) th_isMore th_told0 (x_th_undone) th_undos th_beganOn th_beganIn th_first th_second (x_th_seenCell) (x_th_seenNight) th_seens th_above th_below (x_th_kept) th_keeps th_aside th_now th_told th_from th_to p1 p2 N o29 hF1) (cwV 2 hts gX8_bet_X8_chances rfl rfl rfl ⟨rfl, hdX8_chances⟩ ⟨Nat.le_of_ble_eq_true rfl, Nat.le_of_ble_eq_true rfl⟩) [0, 1, 2, 3, 4, 5] [] [0, 1, 2, 3, 4, 5] rfl rfl rfl rfl 0 8 rfl rfl rfl rfl hl.1 rfl (Nat.le_of_ble_eq_true rfl) dX8_bet_29 (fun H locs hP hD hS => ?_)
      refine lv_iconst (v := (nI 2)) hx hb dX8_bet_32 (by decide) ?_
      refine lv_aload_n hx hb dX8_bet_33 rfl (lv_at hl 0 rfl) ?_
      refine nx_get S0 hK hP 0 20 hin_X8 hf_204 rfl rfl (by decide) rfl rfl dX8_bet_34 ?_
      refine lv_imul hx hb dX8_bet_37 ?_
      refine lv_aload_n hx hb dX8_bet_38 rfl (lv_at hl 0 rfl) ?_
      refine nx_get S0 hK hP 0 21 hin_X8 hf_207 rfl rfl (by decide) rfl rfl dX8_bet_39 ?_
      refine lv_icmp_le (tgt := 49) hx hb dX8_bet_42 (by decide) (fun hc => ?_) (fun hc => ?_)
      · have hF := ng_t hc hF
        refine lv_iconst (v := (nI 2)) hx hb dX8_bet_49 (by decide) ?_
        refine lv_aload_n hx hb dX8_bet_50 rfl (lv_at hl 0 rfl) ?_
        refine nx_get S0 hK hP 0 20 hin_X8 hf_204 rfl rfl (by decide) rfl rfl dX8_bet_51 ?_
        refine lv_imul hx hb dX8_bet_54 ?_
        refine lv_aload_n hx hb dX8_bet_55 rfl (lv_at hl 0 rfl) ?_
        refine nx_get S0 hK hP 0 21 hin_X8 hf_207 rfl rfl (by decide) rfl rfl dX8_bet_56 ?_
        refine lv_icmp_ge (tgt := 66) hx hb dX8_bet_59 (by decide) (fun hc => ?_) (fun hc => ?_)
        · have hF := ng_t hc hF
          refine lv_iconst (v := (nI 0)) hx hb dX8_bet_66 (by decide) ?_
          exact hret (nI 0) o29.1 o29.2.1 o29.2.2.1 o29.2.2.2.1 o29.2.2.2.2.1 o29.2.2.2.2.2 _ _ _ _ hF dX8_bet_67 hP hD hS
        · have hF := ng_f hc hF
          refine lv_iconst (v := (nI 2)) hx hb dX8_bet_62 (by decide) ?_
          refine lv_goto (tgt := 67) hx hb dX8_bet_63 (by decide) ?_
          exact hret (nI 2) o29.1 o29.2.1 o29.2.2.1 o29.2.2.2.1 o29.2.2.2.2.1 o29.2.2.2.2.2 _ _ _ _ hF dX8_bet_67 hP hD hS
      · have hF := ng_f hc hF
        refine lv_iconst (v := (nI 1)) hx hb dX8_bet_45 (by decide) ?_
        refine lv_goto (tgt := 67) hx hb dX8_bet_46 (by decide) ?_
        exact hret (nI 1) o29.1 o29.2.1 o29.2.2.1 o29.2.2.2.1 o29.2.2.2.2.1 o29.2.2.2.2.2 _ _ _ _ hF dX8_bet_67 hP hD hS
    · have hF := ng_t hc hF
      refine lv_iconst (v := (-1 : Int32)) hx hb dX8_bet_24 (by decide) ?_
      exact hret (-1 : Int32) th_above th_below th_aside th_now th_from th_to _ _ _ _ hF dX8_bet_25 hP hD hS
theorem hdX8_year : yX8_year.cls ≠ "java/lang/invoke/MethodHandle" ∧ yX8_year.cls ≠ "java/lang/invoke/VarHandle" ∧ (parseMethodDescriptor yX8_year.desc).map (fun d => d.parameters.length) = some 2 := by decide +kernel
set_option maxHeartbeats 40000000 in
set_option maxRecDepth 100000 in
theorem kX8_year (l : Launch) (dC : Nat → ClassId) (dI : Nat → Nat → Nat) (cI : ClassId) (q_th : Nat) (q_th_aside : Nat) (q_th_now : Nat) (q_th_told : Nat) (q_th_from : Nat) (q_th_to : Nat) (sz : Nat) (x_th_text : Value) (th_letters : Int32) (th_at : Int32) (x_th_read : Value) (th_isMore : Int32) (th_told0 : Int32) (x_th_undone : Value) (th_undos : Int32) (th_beganOn : Int32) (th_beganIn : Int32) (th_first : Int32) (th_second : Int32) (x_th_seenCell : Value) (x_th_seenNight : Value) (th_seens : Int32) (th_above : Int32) (th_below : Int32) (x_th_kept : Value) (th_keeps : Int32) (th_aside : Nat → Int32) (th_now : Nat → Int32) (th_told : Nat → Int32) (th_from : Nat → Int32) (th_to : Nat → Int32) (p1 : Int32) (p2 : Int32) (N : Nat) (o : Int32 × (Nat → Int32) × (Nat → Int32) × (Nat → Int32) × (Nat → Int32)) (hF : fX8_year N p1 p2 th_aside th_now th_told th_from th_to = some o) : nx_I l yX8_year wsX8_year ({ frames := 6, cells := 0, slots := 0, locals := 144 } : Room) (dC, dI) cI [.ref q_th, .int p1, .int p2] [(q_th, .inr (8, [.ref q_th_told, .ref q_th_now, x_th_text, .int th_letters, .int th_at, x_th_read, .int th_isMore, .int th_told0, .ref q_th_from, .ref q_th_to, x_th_undone, .int th_undos, .ref q_th_aside, .int th_beganOn, .int th_beganIn, .int th_first, .int th_second, x_th_seenCell, x_th_seenNight, .int th_seens, .int th_above, .int th_below, x_th_kept, .int th_keeps])), (q_th_aside, .inl (cI, 28, .inl th_aside)), (q_th_now, .inl (cI, 28, .inl th_now)), (q_th_told, .inl (cI, 54, .inl th_told)), (q_th_from, .inl (cI, 25, .inl th_from)), (q_th_to, .inl (cI, 25, .inl th_to))] sz o.1 [(q_th, .inr (8, [.ref q_th_told, .ref q_th_now, x_th_text, .int th_letters, .int th_at, x_th_read, .int th_isMore, .int th_told0, .ref q_th_from, .ref q_th_to, x_th_undone, .int th_undos, .ref q_th_aside, .int th_beganOn, .int th_beganIn, .int th_first, .int th_second, x_th_seenCell, x_th_seenNight, .int th_seens, .int th_above, .int th_below, x_th_kept, .int th_keeps])), (q_th_aside, .inl (cI, 28, .inl o.2.1)), (q_th_now, .inl (cI, 28, .inl o.2.2.1)), (q_th_told, .inl (cI, 54, .inl th_told)), (q_th_from, .inl (cI, 25, .inl o.2.2.2.1)), (q_th_to, .inl (cI, 25, .inl o.2.2.2.2))] := by
  refine nx_int (cc := cX8_year) (maxL := 6) (by decide) rfl (Nat.le_of_ble_eq_true rfl) ?_
  intro p e s m args below meth c Q A S0 hK hN hA ret0 hP hD hS ls hl
  have S0 : CallFix p m c cX8_year 6 s args wsX8_year RX8 := S0
  have hx := S0.1
  have hb := S0.2.1
  have hown := S0.2.2.2.1
  have hts := S0.2.2.2.2
  have hf_13 := hts (.fieldLink RX8 13 "SnailsYearModel" "now" "[I") (by decide +kernel)
  have hin_X8 : ∀ w ∈ wsX80, w ∈ wsX8_year := by decide +kernel
  have hl : lv_has ls 6 [(0, .ref q_th), (1, .int p1), (2, .int p2)] := hl
  have hret : ∀ (r0 : Int32) (y0 : Nat → Int32) (y1 : Nat → Int32) (y2 : Nat → Int32) (y3 : Nat → Int32) (H : Heap) (locs : List Loc) (ls : Array Slot) (pc : Nat), some (r0, y0, y1, y2, y3) = some o → decode cX8_year pc = .ok (.ireturn, 1) → va_P (dC, dI) vwCl [(q_th, .inr (8, [.ref q_th_told, .ref q_th_now, x_th_text, .int th_letters, .int th_at, x_th_read, .int th_isMore, .int th_told0, .ref q_th_from, .ref q_th_to, x_th_undone, .int th_undos, .ref q_th_aside, .int th_beganOn, .int th_beganIn, .int th_first, .int th_second, x_th_seenCell, x_th_seenNight, .int th_seens, .int th_above, .int th_below, x_th_kept, .int th_keeps])), (q_th_aside, .inl (cI, 28, .inl y0)), (q_th_now, .inl (cI, 28, .inl y1)), (q_th_told, .inl (cI, 54, .inl th_told)), (q_th_from, .inl (cI, 25, .inl y2)), (q_th_to, .inl (cI, 25, .inl y3))] H → va_D A [(q_th, .inr (8, [.ref q_th_told, .ref q_th_now, x_th_text, .int th_letters, .int th_at, x_th_read, .int th_isMore, .int th_told0, .ref q_th_from, .ref q_th_to, x_th_undone, .int th_undos, .ref q_th_aside, .int th_beganOn, .int th_beganIn, .int th_first, .int th_second, x_th_seenCell, x_th_seenNight, .int th_seens, .int th_above, .int th_below, x_th_kept, .int th_keeps])), (q_th_aside, .inl (cI, 28, .inl y0)), (q_th_now, .inl (cI, 28, .inl y1)), (q_th_told, .inl (cI, 54, .inl th_told)), (q_th_from, .inl (cI, 25, .inl y2)), (q_th_to, .inl (cI, 25, .inl y3))] → va_S A s.heap H locs → W p l e ({ frames := 6, cells := 0, slots := 0, locals := 144 } : Room) s m args below meth c H locs 0 0 Q (F0 m pc ls [.int r0]) := by
    intro r0 y0 y1 y2 y3 H locs ls pc ho hd hP hD hS
    cases ho
    exact ret0 H locs ls pc hd hP hD hS
  rw [fX8_year_e] at hF
  refine lv_iload_n hx hb dX8_year_0 rfl (lv_at hl 1 rfl) ?_
  refine lv_i2l hx hb dX8_year_1 rfl ?_
  refine lv_lconst (v := (lN 0)) hx hb dX8_year_2 (by decide) ?_
  refine lv_ldc2 (v := (lN 9999)) hx hb hown (hts (.constantLong RX8 218 9999) (by decide +kernel)) dX8_year_3 ?_
  obtain ⟨o6, hF1, hF⟩ := ng_b hF
  refine nx_callSi (As := [.long p1.toInt64, .long (lN 0), .long (lN 9999)]) (rest := []) (W1 := [(q_th, .inr (8, [.ref q_th_told, .ref q_th_now, x_th_text, .int th_letters, .int th_at, x_th_read, .int th_isMore, .int th_told0, .ref q_th_from, .ref q_th_to, x_th_undone, .int th_undos, .ref q_th_aside, .int th_beganOn, .int th_beganIn, .int th_first, .int th_second, x_th_seenCell, x_th_seenNight, .int th_seens, .int th_above, .int th_below, x_th_kept, .int th_keeps])), (q_th_aside, .inl (cI, 28, .inl th_aside)), (q_th_now, .inl (cI, 28, .inl th_now)), (q_th_told, .inl (cI, 54, .inl th_told)), (q_th_from, .inl (cI, 25, .inl th_from)), (q_th_to, .inl (cI, 25, .inl th_to))]) (wr := [(q_th, .inr (8, [.ref q_th_told, .ref q_th_now, x_th_text, .int th_letters, .int th_at, x_th_read, .int th_isMore, .int th_told0, .ref q_th_from, .ref q_th_to, x_th_undone, .int th_undos, .ref q_th_aside, .int th_beganOn, .int th_beganIn, .int th_first, .int th_second, x_th_seenCell, x_th_seenNight, .int th_seens, .int th_above, .int th_below, x_th_kept, .int th_keeps])), (q_th_aside, .inl (cI, 28, .inl th_aside)), (q_th_now, .inl (cI, 28, .inl th_now)), (q_th_told, .inl (cI, 54, .inl th_told)), (q_th_from, .inl (cI, 25, .inl th_from)), (q_th_to, .inl (cI, 25, .inl th_to))]) S0 hK hN hA hP hD hS (kX8_in l dC dI cI _ p1.toInt64 (lN 0) (lN 9999) N o6 hF1) (va_cwS 3 hts gX8_year_X8_in rfl rfl rfl hdX8_in ⟨Nat.le_of_ble_eq_true rfl, Nat.le_of_ble_eq_true rfl⟩) [] [0, 1, 2, 3, 4, 5] [0, 1, 2, 3, 4, 5] rfl rfl rfl rfl rfl hl.1 rfl (Nat.le_of_ble_eq_true rfl) dX8_year_6 (fun H locs hP hD hS => ?_)
  refine lv_if_eq (tgt := 22) hx hb dX8_year_9 (by decide) (fun hc => ?_) (fun hc => ?_)
  · have hF := ng_t hc hF
    refine lv_iconst (v := (-1 : Int32)) hx hb dX8_year_22 (by decide) ?_
    exact hret (-1 : Int32) th_aside th_now th_from th_to _ _ _ _ hF dX8_year_23 hP hD hS
  · have hF := ng_f hc hF
    refine lv_iload_n hx hb dX8_year_12 rfl (lv_at hl 2 rfl) ?_
    refine lv_i2l hx hb dX8_year_13 rfl ?_
    refine lv_lconst (v := (lN 0)) hx hb dX8_year_14 (by decide) ?_
    refine lv_lconst (v := (lN 1)) hx hb dX8_year_15 (by decide) ?_
    obtain ⟨o16, hF1, hF⟩ := ng_b hF
    refine nx_callSi (As := [.long p2.toInt64, .long (lN 0), .long (lN 1)]) (rest := []) (W1 := [(q_th, .inr (8, [.ref q_th_told, .ref q_th_now, x_th_text, .int th_letters, .int th_at, x_th_read, .int th_isMore, .int th_told0, .ref q_th_from, .ref q_th_to, x_th_undone, .int th_undos, .ref q_th_aside, .int th_beganOn, .int th_beganIn, .int th_first, .int th_second, x_th_seenCell, x_th_seenNight, .int th_seens, .int th_above, .int th_below, x_th_kept, .int th_keeps])), (q_th_aside, .inl (cI, 28, .inl th_aside)), (q_th_now, .inl (cI, 28, .inl th_now)), (q_th_told, .inl (cI, 54, .inl th_told)), (q_th_from, .inl (cI, 25, .inl th_from)), (q_th_to, .inl (cI, 25, .inl th_to))]) (wr := [(q_th, .inr (8, [.ref q_th_told, .ref q_th_now, x_th_text, .int th_letters, .int th_at, x_th_read, .int th_isMore, .int th_told0, .ref q_th_from, .ref q_th_to, x_th_undone, .int th_undos, .ref q_th_aside, .int th_beganOn, .int th_beganIn, .int th_first, .int th_second, x_th_seenCell, x_th_seenNight, .int th_seens, .int th_above, .int th_below, x_th_kept, .int th_keeps])), (q_th_aside, .inl (cI, 28, .inl th_aside)), (q_th_now, .inl (cI, 28, .inl th_now)), (q_th_told, .inl (cI, 54, .inl th_told)), (q_th_from, .inl (cI, 25, .inl th_from)), (q_th_to, .inl (cI, 25, .inl th_to))]) S0 hK hN hA hP hD hS (kX8_in l dC dI cI _ p2.toInt64 (lN 0) (lN 1) N o16 hF1) (va_cwS 3 hts gX8_year_X8_in rfl rfl rfl hdX8_in ⟨Nat.le_of_ble_eq_true rfl, Nat.le_of_ble_eq_true rfl⟩) [] [0, 1, 2, 3, 4, 5] [0, 1, 2, 3, 4, 5] rfl rfl rfl rfl rfl hl.1 rfl (Nat.le_of_ble_eq_true rfl) dX8_year_16 (fun H locs hP hD hS => ?_)
    refine lv_if_ne (tgt := 24) hx hb dX8_year_19 (by decide) (fun hc => ?_) (fun hc => ?_)
    · have hF := ng_f hc hF
      refine lv_aload_n hx hb dX8_year_24 rfl (lv_at hl 0 rfl) ?_
      obtain ⟨o25, hF1, hF⟩ := ng_b hF
      refine nx_callVv (As := []) (rest := []) (W1 := [(q_th, .inr (8, [.ref q_th_told, .ref q_th_now, x_th_text, .int th_letters, .int th_at, x_th_read, .int th_isMore, .int th_told0, .ref q_th_from, .ref q_th_to, x_th_undone, .int th_undos, .ref q_th_aside, .int th_beganOn, .int th_beganIn, .int th_first, .int th_second, x_th_seenCell, x_th_seenNight, .int th_seens, .int th_above, .int th_below, x_th_kept, .int th_keeps])), (q_th_aside, .inl (cI, 28, .inl o25)), (q_th_now, .inl (cI, 28, .inl th_now)), (q_th_told, .inl (cI, 54, .inl th_told)), (q_th_from, .inl (cI, 25, .inl th_from)), (q_th_to, .inl (cI, 25, .inl th_to))]) (wr := [(q_th_told, .inl (cI, 54, .inl th_told)), (q_th_from, .inl (cI, 25, .inl th_from)), (q_th_to, .inl (cI, 25, .inl th_to))]) S0 hK hN hA hP hD hS (kX8_asides l dC dI cI q_th q_th_aside q_th_now _ (.ref q_th_told) (x_th_text) th_letters th_at (x_th_read) th_isMore th_told0 (.ref q_th_from) (.ref q_th_to) (x_th_undone) th_undos th_beganOn th_beganIn th_first th_second (x_th_seenCell) (x_th_seenNight) th_seens th_above th_below (x_th_kept) th_keeps th_aside th_now N o25 hF1) (cwV 0 hts gX8_year_X8_asides rfl rfl rfl ⟨rfl, hdX8_asides⟩ ⟨Nat.le_of_ble_eq_true rfl, Nat.le_of_ble_eq_true rfl⟩) [0, 1, 2] [3, 4, 5] [3, 4, 5, 0, 1, 2] rfl rfl rfl rfl 0 8 rfl rfl rfl rfl hl.1 rfl (Nat.le_of_ble_eq_true rfl) dX8_year_25 (fun H locs hP hD hS => ?_)
      refine lv_iconst (v := (nI 0)) hx hb dX8_year_28 (by decide) ?_
      have B_30 : ∀ (n_30 : Nat) (v3_30 : Int32) (th_now_30 : Nat → Int32) (th_from_30 : Nat → Int32) (th_to_30 : Nat → Int32), fX8_year_30 N p1 p2 th_told o25 n_30 v3_30 th_now_30 th_from_30 th_to_30 = some o → ∀ (H : Heap) (locs : List Loc) (ls : Array Slot), va_P (dC, dI) vwCl [(q_th, .inr (8, [.ref q_th_told, .ref q_th_now, x_th_text, .int th_letters, .int th_at, x_th_read, .int th_isMore, .int th_told0, .ref q_th_from, .ref q_th_to, x_th_undone, .int th_undos, .ref q_th_aside, .int th_beganOn, .int th_beganIn, .int th_first, .int th_second, x_th_seenCell, x_th_seenNight, .int th_seens, .int th_above, .int th_below, x_th_kept, .int th_keeps])), (q_th_aside, .inl (cI, 28, .inl o25)), (q_th_now, .inl (cI, 28, .inl th_now_30)), (q_th_told, .inl (cI, 54, .inl th_told)), (q_th_from, .inl (cI, 25, .inl th_from_30)), (q_th_to, .inl (cI, 25, .inl th_to_30))] H → va_D A [(q_th, .inr (8, [.ref q_th_told, .ref q_th_now, x_th_text, .int th_letters, .int th_at, x_th_read, .int th_isMore, .int th_told0, .ref q_th_from, .ref q_th_to, x_th_undone, .int th_undos, .ref q_th_aside, .int th_beganOn, .int th_beganIn, .int th_first, .int th_second, x_th_seenCell, x_th_seenNight, .int th_seens, .int th_above, .int th_below, x_th_kept, .int th_keeps])), (q_th_aside, .inl (cI, 28, .inl o25)), (q_th_now, .inl (cI, 28, .inl th_now_30)), (q_th_told, .inl (cI, 54, .inl th_told)), (q_th_from, .inl (cI, 25, .inl th_from_30)), (q_th_to, .inl (cI, 25, .inl th_to_30))] → va_S A s.heap H locs → lv_has ls 6 [(0, .ref q_th), (1, .int p1), (2, .int p2), (3, .int v3_30)] → W p l e ({ frames := 6, cells := 0, slots := 0, locals := 144 } : Room) s m args below meth c H locs 0 0 Q (F0 m 30 ls []) := by
        intro n_30
        induction n_30 with
        | zero =>
          intro v3_30 th_now_30 th_from_30 th_to_30 hF
          rw [fX8_year_30_z] at hF
          cases hF
        | succ n_30 ih_30 =>
          intro v3_30 th_now_30 th_from_30 th_to_30 hF H locs ls hP hD hS hl
          rw [fX8_year_30_s] at hF
          refine lv_iload_n hx hb dX8_year_30 rfl (lv_at hl 3 rfl) ?_
          refine lv_bipush (v := (nI 30)) hx hb dX8_year_31 (by decide) ?_
          have B_91 : fX8_year_91 N p2 o25 v3_30 th_now_30 th_from_30 th_to_30 = some o → ∀ (H : Heap) (locs : List Loc) (ls : Array Slot), va_P (dC, dI) vwCl [(q_th, .inr (8, [.ref q_th_told, .ref q_th_now, x_th_text, .int th_letters, .int th_at, x_th_read, .int th_isMore, .int th_told0, .ref q_th_from, .ref q_th_to, x_th_undone, .int th_undos, .ref q_th_aside, .int th_beganOn, .int th_beganIn, .int th_first, .int th_second, x_th_seenCell, x_th_seenNight, .int th_seens, .int th_above, .int th_below, x_th_kept, .int th_keeps])), (q_th_aside, .inl (cI, 28, .inl o25)), (q_th_now, .inl (cI, 28, .inl th_now_30)), (q_th_told, .inl (cI, 54, .inl th_told)), (q_th_from, .inl (cI, 25, .inl th_from_30)), (q_th_to, .inl (cI, 25, .inl th_to_30))] H → va_D A [(q_th, .inr (8, [.ref q_th_told, .ref q_th_now, x_th_text, .int th_letters, .int th_at, x_th_read, .int th_isMore, .int th_told0, .ref q_th_from, .ref q_th_to, x_th_undone, .int th_undos, .ref q_th_aside, .int th_beganOn, .int th_beganIn, .int th_first, .int th_second, x_th_seenCell, x_th_seenNight, .int th_seens, .int th_above, .int th_below, x_th_kept, .int th_keeps])), (q_th_aside, .inl (cI, 28, .inl o25)), (q_th_now, .inl (cI, 28, .inl th_now_30)), (q_th_told, .inl (cI, 54, .inl th_told)), (q_th_from, .inl (cI, 25, .inl th_from_30)), (q_th_to, .inl (cI, 25, .inl th_to_30))] → va_S A s.heap H locs → lv_has ls 6 [(0, .ref q_th), (2, .int p2), (3, .int v3_30)] → W p l e ({ frames := 6, cells := 0, slots := 0, locals := 144 } : Room) s m args below meth c H locs 0 0 Q (F0 m 91 ls []) := by
            intro  hF H locs ls hP hD hS hl
            rw [fX8_year_91_e] at hF
            refine lv_aload_n hx hb dX8_year_91 rfl (lv_at hl 0 rfl) ?_
            refine nx_get S0 hK hP 0 1 hin_X8 hf_13 rfl rfl (by decide) rfl rfl dX8_year_92 ?_
            refine lv_iconst (v := (nI 2)) hx hb dX8_year_95 (by decide) ?_
            refine nx_iald S0 hK hP 2 (v := th_now_30 2) rfl (by decide) rfl dX8_year_96 ?_
            have B_106 : ∀ (s0_106 : Int32), fX8_year_106 N p2 o25 th_now_30 th_from_30 th_to_30 s0_106 = some o → ∀ (H : Heap) (locs : List Loc) (ls : Array Slot), va_P (dC, dI) vwCl [(q_th, .inr (8, [.ref q_th_told, .ref q_th_now, x_th_text, .int th_letters, .int th_at, x_th_read, .int th_isMore, .int th_told0, .ref q_th_from, .ref q_th_to, x_th_undone, .int th_undos, .ref q_th_aside, .int th_beganOn, .int th_beganIn, .int th_first, .int th_second, x_th_seenCell, x_th_seenNight, .int th_seens, .int th_above, .int th_below, x_th_kept, .int th_keeps])), (q_th_aside, .inl (cI, 28, .inl o25)), (q_th_now, .inl (cI, 28, .inl th_now_30)), (q_th_told, .inl (cI, 54, .inl th_told)), (q_th_from, .inl (cI, 25, .inl th_from_30)), (q_th_to, .inl (cI, 25, .inl th_to_30))] H → va_D A [(q_th, .inr (8, [.ref q_th_told, .ref q_th_now, x_th_text, .int th_letters, .int th_at, x_th_read, .int th_isMore, .int th_told0, .ref q_th_from, .ref q_th_to, x_th_undone, .int th_undos, .ref q_th_aside, .int th_beganOn, .int th_beganIn, .int th_first, .int th_second, x_th_seenCell, x_th_seenNight, .int th_seens, .int th_above, .int th_below, x_th_kept, .int th_keeps])), (q_th_aside, .inl (cI, 28, .inl o25)), (q_th_now, .inl (cI, 28, .inl th_now_30)), (q_th_told, .inl (cI, 54, .inl th_told)), (q_th_from, .inl (cI, 25, .inl th_from_30)), (q_th_to, .inl (cI, 25, .inl th_to_30))] → va_S A s.heap H locs → lv_has ls 6 [(0, .ref q_th), (2, .int p2)] → W p l e ({ frames := 6, cells := 0, slots := 0, locals := 144 } : Room) s m args below meth c H locs 0 0 Q (F0 m 106 ls [.int s0_106]) := by
              intro s0_106 hF H locs ls hP hD hS hl
              rw [fX8_year_106_e] at hF
              refine lv_istore (lv' := [(4, .int s0_106), (0, .ref q_th), (2, .int p2)]) hx hb dX8_year_106 hl (by decide) rfl (fun ls hl => ?_)
              refine lv_aload_n hx hb dX8_year_108 rfl (lv_at hl 1 rfl) ?_
              refine nx_get S0 hK hP 0 1 hin_X8 hf_13 rfl rfl (by decide) rfl rfl dX8_year_109 ?_
              refine lv_iconst (v := (nI 1)) hx hb dX8_year_112 (by decide) ?_
              refine nx_iald S0 hK hP 2 (v := th_now_30 1) rfl (by decide) rfl dX8_year_113 ?_
              refine lv_istore (lv' := [(5, .int (th_now_30 1)), (4, .int s0_106), (0, .ref q_th), (2, .int p2)]) hx hb dX8_year_114 hl (by decide) rfl (fun ls hl => ?_)
              refine lv_aload_n hx hb dX8_year_116 rfl (lv_at hl 2 rfl) ?_
              obtain ⟨o117, hF1, hF⟩ := ng_b hF
              refine nx_callVv (As := []) (rest := []) (W1 := [(q_th, .inr (8, [.ref q_th_told, .ref q_th_now, x_th_text, .int th_letters, .int th_at, x_th_read, .int th_isMore, .int th_told0, .ref q_th_from, .ref q_th_to, x_th_undone, .int th_undos, .ref q_th_aside, .int th_beganOn, .int th_beganIn, .int th_first, .int th_second, x_th_seenCell, x_th_seenNight, .int th_seens, .int th_above, .int th_below, x_th_kept, .int th_keeps])), (q_th_aside, .inl (cI, 28, .inl o25)), (q_th_now, .inl (cI, 28, .inl o117)), (q_th_told, .inl (cI, 54, .inl th_told)), (q_th_from, .inl (cI, 25, .inl th_from_30)), (q_th_to, .inl (cI, 25, .inl th_to_30))]) (wr := [(q_th_told, .inl (cI, 54, .inl th_told)), (q_th_from, .inl (cI, 25, .inl th_from_30)), (q_th_to, .inl (cI, 25, .inl th_to_30))]) S0 hK hN hA hP hD hS (kX8_backs l dC dI cI q_th q_th_now q_th_aside _ (.ref q_th_told) (x_th_text) th_letters th_at (x_th_read) th_isMore th_told0 (.ref q_th_from) (.ref q_th_to) (x_th_undone) th_undos th_beganOn th_beganIn th_first th_second (x_th_seenCell) (x_th_seenNight) th_seens th_above th_below (x_th_kept) th_keeps th_now_30 o25 N o117 hF1) (cwV 0 hts gX8_year_X8_backs rfl rfl rfl ⟨rfl, hdX8_backs⟩ ⟨Nat.le_of_ble_eq_true rfl, Nat.le_of_ble_eq_true rfl⟩) [0, 2, 1] [3, 4, 5] [3, 5, 4, 0, 1, 2] rfl rfl rfl rfl 0 8 rfl rfl rfl rfl hl.1 rfl (Nat.le_of_ble_eq_true rfl) dX8_year_117 (fun H locs hP hD hS => ?_)
              refine lv_iload_n hx hb dX8_year_120 rfl (lv_at hl 3 rfl) ?_
              refine lv_if_ne (tgt := 129) hx hb dX8_year_121 (by decide) (fun hc => ?_) (fun hc => ?_)
              · have hF := ng_f hc hF
                refine lv_iload hx hb dX8_year_129 (lv_at hl 0 rfl) ?_
                exact hret (th_now_30 1) o25 o117 th_from_30 th_to_30 _ _ _ _ hF dX8_year_131 hP hD hS
              · have hF := ng_t hc hF
                refine lv_iload hx hb dX8_year_124 (lv_at hl 1 rfl) ?_
                refine lv_goto (tgt := 131) hx hb dX8_year_126 (by decide) ?_
                exact hret s0_106 o25 o117 th_from_30 th_to_30 _ _ _ _ hF dX8_year_131 hP hD hS
            refine lv_if_ge (tgt := 105) hx hb dX8_year_97 (by decide) (fun hc => ?_) (fun hc => ?_)
            · have hF := ng_t hc hF
              refine lv_iload_n hx hb dX8_year_105 rfl (lv_at hl 2 rfl) ?_
              exact B_106 v3_30 hF _ _ _ hP hD hS (lv_sub hl [0, 1] rfl)
            · have hF := ng_f hc hF
              refine lv_bipush (v := (-4 : Int32)) hx hb dX8_year_100 (by decide) ?_
              refine lv_goto (tgt := 106) hx hb dX8_year_102 (by decide) ?_
              exact B_106 (-4 : Int32) hF _ _ _ hP hD hS (lv_sub hl [0, 1] rfl)
          refine lv_icmp_ge (tgt := 91) hx hb dX8_year_33 (by decide) (fun hc => ?_) (fun hc => ?_)
          · have hF := ng_t hc hF
            exact B_91  hF _ _ _ hP hD hS (lv_sub hl [0, 2, 3] rfl)
          · have hF := ng_f hc hF
            refine lv_aload_n hx hb dX8_year_36 rfl (lv_at hl 0 rfl) ?_
            refine nx_get S0 hK hP 0 1 hin_X8 hf_13 rfl rfl (by decide) rfl rfl dX8_year_37 ?_
            refine lv_iconst (v := (nI 2)) hx hb dX8_year_40 (by decide) ?_
            refine nx_iald S0 hK hP 2 (v := th_now_30 2) rfl (by decide) rfl dX8_year_41 ?_
            refine lv_if_ge (tgt := 91) hx hb dX8_year_42 (by decide) (fun hc => ?_) (fun hc => ?_)
            · have hF := ng_t hc hF
              exact B_91  hF _ _ _ hP hD hS (lv_sub hl [0, 2, 3] rfl)
            · have hF := ng_f hc hF
              refine lv_ldc2 (v := (lN 7919)) hx hb hown (hts (.constantLong RX8 220 7919) (by decide +kernel)) dX8_year_45 ?_
              refine lv_iload_n hx hb dX8_year_48 rfl (lv_at hl 1 rfl) ?_
              refine lv_i2l hx hb dX8_year_49 rfl ?_
              refine lv_lmul hx hb dX8_year_50 ?_
              refine lv_ldc2 (v := (lN 6151)) hx hb hown (hts (.constantLong RX8 222 6151) (by decide +kernel)) dX8_year_51 ?_
              refine lv_iload_n hx hb dX8_year_54 rfl (lv_at hl 3 rfl) ?_
              refine lv_i2l hx hb dX8_year_55 rfl ?_
              refine lv_lmul hx hb dX8_year_56 ?_
              refine lv_ladd hx hb dX8_year_57 ?_
              refine lv_lconst (v := (lN 1)) hx hb dX8_year_58 (by decide) ?_
              refine lv_ladd hx hb dX8_year_59 ?_
              refine lv_lstore (lv' := [(4, .long ((((lN 7919) * p1.toInt64) + ((lN 6151) * v3_30.toInt64)) + (lN 1))), (0, .ref q_th), (1, .int p1), (2, .int p2), (3, .int v3_30)]) hx hb dX8_year_60 hl (by decide) rfl (fun ls hl => ?_)
              refine lv_aload_n hx hb dX8_year_62 rfl (lv_at hl 1 rfl) ?_
              refine lv_lload hx hb dX8_year_63 (lv_at hl 0 rfl) ?_
              refine lv_lload hx hb dX8_year_65 (lv_at hl 0 rfl) ?_
              refine lv_lmul hx hb dX8_year_67 ?_
              refine lv_ldc2 (v := (lN 65521)) hx hb hown (hts (.constantLong RX8 224 65521) (by decide +kernel)) dX8_year_68 ?_
              refine lv_lrem hx hb dX8_year_71 (by decide) ?_
              refine lv_ldc2 (v := (lN 8)) hx hb hown (hts (.constantLong RX8 226 8) (by decide +kernel)) dX8_year_72 ?_
              refine lv_ldiv hx hb dX8_year_75 (by decide) ?_
              refine lv_ldc2 (v := (lN 7)) hx hb hown (hts (.constantLong RX8 228 7) (by decide +kernel)) dX8_year_76 ?_
              refine lv_lrem hx hb dX8_year_79 (by decide) ?_
              refine lv_l2i hx hb dX8_year_80 rfl ?_
              obtain ⟨o81, hF1, hF⟩ := ng_b hF
              refine nx_callVi (As := [.int (((((((((lN 7919) * p1.toInt64) + ((lN 6151) * v3_30.toInt64)) + (lN 1)) * ((((lN 7919) * p1.toInt64) + ((lN 6151) * v3_30.toInt64)) + (lN 1))) - (((((lN 7919) * p1.toInt64) + ((lN 6151) * v3_30.toInt64)) + (lN 1)) * ((((lN 7919) * p1.toInt64) + ((lN 6151) * v3_30.toInt64)) + (lN 1))) / (lN 65521) * (lN 65521)) / (lN 8)) - (((((((lN 7919) * p1.toInt64) + ((lN 6151) * v3_30.toInt64)) + (lN 1)) * ((((lN 7919) * p1.toInt64) + ((lN 6151) * v3_30.toInt64)) + (lN 1))) - (((((lN 7919) * p1.toInt64) + ((lN 6151) * v3_30.toInt64)) + (lN 1)) * ((((lN 7919) * p1.toInt64) + ((lN 6151) * v3_30.toInt64)) + (lN 1))) / (lN 65521) * (lN 65521)) / (lN 8)) / (lN 7) * (lN 7)).toInt32)]) (rest := []) (W1 := [(q_th, .inr (8, [.ref q_th_told, .ref q_th_now, x_th_text, .int th_letters, .int th_at, x_th_read, .int th_isMore, .int th_told0, .ref q_th_from, .ref q_th_to, x_th_undone, .int th_undos, .ref q_th_aside, .int th_beganOn, .int th_beganIn, .int th_first, .int th_second, x_th_seenCell, x_th_seenNight, .int th_seens, .int th_above, .int th_below, x_th_kept, .int th_keeps])), (q_th_aside, .inl (cI, 28, .inl o25)), (q_th_now, .inl (cI, 28, .inl o81.2.1)), (q_th_told, .inl (cI, 54, .inl th_told)), (q_th_from, .inl (cI, 25, .inl o81.2.2.1)), (q_th_to, .inl (cI, 25, .inl o81.2.2.2))]) (wr := [(q_th_aside, .inl (cI, 28, .inl o25))]) S0 hK hN hA hP hD hS (kX8_goesBy l dC dI cI q_th q_th_now q_th_told q_th_from q_th_to _ (x_th_text) th_letters th_at (x_th_read) th_isMore th_told0 (x_th_undone) th_undos (.ref q_th_aside) th_beganOn th_beganIn th_first th_second (x_th_seenCell) (x_th_seenNight) th_seens th_above th_below (x_th_kept) th_keeps th_now_30 th_told th_from_30 th_to_30 (((((((((lN 7919) * p1.toInt64) + ((lN 6151) * v3_30.toInt64)) + (lN 1)) * ((((lN 7919) * p1.toInt64) + ((lN 6151) * v3_30.toInt64)) + (lN 1))) - (((((lN 7919) * p1.toInt64) + ((lN 6151) * v3_30.toInt64)) + (lN 1)) * ((((lN 7919) * p1.toInt64) + ((lN 6151) * v3_30.toInt64)) + (lN 1))) / (lN 65521) * (lN 65521)) / (lN 8)) - (((((((lN 7919) * p1.toInt64) + ((lN 6151) * v3_30.toInt64)) + (lN 1)) * ((((lN 7919) * p1.toInt64) + ((lN 6151) * v3_30.toInt64)) + (lN 1))) - (((((lN 7919) * p1.toInt64) + ((lN 6151) * v3_30.toInt64)) + (lN 1)) * ((((lN 7919) * p1.toInt64) + ((lN 6151) * v3_30.toInt64)) + (lN 1))) / (lN 65521) * (lN 65521)) / (lN 8)) / (lN 7) * (lN 7)).toInt32) N o81 hF1) (cwV 1 hts gX8_year_X8_goesBy rfl rfl rfl ⟨rfl, hdX8_goesBy⟩ ⟨Nat.le_of_ble_eq_true rfl, Nat.le_of_ble_eq_true rfl⟩) [0, 2, 3, 4, 5] [1] [1, 0, 2, 3, 4, 5] rfl rfl rfl rfl 0 8 rfl rfl rfl rfl hl.1 rfl (Nat.le_of_ble_eq_true rfl) dX8_year_81 (fun H locs hP hD hS => ?_)
              refine lv_pop hx hb dX8_year_84 rfl ?_
              refine lv_iinc (v := v3_30 + (nI 1)) (lv' := [(3, .int (v3_30 + (nI 1))), (4, .long ((((lN 7919) * p1.toInt64) + ((lN 6151) * v3_30.toInt64)) + (lN 1))), (0, .ref q_th), (1, .int p1), (2, .int p2)]) hx hb dX8_year_85 hl (k := 4) rfl rfl (by decide) rfl (fun ls hl => ?_)
              refine lv_goto (tgt := 30) hx hb dX8_year_88 (by decide) ?_
              exact ih_30 (v3_30 + (nI 1)) o81.2.1 o81.2.2.1 o81.2.2.2 hF _ _ _ hP hD hS (lv_sub hl [2, 3, 4, 0] rfl)
      refine lv_istore_n (lv' := [(3, .int (nI 0)), (0, .ref q_th), (1, .int p1), (2, .int p2)]) hx hb dX8_year_29 rfl hl (by decide) rfl (fun ls hl => ?_)
      exact B_30 N (nI 0) th_now th_from th_to hF _ _ _ hP hD hS (lv_sub hl [1, 2, 3, 0] rfl)
    · have hF := ng_t hc hF
      refine lv_iconst (v := (-1 : Int32)) hx hb dX8_year_22 (by decide) ?_
      exact hret (-1 : Int32) th_aside th_now th_from th_to _ _ _ _ hF dX8_year_23 hP hD hS
theorem hdX8_keep : yX8_keep.cls ≠ "java/lang/invoke/MethodHandle" ∧ yX8_keep.cls ≠ "java/lang/invoke/VarHandle" ∧ (parseMethodDescriptor yX8_keep.desc).map (fun d => d.parameters.length) = some 0 := by decide +kernel
set_option maxHeartbeats 40000000 in
set_option maxRecDepth 100000 in
theorem kX8_keep (l : Launch) (dC : Nat → ClassId) (dI : Nat → Nat → Nat) (cI : ClassId) (q_th : Nat) (q_th_kept : Nat) (q_th_now : Nat) (sz : Nat) (x_th_told : Value) (x_th_text : Value) (th_letters : Int32) (th_at : Int32) (x_th_read : Value) (th_isMore : Int32) (th_told0 : Int32) (x_th_from : Value) (x_th_to : Value) (x_th_undone : Value) (th_undos : Int32) (x_th_aside : Value) (th_beganOn : Int32) (th_beganIn : Int32) (th_first : Int32) (th_second : Int32) (x_th_seenCell : Value) (x_th_seenNight : Value) (th_seens : Int32) (th_above : Int32) (th_below : Int32) (th_keeps : Int32) (th_kept : Nat → Int32) (th_now : Nat → Int32) (N : Nat) (o : Int32 × Int32 × (Nat → Int32)) (hF : fX8_keep N th_keeps th_kept th_now = some o) : nx_I l yX8_keep wsX8_keep ({ frames := 0, cells := 0, slots := 0, locals := 0 } : Room) (dC, dI) cI [.ref q_th] [(q_th, .inr (8, [x_th_told, .ref q_th_now, x_th_text, .int th_letters, .int th_at, x_th_read, .int th_isMore, .int th_told0, x_th_from, x_th_to, x_th_undone, .int th_undos, x_th_aside, .int th_beganOn, .int th_beganIn, .int th_first, .int th_second, x_th_seenCell, x_th_seenNight, .int th_seens, .int th_above, .int th_below, .ref q_th_kept, .int th_keeps])), (q_th_kept, .inl (cI, 56, .inl th_kept)), (q_th_now, .inl (cI, 28, .inl th_now))] sz o.1 [(q_th, .inr (8, [x_th_told, .ref q_th_now, x_th_text, .int th_letters, .int th_at, x_th_read, .int th_isMore, .int th_told0, x_th_from, x_th_to, x_th_undone, .int th_undos, x_th_aside, .int th_beganOn, .int th_beganIn, .int th_first, .int th_second, x_th_seenCell, x_th_seenNight, .int th_seens, .int th_above, .int th_below, .ref q_th_kept, .int o.2.1])), (q_th_kept, .inl (cI, 56, .inl o.2.2)), (q_th_now, .inl (cI, 28, .inl th_now))] := by
  refine nx_int (cc := cX8_keep) (maxL := 2) (by decide) rfl (Nat.le_of_ble_eq_true rfl) ?_
  intro p e s m args below meth c Q A S0 hK hN hA ret0 hP hD hS ls hl
  have S0 : CallFix p m c cX8_keep 2 s args wsX8_keep RX8 := S0
  have hx := S0.1
  have hb := S0.2.1
  have hown := S0.2.2.2.1
  have hts := S0.2.2.2.2
  have hf_112 := hts (.fieldLink RX8 112 "SnailsYearModel" "keeps" "I") (by decide +kernel)
  have hin_X8 : ∀ w ∈ wsX80, w ∈ wsX8_keep := by decide +kernel
  have hf_40 := hts (.fieldLink RX8 40 "SnailsYearModel" "kept" "[I") (by decide +kernel)
  have hf_13 := hts (.fieldLink RX8 13 "SnailsYearModel" "now" "[I") (by decide +kernel)
  have hl : lv_has ls 2 [(0, .ref q_th)] := hl
  have hret : ∀ (r0 : Int32) (y0 : Int32) (y1 : Nat → Int32) (H : Heap) (locs : List Loc) (ls : Array Slot) (pc : Nat), some (r0, y0, y1) = some o → decode cX8_keep pc = .ok (.ireturn, 1) → va_P (dC, dI) vwCl [(q_th, .inr (8, [x_th_told, .ref q_th_now, x_th_text, .int th_letters, .int th_at, x_th_read, .int th_isMore, .int th_told0, x_th_from, x_th_to, x_th_undone, .int th_undos, x_th_aside, .int th_beganOn, .int th_beganIn, .int th_first, .int th_second, x_th_seenCell, x_th_seenNight, .int th_seens, .int th_above, .int th_below, .ref q_th_kept, .int y0])), (q_th_kept, .inl (cI, 56, .inl y1)), (q_th_now, .inl (cI, 28, .inl th_now))] H → va_D A [(q_th, .inr (8, [x_th_told, .ref q_th_now, x_th_text, .int th_letters, .int th_at, x_th_read, .int th_isMore, .int th_told0, x_th_from, x_th_to, x_th_undone, .int th_undos, x_th_aside, .int th_beganOn, .int th_beganIn, .int th_first, .int th_second, x_th_seenCell, x_th_seenNight, .int th_seens, .int th_above, .int th_below, .ref q_th_kept, .int y0])), (q_th_kept, .inl (cI, 56, .inl y1)), (q_th_now, .inl (cI, 28, .inl th_now))] → va_S A s.heap H locs → W p l e ({ frames := 0, cells := 0, slots := 0, locals := 0 } : Room) s m args below meth c H locs 0 0 Q (F0 m pc ls [.int r0]) := by
    intro r0 y0 y1 H locs ls pc ho hd hP hD hS
    cases ho
    exact ret0 H locs ls pc hd hP hD hS
  rw [fX8_keep_e] at hF
  refine lv_aload_n hx hb dX8_keep_0 rfl (lv_at hl 0 rfl) ?_
  refine nx_get S0 hK hP 0 23 hin_X8 hf_112 rfl rfl (by decide) rfl rfl dX8_keep_1 ?_
  refine lv_iconst (v := (nI 2)) hx hb dX8_keep_4 (by decide) ?_
  refine lv_icmp_ne (tgt := 11) hx hb dX8_keep_5 (by decide) (fun hc => ?_) (fun hc => ?_)
  · have hF := ng_f hc hF
    refine lv_iconst (v := (nI 0)) hx hb dX8_keep_11 (by decide) ?_
    have B_13 : ∀ (n_13 : Nat) (v1_13 : Int32) (th_kept_13 : Nat → Int32), fX8_keep_13 th_keeps th_now n_13 v1_13 th_kept_13 = some o → ∀ (H : Heap) (locs : List Loc) (ls : Array Slot), va_P (dC, dI) vwCl [(q_th, .inr (8, [x_th_told, .ref q_th_now, x_th_text, .int th_letters, .int th_at, x_th_read, .int th_isMore, .int th_told0, x_th_from, x_th_to, x_th_undone, .int th_undos, x_th_aside, .int th_beganOn, .int th_beganIn, .int th_first, .int th_second, x_th_seenCell, x_th_seenNight, .int th_seens, .int th_above, .int th_below, .ref q_th_kept, .int th_keeps])), (q_th_kept, .inl (cI, 56, .inl th_kept_13)), (q_th_now, .inl (cI, 28, .inl th_now))] H → va_D A [(q_th, .inr (8, [x_th_told, .ref q_th_now, x_th_text, .int th_letters, .int th_at, x_th_read, .int th_isMore, .int th_told0, x_th_from, x_th_to, x_th_undone, .int th_undos, x_th_aside, .int th_beganOn, .int th_beganIn, .int th_first, .int th_second, x_th_seenCell, x_th_seenNight, .int th_seens, .int th_above, .int th_below, .ref q_th_kept, .int th_keeps])), (q_th_kept, .inl (cI, 56, .inl th_kept_13)), (q_th_now, .inl (cI, 28, .inl th_now))] → va_S A s.heap H locs → lv_has ls 2 [(0, .ref q_th), (1, .int v1_13)] → W p l e ({ frames := 0, cells := 0, slots := 0, locals := 0 } : Room) s m args below meth c H locs 0 0 Q (F0 m 13 ls []) := by
      intro n_13
      induction n_13 with
      | zero =>
        intro v1_13 th_kept_13 hF
        rw [fX8_keep_13_z] at hF
        cases hF
      | succ n_13 ih_13 =>
        intro v1_13 th_kept_13 hF H locs ls hP hD hS hl
        rw [fX8_keep_13_s] at hF
        refine lv_iload_n hx hb dX8_keep_13 rfl (lv_at hl 1 rfl) ?_
        refine lv_bipush (v := (nI 28)) hx hb dX8_keep_14 (by decide) ?_
        refine lv_icmp_ge (tgt := 45) hx hb dX8_keep_16 (by decide) (fun hc => ?_) (fun hc => ?_)
        · have hF := ng_t hc hF
          refine lv_aload_n hx hb dX8_keep_45 rfl (lv_at hl 0 rfl) ?_
          refine lv_dup hx hb dX8_keep_46 rfl ?_
          refine nx_get S0 hK hP 0 23 hin_X8 hf_112 rfl rfl (by decide) rfl rfl dX8_keep_47 ?_
          refine lv_iconst (v := (nI 1)) hx hb dX8_keep_50 (by decide) ?_
          refine lv_iadd hx hb dX8_keep_51 ?_
          refine nx_put S0 hK hP hD hS 0 23 hin_X8 tyX8 tyX8_ok nmX8 hf_112 rfl rfl (by decide) rfl rfl rfl rfl (Nat.le_of_ble_eq_true rfl) dX8_keep_52 (W1 := [(q_th, .inr (8, [x_th_told, .ref q_th_now, x_th_text, .int th_letters, .int th_at, x_th_read, .int th_isMore, .int th_told0, x_th_from, x_th_to, x_th_undone, .int th_undos, x_th_aside, .int th_beganOn, .int th_beganIn, .int th_first, .int th_second, x_th_seenCell, x_th_seenNight, .int th_seens, .int th_above, .int th_below, .ref q_th_kept, .int (th_keeps + (nI 1))])), (q_th_kept, .inl (cI, 56, .inl th_kept_13)), (q_th_now, .inl (cI, 28, .inl th_now))]) rfl (fun H locs hP hD hS => ?_)
          refine lv_aload_n hx hb dX8_keep_55 rfl (lv_at hl 0 rfl) ?_
          refine nx_get S0 hK hP 0 23 hin_X8 hf_112 rfl rfl (by decide) rfl rfl dX8_keep_56 ?_
          exact hret (th_keeps + (nI 1)) (th_keeps + (nI 1)) th_kept_13 _ _ _ _ hF dX8_keep_59 hP hD hS
        · have hF := ng_f hc hF
          refine lv_aload_n hx hb dX8_keep_19 rfl (lv_at hl 0 rfl) ?_
          refine nx_get S0 hK hP 0 22 hin_X8 hf_40 rfl rfl (by decide) rfl rfl dX8_keep_20 ?_
          refine lv_bipush (v := (nI 28)) hx hb dX8_keep_23 (by decide) ?_
          refine lv_aload_n hx hb dX8_keep_25 rfl (lv_at hl 0 rfl) ?_
          refine nx_get S0 hK hP 0 23 hin_X8 hf_112 rfl rfl (by decide) rfl rfl dX8_keep_26 ?_
          refine lv_imul hx hb dX8_keep_29 ?_
          refine lv_iload_n hx hb dX8_keep_30 rfl (lv_at hl 1 rfl) ?_
          refine lv_iadd hx hb dX8_keep_31 ?_
          refine lv_aload_n hx hb dX8_keep_32 rfl (lv_at hl 0 rfl) ?_
          refine nx_get S0 hK hP 0 1 hin_X8 hf_13 rfl rfl (by decide) rfl rfl dX8_keep_33 ?_
          refine lv_iload_n hx hb dX8_keep_36 rfl (lv_at hl 1 rfl) ?_
          have hg := ng_p hF
          have hF := ng_x hF
          refine nx_iald S0 hK hP 2 (v := th_now v1_13.toNatClampNeg) rfl hg rfl dX8_keep_37 ?_
          have hg := ng_p hF
          have hF := ng_x hF
          refine nx_iast S0 hK hP hD hS 1 rfl hg dX8_keep_38 (W1 := [(q_th, .inr (8, [x_th_told, .ref q_th_now, x_th_text, .int th_letters, .int th_at, x_th_read, .int th_isMore, .int th_told0, x_th_from, x_th_to, x_th_undone, .int th_undos, x_th_aside, .int th_beganOn, .int th_beganIn, .int th_first, .int th_second, x_th_seenCell, x_th_seenNight, .int th_seens, .int th_above, .int th_below, .ref q_th_kept, .int th_keeps])), (q_th_kept, .inl (cI, 56, .inl (upd th_kept_13 ((((nI 28) * th_keeps) + v1_13).toNatClampNeg) (th_now v1_13.toNatClampNeg)))), (q_th_now, .inl (cI, 28, .inl th_now))]) rfl (fun H locs hP hD hS => ?_)
          refine lv_iinc (v := v1_13 + (nI 1)) (lv' := [(1, .int (v1_13 + (nI 1))), (0, .ref q_th)]) hx hb dX8_keep_39 hl (k := 1) rfl rfl (by decide) rfl (fun ls hl => ?_)
          refine lv_goto (tgt := 13) hx hb dX8_keep_42 (by decide) ?_
          exact ih_13 (v1_13 + (nI 1)) (upd th_kept_13 ((((nI 28) * th_keeps) + v1_13).toNatClampNeg) (th_now v1_13.toNatClampNeg)) hF _ _ _ hP hD hS (lv_sub hl [1, 0] rfl)
    refine lv_istore_n (lv' := [(1, .int (nI 0)), (0, .ref q_th)]) hx hb dX8_keep_12 rfl hl (by decide) rfl (fun ls hl => ?_)
    exact B_13 N (nI 0) th_kept hF _ _ _ hP hD hS (lv_sub hl [1, 0] rfl)
  · have hF := ng_t hc hF
    refine lv_bipush (v := (-3 : Int32)) hx hb dX8_keep_8 (by decide) ?_
    exact hret (-3 : Int32) th_keeps th_kept _ _ _ _ hF dX8_keep_10 hP hD hS
theorem hdX8_back : yX8_back.cls ≠ "java/lang/invoke/MethodHandle" ∧ yX8_back.cls ≠ "java/lang/invoke/VarHandle" ∧ (parseMethodDescriptor yX8_back.desc).map (fun d => d.parameters.length) = some 0 := by decide +kernel
set_option maxHeartbeats 40000000 in
set_option maxRecDepth 100000 in
theorem kX8_back (l : Launch) (dC : Nat → ClassId) (dI : Nat → Nat → Nat) (cI : ClassId) (q_th : Nat) (q_th_now : Nat) (q_th_kept : Nat) (sz : Nat) (x_th_told : Value) (x_th_text : Value) (th_letters : Int32) (th_at : Int32) (x_th_read : Value) (th_isMore : Int32) (th_told0 : Int32) (x_th_from : Value) (x_th_to : Value) (x_th_undone : Value) (th_undos : Int32) (x_th_aside : Value) (th_beganOn : Int32) (th_beganIn : Int32) (th_first : Int32) (th_second : Int32) (x_th_seenCell : Value) (x_th_seenNight : Value) (th_seens : Int32) (th_above : Int32) (th_below : Int32) (th_keeps : Int32) (th_now : Nat → Int32) (th_kept : Nat → Int32) (N : Nat) (o : Int32 × Int32 × Int32 × (Nat → Int32)) (hF : fX8_back N th_undos th_keeps th_now th_kept = some o) : nx_I l yX8_back wsX8_back ({ frames := 0, cells := 0, slots := 0, locals := 0 } : Room) (dC, dI) cI [.ref q_th] [(q_th, .inr (8, [x_th_told, .ref q_th_now, x_th_text, .int th_letters, .int th_at, x_th_read, .int th_isMore, .int th_told0, x_th_from, x_th_to, x_th_undone, .int th_undos, x_th_aside, .int th_beganOn, .int th_beganIn, .int th_first, .int th_second, x_th_seenCell, x_th_seenNight, .int th_seens, .int th_above, .int th_below, .ref q_th_kept, .int th_keeps])), (q_th_now, .inl (cI, 28, .inl th_now)), (q_th_kept, .inl (cI, 56, .inl th_kept))] sz o.1 [(q_th, .inr (8, [x_th_told, .ref q_th_now, x_th_text, .int th_letters, .int th_at, x_th_read, .int th_isMore, .int th_told0, x_th_from, x_th_to, x_th_undone, .int o.2.1, x_th_aside, .int th_beganOn, .int th_beganIn, .int th_first, .int th_second, x_th_seenCell, x_th_seenNight, .int th_seens, .int th_above, .int th_below, .ref q_th_kept, .int o.2.2.1])), (q_th_now, .inl (cI, 28, .inl o.2.2.2)), (q_th_kept, .inl (cI, 56, .inl th_kept))] := by
  refine nx_int (cc := cX8_back) (maxL := 2) (by decide) rfl (Nat.le_of_ble_eq_true rfl) ?_
  intro p e s m args below meth c Q A S0 hK hN hA ret0 hP hD hS ls hl
  have S0 : CallFix p m c cX8_back 2 s args wsX8_back RX8 := S0
  have hx := S0.1
  have hb := S0.2.1
  have hown := S0.2.2.2.1
  have hts := S0.2.2.2.2
  have hf_112 := hts (.fieldLink RX8 112 "SnailsYearModel" "keeps" "I") (by decide +kernel)
  have hin_X8 : ∀ w ∈ wsX80, w ∈ wsX8_back := by decide +kernel
  have hf_109 := hts (.fieldLink RX8 109 "SnailsYearModel" "undos" "I") (by decide +kernel)
  have hf_13 := hts (.fieldLink RX8 13 "SnailsYearModel" "now" "[I") (by decide +kernel)
  have hf_40 := hts (.fieldLink RX8 40 "SnailsYearModel" "kept" "[I") (by decide +kernel)
  have hl : lv_has ls 2 [(0, .ref q_th)] := hl
  have hret : ∀ (r0 : Int32) (y0 : Int32) (y1 : Int32) (y2 : Nat → Int32) (H : Heap) (locs : List Loc) (ls : Array Slot) (pc : Nat), some (r0, y0, y1, y2) = some o → decode cX8_back pc = .ok (.ireturn, 1) → va_P (dC, dI) vwCl [(q_th, .inr (8, [x_th_told, .ref q_th_now, x_th_text, .int th_letters, .int th_at, x_th_read, .int th_isMore, .int th_told0, x_th_from, x_th_to, x_th_undone, .int y0, x_th_aside, .int th_beganOn, .int th_beganIn, .int th_first, .int th_second, x_th_seenCell, x_th_seenNight, .int th_seens, .int th_above, .int th_below, .ref q_th_kept, .int y1])), (q_th_now, .inl (cI, 28, .inl y2)), (q_th_kept, .inl (cI, 56, .inl th_kept))] H → va_D A [(q_th, .inr (8, [x_th_told, .ref q_th_now, x_th_text, .int th_letters, .int th_at, x_th_read, .int th_isMore, .int th_told0, x_th_from, x_th_to, x_th_undone, .int y0, x_th_aside, .int th_beganOn, .int th_beganIn, .int th_first, .int th_second, x_th_seenCell, x_th_seenNight, .int th_seens, .int th_above, .int th_below, .ref q_th_kept, .int y1])), (q_th_now, .inl (cI, 28, .inl y2)), (q_th_kept, .inl (cI, 56, .inl th_kept))] → va_S A s.heap H locs → W p l e ({ frames := 0, cells := 0, slots := 0, locals := 0 } : Room) s m args below meth c H locs 0 0 Q (F0 m pc ls [.int r0]) := by
    intro r0 y0 y1 y2 H locs ls pc ho hd hP hD hS
    cases ho
    exact ret0 H locs ls pc hd hP hD hS
  rw [fX8_back_e] at hF
  refine lv_aload_n hx hb dX8_back_0 rfl (lv_at hl 0 rfl) ?_
  refine nx_get S0 hK hP 0 23 hin_X8 hf_112 rfl rfl (by decide) rfl rfl dX8_back_1 ?_
  refine lv_if_ne (tgt := 10) hx hb dX8_back_4 (by decide) (fun hc => ?_) (fun hc => ?_)
  · have hF := ng_f hc hF
    refine lv_aload_n hx hb dX8_back_10 rfl (lv_at hl 0 rfl) ?_
    refine lv_dup hx hb dX8_back_11 rfl ?_
    refine nx_get S0 hK hP 0 23 hin_X8 hf_112 rfl rfl (by decide) rfl rfl dX8_back_12 ?_
    refine lv_iconst (v := (nI 1)) hx hb dX8_back_15 (by decide) ?_
    refine lv_isub hx hb dX8_back_16 ?_
    refine nx_put S0 hK hP hD hS 0 23 hin_X8 tyX8 tyX8_ok nmX8 hf_112 rfl rfl (by decide) rfl rfl rfl rfl (Nat.le_of_ble_eq_true rfl) dX8_back_17 (W1 := [(q_th, .inr (8, [x_th_told, .ref q_th_now, x_th_text, .int th_letters, .int th_at, x_th_read, .int th_isMore, .int th_told0, x_th_from, x_th_to, x_th_undone, .int th_undos, x_th_aside, .int th_beganOn, .int th_beganIn, .int th_first, .int th_second, x_th_seenCell, x_th_seenNight, .int th_seens, .int th_above, .int th_below, .ref q_th_kept, .int (th_keeps - (nI 1))])), (q_th_now, .inl (cI, 28, .inl th_now)), (q_th_kept, .inl (cI, 56, .inl th_kept))]) rfl (fun H locs hP hD hS => ?_)
    refine lv_iconst (v := (nI 0)) hx hb dX8_back_20 (by decide) ?_
    have B_22 : ∀ (n_22 : Nat) (v1_22 : Int32) (th_now_22 : Nat → Int32), fX8_back_22 th_keeps th_kept n_22 v1_22 th_now_22 = some o → ∀ (H : Heap) (locs : List Loc) (ls : Array Slot), va_P (dC, dI) vwCl [(q_th, .inr (8, [x_th_told, .ref q_th_now, x_th_text, .int th_letters, .int th_at, x_th_read, .int th_isMore, .int th_told0, x_th_from, x_th_to, x_th_undone, .int th_undos, x_th_aside, .int th_beganOn, .int th_beganIn, .int th_first, .int th_second, x_th_seenCell, x_th_seenNight, .int th_seens, .int th_above, .int th_below, .ref q_th_kept, .int (th_keeps - (nI 1))])), (q_th_now, .inl (cI, 28, .inl th_now_22)), (q_th_kept, .inl (cI, 56, .inl th_kept))] H → va_D A [(q_th, .inr (8, [x_th_told, .ref q_th_now, x_th_text, .int th_letters, .int th_at, x_th_read, .int th_isMore, .int th_told0, x_th_from, x_th_to, x_th_undone, .int th_undos, x_th_aside, .int th_beganOn, .int th_beganIn, .int th_first, .int th_second, x_th_seenCell, x_th_seenNight, .int th_seens, .int th_above, .int th_below, .ref q_th_kept, .int (th_keeps - (nI 1))])), (q_th_now, .inl (cI, 28, .inl th_now_22)), (q_th_kept, .inl (cI, 56, .inl th_kept))] → va_S A s.heap H locs → lv_has ls 2 [(0, .ref q_th), (1, .int v1_22)] → W p l e ({ frames := 0, cells := 0, slots := 0, locals := 0 } : Room) s m args below meth c H locs 0 0 Q (F0 m 22 ls []) := by
      intro n_22
      induction n_22 with
      | zero =>
        intro v1_22 th_now_22 hF
        rw [fX8_back_22_z] at hF
        cases hF
      | succ n_22 ih_22 =>
        intro v1_22 th_now_22 hF H locs ls hP hD hS hl
        rw [fX8_back_22_s] at hF
        refine lv_iload_n hx hb dX8_back_22 rfl (lv_at hl 1 rfl) ?_
        refine lv_bipush (v := (nI 28)) hx hb dX8_back_23 (by decide) ?_
        refine lv_icmp_ge (tgt := 54) hx hb dX8_back_25 (by decide) (fun hc => ?_) (fun hc => ?_)
        · have hF := ng_t hc hF
          refine lv_aload_n hx hb dX8_back_54 rfl (lv_at hl 0 rfl) ?_
          refine lv_iconst (v := (nI 0)) hx hb dX8_back_55 (by decide) ?_
          refine nx_put S0 hK hP hD hS 0 11 hin_X8 tyX8 tyX8_ok nmX8 hf_109 rfl rfl (by decide) rfl rfl rfl rfl (Nat.le_of_ble_eq_true rfl) dX8_back_56 (W1 := [(q_th, .inr (8, [x_th_told, .ref q_th_now, x_th_text, .int th_letters, .int th_at, x_th_read, .int th_isMore, .int th_told0, x_th_from, x_th_to, x_th_undone, .int (nI 0), x_th_aside, .int th_beganOn, .int th_beganIn, .int th_first, .int th_second, x_th_seenCell, x_th_seenNight, .int th_seens, .int th_above, .int th_below, .ref q_th_kept, .int (th_keeps - (nI 1))])), (q_th_now, .inl (cI, 28, .inl th_now_22)), (q_th_kept, .inl (cI, 56, .inl th_kept))]) rfl (fun H locs hP hD hS => ?_)
          refine lv_aload_n hx hb dX8_back_59 rfl (lv_at hl 0 rfl) ?_
          refine nx_get S0 hK hP 0 23 hin_X8 hf_112 rfl rfl (by decide) rfl rfl dX8_back_60 ?_
          exact hret (th_keeps - (nI 1)) (nI 0) (th_keeps - (nI 1)) th_now_22 _ _ _ _ hF dX8_back_63 hP hD hS
        · have hF := ng_f hc hF
          refine lv_aload_n hx hb dX8_back_28 rfl (lv_at hl 0 rfl) ?_
          refine nx_get S0 hK hP 0 1 hin_X8 hf_13 rfl rfl (by decide) rfl rfl dX8_back_29 ?_
          refine lv_iload_n hx hb dX8_back_32 rfl (lv_at hl 1 rfl) ?_
          refine lv_aload_n hx hb dX8_back_33 rfl (lv_at hl 0 rfl) ?_
          refine nx_get S0 hK hP 0 22 hin_X8 hf_40 rfl rfl (by decide) rfl rfl dX8_back_34 ?_
          refine lv_bipush (v := (nI 28)) hx hb dX8_back_37 (by decide) ?_
          refine lv_aload_n hx hb dX8_back_39 rfl (lv_at hl 0 rfl) ?_
          refine nx_get S0 hK hP 0 23 hin_X8 hf_112 rfl rfl (by decide) rfl rfl dX8_back_40 ?_
          refine lv_imul hx hb dX8_back_43 ?_
          refine lv_iload_n hx hb dX8_back_44 rfl (lv_at hl 1 rfl) ?_
          refine lv_iadd hx hb dX8_back_45 ?_
          have hg := ng_p hF
          have hF := ng_x hF
          refine nx_iald S0 hK hP 2 (v := th_kept ((((nI 28) * (th_keeps - (nI 1))) + v1_22).toNatClampNeg)) rfl hg rfl dX8_back_46 ?_
          have hg := ng_p hF
          have hF := ng_x hF
          refine nx_iast S0 hK hP hD hS 1 rfl hg dX8_back_47 (W1 := [(q_th, .inr (8, [x_th_told, .ref q_th_now, x_th_text, .int th_letters, .int th_at, x_th_read, .int th_isMore, .int th_told0, x_th_from, x_th_to, x_th_undone, .int th_undos, x_th_aside, .int th_beganOn, .int th_beganIn, .int th_first, .int th_second, x_th_seenCell, x_th_seenNight, .int th_seens, .int th_above, .int th_below, .ref q_th_kept, .int (th_keeps - (nI 1))])), (q_th_now, .inl (cI, 28, .inl (upd th_now_22 v1_22.toNatClampNeg (th_kept ((((nI 28) * (th_keeps - (nI 1))) + v1_22).toNatClampNeg))))), (q_th_kept, .inl (cI, 56, .inl th_kept))]) rfl (fun H locs hP hD hS => ?_)
          refine lv_iinc (v := v1_22 + (nI 1)) (lv' := [(1, .int (v1_22 + (nI 1))), (0, .ref q_th)]) hx hb dX8_back_48 hl (k := 1) rfl rfl (by decide) rfl (fun ls hl => ?_)
          refine lv_goto (tgt := 22) hx hb dX8_back_51 (by decide) ?_
          exact ih_22 (v1_22 + (nI 1)) (upd th_now_22 v1_22.toNatClampNeg (th_kept ((((nI 28) * (th_keeps - (nI 1))) + v1_22).toNatClampNeg))) hF _ _ _ hP hD hS (lv_sub hl [1, 0] rfl)
    refine lv_istore_n (lv' := [(1, .int (nI 0)), (0, .ref q_th)]) hx hb dX8_back_21 rfl hl (by decide) rfl (fun ls hl => ?_)
    exact B_22 N (nI 0) th_now hF _ _ _ hP hD hS (lv_sub hl [1, 0] rfl)
  · have hF := ng_t hc hF
    refine lv_bipush (v := (-2 : Int32)) hx hb dX8_back_7 (by decide) ?_
    exact hret (-2 : Int32) th_undos th_keeps th_now _ _ _ _ hF dX8_back_9 hP hD hS
theorem hdX8_count : yX8_count.cls ≠ "java/lang/invoke/MethodHandle" ∧ yX8_count.cls ≠ "java/lang/invoke/VarHandle" ∧ (parseMethodDescriptor yX8_count.desc).map (fun d => d.parameters.length) = some 1 := by decide +kernel
set_option maxHeartbeats 40000000 in
set_option maxRecDepth 100000 in
theorem kX8_count (l : Launch) (dC : Nat → ClassId) (dI : Nat → Nat → Nat) (cI : ClassId) (q_th : Nat) (q_th_told : Nat) (q_th_now : Nat) (sz : Nat) (x_th_text : Value) (th_letters : Int32) (th_at : Int32) (x_th_read : Value) (th_isMore : Int32) (th_told0 : Int32) (x_th_from : Value) (x_th_to : Value) (x_th_undone : Value) (th_undos : Int32) (x_th_aside : Value) (th_beganOn : Int32) (th_beganIn : Int32) (th_first : Int32) (th_second : Int32) (x_th_seenCell : Value) (x_th_seenNight : Value) (th_seens : Int32) (th_above : Int32) (th_below : Int32) (x_th_kept : Value) (th_keeps : Int32) (th_told : Nat → Int32) (th_now : Nat → Int32) (p1 : Int32) (N : Nat) (o : Int32) (hF : fX8_count N th_letters th_undos th_seens th_keeps p1 th_told th_now = some o) : nx_I l yX8_count wsX8_count ({ frames := 2, cells := 0, slots := 0, locals := 44 } : Room) (dC, dI) cI [.ref q_th, .int p1] [(q_th, .inr (8, [.ref q_th_told, .ref q_th_now, x_th_text, .int th_letters, .int th_at, x_th_read, .int th_isMore, .int th_told0, x_th_from, x_th_to, x_th_undone, .int th_undos, x_th_aside, .int th_beganOn, .int th_beganIn, .int th_first, .int th_second, x_th_seenCell, x_th_seenNight, .int th_seens, .int th_above, .int th_below, x_th_kept, .int th_keeps])), (q_th_told, .inl (cI, 54, .inl th_told)), (q_th_now, .inl (cI, 28, .inl th_now))] sz o [(q_th, .inr (8, [.ref q_th_told, .ref q_th_now, x_th_text, .int th_letters, .int th_at, x_th_read, .int th_isMore, .int th_told0, x_th_from, x_th_to, x_th_undone, .int th_undos, x_th_aside, .int th_beganOn, .int th_beganIn, .int th_first, .int th_second, x_th_seenCell, x_th_seenNight, .int th_seens, .int th_above, .int th_below, x_th_kept, .int th_keeps])), (q_th_told, .inl (cI, 54, .inl th_told)), (q_th_now, .inl (cI, 28, .inl th_now))] := by
  refine nx_int (cc := cX8_count) (maxL := 2) (by decide) rfl (Nat.le_of_ble_eq_true rfl) ?_
  intro p e s m args below meth c Q A S0 hK hN hA ret0 hP hD hS ls hl
  have S0 : CallFix p m c cX8_count 2 s args wsX8_count RX8 := S0
  have hx := S0.1
  have hb := S0.2.1
  have hown := S0.2.2.2.1
  have hts := S0.2.2.2.2
  have hf_7 := hts (.fieldLink RX8 7 "SnailsYearModel" "told" "[I") (by decide +kernel)
  have hin_X8 : ∀ w ∈ wsX80, w ∈ wsX8_count := by decide +kernel
  have hf_13 := hts (.fieldLink RX8 13 "SnailsYearModel" "now" "[I") (by decide +kernel)
  have hf_106 := hts (.fieldLink RX8 106 "SnailsYearModel" "seens" "I") (by decide +kernel)
  have hf_109 := hts (.fieldLink RX8 109 "SnailsYearModel" "undos" "I") (by decide +kernel)
  have hf_112 := hts (.fieldLink RX8 112 "SnailsYearModel" "keeps" "I") (by decide +kernel)
  have hf_62 := hts (.fieldLink RX8 62 "SnailsYearModel" "letters" "I") (by decide +kernel)
  have hl : lv_has ls 2 [(0, .ref q_th), (1, .int p1)] := hl
  have hret : ∀ (r0 : Int32) (H : Heap) (locs : List Loc) (ls : Array Slot) (pc : Nat), some r0 = some o → decode cX8_count pc = .ok (.ireturn, 1) → va_P (dC, dI) vwCl [(q_th, .inr (8, [.ref q_th_told, .ref q_th_now, x_th_text, .int th_letters, .int th_at, x_th_read, .int th_isMore, .int th_told0, x_th_from, x_th_to, x_th_undone, .int th_undos, x_th_aside, .int th_beganOn, .int th_beganIn, .int th_first, .int th_second, x_th_seenCell, x_th_seenNight, .int th_seens, .int th_above, .int th_below, x_th_kept, .int th_keeps])), (q_th_told, .inl (cI, 54, .inl th_told)), (q_th_now, .inl (cI, 28, .inl th_now))] H → va_D A [(q_th, .inr (8, [.ref q_th_told, .ref q_th_now, x_th_text, .int th_letters, .int th_at, x_th_read, .int th_isMore, .int th_told0, x_th_from, x_th_to, x_th_undone, .int th_undos, x_th_aside, .int th_beganOn, .int th_beganIn, .int th_first, .int th_second, x_th_seenCell, x_th_seenNight, .int th_seens, .int th_above, .int th_below, x_th_kept, .int th_keeps])), (q_th_told, .inl (cI, 54, .inl th_told)), (q_th_now, .inl (cI, 28, .inl th_now))] → va_S A s.heap H locs → W p l e ({ frames := 2, cells := 0, slots := 0, locals := 44 } : Room) s m args below meth c H locs 0 0 Q (F0 m pc ls [.int r0]) := by
    intro r0 H locs ls pc ho hd hP hD hS
    cases ho
    exact ret0 H locs ls pc hd hP hD hS
  rw [fX8_count_e] at hF
  refine lv_iload_n hx hb dX8_count_0 rfl (lv_at hl 1 rfl) ?_
  by_cases hs_0 : p1 = (nI 0)
  · have hF := ng_t hs_0 hF
    refine lv_tableIn (off := 67) (tgt := 68) hx hb dX8_count_1 (by rw [hs_0]; decide) (by rw [hs_0]; decide) (by rw [hs_0]; decide +kernel) (by decide) ?_
    refine lv_aload_n hx hb dX8_count_68 rfl (lv_at hl 0 rfl) ?_
    obtain ⟨o69, hF1, hF⟩ := ng_b hF
    refine nx_callVi (As := []) (rest := []) (W1 := [(q_th, .inr (8, [.ref q_th_told, .ref q_th_now, x_th_text, .int th_letters, .int th_at, x_th_read, .int th_isMore, .int th_told0, x_th_from, x_th_to, x_th_undone, .int th_undos, x_th_aside, .int th_beganOn, .int th_beganIn, .int th_first, .int th_second, x_th_seenCell, x_th_seenNight, .int th_seens, .int th_above, .int th_below, x_th_kept, .int th_keeps])), (q_th_told, .inl (cI, 54, .inl th_told)), (q_th_now, .inl (cI, 28, .inl th_now))]) (wr := [(q_th_now, .inl (cI, 28, .inl th_now))]) S0 hK hN hA hP hD hS (kX8_cells l dC dI cI q_th q_th_told _ (.ref q_th_now) (x_th_text) th_letters th_at (x_th_read) th_isMore th_told0 (x_th_from) (x_th_to) (x_th_undone) th_undos (x_th_aside) th_beganOn th_beganIn th_first th_second (x_th_seenCell) (x_th_seenNight) th_seens th_above th_below (x_th_kept) th_keeps th_told N o69 hF1) (cwV 0 hts gX8_count_X8_cells rfl rfl rfl ⟨rfl, hdX8_cells⟩ ⟨Nat.le_of_ble_eq_true rfl, Nat.le_of_ble_eq_true rfl⟩) [0, 1] [2] [1, 2, 0] rfl rfl rfl rfl 0 8 rfl rfl rfl rfl hl.1 rfl (Nat.le_of_ble_eq_true rfl) dX8_count_69 (fun H locs hP hD hS => ?_)
    exact hret o69 _ _ _ _ hF dX8_count_72 hP hD hS
  have hF := ng_f hs_0 hF
  by_cases hs_1 : p1 = (nI 1)
  · have hF := ng_t hs_1 hF
    refine lv_tableIn (off := 72) (tgt := 73) hx hb dX8_count_1 (by rw [hs_1]; decide) (by rw [hs_1]; decide) (by rw [hs_1]; decide +kernel) (by decide) ?_
    refine lv_aload_n hx hb dX8_count_73 rfl (lv_at hl 0 rfl) ?_
    refine nx_get S0 hK hP 0 0 hin_X8 hf_7 rfl rfl (by decide) rfl rfl dX8_count_74 ?_
    refine lv_iconst (v := (nI 1)) hx hb dX8_count_77 (by decide) ?_
    refine nx_iald S0 hK hP 1 (v := th_told 1) rfl (by decide) rfl dX8_count_78 ?_
    exact hret (th_told 1) _ _ _ _ hF dX8_count_79 hP hD hS
  have hF := ng_f hs_1 hF
  by_cases hs_2 : p1 = (nI 2)
  · have hF := ng_t hs_2 hF
    refine lv_tableIn (off := 79) (tgt := 80) hx hb dX8_count_1 (by rw [hs_2]; decide) (by rw [hs_2]; decide) (by rw [hs_2]; decide +kernel) (by decide) ?_
    refine lv_aload_n hx hb dX8_count_80 rfl (lv_at hl 0 rfl) ?_
    refine nx_get S0 hK hP 0 1 hin_X8 hf_13 rfl rfl (by decide) rfl rfl dX8_count_81 ?_
    refine lv_iconst (v := (nI 0)) hx hb dX8_count_84 (by decide) ?_
    refine nx_iald S0 hK hP 2 (v := th_now 0) rfl (by decide) rfl dX8_count_85 ?_
    exact hret (th_now 0) _ _ _ _ hF dX8_count_86 hP hD hS
  have hF := ng_f hs_2 hF
  by_cases hs_3 : p1 = (nI 3)
  · have hF := ng_t hs_3 hF
    refine lv_tableIn (off := 86) (tgt := 87) hx hb dX8_count_1 (by rw [hs_3]; decide) (by rw [hs_3]; decide) (by rw [hs_3]; decide +kernel) (by decide) ?_
    refine lv_aload_n hx hb dX8_count_87 rfl (lv_at hl 0 rfl) ?_
    refine nx_get S0 hK hP 0 1 hin_X8 hf_13 rfl rfl (by decide) rfl rfl dX8_count_88 ?_
    refine lv_iconst (v := (nI 1)) hx hb dX8_count_91 (by decide) ?_
    refine nx_iald S0 hK hP 2 (v := th_now 1) rfl (by decide) rfl dX8_count_92 ?_
    exact hret (th_now 1) _ _ _ _ hF dX8_count_93 hP hD hS
  have hF := ng_f hs_3 hF
  by_cases hs_4 : p1 = (nI 4)
  · have hF := ng_t hs_4 hF
    refine lv_tableIn (off := 93) (tgt := 94) hx hb dX8_count_1 (by rw [hs_4]; decide) (by rw [hs_4]; decide) (by rw [hs_4]; decide +kernel) (by decide) ?_
    refine lv_aload_n hx hb dX8_count_94 rfl (lv_at hl 0 rfl) ?_
    refine lv_iconst (v := (nI 3)) hx hb dX8_count_95 (by decide) ?_
    obtain ⟨o96, hF1, hF⟩ := ng_b hF
    refine nx_callVi (As := [.int (nI 3)]) (rest := []) (W1 := [(q_th, .inr (8, [.ref q_th_told, .ref q_th_now, x_th_text, .int th_letters, .int th_at, x_th_read, .int th_isMore, .int th_told0, x_th_from, x_th_to, x_th_undone, .int th_undos, x_th_aside, .int th_beganOn, .int th_beganIn, .int th_first, .int th_second, x_th_seenCell, x_th_seenNight, .int th_seens, .int th_above, .int th_below, x_th_kept, .int th_keeps])), (q_th_told, .inl (cI, 54, .inl th_told)), (q_th_now, .inl (cI, 28, .inl th_now))]) (wr := []) S0 hK hN hA hP hD hS (kX8_many l dC dI cI q_th q_th_told q_th_now _ (x_th_text) th_letters th_at (x_th_read) th_isMore th_told0 (x_th_from) (x_th_to) (x_th_undone) th_undos (x_th_aside) th_beganOn th_beganIn th_first th_second (x_th_seenCell) (x_th_seenNight) th_seens th_above th_below (x_th_kept) th_keeps th_told th_now (nI 3) N o96 hF1) (cwV 1 hts gX8_count_X8_many rfl rfl rfl ⟨rfl, hdX8_many⟩ ⟨Nat.le_of_ble_eq_true rfl, Nat.le_of_ble_eq_true rfl⟩) [0, 1, 2] [] [0, 1, 2] rfl rfl rfl rfl 0 8 rfl rfl rfl rfl hl.1 rfl (Nat.le_of_ble_eq_true rfl) dX8_count_96 (fun H locs hP hD hS => ?_)
    exact hret o96 _ _ _ _ hF dX8_count_99 hP hD hS
  have hF := ng_f hs_4 hF
  by_cases hs_5 : p1 = (nI 5)
  · have hF := ng_t hs_5 hF
    refine lv_tableIn (off := 99) (tgt := 100) hx hb dX8_count_1 (by rw [hs_5]; decide) (by rw [hs_5]; decide) (by rw [hs_5]; decide +kernel) (by decide) ?_
    refine lv_aload_n hx hb dX8_count_100 rfl (lv_at hl 0 rfl) ?_
    refine lv_iconst (v := (nI 1)) hx hb dX8_count_101 (by decide) ?_
    obtain ⟨o102, hF1, hF⟩ := ng_b hF
    refine nx_callVi (As := [.int (nI 1)]) (rest := []) (W1 := [(q_th, .inr (8, [.ref q_th_told, .ref q_th_now, x_th_text, .int th_letters, .int th_at, x_th_read, .int th_isMore, .int th_told0, x_th_from, x_th_to, x_th_undone, .int th_undos, x_th_aside, .int th_beganOn, .int th_beganIn, .int th_first, .int th_second, x_th_seenCell, x_th_seenNight, .int th_seens, .int th_above, .int th_below, x_th_kept, .int th_keeps])), (q_th_told, .inl (cI, 54, .inl th_told)), (q_th_now, .inl (cI, 28, .inl th_now))]) (wr := []) S0 hK hN hA hP hD hS (kX8_many l dC dI cI q_th q_th_told q_th_now _ (x_th_text) th_letters th_at (x_th_read) th_isMore th_told0 (x_th_from) (x_th_to) (x_th_undone) th_undos (x_th_aside) th_beganOn th_beganIn th_first th_second (x_th_seenCell) (x_th_seenNight) th_seens th_above th_below (x_th_kept) th_keeps th_told th_now (nI 1) N o102 hF1) (cwV 1 hts gX8_count_X8_many rfl rfl rfl ⟨rfl, hdX8_many⟩ ⟨Nat.le_of_ble_eq_true rfl, Nat.le_of_ble_eq_true rfl⟩) [0, 1, 2] [] [0, 1, 2] rfl rfl rfl rfl 0 8 rfl rfl rfl rfl hl.1 rfl (Nat.le_of_ble_eq_true rfl) dX8_count_102 (fun H locs hP hD hS => ?_)
    exact hret o102 _ _ _ _ hF dX8_count_105 hP hD hS
  have hF := ng_f hs_5 hF
  by_cases hs_6 : p1 = (nI 6)
  · have hF := ng_t hs_6 hF
    refine lv_tableIn (off := 105) (tgt := 106) hx hb dX8_count_1 (by rw [hs_6]; decide) (by rw [hs_6]; decide) (by rw [hs_6]; decide +kernel) (by decide) ?_
    refine lv_aload_n hx hb dX8_count_106 rfl (lv_at hl 0 rfl) ?_
    refine lv_iconst (v := (nI 2)) hx hb dX8_count_107 (by decide) ?_
    obtain ⟨o108, hF1, hF⟩ := ng_b hF
    refine nx_callVi (As := [.int (nI 2)]) (rest := []) (W1 := [(q_th, .inr (8, [.ref q_th_told, .ref q_th_now, x_th_text, .int th_letters, .int th_at, x_th_read, .int th_isMore, .int th_told0, x_th_from, x_th_to, x_th_undone, .int th_undos, x_th_aside, .int th_beganOn, .int th_beganIn, .int th_first, .int th_second, x_th_seenCell, x_th_seenNight, .int th_seens, .int th_above, .int th_below, x_th_kept, .int th_keeps])), (q_th_told, .inl (cI, 54, .inl th_told)), (q_th_now, .inl (cI, 28, .inl th_now))]) (wr := []) S0 hK hN hA hP hD hS (kX8_many l dC dI cI q_th q_th_told q_th_now _ (x_th_text) th_letters th_at (x_th_read) th_isMore th_told0 (x_th_from) (x_th_to) (x_th_undone) th_undos (x_th_aside) th_beganOn th_beganIn th_first th_second (x_th_seenCell) (x_th_seenNight) th_seens th_above th_below (x_th_kept) th_keeps th_told th_now (nI 2) N o108 hF1) (cwV 1 hts gX8_count_X8_many rfl rfl rfl ⟨rfl, hdX8_many⟩ ⟨Nat.le_of_ble_eq_true rfl, Nat.le_of_ble_eq_true rfl⟩) [0, 1, 2] [] [0, 1, 2] rfl rfl rfl rfl 0 8 rfl rfl rfl rfl hl.1 rfl (Nat.le_of_ble_eq_true rfl) dX8_count_108 (fun H locs hP hD hS => ?_)
    exact hret o108 _ _ _ _ hF dX8_count_111 hP hD hS
  have hF := ng_f hs_6 hF
  by_cases hs_7 : p1 = (nI 7)
  · have hF := ng_t hs_7 hF
    refine lv_tableIn (off := 111) (tgt := 112) hx hb dX8_count_1 (by rw [hs_7]; decide) (by rw [hs_7]; decide) (by rw [hs_7]; decide +kernel) (by decide) ?_
    refine lv_aload_n hx hb dX8_count_112 rfl (lv_at hl 0 rfl) ?_
    refine nx_get S0 hK hP 0 0 hin_X8 hf_7 rfl rfl (by decide) rfl rfl dX8_count_113 ?_
    refine lv_bipush (v := (nI 13)) hx hb dX8_count_116 (by decide) ?_
    refine nx_iald S0 hK hP 1 (v := th_told 13) rfl (by decide) rfl dX8_count_118 ?_
    exact hret (th_told 13) _ _ _ _ hF dX8_count_119 hP hD hS
  have hF := ng_f hs_7 hF
  by_cases hs_8 : p1 = (nI 8)
  · have hF := ng_t hs_8 hF
    refine lv_tableIn (off := 119) (tgt := 120) hx hb dX8_count_1 (by rw [hs_8]; decide) (by rw [hs_8]; decide) (by rw [hs_8]; decide +kernel) (by decide) ?_
    refine lv_aload_n hx hb dX8_count_120 rfl (lv_at hl 0 rfl) ?_
    refine nx_get S0 hK hP 0 0 hin_X8 hf_7 rfl rfl (by decide) rfl rfl dX8_count_121 ?_
    refine lv_bipush (v := (nI 24)) hx hb dX8_count_124 (by decide) ?_
    refine nx_iald S0 hK hP 1 (v := th_told 24) rfl (by decide) rfl dX8_count_126 ?_
    exact hret (th_told 24) _ _ _ _ hF dX8_count_127 hP hD hS
  have hF := ng_f hs_8 hF
  by_cases hs_9 : p1 = (nI 9)
  · have hF := ng_t hs_9 hF
    refine lv_tableIn (off := 127) (tgt := 128) hx hb dX8_count_1 (by rw [hs_9]; decide) (by rw [hs_9]; decide) (by rw [hs_9]; decide +kernel) (by decide) ?_
    refine lv_aload_n hx hb dX8_count_128 rfl (lv_at hl 0 rfl) ?_
    refine nx_get S0 hK hP 0 19 hin_X8 hf_106 rfl rfl (by decide) rfl rfl dX8_count_129 ?_
    exact hret th_seens _ _ _ _ hF dX8_count_132 hP hD hS
  have hF := ng_f hs_9 hF
  by_cases hs_10 : p1 = (nI 10)
  · have hF := ng_t hs_10 hF
    refine lv_tableIn (off := 132) (tgt := 133) hx hb dX8_count_1 (by rw [hs_10]; decide) (by rw [hs_10]; decide) (by rw [hs_10]; decide +kernel) (by decide) ?_
    refine lv_aload_n hx hb dX8_count_133 rfl (lv_at hl 0 rfl) ?_
    refine nx_get S0 hK hP 0 11 hin_X8 hf_109 rfl rfl (by decide) rfl rfl dX8_count_134 ?_
    exact hret th_undos _ _ _ _ hF dX8_count_137 hP hD hS
  have hF := ng_f hs_10 hF
  by_cases hs_11 : p1 = (nI 11)
  · have hF := ng_t hs_11 hF
    refine lv_tableIn (off := 137) (tgt := 138) hx hb dX8_count_1 (by rw [hs_11]; decide) (by rw [hs_11]; decide) (by rw [hs_11]; decide +kernel) (by decide) ?_
    refine lv_aload_n hx hb dX8_count_138 rfl (lv_at hl 0 rfl) ?_
    refine nx_get S0 hK hP 0 23 hin_X8 hf_112 rfl rfl (by decide) rfl rfl dX8_count_139 ?_
    exact hret th_keeps _ _ _ _ hF dX8_count_142 hP hD hS
  have hF := ng_f hs_11 hF
  by_cases hs_12 : p1 = (nI 12)
  · have hF := ng_t hs_12 hF
    refine lv_tableIn (off := 142) (tgt := 143) hx hb dX8_count_1 (by rw [hs_12]; decide) (by rw [hs_12]; decide) (by rw [hs_12]; decide +kernel) (by decide) ?_
    refine lv_aload_n hx hb dX8_count_143 rfl (lv_at hl 0 rfl) ?_
    refine nx_get S0 hK hP 0 3 hin_X8 hf_62 rfl rfl (by decide) rfl rfl dX8_count_144 ?_
    exact hret th_letters _ _ _ _ hF dX8_count_147 hP hD hS
  have hF := ng_f hs_12 hF
  have hs_0z : ¬ p1.toInt = 0 := fun h9 => hs_0 (Int32.toInt_inj.mp (h9.trans (by decide)))
  have hs_1z : ¬ p1.toInt = 1 := fun h9 => hs_1 (Int32.toInt_inj.mp (h9.trans (by decide)))
  have hs_2z : ¬ p1.toInt = 2 := fun h9 => hs_2 (Int32.toInt_inj.mp (h9.trans (by decide)))
  have hs_3z : ¬ p1.toInt = 3 := fun h9 => hs_3 (Int32.toInt_inj.mp (h9.trans (by decide)))
  have hs_4z : ¬ p1.toInt = 4 := fun h9 => hs_4 (Int32.toInt_inj.mp (h9.trans (by decide)))
  have hs_5z : ¬ p1.toInt = 5 := fun h9 => hs_5 (Int32.toInt_inj.mp (h9.trans (by decide)))
  have hs_6z : ¬ p1.toInt = 6 := fun h9 => hs_6 (Int32.toInt_inj.mp (h9.trans (by decide)))
  have hs_7z : ¬ p1.toInt = 7 := fun h9 => hs_7 (Int32.toInt_inj.mp (h9.trans (by decide)))
  have hs_8z : ¬ p1.toInt = 8 := fun h9 => hs_8 (Int32.toInt_inj.mp (h9.trans (by decide)))
  have hs_9z : ¬ p1.toInt = 9 := fun h9 => hs_9 (Int32.toInt_inj.mp (h9.trans (by decide)))
  have hs_10z : ¬ p1.toInt = 10 := fun h9 => hs_10 (Int32.toInt_inj.mp (h9.trans (by decide)))
  have hs_11z : ¬ p1.toInt = 11 := fun h9 => hs_11 (Int32.toInt_inj.mp (h9.trans (by decide)))
  have hs_12z : ¬ p1.toInt = 12 := fun h9 => hs_12 (Int32.toInt_inj.mp (h9.trans (by decide)))
  refine lv_tableOut (tgt := 148) hx hb dX8_count_1 (by omega) (by decide) ?_
  refine lv_iconst (v := (-1 : Int32)) hx hb dX8_count_148 (by decide) ?_
  exact hret (-1 : Int32) _ _ _ _ hF dX8_count_149 hP hD hS
