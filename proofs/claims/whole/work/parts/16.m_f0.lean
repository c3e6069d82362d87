theorem hdX8_in : yX8_in.cls ≠ "java/lang/invoke/MethodHandle" ∧ yX8_in.cls ≠ "java/lang/invoke/VarHandle" ∧ (parseMethodDescriptor yX8_in.desc).map (fun d => d.parameters.length) = some 3 := by decide +kernel
set_option maxHeartbeats 40000000 in
set_option maxRecDepth 100000 in
theorem kX8_in (l : Launch) (dC : Nat → ClassId) (dI : Nat → Nat → Nat) (cI : ClassId) (sz : Nat) (p0 : Int64) (p2 : Int64) (p4 : Int64) (N : Nat) (o : Int32) (hF : fX8_in N p0 p2 p4 = some o) : nx_I l yX8_in wsX8_in ({ frames := 0, cells := 0, slots := 0, locals := 0 } : Room) (dC, dI) cI [.long p0, .long p2, .long p4] [] sz o [] := by
  refine nx_zint (cc := cX8_in) (maxL := 6) (by decide) rfl (Nat.le_of_ble_eq_true rfl) ?_
  intro p e s m args below meth c Q A S0 hK hN hA ret0 hP hD hS ls hl
  have S0 : CallFix p m c cX8_in 6 s args wsX8_in RX8 := S0
  have hx := S0.1
  have hb := S0.2.1
  have hown := S0.2.2.2.1
  have hts := S0.2.2.2.2
  have hl : lv_has ls 6 [(0, .long p0), (2, .long p2), (4, .long p4)] := hl
  have hret : ∀ (r0 : Int32) (H : Heap) (locs : List Loc) (ls : Array Slot) (pc : Nat), (r0 = 0 ∨ r0 = 1) → some r0 = some o → decode cX8_in pc = .ok (.ireturn, 1) → va_P (dC, dI) vwCl [] H → va_D A [] → va_S A s.heap H locs → W p l e ({ frames := 0, cells := 0, slots := 0, locals := 0 } : Room) s m args below meth c H locs 0 0 Q (F0 m pc ls [.int r0]) := by
    intro r0 H locs ls pc hz ho hd hP hD hS
    cases ho
    exact ret0 H locs ls pc hz hd hP hD hS
  rw [fX8_in_e] at hF
  refine lv_lload_n hx hb dX8_in_0 rfl (lv_at hl 0 rfl) ?_
  refine lv_lload_n hx hb dX8_in_1 rfl (lv_at hl 1 rfl) ?_
  refine W.lcmp hx hb dX8_in_2 ?_
  refine lv_if_lt (tgt := 17) hx hb dX8_in_3 (by decide) (fun hc => ?_) (fun hc => ?_)
  · have hF := ng_t hc hF
    refine lv_iconst (v := (nI 0)) hx hb dX8_in_17 (by decide) ?_
    exact hret (nI 0) _ _ _ _ (Or.inl rfl) hF dX8_in_18 hP hD hS
  · have hF := ng_f hc hF
    refine lv_lload_n hx hb dX8_in_6 rfl (lv_at hl 0 rfl) ?_
    refine lv_lload hx hb dX8_in_7 (lv_at hl 2 rfl) ?_
    refine W.lcmp hx hb dX8_in_9 ?_
    refine lv_if_gt (tgt := 17) hx hb dX8_in_10 (by decide) (fun hc => ?_) (fun hc => ?_)
    · have hF := ng_t hc hF
      refine lv_iconst (v := (nI 0)) hx hb dX8_in_17 (by decide) ?_
      exact hret (nI 0) _ _ _ _ (Or.inl rfl) hF dX8_in_18 hP hD hS
    · have hF := ng_f hc hF
      refine lv_iconst (v := (nI 1)) hx hb dX8_in_13 (by decide) ?_
      refine lv_goto (tgt := 18) hx hb dX8_in_14 (by decide) ?_
      exact hret (nI 1) _ _ _ _ (Or.inr rfl) hF dX8_in_18 hP hD hS
theorem hdX8_rents : yX8_rents.cls ≠ "java/lang/invoke/MethodHandle" ∧ yX8_rents.cls ≠ "java/lang/invoke/VarHandle" ∧ (parseMethodDescriptor yX8_rents.desc).map (fun d => d.parameters.length) = some 3 := by decide +kernel
set_option maxHeartbeats 40000000 in
set_option maxRecDepth 100000 in
theorem kX8_rents (l : Launch) (dC : Nat → ClassId) (dI : Nat → Nat → Nat) (cI : ClassId) (q_th : Nat) (q_th_told : Nat) (sz : Nat) (x_th_now : Value) (x_th_text : Value) (th_letters : Int32) (th_at : Int32) (x_th_read : Value) (th_isMore : Int32) (th_told0 : Int32) (x_th_from : Value) (x_th_to : Value) (x_th_undone : Value) (th_undos : Int32) (x_th_aside : Value) (th_beganOn : Int32) (th_beganIn : Int32) (th_first : Int32) (th_second : Int32) (x_th_seenCell : Value) (x_th_seenNight : Value) (th_seens : Int32) (th_above : Int32) (th_below : Int32) (x_th_kept : Value) (th_keeps : Int32) (th_told : Nat → Int32) (p1 : Int32) (p2 : Int32) (p3 : Int32) (N : Nat) (o : (Nat → Int32)) (hF : fX8_rents N p1 p2 p3 th_told = some o) : nx_V l yX8_rents wsX8_rents ({ frames := 0, cells := 0, slots := 0, locals := 0 } : Room) (dC, dI) cI [.ref q_th, .int p1, .int p2, .int p3] [(q_th, .inr (8, [.ref q_th_told, x_th_now, x_th_text, .int th_letters, .int th_at, x_th_read, .int th_isMore, .int th_told0, x_th_from, x_th_to, x_th_undone, .int th_undos, x_th_aside, .int th_beganOn, .int th_beganIn, .int th_first, .int th_second, x_th_seenCell, x_th_seenNight, .int th_seens, .int th_above, .int th_below, x_th_kept, .int th_keeps])), (q_th_told, .inl (cI, 54, .inl th_told))] sz [(q_th, .inr (8, [.ref q_th_told, x_th_now, x_th_text, .int th_letters, .int th_at, x_th_read, .int th_isMore, .int th_told0, x_th_from, x_th_to, x_th_undone, .int th_undos, x_th_aside, .int th_beganOn, .int th_beganIn, .int th_first, .int th_second, x_th_seenCell, x_th_seenNight, .int th_seens, .int th_above, .int th_below, x_th_kept, .int th_keeps])), (q_th_told, .inl (cI, 54, .inl o))] := by
  refine nx_void (cc := cX8_rents) (maxL := 4) (by decide) rfl (Nat.le_of_ble_eq_true rfl) ?_
  intro p e s m args below meth c Q A S0 hK hN hA ret0 hP hD hS ls hl
  have S0 : CallFix p m c cX8_rents 4 s args wsX8_rents RX8 := S0
  have hx := S0.1
  have hb := S0.2.1
  have hown := S0.2.2.2.1
  have hts := S0.2.2.2.2
  have hf_7 := hts (.fieldLink RX8 7 "SnailsYearModel" "told" "[I") (by decide +kernel)
  have hin_X8 : ∀ w ∈ wsX80, w ∈ wsX8_rents := by decide +kernel
  have hl : lv_has ls 4 [(0, .ref q_th), (1, .int p1), (2, .int p2), (3, .int p3)] := hl
  have hret : ∀ (y0 : Nat → Int32) (H : Heap) (locs : List Loc) (ls : Array Slot) (pc : Nat), some y0 = some o → decode cX8_rents pc = .ok (.return_, 1) → va_P (dC, dI) vwCl [(q_th, .inr (8, [.ref q_th_told, x_th_now, x_th_text, .int th_letters, .int th_at, x_th_read, .int th_isMore, .int th_told0, x_th_from, x_th_to, x_th_undone, .int th_undos, x_th_aside, .int th_beganOn, .int th_beganIn, .int th_first, .int th_second, x_th_seenCell, x_th_seenNight, .int th_seens, .int th_above, .int th_below, x_th_kept, .int th_keeps])), (q_th_told, .inl (cI, 54, .inl y0))] H → va_D A [(q_th, .inr (8, [.ref q_th_told, x_th_now, x_th_text, .int th_letters, .int th_at, x_th_read, .int th_isMore, .int th_told0, x_th_from, x_th_to, x_th_undone, .int th_undos, x_th_aside, .int th_beganOn, .int th_beganIn, .int th_first, .int th_second, x_th_seenCell, x_th_seenNight, .int th_seens, .int th_above, .int th_below, x_th_kept, .int th_keeps])), (q_th_told, .inl (cI, 54, .inl y0))] → va_S A s.heap H locs → W p l e ({ frames := 0, cells := 0, slots := 0, locals := 0 } : Room) s m args below meth c H locs 0 0 Q (F0 m pc ls []) := by
    intro y0 H locs ls pc ho hd hP hD hS
    cases ho
    exact ret0 H locs ls pc hd hP hD hS
  rw [fX8_rents_e] at hF
  refine lv_aload_n hx hb dX8_rents_0 rfl (lv_at hl 0 rfl) ?_
  refine nx_get S0 hK hP 0 0 hin_X8 hf_7 rfl rfl (by decide) rfl rfl dX8_rents_1 ?_
  refine lv_bipush (v := (nI 14)) hx hb dX8_rents_4 (by decide) ?_
  refine lv_iconst (v := (nI 2)) hx hb dX8_rents_6 (by decide) ?_
  refine lv_iload_n hx hb dX8_rents_7 rfl (lv_at hl 1 rfl) ?_
  refine lv_imul hx hb dX8_rents_8 ?_
  refine lv_iadd hx hb dX8_rents_9 ?_
  refine lv_iload_n hx hb dX8_rents_10 rfl (lv_at hl 2 rfl) ?_
  have hg := ng_p hF
  have hF := ng_x hF
  refine nx_iast S0 hK hP hD hS 1 rfl hg dX8_rents_11 (W1 := [(q_th, .inr (8, [.ref q_th_told, x_th_now, x_th_text, .int th_letters, .int th_at, x_th_read, .int th_isMore, .int th_told0, x_th_from, x_th_to, x_th_undone, .int th_undos, x_th_aside, .int th_beganOn, .int th_beganIn, .int th_first, .int th_second, x_th_seenCell, x_th_seenNight, .int th_seens, .int th_above, .int th_below, x_th_kept, .int th_keeps])), (q_th_told, .inl (cI, 54, .inl (upd th_told (((nI 14) + ((nI 2) * p1)).toNatClampNeg) p2)))]) rfl (fun H locs hP hD hS => ?_)
  refine lv_aload_n hx hb dX8_rents_12 rfl (lv_at hl 0 rfl) ?_
  refine nx_get S0 hK hP 0 0 hin_X8 hf_7 rfl rfl (by decide) rfl rfl dX8_rents_13 ?_
  refine lv_bipush (v := (nI 15)) hx hb dX8_rents_16 (by decide) ?_
  refine lv_iconst (v := (nI 2)) hx hb dX8_rents_18 (by decide) ?_
  refine lv_iload_n hx hb dX8_rents_19 rfl (lv_at hl 1 rfl) ?_
  refine lv_imul hx hb dX8_rents_20 ?_
  refine lv_iadd hx hb dX8_rents_21 ?_
  refine lv_iload_n hx hb dX8_rents_22 rfl (lv_at hl 3 rfl) ?_
  have hg := ng_p hF
  have hF := ng_x hF
  refine nx_iast S0 hK hP hD hS 1 rfl hg dX8_rents_23 (W1 := [(q_th, .inr (8, [.ref q_th_told, x_th_now, x_th_text, .int th_letters, .int th_at, x_th_read, .int th_isMore, .int th_told0, x_th_from, x_th_to, x_th_undone, .int th_undos, x_th_aside, .int th_beganOn, .int th_beganIn, .int th_first, .int th_second, x_th_seenCell, x_th_seenNight, .int th_seens, .int th_above, .int th_below, x_th_kept, .int th_keeps])), (q_th_told, .inl (cI, 54, .inl (upd (upd th_told (((nI 14) + ((nI 2) * p1)).toNatClampNeg) p2) (((nI 15) + ((nI 2) * p1)).toNatClampNeg) p3)))]) rfl (fun H locs hP hD hS => ?_)
  exact hret (upd (upd th_told (((nI 14) + ((nI 2) * p1)).toNatClampNeg) p2) (((nI 15) + ((nI 2) * p1)).toNatClampNeg) p3) _ _ _ _ hF dX8_rents_24 hP hD hS
theorem hdX8_begins0 : yX8_begins0.cls ≠ "java/lang/invoke/MethodHandle" ∧ yX8_begins0.cls ≠ "java/lang/invoke/VarHandle" ∧ (parseMethodDescriptor yX8_begins0.desc).map (fun d => d.parameters.length) = some 0 := by decide +kernel
set_option maxHeartbeats 40000000 in
set_option maxRecDepth 100000 in
theorem kX8_begins0 (l : Launch) (dC : Nat → ClassId) (dI : Nat → Nat → Nat) (cI : ClassId) (q_th : Nat) (q_th_now : Nat) (q_th_told : Nat) (sz : Nat) (x_th_text : Value) (th_letters : Int32) (th_at : Int32) (x_th_read : Value) (th_isMore : Int32) (th_told0 : Int32) (x_th_from : Value) (x_th_to : Value) (x_th_undone : Value) (th_undos : Int32) (x_th_aside : Value) (th_beganOn : Int32) (th_beganIn : Int32) (th_first : Int32) (th_second : Int32) (x_th_seenCell : Value) (x_th_seenNight : Value) (th_seens : Int32) (th_above : Int32) (th_below : Int32) (x_th_kept : Value) (th_keeps : Int32) (th_now : Nat → Int32) (th_told : Nat → Int32) (N : Nat) (o : (Nat → Int32)) (hF : fX8_begins0 N th_now th_told = some o) : nx_V l yX8_begins0 wsX8_begins0 ({ frames := 0, cells := 0, slots := 0, locals := 0 } : Room) (dC, dI) cI [.ref q_th] [(q_th, .inr (8, [.ref q_th_told, .ref q_th_now, x_th_text, .int th_letters, .int th_at, x_th_read, .int th_isMore, .int th_told0, x_th_from, x_th_to, x_th_undone, .int th_undos, x_th_aside, .int th_beganOn, .int th_beganIn, .int th_first, .int th_second, x_th_seenCell, x_th_seenNight, .int th_seens, .int th_above, .int th_below, x_th_kept, .int th_keeps])), (q_th_now, .inl (cI, 28, .inl th_now)), (q_th_told, .inl (cI, 54, .inl th_told))] sz [(q_th, .inr (8, [.ref q_th_told, .ref q_th_now, x_th_text, .int th_letters, .int th_at, x_th_read, .int th_isMore, .int th_told0, x_th_from, x_th_to, x_th_undone, .int th_undos, x_th_aside, .int th_beganOn, .int th_beganIn, .int th_first, .int th_second, x_th_seenCell, x_th_seenNight, .int th_seens, .int th_above, .int th_below, x_th_kept, .int th_keeps])), (q_th_now, .inl (cI, 28, .inl o)), (q_th_told, .inl (cI, 54, .inl th_told))] := by
  refine nx_void (cc := cX8_begins0) (maxL := 2) (by decide) rfl (Nat.le_of_ble_eq_true rfl) ?_
  intro p e s m args below meth c Q A S0 hK hN hA ret0 hP hD hS ls hl
  have S0 : CallFix p m c cX8_begins0 2 s args wsX8_begins0 RX8 := S0
  have hx := S0.1
  have hb := S0.2.1
  have hown := S0.2.2.2.1
  have hts := S0.2.2.2.2
  have hf_13 := hts (.fieldLink RX8 13 "SnailsYearModel" "now" "[I") (by decide +kernel)
  have hin_X8 : ∀ w ∈ wsX80, w ∈ wsX8_begins0 := by decide +kernel
  have hf_7 := hts (.fieldLink RX8 7 "SnailsYearModel" "told" "[I") (by decide +kernel)
  have hl : lv_has ls 2 [(0, .ref q_th)] := hl
  have hret : ∀ (y0 : Nat → Int32) (H : Heap) (locs : List Loc) (ls : Array Slot) (pc : Nat), some y0 = some o → decode cX8_begins0 pc = .ok (.return_, 1) → va_P (dC, dI) vwCl [(q_th, .inr (8, [.ref q_th_told, .ref q_th_now, x_th_text, .int th_letters, .int th_at, x_th_read, .int th_isMore, .int th_told0, x_th_from, x_th_to, x_th_undone, .int th_undos, x_th_aside, .int th_beganOn, .int th_beganIn, .int th_first, .int th_second, x_th_seenCell, x_th_seenNight, .int th_seens, .int th_above, .int th_below, x_th_kept, .int th_keeps])), (q_th_now, .inl (cI, 28, .inl y0)), (q_th_told, .inl (cI, 54, .inl th_told))] H → va_D A [(q_th, .inr (8, [.ref q_th_told, .ref q_th_now, x_th_text, .int th_letters, .int th_at, x_th_read, .int th_isMore, .int th_told0, x_th_from, x_th_to, x_th_undone, .int th_undos, x_th_aside, .int th_beganOn, .int th_beganIn, .int th_first, .int th_second, x_th_seenCell, x_th_seenNight, .int th_seens, .int th_above, .int th_below, x_th_kept, .int th_keeps])), (q_th_now, .inl (cI, 28, .inl y0)), (q_th_told, .inl (cI, 54, .inl th_told))] → va_S A s.heap H locs → W p l e ({ frames := 0, cells := 0, slots := 0, locals := 0 } : Room) s m args below meth c H locs 0 0 Q (F0 m pc ls []) := by
    intro y0 H locs ls pc ho hd hP hD hS
    cases ho
    exact ret0 H locs ls pc hd hP hD hS
  rw [fX8_begins0_e] at hF
  refine lv_aload_n hx hb dX8_begins0_0 rfl (lv_at hl 0 rfl) ?_
  refine nx_get S0 hK hP 0 1 hin_X8 hf_13 rfl rfl (by decide) rfl rfl dX8_begins0_1 ?_
  refine lv_iconst (v := (nI 0)) hx hb dX8_begins0_4 (by decide) ?_
  refine lv_iconst (v := (nI 0)) hx hb dX8_begins0_5 (by decide) ?_
  refine nx_iast S0 hK hP hD hS 1 rfl (by decide) dX8_begins0_6 (W1 := [(q_th, .inr (8, [.ref q_th_told, .ref q_th_now, x_th_text, .int th_letters, .int th_at, x_th_read, .int th_isMore, .int th_told0, x_th_from, x_th_to, x_th_undone, .int th_undos, x_th_aside, .int th_beganOn, .int th_beganIn, .int th_first, .int th_second, x_th_seenCell, x_th_seenNight, .int th_seens, .int th_above, .int th_below, x_th_kept, .int th_keeps])), (q_th_now, .inl (cI, 28, .inl (upd th_now 0 (nI 0)))), (q_th_told, .inl (cI, 54, .inl th_told))]) rfl (fun H locs hP hD hS => ?_)
  refine lv_aload_n hx hb dX8_begins0_7 rfl (lv_at hl 0 rfl) ?_
  refine nx_get S0 hK hP 0 1 hin_X8 hf_13 rfl rfl (by decide) rfl rfl dX8_begins0_8 ?_
  refine lv_iconst (v := (nI 1)) hx hb dX8_begins0_11 (by decide) ?_
  refine lv_aload_n hx hb dX8_begins0_12 rfl (lv_at hl 0 rfl) ?_
  refine nx_get S0 hK hP 0 0 hin_X8 hf_7 rfl rfl (by decide) rfl rfl dX8_begins0_13 ?_
  refine lv_iconst (v := (nI 2)) hx hb dX8_begins0_16 (by decide) ?_
  refine nx_iald S0 hK hP 2 (v := th_told 2) rfl (by decide) rfl dX8_begins0_17 ?_
  refine nx_iast S0 hK hP hD hS 1 rfl (by decide) dX8_begins0_18 (W1 := [(q_th, .inr (8, [.ref q_th_told, .ref q_th_now, x_th_text, .int th_letters, .int th_at, x_th_read, .int th_isMore, .int th_told0, x_th_from, x_th_to, x_th_undone, .int th_undos, x_th_aside, .int th_beganOn, .int th_beganIn, .int th_first, .int th_second, x_th_seenCell, x_th_seenNight, .int th_seens, .int th_above, .int th_below, x_th_kept, .int th_keeps])), (q_th_now, .inl (cI, 28, .inl (upd (upd th_now 0 (nI 0)) 1 (th_told 2)))), (q_th_told, .inl (cI, 54, .inl th_told))]) rfl (fun H locs hP hD hS => ?_)
  refine lv_aload_n hx hb dX8_begins0_19 rfl (lv_at hl 0 rfl) ?_
  refine nx_get S0 hK hP 0 1 hin_X8 hf_13 rfl rfl (by decide) rfl rfl dX8_begins0_20 ?_
  refine lv_iconst (v := (nI 2)) hx hb dX8_begins0_23 (by decide) ?_
  refine lv_iconst (v := (-1 : Int32)) hx hb dX8_begins0_24 (by decide) ?_
  refine nx_iast S0 hK hP hD hS 1 rfl (by decide) dX8_begins0_25 (W1 := [(q_th, .inr (8, [.ref q_th_told, .ref q_th_now, x_th_text, .int th_letters, .int th_at, x_th_read, .int th_isMore, .int th_told0, x_th_from, x_th_to, x_th_undone, .int th_undos, x_th_aside, .int th_beganOn, .int th_beganIn, .int th_first, .int th_second, x_th_seenCell, x_th_seenNight, .int th_seens, .int th_above, .int th_below, x_th_kept, .int th_keeps])), (q_th_now, .inl (cI, 28, .inl (upd (upd (upd th_now 0 (nI 0)) 1 (th_told 2)) 2 (-1 : Int32)))), (q_th_told, .inl (cI, 54, .inl th_told))]) rfl (fun H locs hP hD hS => ?_)
  refine lv_iconst (v := (nI 0)) hx hb dX8_begins0_26 (by decide) ?_
  have B_28 : ∀ (n_28 : Nat) (v1_28 : Int32) (th_now_28 : Nat → Int32), fX8_begins0_28 th_told n_28 v1_28 th_now_28 = some o → ∀ (H : Heap) (locs : List Loc) (ls : Array Slot), va_P (dC, dI) vwCl [(q_th, .inr (8, [.ref q_th_told, .ref q_th_now, x_th_text, .int th_letters, .int th_at, x_th_read, .int th_isMore, .int th_told0, x_th_from, x_th_to, x_th_undone, .int th_undos, x_th_aside, .int th_beganOn, .int th_beganIn, .int th_first, .int th_second, x_th_seenCell, x_th_seenNight, .int th_seens, .int th_above, .int th_below, x_th_kept, .int th_keeps])), (q_th_now, .inl (cI, 28, .inl th_now_28)), (q_th_told, .inl (cI, 54, .inl th_told))] H → va_D A [(q_th, .inr (8, [.ref q_th_told, .ref q_th_now, x_th_text, .int th_letters, .int th_at, x_th_read, .int th_isMore, .int th_told0, x_th_from, x_th_to, x_th_undone, .int th_undos, x_th_aside, .int th_beganOn, .int th_beganIn, .int th_first, .int th_second, x_th_seenCell, x_th_seenNight, .int th_seens, .int th_above, .int th_below, x_th_kept, .int th_keeps])), (q_th_now, .inl (cI, 28, .inl th_now_28)), (q_th_told, .inl (cI, 54, .inl th_told))] → va_S A s.heap H locs → lv_has ls 2 [(0, .ref q_th), (1, .int v1_28)] → W p l e ({ frames := 0, cells := 0, slots := 0, locals := 0 } : Room) s m args below meth c H locs 0 0 Q (F0 m 28 ls []) := by
    intro n_28
    induction n_28 with
    | zero =>
      intro v1_28 th_now_28 hF
      rw [fX8_begins0_28_z] at hF
      cases hF
    | succ n_28 ih_28 =>
      intro v1_28 th_now_28 hF H locs ls hP hD hS hl
      rw [fX8_begins0_28_s] at hF
      refine lv_iload_n hx hb dX8_begins0_28 rfl (lv_at hl 1 rfl) ?_
      refine lv_bipush (v := (nI 25)) hx hb dX8_begins0_29 (by decide) ?_
      refine lv_icmp_ge (tgt := 57) hx hb dX8_begins0_31 (by decide) (fun hc => ?_) (fun hc => ?_)
      · have hF := ng_t hc hF
        exact hret th_now_28 _ _ _ _ hF dX8_begins0_57 hP hD hS
      · have hF := ng_f hc hF
        refine lv_aload_n hx hb dX8_begins0_34 rfl (lv_at hl 0 rfl) ?_
        refine nx_get S0 hK hP 0 1 hin_X8 hf_13 rfl rfl (by decide) rfl rfl dX8_begins0_35 ?_
        refine lv_iconst (v := (nI 3)) hx hb dX8_begins0_38 (by decide) ?_
        refine lv_iload_n hx hb dX8_begins0_39 rfl (lv_at hl 1 rfl) ?_
        refine lv_iadd hx hb dX8_begins0_40 ?_
        refine lv_aload_n hx hb dX8_begins0_41 rfl (lv_at hl 0 rfl) ?_
        refine nx_get S0 hK hP 0 0 hin_X8 hf_7 rfl rfl (by decide) rfl rfl dX8_begins0_42 ?_
        refine lv_bipush (v := (nI 29)) hx hb dX8_begins0_45 (by decide) ?_
        refine lv_iload_n hx hb dX8_begins0_47 rfl (lv_at hl 1 rfl) ?_
        refine lv_iadd hx hb dX8_begins0_48 ?_
        have hg := ng_p hF
        have hF := ng_x hF
        refine nx_iald S0 hK hP 2 (v := th_told (((nI 29) + v1_28).toNatClampNeg)) rfl hg rfl dX8_begins0_49 ?_
        have hg := ng_p hF
        have hF := ng_x hF
        refine nx_iast S0 hK hP hD hS 1 rfl hg dX8_begins0_50 (W1 := [(q_th, .inr (8, [.ref q_th_told, .ref q_th_now, x_th_text, .int th_letters, .int th_at, x_th_read, .int th_isMore, .int th_told0, x_th_from, x_th_to, x_th_undone, .int th_undos, x_th_aside, .int th_beganOn, .int th_beganIn, .int th_first, .int th_second, x_th_seenCell, x_th_seenNight, .int th_seens, .int th_above, .int th_below, x_th_kept, .int th_keeps])), (q_th_now, .inl (cI, 28, .inl (upd th_now_28 (((nI 3) + v1_28).toNatClampNeg) (th_told (((nI 29) + v1_28).toNatClampNeg))))), (q_th_told, .inl (cI, 54, .inl th_told))]) rfl (fun H locs hP hD hS => ?_)
        refine lv_iinc (v := v1_28 + (nI 1)) (lv' := [(1, .int (v1_28 + (nI 1))), (0, .ref q_th)]) hx hb dX8_begins0_51 hl (k := 1) rfl rfl (by decide) rfl (fun ls hl => ?_)
        refine lv_goto (tgt := 28) hx hb dX8_begins0_54 (by decide) ?_
        exact ih_28 (v1_28 + (nI 1)) (upd th_now_28 (((nI 3) + v1_28).toNatClampNeg) (th_told (((nI 29) + v1_28).toNatClampNeg))) hF _ _ _ hP hD hS (lv_sub hl [1, 0] rfl)
  refine lv_istore_n (lv' := [(1, .int (nI 0)), (0, .ref q_th)]) hx hb dX8_begins0_27 rfl hl (by decide) rfl (fun ls hl => ?_)
  exact B_28 N (nI 0) (upd (upd (upd th_now 0 (nI 0)) 1 (th_told 2)) 2 (-1 : Int32)) hF _ _ _ hP hD hS (lv_sub hl [1, 0] rfl)
theorem hdX8_cells : yX8_cells.cls ≠ "java/lang/invoke/MethodHandle" ∧ yX8_cells.cls ≠ "java/lang/invoke/VarHandle" ∧ (parseMethodDescriptor yX8_cells.desc).map (fun d => d.parameters.length) = some 0 := by decide +kernel
set_option maxHeartbeats 40000000 in
set_option maxRecDepth 100000 in
theorem kX8_cells (l : Launch) (dC : Nat → ClassId) (dI : Nat → Nat → Nat) (cI : ClassId) (q_th : Nat) (q_th_told : Nat) (sz : Nat) (x_th_now : Value) (x_th_text : Value) (th_letters : Int32) (th_at : Int32) (x_th_read : Value) (th_isMore : Int32) (th_told0 : Int32) (x_th_from : Value) (x_th_to : Value) (x_th_undone : Value) (th_undos : Int32) (x_th_aside : Value) (th_beganOn : Int32) (th_beganIn : Int32) (th_first : Int32) (th_second : Int32) (x_th_seenCell : Value) (x_th_seenNight : Value) (th_seens : Int32) (th_above : Int32) (th_below : Int32) (x_th_kept : Value) (th_keeps : Int32) (th_told : Nat → Int32) (N : Nat) (o : Int32) (hF : fX8_cells N th_told = some o) : nx_I l yX8_cells wsX8_cells ({ frames := 0, cells := 0, slots := 0, locals := 0 } : Room) (dC, dI) cI [.ref q_th] [(q_th, .inr (8, [.ref q_th_told, x_th_now, x_th_text, .int th_letters, .int th_at, x_th_read, .int th_isMore, .int th_told0, x_th_from, x_th_to, x_th_undone, .int th_undos, x_th_aside, .int th_beganOn, .int th_beganIn, .int th_first, .int th_second, x_th_seenCell, x_th_seenNight, .int th_seens, .int th_above, .int th_below, x_th_kept, .int th_keeps])), (q_th_told, .inl (cI, 54, .inl th_told))] sz o [(q_th, .inr (8, [.ref q_th_told, x_th_now, x_th_text, .int th_letters, .int th_at, x_th_read, .int th_isMore, .int th_told0, x_th_from, x_th_to, x_th_undone, .int th_undos, x_th_aside, .int th_beganOn, .int th_beganIn, .int th_first, .int th_second, x_th_seenCell, x_th_seenNight, .int th_seens, .int th_above, .int th_below, x_th_kept, .int th_keeps])), (q_th_told, .inl (cI, 54, .inl th_told))] := by
  refine nx_int (cc := cX8_cells) (maxL := 1) (by decide) rfl (Nat.le_of_ble_eq_true rfl) ?_
  intro p e s m args below meth c Q A S0 hK hN hA ret0 hP hD hS ls hl
  have S0 : CallFix p m c cX8_cells 1 s args wsX8_cells RX8 := S0
  have hx := S0.1
  have hb := S0.2.1
  have hown := S0.2.2.2.1
  have hts := S0.2.2.2.2
  have hf_7 := hts (.fieldLink RX8 7 "SnailsYearModel" "told" "[I") (by decide +kernel)
  have hin_X8 : ∀ w ∈ wsX80, w ∈ wsX8_cells := by decide +kernel
  have hl : lv_has ls 1 [(0, .ref q_th)] := hl
  have hret : ∀ (r0 : Int32) (H : Heap) (locs : List Loc) (ls : Array Slot) (pc : Nat), some r0 = some o → decode cX8_cells pc = .ok (.ireturn, 1) → va_P (dC, dI) vwCl [(q_th, .inr (8, [.ref q_th_told, x_th_now, x_th_text, .int th_letters, .int th_at, x_th_read, .int th_isMore, .int th_told0, x_th_from, x_th_to, x_th_undone, .int th_undos, x_th_aside, .int th_beganOn, .int th_beganIn, .int th_first, .int th_second, x_th_seenCell, x_th_seenNight, .int th_seens, .int th_above, .int th_below, x_th_kept, .int th_keeps])), (q_th_told, .inl (cI, 54, .inl th_told))] H → va_D A [(q_th, .inr (8, [.ref q_th_told, x_th_now, x_th_text, .int th_letters, .int th_at, x_th_read, .int th_isMore, .int th_told0, x_th_from, x_th_to, x_th_undone, .int th_undos, x_th_aside, .int th_beganOn, .int th_beganIn, .int th_first, .int th_second, x_th_seenCell, x_th_seenNight, .int th_seens, .int th_above, .int th_below, x_th_kept, .int th_keeps])), (q_th_told, .inl (cI, 54, .inl th_told))] → va_S A s.heap H locs → W p l e ({ frames := 0, cells := 0, slots := 0, locals := 0 } : Room) s m args below meth c H locs 0 0 Q (F0 m pc ls [.int r0]) := by
    intro r0 H locs ls pc ho hd hP hD hS
    cases ho
    exact ret0 H locs ls pc hd hP hD hS
  rw [fX8_cells_e] at hF
  refine lv_aload_n hx hb dX8_cells_0 rfl (lv_at hl 0 rfl) ?_
  refine nx_get S0 hK hP 0 0 hin_X8 hf_7 rfl rfl (by decide) rfl rfl dX8_cells_1 ?_
  refine lv_iconst (v := (nI 0)) hx hb dX8_cells_4 (by decide) ?_
  refine nx_iald S0 hK hP 1 (v := th_told 0) rfl (by decide) rfl dX8_cells_5 ?_
  refine lv_aload_n hx hb dX8_cells_6 rfl (lv_at hl 0 rfl) ?_
  refine nx_get S0 hK hP 0 0 hin_X8 hf_7 rfl rfl (by decide) rfl rfl dX8_cells_7 ?_
  refine lv_iconst (v := (nI 1)) hx hb dX8_cells_10 (by decide) ?_
  refine nx_iald S0 hK hP 1 (v := th_told 1) rfl (by decide) rfl dX8_cells_11 ?_
  refine lv_imul hx hb dX8_cells_12 ?_
  exact hret ((th_told 0) * (th_told 1)) _ _ _ _ hF dX8_cells_13 hP hD hS
theorem hdX8_isCell : yX8_isCell.cls ≠ "java/lang/invoke/MethodHandle" ∧ yX8_isCell.cls ≠ "java/lang/invoke/VarHandle" ∧ (parseMethodDescriptor yX8_isCell.desc).map (fun d => d.parameters.length) = some 1 := by decide +kernel
set_option maxHeartbeats 40000000 in
set_option maxRecDepth 100000 in
theorem kX8_isCell (l : Launch) (dC : Nat → ClassId) (dI : Nat → Nat → Nat) (cI : ClassId) (q_th : Nat) (q_th_told : Nat) (sz : Nat) (x_th_now : Value) (x_th_text : Value) (th_letters : Int32) (th_at : Int32) (x_th_read : Value) (th_isMore : Int32) (th_told0 : Int32) (x_th_from : Value) (x_th_to : Value) (x_th_undone : Value) (th_undos : Int32) (x_th_aside : Value) (th_beganOn : Int32) (th_beganIn : Int32) (th_first : Int32) (th_second : Int32) (x_th_seenCell : Value) (x_th_seenNight : Value) (th_seens : Int32) (th_above : Int32) (th_below : Int32) (x_th_kept : Value) (th_keeps : Int32) (th_told : Nat → Int32) (p1 : Int32) (N : Nat) (o : Int32) (hF : fX8_isCell N p1 th_told = some o) : nx_I l yX8_isCell wsX8_isCell ({ frames := 1, cells := 0, slots := 0, locals := 25 } : Room) (dC, dI) cI [.ref q_th, .int p1] [(q_th, .inr (8, [.ref q_th_told, x_th_now, x_th_text, .int th_letters, .int th_at, x_th_read, .int th_isMore, .int th_told0, x_th_from, x_th_to, x_th_undone, .int th_undos, x_th_aside, .int th_beganOn, .int th_beganIn, .int th_first, .int th_second, x_th_seenCell, x_th_seenNight, .int th_seens, .int th_above, .int th_below, x_th_kept, .int th_keeps])), (q_th_told, .inl (cI, 54, .inl th_told))] sz o [(q_th, .inr (8, [.ref q_th_told, x_th_now, x_th_text, .int th_letters, .int th_at, x_th_read, .int th_isMore, .int th_told0, x_th_from, x_th_to, x_th_undone, .int th_undos, x_th_aside, .int th_beganOn, .int th_beganIn, .int th_first, .int th_second, x_th_seenCell, x_th_seenNight, .int th_seens, .int th_above, .int th_below, x_th_kept, .int th_keeps])), (q_th_told, .inl (cI, 54, .inl th_told))] := by
  refine nx_zint (cc := cX8_isCell) (maxL := 2) (by decide) rfl (Nat.le_of_ble_eq_true rfl) ?_
  intro p e s m args below meth c Q A S0 hK hN hA ret0 hP hD hS ls hl
  have S0 : CallFix p m c cX8_isCell 2 s args wsX8_isCell RX8 := S0
  have hx := S0.1
  have hb := S0.2.1
  have hown := S0.2.2.2.1
  have hts := S0.2.2.2.2
  have hl : lv_has ls 2 [(0, .ref q_th), (1, .int p1)] := hl
  have hret : ∀ (r0 : Int32) (H : Heap) (locs : List Loc) (ls : Array Slot) (pc : Nat), (r0 = 0 ∨ r0 = 1) → some r0 = some o → decode cX8_isCell pc = .ok (.ireturn, 1) → va_P (dC, dI) vwCl [(q_th, .inr (8, [.ref q_th_told, x_th_now, x_th_text, .int th_letters, .int th_at, x_th_read, .int th_isMore, .int th_told0, x_th_from, x_th_to, x_th_undone, .int th_undos, x_th_aside, .int th_beganOn, .int th_beganIn, .int th_first, .int th_second, x_th_seenCell, x_th_seenNight, .int th_seens, .int th_above, .int th_below, x_th_kept, .int th_keeps])), (q_th_told, .inl (cI, 54, .inl th_told))] H → va_D A [(q_th, .inr (8, [.ref q_th_told, x_th_now, x_th_text, .int th_letters, .int th_at, x_th_read, .int th_isMore, .int th_told0, x_th_from, x_th_to, x_th_undone, .int th_undos, x_th_aside, .int th_beganOn, .int th_beganIn, .int th_first, .int th_second, x_th_seenCell, x_th_seenNight, .int th_seens, .int th_above, .int th_below, x_th_kept, .int th_keeps])), (q_th_told, .inl (cI, 54, .inl th_told))] → va_S A s.heap H locs → W p l e ({ frames := 1, cells := 0, slots := 0, locals := 25 } : Room) s m args below meth c H locs 0 0 Q (F0 m pc ls [.int r0]) := by
    intro r0 H locs ls pc hz ho hd hP hD hS
    cases ho
    exact ret0 H locs ls pc hz hd hP hD hS
  rw [fX8_isCell_e] at hF
  refine lv_iload_n hx hb dX8_isCell_0 rfl (lv_at hl 1 rfl) ?_
  refine lv_i2l hx hb dX8_isCell_1 rfl ?_
  refine lv_lconst (v := (lN 0)) hx hb dX8_isCell_2 (by decide) ?_
  refine lv_aload_n hx hb dX8_isCell_3 rfl (lv_at hl 0 rfl) ?_
  obtain ⟨o4, hF1, hF⟩ := ng_b hF
  refine nx_callVi (As := []) (rest := [.long (lN 0), .long p1.toInt64]) (W1 := [(q_th, .inr (8, [.ref q_th_told, x_th_now, x_th_text, .int th_letters, .int th_at, x_th_read, .int th_isMore, .int th_told0, x_th_from, x_th_to, x_th_undone, .int th_undos, x_th_aside, .int th_beganOn, .int th_beganIn, .int th_first, .int th_second, x_th_seenCell, x_th_seenNight, .int th_seens, .int th_above, .int th_below, x_th_kept, .int th_keeps])), (q_th_told, .inl (cI, 54, .inl th_told))]) (wr := []) S0 hK hN hA hP hD hS (kX8_cells l dC dI cI q_th q_th_told _ (x_th_now) (x_th_text) th_letters th_at (x_th_read) th_isMore th_told0 (x_th_from) (x_th_to) (x_th_undone) th_undos (x_th_aside) th_beganOn th_beganIn th_first th_second (x_th_seenCell) (x_th_seenNight) th_seens th_above th_below (x_th_kept) th_keeps th_told N o4 hF1) (cwV 0 hts gX8_isCell_X8_cells rfl rfl rfl ⟨rfl, hdX8_cells⟩ ⟨Nat.le_of_ble_eq_true rfl, Nat.le_of_ble_eq_true rfl⟩) [0, 1] [] [0, 1] rfl rfl rfl rfl 0 8 rfl rfl rfl rfl hl.1 rfl (Nat.le_of_ble_eq_true rfl) dX8_isCell_4 (fun H locs hP hD hS => ?_)
  refine lv_iconst (v := (nI 1)) hx hb dX8_isCell_7 (by decide) ?_
  refine lv_isub hx hb dX8_isCell_8 ?_
  refine lv_i2l hx hb dX8_isCell_9 rfl ?_
  obtain ⟨o10, hF1, hF⟩ := ng_b hF
  refine nx_callSi (As := [.long p1.toInt64, .long (lN 0), .long ((o4 - (nI 1)).toInt64)]) (rest := []) (W1 := [(q_th, .inr (8, [.ref q_th_told, x_th_now, x_th_text, .int th_letters, .int th_at, x_th_read, .int th_isMore, .int th_told0, x_th_from, x_th_to, x_th_undone, .int th_undos, x_th_aside, .int th_beganOn, .int th_beganIn, .int th_first, .int th_second, x_th_seenCell, x_th_seenNight, .int th_seens, .int th_above, .int th_below, x_th_kept, .int th_keeps])), (q_th_told, .inl (cI, 54, .inl th_told))]) (wr := [(q_th, .inr (8, [.ref q_th_told, x_th_now, x_th_text, .int th_letters, .int th_at, x_th_read, .int th_isMore, .int th_told0, x_th_from, x_th_to, x_th_undone, .int th_undos, x_th_aside, .int th_beganOn, .int th_beganIn, .int th_first, .int th_second, x_th_seenCell, x_th_seenNight, .int th_seens, .int th_above, .int th_below, x_th_kept, .int th_keeps])), (q_th_told, .inl (cI, 54, .inl th_told))]) S0 hK hN hA hP hD hS (kX8_in l dC dI cI _ p1.toInt64 (lN 0) ((o4 - (nI 1)).toInt64) N o10 hF1) (va_cwS 3 hts gX8_isCell_X8_in rfl rfl rfl hdX8_in ⟨Nat.le_of_ble_eq_true rfl, Nat.le_of_ble_eq_true rfl⟩) [] [0, 1] [0, 1] rfl rfl rfl rfl rfl hl.1 rfl (Nat.le_of_ble_eq_true rfl) dX8_isCell_10 (fun H locs hP hD hS => ?_)
  have hg := ng_p hF
  have hF := ng_x hF
  exact hret o10 _ _ _ _ hg hF dX8_isCell_13 hP hD hS
theorem hdX8_write : yX8_write.cls ≠ "java/lang/invoke/MethodHandle" ∧ yX8_write.cls ≠ "java/lang/invoke/VarHandle" ∧ (parseMethodDescriptor yX8_write.desc).map (fun d => d.parameters.length) = some 1 := by decide +kernel
set_option maxHeartbeats 40000000 in
set_option maxRecDepth 100000 in
theorem kX8_write (l : Launch) (dC : Nat → ClassId) (dI : Nat → Nat → Nat) (cI : ClassId) (q_th : Nat) (q_th_text : Nat) (sz : Nat) (x_th_told : Value) (x_th_now : Value) (th_letters : Int32) (th_at : Int32) (x_th_read : Value) (th_isMore : Int32) (th_told0 : Int32) (x_th_from : Value) (x_th_to : Value) (x_th_undone : Value) (th_undos : Int32) (x_th_aside : Value) (th_beganOn : Int32) (th_beganIn : Int32) (th_first : Int32) (th_second : Int32) (x_th_seenCell : Value) (x_th_seenNight : Value) (th_seens : Int32) (th_above : Int32) (th_below : Int32) (x_th_kept : Value) (th_keeps : Int32) (th_text : Nat → Int32) (p1 : Int32) (N : Nat) (o : Int32 × Int32 × (Nat → Int32)) (hF : fX8_write N th_letters p1 th_text = some o) : nx_I l yX8_write wsX8_write ({ frames := 1, cells := 0, slots := 0, locals := 25 } : Room) (dC, dI) cI [.ref q_th, .int p1] [(q_th, .inr (8, [x_th_told, x_th_now, .ref q_th_text, .int th_letters, .int th_at, x_th_read, .int th_isMore, .int th_told0, x_th_from, x_th_to, x_th_undone, .int th_undos, x_th_aside, .int th_beganOn, .int th_beganIn, .int th_first, .int th_second, x_th_seenCell, x_th_seenNight, .int th_seens, .int th_above, .int th_below, x_th_kept, .int th_keeps])), (q_th_text, .inl (cI, 200, .inl th_text))] sz o.1 [(q_th, .inr (8, [x_th_told, x_th_now, .ref q_th_text, .int o.2.1, .int th_at, x_th_read, .int th_isMore, .int th_told0, x_th_from, x_th_to, x_th_undone, .int th_undos, x_th_aside, .int th_beganOn, .int th_beganIn, .int th_first, .int th_second, x_th_seenCell, x_th_seenNight, .int th_seens, .int th_above, .int th_below, x_th_kept, .int th_keeps])), (q_th_text, .inl (cI, 200, .inl o.2.2))] := by
  refine nx_int (cc := cX8_write) (maxL := 2) (by decide) rfl (Nat.le_of_ble_eq_true rfl) ?_
  intro p e s m args below meth c Q A S0 hK hN hA ret0 hP hD hS ls hl
  have S0 : CallFix p m c cX8_write 2 s args wsX8_write RX8 := S0
  have hx := S0.1
  have hb := S0.2.1
  have hown := S0.2.2.2.1
  have hts := S0.2.2.2.2
  have hf_62 := hts (.fieldLink RX8 62 "SnailsYearModel" "letters" "I") (by decide +kernel)
  have hin_X8 : ∀ w ∈ wsX80, w ∈ wsX8_write := by decide +kernel
  have hf_16 := hts (.fieldLink RX8 16 "SnailsYearModel" "text" "[I") (by decide +kernel)
  have hl : lv_has ls 2 [(0, .ref q_th), (1, .int p1)] := hl
  have hret : ∀ (r0 : Int32) (y0 : Int32) (y1 : Nat → Int32) (H : Heap) (locs : List Loc) (ls : Array Slot) (pc : Nat), some (r0, y0, y1) = some o → decode cX8_write pc = .ok (.ireturn, 1) → va_P (dC, dI) vwCl [(q_th, .inr (8, [x_th_told, x_th_now, .ref q_th_text, .int y0, .int th_at, x_th_read, .int th_isMore, .int th_told0, x_th_from, x_th_to, x_th_undone, .int th_undos, x_th_aside, .int th_beganOn, .int th_beganIn, .int th_first, .int th_second, x_th_seenCell, x_th_seenNight, .int th_seens, .int th_above, .int th_below, x_th_kept, .int th_keeps])), (q_th_text, .inl (cI, 200, .inl y1))] H → va_D A [(q_th, .inr (8, [x_th_told, x_th_now, .ref q_th_text, .int y0, .int th_at, x_th_read, .int th_isMore, .int th_told0, x_th_from, x_th_to, x_th_undone, .int th_undos, x_th_aside, .int th_beganOn, .int th_beganIn, .int th_first, .int th_second, x_th_seenCell, x_th_seenNight, .int th_seens, .int th_above, .int th_below, x_th_kept, .int th_keeps])), (q_th_text, .inl (cI, 200, .inl y1))] → va_S A s.heap H locs → W p l e ({ frames := 1, cells := 0, slots := 0, locals := 25 } : Room) s m args below meth c H locs 0 0 Q (F0 m pc ls [.int r0]) := by
    intro r0 y0 y1 H locs ls pc ho hd hP hD hS
    cases ho
    exact ret0 H locs ls pc hd hP hD hS
  rw [fX8_write_e] at hF
  refine lv_iload_n hx hb dX8_write_0 rfl (lv_at hl 1 rfl) ?_
  refine lv_i2l hx hb dX8_write_1 rfl ?_
  refine lv_ldc2 (v := (lN 32)) hx hb hown (hts (.constantLong RX8 58 32) (by decide +kernel)) dX8_write_2 ?_
  refine lv_ldc2 (v := (lN 126)) hx hb hown (hts (.constantLong RX8 60 126) (by decide +kernel)) dX8_write_5 ?_
  obtain ⟨o8, hF1, hF⟩ := ng_b hF
  refine nx_callSi (As := [.long p1.toInt64, .long (lN 32), .long (lN 126)]) (rest := []) (W1 := [(q_th, .inr (8, [x_th_told, x_th_now, .ref q_th_text, .int th_letters, .int th_at, x_th_read, .int th_isMore, .int th_told0, x_th_from, x_th_to, x_th_undone, .int th_undos, x_th_aside, .int th_beganOn, .int th_beganIn, .int th_first, .int th_second, x_th_seenCell, x_th_seenNight, .int th_seens, .int th_above, .int th_below, x_th_kept, .int th_keeps])), (q_th_text, .inl (cI, 200, .inl th_text))]) (wr := [(q_th, .inr (8, [x_th_told, x_th_now, .ref q_th_text, .int th_letters, .int th_at, x_th_read, .int th_isMore, .int th_told0, x_th_from, x_th_to, x_th_undone, .int th_undos, x_th_aside, .int th_beganOn, .int th_beganIn, .int th_first, .int th_second, x_th_seenCell, x_th_seenNight, .int th_seens, .int th_above, .int th_below, x_th_kept, .int th_keeps])), (q_th_text, .inl (cI, 200, .inl th_text))]) S0 hK hN hA hP hD hS (kX8_in l dC dI cI _ p1.toInt64 (lN 32) (lN 126) N o8 hF1) (va_cwS 3 hts gX8_write_X8_in rfl rfl rfl hdX8_in ⟨Nat.le_of_ble_eq_true rfl, Nat.le_of_ble_eq_true rfl⟩) [] [0, 1] [0, 1] rfl rfl rfl rfl rfl hl.1 rfl (Nat.le_of_ble_eq_true rfl) dX8_write_8 (fun H locs hP hD hS => ?_)
  refine lv_if_ne (tgt := 16) hx hb dX8_write_11 (by decide) (fun hc => ?_) (fun hc => ?_)
  · have hF := ng_f hc hF
    refine lv_aload_n hx hb dX8_write_16 rfl (lv_at hl 0 rfl) ?_
    refine nx_get S0 hK hP 0 3 hin_X8 hf_62 rfl rfl (by decide) rfl rfl dX8_write_17 ?_
    refine lv_sipush (v := (nI 200)) hx hb dX8_write_20 (by decide) ?_
    refine lv_icmp_ne (tgt := 29) hx hb dX8_write_23 (by decide) (fun hc => ?_) (fun hc => ?_)
    · have hF := ng_f hc hF
      refine lv_aload_n hx hb dX8_write_29 rfl (lv_at hl 0 rfl) ?_
      refine nx_get S0 hK hP 0 2 hin_X8 hf_16 rfl rfl (by decide) rfl rfl dX8_write_30 ?_
      refine lv_aload_n hx hb dX8_write_33 rfl (lv_at hl 0 rfl) ?_
      refine nx_get S0 hK hP 0 3 hin_X8 hf_62 rfl rfl (by decide) rfl rfl dX8_write_34 ?_
      refine lv_iload_n hx hb dX8_write_37 rfl (lv_at hl 1 rfl) ?_
      have hg := ng_p hF
      have hF := ng_x hF
      refine nx_iast S0 hK hP hD hS 1 rfl hg dX8_write_38 (W1 := [(q_th, .inr (8, [x_th_told, x_th_now, .ref q_th_text, .int th_letters, .int th_at, x_th_read, .int th_isMore, .int th_told0, x_th_from, x_th_to, x_th_undone, .int th_undos, x_th_aside, .int th_beganOn, .int th_beganIn, .int th_first, .int th_second, x_th_seenCell, x_th_seenNight, .int th_seens, .int th_above, .int th_below, x_th_kept, .int th_keeps])), (q_th_text, .inl (cI, 200, .inl (upd th_text th_letters.toNatClampNeg p1)))]) rfl (fun H locs hP hD hS => ?_)
      refine lv_aload_n hx hb dX8_write_39 rfl (lv_at hl 0 rfl) ?_
      refine lv_dup hx hb dX8_write_40 rfl ?_
      refine nx_get S0 hK hP 0 3 hin_X8 hf_62 rfl rfl (by decide) rfl rfl dX8_write_41 ?_
      refine lv_iconst (v := (nI 1)) hx hb dX8_write_44 (by decide) ?_
      refine lv_iadd hx hb dX8_write_45 ?_
      refine nx_put S0 hK hP hD hS 0 3 hin_X8 tyX8 tyX8_ok nmX8 hf_62 rfl rfl (by decide) rfl rfl rfl rfl (Nat.le_of_ble_eq_true rfl) dX8_write_46 (W1 := [(q_th, .inr (8, [x_th_told, x_th_now, .ref q_th_text, .int (th_letters + (nI 1)), .int th_at, x_th_read, .int th_isMore, .int th_told0, x_th_from, x_th_to, x_th_undone, .int th_undos, x_th_aside, .int th_beganOn, .int th_beganIn, .int th_first, .int th_second, x_th_seenCell, x_th_seenNight, .int th_seens, .int th_above, .int th_below, x_th_kept, .int th_keeps])), (q_th_text, .inl (cI, 200, .inl (upd th_text th_letters.toNatClampNeg p1)))]) rfl (fun H locs hP hD hS => ?_)
      refine lv_aload_n hx hb dX8_write_49 rfl (lv_at hl 0 rfl) ?_
      refine nx_get S0 hK hP 0 3 hin_X8 hf_62 rfl rfl (by decide) rfl rfl dX8_write_50 ?_
      exact hret (th_letters + (nI 1)) (th_letters + (nI 1)) (upd th_text th_letters.toNatClampNeg p1) _ _ _ _ hF dX8_write_53 hP hD hS
    · have hF := ng_t hc hF
      refine lv_bipush (v := (-3 : Int32)) hx hb dX8_write_26 (by decide) ?_
      exact hret (-3 : Int32) th_letters th_text _ _ _ _ hF dX8_write_28 hP hD hS
  · have hF := ng_t hc hF
    refine lv_iconst (v := (-1 : Int32)) hx hb dX8_write_14 (by decide) ?_
    exact hret (-1 : Int32) th_letters th_text _ _ _ _ hF dX8_write_15 hP hD hS
theorem hdX8_wipe : yX8_wipe.cls ≠ "java/lang/invoke/MethodHandle" ∧ yX8_wipe.cls ≠ "java/lang/invoke/VarHandle" ∧ (parseMethodDescriptor yX8_wipe.desc).map (fun d => d.parameters.length) = some 0 := by decide +kernel
set_option maxHeartbeats 40000000 in
set_option maxRecDepth 100000 in
theorem kX8_wipe (l : Launch) (dC : Nat → ClassId) (dI : Nat → Nat → Nat) (cI : ClassId) (q_th : Nat) (sz : Nat) (x_th_told : Value) (x_th_now : Value) (x_th_text : Value) (th_letters : Int32) (th_at : Int32) (x_th_read : Value) (th_isMore : Int32) (th_told0 : Int32) (x_th_from : Value) (x_th_to : Value) (x_th_undone : Value) (th_undos : Int32) (x_th_aside : Value) (th_beganOn : Int32) (th_beganIn : Int32) (th_first : Int32) (th_second : Int32) (x_th_seenCell : Value) (x_th_seenNight : Value) (th_seens : Int32) (th_above : Int32) (th_below : Int32) (x_th_kept : Value) (th_keeps : Int32) (N : Nat) (o : Int32 × Int32) (hF : fX8_wipe N th_letters = some o) : nx_I l yX8_wipe wsX8_wipe ({ frames := 0, cells := 0, slots := 0, locals := 0 } : Room) (dC, dI) cI [.ref q_th] [(q_th, .inr (8, [x_th_told, x_th_now, x_th_text, .int th_letters, .int th_at, x_th_read, .int th_isMore, .int th_told0, x_th_from, x_th_to, x_th_undone, .int th_undos, x_th_aside, .int th_beganOn, .int th_beganIn, .int th_first, .int th_second, x_th_seenCell, x_th_seenNight, .int th_seens, .int th_above, .int th_below, x_th_kept, .int th_keeps]))] sz o.1 [(q_th, .inr (8, [x_th_told, x_th_now, x_th_text, .int o.2, .int th_at, x_th_read, .int th_isMore, .int th_told0, x_th_from, x_th_to, x_th_undone, .int th_undos, x_th_aside, .int th_beganOn, .int th_beganIn, .int th_first, .int th_second, x_th_seenCell, x_th_seenNight, .int th_seens, .int th_above, .int th_below, x_th_kept, .int th_keeps]))] := by
  refine nx_int (cc := cX8_wipe) (maxL := 2) (by decide) rfl (Nat.le_of_ble_eq_true rfl) ?_
  intro p e s m args below meth c Q A S0 hK hN hA ret0 hP hD hS ls hl
  have S0 : CallFix p m c cX8_wipe 2 s args wsX8_wipe RX8 := S0
  have hx := S0.1
  have hb := S0.2.1
  have hown := S0.2.2.2.1
  have hts := S0.2.2.2.2
  have hf_62 := hts (.fieldLink RX8 62 "SnailsYearModel" "letters" "I") (by decide +kernel)
  have hin_X8 : ∀ w ∈ wsX80, w ∈ wsX8_wipe := by decide +kernel
  have hl : lv_has ls 2 [(0, .ref q_th)] := hl
  have hret : ∀ (r0 : Int32) (y0 : Int32) (H : Heap) (locs : List Loc) (ls : Array Slot) (pc : Nat), some (r0, y0) = some o → decode cX8_wipe pc = .ok (.ireturn, 1) → va_P (dC, dI) vwCl [(q_th, .inr (8, [x_th_told, x_th_now, x_th_text, .int y0, .int th_at, x_th_read, .int th_isMore, .int th_told0, x_th_from, x_th_to, x_th_undone, .int th_undos, x_th_aside, .int th_beganOn, .int th_beganIn, .int th_first, .int th_second, x_th_seenCell, x_th_seenNight, .int th_seens, .int th_above, .int th_below, x_th_kept, .int th_keeps]))] H → va_D A [(q_th, .inr (8, [x_th_told, x_th_now, x_th_text, .int y0, .int th_at, x_th_read, .int th_isMore, .int th_told0, x_th_from, x_th_to, x_th_undone, .int th_undos, x_th_aside, .int th_beganOn, .int th_beganIn, .int th_first, .int th_second, x_th_seenCell, x_th_seenNight, .int th_seens, .int th_above, .int th_below, x_th_kept, .int th_keeps]))] → va_S A s.heap H locs → W p l e ({ frames := 0, cells := 0, slots := 0, locals := 0 } : Room) s m args below meth c H locs 0 0 Q (F0 m pc ls [.int r0]) := by
    intro r0 y0 H locs ls pc ho hd hP hD hS
    cases ho
    exact ret0 H locs ls pc hd hP hD hS
  rw [fX8_wipe_e] at hF
  refine lv_aload_n hx hb dX8_wipe_0 rfl (lv_at hl 0 rfl) ?_
  refine nx_get S0 hK hP 0 3 hin_X8 hf_62 rfl rfl (by decide) rfl rfl dX8_wipe_1 ?_
  refine lv_istore_n (lv' := [(1, .int th_letters), (0, .ref q_th)]) hx hb dX8_wipe_4 rfl hl (by decide) rfl (fun ls hl => ?_)
  refine lv_aload_n hx hb dX8_wipe_5 rfl (lv_at hl 1 rfl) ?_
  refine lv_iconst (v := (nI 0)) hx hb dX8_wipe_6 (by decide) ?_
  refine nx_put S0 hK hP hD hS 0 3 hin_X8 tyX8 tyX8_ok nmX8 hf_62 rfl rfl (by decide) rfl rfl rfl rfl (Nat.le_of_ble_eq_true rfl) dX8_wipe_7 (W1 := [(q_th, .inr (8, [x_th_told, x_th_now, x_th_text, .int (nI 0), .int th_at, x_th_read, .int th_isMore, .int th_told0, x_th_from, x_th_to, x_th_undone, .int th_undos, x_th_aside, .int th_beganOn, .int th_beganIn, .int th_first, .int th_second, x_th_seenCell, x_th_seenNight, .int th_seens, .int th_above, .int th_below, x_th_kept, .int th_keeps]))]) rfl (fun H locs hP hD hS => ?_)
  refine lv_iload_n hx hb dX8_wipe_10 rfl (lv_at hl 0 rfl) ?_
  exact hret th_letters (nI 0) _ _ _ _ hF dX8_wipe_11 hP hD hS
theorem hdX8_isFigure : yX8_isFigure.cls ≠ "java/lang/invoke/MethodHandle" ∧ yX8_isFigure.cls ≠ "java/lang/invoke/VarHandle" ∧ (parseMethodDescriptor yX8_isFigure.desc).map (fun d => d.parameters.length) = some 0 := by decide +kernel
set_option maxHeartbeats 40000000 in
set_option maxRecDepth 100000 in
theorem kX8_isFigure (l : Launch) (dC : Nat → ClassId) (dI : Nat → Nat → Nat) (cI : ClassId) (q_th : Nat) (q_th_text : Nat) (sz : Nat) (x_th_told : Value) (x_th_now : Value) (th_letters : Int32) (th_at : Int32) (x_th_read : Value) (th_isMore : Int32) (th_told0 : Int32) (x_th_from : Value) (x_th_to : Value) (x_th_undone : Value) (th_undos : Int32) (x_th_aside : Value) (th_beganOn : Int32) (th_beganIn : Int32) (th_first : Int32) (th_second : Int32) (x_th_seenCell : Value) (x_th_seenNight : Value) (th_seens : Int32) (th_above : Int32) (th_below : Int32) (x_th_kept : Value) (th_keeps : Int32) (th_text : Nat → Int32) (N : Nat) (o : Int32) (hF : fX8_isFigure N th_letters th_at th_text = some o) : nx_I l yX8_isFigure wsX8_isFigure ({ frames := 1, cells := 0, slots := 0, locals := 25 } : Room) (dC, dI) cI [.ref q_th] [(q_th, .inr (8, [x_th_told, x_th_now, .ref q_th_text, .int th_letters, .int th_at, x_th_read, .int th_isMore, .int th_told0, x_th_from, x_th_to, x_th_undone, .int th_undos, x_th_aside, .int th_beganOn, .int th_beganIn, .int th_first, .int th_second, x_th_seenCell, x_th_seenNight, .int th_seens, .int th_above, .int th_below, x_th_kept, .int th_keeps])), (q_th_text, .inl (cI, 200, .inl th_text))] sz o [(q_th, .inr (8, [x_th_told, x_th_now, .ref q_th_text, .int th_letters, .int th_at, x_th_read, .int th_isMore, .int th_told0, x_th_from, x_th_to, x_th_undone, .int th_undos, x_th_aside, .int th_beganOn, .int th_beganIn, .int th_first, .int th_second, x_th_seenCell, x_th_seenNight, .int th_seens, .int th_above, .int th_below, x_th_kept, .int th_keeps])), (q_th_text, .inl (cI, 200, .inl th_text))] := by
  refine nx_zint (cc := cX8_isFigure) (maxL := 1) (by decide) rfl (Nat.le_of_ble_eq_true rfl) ?_
  intro p e s m args below meth c Q A S0 hK hN hA ret0 hP hD hS ls hl
  have S0 : CallFix p m c cX8_isFigure 1 s args wsX8_isFigure RX8 := S0
  have hx := S0.1
  have hb := S0.2.1
  have hown := S0.2.2.2.1
  have hts := S0.2.2.2.2
  have hf_66 := hts (.fieldLink RX8 66 "SnailsYearModel" "at" "I") (by decide +kernel)
  have hin_X8 : ∀ w ∈ wsX80, w ∈ wsX8_isFigure := by decide +kernel
  have hf_62 := hts (.fieldLink RX8 62 "SnailsYearModel" "letters" "I") (by decide +kernel)
  have hf_16 := hts (.fieldLink RX8 16 "SnailsYearModel" "text" "[I") (by decide +kernel)
  have hl : lv_has ls 1 [(0, .ref q_th)] := hl
  have hret : ∀ (r0 : Int32) (H : Heap) (locs : List Loc) (ls : Array Slot) (pc : Nat), (r0 = 0 ∨ r0 = 1) → some r0 = some o → decode cX8_isFigure pc = .ok (.ireturn, 1) → va_P (dC, dI) vwCl [(q_th, .inr (8, [x_th_told, x_th_now, .ref q_th_text, .int th_letters, .int th_at, x_th_read, .int th_isMore, .int th_told0, x_th_from, x_th_to, x_th_undone, .int th_undos, x_th_aside, .int th_beganOn, .int th_beganIn, .int th_first, .int th_second, x_th_seenCell, x_th_seenNight, .int th_seens, .int th_above, .int th_below, x_th_kept, .int th_keeps])), (q_th_text, .inl (cI, 200, .inl th_text))] H → va_D A [(q_th, .inr (8, [x_th_told, x_th_now, .ref q_th_text, .int th_letters, .int th_at, x_th_read, .int th_isMore, .int th_told0, x_th_from, x_th_to, x_th_undone, .int th_undos, x_th_aside, .int th_beganOn, .int th_beganIn, .int th_first, .int th_second, x_th_seenCell, x_th_seenNight, .int th_seens, .int th_above, .int th_below, x_th_kept, .int th_keeps])), (q_th_text, .inl (cI, 200, .inl th_text))] → va_S A s.heap H locs → W p l e ({ frames := 1, cells := 0, slots := 0, locals := 25 } : Room) s m args below meth c H locs 0 0 Q (F0 m pc ls [.int r0]) := by
    intro r0 H locs ls pc hz ho hd hP hD hS
    cases ho
    exact ret0 H locs ls pc hz hd hP hD hS
  rw [fX8_isFigure_e] at hF
  refine lv_aload_n hx hb dX8_isFigure_0 rfl (lv_at hl 0 rfl) ?_
  refine nx_get S0 hK hP 0 4 hin_X8 hf_66 rfl rfl (by decide) rfl rfl dX8_isFigure_1 ?_
  refine lv_aload_n hx hb dX8_isFigure_4 rfl (lv_at hl 0 rfl) ?_
  refine nx_get S0 hK hP 0 3 hin_X8 hf_62 rfl rfl (by decide) rfl rfl dX8_isFigure_5 ?_
  refine lv_icmp_ge (tgt := 37) hx hb dX8_isFigure_8 (by decide) (fun hc => ?_) (fun hc => ?_)
  · have hF := ng_t hc hF
    refine lv_iconst (v := (nI 0)) hx hb dX8_isFigure_37 (by decide) ?_
    exact hret (nI 0) _ _ _ _ (Or.inl rfl) hF dX8_isFigure_38 hP hD hS
  · have hF := ng_f hc hF
    refine lv_aload_n hx hb dX8_isFigure_11 rfl (lv_at hl 0 rfl) ?_
    refine nx_get S0 hK hP 0 2 hin_X8 hf_16 rfl rfl (by decide) rfl rfl dX8_isFigure_12 ?_
    refine lv_aload_n hx hb dX8_isFigure_15 rfl (lv_at hl 0 rfl) ?_
    refine nx_get S0 hK hP 0 4 hin_X8 hf_66 rfl rfl (by decide) rfl rfl dX8_isFigure_16 ?_
    have hg := ng_p hF
    have hF := ng_x hF
    refine nx_iald S0 hK hP 1 (v := th_text th_at.toNatClampNeg) rfl hg rfl dX8_isFigure_19 ?_
    refine lv_i2l hx hb dX8_isFigure_20 rfl ?_
    refine lv_ldc2 (v := (lN 48)) hx hb hown (hts (.constantLong RX8 69 48) (by decide +kernel)) dX8_isFigure_21 ?_
    refine lv_ldc2 (v := (lN 57)) hx hb hown (hts (.constantLong RX8 71 57) (by decide +kernel)) dX8_isFigure_24 ?_
    obtain ⟨o27, hF1, hF⟩ := ng_b hF
    refine nx_callSi (As := [.long ((th_text th_at.toNatClampNeg).toInt64), .long (lN 48), .long (lN 57)]) (rest := []) (W1 := [(q_th, .inr (8, [x_th_told, x_th_now, .ref q_th_text, .int th_letters, .int th_at, x_th_read, .int th_isMore, .int th_told0, x_th_from, x_th_to, x_th_undone, .int th_undos, x_th_aside, .int th_beganOn, .int th_beganIn, .int th_first, .int th_second, x_th_seenCell, x_th_seenNight, .int th_seens, .int th_above, .int th_below, x_th_kept, .int th_keeps])), (q_th_text, .inl (cI, 200, .inl th_text))]) (wr := [(q_th, .inr (8, [x_th_told, x_th_now, .ref q_th_text, .int th_letters, .int th_at, x_th_read, .int th_isMore, .int th_told0, x_th_from, x_th_to, x_th_undone, .int th_undos, x_th_aside, .int th_beganOn, .int th_beganIn, .int th_first, .int th_second, x_th_seenCell, x_th_seenNight, .int th_seens, .int th_above, .int th_below, x_th_kept, .int th_keeps])), (q_th_text, .inl (cI, 200, .inl th_text))]) S0 hK hN hA hP hD hS (kX8_in l dC dI cI _ ((th_text th_at.toNatClampNeg).toInt64) (lN 48) (lN 57) N o27 hF1) (va_cwS 3 hts gX8_isFigure_X8_in rfl rfl rfl hdX8_in ⟨Nat.le_of_ble_eq_true rfl, Nat.le_of_ble_eq_true rfl⟩) [] [0, 1] [0, 1] rfl rfl rfl rfl rfl hl.1 rfl (Nat.le_of_ble_eq_true rfl) dX8_isFigure_27 (fun H locs hP hD hS => ?_)
    refine lv_if_eq (tgt := 37) hx hb dX8_isFigure_30 (by decide) (fun hc => ?_) (fun hc => ?_)
    · have hF := ng_t hc hF
      refine lv_iconst (v := (nI 0)) hx hb dX8_isFigure_37 (by decide) ?_
      exact hret (nI 0) _ _ _ _ (Or.inl rfl) hF dX8_isFigure_38 hP hD hS
    · have hF := ng_f hc hF
      refine lv_iconst (v := (nI 1)) hx hb dX8_isFigure_33 (by decide) ?_
      refine lv_goto (tgt := 38) hx hb dX8_isFigure_34 (by decide) ?_
      exact hret (nI 1) _ _ _ _ (Or.inr rfl) hF dX8_isFigure_38 hP hD hS
theorem hdX8_number : yX8_number.cls ≠ "java/lang/invoke/MethodHandle" ∧ yX8_number.cls ≠ "java/lang/invoke/VarHandle" ∧ (parseMethodDescriptor yX8_number.desc).map (fun d => d.parameters.length) = some 3 := by decide +kernel
set_option maxHeartbeats 40000000 in
set_option maxRecDepth 100000 in
theorem kX8_number (l : Launch) (dC : Nat → ClassId) (dI : Nat → Nat → Nat) (cI : ClassId) (q_th : Nat) (q_th_text : Nat) (sz : Nat) (x_th_told : Value) (x_th_now : Value) (th_letters : Int32) (th_at : Int32) (x_th_read : Value) (th_isMore : Int32) (th_told0 : Int32) (x_th_from : Value) (x_th_to : Value) (x_th_undone : Value) (th_undos : Int32) (x_th_aside : Value) (th_beganOn : Int32) (th_beganIn : Int32) (th_first : Int32) (th_second : Int32) (x_th_seenCell : Value) (x_th_seenNight : Value) (th_seens : Int32) (th_above : Int32) (th_below : Int32) (x_th_kept : Value) (th_keeps : Int32) (th_text : Nat → Int32) (p1 : Int32) (p2 : Int32) (p3 : Int32) (N : Nat) (o : Int32 × Int32 × Int32) (hF : fX8_number N th_letters th_at th_told0 p1 p2 p3 th_text = some o) : nx_I l yX8_number wsX8_number ({ frames := 2, cells := 0, slots := 0, locals := 45 } : Room) (dC, dI) cI [.ref q_th, .int p1, .int p2, .int p3] [(q_th, .inr (8, [x_th_told, x_th_now, .ref q_th_text, .int th_letters, .int th_at, x_th_read, .int th_isMore, .int th_told0, x_th_from, x_th_to, x_th_undone, .int th_undos, x_th_aside, .int th_beganOn, .int th_beganIn, .int th_first, .int th_second, x_th_seenCell, x_th_seenNight, .int th_seens, .int th_above, .int th_below, x_th_kept, .int th_keeps])), (q_th_text, .inl (cI, 200, .inl th_text))] sz o.1 [(q_th, .inr (8, [x_th_told, x_th_now, .ref q_th_text, .int th_letters, .int o.2.1, x_th_read, .int th_isMore, .int o.2.2, x_th_from, x_th_to, x_th_undone, .int th_undos, x_th_aside, .int th_beganOn, .int th_beganIn, .int th_first, .int th_second, x_th_seenCell, x_th_seenNight, .int th_seens, .int th_above, .int th_below, x_th_kept, .int th_keeps])), (q_th_text, .inl (cI, 200, .inl th_text))] := by
  refine nx_zint (cc := cX8_number) (maxL := 5) (by decide) rfl (Nat.le_of_ble_eq_true rfl) ?_
  intro p e s m args below meth c Q A S0 hK hN hA ret0 hP hD hS ls hl
  have S0 : CallFix p m c cX8_number 5 s args wsX8_number RX8 := S0
  have hx := S0.1
  have hb := S0.2.1
  have hown := S0.2.2.2.1
  have hts := S0.2.2.2.2
  have hf_16 := hts (.fieldLink RX8 16 "SnailsYearModel" "text" "[I") (by decide +kernel)
  have hin_X8 : ∀ w ∈ wsX80, w ∈ wsX8_number := by decide +kernel
  have hf_66 := hts (.fieldLink RX8 66 "SnailsYearModel" "at" "I") (by decide +kernel)
  have hf_77 := hts (.fieldLink RX8 77 "SnailsYearModel" "told0" "I") (by decide +kernel)
  have hf_62 := hts (.fieldLink RX8 62 "SnailsYearModel" "letters" "I") (by decide +kernel)
  have hl : lv_has ls 5 [(0, .ref q_th), (1, .int p1), (2, .int p2), (3, .int p3)] := hl
  have hret : ∀ (r0 : Int32) (y0 : Int32) (y1 : Int32) (H : Heap) (locs : List Loc) (ls : Array Slot) (pc : Nat), (r0 = 0 ∨ r0 = 1) → some (r0, y0, y1) = some o → decode cX8_number pc = .ok (.ireturn, 1) → va_P (dC, dI) vwCl [(q_th, .inr (8, [x_th_told, x_th_now, .ref q_th_text, .int th_letters, .int y0, x_th_read, .int th_isMore, .int y1, x_th_from, x_th_to, x_th_undone, .int th_undos, x_th_aside, .int th_beganOn, .int th_beganIn, .int th_first, .int th_second, x_th_seenCell, x_th_seenNight, .int th_seens, .int th_above, .int th_below, x_th_kept, .int th_keeps])), (q_th_text, .inl (cI, 200, .inl th_text))] H → va_D A [(q_th, .inr (8, [x_th_told, x_th_now, .ref q_th_text, .int th_letters, .int y0, x_th_read, .int th_isMore, .int y1, x_th_from, x_th_to, x_th_undone, .int th_undos, x_th_aside, .int th_beganOn, .int th_beganIn, .int th_first, .int th_second, x_th_seenCell, x_th_seenNight, .int th_seens, .int th_above, .int th_below, x_th_kept, .int th_keeps])), (q_th_text, .inl (cI, 200, .inl th_text))] → va_S A s.heap H locs → W p l e ({ frames := 2, cells := 0, slots := 0, locals := 45 } : Room) s m args below meth c H locs 0 0 Q (F0 m pc ls [.int r0]) := by
    intro r0 y0 y1 H locs ls pc hz ho hd hP hD hS
    cases ho
    exact ret0 H locs ls pc hz hd hP hD hS
  rw [fX8_number_e] at hF
  refine lv_aload_n hx hb dX8_number_0 rfl (lv_at hl 0 rfl) ?_
  obtain ⟨o1, hF1, hF⟩ := ng_b hF
  refine nx_callVi (As := []) (rest := []) (W1 := [(q_th, .inr (8, [x_th_told, x_th_now, .ref q_th_text, .int th_letters, .int th_at, x_th_read, .int th_isMore, .int th_told0, x_th_from, x_th_to, x_th_undone, .int th_undos, x_th_aside, .int th_beganOn, .int th_beganIn, .int th_first, .int th_second, x_th_seenCell, x_th_seenNight, .int th_seens, .int th_above, .int th_below, x_th_kept, .int th_keeps])), (q_th_text, .inl (cI, 200, .inl th_text))]) (wr := []) S0 hK hN hA hP hD hS (kX8_isFigure l dC dI cI q_th q_th_text _ (x_th_told) (x_th_now) th_letters th_at (x_th_read) th_isMore th_told0 (x_th_from) (x_th_to) (x_th_undone) th_undos (x_th_aside) th_beganOn th_beganIn th_first th_second (x_th_seenCell) (x_th_seenNight) th_seens th_above th_below (x_th_kept) th_keeps th_text N o1 hF1) (cwV 0 hts gX8_number_X8_isFigure rfl rfl rfl ⟨rfl, hdX8_isFigure⟩ ⟨Nat.le_of_ble_eq_true rfl, Nat.le_of_ble_eq_true rfl⟩) [0, 1] [] [0, 1] rfl rfl rfl rfl 0 8 rfl rfl rfl rfl hl.1 rfl (Nat.le_of_ble_eq_true rfl) dX8_number_1 (fun H locs hP hD hS => ?_)
  refine lv_if_ne (tgt := 9) hx hb dX8_number_4 (by decide) (fun hc => ?_) (fun hc => ?_)
  · have hF := ng_f hc hF
    refine lv_aload_n hx hb dX8_number_9 rfl (lv_at hl 0 rfl) ?_
    refine lv_aload_n hx hb dX8_number_10 rfl (lv_at hl 0 rfl) ?_
    refine nx_get S0 hK hP 0 2 hin_X8 hf_16 rfl rfl (by decide) rfl rfl dX8_number_11 ?_
    refine lv_aload_n hx hb dX8_number_14 rfl (lv_at hl 0 rfl) ?_
    refine nx_get S0 hK hP 0 4 hin_X8 hf_66 rfl rfl (by decide) rfl rfl dX8_number_15 ?_
    have hg := ng_p hF
    have hF := ng_x hF
    refine nx_iald S0 hK hP 1 (v := th_text th_at.toNatClampNeg) rfl hg rfl dX8_number_18 ?_
    refine lv_bipush (v := (nI 48)) hx hb dX8_number_19 (by decide) ?_
    refine lv_isub hx hb dX8_number_21 ?_
    refine nx_put S0 hK hP hD hS 0 7 hin_X8 tyX8 tyX8_ok nmX8 hf_77 rfl rfl (by decide) rfl rfl rfl rfl (Nat.le_of_ble_eq_true rfl) dX8_number_22 (W1 := [(q_th, .inr (8, [x_th_told, x_th_now, .ref q_th_text, .int th_letters, .int th_at, x_th_read, .int th_isMore, .int ((th_text th_at.toNatClampNeg) - (nI 48)), x_th_from, x_th_to, x_th_undone, .int th_undos, x_th_aside, .int th_beganOn, .int th_beganIn, .int th_first, .int th_second, x_th_seenCell, x_th_seenNight, .int th_seens, .int th_above, .int th_below, x_th_kept, .int th_keeps])), (q_th_text, .inl (cI, 200, .inl th_text))]) rfl (fun H locs hP hD hS => ?_)
    refine lv_aload_n hx hb dX8_number_25 rfl (lv_at hl 0 rfl) ?_
    refine lv_dup hx hb dX8_number_26 rfl ?_
    refine nx_get S0 hK hP 0 4 hin_X8 hf_66 rfl rfl (by decide) rfl rfl dX8_number_27 ?_
    refine lv_iconst (v := (nI 1)) hx hb dX8_number_30 (by decide) ?_
    refine lv_iadd hx hb dX8_number_31 ?_
    refine nx_put S0 hK hP hD hS 0 4 hin_X8 tyX8 tyX8_ok nmX8 hf_66 rfl rfl (by decide) rfl rfl rfl rfl (Nat.le_of_ble_eq_true rfl) dX8_number_32 (W1 := [(q_th, .inr (8, [x_th_told, x_th_now, .ref q_th_text, .int th_letters, .int (th_at + (nI 1)), x_th_read, .int th_isMore, .int ((th_text th_at.toNatClampNeg) - (nI 48)), x_th_from, x_th_to, x_th_undone, .int th_undos, x_th_aside, .int th_beganOn, .int th_beganIn, .int th_first, .int th_second, x_th_seenCell, x_th_seenNight, .int th_seens, .int th_above, .int th_below, x_th_kept, .int th_keeps])), (q_th_text, .inl (cI, 200, .inl th_text))]) rfl (fun H locs hP hD hS => ?_)
    refine lv_aload_n hx hb dX8_number_35 rfl (lv_at hl 0 rfl) ?_
    obtain ⟨o36, hF1, hF⟩ := ng_b hF
    refine nx_callVi (As := []) (rest := []) (W1 := [(q_th, .inr (8, [x_th_told, x_th_now, .ref q_th_text, .int th_letters, .int (th_at + (nI 1)), x_th_read, .int th_isMore, .int ((th_text th_at.toNatClampNeg) - (nI 48)), x_th_from, x_th_to, x_th_undone, .int th_undos, x_th_aside, .int th_beganOn, .int th_beganIn, .int th_first, .int th_second, x_th_seenCell, x_th_seenNight, .int th_seens, .int th_above, .int th_below, x_th_kept, .int th_keeps])), (q_th_text, .inl (cI, 200, .inl th_text))]) (wr := []) S0 hK hN hA hP hD hS (kX8_isFigure l dC dI cI q_th q_th_text _ (x_th_told) (x_th_now) th_letters (th_at + (nI 1)) (x_th_read) th_isMore ((th_text th_at.toNatClampNeg) - (nI 48)) (x_th_from) (x_th_to) (x_th_undone) th_undos (x_th_aside) th_beganOn th_beganIn th_first th_second (x_th_seenCell) (x_th_seenNight) th_seens th_above th_below (x_th_kept) th_keeps th_text N o36 hF1) (cwV 0 hts gX8_number_X8_isFigure rfl rfl rfl ⟨rfl, hdX8_isFigure⟩ ⟨Nat.le_of_ble_eq_true rfl, Nat.le_of_ble_eq_true rfl⟩) [0, 1] [] [0, 1] rfl rfl rfl rfl 0 8 rfl rfl rfl rfl hl.1 rfl (Nat.le_of_ble_eq_true rfl) dX8_number_36 (fun H locs hP hD hS => ?_)
    have B_76 : ∀ (th_at_76 : Int32) (th_told0_76 : Int32), fX8_number_76 N th_letters p1 p2 p3 th_text th_at_76 th_told0_76 = some o → ∀ (H : Heap) (locs : List Loc) (ls : Array Slot), va_P (dC, dI) vwCl [(q_th, .inr (8, [x_th_told, x_th_now, .ref q_th_text, .int th_letters, .int th_at_76, x_th_read, .int th_isMore, .int th_told0_76, x_th_from, x_th_to, x_th_undone, .int th_undos, x_th_aside, .int th_beganOn, .int th_beganIn, .int th_first, .int th_second, x_th_seenCell, x_th_seenNight, .int th_seens, .int th_above, .int th_below, x_th_kept, .int th_keeps])), (q_th_text, .inl (cI, 200, .inl th_text))] H → va_D A [(q_th, .inr (8, [x_th_told, x_th_now, .ref q_th_text, .int th_letters, .int th_at_76, x_th_read, .int th_isMore, .int th_told0_76, x_th_from, x_th_to, x_th_undone, .int th_undos, x_th_aside, .int th_beganOn, .int th_beganIn, .int th_first, .int th_second, x_th_seenCell, x_th_seenNight, .int th_seens, .int th_above, .int th_below, x_th_kept, .int th_keeps])), (q_th_text, .inl (cI, 200, .inl th_text))] → va_S A s.heap H locs → lv_has ls 5 [(0, .ref q_th), (1, .int p1), (2, .int p2), (3, .int p3)] → W p l e ({ frames := 2, cells := 0, slots := 0, locals := 45 } : Room) s m args below meth c H locs 0 0 Q (F0 m 76 ls []) := by
      intro th_at_76 th_told0_76 hF H locs ls hP hD hS hl
      rw [fX8_number_76_e] at hF
      refine lv_aload_n hx hb dX8_number_76 rfl (lv_at hl 0 rfl) ?_
      refine nx_get S0 hK hP 0 7 hin_X8 hf_77 rfl rfl (by decide) rfl rfl dX8_number_77 ?_
      refine lv_i2l hx hb dX8_number_80 rfl ?_
      refine lv_iload_n hx hb dX8_number_81 rfl (lv_at hl 1 rfl) ?_
      refine lv_i2l hx hb dX8_number_82 rfl ?_
      refine lv_iload_n hx hb dX8_number_83 rfl (lv_at hl 2 rfl) ?_
      refine lv_i2l hx hb dX8_number_84 rfl ?_
      obtain ⟨o85, hF1, hF⟩ := ng_b hF
      refine nx_callSi (As := [.long th_told0_76.toInt64, .long p1.toInt64, .long p2.toInt64]) (rest := []) (W1 := [(q_th, .inr (8, [x_th_told, x_th_now, .ref q_th_text, .int th_letters, .int th_at_76, x_th_read, .int th_isMore, .int th_told0_76, x_th_from, x_th_to, x_th_undone, .int th_undos, x_th_aside, .int th_beganOn, .int th_beganIn, .int th_first, .int th_second, x_th_seenCell, x_th_seenNight, .int th_seens, .int th_above, .int th_below, x_th_kept, .int th_keeps])), (q_th_text, .inl (cI, 200, .inl th_text))]) (wr := [(q_th, .inr (8, [x_th_told, x_th_now, .ref q_th_text, .int th_letters, .int th_at_76, x_th_read, .int th_isMore, .int th_told0_76, x_th_from, x_th_to, x_th_undone, .int th_undos, x_th_aside, .int th_beganOn, .int th_beganIn, .int th_first, .int th_second, x_th_seenCell, x_th_seenNight, .int th_seens, .int th_above, .int th_below, x_th_kept, .int th_keeps])), (q_th_text, .inl (cI, 200, .inl th_text))]) S0 hK hN hA hP hD hS (kX8_in l dC dI cI _ th_told0_76.toInt64 p1.toInt64 p2.toInt64 N o85 hF1) (va_cwS 3 hts gX8_number_X8_in rfl rfl rfl hdX8_in ⟨Nat.le_of_ble_eq_true rfl, Nat.le_of_ble_eq_true rfl⟩) [] [0, 1] [0, 1] rfl rfl rfl rfl rfl hl.1 rfl (Nat.le_of_ble_eq_true rfl) dX8_number_85 (fun H locs hP hD hS => ?_)
      have B_120 : ∀ (s0_120 : Int32), fX8_number_120 th_at_76 th_told0_76 s0_120 = some o → ∀ (H : Heap) (locs : List Loc) (ls : Array Slot), va_P (dC, dI) vwCl [(q_th, .inr (8, [x_th_told, x_th_now, .ref q_th_text, .int th_letters, .int th_at_76, x_th_read, .int th_isMore, .int th_told0_76, x_th_from, x_th_to, x_th_undone, .int th_undos, x_th_aside, .int th_beganOn, .int th_beganIn, .int th_first, .int th_second, x_th_seenCell, x_th_seenNight, .int th_seens, .int th_above, .int th_below, x_th_kept, .int th_keeps])), (q_th_text, .inl (cI, 200, .inl th_text))] H → va_D A [(q_th, .inr (8, [x_th_told, x_th_now, .ref q_th_text, .int th_letters, .int th_at_76, x_th_read, .int th_isMore, .int th_told0_76, x_th_from, x_th_to, x_th_undone, .int th_undos, x_th_aside, .int th_beganOn, .int th_beganIn, .int th_first, .int th_second, x_th_seenCell, x_th_seenNight, .int th_seens, .int th_above, .int th_below, x_th_kept, .int th_keeps])), (q_th_text, .inl (cI, 200, .inl th_text))] → va_S A s.heap H locs → lv_has ls 5 [(0, .ref q_th)] → W p l e ({ frames := 2, cells := 0, slots := 0, locals := 45 } : Room) s m args below meth c H locs 0 0 Q (F0 m 120 ls [.int s0_120]) := by
        intro s0_120 hF H locs ls hP hD hS hl
        rw [fX8_number_120_e] at hF
        refine lv_istore (lv' := [(4, .int s0_120), (0, .ref q_th)]) hx hb dX8_number_120 hl (by decide) rfl (fun ls hl => ?_)
        refine lv_aload_n hx hb dX8_number_122 rfl (lv_at hl 1 rfl) ?_
        refine lv_dup hx hb dX8_number_123 rfl ?_
        refine nx_get S0 hK hP 0 4 hin_X8 hf_66 rfl rfl (by decide) rfl rfl dX8_number_124 ?_
        refine lv_iconst (v := (nI 1)) hx hb dX8_number_127 (by decide) ?_
        refine lv_iadd hx hb dX8_number_128 ?_
        refine nx_put S0 hK hP hD hS 0 4 hin_X8 tyX8 tyX8_ok nmX8 hf_66 rfl rfl (by decide) rfl rfl rfl rfl (Nat.le_of_ble_eq_true rfl) dX8_number_129 (W1 := [(q_th, .inr (8, [x_th_told, x_th_now, .ref q_th_text, .int th_letters, .int (th_at_76 + (nI 1)), x_th_read, .int th_isMore, .int th_told0_76, x_th_from, x_th_to, x_th_undone, .int th_undos, x_th_aside, .int th_beganOn, .int th_beganIn, .int th_first, .int th_second, x_th_seenCell, x_th_seenNight, .int th_seens, .int th_above, .int th_below, x_th_kept, .int th_keeps])), (q_th_text, .inl (cI, 200, .inl th_text))]) rfl (fun H locs hP hD hS => ?_)
        refine lv_iload hx hb dX8_number_132 (lv_at hl 0 rfl) ?_
        have hg := ng_p hF
        have hF := ng_x hF
        exact hret s0_120 (th_at_76 + (nI 1)) th_told0_76 _ _ _ _ hg hF dX8_number_134 hP hD hS
      have B_119 : fX8_number_119 th_at_76 th_told0_76 = some o → ∀ (H : Heap) (locs : List Loc) (ls : Array Slot), va_P (dC, dI) vwCl [(q_th, .inr (8, [x_th_told, x_th_now, .ref q_th_text, .int th_letters, .int th_at_76, x_th_read, .int th_isMore, .int th_told0_76, x_th_from, x_th_to, x_th_undone, .int th_undos, x_th_aside, .int th_beganOn, .int th_beganIn, .int th_first, .int th_second, x_th_seenCell, x_th_seenNight, .int th_seens, .int th_above, .int th_below, x_th_kept, .int th_keeps])), (q_th_text, .inl (cI, 200, .inl th_text))] H → va_D A [(q_th, .inr (8, [x_th_told, x_th_now, .ref q_th_text, .int th_letters, .int th_at_76, x_th_read, .int th_isMore, .int th_told0_76, x_th_from, x_th_to, x_th_undone, .int th_undos, x_th_aside, .int th_beganOn, .int th_beganIn, .int th_first, .int th_second, x_th_seenCell, x_th_seenNight, .int th_seens, .int th_above, .int th_below, x_th_kept, .int th_keeps])), (q_th_text, .inl (cI, 200, .inl th_text))] → va_S A s.heap H locs → lv_has ls 5 [(0, .ref q_th)] → W p l e ({ frames := 2, cells := 0, slots := 0, locals := 45 } : Room) s m args below meth c H locs 0 0 Q (F0 m 119 ls []) := by
        intro  hF H locs ls hP hD hS hl
        rw [fX8_number_119_e] at hF
        refine lv_iconst (v := (nI 0)) hx hb dX8_number_119 (by decide) ?_
        exact B_120 (nI 0) hF _ _ _ hP hD hS (lv_sub hl [0] rfl)
      refine lv_if_eq (tgt := 119) hx hb dX8_number_88 (by decide) (fun hc => ?_) (fun hc => ?_)
      · have hF := ng_t hc hF
        exact B_119  hF _ _ _ hP hD hS (lv_sub hl [0] rfl)
      · have hF := ng_f hc hF
        refine lv_aload_n hx hb dX8_number_91 rfl (lv_at hl 0 rfl) ?_
        refine nx_get S0 hK hP 0 4 hin_X8 hf_66 rfl rfl (by decide) rfl rfl dX8_number_92 ?_
        refine lv_aload_n hx hb dX8_number_95 rfl (lv_at hl 0 rfl) ?_
        refine nx_get S0 hK hP 0 3 hin_X8 hf_62 rfl rfl (by decide) rfl rfl dX8_number_96 ?_
        refine lv_icmp_ge (tgt := 119) hx hb dX8_number_99 (by decide) (fun hc => ?_) (fun hc => ?_)
        · have hF := ng_t hc hF
          exact B_119  hF _ _ _ hP hD hS (lv_sub hl [0] rfl)
        · have hF := ng_f hc hF
          refine lv_aload_n hx hb dX8_number_102 rfl (lv_at hl 0 rfl) ?_
          refine nx_get S0 hK hP 0 2 hin_X8 hf_16 rfl rfl (by decide) rfl rfl dX8_number_103 ?_
          refine lv_aload_n hx hb dX8_number_106 rfl (lv_at hl 0 rfl) ?_
          refine nx_get S0 hK hP 0 4 hin_X8 hf_66 rfl rfl (by decide) rfl rfl dX8_number_107 ?_
          have hg := ng_p hF
          have hF := ng_x hF
          refine nx_iald S0 hK hP 1 (v := th_text th_at_76.toNatClampNeg) rfl hg rfl dX8_number_110 ?_
          refine lv_iload_n hx hb dX8_number_111 rfl (lv_at hl 3 rfl) ?_
          refine lv_icmp_ne (tgt := 119) hx hb dX8_number_112 (by decide) (fun hc => ?_) (fun hc => ?_)
          · have hF := ng_f hc hF
            exact B_119  hF _ _ _ hP hD hS (lv_sub hl [0] rfl)
          · have hF := ng_t hc hF
            refine lv_iconst (v := (nI 1)) hx hb dX8_number_115 (by decide) ?_
            refine lv_goto (tgt := 120) hx hb dX8_number_116 (by decide) ?_
            exact B_120 (nI 1) hF _ _ _ hP hD hS (lv_sub hl [0] rfl)
    refine lv_if_eq (tgt := 76) hx hb dX8_number_39 (by decide) (fun hc => ?_) (fun hc => ?_)
    · have hF := ng_t hc hF
      exact B_76 (th_at + (nI 1)) ((th_text th_at.toNatClampNeg) - (nI 48)) hF _ _ _ hP hD hS (lv_sub hl [0, 1, 2, 3] rfl)
    · have hF := ng_f hc hF
      refine lv_aload_n hx hb dX8_number_42 rfl (lv_at hl 0 rfl) ?_
      refine lv_bipush (v := (nI 10)) hx hb dX8_number_43 (by decide) ?_
      refine lv_aload_n hx hb dX8_number_45 rfl (lv_at hl 0 rfl) ?_
      refine nx_get S0 hK hP 0 7 hin_X8 hf_77 rfl rfl (by decide) rfl rfl dX8_number_46 ?_
      refine lv_imul hx hb dX8_number_49 ?_
      refine lv_aload_n hx hb dX8_number_50 rfl (lv_at hl 0 rfl) ?_
      refine nx_get S0 hK hP 0 2 hin_X8 hf_16 rfl rfl (by decide) rfl rfl dX8_number_51 ?_
      refine lv_aload_n hx hb dX8_number_54 rfl (lv_at hl 0 rfl) ?_
      refine nx_get S0 hK hP 0 4 hin_X8 hf_66 rfl rfl (by decide) rfl rfl dX8_number_55 ?_
      have hg := ng_p hF
      have hF := ng_x hF
      refine nx_iald S0 hK hP 1 (v := th_text ((th_at + (nI 1)).toNatClampNeg)) rfl hg rfl dX8_number_58 ?_
      refine lv_iadd hx hb dX8_number_59 ?_
      refine lv_bipush (v := (nI 48)) hx hb dX8_number_60 (by decide) ?_
      refine lv_isub hx hb dX8_number_62 ?_
      refine nx_put S0 hK hP hD hS 0 7 hin_X8 tyX8 tyX8_ok nmX8 hf_77 rfl rfl (by decide) rfl rfl rfl rfl (Nat.le_of_ble_eq_true rfl) dX8_number_63 (W1 := [(q_th, .inr (8, [x_th_told, x_th_now, .ref q_th_text, .int th_letters, .int (th_at + (nI 1)), x_th_read, .int th_isMore, .int ((((nI 10) * ((th_text th_at.toNatClampNeg) - (nI 48))) + (th_text ((th_at + (nI 1)).toNatClampNeg))) - (nI 48)), x_th_from, x_th_to, x_th_undone, .int th_undos, x_th_aside, .int th_beganOn, .int th_beganIn, .int th_first, .int th_second, x_th_seenCell, x_th_seenNight, .int th_seens, .int th_above, .int th_below, x_th_kept, .int th_keeps])), (q_th_text, .inl (cI, 200, .inl th_text))]) rfl (fun H locs hP hD hS => ?_)
      refine lv_aload_n hx hb dX8_number_66 rfl (lv_at hl 0 rfl) ?_
      refine lv_dup hx hb dX8_number_67 rfl ?_
      refine nx_get S0 hK hP 0 4 hin_X8 hf_66 rfl rfl (by decide) rfl rfl dX8_number_68 ?_
      refine lv_iconst (v := (nI 1)) hx hb dX8_number_71 (by decide) ?_
      refine lv_iadd hx hb dX8_number_72 ?_
      refine nx_put S0 hK hP hD hS 0 4 hin_X8 tyX8 tyX8_ok nmX8 hf_66 rfl rfl (by decide) rfl rfl rfl rfl (Nat.le_of_ble_eq_true rfl) dX8_number_73 (W1 := [(q_th, .inr (8, [x_th_told, x_th_now, .ref q_th_text, .int th_letters, .int ((th_at + (nI 1)) + (nI 1)), x_th_read, .int th_isMore, .int ((((nI 10) * ((th_text th_at.toNatClampNeg) - (nI 48))) + (th_text ((th_at + (nI 1)).toNatClampNeg))) - (nI 48)), x_th_from, x_th_to, x_th_undone, .int th_undos, x_th_aside, .int th_beganOn, .int th_beganIn, .int th_first, .int th_second, x_th_seenCell, x_th_seenNight, .int th_seens, .int th_above, .int th_below, x_th_kept, .int th_keeps])), (q_th_text, .inl (cI, 200, .inl th_text))]) rfl (fun H locs hP hD hS => ?_)
      exact B_76 ((th_at + (nI 1)) + (nI 1)) ((((nI 10) * ((th_text th_at.toNatClampNeg) - (nI 48))) + (th_text ((th_at + (nI 1)).toNatClampNeg))) - (nI 48)) hF _ _ _ hP hD hS (lv_sub hl [0, 1, 2, 3] rfl)
  · have hF := ng_t hc hF
    refine lv_iconst (v := (nI 0)) hx hb dX8_number_7 (by decide) ?_
    exact hret (nI 0) th_at th_told0 _ _ _ _ (Or.inl rfl) hF dX8_number_8 hP hD hS
theorem hdX8_readYard : yX8_readYard.cls ≠ "java/lang/invoke/MethodHandle" ∧ yX8_readYard.cls ≠ "java/lang/invoke/VarHandle" ∧ (parseMethodDescriptor yX8_readYard.desc).map (fun d => d.parameters.length) = some 0 := by decide +kernel
set_option maxHeartbeats 40000000 in
set_option maxRecDepth 100000 in
theorem kX8_readYard (l : Launch) (dC : Nat → ClassId) (dI : Nat → Nat → Nat) (cI : ClassId) (q_th : Nat) (q_th_text : Nat) (q_th_read : Nat) (sz : Nat) (x_th_told : Value) (x_th_now : Value) (th_letters : Int32) (th_at : Int32) (th_isMore : Int32) (th_told0 : Int32) (x_th_from : Value) (x_th_to : Value) (x_th_undone : Value) (th_undos : Int32) (x_th_aside : Value) (th_beganOn : Int32) (th_beganIn : Int32) (th_first : Int32) (th_second : Int32) (x_th_seenCell : Value) (x_th_seenNight : Value) (th_seens : Int32) (th_above : Int32) (th_below : Int32) (x_th_kept : Value) (th_keeps : Int32) (th_text : Nat → Int32) (th_read : Nat → Int32) (N : Nat) (o : Int32 × Int32 × Int32 × (Nat → Int32)) (hF : fX8_readYard N th_letters th_at th_isMore th_told0 th_text th_read = some o) : nx_I l yX8_readYard wsX8_readYard ({ frames := 3, cells := 0, slots := 0, locals := 69 } : Room) (dC, dI) cI [.ref q_th] [(q_th, .inr (8, [x_th_told, x_th_now, .ref q_th_text, .int th_letters, .int th_at, .ref q_th_read, .int th_isMore, .int th_told0, x_th_from, x_th_to, x_th_undone, .int th_undos, x_th_aside, .int th_beganOn, .int th_beganIn, .int th_first, .int th_second, x_th_seenCell, x_th_seenNight, .int th_seens, .int th_above, .int th_below, x_th_kept, .int th_keeps])), (q_th_text, .inl (cI, 200, .inl th_text)), (q_th_read, .inl (cI, 54, .inl th_read))] sz o.1 [(q_th, .inr (8, [x_th_told, x_th_now, .ref q_th_text, .int th_letters, .int o.2.1, .ref q_th_read, .int th_isMore, .int o.2.2.1, x_th_from, x_th_to, x_th_undone, .int th_undos, x_th_aside, .int th_beganOn, .int th_beganIn, .int th_first, .int th_second, x_th_seenCell, x_th_seenNight, .int th_seens, .int th_above, .int th_below, x_th_kept, .int th_keeps])), (q_th_text, .inl (cI, 200, .inl th_text)), (q_th_read, .inl (cI, 54, .inl o.2.2.2))] := by
  refine nx_zint (cc := cX8_readYard) (maxL := 2) (by decide) rfl (Nat.le_of_ble_eq_true rfl) ?_
  intro p e s m args below meth c Q A S0 hK hN hA ret0 hP hD hS ls hl
  have S0 : CallFix p m c cX8_readYard 2 s args wsX8_readYard RX8 := S0
  have hx := S0.1
  have hb := S0.2.1
  have hown := S0.2.2.2.1
  have hts := S0.2.2.2.2
  have hf_80 := hts (.fieldLink RX8 80 "SnailsYearModel" "isMore" "Z") (by decide +kernel)
  have hin_X8 : ∀ w ∈ wsX80, w ∈ wsX8_readYard := by decide +kernel
  have hf_77 := hts (.fieldLink RX8 77 "SnailsYearModel" "told0" "I") (by decide +kernel)
  have hf_19 := hts (.fieldLink RX8 19 "SnailsYearModel" "read" "[I") (by decide +kernel)
  have hl : lv_has ls 2 [(0, .ref q_th)] := hl
  have hret : ∀ (r0 : Int32) (y0 : Int32) (y1 : Int32) (y2 : Nat → Int32) (H : Heap) (locs : List Loc) (ls : Array Slot) (pc : Nat), (r0 = 0 ∨ r0 = 1) → some (r0, y0, y1, y2) = some o → decode cX8_readYard pc = .ok (.ireturn, 1) → va_P (dC, dI) vwCl [(q_th, .inr (8, [x_th_told, x_th_now, .ref q_th_text, .int th_letters, .int y0, .ref q_th_read, .int th_isMore, .int y1, x_th_from, x_th_to, x_th_undone, .int th_undos, x_th_aside, .int th_beganOn, .int th_beganIn, .int th_first, .int th_second, x_th_seenCell, x_th_seenNight, .int th_seens, .int th_above, .int th_below, x_th_kept, .int th_keeps])), (q_th_text, .inl (cI, 200, .inl th_text)), (q_th_read, .inl (cI, 54, .inl y2))] H → va_D A [(q_th, .inr (8, [x_th_told, x_th_now, .ref q_th_text, .int th_letters, .int y0, .ref q_th_read, .int th_isMore, .int y1, x_th_from, x_th_to, x_th_undone, .int th_undos, x_th_aside, .int th_beganOn, .int th_beganIn, .int th_first, .int th_second, x_th_seenCell, x_th_seenNight, .int th_seens, .int th_above, .int th_below, x_th_kept, .int th_keeps])), (q_th_text, .inl (cI, 200, .inl th_text)), (q_th_read, .inl (cI, 54, .inl y2))] → va_S A s.heap H locs → W p l e ({ frames := 3, cells := 0, slots := 0, locals := 69 } : Room) s m args below meth c H locs 0 0 Q (F0 m pc ls [.int r0]) := by
    intro r0 y0 y1 y2 H locs ls pc hz ho hd hP hD hS
    cases ho
    exact ret0 H locs ls pc hz hd hP hD hS
  rw [fX8_readYard_e] at hF
  refine lv_aload_n hx hb dX8_readYard_0 rfl (lv_at hl 0 rfl) ?_
  refine nx_get S0 hK hP 0 6 hin_X8 hf_80 rfl rfl (by decide) rfl rfl dX8_readYard_1 ?_
  refine lv_if_ne (tgt := 18) hx hb dX8_readYard_4 (by decide) (fun hc => ?_) (fun hc => ?_)
  · have hF := ng_f hc hF
    refine lv_iconst (v := (nI 0)) hx hb dX8_readYard_18 (by decide) ?_
    exact hret (nI 0) th_at th_told0 th_read _ _ _ _ (Or.inl rfl) hF dX8_readYard_19 hP hD hS
  · have hF := ng_t hc hF
    refine lv_aload_n hx hb dX8_readYard_7 rfl (lv_at hl 0 rfl) ?_
    refine lv_iconst (v := (nI 3)) hx hb dX8_readYard_8 (by decide) ?_
    refine lv_iconst (v := (nI 5)) hx hb dX8_readYard_9 (by decide) ?_
    refine lv_bipush (v := (nI 44)) hx hb dX8_readYard_10 (by decide) ?_
    obtain ⟨o12, hF1, hF⟩ := ng_b hF
    refine nx_callVi (As := [.int (nI 3), .int (nI 5), .int (nI 44)]) (rest := []) (W1 := [(q_th, .inr (8, [x_th_told, x_th_now, .ref q_th_text, .int th_letters, .int o12.2.1, .ref q_th_read, .int th_isMore, .int o12.2.2, x_th_from, x_th_to, x_th_undone, .int th_undos, x_th_aside, .int th_beganOn, .int th_beganIn, .int th_first, .int th_second, x_th_seenCell, x_th_seenNight, .int th_seens, .int th_above, .int th_below, x_th_kept, .int th_keeps])), (q_th_text, .inl (cI, 200, .inl th_text)), (q_th_read, .inl (cI, 54, .inl th_read))]) (wr := [(q_th_read, .inl (cI, 54, .inl th_read))]) S0 hK hN hA hP hD hS (kX8_number l dC dI cI q_th q_th_text _ (x_th_told) (x_th_now) th_letters th_at (.ref q_th_read) th_isMore th_told0 (x_th_from) (x_th_to) (x_th_undone) th_undos (x_th_aside) th_beganOn th_beganIn th_first th_second (x_th_seenCell) (x_th_seenNight) th_seens th_above th_below (x_th_kept) th_keeps th_text (nI 3) (nI 5) (nI 44) N o12 hF1) (cwV 3 hts gX8_readYard_X8_number rfl rfl rfl ⟨rfl, hdX8_number⟩ ⟨Nat.le_of_ble_eq_true rfl, Nat.le_of_ble_eq_true rfl⟩) [0, 1] [2] [1, 2, 0] rfl rfl rfl rfl 0 8 rfl rfl rfl rfl hl.1 rfl (Nat.le_of_ble_eq_true rfl) dX8_readYard_12 (fun H locs hP hD hS => ?_)
    refine lv_if_ne (tgt := 20) hx hb dX8_readYard_15 (by decide) (fun hc => ?_) (fun hc => ?_)
    · have hF := ng_f hc hF
      refine lv_aload_n hx hb dX8_readYard_20 rfl (lv_at hl 0 rfl) ?_
      refine nx_get S0 hK hP 0 7 hin_X8 hf_77 rfl rfl (by decide) rfl rfl dX8_readYard_21 ?_
      refine lv_istore_n (lv' := [(1, .int o12.2.2), (0, .ref q_th)]) hx hb dX8_readYard_24 rfl hl (by decide) rfl (fun ls hl => ?_)
      refine lv_aload_n hx hb dX8_readYard_25 rfl (lv_at hl 1 rfl) ?_
      refine lv_iconst (v := (nI 2)) hx hb dX8_readYard_26 (by decide) ?_
      refine lv_iconst (v := (nI 5)) hx hb dX8_readYard_27 (by decide) ?_
      refine lv_bipush (v := (nI 59)) hx hb dX8_readYard_28 (by decide) ?_
      obtain ⟨o30, hF1, hF⟩ := ng_b hF
      refine nx_callVi (As := [.int (nI 2), .int (nI 5), .int (nI 59)]) (rest := []) (W1 := [(q_th, .inr (8, [x_th_told, x_th_now, .ref q_th_text, .int th_letters, .int o30.2.1, .ref q_th_read, .int th_isMore, .int o30.2.2, x_th_from, x_th_to, x_th_undone, .int th_undos, x_th_aside, .int th_beganOn, .int th_beganIn, .int th_first, .int th_second, x_th_seenCell, x_th_seenNight, .int th_seens, .int th_above, .int th_below, x_th_kept, .int th_keeps])), (q_th_text, .inl (cI, 200, .inl th_text)), (q_th_read, .inl (cI, 54, .inl th_read))]) (wr := [(q_th_read, .inl (cI, 54, .inl th_read))]) S0 hK hN hA hP hD hS (kX8_number l dC dI cI q_th q_th_text _ (x_th_told) (x_th_now) th_letters o12.2.1 (.ref q_th_read) th_isMore o12.2.2 (x_th_from) (x_th_to) (x_th_undone) th_undos (x_th_aside) th_beganOn th_beganIn th_first th_second (x_th_seenCell) (x_th_seenNight) th_seens th_above th_below (x_th_kept) th_keeps th_text (nI 2) (nI 5) (nI 59) N o30 hF1) (cwV 3 hts gX8_readYard_X8_number rfl rfl rfl ⟨rfl, hdX8_number⟩ ⟨Nat.le_of_ble_eq_true rfl, Nat.le_of_ble_eq_true rfl⟩) [0, 1] [2] [1, 2, 0] rfl rfl rfl rfl 0 8 rfl rfl rfl rfl hl.1 rfl (Nat.le_of_ble_eq_true rfl) dX8_readYard_30 (fun H locs hP hD hS => ?_)
      refine lv_if_ne (tgt := 38) hx hb dX8_readYard_33 (by decide) (fun hc => ?_) (fun hc => ?_)
      · have hF := ng_f hc hF
        refine lv_aload_n hx hb dX8_readYard_38 rfl (lv_at hl 1 rfl) ?_
        refine nx_get S0 hK hP 0 5 hin_X8 hf_19 rfl rfl (by decide) rfl rfl dX8_readYard_39 ?_
        refine lv_iconst (v := (nI 0)) hx hb dX8_readYard_42 (by decide) ?_
        refine lv_iload_n hx hb dX8_readYard_43 rfl (lv_at hl 0 rfl) ?_
        refine nx_iast S0 hK hP hD hS 2 rfl (by decide) dX8_readYard_44 (W1 := [(q_th, .inr (8, [x_th_told, x_th_now, .ref q_th_text, .int th_letters, .int o30.2.1, .ref q_th_read, .int th_isMore, .int o30.2.2, x_th_from, x_th_to, x_th_undone, .int th_undos, x_th_aside, .int th_beganOn, .int th_beganIn, .int th_first, .int th_second, x_th_seenCell, x_th_seenNight, .int th_seens, .int th_above, .int th_below, x_th_kept, .int th_keeps])), (q_th_text, .inl (cI, 200, .inl th_text)), (q_th_read, .inl (cI, 54, .inl (upd th_read 0 o12.2.2)))]) rfl (fun H locs hP hD hS => ?_)
        refine lv_aload_n hx hb dX8_readYard_45 rfl (lv_at hl 1 rfl) ?_
        refine nx_get S0 hK hP 0 5 hin_X8 hf_19 rfl rfl (by decide) rfl rfl dX8_readYard_46 ?_
        refine lv_iconst (v := (nI 1)) hx hb dX8_readYard_49 (by decide) ?_
        refine lv_aload_n hx hb dX8_readYard_50 rfl (lv_at hl 1 rfl) ?_
        refine nx_get S0 hK hP 0 7 hin_X8 hf_77 rfl rfl (by decide) rfl rfl dX8_readYard_51 ?_
        refine nx_iast S0 hK hP hD hS 2 rfl (by decide) dX8_readYard_54 (W1 := [(q_th, .inr (8, [x_th_told, x_th_now, .ref q_th_text, .int th_letters, .int o30.2.1, .ref q_th_read, .int th_isMore, .int o30.2.2, x_th_from, x_th_to, x_th_undone, .int th_undos, x_th_aside, .int th_beganOn, .int th_beganIn, .int th_first, .int th_second, x_th_seenCell, x_th_seenNight, .int th_seens, .int th_above, .int th_below, x_th_kept, .int th_keeps])), (q_th_text, .inl (cI, 200, .inl th_text)), (q_th_read, .inl (cI, 54, .inl (upd (upd th_read 0 o12.2.2) 1 o30.2.2)))]) rfl (fun H locs hP hD hS => ?_)
        refine lv_iconst (v := (nI 1)) hx hb dX8_readYard_55 (by decide) ?_
        exact hret (nI 1) o30.2.1 o30.2.2 (upd (upd th_read 0 o12.2.2) 1 o30.2.2) _ _ _ _ (Or.inr rfl) hF dX8_readYard_56 hP hD hS
      · have hF := ng_t hc hF
        refine lv_iconst (v := (nI 0)) hx hb dX8_readYard_36 (by decide) ?_
        exact hret (nI 0) o30.2.1 o30.2.2 th_read _ _ _ _ (Or.inl rfl) hF dX8_readYard_37 hP hD hS
    · have hF := ng_t hc hF
      refine lv_iconst (v := (nI 0)) hx hb dX8_readYard_18 (by decide) ?_
      exact hret (nI 0) o12.2.1 o12.2.2 th_read _ _ _ _ (Or.inl rfl) hF dX8_readYard_19 hP hD hS
theorem hdX8_readKind : yX8_readKind.cls ≠ "java/lang/invoke/MethodHandle" ∧ yX8_readKind.cls ≠ "java/lang/invoke/VarHandle" ∧ (parseMethodDescriptor yX8_readKind.desc).map (fun d => d.parameters.length) = some 0 := by decide +kernel
set_option maxHeartbeats 40000000 in
set_option maxRecDepth 100000 in
theorem kX8_readKind (l : Launch) (dC : Nat → ClassId) (dI : Nat → Nat → Nat) (cI : ClassId) (q_th : Nat) (q_th_read : Nat) (q_th_text : Nat) (sz : Nat) (x_th_told : Value) (x_th_now : Value) (th_letters : Int32) (th_at : Int32) (th_isMore : Int32) (th_told0 : Int32) (x_th_from : Value) (x_th_to : Value) (x_th_undone : Value) (th_undos : Int32) (x_th_aside : Value) (th_beganOn : Int32) (th_beganIn : Int32) (th_first : Int32) (th_second : Int32) (x_th_seenCell : Value) (x_th_seenNight : Value) (th_seens : Int32) (th_above : Int32) (th_below : Int32) (x_th_kept : Value) (th_keeps : Int32) (th_read : Nat → Int32) (th_text : Nat → Int32) (N : Nat) (o : Int32 × Int32 × Int32 × (Nat → Int32)) (hF : fX8_readKind N th_letters th_at th_told0 th_read th_text = some o) : nx_I l yX8_readKind wsX8_readKind ({ frames := 3, cells := 0, slots := 0, locals := 69 } : Room) (dC, dI) cI [.ref q_th] [(q_th, .inr (8, [x_th_told, x_th_now, .ref q_th_text, .int th_letters, .int th_at, .ref q_th_read, .int th_isMore, .int th_told0, x_th_from, x_th_to, x_th_undone, .int th_undos, x_th_aside, .int th_beganOn, .int th_beganIn, .int th_first, .int th_second, x_th_seenCell, x_th_seenNight, .int th_seens, .int th_above, .int th_below, x_th_kept, .int th_keeps])), (q_th_read, .inl (cI, 54, .inl th_read)), (q_th_text, .inl (cI, 200, .inl th_text))] sz o.1 [(q_th, .inr (8, [x_th_told, x_th_now, .ref q_th_text, .int th_letters, .int o.2.1, .ref q_th_read, .int th_isMore, .int o.2.2.1, x_th_from, x_th_to, x_th_undone, .int th_undos, x_th_aside, .int th_beganOn, .int th_beganIn, .int th_first, .int th_second, x_th_seenCell, x_th_seenNight, .int th_seens, .int th_above, .int th_below, x_th_kept, .int th_keeps])), (q_th_read, .inl (cI, 54, .inl o.2.2.2)), (q_th_text, .inl (cI, 200, .inl th_text))] := by
  refine nx_zint (cc := cX8_readKind) (maxL := 3) (by decide) rfl (Nat.le_of_ble_eq_true rfl) ?_
  intro p e s m args below meth c Q A S0 hK hN hA ret0 hP hD hS ls hl
  have S0 : CallFix p m c cX8_readKind 3 s args wsX8_readKind RX8 := S0
  have hx := S0.1
  have hb := S0.2.1
  have hown := S0.2.2.2.1
  have hts := S0.2.2.2.2
  have hf_19 := hts (.fieldLink RX8 19 "SnailsYearModel" "read" "[I") (by decide +kernel)
  have hin_X8 : ∀ w ∈ wsX80, w ∈ wsX8_readKind := by decide +kernel
  have hf_77 := hts (.fieldLink RX8 77 "SnailsYearModel" "told0" "I") (by decide +kernel)
  have hl : lv_has ls 3 [(0, .ref q_th)] := hl
  have hret : ∀ (r0 : Int32) (y0 : Int32) (y1 : Int32) (y2 : Nat → Int32) (H : Heap) (locs : List Loc) (ls : Array Slot) (pc : Nat), (r0 = 0 ∨ r0 = 1) → some (r0, y0, y1, y2) = some o → decode cX8_readKind pc = .ok (.ireturn, 1) → va_P (dC, dI) vwCl [(q_th, .inr (8, [x_th_told, x_th_now, .ref q_th_text, .int th_letters, .int y0, .ref q_th_read, .int th_isMore, .int y1, x_th_from, x_th_to, x_th_undone, .int th_undos, x_th_aside, .int th_beganOn, .int th_beganIn, .int th_first, .int th_second, x_th_seenCell, x_th_seenNight, .int th_seens, .int th_above, .int th_below, x_th_kept, .int th_keeps])), (q_th_read, .inl (cI, 54, .inl y2)), (q_th_text, .inl (cI, 200, .inl th_text))] H → va_D A [(q_th, .inr (8, [x_th_told, x_th_now, .ref q_th_text, .int th_letters, .int y0, .ref q_th_read, .int th_isMore, .int y1, x_th_from, x_th_to, x_th_undone, .int th_undos, x_th_aside, .int th_beganOn, .int th_beganIn, .int th_first, .int th_second, x_th_seenCell, x_th_seenNight, .int th_seens, .int th_above, .int th_below, x_th_kept, .int th_keeps])), (q_th_read, .inl (cI, 54, .inl y2)), (q_th_text, .inl (cI, 200, .inl th_text))] → va_S A s.heap H locs → W p l e ({ frames := 3, cells := 0, slots := 0, locals := 69 } : Room) s m args below meth c H locs 0 0 Q (F0 m pc ls [.int r0]) := by
    intro r0 y0 y1 y2 H locs ls pc hz ho hd hP hD hS
    cases ho
    exact ret0 H locs ls pc hz hd hP hD hS
  rw [fX8_readKind_e] at hF
  refine lv_aload_n hx hb dX8_readKind_0 rfl (lv_at hl 0 rfl) ?_
  refine lv_iconst (v := (nI 0)) hx hb dX8_readKind_1 (by decide) ?_
  refine lv_aload_n hx hb dX8_readKind_2 rfl (lv_at hl 0 rfl) ?_
  refine nx_get S0 hK hP 0 5 hin_X8 hf_19 rfl rfl (by decide) rfl rfl dX8_readKind_3 ?_
  refine lv_iconst (v := (nI 0)) hx hb dX8_readKind_6 (by decide) ?_
  refine nx_iald S0 hK hP 1 (v := th_read 0) rfl (by decide) rfl dX8_readKind_7 ?_
  refine lv_aload_n hx hb dX8_readKind_8 rfl (lv_at hl 0 rfl) ?_
  refine nx_get S0 hK hP 0 5 hin_X8 hf_19 rfl rfl (by decide) rfl rfl dX8_readKind_9 ?_
  refine lv_iconst (v := (nI 1)) hx hb dX8_readKind_12 (by decide) ?_
  refine nx_iald S0 hK hP 1 (v := th_read 1) rfl (by decide) rfl dX8_readKind_13 ?_
  refine lv_imul hx hb dX8_readKind_14 ?_
  refine lv_iconst (v := (nI 1)) hx hb dX8_readKind_15 (by decide) ?_
  refine lv_isub hx hb dX8_readKind_16 ?_
  refine lv_bipush (v := (nI 44)) hx hb dX8_readKind_17 (by decide) ?_
  obtain ⟨o19, hF1, hF⟩ := ng_b hF
  refine nx_callVi (As := [.int (nI 0), .int (((th_read 0) * (th_read 1)) - (nI 1)), .int (nI 44)]) (rest := []) (W1 := [(q_th, .inr (8, [x_th_told, x_th_now, .ref q_th_text, .int th_letters, .int o19.2.1, .ref q_th_read, .int th_isMore, .int o19.2.2, x_th_from, x_th_to, x_th_undone, .int th_undos, x_th_aside, .int th_beganOn, .int th_beganIn, .int th_first, .int th_second, x_th_seenCell, x_th_seenNight, .int th_seens, .int th_above, .int th_below, x_th_kept, .int th_keeps])), (q_th_read, .inl (cI, 54, .inl th_read)), (q_th_text, .inl (cI, 200, .inl th_text))]) (wr := [(q_th_read, .inl (cI, 54, .inl th_read))]) S0 hK hN hA hP hD hS (kX8_number l dC dI cI q_th q_th_text _ (x_th_told) (x_th_now) th_letters th_at (.ref q_th_read) th_isMore th_told0 (x_th_from) (x_th_to) (x_th_undone) th_undos (x_th_aside) th_beganOn th_beganIn th_first th_second (x_th_seenCell) (x_th_seenNight) th_seens th_above th_below (x_th_kept) th_keeps th_text (nI 0) (((th_read 0) * (th_read 1)) - (nI 1)) (nI 44) N o19 hF1) (cwV 3 hts gX8_readKind_X8_number rfl rfl rfl ⟨rfl, hdX8_number⟩ ⟨Nat.le_of_ble_eq_true rfl, Nat.le_of_ble_eq_true rfl⟩) [0, 2] [1] [1, 0, 2] rfl rfl rfl rfl 0 8 rfl rfl rfl rfl hl.1 rfl (Nat.le_of_ble_eq_true rfl) dX8_readKind_19 (fun H locs hP hD hS => ?_)
  refine lv_if_ne (tgt := 27) hx hb dX8_readKind_22 (by decide) (fun hc => ?_) (fun hc => ?_)
  · have hF := ng_f hc hF
    refine lv_aload_n hx hb dX8_readKind_27 rfl (lv_at hl 0 rfl) ?_
    refine nx_get S0 hK hP 0 7 hin_X8 hf_77 rfl rfl (by decide) rfl rfl dX8_readKind_28 ?_
    refine lv_istore_n (lv' := [(1, .int o19.2.2), (0, .ref q_th)]) hx hb dX8_readKind_31 rfl hl (by decide) rfl (fun ls hl => ?_)
    refine lv_aload_n hx hb dX8_readKind_32 rfl (lv_at hl 1 rfl) ?_
    refine lv_iconst (v := (nI 0)) hx hb dX8_readKind_33 (by decide) ?_
    refine lv_iconst (v := (nI 4)) hx hb dX8_readKind_34 (by decide) ?_
    refine lv_bipush (v := (nI 59)) hx hb dX8_readKind_35 (by decide) ?_
    obtain ⟨o37, hF1, hF⟩ := ng_b hF
    refine nx_callVi (As := [.int (nI 0), .int (nI 4), .int (nI 59)]) (rest := []) (W1 := [(q_th, .inr (8, [x_th_told, x_th_now, .ref q_th_text, .int th_letters, .int o37.2.1, .ref q_th_read, .int th_isMore, .int o37.2.2, x_th_from, x_th_to, x_th_undone, .int th_undos, x_th_aside, .int th_beganOn, .int th_beganIn, .int th_first, .int th_second, x_th_seenCell, x_th_seenNight, .int th_seens, .int th_above, .int th_below, x_th_kept, .int th_keeps])), (q_th_read, .inl (cI, 54, .inl th_read)), (q_th_text, .inl (cI, 200, .inl th_text))]) (wr := [(q_th_read, .inl (cI, 54, .inl th_read))]) S0 hK hN hA hP hD hS (kX8_number l dC dI cI q_th q_th_text _ (x_th_told) (x_th_now) th_letters o19.2.1 (.ref q_th_read) th_isMore o19.2.2 (x_th_from) (x_th_to) (x_th_undone) th_undos (x_th_aside) th_beganOn th_beganIn th_first th_second (x_th_seenCell) (x_th_seenNight) th_seens th_above th_below (x_th_kept) th_keeps th_text (nI 0) (nI 4) (nI 59) N o37 hF1) (cwV 3 hts gX8_readKind_X8_number rfl rfl rfl ⟨rfl, hdX8_number⟩ ⟨Nat.le_of_ble_eq_true rfl, Nat.le_of_ble_eq_true rfl⟩) [0, 2] [1] [1, 0, 2] rfl rfl rfl rfl 0 8 rfl rfl rfl rfl hl.1 rfl (Nat.le_of_ble_eq_true rfl) dX8_readKind_37 (fun H locs hP hD hS => ?_)
    refine lv_istore_n (lv' := [(2, .int o37.1), (1, .int o19.2.2), (0, .ref q_th)]) hx hb dX8_readKind_40 rfl hl (by decide) rfl (fun ls hl => ?_)
    refine lv_aload_n hx hb dX8_readKind_41 rfl (lv_at hl 2 rfl) ?_
    refine nx_get S0 hK hP 0 5 hin_X8 hf_19 rfl rfl (by decide) rfl rfl dX8_readKind_42 ?_
    refine lv_bipush (v := (nI 29)) hx hb dX8_readKind_45 (by decide) ?_
    refine lv_iload_n hx hb dX8_readKind_47 rfl (lv_at hl 1 rfl) ?_
    refine lv_iadd hx hb dX8_readKind_48 ?_
    refine lv_aload_n hx hb dX8_readKind_49 rfl (lv_at hl 2 rfl) ?_
    refine nx_get S0 hK hP 0 7 hin_X8 hf_77 rfl rfl (by decide) rfl rfl dX8_readKind_50 ?_
    have hg := ng_p hF
    have hF := ng_x hF
    refine nx_iast S0 hK hP hD hS 1 rfl hg dX8_readKind_53 (W1 := [(q_th, .inr (8, [x_th_told, x_th_now, .ref q_th_text, .int th_letters, .int o37.2.1, .ref q_th_read, .int th_isMore, .int o37.2.2, x_th_from, x_th_to, x_th_undone, .int th_undos, x_th_aside, .int th_beganOn, .int th_beganIn, .int th_first, .int th_second, x_th_seenCell, x_th_seenNight, .int th_seens, .int th_above, .int th_below, x_th_kept, .int th_keeps])), (q_th_read, .inl (cI, 54, .inl (upd th_read (((nI 29) + o19.2.2).toNatClampNeg) o37.2.2))), (q_th_text, .inl (cI, 200, .inl th_text))]) rfl (fun H locs hP hD hS => ?_)
    refine lv_iload_n hx hb dX8_readKind_54 rfl (lv_at hl 0 rfl) ?_
    have hg := ng_p hF
    have hF := ng_x hF
    exact hret o37.1 o37.2.1 o37.2.2 (upd th_read (((nI 29) + o19.2.2).toNatClampNeg) o37.2.2) _ _ _ _ hg hF dX8_readKind_55 hP hD hS
  · have hF := ng_t hc hF
    refine lv_iconst (v := (nI 0)) hx hb dX8_readKind_25 (by decide) ?_
    exact hret (nI 0) o19.2.1 o19.2.2 th_read _ _ _ _ (Or.inl rfl) hF dX8_readKind_26 hP hD hS
theorem hdX8_readRent : yX8_readRent.cls ≠ "java/lang/invoke/MethodHandle" ∧ yX8_readRent.cls ≠ "java/lang/invoke/VarHandle" ∧ (parseMethodDescriptor yX8_readRent.desc).map (fun d => d.parameters.length) = some 0 := by decide +kernel
set_option maxHeartbeats 40000000 in
set_option maxRecDepth 100000 in
theorem kX8_readRent (l : Launch) (dC : Nat → ClassId) (dI : Nat → Nat → Nat) (cI : ClassId) (q_th : Nat) (q_th_read : Nat) (q_th_text : Nat) (sz : Nat) (x_th_told : Value) (x_th_now : Value) (th_letters : Int32) (th_at : Int32) (th_isMore : Int32) (th_told0 : Int32) (x_th_from : Value) (x_th_to : Value) (x_th_undone : Value) (th_undos : Int32) (x_th_aside : Value) (th_beganOn : Int32) (th_beganIn : Int32) (th_first : Int32) (th_second : Int32) (x_th_seenCell : Value) (x_th_seenNight : Value) (th_seens : Int32) (th_above : Int32) (th_below : Int32) (x_th_kept : Value) (th_keeps : Int32) (th_read : Nat → Int32) (th_text : Nat → Int32) (N : Nat) (o : Int32 × Int32 × Int32 × (Nat → Int32)) (hF : fX8_readRent N th_letters th_at th_told0 th_read th_text = some o) : nx_I l yX8_readRent wsX8_readRent ({ frames := 3, cells := 0, slots := 0, locals := 69 } : Room) (dC, dI) cI [.ref q_th] [(q_th, .inr (8, [x_th_told, x_th_now, .ref q_th_text, .int th_letters, .int th_at, .ref q_th_read, .int th_isMore, .int th_told0, x_th_from, x_th_to, x_th_undone, .int th_undos, x_th_aside, .int th_beganOn, .int th_beganIn, .int th_first, .int th_second, x_th_seenCell, x_th_seenNight, .int th_seens, .int th_above, .int th_below, x_th_kept, .int th_keeps])), (q_th_read, .inl (cI, 54, .inl th_read)), (q_th_text, .inl (cI, 200, .inl th_text))] sz o.1 [(q_th, .inr (8, [x_th_told, x_th_now, .ref q_th_text, .int th_letters, .int o.2.1, .ref q_th_read, .int th_isMore, .int o.2.2.1, x_th_from, x_th_to, x_th_undone, .int th_undos, x_th_aside, .int th_beganOn, .int th_beganIn, .int th_first, .int th_second, x_th_seenCell, x_th_seenNight, .int th_seens, .int th_above, .int th_below, x_th_kept, .int th_keeps])), (q_th_read, .inl (cI, 54, .inl o.2.2.2)), (q_th_text, .inl (cI, 200, .inl th_text))] := by
  refine nx_zint (cc := cX8_readRent) (maxL := 3) (by decide) rfl (Nat.le_of_ble_eq_true rfl) ?_
  intro p e s m args below meth c Q A S0 hK hN hA ret0 hP hD hS ls hl
  have S0 : CallFix p m c cX8_readRent 3 s args wsX8_readRent RX8 := S0
  have hx := S0.1
  have hb := S0.2.1
  have hown := S0.2.2.2.1
  have hts := S0.2.2.2.2
  have hf_19 := hts (.fieldLink RX8 19 "SnailsYearModel" "read" "[I") (by decide +kernel)
  have hin_X8 : ∀ w ∈ wsX80, w ∈ wsX8_readRent := by decide +kernel
  have hf_77 := hts (.fieldLink RX8 77 "SnailsYearModel" "told0" "I") (by decide +kernel)
  have hl : lv_has ls 3 [(0, .ref q_th)] := hl
  have hret : ∀ (r0 : Int32) (y0 : Int32) (y1 : Int32) (y2 : Nat → Int32) (H : Heap) (locs : List Loc) (ls : Array Slot) (pc : Nat), (r0 = 0 ∨ r0 = 1) → some (r0, y0, y1, y2) = some o → decode cX8_readRent pc = .ok (.ireturn, 1) → va_P (dC, dI) vwCl [(q_th, .inr (8, [x_th_told, x_th_now, .ref q_th_text, .int th_letters, .int y0, .ref q_th_read, .int th_isMore, .int y1, x_th_from, x_th_to, x_th_undone, .int th_undos, x_th_aside, .int th_beganOn, .int th_beganIn, .int th_first, .int th_second, x_th_seenCell, x_th_seenNight, .int th_seens, .int th_above, .int th_below, x_th_kept, .int th_keeps])), (q_th_read, .inl (cI, 54, .inl y2)), (q_th_text, .inl (cI, 200, .inl th_text))] H → va_D A [(q_th, .inr (8, [x_th_told, x_th_now, .ref q_th_text, .int th_letters, .int y0, .ref q_th_read, .int th_isMore, .int y1, x_th_from, x_th_to, x_th_undone, .int th_undos, x_th_aside, .int th_beganOn, .int th_beganIn, .int th_first, .int th_second, x_th_seenCell, x_th_seenNight, .int th_seens, .int th_above, .int th_below, x_th_kept, .int th_keeps])), (q_th_read, .inl (cI, 54, .inl y2)), (q_th_text, .inl (cI, 200, .inl th_text))] → va_S A s.heap H locs → W p l e ({ frames := 3, cells := 0, slots := 0, locals := 69 } : Room) s m args below meth c H locs 0 0 Q (F0 m pc ls [.int r0]) := by
    intro r0 y0 y1 y2 H locs ls pc hz ho hd hP hD hS
    cases ho
    exact ret0 H locs ls pc hz hd hP hD hS
  rw [fX8_readRent_e] at hF
  refine lv_aload_n hx hb dX8_readRent_0 rfl (lv_at hl 0 rfl) ?_
  refine nx_get S0 hK hP 0 5 hin_X8 hf_19 rfl rfl (by decide) rfl rfl dX8_readRent_1 ?_
  refine lv_bipush (v := (nI 13)) hx hb dX8_readRent_4 (by decide) ?_
  refine nx_iald S0 hK hP 1 (v := th_read 13) rfl (by decide) rfl dX8_readRent_6 ?_
  refine lv_istore_n (lv' := [(1, .int (th_read 13)), (0, .ref q_th)]) hx hb dX8_readRent_7 rfl hl (by decide) rfl (fun ls hl => ?_)
  refine lv_iload_n hx hb dX8_readRent_8 rfl (lv_at hl 0 rfl) ?_
  refine lv_iconst (v := (nI 5)) hx hb dX8_readRent_9 (by decide) ?_
  refine lv_icmp_eq (tgt := 25) hx hb dX8_readRent_10 (by decide) (fun hc => ?_) (fun hc => ?_)
  · have hF := ng_t hc hF
    refine lv_iconst (v := (nI 0)) hx hb dX8_readRent_25 (by decide) ?_
    exact hret (nI 0) th_at th_told0 th_read _ _ _ _ (Or.inl rfl) hF dX8_readRent_26 hP hD hS
  · have hF := ng_f hc hF
    refine lv_aload_n hx hb dX8_readRent_13 rfl (lv_at hl 1 rfl) ?_
    refine lv_iconst (v := (nI 0)) hx hb dX8_readRent_14 (by decide) ?_
    refine lv_bipush (v := (nI 60)) hx hb dX8_readRent_15 (by decide) ?_
    refine lv_bipush (v := (nI 44)) hx hb dX8_readRent_17 (by decide) ?_
    obtain ⟨o19, hF1, hF⟩ := ng_b hF
    refine nx_callVi (As := [.int (nI 0), .int (nI 60), .int (nI 44)]) (rest := []) (W1 := [(q_th, .inr (8, [x_th_told, x_th_now, .ref q_th_text, .int th_letters, .int o19.2.1, .ref q_th_read, .int th_isMore, .int o19.2.2, x_th_from, x_th_to, x_th_undone, .int th_undos, x_th_aside, .int th_beganOn, .int th_beganIn, .int th_first, .int th_second, x_th_seenCell, x_th_seenNight, .int th_seens, .int th_above, .int th_below, x_th_kept, .int th_keeps])), (q_th_read, .inl (cI, 54, .inl th_read)), (q_th_text, .inl (cI, 200, .inl th_text))]) (wr := [(q_th_read, .inl (cI, 54, .inl th_read))]) S0 hK hN hA hP hD hS (kX8_number l dC dI cI q_th q_th_text _ (x_th_told) (x_th_now) th_letters th_at (.ref q_th_read) th_isMore th_told0 (x_th_from) (x_th_to) (x_th_undone) th_undos (x_th_aside) th_beganOn th_beganIn th_first th_second (x_th_seenCell) (x_th_seenNight) th_seens th_above th_below (x_th_kept) th_keeps th_text (nI 0) (nI 60) (nI 44) N o19 hF1) (cwV 3 hts gX8_readRent_X8_number rfl rfl rfl ⟨rfl, hdX8_number⟩ ⟨Nat.le_of_ble_eq_true rfl, Nat.le_of_ble_eq_true rfl⟩) [0, 2] [1] [1, 0, 2] rfl rfl rfl rfl 0 8 rfl rfl rfl rfl hl.1 rfl (Nat.le_of_ble_eq_true rfl) dX8_readRent_19 (fun H locs hP hD hS => ?_)
    refine lv_if_ne (tgt := 27) hx hb dX8_readRent_22 (by decide) (fun hc => ?_) (fun hc => ?_)
    · have hF := ng_f hc hF
      refine lv_aload_n hx hb dX8_readRent_27 rfl (lv_at hl 1 rfl) ?_
      refine nx_get S0 hK hP 0 5 hin_X8 hf_19 rfl rfl (by decide) rfl rfl dX8_readRent_28 ?_
      refine lv_bipush (v := (nI 14)) hx hb dX8_readRent_31 (by decide) ?_
      refine lv_iconst (v := (nI 2)) hx hb dX8_readRent_33 (by decide) ?_
      refine lv_iload_n hx hb dX8_readRent_34 rfl (lv_at hl 0 rfl) ?_
      refine lv_imul hx hb dX8_readRent_35 ?_
      refine lv_iadd hx hb dX8_readRent_36 ?_
      refine lv_aload_n hx hb dX8_readRent_37 rfl (lv_at hl 1 rfl) ?_
      refine nx_get S0 hK hP 0 7 hin_X8 hf_77 rfl rfl (by decide) rfl rfl dX8_readRent_38 ?_
      have hg := ng_p hF
      have hF := ng_x hF
      refine nx_iast S0 hK hP hD hS 1 rfl hg dX8_readRent_41 (W1 := [(q_th, .inr (8, [x_th_told, x_th_now, .ref q_th_text, .int th_letters, .int o19.2.1, .ref q_th_read, .int th_isMore, .int o19.2.2, x_th_from, x_th_to, x_th_undone, .int th_undos, x_th_aside, .int th_beganOn, .int th_beganIn, .int th_first, .int th_second, x_th_seenCell, x_th_seenNight, .int th_seens, .int th_above, .int th_below, x_th_kept, .int th_keeps])), (q_th_read, .inl (cI, 54, .inl (upd th_read (((nI 14) + ((nI 2) * (th_read 13))).toNatClampNeg) o19.2.2))), (q_th_text, .inl (cI, 200, .inl th_text))]) rfl (fun H locs hP hD hS => ?_)
      refine lv_aload_n hx hb dX8_readRent_42 rfl (lv_at hl 1 rfl) ?_
      refine lv_iconst (v := (nI 1)) hx hb dX8_readRent_43 (by decide) ?_
      refine lv_bipush (v := (nI 99)) hx hb dX8_readRent_44 (by decide) ?_
      refine lv_bipush (v := (nI 59)) hx hb dX8_readRent_46 (by decide) ?_
      obtain ⟨o48, hF1, hF⟩ := ng_b hF
      refine nx_callVi (As := [.int (nI 1), .int (nI 99), .int (nI 59)]) (rest := []) (W1 := [(q_th, .inr (8, [x_th_told, x_th_now, .ref q_th_text, .int th_letters, .int o48.2.1, .ref q_th_read, .int th_isMore, .int o48.2.2, x_th_from, x_th_to, x_th_undone, .int th_undos, x_th_aside, .int th_beganOn, .int th_beganIn, .int th_first, .int th_second, x_th_seenCell, x_th_seenNight, .int th_seens, .int th_above, .int th_below, x_th_kept, .int th_keeps])), (q_th_read, .inl (cI, 54, .inl (upd th_read (((nI 14) + ((nI 2) * (th_read 13))).toNatClampNeg) o19.2.2))), (q_th_text, .inl (cI, 200, .inl th_text))]) (wr := [(q_th_read, .inl (cI, 54, .inl (upd th_read (((nI 14) + ((nI 2) * (th_read 13))).toNatClampNeg) o19.2.2)))]) S0 hK hN hA hP hD hS (kX8_number l dC dI cI q_th q_th_text _ (x_th_told) (x_th_now) th_letters o19.2.1 (.ref q_th_read) th_isMore o19.2.2 (x_th_from) (x_th_to) (x_th_undone) th_undos (x_th_aside) th_beganOn th_beganIn th_first th_second (x_th_seenCell) (x_th_seenNight) th_seens th_above th_below (x_th_kept) th_keeps th_text (nI 1) (nI 99) (nI 59) N o48 hF1) (cwV 3 hts gX8_readRent_X8_number rfl rfl rfl ⟨rfl, hdX8_number⟩ ⟨Nat.le_of_ble_eq_true rfl, Nat.le_of_ble_eq_true rfl⟩) [0, 2] [1] [1, 0, 2] rfl rfl rfl rfl 0 8 rfl rfl rfl rfl hl.1 rfl (Nat.le_of_ble_eq_true rfl) dX8_readRent_48 (fun H locs hP hD hS => ?_)
      refine lv_istore_n (lv' := [(2, .int o48.1), (1, .int (th_read 13)), (0, .ref q_th)]) hx hb dX8_readRent_51 rfl hl (by decide) rfl (fun ls hl => ?_)
      refine lv_aload_n hx hb dX8_readRent_52 rfl (lv_at hl 2 rfl) ?_
      refine nx_get S0 hK hP 0 5 hin_X8 hf_19 rfl rfl (by decide) rfl rfl dX8_readRent_53 ?_
      refine lv_bipush (v := (nI 15)) hx hb dX8_readRent_56 (by decide) ?_
      refine lv_iconst (v := (nI 2)) hx hb dX8_readRent_58 (by decide) ?_
      refine lv_iload_n hx hb dX8_readRent_59 rfl (lv_at hl 1 rfl) ?_
      refine lv_imul hx hb dX8_readRent_60 ?_
      refine lv_iadd hx hb dX8_readRent_61 ?_
      refine lv_aload_n hx hb dX8_readRent_62 rfl (lv_at hl 2 rfl) ?_
      refine nx_get S0 hK hP 0 7 hin_X8 hf_77 rfl rfl (by decide) rfl rfl dX8_readRent_63 ?_
      have hg := ng_p hF
      have hF := ng_x hF
      refine nx_iast S0 hK hP hD hS 1 rfl hg dX8_readRent_66 (W1 := [(q_th, .inr (8, [x_th_told, x_th_now, .ref q_th_text, .int th_letters, .int o48.2.1, .ref q_th_read, .int th_isMore, .int o48.2.2, x_th_from, x_th_to, x_th_undone, .int th_undos, x_th_aside, .int th_beganOn, .int th_beganIn, .int th_first, .int th_second, x_th_seenCell, x_th_seenNight, .int th_seens, .int th_above, .int th_below, x_th_kept, .int th_keeps])), (q_th_read, .inl (cI, 54, .inl (upd (upd th_read (((nI 14) + ((nI 2) * (th_read 13))).toNatClampNeg) o19.2.2) (((nI 15) + ((nI 2) * (th_read 13))).toNatClampNeg) o48.2.2))), (q_th_text, .inl (cI, 200, .inl th_text))]) rfl (fun H locs hP hD hS => ?_)
      refine lv_aload_n hx hb dX8_readRent_67 rfl (lv_at hl 2 rfl) ?_
      refine nx_get S0 hK hP 0 5 hin_X8 hf_19 rfl rfl (by decide) rfl rfl dX8_readRent_68 ?_
      refine lv_bipush (v := (nI 13)) hx hb dX8_readRent_71 (by decide) ?_
      refine lv_dup2_11 hx hb dX8_readRent_73 rfl rfl ?_
      refine nx_iald S0 hK hP 1 (v := (upd (upd th_read (((nI 14) + ((nI 2) * (th_read 13))).toNatClampNeg) o19.2.2) (((nI 15) + ((nI 2) * (th_read 13))).toNatClampNeg) o48.2.2) 13) rfl (by decide) rfl dX8_readRent_74 ?_
      refine lv_iconst (v := (nI 1)) hx hb dX8_readRent_75 (by decide) ?_
      refine lv_iadd hx hb dX8_readRent_76 ?_
      refine nx_iast S0 hK hP hD hS 1 rfl (by decide) dX8_readRent_77 (W1 := [(q_th, .inr (8, [x_th_told, x_th_now, .ref q_th_text, .int th_letters, .int o48.2.1, .ref q_th_read, .int th_isMore, .int o48.2.2, x_th_from, x_th_to, x_th_undone, .int th_undos, x_th_aside, .int th_beganOn, .int th_beganIn, .int th_first, .int th_second, x_th_seenCell, x_th_seenNight, .int th_seens, .int th_above, .int th_below, x_th_kept, .int th_keeps])), (q_th_read, .inl (cI, 54, .inl (upd (upd (upd th_read (((nI 14) + ((nI 2) * (th_read 13))).toNatClampNeg) o19.2.2) (((nI 15) + ((nI 2) * (th_read 13))).toNatClampNeg) o48.2.2) 13 (((upd (upd th_read (((nI 14) + ((nI 2) * (th_read 13))).toNatClampNeg) o19.2.2) (((nI 15) + ((nI 2) * (th_read 13))).toNatClampNeg) o48.2.2) 13) + (nI 1))))), (q_th_text, .inl (cI, 200, .inl th_text))]) rfl (fun H locs hP hD hS => ?_)
      refine lv_iload_n hx hb dX8_readRent_78 rfl (lv_at hl 0 rfl) ?_
      have hg := ng_p hF
      have hF := ng_x hF
      exact hret o48.1 o48.2.1 o48.2.2 (upd (upd (upd th_read (((nI 14) + ((nI 2) * (th_read 13))).toNatClampNeg) o19.2.2) (((nI 15) + ((nI 2) * (th_read 13))).toNatClampNeg) o48.2.2) 13 (((upd (upd th_read (((nI 14) + ((nI 2) * (th_read 13))).toNatClampNeg) o19.2.2) (((nI 15) + ((nI 2) * (th_read 13))).toNatClampNeg) o48.2.2) 13) + (nI 1))) _ _ _ _ hg hF dX8_readRent_79 hP hD hS
    · have hF := ng_t hc hF
      refine lv_iconst (v := (nI 0)) hx hb dX8_readRent_25 (by decide) ?_
      exact hret (nI 0) o19.2.1 o19.2.2 th_read _ _ _ _ (Or.inl rfl) hF dX8_readRent_26 hP hD hS
theorem hdX8_readOne : yX8_readOne.cls ≠ "java/lang/invoke/MethodHandle" ∧ yX8_readOne.cls ≠ "java/lang/invoke/VarHandle" ∧ (parseMethodDescriptor yX8_readOne.desc).map (fun d => d.parameters.length) = some 3 := by decide +kernel
set_option maxHeartbeats 40000000 in
set_option maxRecDepth 100000 in
theorem kX8_readOne (l : Launch) (dC : Nat → ClassId) (dI : Nat → Nat → Nat) (cI : ClassId) (q_th : Nat) (q_th_read : Nat) (q_th_text : Nat) (sz : Nat) (x_th_told : Value) (x_th_now : Value) (th_letters : Int32) (th_at : Int32) (th_isMore : Int32) (th_told0 : Int32) (x_th_from : Value) (x_th_to : Value) (x_th_undone : Value) (th_undos : Int32) (x_th_aside : Value) (th_beganOn : Int32) (th_beganIn : Int32) (th_first : Int32) (th_second : Int32) (x_th_seenCell : Value) (x_th_seenNight : Value) (th_seens : Int32) (th_above : Int32) (th_below : Int32) (x_th_kept : Value) (th_keeps : Int32) (th_read : Nat → Int32) (th_text : Nat → Int32) (p1 : Int32) (p2 : Int32) (p3 : Int32) (N : Nat) (o : Int32 × Int32 × Int32 × (Nat → Int32)) (hF : fX8_readOne N th_letters th_at th_told0 p1 p2 p3 th_read th_text = some o) : nx_I l yX8_readOne wsX8_readOne ({ frames := 3, cells := 0, slots := 0, locals := 69 } : Room) (dC, dI) cI [.ref q_th, .int p1, .int p2, .int p3] [(q_th, .inr (8, [x_th_told, x_th_now, .ref q_th_text, .int th_letters, .int th_at, .ref q_th_read, .int th_isMore, .int th_told0, x_th_from, x_th_to, x_th_undone, .int th_undos, x_th_aside, .int th_beganOn, .int th_beganIn, .int th_first, .int th_second, x_th_seenCell, x_th_seenNight, .int th_seens, .int th_above, .int th_below, x_th_kept, .int th_keeps])), (q_th_read, .inl (cI, 54, .inl th_read)), (q_th_text, .inl (cI, 200, .inl th_text))] sz o.1 [(q_th, .inr (8, [x_th_told, x_th_now, .ref q_th_text, .int th_letters, .int o.2.1, .ref q_th_read, .int th_isMore, .int o.2.2.1, x_th_from, x_th_to, x_th_undone, .int th_undos, x_th_aside, .int th_beganOn, .int th_beganIn, .int th_first, .int th_second, x_th_seenCell, x_th_seenNight, .int th_seens, .int th_above, .int th_below, x_th_kept, .int th_keeps])), (q_th_read, .inl (cI, 54, .inl o.2.2.2)), (q_th_text, .inl (cI, 200, .inl th_text))] := by
  refine nx_zint (cc := cX8_readOne) (maxL := 4) (by decide) rfl (Nat.le_of_ble_eq_true rfl) ?_
  intro p e s m args below meth c Q A S0 hK hN hA ret0 hP hD hS ls hl
  have S0 : CallFix p m c cX8_readOne 4 s args wsX8_readOne RX8 := S0
  have hx := S0.1
  have hb := S0.2.1
  have hown := S0.2.2.2.1
  have hts := S0.2.2.2.2
  have hf_19 := hts (.fieldLink RX8 19 "SnailsYearModel" "read" "[I") (by decide +kernel)
  have hin_X8 : ∀ w ∈ wsX80, w ∈ wsX8_readOne := by decide +kernel
  have hf_77 := hts (.fieldLink RX8 77 "SnailsYearModel" "told0" "I") (by decide +kernel)
  have hl : lv_has ls 4 [(0, .ref q_th), (1, .int p1), (2, .int p2), (3, .int p3)] := hl
  have hret : ∀ (r0 : Int32) (y0 : Int32) (y1 : Int32) (y2 : Nat → Int32) (H : Heap) (locs : List Loc) (ls : Array Slot) (pc : Nat), (r0 = 0 ∨ r0 = 1) → some (r0, y0, y1, y2) = some o → decode cX8_readOne pc = .ok (.ireturn, 1) → va_P (dC, dI) vwCl [(q_th, .inr (8, [x_th_told, x_th_now, .ref q_th_text, .int th_letters, .int y0, .ref q_th_read, .int th_isMore, .int y1, x_th_from, x_th_to, x_th_undone, .int th_undos, x_th_aside, .int th_beganOn, .int th_beganIn, .int th_first, .int th_second, x_th_seenCell, x_th_seenNight, .int th_seens, .int th_above, .int th_below, x_th_kept, .int th_keeps])), (q_th_read, .inl (cI, 54, .inl y2)), (q_th_text, .inl (cI, 200, .inl th_text))] H → va_D A [(q_th, .inr (8, [x_th_told, x_th_now, .ref q_th_text, .int th_letters, .int y0, .ref q_th_read, .int th_isMore, .int y1, x_th_from, x_th_to, x_th_undone, .int th_undos, x_th_aside, .int th_beganOn, .int th_beganIn, .int th_first, .int th_second, x_th_seenCell, x_th_seenNight, .int th_seens, .int th_above, .int th_below, x_th_kept, .int th_keeps])), (q_th_read, .inl (cI, 54, .inl y2)), (q_th_text, .inl (cI, 200, .inl th_text))] → va_S A s.heap H locs → W p l e ({ frames := 3, cells := 0, slots := 0, locals := 69 } : Room) s m args below meth c H locs 0 0 Q (F0 m pc ls [.int r0]) := by
    intro r0 y0 y1 y2 H locs ls pc hz ho hd hP hD hS
    cases ho
    exact ret0 H locs ls pc hz hd hP hD hS
  rw [fX8_readOne_e] at hF
  refine lv_aload_n hx hb dX8_readOne_0 rfl (lv_at hl 0 rfl) ?_
  refine nx_get S0 hK hP 0 5 hin_X8 hf_19 rfl rfl (by decide) rfl rfl dX8_readOne_1 ?_
  refine lv_iload_n hx hb dX8_readOne_4 rfl (lv_at hl 1 rfl) ?_
  have hg := ng_p hF
  have hF := ng_x hF
  refine nx_iald S0 hK hP 1 (v := th_read p1.toNatClampNeg) rfl hg rfl dX8_readOne_5 ?_
  refine lv_iload_n hx hb dX8_readOne_6 rfl (lv_at hl 2 rfl) ?_
  refine lv_icmp_eq (tgt := 21) hx hb dX8_readOne_7 (by decide) (fun hc => ?_) (fun hc => ?_)
  · have hF := ng_t hc hF
    refine lv_iconst (v := (nI 0)) hx hb dX8_readOne_21 (by decide) ?_
    exact hret (nI 0) th_at th_told0 th_read _ _ _ _ (Or.inl rfl) hF dX8_readOne_22 hP hD hS
  · have hF := ng_f hc hF
    refine lv_aload_n hx hb dX8_readOne_10 rfl (lv_at hl 0 rfl) ?_
    refine lv_iconst (v := (nI 0)) hx hb dX8_readOne_11 (by decide) ?_
    refine lv_iload_n hx hb dX8_readOne_12 rfl (lv_at hl 3 rfl) ?_
    refine lv_bipush (v := (nI 59)) hx hb dX8_readOne_13 (by decide) ?_
    obtain ⟨o15, hF1, hF⟩ := ng_b hF
    refine nx_callVi (As := [.int (nI 0), .int p3, .int (nI 59)]) (rest := []) (W1 := [(q_th, .inr (8, [x_th_told, x_th_now, .ref q_th_text, .int th_letters, .int o15.2.1, .ref q_th_read, .int th_isMore, .int o15.2.2, x_th_from, x_th_to, x_th_undone, .int th_undos, x_th_aside, .int th_beganOn, .int th_beganIn, .int th_first, .int th_second, x_th_seenCell, x_th_seenNight, .int th_seens, .int th_above, .int th_below, x_th_kept, .int th_keeps])), (q_th_read, .inl (cI, 54, .inl th_read)), (q_th_text, .inl (cI, 200, .inl th_text))]) (wr := [(q_th_read, .inl (cI, 54, .inl th_read))]) S0 hK hN hA hP hD hS (kX8_number l dC dI cI q_th q_th_text _ (x_th_told) (x_th_now) th_letters th_at (.ref q_th_read) th_isMore th_told0 (x_th_from) (x_th_to) (x_th_undone) th_undos (x_th_aside) th_beganOn th_beganIn th_first th_second (x_th_seenCell) (x_th_seenNight) th_seens th_above th_below (x_th_kept) th_keeps th_text (nI 0) p3 (nI 59) N o15 hF1) (cwV 3 hts gX8_readOne_X8_number rfl rfl rfl ⟨rfl, hdX8_number⟩ ⟨Nat.le_of_ble_eq_true rfl, Nat.le_of_ble_eq_true rfl⟩) [0, 2] [1] [1, 0, 2] rfl rfl rfl rfl 0 8 rfl rfl rfl rfl hl.1 rfl (Nat.le_of_ble_eq_true rfl) dX8_readOne_15 (fun H locs hP hD hS => ?_)
    refine lv_if_ne (tgt := 23) hx hb dX8_readOne_18 (by decide) (fun hc => ?_) (fun hc => ?_)
    · have hF := ng_f hc hF
      refine lv_aload_n hx hb dX8_readOne_23 rfl (lv_at hl 0 rfl) ?_
      refine nx_get S0 hK hP 0 5 hin_X8 hf_19 rfl rfl (by decide) rfl rfl dX8_readOne_24 ?_
      refine lv_iload_n hx hb dX8_readOne_27 rfl (lv_at hl 1 rfl) ?_
      refine lv_dup2_11 hx hb dX8_readOne_28 rfl rfl ?_
      have hg := ng_p hF
      have hF := ng_x hF
      refine nx_iald S0 hK hP 1 (v := th_read p1.toNatClampNeg) rfl hg rfl dX8_readOne_29 ?_
      refine lv_iconst (v := (nI 1)) hx hb dX8_readOne_30 (by decide) ?_
      refine lv_iadd hx hb dX8_readOne_31 ?_
      have hg := ng_p hF
      have hF := ng_x hF
      refine nx_iast S0 hK hP hD hS 1 rfl hg dX8_readOne_32 (W1 := [(q_th, .inr (8, [x_th_told, x_th_now, .ref q_th_text, .int th_letters, .int o15.2.1, .ref q_th_read, .int th_isMore, .int o15.2.2, x_th_from, x_th_to, x_th_undone, .int th_undos, x_th_aside, .int th_beganOn, .int th_beganIn, .int th_first, .int th_second, x_th_seenCell, x_th_seenNight, .int th_seens, .int th_above, .int th_below, x_th_kept, .int th_keeps])), (q_th_read, .inl (cI, 54, .inl (upd th_read p1.toNatClampNeg ((th_read p1.toNatClampNeg) + (nI 1))))), (q_th_text, .inl (cI, 200, .inl th_text))]) rfl (fun H locs hP hD hS => ?_)
      refine lv_aload_n hx hb dX8_readOne_33 rfl (lv_at hl 0 rfl) ?_
      refine nx_get S0 hK hP 0 5 hin_X8 hf_19 rfl rfl (by decide) rfl rfl dX8_readOne_34 ?_
      refine lv_iload_n hx hb dX8_readOne_37 rfl (lv_at hl 1 rfl) ?_
      refine lv_aload_n hx hb dX8_readOne_38 rfl (lv_at hl 0 rfl) ?_
      refine nx_get S0 hK hP 0 5 hin_X8 hf_19 rfl rfl (by decide) rfl rfl dX8_readOne_39 ?_
      refine lv_iload_n hx hb dX8_readOne_42 rfl (lv_at hl 1 rfl) ?_
      have hg := ng_p hF
      have hF := ng_x hF
      refine nx_iald S0 hK hP 1 (v := (upd th_read p1.toNatClampNeg ((th_read p1.toNatClampNeg) + (nI 1))) p1.toNatClampNeg) rfl hg rfl dX8_readOne_43 ?_
      refine lv_iadd hx hb dX8_readOne_44 ?_
      refine lv_aload_n hx hb dX8_readOne_45 rfl (lv_at hl 0 rfl) ?_
      refine nx_get S0 hK hP 0 7 hin_X8 hf_77 rfl rfl (by decide) rfl rfl dX8_readOne_46 ?_
      have hg := ng_p hF
      have hF := ng_x hF
      refine nx_iast S0 hK hP hD hS 1 rfl hg dX8_readOne_49 (W1 := [(q_th, .inr (8, [x_th_told, x_th_now, .ref q_th_text, .int th_letters, .int o15.2.1, .ref q_th_read, .int th_isMore, .int o15.2.2, x_th_from, x_th_to, x_th_undone, .int th_undos, x_th_aside, .int th_beganOn, .int th_beganIn, .int th_first, .int th_second, x_th_seenCell, x_th_seenNight, .int th_seens, .int th_above, .int th_below, x_th_kept, .int th_keeps])), (q_th_read, .inl (cI, 54, .inl (upd (upd th_read p1.toNatClampNeg ((th_read p1.toNatClampNeg) + (nI 1))) ((p1 + ((upd th_read p1.toNatClampNeg ((th_read p1.toNatClampNeg) + (nI 1))) p1.toNatClampNeg)).toNatClampNeg) o15.2.2))), (q_th_text, .inl (cI, 200, .inl th_text))]) rfl (fun H locs hP hD hS => ?_)
      refine lv_iconst (v := (nI 1)) hx hb dX8_readOne_50 (by decide) ?_
      exact hret (nI 1) o15.2.1 o15.2.2 (upd (upd th_read p1.toNatClampNeg ((th_read p1.toNatClampNeg) + (nI 1))) ((p1 + ((upd th_read p1.toNatClampNeg ((th_read p1.toNatClampNeg) + (nI 1))) p1.toNatClampNeg)).toNatClampNeg) o15.2.2) _ _ _ _ (Or.inr rfl) hF dX8_readOne_51 hP hD hS
    · have hF := ng_t hc hF
      refine lv_iconst (v := (nI 0)) hx hb dX8_readOne_21 (by decide) ?_
      exact hret (nI 0) o15.2.1 o15.2.2 th_read _ _ _ _ (Or.inl rfl) hF dX8_readOne_22 hP hD hS
theorem hdX8_item : yX8_item.cls ≠ "java/lang/invoke/MethodHandle" ∧ yX8_item.cls ≠ "java/lang/invoke/VarHandle" ∧ (parseMethodDescriptor yX8_item.desc).map (fun d => d.parameters.length) = some 0 := by decide +kernel
set_option maxHeartbeats 40000000 in
set_option maxRecDepth 100000 in
theorem kX8_item (l : Launch) (dC : Nat → ClassId) (dI : Nat → Nat → Nat) (cI : ClassId) (q_th : Nat) (q_th_text : Nat) (q_th_read : Nat) (sz : Nat) (x_th_told : Value) (x_th_now : Value) (th_letters : Int32) (th_at : Int32) (th_isMore : Int32) (th_told0 : Int32) (x_th_from : Value) (x_th_to : Value) (x_th_undone : Value) (th_undos : Int32) (x_th_aside : Value) (th_beganOn : Int32) (th_beganIn : Int32) (th_first : Int32) (th_second : Int32) (x_th_seenCell : Value) (x_th_seenNight : Value) (th_seens : Int32) (th_above : Int32) (th_below : Int32) (x_th_kept : Value) (th_keeps : Int32) (th_text : Nat → Int32) (th_read : Nat → Int32) (N : Nat) (o : Int32 × Int32 × Int32 × Int32 × (Nat → Int32)) (hF : fX8_item N th_letters th_at th_isMore th_told0 th_text th_read = some o) : nx_I l yX8_item wsX8_item ({ frames := 4, cells := 0, slots := 0, locals := 92 } : Room) (dC, dI) cI [.ref q_th] [(q_th, .inr (8, [x_th_told, x_th_now, .ref q_th_text, .int th_letters, .int th_at, .ref q_th_read, .int th_isMore, .int th_told0, x_th_from, x_th_to, x_th_undone, .int th_undos, x_th_aside, .int th_beganOn, .int th_beganIn, .int th_first, .int th_second, x_th_seenCell, x_th_seenNight, .int th_seens, .int th_above, .int th_below, x_th_kept, .int th_keeps])), (q_th_text, .inl (cI, 200, .inl th_text)), (q_th_read, .inl (cI, 54, .inl th_read))] sz o.1 [(q_th, .inr (8, [x_th_told, x_th_now, .ref q_th_text, .int th_letters, .int o.2.1, .ref q_th_read, .int o.2.2.1, .int o.2.2.2.1, x_th_from, x_th_to, x_th_undone, .int th_undos, x_th_aside, .int th_beganOn, .int th_beganIn, .int th_first, .int th_second, x_th_seenCell, x_th_seenNight, .int th_seens, .int th_above, .int th_below, x_th_kept, .int th_keeps])), (q_th_text, .inl (cI, 200, .inl th_text)), (q_th_read, .inl (cI, 54, .inl o.2.2.2.2))] := by
  refine nx_zint (cc := cX8_item) (maxL := 3) (by decide) rfl (Nat.le_of_ble_eq_true rfl) ?_
  intro p e s m args below meth c Q A S0 hK hN hA ret0 hP hD hS ls hl
  have S0 : CallFix p m c cX8_item 3 s args wsX8_item RX8 := S0
  have hx := S0.1
  have hb := S0.2.1
  have hown := S0.2.2.2.1
  have hts := S0.2.2.2.2
  have hf_16 := hts (.fieldLink RX8 16 "SnailsYearModel" "text" "[I") (by decide +kernel)
  have hin_X8 : ∀ w ∈ wsX80, w ∈ wsX8_item := by decide +kernel
  have hf_66 := hts (.fieldLink RX8 66 "SnailsYearModel" "at" "I") (by decide +kernel)
  have hf_80 := hts (.fieldLink RX8 80 "SnailsYearModel" "isMore" "Z") (by decide +kernel)
  have hf_19 := hts (.fieldLink RX8 19 "SnailsYearModel" "read" "[I") (by decide +kernel)
  have hf_77 := hts (.fieldLink RX8 77 "SnailsYearModel" "told0" "I") (by decide +kernel)
  have hl : lv_has ls 3 [(0, .ref q_th)] := hl
  have hret : ∀ (r0 : Int32) (y0 : Int32) (y1 : Int32) (y2 : Int32) (y3 : Nat → Int32) (H : Heap) (locs : List Loc) (ls : Array Slot) (pc : Nat), (r0 = 0 ∨ r0 = 1) → some (r0, y0, y1, y2, y3) = some o → decode cX8_item pc = .ok (.ireturn, 1) → va_P (dC, dI) vwCl [(q_th, .inr (8, [x_th_told, x_th_now, .ref q_th_text, .int th_letters, .int y0, .ref q_th_read, .int y1, .int y2, x_th_from, x_th_to, x_th_undone, .int th_undos, x_th_aside, .int th_beganOn, .int th_beganIn, .int th_first, .int th_second, x_th_seenCell, x_th_seenNight, .int th_seens, .int th_above, .int th_below, x_th_kept, .int th_keeps])), (q_th_text, .inl (cI, 200, .inl th_text)), (q_th_read, .inl (cI, 54, .inl y3))] H → va_D A [(q_th, .inr (8, [x_th_told, x_th_now, .ref q_th_text, .int th_letters, .int y0, .ref q_th_read, .int y1, .int y2, x_th_from, x_th_to, x_th_undone, .int th_undos, x_th_aside, .int th_beganOn, .int th_beganIn, .int th_first, .int th_second, x_th_seenCell, x_th_seenNight, .int th_seens, .int th_above, .int th_below, x_th_kept, .int th_keeps])), (q_th_text, .inl (cI, 200, .inl th_text)), (q_th_read, .inl (cI, 54, .inl y3))] → va_S A s.heap H locs → W p l e ({ frames := 4, cells := 0, slots := 0, locals := 92 } : Room) s m args below meth c H locs 0 0 Q (F0 m pc ls [.int r0]) := by
    intro r0 y0 y1 y2 y3 H locs ls pc hz ho hd hP hD hS
    cases ho
    exact ret0 H locs ls pc hz hd hP hD hS
  rw [fX8_item_e] at hF
  refine lv_aload_n hx hb dX8_item_0 rfl (lv_at hl 0 rfl) ?_
  refine nx_get S0 hK hP 0 2 hin_X8 hf_16 rfl rfl (by decide) rfl rfl dX8_item_1 ?_
  refine lv_aload_n hx hb dX8_item_4 rfl (lv_at hl 0 rfl) ?_
  refine nx_get S0 hK hP 0 4 hin_X8 hf_66 rfl rfl (by decide) rfl rfl dX8_item_5 ?_
  have hg := ng_p hF
  have hF := ng_x hF
  refine nx_iald S0 hK hP 1 (v := th_text th_at.toNatClampNeg) rfl hg rfl dX8_item_8 ?_
  refine lv_istore_n (lv' := [(1, .int (th_text th_at.toNatClampNeg)), (0, .ref q_th)]) hx hb dX8_item_9 rfl hl (by decide) rfl (fun ls hl => ?_)
  refine lv_aload_n hx hb dX8_item_10 rfl (lv_at hl 1 rfl) ?_
  refine lv_dup hx hb dX8_item_11 rfl ?_
  refine nx_get S0 hK hP 0 4 hin_X8 hf_66 rfl rfl (by decide) rfl rfl dX8_item_12 ?_
  refine lv_iconst (v := (nI 1)) hx hb dX8_item_15 (by decide) ?_
  refine lv_iadd hx hb dX8_item_16 ?_
  refine nx_put S0 hK hP hD hS 0 4 hin_X8 tyX8 tyX8_ok nmX8 hf_66 rfl rfl (by decide) rfl rfl rfl rfl (Nat.le_of_ble_eq_true rfl) dX8_item_17 (W1 := [(q_th, .inr (8, [x_th_told, x_th_now, .ref q_th_text, .int th_letters, .int (th_at + (nI 1)), .ref q_th_read, .int th_isMore, .int th_told0, x_th_from, x_th_to, x_th_undone, .int th_undos, x_th_aside, .int th_beganOn, .int th_beganIn, .int th_first, .int th_second, x_th_seenCell, x_th_seenNight, .int th_seens, .int th_above, .int th_below, x_th_kept, .int th_keeps])), (q_th_text, .inl (cI, 200, .inl th_text)), (q_th_read, .inl (cI, 54, .inl th_read))]) rfl (fun H locs hP hD hS => ?_)
  refine lv_iload_n hx hb dX8_item_20 rfl (lv_at hl 0 rfl) ?_
  refine lv_bipush (v := (nI 121)) hx hb dX8_item_21 (by decide) ?_
  refine lv_icmp_ne (tgt := 31) hx hb dX8_item_23 (by decide) (fun hc => ?_) (fun hc => ?_)
  · have hF := ng_f hc hF
    refine lv_aload_n hx hb dX8_item_31 rfl (lv_at hl 1 rfl) ?_
    refine lv_iconst (v := (nI 1)) hx hb dX8_item_32 (by decide) ?_
    refine nx_put S0 hK hP hD hS 0 6 hin_X8 tyX8 tyX8_ok nmX8 hf_80 rfl rfl (by decide) rfl rfl (by decide) (by decide) (Nat.le_of_ble_eq_true rfl) dX8_item_33 (W1 := [(q_th, .inr (8, [x_th_told, x_th_now, .ref q_th_text, .int th_letters, .int (th_at + (nI 1)), .ref q_th_read, .int (nI 1), .int th_told0, x_th_from, x_th_to, x_th_undone, .int th_undos, x_th_aside, .int th_beganOn, .int th_beganIn, .int th_first, .int th_second, x_th_seenCell, x_th_seenNight, .int th_seens, .int th_above, .int th_below, x_th_kept, .int th_keeps])), (q_th_text, .inl (cI, 200, .inl th_text)), (q_th_read, .inl (cI, 54, .inl th_read))]) rfl (fun H locs hP hD hS => ?_)
    refine lv_iload_n hx hb dX8_item_36 rfl (lv_at hl 0 rfl) ?_
    by_cases hs_0 : (th_text th_at.toNatClampNeg) = (nI 100)
    · have hF := ng_t hs_0 hF
      refine lv_lookup (off := 84) (tgt := 121) hx hb dX8_item_37 (by decide +kernel) (by rw [hs_0]; decide +kernel) (by decide) ?_
      refine lv_aload_n hx hb dX8_item_121 rfl (lv_at hl 1 rfl) ?_
      refine lv_iconst (v := (nI 3)) hx hb dX8_item_122 (by decide) ?_
      refine lv_bipush (v := (nI 9)) hx hb dX8_item_123 (by decide) ?_
      refine lv_bipush (v := (nI 9)) hx hb dX8_item_125 (by decide) ?_
      obtain ⟨o127, hF1, hF⟩ := ng_b hF
      refine nx_callVi (As := [.int (nI 3), .int (nI 9), .int (nI 9)]) (rest := []) (W1 := [(q_th, .inr (8, [x_th_told, x_th_now, .ref q_th_text, .int th_letters, .int o127.2.1, .ref q_th_read, .int (nI 1), .int o127.2.2.1, x_th_from, x_th_to, x_th_undone, .int th_undos, x_th_aside, .int th_beganOn, .int th_beganIn, .int th_first, .int th_second, x_th_seenCell, x_th_seenNight, .int th_seens, .int th_above, .int th_below, x_th_kept, .int th_keeps])), (q_th_text, .inl (cI, 200, .inl th_text)), (q_th_read, .inl (cI, 54, .inl o127.2.2.2))]) (wr := []) S0 hK hN hA hP hD hS (kX8_readOne l dC dI cI q_th q_th_read q_th_text _ (x_th_told) (x_th_now) th_letters (th_at + (nI 1)) (nI 1) th_told0 (x_th_from) (x_th_to) (x_th_undone) th_undos (x_th_aside) th_beganOn th_beganIn th_first th_second (x_th_seenCell) (x_th_seenNight) th_seens th_above th_below (x_th_kept) th_keeps th_read th_text (nI 3) (nI 9) (nI 9) N o127 hF1) (cwV 3 hts gX8_item_X8_readOne rfl rfl rfl ⟨rfl, hdX8_readOne⟩ ⟨Nat.le_of_ble_eq_true rfl, Nat.le_of_ble_eq_true rfl⟩) [0, 2, 1] [] [0, 2, 1] rfl rfl rfl rfl 0 8 rfl rfl rfl rfl hl.1 rfl (Nat.le_of_ble_eq_true rfl) dX8_item_127 (fun H locs hP hD hS => ?_)
      have hg := ng_p hF
      have hF := ng_x hF
      exact hret o127.1 o127.2.1 (nI 1) o127.2.2.1 o127.2.2.2 _ _ _ _ hg hF dX8_item_130 hP hD hS
    have hF := ng_f hs_0 hF
    by_cases hs_1 : (th_text th_at.toNatClampNeg) = (nI 104)
    · have hF := ng_t hs_1 hF
      refine lv_lookup (off := 99) (tgt := 136) hx hb dX8_item_37 (by decide +kernel) (by rw [hs_1]; decide +kernel) (by decide) ?_
      refine lv_aload_n hx hb dX8_item_136 rfl (lv_at hl 1 rfl) ?_
      refine lv_bipush (v := (nI 24)) hx hb dX8_item_137 (by decide) ?_
      refine lv_iconst (v := (nI 4)) hx hb dX8_item_139 (by decide) ?_
      refine lv_iconst (v := (nI 4)) hx hb dX8_item_140 (by decide) ?_
      obtain ⟨o141, hF1, hF⟩ := ng_b hF
      refine nx_callVi (As := [.int (nI 24), .int (nI 4), .int (nI 4)]) (rest := []) (W1 := [(q_th, .inr (8, [x_th_told, x_th_now, .ref q_th_text, .int th_letters, .int o141.2.1, .ref q_th_read, .int (nI 1), .int o141.2.2.1, x_th_from, x_th_to, x_th_undone, .int th_undos, x_th_aside, .int th_beganOn, .int th_beganIn, .int th_first, .int th_second, x_th_seenCell, x_th_seenNight, .int th_seens, .int th_above, .int th_below, x_th_kept, .int th_keeps])), (q_th_text, .inl (cI, 200, .inl th_text)), (q_th_read, .inl (cI, 54, .inl o141.2.2.2))]) (wr := []) S0 hK hN hA hP hD hS (kX8_readOne l dC dI cI q_th q_th_read q_th_text _ (x_th_told) (x_th_now) th_letters (th_at + (nI 1)) (nI 1) th_told0 (x_th_from) (x_th_to) (x_th_undone) th_undos (x_th_aside) th_beganOn th_beganIn th_first th_second (x_th_seenCell) (x_th_seenNight) th_seens th_above th_below (x_th_kept) th_keeps th_read th_text (nI 24) (nI 4) (nI 4) N o141 hF1) (cwV 3 hts gX8_item_X8_readOne rfl rfl rfl ⟨rfl, hdX8_readOne⟩ ⟨Nat.le_of_ble_eq_true rfl, Nat.le_of_ble_eq_true rfl⟩) [0, 2, 1] [] [0, 2, 1] rfl rfl rfl rfl 0 8 rfl rfl rfl rfl hl.1 rfl (Nat.le_of_ble_eq_true rfl) dX8_item_141 (fun H locs hP hD hS => ?_)
      have hg := ng_p hF
      have hF := ng_x hF
      exact hret o141.1 o141.2.1 (nI 1) o141.2.2.1 o141.2.2.2 _ _ _ _ hg hF dX8_item_144 hP hD hS
    have hF := ng_f hs_1 hF
    by_cases hs_2 : (th_text th_at.toNatClampNeg) = (nI 107)
    · have hF := ng_t hs_2 hF
      refine lv_lookup (off := 51) (tgt := 88) hx hb dX8_item_37 (by decide +kernel) (by rw [hs_2]; decide +kernel) (by decide) ?_
      refine lv_aload_n hx hb dX8_item_88 rfl (lv_at hl 1 rfl) ?_
      obtain ⟨o89, hF1, hF⟩ := ng_b hF
      refine nx_callVi (As := []) (rest := []) (W1 := [(q_th, .inr (8, [x_th_told, x_th_now, .ref q_th_text, .int th_letters, .int o89.2.1, .ref q_th_read, .int (nI 1), .int o89.2.2.1, x_th_from, x_th_to, x_th_undone, .int th_undos, x_th_aside, .int th_beganOn, .int th_beganIn, .int th_first, .int th_second, x_th_seenCell, x_th_seenNight, .int th_seens, .int th_above, .int th_below, x_th_kept, .int th_keeps])), (q_th_text, .inl (cI, 200, .inl th_text)), (q_th_read, .inl (cI, 54, .inl o89.2.2.2))]) (wr := []) S0 hK hN hA hP hD hS (kX8_readKind l dC dI cI q_th q_th_read q_th_text _ (x_th_told) (x_th_now) th_letters (th_at + (nI 1)) (nI 1) th_told0 (x_th_from) (x_th_to) (x_th_undone) th_undos (x_th_aside) th_beganOn th_beganIn th_first th_second (x_th_seenCell) (x_th_seenNight) th_seens th_above th_below (x_th_kept) th_keeps th_read th_text N o89 hF1) (cwV 0 hts gX8_item_X8_readKind rfl rfl rfl ⟨rfl, hdX8_readKind⟩ ⟨Nat.le_of_ble_eq_true rfl, Nat.le_of_ble_eq_true rfl⟩) [0, 2, 1] [] [0, 2, 1] rfl rfl rfl rfl 0 8 rfl rfl rfl rfl hl.1 rfl (Nat.le_of_ble_eq_true rfl) dX8_item_89 (fun H locs hP hD hS => ?_)
      have hg := ng_p hF
      have hF := ng_x hF
      exact hret o89.1 o89.2.1 (nI 1) o89.2.2.1 o89.2.2.2 _ _ _ _ hg hF dX8_item_92 hP hD hS
    have hF := ng_f hs_2 hF
    by_cases hs_3 : (th_text th_at.toNatClampNeg) = (nI 114)
    · have hF := ng_t hs_3 hF
      refine lv_lookup (off := 94) (tgt := 131) hx hb dX8_item_37 (by decide +kernel) (by rw [hs_3]; decide +kernel) (by decide) ?_
      refine lv_aload_n hx hb dX8_item_131 rfl (lv_at hl 1 rfl) ?_
      obtain ⟨o132, hF1, hF⟩ := ng_b hF
      refine nx_callVi (As := []) (rest := []) (W1 := [(q_th, .inr (8, [x_th_told, x_th_now, .ref q_th_text, .int th_letters, .int o132.2.1, .ref q_th_read, .int (nI 1), .int o132.2.2.1, x_th_from, x_th_to, x_th_undone, .int th_undos, x_th_aside, .int th_beganOn, .int th_beganIn, .int th_first, .int th_second, x_th_seenCell, x_th_seenNight, .int th_seens, .int th_above, .int th_below, x_th_kept, .int th_keeps])), (q_th_text, .inl (cI, 200, .inl th_text)), (q_th_read, .inl (cI, 54, .inl o132.2.2.2))]) (wr := []) S0 hK hN hA hP hD hS (kX8_readRent l dC dI cI q_th q_th_read q_th_text _ (x_th_told) (x_th_now) th_letters (th_at + (nI 1)) (nI 1) th_told0 (x_th_from) (x_th_to) (x_th_undone) th_undos (x_th_aside) th_beganOn th_beganIn th_first th_second (x_th_seenCell) (x_th_seenNight) th_seens th_above th_below (x_th_kept) th_keeps th_read th_text N o132 hF1) (cwV 0 hts gX8_item_X8_readRent rfl rfl rfl ⟨rfl, hdX8_readRent⟩ ⟨Nat.le_of_ble_eq_true rfl, Nat.le_of_ble_eq_true rfl⟩) [0, 2, 1] [] [0, 2, 1] rfl rfl rfl rfl 0 8 rfl rfl rfl rfl hl.1 rfl (Nat.le_of_ble_eq_true rfl) dX8_item_132 (fun H locs hP hD hS => ?_)
      have hg := ng_p hF
      have hF := ng_x hF
      exact hret o132.1 o132.2.1 (nI 1) o132.2.2.1 o132.2.2.2 _ _ _ _ hg hF dX8_item_135 hP hD hS
    have hF := ng_f hs_3 hF
    by_cases hs_4 : (th_text th_at.toNatClampNeg) = (nI 115)
    · have hF := ng_t hs_4 hF
      refine lv_lookup (off := 56) (tgt := 93) hx hb dX8_item_37 (by decide +kernel) (by rw [hs_4]; decide +kernel) (by decide) ?_
      refine lv_aload_n hx hb dX8_item_93 rfl (lv_at hl 1 rfl) ?_
      refine lv_iconst (v := (nI 0)) hx hb dX8_item_94 (by decide) ?_
      refine lv_aload_n hx hb dX8_item_95 rfl (lv_at hl 1 rfl) ?_
      refine nx_get S0 hK hP 0 5 hin_X8 hf_19 rfl rfl (by decide) rfl rfl dX8_item_96 ?_
      refine lv_iconst (v := (nI 1)) hx hb dX8_item_99 (by decide) ?_
      refine nx_iald S0 hK hP 2 (v := th_read 1) rfl (by decide) rfl dX8_item_100 ?_
      refine lv_iconst (v := (nI 1)) hx hb dX8_item_101 (by decide) ?_
      refine lv_isub hx hb dX8_item_102 ?_
      refine lv_bipush (v := (nI 59)) hx hb dX8_item_103 (by decide) ?_
      obtain ⟨o105, hF1, hF⟩ := ng_b hF
      refine nx_callVi (As := [.int (nI 0), .int ((th_read 1) - (nI 1)), .int (nI 59)]) (rest := []) (W1 := [(q_th, .inr (8, [x_th_told, x_th_now, .ref q_th_text, .int th_letters, .int o105.2.1, .ref q_th_read, .int (nI 1), .int o105.2.2, x_th_from, x_th_to, x_th_undone, .int th_undos, x_th_aside, .int th_beganOn, .int th_beganIn, .int th_first, .int th_second, x_th_seenCell, x_th_seenNight, .int th_seens, .int th_above, .int th_below, x_th_kept, .int th_keeps])), (q_th_text, .inl (cI, 200, .inl th_text)), (q_th_read, .inl (cI, 54, .inl th_read))]) (wr := [(q_th_read, .inl (cI, 54, .inl th_read))]) S0 hK hN hA hP hD hS (kX8_number l dC dI cI q_th q_th_text _ (x_th_told) (x_th_now) th_letters (th_at + (nI 1)) (.ref q_th_read) (nI 1) th_told0 (x_th_from) (x_th_to) (x_th_undone) th_undos (x_th_aside) th_beganOn th_beganIn th_first th_second (x_th_seenCell) (x_th_seenNight) th_seens th_above th_below (x_th_kept) th_keeps th_text (nI 0) ((th_read 1) - (nI 1)) (nI 59) N o105 hF1) (cwV 3 hts gX8_item_X8_number rfl rfl rfl ⟨rfl, hdX8_number⟩ ⟨Nat.le_of_ble_eq_true rfl, Nat.le_of_ble_eq_true rfl⟩) [0, 1] [2] [1, 2, 0] rfl rfl rfl rfl 0 8 rfl rfl rfl rfl hl.1 rfl (Nat.le_of_ble_eq_true rfl) dX8_item_105 (fun H locs hP hD hS => ?_)
      refine lv_istore_n (lv' := [(2, .int o105.1), (1, .int (th_text th_at.toNatClampNeg)), (0, .ref q_th)]) hx hb dX8_item_108 rfl hl (by decide) rfl (fun ls hl => ?_)
      refine lv_aload_n hx hb dX8_item_109 rfl (lv_at hl 2 rfl) ?_
      refine nx_get S0 hK hP 0 5 hin_X8 hf_19 rfl rfl (by decide) rfl rfl dX8_item_110 ?_
      refine lv_iconst (v := (nI 2)) hx hb dX8_item_113 (by decide) ?_
      refine lv_aload_n hx hb dX8_item_114 rfl (lv_at hl 2 rfl) ?_
      refine nx_get S0 hK hP 0 7 hin_X8 hf_77 rfl rfl (by decide) rfl rfl dX8_item_115 ?_
      refine nx_iast S0 hK hP hD hS 2 rfl (by decide) dX8_item_118 (W1 := [(q_th, .inr (8, [x_th_told, x_th_now, .ref q_th_text, .int th_letters, .int o105.2.1, .ref q_th_read, .int (nI 1), .int o105.2.2, x_th_from, x_th_to, x_th_undone, .int th_undos, x_th_aside, .int th_beganOn, .int th_beganIn, .int th_first, .int th_second, x_th_seenCell, x_th_seenNight, .int th_seens, .int th_above, .int th_below, x_th_kept, .int th_keeps])), (q_th_text, .inl (cI, 200, .inl th_text)), (q_th_read, .inl (cI, 54, .inl (upd th_read 2 o105.2.2)))]) rfl (fun H locs hP hD hS => ?_)
      refine lv_iload_n hx hb dX8_item_119 rfl (lv_at hl 0 rfl) ?_
      have hg := ng_p hF
      have hF := ng_x hF
      exact hret o105.1 o105.2.1 (nI 1) o105.2.2 (upd th_read 2 o105.2.2) _ _ _ _ hg hF dX8_item_120 hP hD hS
    have hF := ng_f hs_4 hF
    have hs_0z : ¬ (th_text th_at.toNatClampNeg).toInt = 100 := fun h9 => hs_0 (Int32.toInt_inj.mp (h9.trans (by decide)))
    have hs_1z : ¬ (th_text th_at.toNatClampNeg).toInt = 104 := fun h9 => hs_1 (Int32.toInt_inj.mp (h9.trans (by decide)))
    have hs_2z : ¬ (th_text th_at.toNatClampNeg).toInt = 107 := fun h9 => hs_2 (Int32.toInt_inj.mp (h9.trans (by decide)))
    have hs_3z : ¬ (th_text th_at.toNatClampNeg).toInt = 114 := fun h9 => hs_3 (Int32.toInt_inj.mp (h9.trans (by decide)))
    have hs_4z : ¬ (th_text th_at.toNatClampNeg).toInt = 115 := fun h9 => hs_4 (Int32.toInt_inj.mp (h9.trans (by decide)))
    refine lv_lookup (tgt := 145) hx hb dX8_item_37 (by decide +kernel) (nx_off [100, 104, 107, 114, 115] (by decide +kernel) (by intro z hz; simp only [List.mem_cons, List.not_mem_nil, or_false] at hz; rcases hz with rfl | rfl | rfl | rfl | rfl <;> assumption)) (by decide) ?_
    refine lv_iconst (v := (nI 0)) hx hb dX8_item_145 (by decide) ?_
    exact hret (nI 0) (th_at + (nI 1)) (nI 1) th_told0 th_read _ _ _ _ (Or.inl rfl) hF dX8_item_146 hP hD hS
  · have hF := ng_t hc hF
    refine lv_aload_n hx hb dX8_item_26 rfl (lv_at hl 1 rfl) ?_
    obtain ⟨o27, hF1, hF⟩ := ng_b hF
    refine nx_callVi (As := []) (rest := []) (W1 := [(q_th, .inr (8, [x_th_told, x_th_now, .ref q_th_text, .int th_letters, .int o27.2.1, .ref q_th_read, .int th_isMore, .int o27.2.2.1, x_th_from, x_th_to, x_th_undone, .int th_undos, x_th_aside, .int th_beganOn, .int th_beganIn, .int th_first, .int th_second, x_th_seenCell, x_th_seenNight, .int th_seens, .int th_above, .int th_below, x_th_kept, .int th_keeps])), (q_th_text, .inl (cI, 200, .inl th_text)), (q_th_read, .inl (cI, 54, .inl o27.2.2.2))]) (wr := []) S0 hK hN hA hP hD hS (kX8_readYard l dC dI cI q_th q_th_text q_th_read _ (x_th_told) (x_th_now) th_letters (th_at + (nI 1)) th_isMore th_told0 (x_th_from) (x_th_to) (x_th_undone) th_undos (x_th_aside) th_beganOn th_beganIn th_first th_second (x_th_seenCell) (x_th_seenNight) th_seens th_above th_below (x_th_kept) th_keeps th_text th_read N o27 hF1) (cwV 0 hts gX8_item_X8_readYard rfl rfl rfl ⟨rfl, hdX8_readYard⟩ ⟨Nat.le_of_ble_eq_true rfl, Nat.le_of_ble_eq_true rfl⟩) [0, 1, 2] [] [0, 1, 2] rfl rfl rfl rfl 0 8 rfl rfl rfl rfl hl.1 rfl (Nat.le_of_ble_eq_true rfl) dX8_item_27 (fun H locs hP hD hS => ?_)
    have hg := ng_p hF
    have hF := ng_x hF
    exact hret o27.1 o27.2.1 th_isMore o27.2.2.1 o27.2.2.2 _ _ _ _ hg hF dX8_item_30 hP hD hS
theorem hdX8_fault : yX8_fault.cls ≠ "java/lang/invoke/MethodHandle" ∧ yX8_fault.cls ≠ "java/lang/invoke/VarHandle" ∧ (parseMethodDescriptor yX8_fault.desc).map (fun d => d.parameters.length) = some 0 := by decide +kernel
set_option maxHeartbeats 40000000 in
set_option maxRecDepth 100000 in
theorem kX8_fault (l : Launch) (dC : Nat → ClassId) (dI : Nat → Nat → Nat) (cI : ClassId) (q_th : Nat) (q_th_read : Nat) (q_th_text : Nat) (sz : Nat) (x_th_told : Value) (x_th_now : Value) (th_letters : Int32) (th_at : Int32) (th_isMore : Int32) (th_told0 : Int32) (x_th_from : Value) (x_th_to : Value) (x_th_undone : Value) (th_undos : Int32) (x_th_aside : Value) (th_beganOn : Int32) (th_beganIn : Int32) (th_first : Int32) (th_second : Int32) (x_th_seenCell : Value) (x_th_seenNight : Value) (th_seens : Int32) (th_above : Int32) (th_below : Int32) (x_th_kept : Value) (th_keeps : Int32) (th_read : Nat → Int32) (th_text : Nat → Int32) (N : Nat) (o : Int32 × Int32 × Int32 × Int32 × (Nat → Int32)) (hF : fX8_fault N th_letters th_told0 th_read th_text = some o) : nx_I l yX8_fault wsX8_fault ({ frames := 5, cells := 0, slots := 0, locals := 114 } : Room) (dC, dI) cI [.ref q_th] [(q_th, .inr (8, [x_th_told, x_th_now, .ref q_th_text, .int th_letters, .int th_at, .ref q_th_read, .int th_isMore, .int th_told0, x_th_from, x_th_to, x_th_undone, .int th_undos, x_th_aside, .int th_beganOn, .int th_beganIn, .int th_first, .int th_second, x_th_seenCell, x_th_seenNight, .int th_seens, .int th_above, .int th_below, x_th_kept, .int th_keeps])), (q_th_read, .inl (cI, 54, .inl th_read)), (q_th_text, .inl (cI, 200, .inl th_text))] sz o.1 [(q_th, .inr (8, [x_th_told, x_th_now, .ref q_th_text, .int th_letters, .int o.2.1, .ref q_th_read, .int o.2.2.1, .int o.2.2.2.1, x_th_from, x_th_to, x_th_undone, .int th_undos, x_th_aside, .int th_beganOn, .int th_beganIn, .int th_first, .int th_second, x_th_seenCell, x_th_seenNight, .int th_seens, .int th_above, .int th_below, x_th_kept, .int th_keeps])), (q_th_read, .inl (cI, 54, .inl o.2.2.2.2)), (q_th_text, .inl (cI, 200, .inl th_text))] := by
  refine nx_int (cc := cX8_fault) (maxL := 2) (by decide) rfl (Nat.le_of_ble_eq_true rfl) ?_
  intro p e s m args below meth c Q A S0 hK hN hA ret0 hP hD hS ls hl
  have S0 : CallFix p m c cX8_fault 2 s args wsX8_fault RX8 := S0
  have hx := S0.1
  have hb := S0.2.1
  have hown := S0.2.2.2.1
  have hts := S0.2.2.2.2
  have hf_19 := hts (.fieldLink RX8 19 "SnailsYearModel" "read" "[I") (by decide +kernel)
  have hin_X8 : ∀ w ∈ wsX80, w ∈ wsX8_fault := by decide +kernel
  have hf_80 := hts (.fieldLink RX8 80 "SnailsYearModel" "isMore" "Z") (by decide +kernel)
  have hf_66 := hts (.fieldLink RX8 66 "SnailsYearModel" "at" "I") (by decide +kernel)
  have hf_62 := hts (.fieldLink RX8 62 "SnailsYearModel" "letters" "I") (by decide +kernel)
  have hl : lv_has ls 2 [(0, .ref q_th)] := hl
  have hret : ∀ (r0 : Int32) (y0 : Int32) (y1 : Int32) (y2 : Int32) (y3 : Nat → Int32) (H : Heap) (locs : List Loc) (ls : Array Slot) (pc : Nat), some (r0, y0, y1, y2, y3) = some o → decode cX8_fault pc = .ok (.ireturn, 1) → va_P (dC, dI) vwCl [(q_th, .inr (8, [x_th_told, x_th_now, .ref q_th_text, .int th_letters, .int y0, .ref q_th_read, .int y1, .int y2, x_th_from, x_th_to, x_th_undone, .int th_undos, x_th_aside, .int th_beganOn, .int th_beganIn, .int th_first, .int th_second, x_th_seenCell, x_th_seenNight, .int th_seens, .int th_above, .int th_below, x_th_kept, .int th_keeps])), (q_th_read, .inl (cI, 54, .inl y3)), (q_th_text, .inl (cI, 200, .inl th_text))] H → va_D A [(q_th, .inr (8, [x_th_told, x_th_now, .ref q_th_text, .int th_letters, .int y0, .ref q_th_read, .int y1, .int y2, x_th_from, x_th_to, x_th_undone, .int th_undos, x_th_aside, .int th_beganOn, .int th_beganIn, .int th_first, .int th_second, x_th_seenCell, x_th_seenNight, .int th_seens, .int th_above, .int th_below, x_th_kept, .int th_keeps])), (q_th_read, .inl (cI, 54, .inl y3)), (q_th_text, .inl (cI, 200, .inl th_text))] → va_S A s.heap H locs → W p l e ({ frames := 5, cells := 0, slots := 0, locals := 114 } : Room) s m args below meth c H locs 0 0 Q (F0 m pc ls [.int r0]) := by
    intro r0 y0 y1 y2 y3 H locs ls pc ho hd hP hD hS
    cases ho
    exact ret0 H locs ls pc hd hP hD hS
  rw [fX8_fault_e] at hF
  refine lv_iconst (v := (nI 0)) hx hb dX8_fault_0 (by decide) ?_
  have B_2 : ∀ (n_2 : Nat) (v1_2 : Int32) (th_read_2 : Nat → Int32), fX8_fault_2 N th_letters th_told0 th_text n_2 v1_2 th_read_2 = some o → ∀ (H : Heap) (locs : List Loc) (ls : Array Slot), va_P (dC, dI) vwCl [(q_th, .inr (8, [x_th_told, x_th_now, .ref q_th_text, .int th_letters, .int th_at, .ref q_th_read, .int th_isMore, .int th_told0, x_th_from, x_th_to, x_th_undone, .int th_undos, x_th_aside, .int th_beganOn, .int th_beganIn, .int th_first, .int th_second, x_th_seenCell, x_th_seenNight, .int th_seens, .int th_above, .int th_below, x_th_kept, .int th_keeps])), (q_th_read, .inl (cI, 54, .inl th_read_2)), (q_th_text, .inl (cI, 200, .inl th_text))] H → va_D A [(q_th, .inr (8, [x_th_told, x_th_now, .ref q_th_text, .int th_letters, .int th_at, .ref q_th_read, .int th_isMore, .int th_told0, x_th_from, x_th_to, x_th_undone, .int th_undos, x_th_aside, .int th_beganOn, .int th_beganIn, .int th_first, .int th_second, x_th_seenCell, x_th_seenNight, .int th_seens, .int th_above, .int th_below, x_th_kept, .int th_keeps])), (q_th_read, .inl (cI, 54, .inl th_read_2)), (q_th_text, .inl (cI, 200, .inl th_text))] → va_S A s.heap H locs → lv_has ls 2 [(0, .ref q_th), (1, .int v1_2)] → W p l e ({ frames := 5, cells := 0, slots := 0, locals := 114 } : Room) s m args below meth c H locs 0 0 Q (F0 m 2 ls []) := by
    intro n_2
    induction n_2 with
    | zero =>
      intro v1_2 th_read_2 hF
      rw [fX8_fault_2_z] at hF
      cases hF
    | succ n_2 ih_2 =>
      intro v1_2 th_read_2 hF H locs ls hP hD hS hl
      rw [fX8_fault_2_s] at hF
      refine lv_iload_n hx hb dX8_fault_2 rfl (lv_at hl 1 rfl) ?_
      refine lv_bipush (v := (nI 54)) hx hb dX8_fault_3 (by decide) ?_
      refine lv_icmp_ge (tgt := 21) hx hb dX8_fault_5 (by decide) (fun hc => ?_) (fun hc => ?_)
      · have hF := ng_t hc hF
        refine lv_aload_n hx hb dX8_fault_21 rfl (lv_at hl 0 rfl) ?_
        refine nx_get S0 hK hP 0 5 hin_X8 hf_19 rfl rfl (by decide) rfl rfl dX8_fault_22 ?_
        refine lv_iconst (v := (nI 0)) hx hb dX8_fault_25 (by decide) ?_
        refine lv_iconst (v := (nI 5)) hx hb dX8_fault_26 (by decide) ?_
        refine nx_iast S0 hK hP hD hS 1 rfl (by decide) dX8_fault_27 (W1 := [(q_th, .inr (8, [x_th_told, x_th_now, .ref q_th_text, .int th_letters, .int th_at, .ref q_th_read, .int th_isMore, .int th_told0, x_th_from, x_th_to, x_th_undone, .int th_undos, x_th_aside, .int th_beganOn, .int th_beganIn, .int th_first, .int th_second, x_th_seenCell, x_th_seenNight, .int th_seens, .int th_above, .int th_below, x_th_kept, .int th_keeps])), (q_th_read, .inl (cI, 54, .inl (upd th_read_2 0 (nI 5)))), (q_th_text, .inl (cI, 200, .inl th_text))]) rfl (fun H locs hP hD hS => ?_)
        refine lv_aload_n hx hb dX8_fault_28 rfl (lv_at hl 0 rfl) ?_
        refine nx_get S0 hK hP 0 5 hin_X8 hf_19 rfl rfl (by decide) rfl rfl dX8_fault_29 ?_
        refine lv_iconst (v := (nI 1)) hx hb dX8_fault_32 (by decide) ?_
        refine lv_iconst (v := (nI 4)) hx hb dX8_fault_33 (by decide) ?_
        refine nx_iast S0 hK hP hD hS 1 rfl (by decide) dX8_fault_34 (W1 := [(q_th, .inr (8, [x_th_told, x_th_now, .ref q_th_text, .int th_letters, .int th_at, .ref q_th_read, .int th_isMore, .int th_told0, x_th_from, x_th_to, x_th_undone, .int th_undos, x_th_aside, .int th_beganOn, .int th_beganIn, .int th_first, .int th_second, x_th_seenCell, x_th_seenNight, .int th_seens, .int th_above, .int th_below, x_th_kept, .int th_keeps])), (q_th_read, .inl (cI, 54, .inl (upd (upd th_read_2 0 (nI 5)) 1 (nI 4)))), (q_th_text, .inl (cI, 200, .inl th_text))]) rfl (fun H locs hP hD hS => ?_)
        refine lv_aload_n hx hb dX8_fault_35 rfl (lv_at hl 0 rfl) ?_
        refine lv_iconst (v := (nI 0)) hx hb dX8_fault_36 (by decide) ?_
        refine nx_put S0 hK hP hD hS 0 6 hin_X8 tyX8 tyX8_ok nmX8 hf_80 rfl rfl (by decide) rfl rfl (by decide) (by decide) (Nat.le_of_ble_eq_true rfl) dX8_fault_37 (W1 := [(q_th, .inr (8, [x_th_told, x_th_now, .ref q_th_text, .int th_letters, .int th_at, .ref q_th_read, .int (nI 0), .int th_told0, x_th_from, x_th_to, x_th_undone, .int th_undos, x_th_aside, .int th_beganOn, .int th_beganIn, .int th_first, .int th_second, x_th_seenCell, x_th_seenNight, .int th_seens, .int th_above, .int th_below, x_th_kept, .int th_keeps])), (q_th_read, .inl (cI, 54, .inl (upd (upd th_read_2 0 (nI 5)) 1 (nI 4)))), (q_th_text, .inl (cI, 200, .inl th_text))]) rfl (fun H locs hP hD hS => ?_)
        refine lv_aload_n hx hb dX8_fault_40 rfl (lv_at hl 0 rfl) ?_
        refine lv_iconst (v := (nI 0)) hx hb dX8_fault_41 (by decide) ?_
        have B_45 : ∀ (n_45 : Nat) (th_at_45 : Int32) (th_isMore_45 : Int32) (th_told0_45 : Int32) (th_read_45 : Nat → Int32), fX8_fault_45 N th_letters th_text n_45 th_at_45 th_isMore_45 th_told0_45 th_read_45 = some o → ∀ (H : Heap) (locs : List Loc) (ls : Array Slot), va_P (dC, dI) vwCl [(q_th, .inr (8, [x_th_told, x_th_now, .ref q_th_text, .int th_letters, .int th_at_45, .ref q_th_read, .int th_isMore_45, .int th_told0_45, x_th_from, x_th_to, x_th_undone, .int th_undos, x_th_aside, .int th_beganOn, .int th_beganIn, .int th_first, .int th_second, x_th_seenCell, x_th_seenNight, .int th_seens, .int th_above, .int th_below, x_th_kept, .int th_keeps])), (q_th_read, .inl (cI, 54, .inl th_read_45)), (q_th_text, .inl (cI, 200, .inl th_text))] H → va_D A [(q_th, .inr (8, [x_th_told, x_th_now, .ref q_th_text, .int th_letters, .int th_at_45, .ref q_th_read, .int th_isMore_45, .int th_told0_45, x_th_from, x_th_to, x_th_undone, .int th_undos, x_th_aside, .int th_beganOn, .int th_beganIn, .int th_first, .int th_second, x_th_seenCell, x_th_seenNight, .int th_seens, .int th_above, .int th_below, x_th_kept, .int th_keeps])), (q_th_read, .inl (cI, 54, .inl th_read_45)), (q_th_text, .inl (cI, 200, .inl th_text))] → va_S A s.heap H locs → lv_has ls 2 [(0, .ref q_th)] → W p l e ({ frames := 5, cells := 0, slots := 0, locals := 114 } : Room) s m args below meth c H locs 0 0 Q (F0 m 45 ls []) := by
          intro n_45
          induction n_45 with
          | zero =>
            intro th_at_45 th_isMore_45 th_told0_45 th_read_45 hF
            rw [fX8_fault_45_z] at hF
            cases hF
          | succ n_45 ih_45 =>
            intro th_at_45 th_isMore_45 th_told0_45 th_read_45 hF H locs ls hP hD hS hl
            rw [fX8_fault_45_s] at hF
            refine lv_aload_n hx hb dX8_fault_45 rfl (lv_at hl 0 rfl) ?_
            refine nx_get S0 hK hP 0 4 hin_X8 hf_66 rfl rfl (by decide) rfl rfl dX8_fault_46 ?_
            refine lv_aload_n hx hb dX8_fault_49 rfl (lv_at hl 0 rfl) ?_
            refine nx_get S0 hK hP 0 3 hin_X8 hf_62 rfl rfl (by decide) rfl rfl dX8_fault_50 ?_
            refine lv_icmp_ge (tgt := 73) hx hb dX8_fault_53 (by decide) (fun hc => ?_) (fun hc => ?_)
            · have hF := ng_t hc hF
              refine lv_bipush (v := (-4 : Int32)) hx hb dX8_fault_73 (by decide) ?_
              exact hret (-4 : Int32) th_at_45 th_isMore_45 th_told0_45 th_read_45 _ _ _ _ hF dX8_fault_75 hP hD hS
            · have hF := ng_f hc hF
              refine lv_aload_n hx hb dX8_fault_56 rfl (lv_at hl 0 rfl) ?_
              refine nx_get S0 hK hP 0 4 hin_X8 hf_66 rfl rfl (by decide) rfl rfl dX8_fault_57 ?_
              refine lv_istore_n (lv' := [(1, .int th_at_45), (0, .ref q_th)]) hx hb dX8_fault_60 rfl hl (by decide) rfl (fun ls hl => ?_)
              refine lv_aload_n hx hb dX8_fault_61 rfl (lv_at hl 1 rfl) ?_
              obtain ⟨o62, hF1, hF⟩ := ng_b hF
              refine nx_callVi (As := []) (rest := []) (W1 := [(q_th, .inr (8, [x_th_told, x_th_now, .ref q_th_text, .int th_letters, .int o62.2.1, .ref q_th_read, .int o62.2.2.1, .int o62.2.2.2.1, x_th_from, x_th_to, x_th_undone, .int th_undos, x_th_aside, .int th_beganOn, .int th_beganIn, .int th_first, .int th_second, x_th_seenCell, x_th_seenNight, .int th_seens, .int th_above, .int th_below, x_th_kept, .int th_keeps])), (q_th_read, .inl (cI, 54, .inl o62.2.2.2.2)), (q_th_text, .inl (cI, 200, .inl th_text))]) (wr := []) S0 hK hN hA hP hD hS (kX8_item l dC dI cI q_th q_th_text q_th_read _ (x_th_told) (x_th_now) th_letters th_at_45 th_isMore_45 th_told0_45 (x_th_from) (x_th_to) (x_th_undone) th_undos (x_th_aside) th_beganOn th_beganIn th_first th_second (x_th_seenCell) (x_th_seenNight) th_seens th_above th_below (x_th_kept) th_keeps th_text th_read_45 N o62 hF1) (cwV 0 hts gX8_fault_X8_item rfl rfl rfl ⟨rfl, hdX8_item⟩ ⟨Nat.le_of_ble_eq_true rfl, Nat.le_of_ble_eq_true rfl⟩) [0, 2, 1] [] [0, 2, 1] rfl rfl rfl rfl 0 8 rfl rfl rfl rfl hl.1 rfl (Nat.le_of_ble_eq_true rfl) dX8_fault_62 (fun H locs hP hD hS => ?_)
              refine lv_if_ne (tgt := 70) hx hb dX8_fault_65 (by decide) (fun hc => ?_) (fun hc => ?_)
              · have hF := ng_f hc hF
                refine lv_goto (tgt := 45) hx hb dX8_fault_70 (by decide) ?_
                exact ih_45 o62.2.1 o62.2.2.1 o62.2.2.2.1 o62.2.2.2.2 hF _ _ _ hP hD hS (lv_sub hl [1] rfl)
              · have hF := ng_t hc hF
                refine lv_iload_n hx hb dX8_fault_68 rfl (lv_at hl 0 rfl) ?_
                exact hret th_at_45 o62.2.1 o62.2.2.1 o62.2.2.2.1 o62.2.2.2.2 _ _ _ _ hF dX8_fault_69 hP hD hS
        refine nx_put S0 hK hP hD hS 0 4 hin_X8 tyX8 tyX8_ok nmX8 hf_66 rfl rfl (by decide) rfl rfl rfl rfl (Nat.le_of_ble_eq_true rfl) dX8_fault_42 (W1 := [(q_th, .inr (8, [x_th_told, x_th_now, .ref q_th_text, .int th_letters, .int (nI 0), .ref q_th_read, .int (nI 0), .int th_told0, x_th_from, x_th_to, x_th_undone, .int th_undos, x_th_aside, .int th_beganOn, .int th_beganIn, .int th_first, .int th_second, x_th_seenCell, x_th_seenNight, .int th_seens, .int th_above, .int th_below, x_th_kept, .int th_keeps])), (q_th_read, .inl (cI, 54, .inl (upd (upd th_read_2 0 (nI 5)) 1 (nI 4)))), (q_th_text, .inl (cI, 200, .inl th_text))]) rfl (fun H locs hP hD hS => ?_)
        exact B_45 N (nI 0) (nI 0) th_told0 (upd (upd th_read_2 0 (nI 5)) 1 (nI 4)) hF _ _ _ hP hD hS (lv_sub hl [0] rfl)
      · have hF := ng_f hc hF
        refine lv_aload_n hx hb dX8_fault_8 rfl (lv_at hl 0 rfl) ?_
        refine nx_get S0 hK hP 0 5 hin_X8 hf_19 rfl rfl (by decide) rfl rfl dX8_fault_9 ?_
        refine lv_iload_n hx hb dX8_fault_12 rfl (lv_at hl 1 rfl) ?_
        refine lv_iconst (v := (nI 0)) hx hb dX8_fault_13 (by decide) ?_
        have hg := ng_p hF
        have hF := ng_x hF
        refine nx_iast S0 hK hP hD hS 1 rfl hg dX8_fault_14 (W1 := [(q_th, .inr (8, [x_th_told, x_th_now, .ref q_th_text, .int th_letters, .int th_at, .ref q_th_read, .int th_isMore, .int th_told0, x_th_from, x_th_to, x_th_undone, .int th_undos, x_th_aside, .int th_beganOn, .int th_beganIn, .int th_first, .int th_second, x_th_seenCell, x_th_seenNight, .int th_seens, .int th_above, .int th_below, x_th_kept, .int th_keeps])), (q_th_read, .inl (cI, 54, .inl (upd th_read_2 v1_2.toNatClampNeg (nI 0)))), (q_th_text, .inl (cI, 200, .inl th_text))]) rfl (fun H locs hP hD hS => ?_)
        refine lv_iinc (v := v1_2 + (nI 1)) (lv' := [(1, .int (v1_2 + (nI 1))), (0, .ref q_th)]) hx hb dX8_fault_15 hl (k := 1) rfl rfl (by decide) rfl (fun ls hl => ?_)
        refine lv_goto (tgt := 2) hx hb dX8_fault_18 (by decide) ?_
        exact ih_2 (v1_2 + (nI 1)) (upd th_read_2 v1_2.toNatClampNeg (nI 0)) hF _ _ _ hP hD hS (lv_sub hl [1, 0] rfl)
  refine lv_istore_n (lv' := [(1, .int (nI 0)), (0, .ref q_th)]) hx hb dX8_fault_1 rfl hl (by decide) rfl (fun ls hl => ?_)
  exact B_2 N (nI 0) th_read hF _ _ _ hP hD hS (lv_sub hl [1, 0] rfl)
theorem hdX8_lay : yX8_lay.cls ≠ "java/lang/invoke/MethodHandle" ∧ yX8_lay.cls ≠ "java/lang/invoke/VarHandle" ∧ (parseMethodDescriptor yX8_lay.desc).map (fun d => d.parameters.length) = some 0 := by decide +kernel
set_option maxHeartbeats 40000000 in
set_option maxRecDepth 100000 in
theorem kX8_lay (l : Launch) (dC : Nat → ClassId) (dI : Nat → Nat → Nat) (cI : ClassId) (q_th : Nat) (q_th_read : Nat) (q_th_text : Nat) (q_th_told : Nat) (q_th_now : Nat) (sz : Nat) (th_letters : Int32) (th_at : Int32) (th_isMore : Int32) (th_told0 : Int32) (x_th_from : Value) (x_th_to : Value) (x_th_undone : Value) (th_undos : Int32) (x_th_aside : Value) (th_beganOn : Int32) (th_beganIn : Int32) (th_first : Int32) (th_second : Int32) (x_th_seenCell : Value) (x_th_seenNight : Value) (th_seens : Int32) (th_above : Int32) (th_below : Int32) (x_th_kept : Value) (th_keeps : Int32) (th_read : Nat → Int32) (th_text : Nat → Int32) (th_told : Nat → Int32) (th_now : Nat → Int32) (N : Nat) (o : Int32 × Int32 × Int32 × Int32 × Int32 × Int32 × Int32 × (Nat → Int32) × (Nat → Int32) × (Nat → Int32)) (hF : fX8_lay N th_letters th_at th_isMore th_told0 th_undos th_seens th_keeps th_read th_text th_told th_now = some o) : nx_I l yX8_lay wsX8_lay ({ frames := 6, cells := 0, slots := 0, locals := 135 } : Room) (dC, dI) cI [.ref q_th] [(q_th, .inr (8, [.ref q_th_told, .ref q_th_now, .ref q_th_text, .int th_letters, .int th_at, .ref q_th_read, .int th_isMore, .int th_told0, x_th_from, x_th_to, x_th_undone, .int th_undos, x_th_aside, .int th_beganOn, .int th_beganIn, .int th_first, .int th_second, x_th_seenCell, x_th_seenNight, .int th_seens, .int th_above, .int th_below, x_th_kept, .int th_keeps])), (q_th_read, .inl (cI, 54, .inl th_read)), (q_th_text, .inl (cI, 200, .inl th_text)), (q_th_told, .inl (cI, 54, .inl th_told)), (q_th_now, .inl (cI, 28, .inl th_now))] sz o.1 [(q_th, .inr (8, [.ref q_th_told, .ref q_th_now, .ref q_th_text, .int th_letters, .int o.2.1, .ref q_th_read, .int o.2.2.1, .int o.2.2.2.1, x_th_from, x_th_to, x_th_undone, .int o.2.2.2.2.1, x_th_aside, .int th_beganOn, .int th_beganIn, .int th_first, .int th_second, x_th_seenCell, x_th_seenNight, .int o.2.2.2.2.2.1, .int th_above, .int th_below, x_th_kept, .int o.2.2.2.2.2.2.1])), (q_th_read, .inl (cI, 54, .inl o.2.2.2.2.2.2.2.1)), (q_th_text, .inl (cI, 200, .inl th_text)), (q_th_told, .inl (cI, 54, .inl o.2.2.2.2.2.2.2.2.1)), (q_th_now, .inl (cI, 28, .inl o.2.2.2.2.2.2.2.2.2))] := by
  refine nx_int (cc := cX8_lay) (maxL := 2) (by decide) rfl (Nat.le_of_ble_eq_true rfl) ?_
  intro p e s m args below meth c Q A S0 hK hN hA ret0 hP hD hS ls hl
  have S0 : CallFix p m c cX8_lay 2 s args wsX8_lay RX8 := S0
  have hx := S0.1
  have hb := S0.2.1
  have hown := S0.2.2.2.1
  have hts := S0.2.2.2.2
  have hf_62 := hts (.fieldLink RX8 62 "SnailsYearModel" "letters" "I") (by decide +kernel)
  have hin_X8 : ∀ w ∈ wsX80, w ∈ wsX8_lay := by decide +kernel
  have hf_7 := hts (.fieldLink RX8 7 "SnailsYearModel" "told" "[I") (by decide +kernel)
  have hf_106 := hts (.fieldLink RX8 106 "SnailsYearModel" "seens" "I") (by decide +kernel)
  have hf_109 := hts (.fieldLink RX8 109 "SnailsYearModel" "undos" "I") (by decide +kernel)
  have hf_112 := hts (.fieldLink RX8 112 "SnailsYearModel" "keeps" "I") (by decide +kernel)
  have hf_19 := hts (.fieldLink RX8 19 "SnailsYearModel" "read" "[I") (by decide +kernel)
  have hl : lv_has ls 2 [(0, .ref q_th)] := hl
  have hret : ∀ (r0 : Int32) (y0 : Int32) (y1 : Int32) (y2 : Int32) (y3 : Int32) (y4 : Int32) (y5 : Int32) (y6 : Nat → Int32) (y7 : Nat → Int32) (y8 : Nat → Int32) (H : Heap) (locs : List Loc) (ls : Array Slot) (pc : Nat), some (r0, y0, y1, y2, y3, y4, y5, y6, y7, y8) = some o → decode cX8_lay pc = .ok (.ireturn, 1) → va_P (dC, dI) vwCl [(q_th, .inr (8, [.ref q_th_told, .ref q_th_now, .ref q_th_text, .int th_letters, .int y0, .ref q_th_read, .int y1, .int y2, x_th_from, x_th_to, x_th_undone, .int y3, x_th_aside, .int th_beganOn, .int th_beganIn, .int th_first, .int th_second, x_th_seenCell, x_th_seenNight, .int y4, .int th_above, .int th_below, x_th_kept, .int y5])), (q_th_read, .inl (cI, 54, .inl y6)), (q_th_text, .inl (cI, 200, .inl th_text)), (q_th_told, .inl (cI, 54, .inl y7)), (q_th_now, .inl (cI, 28, .inl y8))] H → va_D A [(q_th, .inr (8, [.ref q_th_told, .ref q_th_now, .ref q_th_text, .int th_letters, .int y0, .ref q_th_read, .int y1, .int y2, x_th_from, x_th_to, x_th_undone, .int y3, x_th_aside, .int th_beganOn, .int th_beganIn, .int th_first, .int th_second, x_th_seenCell, x_th_seenNight, .int y4, .int th_above, .int th_below, x_th_kept, .int y5])), (q_th_read, .inl (cI, 54, .inl y6)), (q_th_text, .inl (cI, 200, .inl th_text)), (q_th_told, .inl (cI, 54, .inl y7)), (q_th_now, .inl (cI, 28, .inl y8))] → va_S A s.heap H locs → W p l e ({ frames := 6, cells := 0, slots := 0, locals := 135 } : Room) s m args below meth c H locs 0 0 Q (F0 m pc ls [.int r0]) := by
    intro r0 y0 y1 y2 y3 y4 y5 y6 y7 y8 H locs ls pc ho hd hP hD hS
    cases ho
    exact ret0 H locs ls pc hd hP hD hS
  rw [fX8_lay_e] at hF
  refine lv_aload_n hx hb dX8_lay_0 rfl (lv_at hl 0 rfl) ?_
  refine nx_get S0 hK hP 0 3 hin_X8 hf_62 rfl rfl (by decide) rfl rfl dX8_lay_1 ?_
  refine lv_if_eq (tgt := 16) hx hb dX8_lay_4 (by decide) (fun hc => ?_) (fun hc => ?_)
  · have hF := ng_t hc hF
    refine lv_bipush (v := (-2 : Int32)) hx hb dX8_lay_16 (by decide) ?_
    exact hret (-2 : Int32) th_at th_isMore th_told0 th_undos th_seens th_keeps th_read th_told th_now _ _ _ _ hF dX8_lay_18 hP hD hS
  · have hF := ng_f hc hF
    refine lv_aload_n hx hb dX8_lay_7 rfl (lv_at hl 0 rfl) ?_
    obtain ⟨o8, hF1, hF⟩ := ng_b hF
    refine nx_callVi (As := []) (rest := []) (W1 := [(q_th, .inr (8, [.ref q_th_told, .ref q_th_now, .ref q_th_text, .int th_letters, .int o8.2.1, .ref q_th_read, .int o8.2.2.1, .int o8.2.2.2.1, x_th_from, x_th_to, x_th_undone, .int th_undos, x_th_aside, .int th_beganOn, .int th_beganIn, .int th_first, .int th_second, x_th_seenCell, x_th_seenNight, .int th_seens, .int th_above, .int th_below, x_th_kept, .int th_keeps])), (q_th_read, .inl (cI, 54, .inl o8.2.2.2.2)), (q_th_text, .inl (cI, 200, .inl th_text)), (q_th_told, .inl (cI, 54, .inl th_told)), (q_th_now, .inl (cI, 28, .inl th_now))]) (wr := [(q_th_told, .inl (cI, 54, .inl th_told)), (q_th_now, .inl (cI, 28, .inl th_now))]) S0 hK hN hA hP hD hS (kX8_fault l dC dI cI q_th q_th_read q_th_text _ (.ref q_th_told) (.ref q_th_now) th_letters th_at th_isMore th_told0 (x_th_from) (x_th_to) (x_th_undone) th_undos (x_th_aside) th_beganOn th_beganIn th_first th_second (x_th_seenCell) (x_th_seenNight) th_seens th_above th_below (x_th_kept) th_keeps th_read th_text N o8 hF1) (cwV 0 hts gX8_lay_X8_fault rfl rfl rfl ⟨rfl, hdX8_fault⟩ ⟨Nat.le_of_ble_eq_true rfl, Nat.le_of_ble_eq_true rfl⟩) [0, 1, 2] [3, 4] [2, 3, 4, 0, 1] rfl rfl rfl rfl 0 8 rfl rfl rfl rfl hl.1 rfl (Nat.le_of_ble_eq_true rfl) dX8_lay_8 (fun H locs hP hD hS => ?_)
    refine lv_bipush (v := (-4 : Int32)) hx hb dX8_lay_11 (by decide) ?_
    refine lv_icmp_eq (tgt := 19) hx hb dX8_lay_13 (by decide) (fun hc => ?_) (fun hc => ?_)
    · have hF := ng_t hc hF
      refine lv_iconst (v := (nI 0)) hx hb dX8_lay_19 (by decide) ?_
      have B_21 : ∀ (n_21 : Nat) (v1_21 : Int32) (th_told_21 : Nat → Int32), fX8_lay_21 N th_now o8 n_21 v1_21 th_told_21 = some o → ∀ (H : Heap) (locs : List Loc) (ls : Array Slot), va_P (dC, dI) vwCl [(q_th, .inr (8, [.ref q_th_told, .ref q_th_now, .ref q_th_text, .int th_letters, .int o8.2.1, .ref q_th_read, .int o8.2.2.1, .int o8.2.2.2.1, x_th_from, x_th_to, x_th_undone, .int th_undos, x_th_aside, .int th_beganOn, .int th_beganIn, .int th_first, .int th_second, x_th_seenCell, x_th_seenNight, .int th_seens, .int th_above, .int th_below, x_th_kept, .int th_keeps])), (q_th_read, .inl (cI, 54, .inl o8.2.2.2.2)), (q_th_text, .inl (cI, 200, .inl th_text)), (q_th_told, .inl (cI, 54, .inl th_told_21)), (q_th_now, .inl (cI, 28, .inl th_now))] H → va_D A [(q_th, .inr (8, [.ref q_th_told, .ref q_th_now, .ref q_th_text, .int th_letters, .int o8.2.1, .ref q_th_read, .int o8.2.2.1, .int o8.2.2.2.1, x_th_from, x_th_to, x_th_undone, .int th_undos, x_th_aside, .int th_beganOn, .int th_beganIn, .int th_first, .int th_second, x_th_seenCell, x_th_seenNight, .int th_seens, .int th_above, .int th_below, x_th_kept, .int th_keeps])), (q_th_read, .inl (cI, 54, .inl o8.2.2.2.2)), (q_th_text, .inl (cI, 200, .inl th_text)), (q_th_told, .inl (cI, 54, .inl th_told_21)), (q_th_now, .inl (cI, 28, .inl th_now))] → va_S A s.heap H locs → lv_has ls 2 [(0, .ref q_th), (1, .int v1_21)] → W p l e ({ frames := 6, cells := 0, slots := 0, locals := 135 } : Room) s m args below meth c H locs 0 0 Q (F0 m 21 ls []) := by
        intro n_21
        induction n_21 with
        | zero =>
          intro v1_21 th_told_21 hF
          rw [fX8_lay_21_z] at hF
          cases hF
        | succ n_21 ih_21 =>
          intro v1_21 th_told_21 hF H locs ls hP hD hS hl
          rw [fX8_lay_21_s] at hF
          refine lv_iload_n hx hb dX8_lay_21 rfl (lv_at hl 1 rfl) ?_
          refine lv_bipush (v := (nI 54)) hx hb dX8_lay_22 (by decide) ?_
          refine lv_icmp_ge (tgt := 45) hx hb dX8_lay_24 (by decide) (fun hc => ?_) (fun hc => ?_)
          · have hF := ng_t hc hF
            refine lv_aload_n hx hb dX8_lay_45 rfl (lv_at hl 0 rfl) ?_
            refine nx_get S0 hK hP 0 0 hin_X8 hf_7 rfl rfl (by decide) rfl rfl dX8_lay_46 ?_
            refine lv_bipush (v := (nI 29)) hx hb dX8_lay_49 (by decide) ?_
            refine lv_aload_n hx hb dX8_lay_51 rfl (lv_at hl 0 rfl) ?_
            refine nx_get S0 hK hP 0 0 hin_X8 hf_7 rfl rfl (by decide) rfl rfl dX8_lay_52 ?_
            refine lv_iconst (v := (nI 2)) hx hb dX8_lay_55 (by decide) ?_
            refine nx_iald S0 hK hP 3 (v := th_told_21 2) rfl (by decide) rfl dX8_lay_56 ?_
            refine lv_iadd hx hb dX8_lay_57 ?_
            refine lv_iconst (v := (nI 0)) hx hb dX8_lay_58 (by decide) ?_
            have hg := ng_p hF
            have hF := ng_x hF
            refine nx_iast S0 hK hP hD hS 3 rfl hg dX8_lay_59 (W1 := [(q_th, .inr (8, [.ref q_th_told, .ref q_th_now, .ref q_th_text, .int th_letters, .int o8.2.1, .ref q_th_read, .int o8.2.2.1, .int o8.2.2.2.1, x_th_from, x_th_to, x_th_undone, .int th_undos, x_th_aside, .int th_beganOn, .int th_beganIn, .int th_first, .int th_second, x_th_seenCell, x_th_seenNight, .int th_seens, .int th_above, .int th_below, x_th_kept, .int th_keeps])), (q_th_read, .inl (cI, 54, .inl o8.2.2.2.2)), (q_th_text, .inl (cI, 200, .inl th_text)), (q_th_told, .inl (cI, 54, .inl (upd th_told_21 (((nI 29) + (th_told_21 2)).toNatClampNeg) (nI 0)))), (q_th_now, .inl (cI, 28, .inl th_now))]) rfl (fun H locs hP hD hS => ?_)
            refine lv_aload_n hx hb dX8_lay_60 rfl (lv_at hl 0 rfl) ?_
            obtain ⟨o61, hF1, hF⟩ := ng_b hF
            refine nx_callVv (As := []) (rest := []) (W1 := [(q_th, .inr (8, [.ref q_th_told, .ref q_th_now, .ref q_th_text, .int th_letters, .int o8.2.1, .ref q_th_read, .int o8.2.2.1, .int o8.2.2.2.1, x_th_from, x_th_to, x_th_undone, .int th_undos, x_th_aside, .int th_beganOn, .int th_beganIn, .int th_first, .int th_second, x_th_seenCell, x_th_seenNight, .int th_seens, .int th_above, .int th_below, x_th_kept, .int th_keeps])), (q_th_read, .inl (cI, 54, .inl o8.2.2.2.2)), (q_th_text, .inl (cI, 200, .inl th_text)), (q_th_told, .inl (cI, 54, .inl (upd th_told_21 (((nI 29) + (th_told_21 2)).toNatClampNeg) (nI 0)))), (q_th_now, .inl (cI, 28, .inl o61))]) (wr := [(q_th_read, .inl (cI, 54, .inl o8.2.2.2.2)), (q_th_text, .inl (cI, 200, .inl th_text))]) S0 hK hN hA hP hD hS (kX8_begins0 l dC dI cI q_th q_th_now q_th_told _ (.ref q_th_text) th_letters o8.2.1 (.ref q_th_read) o8.2.2.1 o8.2.2.2.1 (x_th_from) (x_th_to) (x_th_undone) th_undos (x_th_aside) th_beganOn th_beganIn th_first th_second (x_th_seenCell) (x_th_seenNight) th_seens th_above th_below (x_th_kept) th_keeps th_now (upd th_told_21 (((nI 29) + (th_told_21 2)).toNatClampNeg) (nI 0)) N o61 hF1) (cwV 0 hts gX8_lay_X8_begins0 rfl rfl rfl ⟨rfl, hdX8_begins0⟩ ⟨Nat.le_of_ble_eq_true rfl, Nat.le_of_ble_eq_true rfl⟩) [0, 4, 3] [1, 2] [2, 0, 1, 4, 3] rfl rfl rfl rfl 0 8 rfl rfl rfl rfl hl.1 rfl (Nat.le_of_ble_eq_true rfl) dX8_lay_61 (fun H locs hP hD hS => ?_)
            refine lv_aload_n hx hb dX8_lay_64 rfl (lv_at hl 0 rfl) ?_
            refine lv_iconst (v := (nI 0)) hx hb dX8_lay_65 (by decide) ?_
            refine nx_put S0 hK hP hD hS 0 19 hin_X8 tyX8 tyX8_ok nmX8 hf_106 rfl rfl (by decide) rfl rfl rfl rfl (Nat.le_of_ble_eq_true rfl) dX8_lay_66 (W1 := [(q_th, .inr (8, [.ref q_th_told, .ref q_th_now, .ref q_th_text, .int th_letters, .int o8.2.1, .ref q_th_read, .int o8.2.2.1, .int o8.2.2.2.1, x_th_from, x_th_to, x_th_undone, .int th_undos, x_th_aside, .int th_beganOn, .int th_beganIn, .int th_first, .int th_second, x_th_seenCell, x_th_seenNight, .int (nI 0), .int th_above, .int th_below, x_th_kept, .int th_keeps])), (q_th_read, .inl (cI, 54, .inl o8.2.2.2.2)), (q_th_text, .inl (cI, 200, .inl th_text)), (q_th_told, .inl (cI, 54, .inl (upd th_told_21 (((nI 29) + (th_told_21 2)).toNatClampNeg) (nI 0)))), (q_th_now, .inl (cI, 28, .inl o61))]) rfl (fun H locs hP hD hS => ?_)
            refine lv_aload_n hx hb dX8_lay_69 rfl (lv_at hl 0 rfl) ?_
            refine lv_iconst (v := (nI 0)) hx hb dX8_lay_70 (by decide) ?_
            refine nx_put S0 hK hP hD hS 0 11 hin_X8 tyX8 tyX8_ok nmX8 hf_109 rfl rfl (by decide) rfl rfl rfl rfl (Nat.le_of_ble_eq_true rfl) dX8_lay_71 (W1 := [(q_th, .inr (8, [.ref q_th_told, .ref q_th_now, .ref q_th_text, .int th_letters, .int o8.2.1, .ref q_th_read, .int o8.2.2.1, .int o8.2.2.2.1, x_th_from, x_th_to, x_th_undone, .int (nI 0), x_th_aside, .int th_beganOn, .int th_beganIn, .int th_first, .int th_second, x_th_seenCell, x_th_seenNight, .int (nI 0), .int th_above, .int th_below, x_th_kept, .int th_keeps])), (q_th_read, .inl (cI, 54, .inl o8.2.2.2.2)), (q_th_text, .inl (cI, 200, .inl th_text)), (q_th_told, .inl (cI, 54, .inl (upd th_told_21 (((nI 29) + (th_told_21 2)).toNatClampNeg) (nI 0)))), (q_th_now, .inl (cI, 28, .inl o61))]) rfl (fun H locs hP hD hS => ?_)
            refine lv_aload_n hx hb dX8_lay_74 rfl (lv_at hl 0 rfl) ?_
            refine lv_iconst (v := (nI 0)) hx hb dX8_lay_75 (by decide) ?_
            refine nx_put S0 hK hP hD hS 0 23 hin_X8 tyX8 tyX8_ok nmX8 hf_112 rfl rfl (by decide) rfl rfl rfl rfl (Nat.le_of_ble_eq_true rfl) dX8_lay_76 (W1 := [(q_th, .inr (8, [.ref q_th_told, .ref q_th_now, .ref q_th_text, .int th_letters, .int o8.2.1, .ref q_th_read, .int o8.2.2.1, .int o8.2.2.2.1, x_th_from, x_th_to, x_th_undone, .int (nI 0), x_th_aside, .int th_beganOn, .int th_beganIn, .int th_first, .int th_second, x_th_seenCell, x_th_seenNight, .int (nI 0), .int th_above, .int th_below, x_th_kept, .int (nI 0)])), (q_th_read, .inl (cI, 54, .inl o8.2.2.2.2)), (q_th_text, .inl (cI, 200, .inl th_text)), (q_th_told, .inl (cI, 54, .inl (upd th_told_21 (((nI 29) + (th_told_21 2)).toNatClampNeg) (nI 0)))), (q_th_now, .inl (cI, 28, .inl o61))]) rfl (fun H locs hP hD hS => ?_)
            refine lv_aload_n hx hb dX8_lay_79 rfl (lv_at hl 0 rfl) ?_
            obtain ⟨o80, hF1, hF⟩ := ng_b hF
            refine nx_callVi (As := []) (rest := []) (W1 := [(q_th, .inr (8, [.ref q_th_told, .ref q_th_now, .ref q_th_text, .int th_letters, .int o8.2.1, .ref q_th_read, .int o8.2.2.1, .int o8.2.2.2.1, x_th_from, x_th_to, x_th_undone, .int (nI 0), x_th_aside, .int th_beganOn, .int th_beganIn, .int th_first, .int th_second, x_th_seenCell, x_th_seenNight, .int (nI 0), .int th_above, .int th_below, x_th_kept, .int (nI 0)])), (q_th_read, .inl (cI, 54, .inl o8.2.2.2.2)), (q_th_text, .inl (cI, 200, .inl th_text)), (q_th_told, .inl (cI, 54, .inl (upd th_told_21 (((nI 29) + (th_told_21 2)).toNatClampNeg) (nI 0)))), (q_th_now, .inl (cI, 28, .inl o61))]) (wr := [(q_th_read, .inl (cI, 54, .inl o8.2.2.2.2)), (q_th_text, .inl (cI, 200, .inl th_text)), (q_th_now, .inl (cI, 28, .inl o61))]) S0 hK hN hA hP hD hS (kX8_cells l dC dI cI q_th q_th_told _ (.ref q_th_now) (.ref q_th_text) th_letters o8.2.1 (.ref q_th_read) o8.2.2.1 o8.2.2.2.1 (x_th_from) (x_th_to) (x_th_undone) (nI 0) (x_th_aside) th_beganOn th_beganIn th_first th_second (x_th_seenCell) (x_th_seenNight) (nI 0) th_above th_below (x_th_kept) (nI 0) (upd th_told_21 (((nI 29) + (th_told_21 2)).toNatClampNeg) (nI 0)) N o80 hF1) (cwV 0 hts gX8_lay_X8_cells rfl rfl rfl ⟨rfl, hdX8_cells⟩ ⟨Nat.le_of_ble_eq_true rfl, Nat.le_of_ble_eq_true rfl⟩) [0, 3] [1, 2, 4] [3, 0, 1, 4, 2] rfl rfl rfl rfl 0 8 rfl rfl rfl rfl hl.1 rfl (Nat.le_of_ble_eq_true rfl) dX8_lay_80 (fun H locs hP hD hS => ?_)
            exact hret o80 o8.2.1 o8.2.2.1 o8.2.2.2.1 (nI 0) (nI 0) (nI 0) o8.2.2.2.2 (upd th_told_21 (((nI 29) + (th_told_21 2)).toNatClampNeg) (nI 0)) o61 _ _ _ _ hF dX8_lay_83 hP hD hS
          · have hF := ng_f hc hF
            refine lv_aload_n hx hb dX8_lay_27 rfl (lv_at hl 0 rfl) ?_
            refine nx_get S0 hK hP 0 0 hin_X8 hf_7 rfl rfl (by decide) rfl rfl dX8_lay_28 ?_
            refine lv_iload_n hx hb dX8_lay_31 rfl (lv_at hl 1 rfl) ?_
            refine lv_aload_n hx hb dX8_lay_32 rfl (lv_at hl 0 rfl) ?_
            refine nx_get S0 hK hP 0 5 hin_X8 hf_19 rfl rfl (by decide) rfl rfl dX8_lay_33 ?_
            refine lv_iload_n hx hb dX8_lay_36 rfl (lv_at hl 1 rfl) ?_
            have hg := ng_p hF
            have hF := ng_x hF
            refine nx_iald S0 hK hP 1 (v := o8.2.2.2.2 v1_21.toNatClampNeg) rfl hg rfl dX8_lay_37 ?_
            have hg := ng_p hF
            have hF := ng_x hF
            refine nx_iast S0 hK hP hD hS 3 rfl hg dX8_lay_38 (W1 := [(q_th, .inr (8, [.ref q_th_told, .ref q_th_now, .ref q_th_text, .int th_letters, .int o8.2.1, .ref q_th_read, .int o8.2.2.1, .int o8.2.2.2.1, x_th_from, x_th_to, x_th_undone, .int th_undos, x_th_aside, .int th_beganOn, .int th_beganIn, .int th_first, .int th_second, x_th_seenCell, x_th_seenNight, .int th_seens, .int th_above, .int th_below, x_th_kept, .int th_keeps])), (q_th_read, .inl (cI, 54, .inl o8.2.2.2.2)), (q_th_text, .inl (cI, 200, .inl th_text)), (q_th_told, .inl (cI, 54, .inl (upd th_told_21 v1_21.toNatClampNeg (o8.2.2.2.2 v1_21.toNatClampNeg)))), (q_th_now, .inl (cI, 28, .inl th_now))]) rfl (fun H locs hP hD hS => ?_)
            refine lv_iinc (v := v1_21 + (nI 1)) (lv' := [(1, .int (v1_21 + (nI 1))), (0, .ref q_th)]) hx hb dX8_lay_39 hl (k := 1) rfl rfl (by decide) rfl (fun ls hl => ?_)
            refine lv_goto (tgt := 21) hx hb dX8_lay_42 (by decide) ?_
            exact ih_21 (v1_21 + (nI 1)) (upd th_told_21 v1_21.toNatClampNeg (o8.2.2.2.2 v1_21.toNatClampNeg)) hF _ _ _ hP hD hS (lv_sub hl [1, 0] rfl)
      refine lv_istore_n (lv' := [(1, .int (nI 0)), (0, .ref q_th)]) hx hb dX8_lay_20 rfl hl (by decide) rfl (fun ls hl => ?_)
      exact B_21 N (nI 0) th_told hF _ _ _ hP hD hS (lv_sub hl [1, 0] rfl)
    · have hF := ng_f hc hF
      refine lv_bipush (v := (-2 : Int32)) hx hb dX8_lay_16 (by decide) ?_
      exact hret (-2 : Int32) o8.2.1 o8.2.2.1 o8.2.2.2.1 th_undos th_seens th_keeps o8.2.2.2.2 th_told th_now _ _ _ _ hF dX8_lay_18 hP hD hS
theorem hdX8_kind : yX8_kind.cls ≠ "java/lang/invoke/MethodHandle" ∧ yX8_kind.cls ≠ "java/lang/invoke/VarHandle" ∧ (parseMethodDescriptor yX8_kind.desc).map (fun d => d.parameters.length) = some 1 := by decide +kernel
set_option maxHeartbeats 40000000 in
set_option maxRecDepth 100000 in
theorem kX8_kind (l : Launch) (dC : Nat → ClassId) (dI : Nat → Nat → Nat) (cI : ClassId) (q_th : Nat) (q_th_now : Nat) (sz : Nat) (x_th_told : Value) (x_th_text : Value) (th_letters : Int32) (th_at : Int32) (x_th_read : Value) (th_isMore : Int32) (th_told0 : Int32) (x_th_from : Value) (x_th_to : Value) (x_th_undone : Value) (th_undos : Int32) (x_th_aside : Value) (th_beganOn : Int32) (th_beganIn : Int32) (th_first : Int32) (th_second : Int32) (x_th_seenCell : Value) (x_th_seenNight : Value) (th_seens : Int32) (th_above : Int32) (th_below : Int32) (x_th_kept : Value) (th_keeps : Int32) (th_now : Nat → Int32) (p1 : Int32) (N : Nat) (o : Int32) (hF : fX8_kind N p1 th_now = some o) : nx_I l yX8_kind wsX8_kind ({ frames := 0, cells := 0, slots := 0, locals := 0 } : Room) (dC, dI) cI [.ref q_th, .int p1] [(q_th, .inr (8, [x_th_told, .ref q_th_now, x_th_text, .int th_letters, .int th_at, x_th_read, .int th_isMore, .int th_told0, x_th_from, x_th_to, x_th_undone, .int th_undos, x_th_aside, .int th_beganOn, .int th_beganIn, .int th_first, .int th_second, x_th_seenCell, x_th_seenNight, .int th_seens, .int th_above, .int th_below, x_th_kept, .int th_keeps])), (q_th_now, .inl (cI, 28, .inl th_now))] sz o [(q_th, .inr (8, [x_th_told, .ref q_th_now, x_th_text, .int th_letters, .int th_at, x_th_read, .int th_isMore, .int th_told0, x_th_from, x_th_to, x_th_undone, .int th_undos, x_th_aside, .int th_beganOn, .int th_beganIn, .int th_first, .int th_second, x_th_seenCell, x_th_seenNight, .int th_seens, .int th_above, .int th_below, x_th_kept, .int th_keeps])), (q_th_now, .inl (cI, 28, .inl th_now))] := by
  refine nx_int (cc := cX8_kind) (maxL := 2) (by decide) rfl (Nat.le_of_ble_eq_true rfl) ?_
  intro p e s m args below meth c Q A S0 hK hN hA ret0 hP hD hS ls hl
  have S0 : CallFix p m c cX8_kind 2 s args wsX8_kind RX8 := S0
  have hx := S0.1
  have hb := S0.2.1
  have hown := S0.2.2.2.1
  have hts := S0.2.2.2.2
  have hf_13 := hts (.fieldLink RX8 13 "SnailsYearModel" "now" "[I") (by decide +kernel)
  have hin_X8 : ∀ w ∈ wsX80, w ∈ wsX8_kind := by decide +kernel
  have hl : lv_has ls 2 [(0, .ref q_th), (1, .int p1)] := hl
  have hret : ∀ (r0 : Int32) (H : Heap) (locs : List Loc) (ls : Array Slot) (pc : Nat), some r0 = some o → decode cX8_kind pc = .ok (.ireturn, 1) → va_P (dC, dI) vwCl [(q_th, .inr (8, [x_th_told, .ref q_th_now, x_th_text, .int th_letters, .int th_at, x_th_read, .int th_isMore, .int th_told0, x_th_from, x_th_to, x_th_undone, .int th_undos, x_th_aside, .int th_beganOn, .int th_beganIn, .int th_first, .int th_second, x_th_seenCell, x_th_seenNight, .int th_seens, .int th_above, .int th_below, x_th_kept, .int th_keeps])), (q_th_now, .inl (cI, 28, .inl th_now))] H → va_D A [(q_th, .inr (8, [x_th_told, .ref q_th_now, x_th_text, .int th_letters, .int th_at, x_th_read, .int th_isMore, .int th_told0, x_th_from, x_th_to, x_th_undone, .int th_undos, x_th_aside, .int th_beganOn, .int th_beganIn, .int th_first, .int th_second, x_th_seenCell, x_th_seenNight, .int th_seens, .int th_above, .int th_below, x_th_kept, .int th_keeps])), (q_th_now, .inl (cI, 28, .inl th_now))] → va_S A s.heap H locs → W p l e ({ frames := 0, cells := 0, slots := 0, locals := 0 } : Room) s m args below meth c H locs 0 0 Q (F0 m pc ls [.int r0]) := by
    intro r0 H locs ls pc ho hd hP hD hS
    cases ho
    exact ret0 H locs ls pc hd hP hD hS
  rw [fX8_kind_e] at hF
  refine lv_aload_n hx hb dX8_kind_0 rfl (lv_at hl 0 rfl) ?_
  refine nx_get S0 hK hP 0 1 hin_X8 hf_13 rfl rfl (by decide) rfl rfl dX8_kind_1 ?_
  refine lv_iconst (v := (nI 3)) hx hb dX8_kind_4 (by decide) ?_
  refine lv_iload_n hx hb dX8_kind_5 rfl (lv_at hl 1 rfl) ?_
  refine lv_iadd hx hb dX8_kind_6 ?_
  have hg := ng_p hF
  have hF := ng_x hF
  refine nx_iald S0 hK hP 1 (v := th_now (((nI 3) + p1).toNatClampNeg)) rfl hg rfl dX8_kind_7 ?_
  exact hret (th_now (((nI 3) + p1).toNatClampNeg)) _ _ _ _ hF dX8_kind_8 hP hD hS
theorem hdX8_beside : yX8_beside.cls ≠ "java/lang/invoke/MethodHandle" ∧ yX8_beside.cls ≠ "java/lang/invoke/VarHandle" ∧ (parseMethodDescriptor yX8_beside.desc).map (fun d => d.parameters.length) = some 2 := by decide +kernel
set_option maxHeartbeats 40000000 in
set_option maxRecDepth 100000 in
theorem kX8_beside (l : Launch) (dC : Nat → ClassId) (dI : Nat → Nat → Nat) (cI : ClassId) (q_th : Nat) (q_th_told : Nat) (sz : Nat) (x_th_now : Value) (x_th_text : Value) (th_letters : Int32) (th_at : Int32) (x_th_read : Value) (th_isMore : Int32) (th_told0 : Int32) (x_th_from : Value) (x_th_to : Value) (x_th_undone : Value) (th_undos : Int32) (x_th_aside : Value) (th_beganOn : Int32) (th_beganIn : Int32) (th_first : Int32) (th_second : Int32) (x_th_seenCell : Value) (x_th_seenNight : Value) (th_seens : Int32) (th_above : Int32) (th_below : Int32) (x_th_kept : Value) (th_keeps : Int32) (th_told : Nat → Int32) (p1 : Int32) (p2 : Int32) (N : Nat) (o : Int32) (hF : fX8_beside N p1 p2 th_told = some o) : nx_I l yX8_beside wsX8_beside ({ frames := 1, cells := 0, slots := 0, locals := 20 } : Room) (dC, dI) cI [.ref q_th, .int p1, .int p2] [(q_th, .inr (8, [.ref q_th_told, x_th_now, x_th_text, .int th_letters, .int th_at, x_th_read, .int th_isMore, .int th_told0, x_th_from, x_th_to, x_th_undone, .int th_undos, x_th_aside, .int th_beganOn, .int th_beganIn, .int th_first, .int th_second, x_th_seenCell, x_th_seenNight, .int th_seens, .int th_above, .int th_below, x_th_kept, .int th_keeps])), (q_th_told, .inl (cI, 54, .inl th_told))] sz o [(q_th, .inr (8, [.ref q_th_told, x_th_now, x_th_text, .int th_letters, .int th_at, x_th_read, .int th_isMore, .int th_told0, x_th_from, x_th_to, x_th_undone, .int th_undos, x_th_aside, .int th_beganOn, .int th_beganIn, .int th_first, .int th_second, x_th_seenCell, x_th_seenNight, .int th_seens, .int th_above, .int th_below, x_th_kept, .int th_keeps])), (q_th_told, .inl (cI, 54, .inl th_told))] := by
  refine nx_int (cc := cX8_beside) (maxL := 4) (by decide) rfl (Nat.le_of_ble_eq_true rfl) ?_
  intro p e s m args below meth c Q A S0 hK hN hA ret0 hP hD hS ls hl
  have S0 : CallFix p m c cX8_beside 4 s args wsX8_beside RX8 := S0
  have hx := S0.1
  have hb := S0.2.1
  have hown := S0.2.2.2.1
  have hts := S0.2.2.2.2
  have hf_7 := hts (.fieldLink RX8 7 "SnailsYearModel" "told" "[I") (by decide +kernel)
  have hin_X8 : ∀ w ∈ wsX80, w ∈ wsX8_beside := by decide +kernel
  have hl : lv_has ls 4 [(0, .ref q_th), (1, .int p1), (2, .int p2)] := hl
  have hret : ∀ (r0 : Int32) (H : Heap) (locs : List Loc) (ls : Array Slot) (pc : Nat), some r0 = some o → decode cX8_beside pc = .ok (.ireturn, 1) → va_P (dC, dI) vwCl [(q_th, .inr (8, [.ref q_th_told, x_th_now, x_th_text, .int th_letters, .int th_at, x_th_read, .int th_isMore, .int th_told0, x_th_from, x_th_to, x_th_undone, .int th_undos, x_th_aside, .int th_beganOn, .int th_beganIn, .int th_first, .int th_second, x_th_seenCell, x_th_seenNight, .int th_seens, .int th_above, .int th_below, x_th_kept, .int th_keeps])), (q_th_told, .inl (cI, 54, .inl th_told))] H → va_D A [(q_th, .inr (8, [.ref q_th_told, x_th_now, x_th_text, .int th_letters, .int th_at, x_th_read, .int th_isMore, .int th_told0, x_th_from, x_th_to, x_th_undone, .int th_undos, x_th_aside, .int th_beganOn, .int th_beganIn, .int th_first, .int th_second, x_th_seenCell, x_th_seenNight, .int th_seens, .int th_above, .int th_below, x_th_kept, .int th_keeps])), (q_th_told, .inl (cI, 54, .inl th_told))] → va_S A s.heap H locs → W p l e ({ frames := 1, cells := 0, slots := 0, locals := 20 } : Room) s m args below meth c H locs 0 0 Q (F0 m pc ls [.int r0]) := by
    intro r0 H locs ls pc ho hd hP hD hS
    cases ho
    exact ret0 H locs ls pc hd hP hD hS
  rw [fX8_beside_e] at hF
  refine lv_aload_n hx hb dX8_beside_0 rfl (lv_at hl 0 rfl) ?_
  refine nx_get S0 hK hP 0 0 hin_X8 hf_7 rfl rfl (by decide) rfl rfl dX8_beside_1 ?_
  refine lv_iconst (v := (nI 1)) hx hb dX8_beside_4 (by decide) ?_
  refine nx_iald S0 hK hP 1 (v := th_told 1) rfl (by decide) rfl dX8_beside_5 ?_
  refine lv_istore_n (lv' := [(3, .int (th_told 1)), (0, .ref q_th), (1, .int p1), (2, .int p2)]) hx hb dX8_beside_6 rfl hl (by decide) rfl (fun ls hl => ?_)
  refine lv_iload_n hx hb dX8_beside_7 rfl (lv_at hl 3 rfl) ?_
  by_cases hs_0 : p2 = (nI 0)
  · have hF := ng_t hs_0 hF
    refine lv_tableIn (off := 28) (tgt := 36) hx hb dX8_beside_8 (by rw [hs_0]; decide) (by rw [hs_0]; decide) (by rw [hs_0]; decide +kernel) (by decide) ?_
    refine lv_iload_n hx hb dX8_beside_36 rfl (lv_at hl 2 rfl) ?_
    refine lv_iload_n hx hb dX8_beside_37 rfl (lv_at hl 0 rfl) ?_
    refine lv_icmp_ge (tgt := 46) hx hb dX8_beside_38 (by decide) (fun hc => ?_) (fun hc => ?_)
    · have hF := ng_t hc hF
      refine lv_iload_n hx hb dX8_beside_46 rfl (lv_at hl 2 rfl) ?_
      refine lv_iload_n hx hb dX8_beside_47 rfl (lv_at hl 0 rfl) ?_
      refine lv_isub hx hb dX8_beside_48 ?_
      exact hret (p1 - (th_told 1)) _ _ _ _ hF dX8_beside_49 hP hD hS
    · have hF := ng_f hc hF
      refine lv_bipush (v := (-4 : Int32)) hx hb dX8_beside_41 (by decide) ?_
      refine lv_goto (tgt := 49) hx hb dX8_beside_43 (by decide) ?_
      exact hret (-4 : Int32) _ _ _ _ hF dX8_beside_49 hP hD hS
  have hF := ng_f hs_0 hF
  by_cases hs_1 : p2 = (nI 1)
  · have hF := ng_t hs_1 hF
    refine lv_tableIn (off := 42) (tgt := 50) hx hb dX8_beside_8 (by rw [hs_1]; decide) (by rw [hs_1]; decide) (by rw [hs_1]; decide +kernel) (by decide) ?_
    refine lv_iload_n hx hb dX8_beside_50 rfl (lv_at hl 2 rfl) ?_
    refine lv_iload_n hx hb dX8_beside_51 rfl (lv_at hl 0 rfl) ?_
    have hg := ng_p hF
    have hF := ng_x hF
    refine lv_irem hx hb dX8_beside_52 hg ?_
    refine lv_if_ne (tgt := 61) hx hb dX8_beside_53 (by decide) (fun hc => ?_) (fun hc => ?_)
    · have hF := ng_f hc hF
      refine lv_iload_n hx hb dX8_beside_61 rfl (lv_at hl 2 rfl) ?_
      refine lv_iconst (v := (nI 1)) hx hb dX8_beside_62 (by decide) ?_
      refine lv_isub hx hb dX8_beside_63 ?_
      exact hret (p1 - (nI 1)) _ _ _ _ hF dX8_beside_64 hP hD hS
    · have hF := ng_t hc hF
      refine lv_bipush (v := (-4 : Int32)) hx hb dX8_beside_56 (by decide) ?_
      refine lv_goto (tgt := 64) hx hb dX8_beside_58 (by decide) ?_
      exact hret (-4 : Int32) _ _ _ _ hF dX8_beside_64 hP hD hS
  have hF := ng_f hs_1 hF
  by_cases hs_2 : p2 = (nI 2)
  · have hF := ng_t hs_2 hF
    refine lv_tableIn (off := 57) (tgt := 65) hx hb dX8_beside_8 (by rw [hs_2]; decide) (by rw [hs_2]; decide) (by rw [hs_2]; decide +kernel) (by decide) ?_
    refine lv_iload_n hx hb dX8_beside_65 rfl (lv_at hl 2 rfl) ?_
    refine lv_iload_n hx hb dX8_beside_66 rfl (lv_at hl 0 rfl) ?_
    have hg := ng_p hF
    have hF := ng_x hF
    refine lv_irem hx hb dX8_beside_67 hg ?_
    refine lv_iload_n hx hb dX8_beside_68 rfl (lv_at hl 0 rfl) ?_
    refine lv_iconst (v := (nI 1)) hx hb dX8_beside_69 (by decide) ?_
    refine lv_isub hx hb dX8_beside_70 ?_
    refine lv_icmp_ne (tgt := 79) hx hb dX8_beside_71 (by decide) (fun hc => ?_) (fun hc => ?_)
    · have hF := ng_f hc hF
      refine lv_iload_n hx hb dX8_beside_79 rfl (lv_at hl 2 rfl) ?_
      refine lv_iconst (v := (nI 1)) hx hb dX8_beside_80 (by decide) ?_
      refine lv_iadd hx hb dX8_beside_81 ?_
      exact hret (p1 + (nI 1)) _ _ _ _ hF dX8_beside_82 hP hD hS
    · have hF := ng_t hc hF
      refine lv_bipush (v := (-4 : Int32)) hx hb dX8_beside_74 (by decide) ?_
      refine lv_goto (tgt := 82) hx hb dX8_beside_76 (by decide) ?_
      exact hret (-4 : Int32) _ _ _ _ hF dX8_beside_82 hP hD hS
  have hF := ng_f hs_2 hF
  have hs_0z : ¬ p2.toInt = 0 := fun h9 => hs_0 (Int32.toInt_inj.mp (h9.trans (by decide)))
  have hs_1z : ¬ p2.toInt = 1 := fun h9 => hs_1 (Int32.toInt_inj.mp (h9.trans (by decide)))
  have hs_2z : ¬ p2.toInt = 2 := fun h9 => hs_2 (Int32.toInt_inj.mp (h9.trans (by decide)))
  refine lv_tableOut (tgt := 83) hx hb dX8_beside_8 (by omega) (by decide) ?_
  refine lv_iload_n hx hb dX8_beside_83 rfl (lv_at hl 2 rfl) ?_
  refine lv_iload_n hx hb dX8_beside_84 rfl (lv_at hl 0 rfl) ?_
  refine lv_iadd hx hb dX8_beside_85 ?_
  refine lv_aload_n hx hb dX8_beside_86 rfl (lv_at hl 1 rfl) ?_
  obtain ⟨o87, hF1, hF⟩ := ng_b hF
  refine nx_callVi (As := []) (rest := [.int (p1 + (th_told 1))]) (W1 := [(q_th, .inr (8, [.ref q_th_told, x_th_now, x_th_text, .int th_letters, .int th_at, x_th_read, .int th_isMore, .int th_told0, x_th_from, x_th_to, x_th_undone, .int th_undos, x_th_aside, .int th_beganOn, .int th_beganIn, .int th_first, .int th_second, x_th_seenCell, x_th_seenNight, .int th_seens, .int th_above, .int th_below, x_th_kept, .int th_keeps])), (q_th_told, .inl (cI, 54, .inl th_told))]) (wr := []) S0 hK hN hA hP hD hS (kX8_cells l dC dI cI q_th q_th_told _ (x_th_now) (x_th_text) th_letters th_at (x_th_read) th_isMore th_told0 (x_th_from) (x_th_to) (x_th_undone) th_undos (x_th_aside) th_beganOn th_beganIn th_first th_second (x_th_seenCell) (x_th_seenNight) th_seens th_above th_below (x_th_kept) th_keeps th_told N o87 hF1) (cwV 0 hts gX8_beside_X8_cells rfl rfl rfl ⟨rfl, hdX8_cells⟩ ⟨Nat.le_of_ble_eq_true rfl, Nat.le_of_ble_eq_true rfl⟩) [0, 1] [] [0, 1] rfl rfl rfl rfl 0 8 rfl rfl rfl rfl hl.1 rfl (Nat.le_of_ble_eq_true rfl) dX8_beside_87 (fun H locs hP hD hS => ?_)
  refine lv_icmp_lt (tgt := 98) hx hb dX8_beside_90 (by decide) (fun hc => ?_) (fun hc => ?_)
  · have hF := ng_t hc hF
    refine lv_iload_n hx hb dX8_beside_98 rfl (lv_at hl 2 rfl) ?_
    refine lv_iload_n hx hb dX8_beside_99 rfl (lv_at hl 0 rfl) ?_
    refine lv_iadd hx hb dX8_beside_100 ?_
    exact hret (p1 + (th_told 1)) _ _ _ _ hF dX8_beside_101 hP hD hS
  · have hF := ng_f hc hF
    refine lv_bipush (v := (-4 : Int32)) hx hb dX8_beside_93 (by decide) ?_
    refine lv_goto (tgt := 101) hx hb dX8_beside_95 (by decide) ?_
    exact hret (-4 : Int32) _ _ _ _ hF dX8_beside_101 hP hD hS
theorem hdX8_into : yX8_into.cls ≠ "java/lang/invoke/MethodHandle" ∧ yX8_into.cls ≠ "java/lang/invoke/VarHandle" ∧ (parseMethodDescriptor yX8_into.desc).map (fun d => d.parameters.length) = some 2 := by decide +kernel
set_option maxHeartbeats 40000000 in
set_option maxRecDepth 100000 in
theorem kX8_into (l : Launch) (dC : Nat → ClassId) (dI : Nat → Nat → Nat) (cI : ClassId) (q_th : Nat) (q_th_now : Nat) (sz : Nat) (x_th_told : Value) (x_th_text : Value) (th_letters : Int32) (th_at : Int32) (x_th_read : Value) (th_isMore : Int32) (th_told0 : Int32) (x_th_from : Value) (x_th_to : Value) (x_th_undone : Value) (th_undos : Int32) (x_th_aside : Value) (th_beganOn : Int32) (th_beganIn : Int32) (th_first : Int32) (th_second : Int32) (x_th_seenCell : Value) (x_th_seenNight : Value) (th_seens : Int32) (th_above : Int32) (th_below : Int32) (x_th_kept : Value) (th_keeps : Int32) (th_now : Nat → Int32) (p1 : Int32) (p2 : Int32) (N : Nat) (o : Int32) (hF : fX8_into N p1 p2 th_now = some o) : nx_I l yX8_into wsX8_into ({ frames := 1, cells := 0, slots := 0, locals := 21 } : Room) (dC, dI) cI [.ref q_th, .int p1, .int p2] [(q_th, .inr (8, [x_th_told, .ref q_th_now, x_th_text, .int th_letters, .int th_at, x_th_read, .int th_isMore, .int th_told0, x_th_from, x_th_to, x_th_undone, .int th_undos, x_th_aside, .int th_beganOn, .int th_beganIn, .int th_first, .int th_second, x_th_seenCell, x_th_seenNight, .int th_seens, .int th_above, .int th_below, x_th_kept, .int th_keeps])), (q_th_now, .inl (cI, 28, .inl th_now))] sz o [(q_th, .inr (8, [x_th_told, .ref q_th_now, x_th_text, .int th_letters, .int th_at, x_th_read, .int th_isMore, .int th_told0, x_th_from, x_th_to, x_th_undone, .int th_undos, x_th_aside, .int th_beganOn, .int th_beganIn, .int th_first, .int th_second, x_th_seenCell, x_th_seenNight, .int th_seens, .int th_above, .int th_below, x_th_kept, .int th_keeps])), (q_th_now, .inl (cI, 28, .inl th_now))] := by
  refine nx_int (cc := cX8_into) (maxL := 4) (by decide) rfl (Nat.le_of_ble_eq_true rfl) ?_
  intro p e s m args below meth c Q A S0 hK hN hA ret0 hP hD hS ls hl
  have S0 : CallFix p m c cX8_into 4 s args wsX8_into RX8 := S0
  have hx := S0.1
  have hb := S0.2.1
  have hown := S0.2.2.2.1
  have hts := S0.2.2.2.2
  have hl : lv_has ls 4 [(0, .ref q_th), (1, .int p1), (2, .int p2)] := hl
  have hret : ∀ (r0 : Int32) (H : Heap) (locs : List Loc) (ls : Array Slot) (pc : Nat), some r0 = some o → decode cX8_into pc = .ok (.ireturn, 1) → va_P (dC, dI) vwCl [(q_th, .inr (8, [x_th_told, .ref q_th_now, x_th_text, .int th_letters, .int th_at, x_th_read, .int th_isMore, .int th_told0, x_th_from, x_th_to, x_th_undone, .int th_undos, x_th_aside, .int th_beganOn, .int th_beganIn, .int th_first, .int th_second, x_th_seenCell, x_th_seenNight, .int th_seens, .int th_above, .int th_below, x_th_kept, .int th_keeps])), (q_th_now, .inl (cI, 28, .inl th_now))] H → va_D A [(q_th, .inr (8, [x_th_told, .ref q_th_now, x_th_text, .int th_letters, .int th_at, x_th_read, .int th_isMore, .int th_told0, x_th_from, x_th_to, x_th_undone, .int th_undos, x_th_aside, .int th_beganOn, .int th_beganIn, .int th_first, .int th_second, x_th_seenCell, x_th_seenNight, .int th_seens, .int th_above, .int th_below, x_th_kept, .int th_keeps])), (q_th_now, .inl (cI, 28, .inl th_now))] → va_S A s.heap H locs → W p l e ({ frames := 1, cells := 0, slots := 0, locals := 21 } : Room) s m args below meth c H locs 0 0 Q (F0 m pc ls [.int r0]) := by
    intro r0 H locs ls pc ho hd hP hD hS
    cases ho
    exact ret0 H locs ls pc hd hP hD hS
  rw [fX8_into_e] at hF
  refine lv_aload_n hx hb dX8_into_0 rfl (lv_at hl 0 rfl) ?_
  refine lv_iload_n hx hb dX8_into_1 rfl (lv_at hl 1 rfl) ?_
  obtain ⟨o2, hF1, hF⟩ := ng_b hF
  refine nx_callVi (As := [.int p1]) (rest := []) (W1 := [(q_th, .inr (8, [x_th_told, .ref q_th_now, x_th_text, .int th_letters, .int th_at, x_th_read, .int th_isMore, .int th_told0, x_th_from, x_th_to, x_th_undone, .int th_undos, x_th_aside, .int th_beganOn, .int th_beganIn, .int th_first, .int th_second, x_th_seenCell, x_th_seenNight, .int th_seens, .int th_above, .int th_below, x_th_kept, .int th_keeps])), (q_th_now, .inl (cI, 28, .inl th_now))]) (wr := []) S0 hK hN hA hP hD hS (kX8_kind l dC dI cI q_th q_th_now _ (x_th_told) (x_th_text) th_letters th_at (x_th_read) th_isMore th_told0 (x_th_from) (x_th_to) (x_th_undone) th_undos (x_th_aside) th_beganOn th_beganIn th_first th_second (x_th_seenCell) (x_th_seenNight) th_seens th_above th_below (x_th_kept) th_keeps th_now p1 N o2 hF1) (cwV 1 hts gX8_into_X8_kind rfl rfl rfl ⟨rfl, hdX8_kind⟩ ⟨Nat.le_of_ble_eq_true rfl, Nat.le_of_ble_eq_true rfl⟩) [0, 1] [] [0, 1] rfl rfl rfl rfl 0 8 rfl rfl rfl rfl hl.1 rfl (Nat.le_of_ble_eq_true rfl) dX8_into_2 (fun H locs hP hD hS => ?_)
  refine lv_istore_n (lv' := [(3, .int o2), (0, .ref q_th), (1, .int p1), (2, .int p2)]) hx hb dX8_into_5 rfl hl (by decide) rfl (fun ls hl => ?_)
  refine lv_iload_n hx hb dX8_into_6 rfl (lv_at hl 0 rfl) ?_
  refine lv_iconst (v := (nI 2)) hx hb dX8_into_7 (by decide) ?_
  refine lv_icmp_ne (tgt := 17) hx hb dX8_into_8 (by decide) (fun hc => ?_) (fun hc => ?_)
  · have hF := ng_f hc hF
    refine lv_iload_n hx hb dX8_into_17 rfl (lv_at hl 0 rfl) ?_
    refine lv_iconst (v := (nI 1)) hx hb dX8_into_18 (by decide) ?_
    refine lv_icmp_ne (tgt := 26) hx hb dX8_into_19 (by decide) (fun hc => ?_) (fun hc => ?_)
    · have hF := ng_f hc hF
      refine lv_iload_n hx hb dX8_into_26 rfl (lv_at hl 0 rfl) ?_
      refine lv_iconst (v := (nI 4)) hx hb dX8_into_27 (by decide) ?_
      refine lv_icmp_ne (tgt := 35) hx hb dX8_into_28 (by decide) (fun hc => ?_) (fun hc => ?_)
      · have hF := ng_f hc hF
        refine lv_iconst (v := (nI 1)) hx hb dX8_into_35 (by decide) ?_
        exact hret (nI 1) _ _ _ _ hF dX8_into_36 hP hD hS
      · have hF := ng_t hc hF
        refine lv_iload_n hx hb dX8_into_31 rfl (lv_at hl 3 rfl) ?_
        refine lv_goto (tgt := 36) hx hb dX8_into_32 (by decide) ?_
        exact hret p2 _ _ _ _ hF dX8_into_36 hP hD hS
    · have hF := ng_t hc hF
      refine lv_iconst (v := (nI 3)) hx hb dX8_into_22 (by decide) ?_
      refine lv_goto (tgt := 36) hx hb dX8_into_23 (by decide) ?_
      exact hret (nI 3) _ _ _ _ hF dX8_into_36 hP hD hS
  · have hF := ng_t hc hF
    refine lv_sipush (v := (nI 9999)) hx hb dX8_into_11 (by decide) ?_
    refine lv_goto (tgt := 36) hx hb dX8_into_14 (by decide) ?_
    exact hret (nI 9999) _ _ _ _ hF dX8_into_36 hP hD hS
theorem hdX8_seeks : yX8_seeks.cls ≠ "java/lang/invoke/MethodHandle" ∧ yX8_seeks.cls ≠ "java/lang/invoke/VarHandle" ∧ (parseMethodDescriptor yX8_seeks.desc).map (fun d => d.parameters.length) = some 0 := by decide +kernel
set_option maxHeartbeats 40000000 in
set_option maxRecDepth 100000 in
theorem kX8_seeks (l : Launch) (dC : Nat → ClassId) (dI : Nat → Nat → Nat) (cI : ClassId) (q_th : Nat) (q_th_told : Nat) (q_th_from : Nat) (q_th_now : Nat) (sz : Nat) (x_th_text : Value) (th_letters : Int32) (th_at : Int32) (x_th_read : Value) (th_isMore : Int32) (th_told0 : Int32) (x_th_to : Value) (x_th_undone : Value) (th_undos : Int32) (x_th_aside : Value) (th_beganOn : Int32) (th_beganIn : Int32) (th_first : Int32) (th_second : Int32) (x_th_seenCell : Value) (x_th_seenNight : Value) (th_seens : Int32) (th_above : Int32) (th_below : Int32) (x_th_kept : Value) (th_keeps : Int32) (th_told : Nat → Int32) (th_from : Nat → Int32) (th_now : Nat → Int32) (N : Nat) (o : (Nat → Int32)) (hF : fX8_seeks N th_told th_from th_now = some o) : nx_V l yX8_seeks wsX8_seeks ({ frames := 2, cells := 0, slots := 0, locals := 44 } : Room) (dC, dI) cI [.ref q_th] [(q_th, .inr (8, [.ref q_th_told, .ref q_th_now, x_th_text, .int th_letters, .int th_at, x_th_read, .int th_isMore, .int th_told0, .ref q_th_from, x_th_to, x_th_undone, .int th_undos, x_th_aside, .int th_beganOn, .int th_beganIn, .int th_first, .int th_second, x_th_seenCell, x_th_seenNight, .int th_seens, .int th_above, .int th_below, x_th_kept, .int th_keeps])), (q_th_told, .inl (cI, 54, .inl th_told)), (q_th_from, .inl (cI, 25, .inl th_from)), (q_th_now, .inl (cI, 28, .inl th_now))] sz [(q_th, .inr (8, [.ref q_th_told, .ref q_th_now, x_th_text, .int th_letters, .int th_at, x_th_read, .int th_isMore, .int th_told0, .ref q_th_from, x_th_to, x_th_undone, .int th_undos, x_th_aside, .int th_beganOn, .int th_beganIn, .int th_first, .int th_second, x_th_seenCell, x_th_seenNight, .int th_seens, .int th_above, .int th_below, x_th_kept, .int th_keeps])), (q_th_told, .inl (cI, 54, .inl th_told)), (q_th_from, .inl (cI, 25, .inl o)), (q_th_now, .inl (cI, 28, .inl th_now))] := by
  refine nx_void (cc := cX8_seeks) (maxL := 6) (by decide) rfl (Nat.le_of_ble_eq_true rfl) ?_
  intro p e s m args below meth c Q A S0 hK hN hA ret0 hP hD hS ls hl
  have S0 : CallFix p m c cX8_seeks 6 s args wsX8_seeks RX8 := S0
  have hx := S0.1
  have hb := S0.2.1
  have hown := S0.2.2.2.1
  have hts := S0.2.2.2.2
  have hf_22 := hts (.fieldLink RX8 22 "SnailsYearModel" "from" "[I") (by decide +kernel)
  have hin_X8 : ∀ w ∈ wsX80, w ∈ wsX8_seeks := by decide +kernel
  have hf_13 := hts (.fieldLink RX8 13 "SnailsYearModel" "now" "[I") (by decide +kernel)
  have hl : lv_has ls 6 [(0, .ref q_th)] := hl
  have hret : ∀ (y0 : Nat → Int32) (H : Heap) (locs : List Loc) (ls : Array Slot) (pc : Nat), some y0 = some o → decode cX8_seeks pc = .ok (.return_, 1) → va_P (dC, dI) vwCl [(q_th, .inr (8, [.ref q_th_told, .ref q_th_now, x_th_text, .int th_letters, .int th_at, x_th_read, .int th_isMore, .int th_told0, .ref q_th_from, x_th_to, x_th_undone, .int th_undos, x_th_aside, .int th_beganOn, .int th_beganIn, .int th_first, .int th_second, x_th_seenCell, x_th_seenNight, .int th_seens, .int th_above, .int th_below, x_th_kept, .int th_keeps])), (q_th_told, .inl (cI, 54, .inl th_told)), (q_th_from, .inl (cI, 25, .inl y0)), (q_th_now, .inl (cI, 28, .inl th_now))] H → va_D A [(q_th, .inr (8, [.ref q_th_told, .ref q_th_now, x_th_text, .int th_letters, .int th_at, x_th_read, .int th_isMore, .int th_told0, .ref q_th_from, x_th_to, x_th_undone, .int th_undos, x_th_aside, .int th_beganOn, .int th_beganIn, .int th_first, .int th_second, x_th_seenCell, x_th_seenNight, .int th_seens, .int th_above, .int th_below, x_th_kept, .int th_keeps])), (q_th_told, .inl (cI, 54, .inl th_told)), (q_th_from, .inl (cI, 25, .inl y0)), (q_th_now, .inl (cI, 28, .inl th_now))] → va_S A s.heap H locs → W p l e ({ frames := 2, cells := 0, slots := 0, locals := 44 } : Room) s m args below meth c H locs 0 0 Q (F0 m pc ls []) := by
    intro y0 H locs ls pc ho hd hP hD hS
    cases ho
    exact ret0 H locs ls pc hd hP hD hS
  rw [fX8_seeks_e] at hF
  refine lv_iconst (v := (nI 0)) hx hb dX8_seeks_0 (by decide) ?_
  have B_2 : ∀ (n_2 : Nat) (v1_2 : Int32) (th_from_2 : Nat → Int32), fX8_seeks_2 N th_told th_now n_2 v1_2 th_from_2 = some o → ∀ (H : Heap) (locs : List Loc) (ls : Array Slot), va_P (dC, dI) vwCl [(q_th, .inr (8, [.ref q_th_told, .ref q_th_now, x_th_text, .int th_letters, .int th_at, x_th_read, .int th_isMore, .int th_told0, .ref q_th_from, x_th_to, x_th_undone, .int th_undos, x_th_aside, .int th_beganOn, .int th_beganIn, .int th_first, .int th_second, x_th_seenCell, x_th_seenNight, .int th_seens, .int th_above, .int th_below, x_th_kept, .int th_keeps])), (q_th_told, .inl (cI, 54, .inl th_told)), (q_th_from, .inl (cI, 25, .inl th_from_2)), (q_th_now, .inl (cI, 28, .inl th_now))] H → va_D A [(q_th, .inr (8, [.ref q_th_told, .ref q_th_now, x_th_text, .int th_letters, .int th_at, x_th_read, .int th_isMore, .int th_told0, .ref q_th_from, x_th_to, x_th_undone, .int th_undos, x_th_aside, .int th_beganOn, .int th_beganIn, .int th_first, .int th_second, x_th_seenCell, x_th_seenNight, .int th_seens, .int th_above, .int th_below, x_th_kept, .int th_keeps])), (q_th_told, .inl (cI, 54, .inl th_told)), (q_th_from, .inl (cI, 25, .inl th_from_2)), (q_th_now, .inl (cI, 28, .inl th_now))] → va_S A s.heap H locs → lv_has ls 6 [(0, .ref q_th), (1, .int v1_2)] → W p l e ({ frames := 2, cells := 0, slots := 0, locals := 44 } : Room) s m args below meth c H locs 0 0 Q (F0 m 2 ls []) := by
    intro n_2
    induction n_2 with
    | zero =>
      intro v1_2 th_from_2 hF
      rw [fX8_seeks_2_z] at hF
      cases hF
    | succ n_2 ih_2 =>
      intro v1_2 th_from_2 hF H locs ls hP hD hS hl
      rw [fX8_seeks_2_s] at hF
      refine lv_iload_n hx hb dX8_seeks_2 rfl (lv_at hl 1 rfl) ?_
      refine lv_aload_n hx hb dX8_seeks_3 rfl (lv_at hl 0 rfl) ?_
      obtain ⟨o4, hF1, hF⟩ := ng_b hF
      refine nx_callVi (As := []) (rest := [.int v1_2]) (W1 := [(q_th, .inr (8, [.ref q_th_told, .ref q_th_now, x_th_text, .int th_letters, .int th_at, x_th_read, .int th_isMore, .int th_told0, .ref q_th_from, x_th_to, x_th_undone, .int th_undos, x_th_aside, .int th_beganOn, .int th_beganIn, .int th_first, .int th_second, x_th_seenCell, x_th_seenNight, .int th_seens, .int th_above, .int th_below, x_th_kept, .int th_keeps])), (q_th_told, .inl (cI, 54, .inl th_told)), (q_th_from, .inl (cI, 25, .inl th_from_2)), (q_th_now, .inl (cI, 28, .inl th_now))]) (wr := [(q_th_from, .inl (cI, 25, .inl th_from_2)), (q_th_now, .inl (cI, 28, .inl th_now))]) S0 hK hN hA hP hD hS (kX8_cells l dC dI cI q_th q_th_told _ (.ref q_th_now) (x_th_text) th_letters th_at (x_th_read) th_isMore th_told0 (.ref q_th_from) (x_th_to) (x_th_undone) th_undos (x_th_aside) th_beganOn th_beganIn th_first th_second (x_th_seenCell) (x_th_seenNight) th_seens th_above th_below (x_th_kept) th_keeps th_told N o4 hF1) (cwV 0 hts gX8_seeks_X8_cells rfl rfl rfl ⟨rfl, hdX8_cells⟩ ⟨Nat.le_of_ble_eq_true rfl, Nat.le_of_ble_eq_true rfl⟩) [0, 1] [2, 3] [2, 3, 0, 1] rfl rfl rfl rfl 0 8 rfl rfl rfl rfl hl.1 rfl (Nat.le_of_ble_eq_true rfl) dX8_seeks_4 (fun H locs hP hD hS => ?_)
      refine lv_icmp_ge (tgt := 39) hx hb dX8_seeks_7 (by decide) (fun hc => ?_) (fun hc => ?_)
      · have hF := ng_t hc hF
        refine lv_iconst (v := (nI 1)) hx hb dX8_seeks_39 (by decide) ?_
        have B_41 : ∀ (n_41 : Nat) (v1_41 : Int32) (th_from_41 : Nat → Int32), fX8_seeks_41 N th_told th_now n_41 v1_41 th_from_41 = some o → ∀ (H : Heap) (locs : List Loc) (ls : Array Slot), va_P (dC, dI) vwCl [(q_th, .inr (8, [.ref q_th_told, .ref q_th_now, x_th_text, .int th_letters, .int th_at, x_th_read, .int th_isMore, .int th_told0, .ref q_th_from, x_th_to, x_th_undone, .int th_undos, x_th_aside, .int th_beganOn, .int th_beganIn, .int th_first, .int th_second, x_th_seenCell, x_th_seenNight, .int th_seens, .int th_above, .int th_below, x_th_kept, .int th_keeps])), (q_th_told, .inl (cI, 54, .inl th_told)), (q_th_from, .inl (cI, 25, .inl th_from_41)), (q_th_now, .inl (cI, 28, .inl th_now))] H → va_D A [(q_th, .inr (8, [.ref q_th_told, .ref q_th_now, x_th_text, .int th_letters, .int th_at, x_th_read, .int th_isMore, .int th_told0, .ref q_th_from, x_th_to, x_th_undone, .int th_undos, x_th_aside, .int th_beganOn, .int th_beganIn, .int th_first, .int th_second, x_th_seenCell, x_th_seenNight, .int th_seens, .int th_above, .int th_below, x_th_kept, .int th_keeps])), (q_th_told, .inl (cI, 54, .inl th_told)), (q_th_from, .inl (cI, 25, .inl th_from_41)), (q_th_now, .inl (cI, 28, .inl th_now))] → va_S A s.heap H locs → lv_has ls 6 [(0, .ref q_th), (1, .int v1_41)] → W p l e ({ frames := 2, cells := 0, slots := 0, locals := 44 } : Room) s m args below meth c H locs 0 0 Q (F0 m 41 ls []) := by
          intro n_41
          induction n_41 with
          | zero =>
            intro v1_41 th_from_41 hF
            rw [fX8_seeks_41_z] at hF
            cases hF
          | succ n_41 ih_41 =>
            intro v1_41 th_from_41 hF H locs ls hP hD hS hl
            rw [fX8_seeks_41_s] at hF
            refine lv_iload_n hx hb dX8_seeks_41 rfl (lv_at hl 1 rfl) ?_
            refine lv_if_eq (tgt := 159) hx hb dX8_seeks_42 (by decide) (fun hc => ?_) (fun hc => ?_)
            · have hF := ng_t hc hF
              exact hret th_from_41 _ _ _ _ hF dX8_seeks_159 hP hD hS
            · have hF := ng_f hc hF
              refine lv_iconst (v := (nI 0)) hx hb dX8_seeks_45 (by decide) ?_
              refine lv_istore_n (lv' := [(1, .int (nI 0)), (0, .ref q_th)]) hx hb dX8_seeks_46 rfl hl (by decide) rfl (fun ls hl => ?_)
              refine lv_iconst (v := (nI 0)) hx hb dX8_seeks_47 (by decide) ?_
              have B_49 : ∀ (n_49 : Nat) (v1_49 : Int32) (v2_49 : Int32) (th_from_49 : Nat → Int32), fX8_seeks_49 N th_told th_now (fX8_seeks_41 N th_told th_now n_41) n_49 v1_49 v2_49 th_from_49 = some o → ∀ (H : Heap) (locs : List Loc) (ls : Array Slot), va_P (dC, dI) vwCl [(q_th, .inr (8, [.ref q_th_told, .ref q_th_now, x_th_text, .int th_letters, .int th_at, x_th_read, .int th_isMore, .int th_told0, .ref q_th_from, x_th_to, x_th_undone, .int th_undos, x_th_aside, .int th_beganOn, .int th_beganIn, .int th_first, .int th_second, x_th_seenCell, x_th_seenNight, .int th_seens, .int th_above, .int th_below, x_th_kept, .int th_keeps])), (q_th_told, .inl (cI, 54, .inl th_told)), (q_th_from, .inl (cI, 25, .inl th_from_49)), (q_th_now, .inl (cI, 28, .inl th_now))] H → va_D A [(q_th, .inr (8, [.ref q_th_told, .ref q_th_now, x_th_text, .int th_letters, .int th_at, x_th_read, .int th_isMore, .int th_told0, .ref q_th_from, x_th_to, x_th_undone, .int th_undos, x_th_aside, .int th_beganOn, .int th_beganIn, .int th_first, .int th_second, x_th_seenCell, x_th_seenNight, .int th_seens, .int th_above, .int th_below, x_th_kept, .int th_keeps])), (q_th_told, .inl (cI, 54, .inl th_told)), (q_th_from, .inl (cI, 25, .inl th_from_49)), (q_th_now, .inl (cI, 28, .inl th_now))] → va_S A s.heap H locs → lv_has ls 6 [(0, .ref q_th), (1, .int v1_49), (2, .int v2_49)] → W p l e ({ frames := 2, cells := 0, slots := 0, locals := 44 } : Room) s m args below meth c H locs 0 0 Q (F0 m 49 ls []) := by
                intro n_49
                induction n_49 with
                | zero =>
                  intro v1_49 v2_49 th_from_49 hF
                  rw [fX8_seeks_49_z] at hF
                  cases hF
                | succ n_49 ih_49 =>
                  intro v1_49 v2_49 th_from_49 hF H locs ls hP hD hS hl
                  rw [fX8_seeks_49_s] at hF
                  refine lv_iload_n hx hb dX8_seeks_49 rfl (lv_at hl 2 rfl) ?_
                  refine lv_aload_n hx hb dX8_seeks_50 rfl (lv_at hl 0 rfl) ?_
                  obtain ⟨o51, hF1, hF⟩ := ng_b hF
                  refine nx_callVi (As := []) (rest := [.int v2_49]) (W1 := [(q_th, .inr (8, [.ref q_th_told, .ref q_th_now, x_th_text, .int th_letters, .int th_at, x_th_read, .int th_isMore, .int th_told0, .ref q_th_from, x_th_to, x_th_undone, .int th_undos, x_th_aside, .int th_beganOn, .int th_beganIn, .int th_first, .int th_second, x_th_seenCell, x_th_seenNight, .int th_seens, .int th_above, .int th_below, x_th_kept, .int th_keeps])), (q_th_told, .inl (cI, 54, .inl th_told)), (q_th_from, .inl (cI, 25, .inl th_from_49)), (q_th_now, .inl (cI, 28, .inl th_now))]) (wr := [(q_th_from, .inl (cI, 25, .inl th_from_49)), (q_th_now, .inl (cI, 28, .inl th_now))]) S0 hK hN hA hP hD hS (kX8_cells l dC dI cI q_th q_th_told _ (.ref q_th_now) (x_th_text) th_letters th_at (x_th_read) th_isMore th_told0 (.ref q_th_from) (x_th_to) (x_th_undone) th_undos (x_th_aside) th_beganOn th_beganIn th_first th_second (x_th_seenCell) (x_th_seenNight) th_seens th_above th_below (x_th_kept) th_keeps th_told N o51 hF1) (cwV 0 hts gX8_seeks_X8_cells rfl rfl rfl ⟨rfl, hdX8_cells⟩ ⟨Nat.le_of_ble_eq_true rfl, Nat.le_of_ble_eq_true rfl⟩) [0, 1] [2, 3] [2, 3, 0, 1] rfl rfl rfl rfl 0 8 rfl rfl rfl rfl hl.1 rfl (Nat.le_of_ble_eq_true rfl) dX8_seeks_51 (fun H locs hP hD hS => ?_)
                  refine lv_icmp_ge (tgt := 156) hx hb dX8_seeks_54 (by decide) (fun hc => ?_) (fun hc => ?_)
                  · have hF := ng_t hc hF
                    refine lv_goto (tgt := 41) hx hb dX8_seeks_156 (by decide) ?_
                    exact ih_41 v1_49 th_from_49 hF _ _ _ hP hD hS (lv_sub hl [0, 1] rfl)
                  · have hF := ng_f hc hF
                    refine lv_iconst (v := (nI 0)) hx hb dX8_seeks_57 (by decide) ?_
                    have B_59 : ∀ (n_59 : Nat) (v1_59 : Int32) (v3_59 : Int32) (th_from_59 : Nat → Int32), fX8_seeks_59 N th_told th_now v2_49 (fX8_seeks_49 N th_told th_now (fX8_seeks_41 N th_told th_now n_41) n_49) n_59 v1_59 v3_59 th_from_59 = some o → ∀ (H : Heap) (locs : List Loc) (ls : Array Slot), va_P (dC, dI) vwCl [(q_th, .inr (8, [.ref q_th_told, .ref q_th_now, x_th_text, .int th_letters, .int th_at, x_th_read, .int th_isMore, .int th_told0, .ref q_th_from, x_th_to, x_th_undone, .int th_undos, x_th_aside, .int th_beganOn, .int th_beganIn, .int th_first, .int th_second, x_th_seenCell, x_th_seenNight, .int th_seens, .int th_above, .int th_below, x_th_kept, .int th_keeps])), (q_th_told, .inl (cI, 54, .inl th_told)), (q_th_from, .inl (cI, 25, .inl th_from_59)), (q_th_now, .inl (cI, 28, .inl th_now))] H → va_D A [(q_th, .inr (8, [.ref q_th_told, .ref q_th_now, x_th_text, .int th_letters, .int th_at, x_th_read, .int th_isMore, .int th_told0, .ref q_th_from, x_th_to, x_th_undone, .int th_undos, x_th_aside, .int th_beganOn, .int th_beganIn, .int th_first, .int th_second, x_th_seenCell, x_th_seenNight, .int th_seens, .int th_above, .int th_below, x_th_kept, .int th_keeps])), (q_th_told, .inl (cI, 54, .inl th_told)), (q_th_from, .inl (cI, 25, .inl th_from_59)), (q_th_now, .inl (cI, 28, .inl th_now))] → va_S A s.heap H locs → lv_has ls 6 [(0, .ref q_th), (1, .int v1_59), (2, .int v2_49), (3, .int v3_59)] → W p l e ({ frames := 2, cells := 0, slots := 0, locals := 44 } : Room) s m args below meth c H locs 0 0 Q (F0 m 59 ls []) := by
                      intro n_59
                      induction n_59 with
                      | zero =>
                        intro v1_59 v3_59 th_from_59 hF
                        rw [fX8_seeks_59_z] at hF
                        cases hF
                      | succ n_59 ih_59 =>
                        intro v1_59 v3_59 th_from_59 hF H locs ls hP hD hS hl
                        rw [fX8_seeks_59_s] at hF
                        refine lv_iload_n hx hb dX8_seeks_59 rfl (lv_at hl 3 rfl) ?_
                        refine lv_iconst (v := (nI 4)) hx hb dX8_seeks_60 (by decide) ?_
                        refine lv_icmp_ge (tgt := 150) hx hb dX8_seeks_61 (by decide) (fun hc => ?_) (fun hc => ?_)
                        · have hF := ng_t hc hF
                          refine lv_iinc (v := v2_49 + (nI 1)) (lv' := [(2, .int (v2_49 + (nI 1))), (0, .ref q_th), (1, .int v1_59), (3, .int v3_59)]) hx hb dX8_seeks_150 hl (k := 2) rfl rfl (by decide) rfl (fun ls hl => ?_)
                          refine lv_goto (tgt := 49) hx hb dX8_seeks_153 (by decide) ?_
                          exact ih_49 v1_59 (v2_49 + (nI 1)) th_from_59 hF _ _ _ hP hD hS (lv_sub hl [1, 2, 0] rfl)
                        · have hF := ng_f hc hF
                          refine lv_aload_n hx hb dX8_seeks_64 rfl (lv_at hl 0 rfl) ?_
                          refine nx_get S0 hK hP 0 8 hin_X8 hf_22 rfl rfl (by decide) rfl rfl dX8_seeks_65 ?_
                          refine lv_iload_n hx hb dX8_seeks_68 rfl (lv_at hl 2 rfl) ?_
                          have hg := ng_p hF
                          have hF := ng_x hF
                          refine nx_iald S0 hK hP 2 (v := th_from_59 v2_49.toNatClampNeg) rfl hg rfl dX8_seeks_69 ?_
                          refine lv_sipush (v := (nI 9999)) hx hb dX8_seeks_70 (by decide) ?_
                          refine lv_icmp_ge (tgt := 150) hx hb dX8_seeks_73 (by decide) (fun hc => ?_) (fun hc => ?_)
                          · have hF := ng_t hc hF
                            refine lv_iinc (v := v2_49 + (nI 1)) (lv' := [(2, .int (v2_49 + (nI 1))), (0, .ref q_th), (1, .int v1_59), (3, .int v3_59)]) hx hb dX8_seeks_150 hl (k := 2) rfl rfl (by decide) rfl (fun ls hl => ?_)
                            refine lv_goto (tgt := 49) hx hb dX8_seeks_153 (by decide) ?_
                            exact ih_49 v1_59 (v2_49 + (nI 1)) th_from_59 hF _ _ _ hP hD hS (lv_sub hl [1, 2, 0] rfl)
                          · have hF := ng_f hc hF
                            refine lv_aload_n hx hb dX8_seeks_76 rfl (lv_at hl 0 rfl) ?_
                            refine lv_iload_n hx hb dX8_seeks_77 rfl (lv_at hl 2 rfl) ?_
                            refine lv_iload_n hx hb dX8_seeks_78 rfl (lv_at hl 3 rfl) ?_
                            obtain ⟨o79, hF1, hF⟩ := ng_b hF
                            refine nx_callVi (As := [.int v2_49, .int v3_59]) (rest := []) (W1 := [(q_th, .inr (8, [.ref q_th_told, .ref q_th_now, x_th_text, .int th_letters, .int th_at, x_th_read, .int th_isMore, .int th_told0, .ref q_th_from, x_th_to, x_th_undone, .int th_undos, x_th_aside, .int th_beganOn, .int th_beganIn, .int th_first, .int th_second, x_th_seenCell, x_th_seenNight, .int th_seens, .int th_above, .int th_below, x_th_kept, .int th_keeps])), (q_th_told, .inl (cI, 54, .inl th_told)), (q_th_from, .inl (cI, 25, .inl th_from_59)), (q_th_now, .inl (cI, 28, .inl th_now))]) (wr := [(q_th_from, .inl (cI, 25, .inl th_from_59)), (q_th_now, .inl (cI, 28, .inl th_now))]) S0 hK hN hA hP hD hS (kX8_beside l dC dI cI q_th q_th_told _ (.ref q_th_now) (x_th_text) th_letters th_at (x_th_read) th_isMore th_told0 (.ref q_th_from) (x_th_to) (x_th_undone) th_undos (x_th_aside) th_beganOn th_beganIn th_first th_second (x_th_seenCell) (x_th_seenNight) th_seens th_above th_below (x_th_kept) th_keeps th_told v2_49 v3_59 N o79 hF1) (cwV 2 hts gX8_seeks_X8_beside rfl rfl rfl ⟨rfl, hdX8_beside⟩ ⟨Nat.le_of_ble_eq_true rfl, Nat.le_of_ble_eq_true rfl⟩) [0, 1] [2, 3] [2, 3, 0, 1] rfl rfl rfl rfl 0 8 rfl rfl rfl rfl hl.1 rfl (Nat.le_of_ble_eq_true rfl) dX8_seeks_79 (fun H locs hP hD hS => ?_)
                            refine lv_istore (lv' := [(4, .int o79), (0, .ref q_th), (1, .int v1_59), (2, .int v2_49), (3, .int v3_59)]) hx hb dX8_seeks_82 hl (by decide) rfl (fun ls hl => ?_)
                            refine lv_iload hx hb dX8_seeks_84 (lv_at hl 0 rfl) ?_
                            refine lv_bipush (v := (-4 : Int32)) hx hb dX8_seeks_86 (by decide) ?_
                            have B_111 : ∀ (s0_111 : Int32), fX8_seeks_111 v1_59 v3_59 th_from_59 o79 s0_111 (fX8_seeks_59 N th_told th_now v2_49 (fX8_seeks_49 N th_told th_now (fX8_seeks_41 N th_told th_now n_41) n_49) n_59) = some o → ∀ (H : Heap) (locs : List Loc) (ls : Array Slot), va_P (dC, dI) vwCl [(q_th, .inr (8, [.ref q_th_told, .ref q_th_now, x_th_text, .int th_letters, .int th_at, x_th_read, .int th_isMore, .int th_told0, .ref q_th_from, x_th_to, x_th_undone, .int th_undos, x_th_aside, .int th_beganOn, .int th_beganIn, .int th_first, .int th_second, x_th_seenCell, x_th_seenNight, .int th_seens, .int th_above, .int th_below, x_th_kept, .int th_keeps])), (q_th_told, .inl (cI, 54, .inl th_told)), (q_th_from, .inl (cI, 25, .inl th_from_59)), (q_th_now, .inl (cI, 28, .inl th_now))] H → va_D A [(q_th, .inr (8, [.ref q_th_told, .ref q_th_now, x_th_text, .int th_letters, .int th_at, x_th_read, .int th_isMore, .int th_told0, .ref q_th_from, x_th_to, x_th_undone, .int th_undos, x_th_aside, .int th_beganOn, .int th_beganIn, .int th_first, .int th_second, x_th_seenCell, x_th_seenNight, .int th_seens, .int th_above, .int th_below, x_th_kept, .int th_keeps])), (q_th_told, .inl (cI, 54, .inl th_told)), (q_th_from, .inl (cI, 25, .inl th_from_59)), (q_th_now, .inl (cI, 28, .inl th_now))] → va_S A s.heap H locs → lv_has ls 6 [(0, .ref q_th), (1, .int v1_59), (2, .int v2_49), (3, .int v3_59), (4, .int o79)] → W p l e ({ frames := 2, cells := 0, slots := 0, locals := 44 } : Room) s m args below meth c H locs 0 0 Q (F0 m 111 ls [.int s0_111]) := by
                              intro s0_111 hF H locs ls hP hD hS hl
                              rw [fX8_seeks_111_e] at hF
                              refine lv_istore (lv' := [(5, .int s0_111), (0, .ref q_th), (1, .int v1_59), (2, .int v2_49), (3, .int v3_59), (4, .int o79)]) hx hb dX8_seeks_111 hl (by decide) rfl (fun ls hl => ?_)
                              refine lv_iload hx hb dX8_seeks_113 (lv_at hl 0 rfl) ?_
                              refine lv_sipush (v := (nI 9999)) hx hb dX8_seeks_115 (by decide) ?_
                              refine lv_icmp_ge (tgt := 144) hx hb dX8_seeks_118 (by decide) (fun hc => ?_) (fun hc => ?_)
                              · have hF := ng_t hc hF
                                refine lv_iinc (v := v3_59 + (nI 1)) (lv' := [(3, .int (v3_59 + (nI 1))), (5, .int s0_111), (0, .ref q_th), (1, .int v1_59), (2, .int v2_49), (4, .int o79)]) hx hb dX8_seeks_144 hl (k := 4) rfl rfl (by decide) rfl (fun ls hl => ?_)
                                refine lv_goto (tgt := 59) hx hb dX8_seeks_147 (by decide) ?_
                                exact ih_59 v1_59 (v3_59 + (nI 1)) th_from_59 hF _ _ _ hP hD hS (lv_sub hl [2, 3, 4, 0] rfl)
                              · have hF := ng_f hc hF
                                refine lv_iload hx hb dX8_seeks_121 (lv_at hl 0 rfl) ?_
                                refine lv_aload_n hx hb dX8_seeks_123 rfl (lv_at hl 1 rfl) ?_
                                refine nx_get S0 hK hP 0 8 hin_X8 hf_22 rfl rfl (by decide) rfl rfl dX8_seeks_124 ?_
                                refine lv_iload hx hb dX8_seeks_127 (lv_at hl 5 rfl) ?_
                                have hg := ng_p hF
                                have hF := ng_x hF
                                refine nx_iald S0 hK hP 2 (v := th_from_59 o79.toNatClampNeg) rfl hg rfl dX8_seeks_129 ?_
                                refine lv_icmp_ge (tgt := 144) hx hb dX8_seeks_130 (by decide) (fun hc => ?_) (fun hc => ?_)
                                · have hF := ng_t hc hF
                                  refine lv_iinc (v := v3_59 + (nI 1)) (lv' := [(3, .int (v3_59 + (nI 1))), (5, .int s0_111), (0, .ref q_th), (1, .int v1_59), (2, .int v2_49), (4, .int o79)]) hx hb dX8_seeks_144 hl (k := 4) rfl rfl (by decide) rfl (fun ls hl => ?_)
                                  refine lv_goto (tgt := 59) hx hb dX8_seeks_147 (by decide) ?_
                                  exact ih_59 v1_59 (v3_59 + (nI 1)) th_from_59 hF _ _ _ hP hD hS (lv_sub hl [2, 3, 4, 0] rfl)
                                · have hF := ng_f hc hF
                                  refine lv_aload_n hx hb dX8_seeks_133 rfl (lv_at hl 1 rfl) ?_
                                  refine nx_get S0 hK hP 0 8 hin_X8 hf_22 rfl rfl (by decide) rfl rfl dX8_seeks_134 ?_
                                  refine lv_iload hx hb dX8_seeks_137 (lv_at hl 5 rfl) ?_
                                  refine lv_iload hx hb dX8_seeks_139 (lv_at hl 0 rfl) ?_
                                  have hg := ng_p hF
                                  have hF := ng_x hF
                                  refine nx_iast S0 hK hP hD hS 2 rfl hg dX8_seeks_141 (W1 := [(q_th, .inr (8, [.ref q_th_told, .ref q_th_now, x_th_text, .int th_letters, .int th_at, x_th_read, .int th_isMore, .int th_told0, .ref q_th_from, x_th_to, x_th_undone, .int th_undos, x_th_aside, .int th_beganOn, .int th_beganIn, .int th_first, .int th_second, x_th_seenCell, x_th_seenNight, .int th_seens, .int th_above, .int th_below, x_th_kept, .int th_keeps])), (q_th_told, .inl (cI, 54, .inl th_told)), (q_th_from, .inl (cI, 25, .inl (upd th_from_59 o79.toNatClampNeg s0_111))), (q_th_now, .inl (cI, 28, .inl th_now))]) rfl (fun H locs hP hD hS => ?_)
                                  refine lv_iconst (v := (nI 1)) hx hb dX8_seeks_142 (by decide) ?_
                                  refine lv_istore_n (lv' := [(1, .int (nI 1)), (5, .int s0_111), (0, .ref q_th), (2, .int v2_49), (3, .int v3_59), (4, .int o79)]) hx hb dX8_seeks_143 rfl hl (by decide) rfl (fun ls hl => ?_)
                                  refine lv_iinc (v := v3_59 + (nI 1)) (lv' := [(3, .int (v3_59 + (nI 1))), (1, .int (nI 1)), (5, .int s0_111), (0, .ref q_th), (2, .int v2_49), (4, .int o79)]) hx hb dX8_seeks_144 hl (k := 4) rfl rfl (by decide) rfl (fun ls hl => ?_)
                                  refine lv_goto (tgt := 59) hx hb dX8_seeks_147 (by decide) ?_
                                  exact ih_59 (nI 1) (v3_59 + (nI 1)) (upd th_from_59 o79.toNatClampNeg s0_111) hF _ _ _ hP hD hS (lv_sub hl [3, 1, 4, 0] rfl)
                            refine lv_icmp_ne (tgt := 97) hx hb dX8_seeks_88 (by decide) (fun hc => ?_) (fun hc => ?_)
                            · have hF := ng_f hc hF
                              refine lv_aload_n hx hb dX8_seeks_97 rfl (lv_at hl 1 rfl) ?_
                              refine nx_get S0 hK hP 0 8 hin_X8 hf_22 rfl rfl (by decide) rfl rfl dX8_seeks_98 ?_
                              refine lv_iload_n hx hb dX8_seeks_101 rfl (lv_at hl 3 rfl) ?_
                              have hg := ng_p hF
                              have hF := ng_x hF
                              refine nx_iald S0 hK hP 2 (v := th_from_59 v2_49.toNatClampNeg) rfl hg rfl dX8_seeks_102 ?_
                              refine lv_aload_n hx hb dX8_seeks_103 rfl (lv_at hl 1 rfl) ?_
                              refine lv_iload hx hb dX8_seeks_104 (lv_at hl 0 rfl) ?_
                              refine lv_iconst (v := (nI 2)) hx hb dX8_seeks_106 (by decide) ?_
                              obtain ⟨o107, hF1, hF⟩ := ng_b hF
                              refine nx_callVi (As := [.int o79, .int (nI 2)]) (rest := [.int (th_from_59 v2_49.toNatClampNeg)]) (W1 := [(q_th, .inr (8, [.ref q_th_told, .ref q_th_now, x_th_text, .int th_letters, .int th_at, x_th_read, .int th_isMore, .int th_told0, .ref q_th_from, x_th_to, x_th_undone, .int th_undos, x_th_aside, .int th_beganOn, .int th_beganIn, .int th_first, .int th_second, x_th_seenCell, x_th_seenNight, .int th_seens, .int th_above, .int th_below, x_th_kept, .int th_keeps])), (q_th_told, .inl (cI, 54, .inl th_told)), (q_th_from, .inl (cI, 25, .inl th_from_59)), (q_th_now, .inl (cI, 28, .inl th_now))]) (wr := [(q_th_told, .inl (cI, 54, .inl th_told)), (q_th_from, .inl (cI, 25, .inl th_from_59))]) S0 hK hN hA hP hD hS (kX8_into l dC dI cI q_th q_th_now _ (.ref q_th_told) (x_th_text) th_letters th_at (x_th_read) th_isMore th_told0 (.ref q_th_from) (x_th_to) (x_th_undone) th_undos (x_th_aside) th_beganOn th_beganIn th_first th_second (x_th_seenCell) (x_th_seenNight) th_seens th_above th_below (x_th_kept) th_keeps th_now o79 (nI 2) N o107 hF1) (cwV 2 hts gX8_seeks_X8_into rfl rfl rfl ⟨rfl, hdX8_into⟩ ⟨Nat.le_of_ble_eq_true rfl, Nat.le_of_ble_eq_true rfl⟩) [0, 3] [1, 2] [2, 0, 1, 3] rfl rfl rfl rfl 0 8 rfl rfl rfl rfl hl.1 rfl (Nat.le_of_ble_eq_true rfl) dX8_seeks_107 (fun H locs hP hD hS => ?_)
                              refine lv_iadd hx hb dX8_seeks_110 ?_
                              exact B_111 ((th_from_59 v2_49.toNatClampNeg) + o107) hF _ _ _ hP hD hS (lv_sub hl [1, 2, 3, 4, 0] rfl)
                            · have hF := ng_t hc hF
                              refine lv_sipush (v := (nI 9999)) hx hb dX8_seeks_91 (by decide) ?_
                              refine lv_goto (tgt := 111) hx hb dX8_seeks_94 (by decide) ?_
                              exact B_111 (nI 9999) hF _ _ _ hP hD hS (lv_sub hl [1, 2, 3, 4, 0] rfl)
                    refine lv_istore_n (lv' := [(3, .int (nI 0)), (0, .ref q_th), (1, .int v1_49), (2, .int v2_49)]) hx hb dX8_seeks_58 rfl hl (by decide) rfl (fun ls hl => ?_)
                    exact B_59 N v1_49 (nI 0) th_from_49 hF _ _ _ hP hD hS (lv_sub hl [1, 2, 3, 0] rfl)
              refine lv_istore_n (lv' := [(2, .int (nI 0)), (1, .int (nI 0)), (0, .ref q_th)]) hx hb dX8_seeks_48 rfl hl (by decide) rfl (fun ls hl => ?_)
              exact B_49 N (nI 0) (nI 0) th_from_41 hF _ _ _ hP hD hS (lv_sub hl [2, 1, 0] rfl)
        refine lv_istore_n (lv' := [(1, .int (nI 1)), (0, .ref q_th)]) hx hb dX8_seeks_40 rfl hl (by decide) rfl (fun ls hl => ?_)
        exact B_41 N (nI 1) th_from_2 hF _ _ _ hP hD hS (lv_sub hl [1, 0] rfl)
      · have hF := ng_f hc hF
        refine lv_aload_n hx hb dX8_seeks_10 rfl (lv_at hl 0 rfl) ?_
        refine nx_get S0 hK hP 0 8 hin_X8 hf_22 rfl rfl (by decide) rfl rfl dX8_seeks_11 ?_
        refine lv_iload_n hx hb dX8_seeks_14 rfl (lv_at hl 1 rfl) ?_
        refine lv_iload_n hx hb dX8_seeks_15 rfl (lv_at hl 1 rfl) ?_
        refine lv_aload_n hx hb dX8_seeks_16 rfl (lv_at hl 0 rfl) ?_
        refine nx_get S0 hK hP 0 1 hin_X8 hf_13 rfl rfl (by decide) rfl rfl dX8_seeks_17 ?_
        refine lv_iconst (v := (nI 1)) hx hb dX8_seeks_20 (by decide) ?_
        refine nx_iald S0 hK hP 3 (v := th_now 1) rfl (by decide) rfl dX8_seeks_21 ?_
        refine lv_icmp_ne (tgt := 29) hx hb dX8_seeks_22 (by decide) (fun hc => ?_) (fun hc => ?_)
        · have hF := ng_f hc hF
          refine lv_sipush (v := (nI 9999)) hx hb dX8_seeks_29 (by decide) ?_
          have hg := ng_p hF
          have hF := ng_x hF
          refine nx_iast S0 hK hP hD hS 2 rfl hg dX8_seeks_32 (W1 := [(q_th, .inr (8, [.ref q_th_told, .ref q_th_now, x_th_text, .int th_letters, .int th_at, x_th_read, .int th_isMore, .int th_told0, .ref q_th_from, x_th_to, x_th_undone, .int th_undos, x_th_aside, .int th_beganOn, .int th_beganIn, .int th_first, .int th_second, x_th_seenCell, x_th_seenNight, .int th_seens, .int th_above, .int th_below, x_th_kept, .int th_keeps])), (q_th_told, .inl (cI, 54, .inl th_told)), (q_th_from, .inl (cI, 25, .inl (upd th_from_2 v1_2.toNatClampNeg (nI 9999)))), (q_th_now, .inl (cI, 28, .inl th_now))]) rfl (fun H locs hP hD hS => ?_)
          refine lv_iinc (v := v1_2 + (nI 1)) (lv' := [(1, .int (v1_2 + (nI 1))), (0, .ref q_th)]) hx hb dX8_seeks_33 hl (k := 1) rfl rfl (by decide) rfl (fun ls hl => ?_)
          refine lv_goto (tgt := 2) hx hb dX8_seeks_36 (by decide) ?_
          exact ih_2 (v1_2 + (nI 1)) (upd th_from_2 v1_2.toNatClampNeg (nI 9999)) hF _ _ _ hP hD hS (lv_sub hl [1, 0] rfl)
        · have hF := ng_t hc hF
          refine lv_iconst (v := (nI 0)) hx hb dX8_seeks_25 (by decide) ?_
          refine lv_goto (tgt := 32) hx hb dX8_seeks_26 (by decide) ?_
          have hg := ng_p hF
          have hF := ng_x hF
          refine nx_iast S0 hK hP hD hS 2 rfl hg dX8_seeks_32 (W1 := [(q_th, .inr (8, [.ref q_th_told, .ref q_th_now, x_th_text, .int th_letters, .int th_at, x_th_read, .int th_isMore, .int th_told0, .ref q_th_from, x_th_to, x_th_undone, .int th_undos, x_th_aside, .int th_beganOn, .int th_beganIn, .int th_first, .int th_second, x_th_seenCell, x_th_seenNight, .int th_seens, .int th_above, .int th_below, x_th_kept, .int th_keeps])), (q_th_told, .inl (cI, 54, .inl th_told)), (q_th_from, .inl (cI, 25, .inl (upd th_from_2 v1_2.toNatClampNeg (nI 0)))), (q_th_now, .inl (cI, 28, .inl th_now))]) rfl (fun H locs hP hD hS => ?_)
          refine lv_iinc (v := v1_2 + (nI 1)) (lv' := [(1, .int (v1_2 + (nI 1))), (0, .ref q_th)]) hx hb dX8_seeks_33 hl (k := 1) rfl rfl (by decide) rfl (fun ls hl => ?_)
          refine lv_goto (tgt := 2) hx hb dX8_seeks_36 (by decide) ?_
          exact ih_2 (v1_2 + (nI 1)) (upd th_from_2 v1_2.toNatClampNeg (nI 0)) hF _ _ _ hP hD hS (lv_sub hl [1, 0] rfl)
  refine lv_istore_n (lv' := [(1, .int (nI 0)), (0, .ref q_th)]) hx hb dX8_seeks_1 rfl hl (by decide) rfl (fun ls hl => ?_)
  exact B_2 N (nI 0) th_from hF _ _ _ hP hD hS (lv_sub hl [1, 0] rfl)
theorem hdX8_goesTo : yX8_goesTo.cls ≠ "java/lang/invoke/MethodHandle" ∧ yX8_goesTo.cls ≠ "java/lang/invoke/VarHandle" ∧ (parseMethodDescriptor yX8_goesTo.desc).map (fun d => d.parameters.length) = some 1 := by decide +kernel
set_option maxHeartbeats 40000000 in
set_option maxRecDepth 100000 in
theorem kX8_goesTo (l : Launch) (dC : Nat → ClassId) (dI : Nat → Nat → Nat) (cI : ClassId) (q_th : Nat) (q_th_told : Nat) (q_th_to : Nat) (q_th_now : Nat) (sz : Nat) (x_th_text : Value) (th_letters : Int32) (th_at : Int32) (x_th_read : Value) (th_isMore : Int32) (th_told0 : Int32) (x_th_from : Value) (x_th_undone : Value) (th_undos : Int32) (x_th_aside : Value) (th_beganOn : Int32) (th_beganIn : Int32) (th_first : Int32) (th_second : Int32) (x_th_seenCell : Value) (x_th_seenNight : Value) (th_seens : Int32) (th_above : Int32) (th_below : Int32) (x_th_kept : Value) (th_keeps : Int32) (th_told : Nat → Int32) (th_to : Nat → Int32) (th_now : Nat → Int32) (p1 : Int32) (N : Nat) (o : (Nat → Int32)) (hF : fX8_goesTo N p1 th_told th_to th_now = some o) : nx_V l yX8_goesTo wsX8_goesTo ({ frames := 2, cells := 0, slots := 0, locals := 44 } : Room) (dC, dI) cI [.ref q_th, .int p1] [(q_th, .inr (8, [.ref q_th_told, .ref q_th_now, x_th_text, .int th_letters, .int th_at, x_th_read, .int th_isMore, .int th_told0, x_th_from, .ref q_th_to, x_th_undone, .int th_undos, x_th_aside, .int th_beganOn, .int th_beganIn, .int th_first, .int th_second, x_th_seenCell, x_th_seenNight, .int th_seens, .int th_above, .int th_below, x_th_kept, .int th_keeps])), (q_th_told, .inl (cI, 54, .inl th_told)), (q_th_to, .inl (cI, 25, .inl th_to)), (q_th_now, .inl (cI, 28, .inl th_now))] sz [(q_th, .inr (8, [.ref q_th_told, .ref q_th_now, x_th_text, .int th_letters, .int th_at, x_th_read, .int th_isMore, .int th_told0, x_th_from, .ref q_th_to, x_th_undone, .int th_undos, x_th_aside, .int th_beganOn, .int th_beganIn, .int th_first, .int th_second, x_th_seenCell, x_th_seenNight, .int th_seens, .int th_above, .int th_below, x_th_kept, .int th_keeps])), (q_th_told, .inl (cI, 54, .inl th_told)), (q_th_to, .inl (cI, 25, .inl o)), (q_th_now, .inl (cI, 28, .inl th_now))] := by
  refine nx_void (cc := cX8_goesTo) (maxL := 7) (by decide) rfl (Nat.le_of_ble_eq_true rfl) ?_
  intro p e s m args below meth c Q A S0 hK hN hA ret0 hP hD hS ls hl
  have S0 : CallFix p m c cX8_goesTo 7 s args wsX8_goesTo RX8 := S0
  have hx := S0.1
  have hb := S0.2.1
  have hown := S0.2.2.2.1
  have hts := S0.2.2.2.2
  have hf_25 := hts (.fieldLink RX8 25 "SnailsYearModel" "to" "[I") (by decide +kernel)
  have hin_X8 : ∀ w ∈ wsX80, w ∈ wsX8_goesTo := by decide +kernel
  have hl : lv_has ls 7 [(0, .ref q_th), (1, .int p1)] := hl
  have hret : ∀ (y0 : Nat → Int32) (H : Heap) (locs : List Loc) (ls : Array Slot) (pc : Nat), some y0 = some o → decode cX8_goesTo pc = .ok (.return_, 1) → va_P (dC, dI) vwCl [(q_th, .inr (8, [.ref q_th_told, .ref q_th_now, x_th_text, .int th_letters, .int th_at, x_th_read, .int th_isMore, .int th_told0, x_th_from, .ref q_th_to, x_th_undone, .int th_undos, x_th_aside, .int th_beganOn, .int th_beganIn, .int th_first, .int th_second, x_th_seenCell, x_th_seenNight, .int th_seens, .int th_above, .int th_below, x_th_kept, .int th_keeps])), (q_th_told, .inl (cI, 54, .inl th_told)), (q_th_to, .inl (cI, 25, .inl y0)), (q_th_now, .inl (cI, 28, .inl th_now))] H → va_D A [(q_th, .inr (8, [.ref q_th_told, .ref q_th_now, x_th_text, .int th_letters, .int th_at, x_th_read, .int th_isMore, .int th_told0, x_th_from, .ref q_th_to, x_th_undone, .int th_undos, x_th_aside, .int th_beganOn, .int th_beganIn, .int th_first, .int th_second, x_th_seenCell, x_th_seenNight, .int th_seens, .int th_above, .int th_below, x_th_kept, .int th_keeps])), (q_th_told, .inl (cI, 54, .inl th_told)), (q_th_to, .inl (cI, 25, .inl y0)), (q_th_now, .inl (cI, 28, .inl th_now))] → va_S A s.heap H locs → W p l e ({ frames := 2, cells := 0, slots := 0, locals := 44 } : Room) s m args below meth c H locs 0 0 Q (F0 m pc ls []) := by
    intro y0 H locs ls pc ho hd hP hD hS
    cases ho
    exact ret0 H locs ls pc hd hP hD hS
  rw [fX8_goesTo_e] at hF
  refine lv_iconst (v := (nI 0)) hx hb dX8_goesTo_0 (by decide) ?_
  have B_2 : ∀ (n_2 : Nat) (v2_2 : Int32) (th_to_2 : Nat → Int32), fX8_goesTo_2 N p1 th_told th_now n_2 v2_2 th_to_2 = some o → ∀ (H : Heap) (locs : List Loc) (ls : Array Slot), va_P (dC, dI) vwCl [(q_th, .inr (8, [.ref q_th_told, .ref q_th_now, x_th_text, .int th_letters, .int th_at, x_th_read, .int th_isMore, .int th_told0, x_th_from, .ref q_th_to, x_th_undone, .int th_undos, x_th_aside, .int th_beganOn, .int th_beganIn, .int th_first, .int th_second, x_th_seenCell, x_th_seenNight, .int th_seens, .int th_above, .int th_below, x_th_kept, .int th_keeps])), (q_th_told, .inl (cI, 54, .inl th_told)), (q_th_to, .inl (cI, 25, .inl th_to_2)), (q_th_now, .inl (cI, 28, .inl th_now))] H → va_D A [(q_th, .inr (8, [.ref q_th_told, .ref q_th_now, x_th_text, .int th_letters, .int th_at, x_th_read, .int th_isMore, .int th_told0, x_th_from, .ref q_th_to, x_th_undone, .int th_undos, x_th_aside, .int th_beganOn, .int th_beganIn, .int th_first, .int th_second, x_th_seenCell, x_th_seenNight, .int th_seens, .int th_above, .int th_below, x_th_kept, .int th_keeps])), (q_th_told, .inl (cI, 54, .inl th_told)), (q_th_to, .inl (cI, 25, .inl th_to_2)), (q_th_now, .inl (cI, 28, .inl th_now))] → va_S A s.heap H locs → lv_has ls 7 [(0, .ref q_th), (1, .int p1), (2, .int v2_2)] → W p l e ({ frames := 2, cells := 0, slots := 0, locals := 44 } : Room) s m args below meth c H locs 0 0 Q (F0 m 2 ls []) := by
    intro n_2
    induction n_2 with
    | zero =>
      intro v2_2 th_to_2 hF
      rw [fX8_goesTo_2_z] at hF
      cases hF
    | succ n_2 ih_2 =>
      intro v2_2 th_to_2 hF H locs ls hP hD hS hl
      rw [fX8_goesTo_2_s] at hF
      refine lv_iload_n hx hb dX8_goesTo_2 rfl (lv_at hl 2 rfl) ?_
      refine lv_aload_n hx hb dX8_goesTo_3 rfl (lv_at hl 0 rfl) ?_
      obtain ⟨o4, hF1, hF⟩ := ng_b hF
      refine nx_callVi (As := []) (rest := [.int v2_2]) (W1 := [(q_th, .inr (8, [.ref q_th_told, .ref q_th_now, x_th_text, .int th_letters, .int th_at, x_th_read, .int th_isMore, .int th_told0, x_th_from, .ref q_th_to, x_th_undone, .int th_undos, x_th_aside, .int th_beganOn, .int th_beganIn, .int th_first, .int th_second, x_th_seenCell, x_th_seenNight, .int th_seens, .int th_above, .int th_below, x_th_kept, .int th_keeps])), (q_th_told, .inl (cI, 54, .inl th_told)), (q_th_to, .inl (cI, 25, .inl th_to_2)), (q_th_now, .inl (cI, 28, .inl th_now))]) (wr := [(q_th_to, .inl (cI, 25, .inl th_to_2)), (q_th_now, .inl (cI, 28, .inl th_now))]) S0 hK hN hA hP hD hS (kX8_cells l dC dI cI q_th q_th_told _ (.ref q_th_now) (x_th_text) th_letters th_at (x_th_read) th_isMore th_told0 (x_th_from) (.ref q_th_to) (x_th_undone) th_undos (x_th_aside) th_beganOn th_beganIn th_first th_second (x_th_seenCell) (x_th_seenNight) th_seens th_above th_below (x_th_kept) th_keeps th_told N o4 hF1) (cwV 0 hts gX8_goesTo_X8_cells rfl rfl rfl ⟨rfl, hdX8_cells⟩ ⟨Nat.le_of_ble_eq_true rfl, Nat.le_of_ble_eq_true rfl⟩) [0, 1] [2, 3] [2, 3, 0, 1] rfl rfl rfl rfl 0 8 rfl rfl rfl rfl hl.1 rfl (Nat.le_of_ble_eq_true rfl) dX8_goesTo_4 (fun H locs hP hD hS => ?_)
      refine lv_icmp_ge (tgt := 34) hx hb dX8_goesTo_7 (by decide) (fun hc => ?_) (fun hc => ?_)
      · have hF := ng_t hc hF
        refine lv_iconst (v := (nI 1)) hx hb dX8_goesTo_34 (by decide) ?_
        have B_36 : ∀ (n_36 : Nat) (v2_36 : Int32) (th_to_36 : Nat → Int32), fX8_goesTo_36 N th_told th_now n_36 v2_36 th_to_36 = some o → ∀ (H : Heap) (locs : List Loc) (ls : Array Slot), va_P (dC, dI) vwCl [(q_th, .inr (8, [.ref q_th_told, .ref q_th_now, x_th_text, .int th_letters, .int th_at, x_th_read, .int th_isMore, .int th_told0, x_th_from, .ref q_th_to, x_th_undone, .int th_undos, x_th_aside, .int th_beganOn, .int th_beganIn, .int th_first, .int th_second, x_th_seenCell, x_th_seenNight, .int th_seens, .int th_above, .int th_below, x_th_kept, .int th_keeps])), (q_th_told, .inl (cI, 54, .inl th_told)), (q_th_to, .inl (cI, 25, .inl th_to_36)), (q_th_now, .inl (cI, 28, .inl th_now))] H → va_D A [(q_th, .inr (8, [.ref q_th_told, .ref q_th_now, x_th_text, .int th_letters, .int th_at, x_th_read, .int th_isMore, .int th_told0, x_th_from, .ref q_th_to, x_th_undone, .int th_undos, x_th_aside, .int th_beganOn, .int th_beganIn, .int th_first, .int th_second, x_th_seenCell, x_th_seenNight, .int th_seens, .int th_above, .int th_below, x_th_kept, .int th_keeps])), (q_th_told, .inl (cI, 54, .inl th_told)), (q_th_to, .inl (cI, 25, .inl th_to_36)), (q_th_now, .inl (cI, 28, .inl th_now))] → va_S A s.heap H locs → lv_has ls 7 [(0, .ref q_th), (2, .int v2_36)] → W p l e ({ frames := 2, cells := 0, slots := 0, locals := 44 } : Room) s m args below meth c H locs 0 0 Q (F0 m 36 ls []) := by
          intro n_36
          induction n_36 with
          | zero =>
            intro v2_36 th_to_36 hF
            rw [fX8_goesTo_36_z] at hF
            cases hF
          | succ n_36 ih_36 =>
            intro v2_36 th_to_36 hF H locs ls hP hD hS hl
            rw [fX8_goesTo_36_s] at hF
            refine lv_iload_n hx hb dX8_goesTo_36 rfl (lv_at hl 1 rfl) ?_
            refine lv_if_eq (tgt := 158) hx hb dX8_goesTo_37 (by decide) (fun hc => ?_) (fun hc => ?_)
            · have hF := ng_t hc hF
              exact hret th_to_36 _ _ _ _ hF dX8_goesTo_158 hP hD hS
            · have hF := ng_f hc hF
              refine lv_iconst (v := (nI 0)) hx hb dX8_goesTo_40 (by decide) ?_
              refine lv_istore_n (lv' := [(2, .int (nI 0)), (0, .ref q_th)]) hx hb dX8_goesTo_41 rfl hl (by decide) rfl (fun ls hl => ?_)
              refine lv_aload_n hx hb dX8_goesTo_42 rfl (lv_at hl 1 rfl) ?_
              obtain ⟨o43, hF1, hF⟩ := ng_b hF
              refine nx_callVi (As := []) (rest := []) (W1 := [(q_th, .inr (8, [.ref q_th_told, .ref q_th_now, x_th_text, .int th_letters, .int th_at, x_th_read, .int th_isMore, .int th_told0, x_th_from, .ref q_th_to, x_th_undone, .int th_undos, x_th_aside, .int th_beganOn, .int th_beganIn, .int th_first, .int th_second, x_th_seenCell, x_th_seenNight, .int th_seens, .int th_above, .int th_below, x_th_kept, .int th_keeps])), (q_th_told, .inl (cI, 54, .inl th_told)), (q_th_to, .inl (cI, 25, .inl th_to_36)), (q_th_now, .inl (cI, 28, .inl th_now))]) (wr := [(q_th_to, .inl (cI, 25, .inl th_to_36)), (q_th_now, .inl (cI, 28, .inl th_now))]) S0 hK hN hA hP hD hS (kX8_cells l dC dI cI q_th q_th_told _ (.ref q_th_now) (x_th_text) th_letters th_at (x_th_read) th_isMore th_told0 (x_th_from) (.ref q_th_to) (x_th_undone) th_undos (x_th_aside) th_beganOn th_beganIn th_first th_second (x_th_seenCell) (x_th_seenNight) th_seens th_above th_below (x_th_kept) th_keeps th_told N o43 hF1) (cwV 0 hts gX8_goesTo_X8_cells rfl rfl rfl ⟨rfl, hdX8_cells⟩ ⟨Nat.le_of_ble_eq_true rfl, Nat.le_of_ble_eq_true rfl⟩) [0, 1] [2, 3] [2, 3, 0, 1] rfl rfl rfl rfl 0 8 rfl rfl rfl rfl hl.1 rfl (Nat.le_of_ble_eq_true rfl) dX8_goesTo_43 (fun H locs hP hD hS => ?_)
              refine lv_iconst (v := (nI 1)) hx hb dX8_goesTo_46 (by decide) ?_
              refine lv_isub hx hb dX8_goesTo_47 ?_
              have B_49 : ∀ (n_49 : Nat) (v2_49 : Int32) (v3_49 : Int32) (th_to_49 : Nat → Int32), fX8_goesTo_49 N th_told th_now (fX8_goesTo_36 N th_told th_now n_36) n_49 v2_49 v3_49 th_to_49 = some o → ∀ (H : Heap) (locs : List Loc) (ls : Array Slot), va_P (dC, dI) vwCl [(q_th, .inr (8, [.ref q_th_told, .ref q_th_now, x_th_text, .int th_letters, .int th_at, x_th_read, .int th_isMore, .int th_told0, x_th_from, .ref q_th_to, x_th_undone, .int th_undos, x_th_aside, .int th_beganOn, .int th_beganIn, .int th_first, .int th_second, x_th_seenCell, x_th_seenNight, .int th_seens, .int th_above, .int th_below, x_th_kept, .int th_keeps])), (q_th_told, .inl (cI, 54, .inl th_told)), (q_th_to, .inl (cI, 25, .inl th_to_49)), (q_th_now, .inl (cI, 28, .inl th_now))] H → va_D A [(q_th, .inr (8, [.ref q_th_told, .ref q_th_now, x_th_text, .int th_letters, .int th_at, x_th_read, .int th_isMore, .int th_told0, x_th_from, .ref q_th_to, x_th_undone, .int th_undos, x_th_aside, .int th_beganOn, .int th_beganIn, .int th_first, .int th_second, x_th_seenCell, x_th_seenNight, .int th_seens, .int th_above, .int th_below, x_th_kept, .int th_keeps])), (q_th_told, .inl (cI, 54, .inl th_told)), (q_th_to, .inl (cI, 25, .inl th_to_49)), (q_th_now, .inl (cI, 28, .inl th_now))] → va_S A s.heap H locs → lv_has ls 7 [(0, .ref q_th), (2, .int v2_49), (3, .int v3_49)] → W p l e ({ frames := 2, cells := 0, slots := 0, locals := 44 } : Room) s m args below meth c H locs 0 0 Q (F0 m 49 ls []) := by
                intro n_49
                induction n_49 with
                | zero =>
                  intro v2_49 v3_49 th_to_49 hF
                  rw [fX8_goesTo_49_z] at hF
                  cases hF
                | succ n_49 ih_49 =>
                  intro v2_49 v3_49 th_to_49 hF H locs ls hP hD hS hl
                  rw [fX8_goesTo_49_s] at hF
                  refine lv_iload_n hx hb dX8_goesTo_49 rfl (lv_at hl 2 rfl) ?_
                  refine lv_if_lt (tgt := 155) hx hb dX8_goesTo_50 (by decide) (fun hc => ?_) (fun hc => ?_)
                  · have hF := ng_t hc hF
                    refine lv_goto (tgt := 36) hx hb dX8_goesTo_155 (by decide) ?_
                    exact ih_36 v2_49 th_to_49 hF _ _ _ hP hD hS (lv_sub hl [0, 1] rfl)
                  · have hF := ng_f hc hF
                    refine lv_aload_n hx hb dX8_goesTo_53 rfl (lv_at hl 0 rfl) ?_
                    refine lv_iload_n hx hb dX8_goesTo_54 rfl (lv_at hl 2 rfl) ?_
                    refine lv_iconst (v := (nI 2)) hx hb dX8_goesTo_55 (by decide) ?_
                    obtain ⟨o56, hF1, hF⟩ := ng_b hF
                    refine nx_callVi (As := [.int v3_49, .int (nI 2)]) (rest := []) (W1 := [(q_th, .inr (8, [.ref q_th_told, .ref q_th_now, x_th_text, .int th_letters, .int th_at, x_th_read, .int th_isMore, .int th_told0, x_th_from, .ref q_th_to, x_th_undone, .int th_undos, x_th_aside, .int th_beganOn, .int th_beganIn, .int th_first, .int th_second, x_th_seenCell, x_th_seenNight, .int th_seens, .int th_above, .int th_below, x_th_kept, .int th_keeps])), (q_th_told, .inl (cI, 54, .inl th_told)), (q_th_to, .inl (cI, 25, .inl th_to_49)), (q_th_now, .inl (cI, 28, .inl th_now))]) (wr := [(q_th_told, .inl (cI, 54, .inl th_told)), (q_th_to, .inl (cI, 25, .inl th_to_49))]) S0 hK hN hA hP hD hS (kX8_into l dC dI cI q_th q_th_now _ (.ref q_th_told) (x_th_text) th_letters th_at (x_th_read) th_isMore th_told0 (x_th_from) (.ref q_th_to) (x_th_undone) th_undos (x_th_aside) th_beganOn th_beganIn th_first th_second (x_th_seenCell) (x_th_seenNight) th_seens th_above th_below (x_th_kept) th_keeps th_now v3_49 (nI 2) N o56 hF1) (cwV 2 hts gX8_goesTo_X8_into rfl rfl rfl ⟨rfl, hdX8_into⟩ ⟨Nat.le_of_ble_eq_true rfl, Nat.le_of_ble_eq_true rfl⟩) [0, 3] [1, 2] [2, 0, 1, 3] rfl rfl rfl rfl 0 8 rfl rfl rfl rfl hl.1 rfl (Nat.le_of_ble_eq_true rfl) dX8_goesTo_56 (fun H locs hP hD hS => ?_)
                    refine lv_istore (lv' := [(4, .int o56), (0, .ref q_th), (2, .int v2_49), (3, .int v3_49)]) hx hb dX8_goesTo_59 hl (by decide) rfl (fun ls hl => ?_)
                    refine lv_iconst (v := (nI 0)) hx hb dX8_goesTo_61 (by decide) ?_
                    have B_64 : ∀ (n_64 : Nat) (v2_64 : Int32) (v5_64 : Int32) (th_to_64 : Nat → Int32), fX8_goesTo_64 N th_told v3_49 o56 (fX8_goesTo_49 N th_told th_now (fX8_goesTo_36 N th_told th_now n_36) n_49) n_64 v2_64 v5_64 th_to_64 = some o → ∀ (H : Heap) (locs : List Loc) (ls : Array Slot), va_P (dC, dI) vwCl [(q_th, .inr (8, [.ref q_th_told, .ref q_th_now, x_th_text, .int th_letters, .int th_at, x_th_read, .int th_isMore, .int th_told0, x_th_from, .ref q_th_to, x_th_undone, .int th_undos, x_th_aside, .int th_beganOn, .int th_beganIn, .int th_first, .int th_second, x_th_seenCell, x_th_seenNight, .int th_seens, .int th_above, .int th_below, x_th_kept, .int th_keeps])), (q_th_told, .inl (cI, 54, .inl th_told)), (q_th_to, .inl (cI, 25, .inl th_to_64)), (q_th_now, .inl (cI, 28, .inl th_now))] H → va_D A [(q_th, .inr (8, [.ref q_th_told, .ref q_th_now, x_th_text, .int th_letters, .int th_at, x_th_read, .int th_isMore, .int th_told0, x_th_from, .ref q_th_to, x_th_undone, .int th_undos, x_th_aside, .int th_beganOn, .int th_beganIn, .int th_first, .int th_second, x_th_seenCell, x_th_seenNight, .int th_seens, .int th_above, .int th_below, x_th_kept, .int th_keeps])), (q_th_told, .inl (cI, 54, .inl th_told)), (q_th_to, .inl (cI, 25, .inl th_to_64)), (q_th_now, .inl (cI, 28, .inl th_now))] → va_S A s.heap H locs → lv_has ls 7 [(0, .ref q_th), (2, .int v2_64), (3, .int v3_49), (4, .int o56), (5, .int v5_64)] → W p l e ({ frames := 2, cells := 0, slots := 0, locals := 44 } : Room) s m args below meth c H locs 0 0 Q (F0 m 64 ls []) := by
                      intro n_64
                      induction n_64 with
                      | zero =>
                        intro v2_64 v5_64 th_to_64 hF
                        rw [fX8_goesTo_64_z] at hF
                        cases hF
                      | succ n_64 ih_64 =>
                        intro v2_64 v5_64 th_to_64 hF H locs ls hP hD hS hl
                        rw [fX8_goesTo_64_s] at hF
                        refine lv_iload hx hb dX8_goesTo_64 (lv_at hl 4 rfl) ?_
                        refine lv_iconst (v := (nI 4)) hx hb dX8_goesTo_66 (by decide) ?_
                        refine lv_icmp_ge (tgt := 149) hx hb dX8_goesTo_67 (by decide) (fun hc => ?_) (fun hc => ?_)
                        · have hF := ng_t hc hF
                          refine lv_iinc (v := v3_49 + (-1 : Int32)) (lv' := [(3, .int (v3_49 + (-1 : Int32))), (0, .ref q_th), (2, .int v2_64), (4, .int o56), (5, .int v5_64)]) hx hb dX8_goesTo_149 hl (k := 2) rfl rfl (by decide) rfl (fun ls hl => ?_)
                          refine lv_goto (tgt := 49) hx hb dX8_goesTo_152 (by decide) ?_
                          exact ih_49 v2_64 (v3_49 + (-1 : Int32)) th_to_64 hF _ _ _ hP hD hS (lv_sub hl [1, 2, 0] rfl)
                        · have hF := ng_f hc hF
                          refine lv_aload_n hx hb dX8_goesTo_70 rfl (lv_at hl 0 rfl) ?_
                          refine nx_get S0 hK hP 0 9 hin_X8 hf_25 rfl rfl (by decide) rfl rfl dX8_goesTo_71 ?_
                          refine lv_iload_n hx hb dX8_goesTo_74 rfl (lv_at hl 2 rfl) ?_
                          have hg := ng_p hF
                          have hF := ng_x hF
                          refine nx_iald S0 hK hP 2 (v := th_to_64 v3_49.toNatClampNeg) rfl hg rfl dX8_goesTo_75 ?_
                          refine lv_sipush (v := (nI 9999)) hx hb dX8_goesTo_76 (by decide) ?_
                          refine lv_icmp_ge (tgt := 149) hx hb dX8_goesTo_79 (by decide) (fun hc => ?_) (fun hc => ?_)
                          · have hF := ng_t hc hF
                            refine lv_iinc (v := v3_49 + (-1 : Int32)) (lv' := [(3, .int (v3_49 + (-1 : Int32))), (0, .ref q_th), (2, .int v2_64), (4, .int o56), (5, .int v5_64)]) hx hb dX8_goesTo_149 hl (k := 2) rfl rfl (by decide) rfl (fun ls hl => ?_)
                            refine lv_goto (tgt := 49) hx hb dX8_goesTo_152 (by decide) ?_
                            exact ih_49 v2_64 (v3_49 + (-1 : Int32)) th_to_64 hF _ _ _ hP hD hS (lv_sub hl [1, 2, 0] rfl)
                          · have hF := ng_f hc hF
                            refine lv_iload hx hb dX8_goesTo_82 (lv_at hl 3 rfl) ?_
                            refine lv_sipush (v := (nI 9999)) hx hb dX8_goesTo_84 (by decide) ?_
                            refine lv_icmp_ge (tgt := 149) hx hb dX8_goesTo_87 (by decide) (fun hc => ?_) (fun hc => ?_)
                            · have hF := ng_t hc hF
                              refine lv_iinc (v := v3_49 + (-1 : Int32)) (lv' := [(3, .int (v3_49 + (-1 : Int32))), (0, .ref q_th), (2, .int v2_64), (4, .int o56), (5, .int v5_64)]) hx hb dX8_goesTo_149 hl (k := 2) rfl rfl (by decide) rfl (fun ls hl => ?_)
                              refine lv_goto (tgt := 49) hx hb dX8_goesTo_152 (by decide) ?_
                              exact ih_49 v2_64 (v3_49 + (-1 : Int32)) th_to_64 hF _ _ _ hP hD hS (lv_sub hl [1, 2, 0] rfl)
                            · have hF := ng_f hc hF
                              refine lv_aload_n hx hb dX8_goesTo_90 rfl (lv_at hl 0 rfl) ?_
                              refine lv_iload_n hx hb dX8_goesTo_91 rfl (lv_at hl 2 rfl) ?_
                              refine lv_iload hx hb dX8_goesTo_92 (lv_at hl 4 rfl) ?_
                              obtain ⟨o94, hF1, hF⟩ := ng_b hF
                              refine nx_callVi (As := [.int v3_49, .int v5_64]) (rest := []) (W1 := [(q_th, .inr (8, [.ref q_th_told, .ref q_th_now, x_th_text, .int th_letters, .int th_at, x_th_read, .int th_isMore, .int th_told0, x_th_from, .ref q_th_to, x_th_undone, .int th_undos, x_th_aside, .int th_beganOn, .int th_beganIn, .int th_first, .int th_second, x_th_seenCell, x_th_seenNight, .int th_seens, .int th_above, .int th_below, x_th_kept, .int th_keeps])), (q_th_told, .inl (cI, 54, .inl th_told)), (q_th_to, .inl (cI, 25, .inl th_to_64)), (q_th_now, .inl (cI, 28, .inl th_now))]) (wr := [(q_th_to, .inl (cI, 25, .inl th_to_64)), (q_th_now, .inl (cI, 28, .inl th_now))]) S0 hK hN hA hP hD hS (kX8_beside l dC dI cI q_th q_th_told _ (.ref q_th_now) (x_th_text) th_letters th_at (x_th_read) th_isMore th_told0 (x_th_from) (.ref q_th_to) (x_th_undone) th_undos (x_th_aside) th_beganOn th_beganIn th_first th_second (x_th_seenCell) (x_th_seenNight) th_seens th_above th_below (x_th_kept) th_keeps th_told v3_49 v5_64 N o94 hF1) (cwV 2 hts gX8_goesTo_X8_beside rfl rfl rfl ⟨rfl, hdX8_beside⟩ ⟨Nat.le_of_ble_eq_true rfl, Nat.le_of_ble_eq_true rfl⟩) [0, 1] [2, 3] [2, 3, 0, 1] rfl rfl rfl rfl 0 8 rfl rfl rfl rfl hl.1 rfl (Nat.le_of_ble_eq_true rfl) dX8_goesTo_94 (fun H locs hP hD hS => ?_)
                              refine lv_istore (lv' := [(6, .int o94), (0, .ref q_th), (2, .int v2_64), (3, .int v3_49), (4, .int o56), (5, .int v5_64)]) hx hb dX8_goesTo_97 hl (by decide) rfl (fun ls hl => ?_)
                              refine lv_iload hx hb dX8_goesTo_99 (lv_at hl 0 rfl) ?_
                              refine lv_bipush (v := (-4 : Int32)) hx hb dX8_goesTo_101 (by decide) ?_
                              refine lv_icmp_eq (tgt := 143) hx hb dX8_goesTo_103 (by decide) (fun hc => ?_) (fun hc => ?_)
                              · have hF := ng_t hc hF
                                refine lv_iinc (v := v5_64 + (nI 1)) (lv' := [(5, .int (v5_64 + (nI 1))), (6, .int o94), (0, .ref q_th), (2, .int v2_64), (3, .int v3_49), (4, .int o56)]) hx hb dX8_goesTo_143 hl (k := 5) rfl rfl (by decide) rfl (fun ls hl => ?_)
                                refine lv_goto (tgt := 64) hx hb dX8_goesTo_146 (by decide) ?_
                                exact ih_64 v2_64 (v5_64 + (nI 1)) th_to_64 hF _ _ _ hP hD hS (lv_sub hl [2, 3, 4, 5, 0] rfl)
                              · have hF := ng_f hc hF
                                refine lv_aload_n hx hb dX8_goesTo_106 rfl (lv_at hl 1 rfl) ?_
                                refine nx_get S0 hK hP 0 9 hin_X8 hf_25 rfl rfl (by decide) rfl rfl dX8_goesTo_107 ?_
                                refine lv_iload_n hx hb dX8_goesTo_110 rfl (lv_at hl 3 rfl) ?_
                                have hg := ng_p hF
                                have hF := ng_x hF
                                refine nx_iald S0 hK hP 2 (v := th_to_64 v3_49.toNatClampNeg) rfl hg rfl dX8_goesTo_111 ?_
                                refine lv_iload hx hb dX8_goesTo_112 (lv_at hl 4 rfl) ?_
                                refine lv_iadd hx hb dX8_goesTo_114 ?_
                                refine lv_aload_n hx hb dX8_goesTo_115 rfl (lv_at hl 1 rfl) ?_
                                refine nx_get S0 hK hP 0 9 hin_X8 hf_25 rfl rfl (by decide) rfl rfl dX8_goesTo_116 ?_
                                refine lv_iload hx hb dX8_goesTo_119 (lv_at hl 0 rfl) ?_
                                have hg := ng_p hF
                                have hF := ng_x hF
                                refine nx_iald S0 hK hP 2 (v := th_to_64 o94.toNatClampNeg) rfl hg rfl dX8_goesTo_121 ?_
                                refine lv_icmp_ge (tgt := 143) hx hb dX8_goesTo_122 (by decide) (fun hc => ?_) (fun hc => ?_)
                                · have hF := ng_t hc hF
                                  refine lv_iinc (v := v5_64 + (nI 1)) (lv' := [(5, .int (v5_64 + (nI 1))), (6, .int o94), (0, .ref q_th), (2, .int v2_64), (3, .int v3_49), (4, .int o56)]) hx hb dX8_goesTo_143 hl (k := 5) rfl rfl (by decide) rfl (fun ls hl => ?_)
                                  refine lv_goto (tgt := 64) hx hb dX8_goesTo_146 (by decide) ?_
                                  exact ih_64 v2_64 (v5_64 + (nI 1)) th_to_64 hF _ _ _ hP hD hS (lv_sub hl [2, 3, 4, 5, 0] rfl)
                                · have hF := ng_f hc hF
                                  refine lv_aload_n hx hb dX8_goesTo_125 rfl (lv_at hl 1 rfl) ?_
                                  refine nx_get S0 hK hP 0 9 hin_X8 hf_25 rfl rfl (by decide) rfl rfl dX8_goesTo_126 ?_
                                  refine lv_iload hx hb dX8_goesTo_129 (lv_at hl 0 rfl) ?_
                                  refine lv_aload_n hx hb dX8_goesTo_131 rfl (lv_at hl 1 rfl) ?_
                                  refine nx_get S0 hK hP 0 9 hin_X8 hf_25 rfl rfl (by decide) rfl rfl dX8_goesTo_132 ?_
                                  refine lv_iload_n hx hb dX8_goesTo_135 rfl (lv_at hl 3 rfl) ?_
                                  have hg := ng_p hF
                                  have hF := ng_x hF
                                  refine nx_iald S0 hK hP 2 (v := th_to_64 v3_49.toNatClampNeg) rfl hg rfl dX8_goesTo_136 ?_
                                  refine lv_iload hx hb dX8_goesTo_137 (lv_at hl 4 rfl) ?_
                                  refine lv_iadd hx hb dX8_goesTo_139 ?_
                                  have hg := ng_p hF
                                  have hF := ng_x hF
                                  refine nx_iast S0 hK hP hD hS 2 rfl hg dX8_goesTo_140 (W1 := [(q_th, .inr (8, [.ref q_th_told, .ref q_th_now, x_th_text, .int th_letters, .int th_at, x_th_read, .int th_isMore, .int th_told0, x_th_from, .ref q_th_to, x_th_undone, .int th_undos, x_th_aside, .int th_beganOn, .int th_beganIn, .int th_first, .int th_second, x_th_seenCell, x_th_seenNight, .int th_seens, .int th_above, .int th_below, x_th_kept, .int th_keeps])), (q_th_told, .inl (cI, 54, .inl th_told)), (q_th_to, .inl (cI, 25, .inl (upd th_to_64 o94.toNatClampNeg ((th_to_64 v3_49.toNatClampNeg) + o56)))), (q_th_now, .inl (cI, 28, .inl th_now))]) rfl (fun H locs hP hD hS => ?_)
                                  refine lv_iconst (v := (nI 1)) hx hb dX8_goesTo_141 (by decide) ?_
                                  refine lv_istore_n (lv' := [(2, .int (nI 1)), (6, .int o94), (0, .ref q_th), (3, .int v3_49), (4, .int o56), (5, .int v5_64)]) hx hb dX8_goesTo_142 rfl hl (by decide) rfl (fun ls hl => ?_)
                                  refine lv_iinc (v := v5_64 + (nI 1)) (lv' := [(5, .int (v5_64 + (nI 1))), (2, .int (nI 1)), (6, .int o94), (0, .ref q_th), (3, .int v3_49), (4, .int o56)]) hx hb dX8_goesTo_143 hl (k := 5) rfl rfl (by decide) rfl (fun ls hl => ?_)
                                  refine lv_goto (tgt := 64) hx hb dX8_goesTo_146 (by decide) ?_
                                  exact ih_64 (nI 1) (v5_64 + (nI 1)) (upd th_to_64 o94.toNatClampNeg ((th_to_64 v3_49.toNatClampNeg) + o56)) hF _ _ _ hP hD hS (lv_sub hl [3, 1, 4, 5, 0] rfl)
                    refine lv_istore (lv' := [(5, .int (nI 0)), (4, .int o56), (0, .ref q_th), (2, .int v2_49), (3, .int v3_49)]) hx hb dX8_goesTo_62 hl (by decide) rfl (fun ls hl => ?_)
                    exact B_64 N v2_49 (nI 0) th_to_49 hF _ _ _ hP hD hS (lv_sub hl [2, 3, 4, 1, 0] rfl)
              refine lv_istore_n (lv' := [(3, .int (o43 - (nI 1))), (2, .int (nI 0)), (0, .ref q_th)]) hx hb dX8_goesTo_48 rfl hl (by decide) rfl (fun ls hl => ?_)
              exact B_49 N (nI 0) (o43 - (nI 1)) th_to_36 hF _ _ _ hP hD hS (lv_sub hl [2, 1, 0] rfl)
        refine lv_istore_n (lv' := [(2, .int (nI 1)), (0, .ref q_th), (1, .int p1)]) hx hb dX8_goesTo_35 rfl hl (by decide) rfl (fun ls hl => ?_)
        exact B_36 N (nI 1) th_to_2 hF _ _ _ hP hD hS (lv_sub hl [1, 0] rfl)
      · have hF := ng_f hc hF
        refine lv_aload_n hx hb dX8_goesTo_10 rfl (lv_at hl 0 rfl) ?_
        refine nx_get S0 hK hP 0 9 hin_X8 hf_25 rfl rfl (by decide) rfl rfl dX8_goesTo_11 ?_
        refine lv_iload_n hx hb dX8_goesTo_14 rfl (lv_at hl 2 rfl) ?_
        refine lv_iload_n hx hb dX8_goesTo_15 rfl (lv_at hl 2 rfl) ?_
        refine lv_iload_n hx hb dX8_goesTo_16 rfl (lv_at hl 1 rfl) ?_
        refine lv_icmp_ne (tgt := 24) hx hb dX8_goesTo_17 (by decide) (fun hc => ?_) (fun hc => ?_)
        · have hF := ng_f hc hF
          refine lv_sipush (v := (nI 9999)) hx hb dX8_goesTo_24 (by decide) ?_
          have hg := ng_p hF
          have hF := ng_x hF
          refine nx_iast S0 hK hP hD hS 2 rfl hg dX8_goesTo_27 (W1 := [(q_th, .inr (8, [.ref q_th_told, .ref q_th_now, x_th_text, .int th_letters, .int th_at, x_th_read, .int th_isMore, .int th_told0, x_th_from, .ref q_th_to, x_th_undone, .int th_undos, x_th_aside, .int th_beganOn, .int th_beganIn, .int th_first, .int th_second, x_th_seenCell, x_th_seenNight, .int th_seens, .int th_above, .int th_below, x_th_kept, .int th_keeps])), (q_th_told, .inl (cI, 54, .inl th_told)), (q_th_to, .inl (cI, 25, .inl (upd th_to_2 v2_2.toNatClampNeg (nI 9999)))), (q_th_now, .inl (cI, 28, .inl th_now))]) rfl (fun H locs hP hD hS => ?_)
          refine lv_iinc (v := v2_2 + (nI 1)) (lv' := [(2, .int (v2_2 + (nI 1))), (0, .ref q_th), (1, .int p1)]) hx hb dX8_goesTo_28 hl (k := 2) rfl rfl (by decide) rfl (fun ls hl => ?_)
          refine lv_goto (tgt := 2) hx hb dX8_goesTo_31 (by decide) ?_
          exact ih_2 (v2_2 + (nI 1)) (upd th_to_2 v2_2.toNatClampNeg (nI 9999)) hF _ _ _ hP hD hS (lv_sub hl [1, 2, 0] rfl)
        · have hF := ng_t hc hF
          refine lv_iconst (v := (nI 0)) hx hb dX8_goesTo_20 (by decide) ?_
          refine lv_goto (tgt := 27) hx hb dX8_goesTo_21 (by decide) ?_
          have hg := ng_p hF
          have hF := ng_x hF
          refine nx_iast S0 hK hP hD hS 2 rfl hg dX8_goesTo_27 (W1 := [(q_th, .inr (8, [.ref q_th_told, .ref q_th_now, x_th_text, .int th_letters, .int th_at, x_th_read, .int th_isMore, .int th_told0, x_th_from, .ref q_th_to, x_th_undone, .int th_undos, x_th_aside, .int th_beganOn, .int th_beganIn, .int th_first, .int th_second, x_th_seenCell, x_th_seenNight, .int th_seens, .int th_above, .int th_below, x_th_kept, .int th_keeps])), (q_th_told, .inl (cI, 54, .inl th_told)), (q_th_to, .inl (cI, 25, .inl (upd th_to_2 v2_2.toNatClampNeg (nI 0)))), (q_th_now, .inl (cI, 28, .inl th_now))]) rfl (fun H locs hP hD hS => ?_)
          refine lv_iinc (v := v2_2 + (nI 1)) (lv' := [(2, .int (v2_2 + (nI 1))), (0, .ref q_th), (1, .int p1)]) hx hb dX8_goesTo_28 hl (k := 2) rfl rfl (by decide) rfl (fun ls hl => ?_)
          refine lv_goto (tgt := 2) hx hb dX8_goesTo_31 (by decide) ?_
          exact ih_2 (v2_2 + (nI 1)) (upd th_to_2 v2_2.toNatClampNeg (nI 0)) hF _ _ _ hP hD hS (lv_sub hl [1, 2, 0] rfl)
  refine lv_istore_n (lv' := [(2, .int (nI 0)), (0, .ref q_th), (1, .int p1)]) hx hb dX8_goesTo_1 rfl hl (by decide) rfl (fun ls hl => ?_)
  exact B_2 N (nI 0) th_to hF _ _ _ hP hD hS (lv_sub hl [1, 2, 0] rfl)
theorem hdX8_target : yX8_target.cls ≠ "java/lang/invoke/MethodHandle" ∧ yX8_target.cls ≠ "java/lang/invoke/VarHandle" ∧ (parseMethodDescriptor yX8_target.desc).map (fun d => d.parameters.length) = some 0 := by decide +kernel
set_option maxHeartbeats 40000000 in
set_option maxRecDepth 100000 in
theorem kX8_target (l : Launch) (dC : Nat → ClassId) (dI : Nat → Nat → Nat) (cI : ClassId) (q_th : Nat) (q_th_told : Nat) (q_th_from : Nat) (q_th_now : Nat) (sz : Nat) (x_th_text : Value) (th_letters : Int32) (th_at : Int32) (x_th_read : Value) (th_isMore : Int32) (th_told0 : Int32) (x_th_to : Value) (x_th_undone : Value) (th_undos : Int32) (x_th_aside : Value) (th_beganOn : Int32) (th_beganIn : Int32) (th_first : Int32) (th_second : Int32) (x_th_seenCell : Value) (x_th_seenNight : Value) (th_seens : Int32) (th_above : Int32) (th_below : Int32) (x_th_kept : Value) (th_keeps : Int32) (th_told : Nat → Int32) (th_from : Nat → Int32) (th_now : Nat → Int32) (N : Nat) (o : Int32 × (Nat → Int32)) (hF : fX8_target N th_told th_from th_now = some o) : nx_I l yX8_target wsX8_target ({ frames := 3, cells := 0, slots := 0, locals := 69 } : Room) (dC, dI) cI [.ref q_th] [(q_th, .inr (8, [.ref q_th_told, .ref q_th_now, x_th_text, .int th_letters, .int th_at, x_th_read, .int th_isMore, .int th_told0, .ref q_th_from, x_th_to, x_th_undone, .int th_undos, x_th_aside, .int th_beganOn, .int th_beganIn, .int th_first, .int th_second, x_th_seenCell, x_th_seenNight, .int th_seens, .int th_above, .int th_below, x_th_kept, .int th_keeps])), (q_th_told, .inl (cI, 54, .inl th_told)), (q_th_from, .inl (cI, 25, .inl th_from)), (q_th_now, .inl (cI, 28, .inl th_now))] sz o.1 [(q_th, .inr (8, [.ref q_th_told, .ref q_th_now, x_th_text, .int th_letters, .int th_at, x_th_read, .int th_isMore, .int th_told0, .ref q_th_from, x_th_to, x_th_undone, .int th_undos, x_th_aside, .int th_beganOn, .int th_beganIn, .int th_first, .int th_second, x_th_seenCell, x_th_seenNight, .int th_seens, .int th_above, .int th_below, x_th_kept, .int th_keeps])), (q_th_told, .inl (cI, 54, .inl th_told)), (q_th_from, .inl (cI, 25, .inl o.2)), (q_th_now, .inl (cI, 28, .inl th_now))] := by
  refine nx_int (cc := cX8_target) (maxL := 4) (by decide) rfl (Nat.le_of_ble_eq_true rfl) ?_
  intro p e s m args below meth c Q A S0 hK hN hA ret0 hP hD hS ls hl
  have S0 : CallFix p m c cX8_target 4 s args wsX8_target RX8 := S0
  have hx := S0.1
  have hb := S0.2.1
  have hown := S0.2.2.2.1
  have hts := S0.2.2.2.2
  have hf_7 := hts (.fieldLink RX8 7 "SnailsYearModel" "told" "[I") (by decide +kernel)
  have hin_X8 : ∀ w ∈ wsX80, w ∈ wsX8_target := by decide +kernel
  have hf_22 := hts (.fieldLink RX8 22 "SnailsYearModel" "from" "[I") (by decide +kernel)
  have hl : lv_has ls 4 [(0, .ref q_th)] := hl
  have hret : ∀ (r0 : Int32) (y0 : Nat → Int32) (H : Heap) (locs : List Loc) (ls : Array Slot) (pc : Nat), some (r0, y0) = some o → decode cX8_target pc = .ok (.ireturn, 1) → va_P (dC, dI) vwCl [(q_th, .inr (8, [.ref q_th_told, .ref q_th_now, x_th_text, .int th_letters, .int th_at, x_th_read, .int th_isMore, .int th_told0, .ref q_th_from, x_th_to, x_th_undone, .int th_undos, x_th_aside, .int th_beganOn, .int th_beganIn, .int th_first, .int th_second, x_th_seenCell, x_th_seenNight, .int th_seens, .int th_above, .int th_below, x_th_kept, .int th_keeps])), (q_th_told, .inl (cI, 54, .inl th_told)), (q_th_from, .inl (cI, 25, .inl y0)), (q_th_now, .inl (cI, 28, .inl th_now))] H → va_D A [(q_th, .inr (8, [.ref q_th_told, .ref q_th_now, x_th_text, .int th_letters, .int th_at, x_th_read, .int th_isMore, .int th_told0, .ref q_th_from, x_th_to, x_th_undone, .int th_undos, x_th_aside, .int th_beganOn, .int th_beganIn, .int th_first, .int th_second, x_th_seenCell, x_th_seenNight, .int th_seens, .int th_above, .int th_below, x_th_kept, .int th_keeps])), (q_th_told, .inl (cI, 54, .inl th_told)), (q_th_from, .inl (cI, 25, .inl y0)), (q_th_now, .inl (cI, 28, .inl th_now))] → va_S A s.heap H locs → W p l e ({ frames := 3, cells := 0, slots := 0, locals := 69 } : Room) s m args below meth c H locs 0 0 Q (F0 m pc ls [.int r0]) := by
    intro r0 y0 H locs ls pc ho hd hP hD hS
    cases ho
    exact ret0 H locs ls pc hd hP hD hS
  rw [fX8_target_e] at hF
  refine lv_aload_n hx hb dX8_target_0 rfl (lv_at hl 0 rfl) ?_
  obtain ⟨o1, hF1, hF⟩ := ng_b hF
  refine nx_callVv (As := []) (rest := []) (W1 := [(q_th, .inr (8, [.ref q_th_told, .ref q_th_now, x_th_text, .int th_letters, .int th_at, x_th_read, .int th_isMore, .int th_told0, .ref q_th_from, x_th_to, x_th_undone, .int th_undos, x_th_aside, .int th_beganOn, .int th_beganIn, .int th_first, .int th_second, x_th_seenCell, x_th_seenNight, .int th_seens, .int th_above, .int th_below, x_th_kept, .int th_keeps])), (q_th_told, .inl (cI, 54, .inl th_told)), (q_th_from, .inl (cI, 25, .inl o1)), (q_th_now, .inl (cI, 28, .inl th_now))]) (wr := []) S0 hK hN hA hP hD hS (kX8_seeks l dC dI cI q_th q_th_told q_th_from q_th_now _ (x_th_text) th_letters th_at (x_th_read) th_isMore th_told0 (x_th_to) (x_th_undone) th_undos (x_th_aside) th_beganOn th_beganIn th_first th_second (x_th_seenCell) (x_th_seenNight) th_seens th_above th_below (x_th_kept) th_keeps th_told th_from th_now N o1 hF1) (cwV 0 hts gX8_target_X8_seeks rfl rfl rfl ⟨rfl, hdX8_seeks⟩ ⟨Nat.le_of_ble_eq_true rfl, Nat.le_of_ble_eq_true rfl⟩) [0, 1, 2, 3] [] [0, 1, 2, 3] rfl rfl rfl rfl 0 8 rfl rfl rfl rfl hl.1 rfl (Nat.le_of_ble_eq_true rfl) dX8_target_1 (fun H locs hP hD hS => ?_)
  refine lv_bipush (v := (-4 : Int32)) hx hb dX8_target_4 (by decide) ?_
  refine lv_istore_n (lv' := [(1, .int (-4 : Int32)), (0, .ref q_th)]) hx hb dX8_target_6 rfl hl (by decide) rfl (fun ls hl => ?_)
  refine lv_iconst (v := (nI 0)) hx hb dX8_target_7 (by decide) ?_
  have B_9 : ∀ (n_9 : Nat) (v1_9 : Int32) (v2_9 : Int32), fX8_target_9 N th_told th_now o1 n_9 v1_9 v2_9 = some o → ∀ (H : Heap) (locs : List Loc) (ls : Array Slot), va_P (dC, dI) vwCl [(q_th, .inr (8, [.ref q_th_told, .ref q_th_now, x_th_text, .int th_letters, .int th_at, x_th_read, .int th_isMore, .int th_told0, .ref q_th_from, x_th_to, x_th_undone, .int th_undos, x_th_aside, .int th_beganOn, .int th_beganIn, .int th_first, .int th_second, x_th_seenCell, x_th_seenNight, .int th_seens, .int th_above, .int th_below, x_th_kept, .int th_keeps])), (q_th_told, .inl (cI, 54, .inl th_told)), (q_th_from, .inl (cI, 25, .inl o1)), (q_th_now, .inl (cI, 28, .inl th_now))] H → va_D A [(q_th, .inr (8, [.ref q_th_told, .ref q_th_now, x_th_text, .int th_letters, .int th_at, x_th_read, .int th_isMore, .int th_told0, .ref q_th_from, x_th_to, x_th_undone, .int th_undos, x_th_aside, .int th_beganOn, .int th_beganIn, .int th_first, .int th_second, x_th_seenCell, x_th_seenNight, .int th_seens, .int th_above, .int th_below, x_th_kept, .int th_keeps])), (q_th_told, .inl (cI, 54, .inl th_told)), (q_th_from, .inl (cI, 25, .inl o1)), (q_th_now, .inl (cI, 28, .inl th_now))] → va_S A s.heap H locs → lv_has ls 4 [(0, .ref q_th), (1, .int v1_9), (2, .int v2_9)] → W p l e ({ frames := 3, cells := 0, slots := 0, locals := 69 } : Room) s m args below meth c H locs 0 0 Q (F0 m 9 ls []) := by
    intro n_9
    induction n_9 with
    | zero =>
      intro v1_9 v2_9 hF
      rw [fX8_target_9_z] at hF
      cases hF
    | succ n_9 ih_9 =>
      intro v1_9 v2_9 hF H locs ls hP hD hS hl
      rw [fX8_target_9_s] at hF
      refine lv_iload_n hx hb dX8_target_9 rfl (lv_at hl 2 rfl) ?_
      refine lv_aload_n hx hb dX8_target_10 rfl (lv_at hl 0 rfl) ?_
      obtain ⟨o11, hF1, hF⟩ := ng_b hF
      refine nx_callVi (As := []) (rest := [.int v2_9]) (W1 := [(q_th, .inr (8, [.ref q_th_told, .ref q_th_now, x_th_text, .int th_letters, .int th_at, x_th_read, .int th_isMore, .int th_told0, .ref q_th_from, x_th_to, x_th_undone, .int th_undos, x_th_aside, .int th_beganOn, .int th_beganIn, .int th_first, .int th_second, x_th_seenCell, x_th_seenNight, .int th_seens, .int th_above, .int th_below, x_th_kept, .int th_keeps])), (q_th_told, .inl (cI, 54, .inl th_told)), (q_th_from, .inl (cI, 25, .inl o1)), (q_th_now, .inl (cI, 28, .inl th_now))]) (wr := [(q_th_from, .inl (cI, 25, .inl o1)), (q_th_now, .inl (cI, 28, .inl th_now))]) S0 hK hN hA hP hD hS (kX8_cells l dC dI cI q_th q_th_told _ (.ref q_th_now) (x_th_text) th_letters th_at (x_th_read) th_isMore th_told0 (.ref q_th_from) (x_th_to) (x_th_undone) th_undos (x_th_aside) th_beganOn th_beganIn th_first th_second (x_th_seenCell) (x_th_seenNight) th_seens th_above th_below (x_th_kept) th_keeps th_told N o11 hF1) (cwV 0 hts gX8_target_X8_cells rfl rfl rfl ⟨rfl, hdX8_cells⟩ ⟨Nat.le_of_ble_eq_true rfl, Nat.le_of_ble_eq_true rfl⟩) [0, 1] [2, 3] [2, 3, 0, 1] rfl rfl rfl rfl 0 8 rfl rfl rfl rfl hl.1 rfl (Nat.le_of_ble_eq_true rfl) dX8_target_11 (fun H locs hP hD hS => ?_)
      refine lv_icmp_ge (tgt := 79) hx hb dX8_target_14 (by decide) (fun hc => ?_) (fun hc => ?_)
      · have hF := ng_t hc hF
        refine lv_iload_n hx hb dX8_target_79 rfl (lv_at hl 1 rfl) ?_
        refine lv_bipush (v := (-4 : Int32)) hx hb dX8_target_80 (by decide) ?_
        refine lv_icmp_eq (tgt := 87) hx hb dX8_target_82 (by decide) (fun hc => ?_) (fun hc => ?_)
        · have hF := ng_t hc hF
          refine lv_aload_n hx hb dX8_target_87 rfl (lv_at hl 0 rfl) ?_
          obtain ⟨o88, hF1, hF⟩ := ng_b hF
          refine nx_callVi (As := []) (rest := []) (W1 := [(q_th, .inr (8, [.ref q_th_told, .ref q_th_now, x_th_text, .int th_letters, .int th_at, x_th_read, .int th_isMore, .int th_told0, .ref q_th_from, x_th_to, x_th_undone, .int th_undos, x_th_aside, .int th_beganOn, .int th_beganIn, .int th_first, .int th_second, x_th_seenCell, x_th_seenNight, .int th_seens, .int th_above, .int th_below, x_th_kept, .int th_keeps])), (q_th_told, .inl (cI, 54, .inl th_told)), (q_th_from, .inl (cI, 25, .inl o1)), (q_th_now, .inl (cI, 28, .inl th_now))]) (wr := [(q_th_from, .inl (cI, 25, .inl o1)), (q_th_now, .inl (cI, 28, .inl th_now))]) S0 hK hN hA hP hD hS (kX8_cells l dC dI cI q_th q_th_told _ (.ref q_th_now) (x_th_text) th_letters th_at (x_th_read) th_isMore th_told0 (.ref q_th_from) (x_th_to) (x_th_undone) th_undos (x_th_aside) th_beganOn th_beganIn th_first th_second (x_th_seenCell) (x_th_seenNight) th_seens th_above th_below (x_th_kept) th_keeps th_told N o88 hF1) (cwV 0 hts gX8_target_X8_cells rfl rfl rfl ⟨rfl, hdX8_cells⟩ ⟨Nat.le_of_ble_eq_true rfl, Nat.le_of_ble_eq_true rfl⟩) [0, 1] [2, 3] [2, 3, 0, 1] rfl rfl rfl rfl 0 8 rfl rfl rfl rfl hl.1 rfl (Nat.le_of_ble_eq_true rfl) dX8_target_88 (fun H locs hP hD hS => ?_)
          refine lv_aload_n hx hb dX8_target_91 rfl (lv_at hl 0 rfl) ?_
          refine nx_get S0 hK hP 0 0 hin_X8 hf_7 rfl rfl (by decide) rfl rfl dX8_target_92 ?_
          refine lv_iconst (v := (nI 1)) hx hb dX8_target_95 (by decide) ?_
          refine nx_iald S0 hK hP 1 (v := th_told 1) rfl (by decide) rfl dX8_target_96 ?_
          refine lv_isub hx hb dX8_target_97 ?_
          have B_99 : ∀ (n_99 : Nat) (v1_99 : Int32) (v2_99 : Int32), fX8_target_99 N th_told o1 n_99 v1_99 v2_99 = some o → ∀ (H : Heap) (locs : List Loc) (ls : Array Slot), va_P (dC, dI) vwCl [(q_th, .inr (8, [.ref q_th_told, .ref q_th_now, x_th_text, .int th_letters, .int th_at, x_th_read, .int th_isMore, .int th_told0, .ref q_th_from, x_th_to, x_th_undone, .int th_undos, x_th_aside, .int th_beganOn, .int th_beganIn, .int th_first, .int th_second, x_th_seenCell, x_th_seenNight, .int th_seens, .int th_above, .int th_below, x_th_kept, .int th_keeps])), (q_th_told, .inl (cI, 54, .inl th_told)), (q_th_from, .inl (cI, 25, .inl o1)), (q_th_now, .inl (cI, 28, .inl th_now))] H → va_D A [(q_th, .inr (8, [.ref q_th_told, .ref q_th_now, x_th_text, .int th_letters, .int th_at, x_th_read, .int th_isMore, .int th_told0, .ref q_th_from, x_th_to, x_th_undone, .int th_undos, x_th_aside, .int th_beganOn, .int th_beganIn, .int th_first, .int th_second, x_th_seenCell, x_th_seenNight, .int th_seens, .int th_above, .int th_below, x_th_kept, .int th_keeps])), (q_th_told, .inl (cI, 54, .inl th_told)), (q_th_from, .inl (cI, 25, .inl o1)), (q_th_now, .inl (cI, 28, .inl th_now))] → va_S A s.heap H locs → lv_has ls 4 [(0, .ref q_th), (1, .int v1_99), (2, .int v2_99)] → W p l e ({ frames := 3, cells := 0, slots := 0, locals := 69 } : Room) s m args below meth c H locs 0 0 Q (F0 m 99 ls []) := by
            intro n_99
            induction n_99 with
            | zero =>
              intro v1_99 v2_99 hF
              rw [fX8_target_99_z] at hF
              cases hF
            | succ n_99 ih_99 =>
              intro v1_99 v2_99 hF H locs ls hP hD hS hl
              rw [fX8_target_99_s] at hF
              refine lv_iload_n hx hb dX8_target_99 rfl (lv_at hl 2 rfl) ?_
              refine lv_aload_n hx hb dX8_target_100 rfl (lv_at hl 0 rfl) ?_
              obtain ⟨o101, hF1, hF⟩ := ng_b hF
              refine nx_callVi (As := []) (rest := [.int v2_99]) (W1 := [(q_th, .inr (8, [.ref q_th_told, .ref q_th_now, x_th_text, .int th_letters, .int th_at, x_th_read, .int th_isMore, .int th_told0, .ref q_th_from, x_th_to, x_th_undone, .int th_undos, x_th_aside, .int th_beganOn, .int th_beganIn, .int th_first, .int th_second, x_th_seenCell, x_th_seenNight, .int th_seens, .int th_above, .int th_below, x_th_kept, .int th_keeps])), (q_th_told, .inl (cI, 54, .inl th_told)), (q_th_from, .inl (cI, 25, .inl o1)), (q_th_now, .inl (cI, 28, .inl th_now))]) (wr := [(q_th_from, .inl (cI, 25, .inl o1)), (q_th_now, .inl (cI, 28, .inl th_now))]) S0 hK hN hA hP hD hS (kX8_cells l dC dI cI q_th q_th_told _ (.ref q_th_now) (x_th_text) th_letters th_at (x_th_read) th_isMore th_told0 (.ref q_th_from) (x_th_to) (x_th_undone) th_undos (x_th_aside) th_beganOn th_beganIn th_first th_second (x_th_seenCell) (x_th_seenNight) th_seens th_above th_below (x_th_kept) th_keeps th_told N o101 hF1) (cwV 0 hts gX8_target_X8_cells rfl rfl rfl ⟨rfl, hdX8_cells⟩ ⟨Nat.le_of_ble_eq_true rfl, Nat.le_of_ble_eq_true rfl⟩) [0, 1] [2, 3] [2, 3, 0, 1] rfl rfl rfl rfl 0 8 rfl rfl rfl rfl hl.1 rfl (Nat.le_of_ble_eq_true rfl) dX8_target_101 (fun H locs hP hD hS => ?_)
              refine lv_icmp_ge (tgt := 152) hx hb dX8_target_104 (by decide) (fun hc => ?_) (fun hc => ?_)
              · have hF := ng_t hc hF
                refine lv_iload_n hx hb dX8_target_152 rfl (lv_at hl 1 rfl) ?_
                exact hret v1_99 o1 _ _ _ _ hF dX8_target_153 hP hD hS
              · have hF := ng_f hc hF
                refine lv_aload_n hx hb dX8_target_107 rfl (lv_at hl 0 rfl) ?_
                refine nx_get S0 hK hP 0 8 hin_X8 hf_22 rfl rfl (by decide) rfl rfl dX8_target_108 ?_
                refine lv_iload_n hx hb dX8_target_111 rfl (lv_at hl 2 rfl) ?_
                have hg := ng_p hF
                have hF := ng_x hF
                refine nx_iald S0 hK hP 2 (v := o1 v2_99.toNatClampNeg) rfl hg rfl dX8_target_112 ?_
                refine lv_sipush (v := (nI 9999)) hx hb dX8_target_113 (by decide) ?_
                refine lv_icmp_ge (tgt := 144) hx hb dX8_target_116 (by decide) (fun hc => ?_) (fun hc => ?_)
                · have hF := ng_t hc hF
                  refine lv_iload_n hx hb dX8_target_144 rfl (lv_at hl 1 rfl) ?_
                  refine lv_istore_n (lv' := [(1, .int v1_99), (0, .ref q_th), (2, .int v2_99)]) hx hb dX8_target_145 rfl hl (by decide) rfl (fun ls hl => ?_)
                  refine lv_iinc (v := v2_99 + (nI 1)) (lv' := [(2, .int (v2_99 + (nI 1))), (1, .int v1_99), (0, .ref q_th)]) hx hb dX8_target_146 hl (k := 2) rfl rfl (by decide) rfl (fun ls hl => ?_)
                  refine lv_goto (tgt := 99) hx hb dX8_target_149 (by decide) ?_
                  exact ih_99 v1_99 (v2_99 + (nI 1)) hF _ _ _ hP hD hS (lv_sub hl [2, 1, 0] rfl)
                · have hF := ng_f hc hF
                  refine lv_iload_n hx hb dX8_target_119 rfl (lv_at hl 1 rfl) ?_
                  refine lv_bipush (v := (-4 : Int32)) hx hb dX8_target_120 (by decide) ?_
                  refine lv_icmp_eq (tgt := 140) hx hb dX8_target_122 (by decide) (fun hc => ?_) (fun hc => ?_)
                  · have hF := ng_t hc hF
                    refine lv_iload_n hx hb dX8_target_140 rfl (lv_at hl 2 rfl) ?_
                    refine lv_goto (tgt := 145) hx hb dX8_target_141 (by decide) ?_
                    refine lv_istore_n (lv' := [(1, .int v2_99), (0, .ref q_th), (2, .int v2_99)]) hx hb dX8_target_145 rfl hl (by decide) rfl (fun ls hl => ?_)
                    refine lv_iinc (v := v2_99 + (nI 1)) (lv' := [(2, .int (v2_99 + (nI 1))), (1, .int v2_99), (0, .ref q_th)]) hx hb dX8_target_146 hl (k := 2) rfl rfl (by decide) rfl (fun ls hl => ?_)
                    refine lv_goto (tgt := 99) hx hb dX8_target_149 (by decide) ?_
                    exact ih_99 v2_99 (v2_99 + (nI 1)) hF _ _ _ hP hD hS (lv_sub hl [2, 1, 0] rfl)
                  · have hF := ng_f hc hF
                    refine lv_aload_n hx hb dX8_target_125 rfl (lv_at hl 0 rfl) ?_
                    refine nx_get S0 hK hP 0 8 hin_X8 hf_22 rfl rfl (by decide) rfl rfl dX8_target_126 ?_
                    refine lv_iload_n hx hb dX8_target_129 rfl (lv_at hl 2 rfl) ?_
                    have hg := ng_p hF
                    have hF := ng_x hF
                    refine nx_iald S0 hK hP 2 (v := o1 v2_99.toNatClampNeg) rfl hg rfl dX8_target_130 ?_
                    refine lv_aload_n hx hb dX8_target_131 rfl (lv_at hl 0 rfl) ?_
                    refine nx_get S0 hK hP 0 8 hin_X8 hf_22 rfl rfl (by decide) rfl rfl dX8_target_132 ?_
                    refine lv_iload_n hx hb dX8_target_135 rfl (lv_at hl 1 rfl) ?_
                    have hg := ng_p hF
                    have hF := ng_x hF
                    refine nx_iald S0 hK hP 2 (v := o1 v1_99.toNatClampNeg) rfl hg rfl dX8_target_136 ?_
                    refine lv_icmp_ge (tgt := 144) hx hb dX8_target_137 (by decide) (fun hc => ?_) (fun hc => ?_)
                    · have hF := ng_t hc hF
                      refine lv_iload_n hx hb dX8_target_144 rfl (lv_at hl 1 rfl) ?_
                      refine lv_istore_n (lv' := [(1, .int v1_99), (0, .ref q_th), (2, .int v2_99)]) hx hb dX8_target_145 rfl hl (by decide) rfl (fun ls hl => ?_)
                      refine lv_iinc (v := v2_99 + (nI 1)) (lv' := [(2, .int (v2_99 + (nI 1))), (1, .int v1_99), (0, .ref q_th)]) hx hb dX8_target_146 hl (k := 2) rfl rfl (by decide) rfl (fun ls hl => ?_)
                      refine lv_goto (tgt := 99) hx hb dX8_target_149 (by decide) ?_
                      exact ih_99 v1_99 (v2_99 + (nI 1)) hF _ _ _ hP hD hS (lv_sub hl [2, 1, 0] rfl)
                    · have hF := ng_f hc hF
                      refine lv_iload_n hx hb dX8_target_140 rfl (lv_at hl 2 rfl) ?_
                      refine lv_goto (tgt := 145) hx hb dX8_target_141 (by decide) ?_
                      refine lv_istore_n (lv' := [(1, .int v2_99), (0, .ref q_th), (2, .int v2_99)]) hx hb dX8_target_145 rfl hl (by decide) rfl (fun ls hl => ?_)
                      refine lv_iinc (v := v2_99 + (nI 1)) (lv' := [(2, .int (v2_99 + (nI 1))), (1, .int v2_99), (0, .ref q_th)]) hx hb dX8_target_146 hl (k := 2) rfl rfl (by decide) rfl (fun ls hl => ?_)
                      refine lv_goto (tgt := 99) hx hb dX8_target_149 (by decide) ?_
                      exact ih_99 v2_99 (v2_99 + (nI 1)) hF _ _ _ hP hD hS (lv_sub hl [2, 1, 0] rfl)
          refine lv_istore_n (lv' := [(2, .int (o88 - (th_told 1))), (0, .ref q_th), (1, .int v1_9)]) hx hb dX8_target_98 rfl hl (by decide) rfl (fun ls hl => ?_)
          exact B_99 N v1_9 (o88 - (th_told 1)) hF _ _ _ hP hD hS (lv_sub hl [1, 2, 0] rfl)
        · have hF := ng_f hc hF
          refine lv_iload_n hx hb dX8_target_85 rfl (lv_at hl 1 rfl) ?_
          exact hret v1_9 o1 _ _ _ _ hF dX8_target_86 hP hD hS
      · have hF := ng_f hc hF
        refine lv_aload_n hx hb dX8_target_17 rfl (lv_at hl 0 rfl) ?_
        refine lv_iload_n hx hb dX8_target_18 rfl (lv_at hl 2 rfl) ?_
        obtain ⟨o19, hF1, hF⟩ := ng_b hF
        refine nx_callVi (As := [.int v2_9]) (rest := []) (W1 := [(q_th, .inr (8, [.ref q_th_told, .ref q_th_now, x_th_text, .int th_letters, .int th_at, x_th_read, .int th_isMore, .int th_told0, .ref q_th_from, x_th_to, x_th_undone, .int th_undos, x_th_aside, .int th_beganOn, .int th_beganIn, .int th_first, .int th_second, x_th_seenCell, x_th_seenNight, .int th_seens, .int th_above, .int th_below, x_th_kept, .int th_keeps])), (q_th_told, .inl (cI, 54, .inl th_told)), (q_th_from, .inl (cI, 25, .inl o1)), (q_th_now, .inl (cI, 28, .inl th_now))]) (wr := [(q_th_told, .inl (cI, 54, .inl th_told)), (q_th_from, .inl (cI, 25, .inl o1))]) S0 hK hN hA hP hD hS (kX8_kind l dC dI cI q_th q_th_now _ (.ref q_th_told) (x_th_text) th_letters th_at (x_th_read) th_isMore th_told0 (.ref q_th_from) (x_th_to) (x_th_undone) th_undos (x_th_aside) th_beganOn th_beganIn th_first th_second (x_th_seenCell) (x_th_seenNight) th_seens th_above th_below (x_th_kept) th_keeps th_now v2_9 N o19 hF1) (cwV 1 hts gX8_target_X8_kind rfl rfl rfl ⟨rfl, hdX8_kind⟩ ⟨Nat.le_of_ble_eq_true rfl, Nat.le_of_ble_eq_true rfl⟩) [0, 3] [1, 2] [2, 0, 1, 3] rfl rfl rfl rfl 0 8 rfl rfl rfl rfl hl.1 rfl (Nat.le_of_ble_eq_true rfl) dX8_target_19 (fun H locs hP hD hS => ?_)
        refine lv_iconst (v := (nI 3)) hx hb dX8_target_22 (by decide) ?_
        have B_41 : ∀ (s0_41 : Int32), fX8_target_41 o1 v1_9 v2_9 s0_41 (fX8_target_9 N th_told th_now o1 n_9) = some o → ∀ (H : Heap) (locs : List Loc) (ls : Array Slot), va_P (dC, dI) vwCl [(q_th, .inr (8, [.ref q_th_told, .ref q_th_now, x_th_text, .int th_letters, .int th_at, x_th_read, .int th_isMore, .int th_told0, .ref q_th_from, x_th_to, x_th_undone, .int th_undos, x_th_aside, .int th_beganOn, .int th_beganIn, .int th_first, .int th_second, x_th_seenCell, x_th_seenNight, .int th_seens, .int th_above, .int th_below, x_th_kept, .int th_keeps])), (q_th_told, .inl (cI, 54, .inl th_told)), (q_th_from, .inl (cI, 25, .inl o1)), (q_th_now, .inl (cI, 28, .inl th_now))] H → va_D A [(q_th, .inr (8, [.ref q_th_told, .ref q_th_now, x_th_text, .int th_letters, .int th_at, x_th_read, .int th_isMore, .int th_told0, .ref q_th_from, x_th_to, x_th_undone, .int th_undos, x_th_aside, .int th_beganOn, .int th_beganIn, .int th_first, .int th_second, x_th_seenCell, x_th_seenNight, .int th_seens, .int th_above, .int th_below, x_th_kept, .int th_keeps])), (q_th_told, .inl (cI, 54, .inl th_told)), (q_th_from, .inl (cI, 25, .inl o1)), (q_th_now, .inl (cI, 28, .inl th_now))] → va_S A s.heap H locs → lv_has ls 4 [(0, .ref q_th), (1, .int v1_9), (2, .int v2_9)] → W p l e ({ frames := 3, cells := 0, slots := 0, locals := 69 } : Room) s m args below meth c H locs 0 0 Q (F0 m 41 ls [.int s0_41]) := by
          intro s0_41 hF H locs ls hP hD hS hl
          rw [fX8_target_41_e] at hF
          refine lv_istore_n (lv' := [(3, .int s0_41), (0, .ref q_th), (1, .int v1_9), (2, .int v2_9)]) hx hb dX8_target_41 rfl hl (by decide) rfl (fun ls hl => ?_)
          refine lv_iload_n hx hb dX8_target_42 rfl (lv_at hl 0 rfl) ?_
          refine lv_if_eq (tgt := 71) hx hb dX8_target_43 (by decide) (fun hc => ?_) (fun hc => ?_)
          · have hF := ng_t hc hF
            refine lv_iload_n hx hb dX8_target_71 rfl (lv_at hl 2 rfl) ?_
            refine lv_istore_n (lv' := [(1, .int v1_9), (3, .int s0_41), (0, .ref q_th), (2, .int v2_9)]) hx hb dX8_target_72 rfl hl (by decide) rfl (fun ls hl => ?_)
            refine lv_iinc (v := v2_9 + (nI 1)) (lv' := [(2, .int (v2_9 + (nI 1))), (1, .int v1_9), (3, .int s0_41), (0, .ref q_th)]) hx hb dX8_target_73 hl (k := 3) rfl rfl (by decide) rfl (fun ls hl => ?_)
            refine lv_goto (tgt := 9) hx hb dX8_target_76 (by decide) ?_
            exact ih_9 v1_9 (v2_9 + (nI 1)) hF _ _ _ hP hD hS (lv_sub hl [3, 1, 0] rfl)
          · have hF := ng_f hc hF
            refine lv_iload_n hx hb dX8_target_46 rfl (lv_at hl 2 rfl) ?_
            refine lv_bipush (v := (-4 : Int32)) hx hb dX8_target_47 (by decide) ?_
            refine lv_icmp_eq (tgt := 67) hx hb dX8_target_49 (by decide) (fun hc => ?_) (fun hc => ?_)
            · have hF := ng_t hc hF
              refine lv_iload_n hx hb dX8_target_67 rfl (lv_at hl 3 rfl) ?_
              refine lv_goto (tgt := 72) hx hb dX8_target_68 (by decide) ?_
              refine lv_istore_n (lv' := [(1, .int v2_9), (3, .int s0_41), (0, .ref q_th), (2, .int v2_9)]) hx hb dX8_target_72 rfl hl (by decide) rfl (fun ls hl => ?_)
              refine lv_iinc (v := v2_9 + (nI 1)) (lv' := [(2, .int (v2_9 + (nI 1))), (1, .int v2_9), (3, .int s0_41), (0, .ref q_th)]) hx hb dX8_target_73 hl (k := 3) rfl rfl (by decide) rfl (fun ls hl => ?_)
              refine lv_goto (tgt := 9) hx hb dX8_target_76 (by decide) ?_
              exact ih_9 v2_9 (v2_9 + (nI 1)) hF _ _ _ hP hD hS (lv_sub hl [3, 1, 0] rfl)
            · have hF := ng_f hc hF
              refine lv_aload_n hx hb dX8_target_52 rfl (lv_at hl 1 rfl) ?_
              refine nx_get S0 hK hP 0 8 hin_X8 hf_22 rfl rfl (by decide) rfl rfl dX8_target_53 ?_
              refine lv_iload_n hx hb dX8_target_56 rfl (lv_at hl 3 rfl) ?_
              have hg := ng_p hF
              have hF := ng_x hF
              refine nx_iald S0 hK hP 2 (v := o1 v2_9.toNatClampNeg) rfl hg rfl dX8_target_57 ?_
              refine lv_aload_n hx hb dX8_target_58 rfl (lv_at hl 1 rfl) ?_
              refine nx_get S0 hK hP 0 8 hin_X8 hf_22 rfl rfl (by decide) rfl rfl dX8_target_59 ?_
              refine lv_iload_n hx hb dX8_target_62 rfl (lv_at hl 2 rfl) ?_
              have hg := ng_p hF
              have hF := ng_x hF
              refine nx_iald S0 hK hP 2 (v := o1 v1_9.toNatClampNeg) rfl hg rfl dX8_target_63 ?_
              refine lv_icmp_ge (tgt := 71) hx hb dX8_target_64 (by decide) (fun hc => ?_) (fun hc => ?_)
              · have hF := ng_t hc hF
                refine lv_iload_n hx hb dX8_target_71 rfl (lv_at hl 2 rfl) ?_
                refine lv_istore_n (lv' := [(1, .int v1_9), (3, .int s0_41), (0, .ref q_th), (2, .int v2_9)]) hx hb dX8_target_72 rfl hl (by decide) rfl (fun ls hl => ?_)
                refine lv_iinc (v := v2_9 + (nI 1)) (lv' := [(2, .int (v2_9 + (nI 1))), (1, .int v1_9), (3, .int s0_41), (0, .ref q_th)]) hx hb dX8_target_73 hl (k := 3) rfl rfl (by decide) rfl (fun ls hl => ?_)
                refine lv_goto (tgt := 9) hx hb dX8_target_76 (by decide) ?_
                exact ih_9 v1_9 (v2_9 + (nI 1)) hF _ _ _ hP hD hS (lv_sub hl [3, 1, 0] rfl)
              · have hF := ng_f hc hF
                refine lv_iload_n hx hb dX8_target_67 rfl (lv_at hl 3 rfl) ?_
                refine lv_goto (tgt := 72) hx hb dX8_target_68 (by decide) ?_
                refine lv_istore_n (lv' := [(1, .int v2_9), (3, .int s0_41), (0, .ref q_th), (2, .int v2_9)]) hx hb dX8_target_72 rfl hl (by decide) rfl (fun ls hl => ?_)
                refine lv_iinc (v := v2_9 + (nI 1)) (lv' := [(2, .int (v2_9 + (nI 1))), (1, .int v2_9), (3, .int s0_41), (0, .ref q_th)]) hx hb dX8_target_73 hl (k := 3) rfl rfl (by decide) rfl (fun ls hl => ?_)
                refine lv_goto (tgt := 9) hx hb dX8_target_76 (by decide) ?_
                exact ih_9 v2_9 (v2_9 + (nI 1)) hF _ _ _ hP hD hS (lv_sub hl [3, 1, 0] rfl)
        have B_40 : fX8_target_40 o1 v1_9 v2_9 (fX8_target_9 N th_told th_now o1 n_9) = some o → ∀ (H : Heap) (locs : List Loc) (ls : Array Slot), va_P (dC, dI) vwCl [(q_th, .inr (8, [.ref q_th_told, .ref q_th_now, x_th_text, .int th_letters, .int th_at, x_th_read, .int th_isMore, .int th_told0, .ref q_th_from, x_th_to, x_th_undone, .int th_undos, x_th_aside, .int th_beganOn, .int th_beganIn, .int th_first, .int th_second, x_th_seenCell, x_th_seenNight, .int th_seens, .int th_above, .int th_below, x_th_kept, .int th_keeps])), (q_th_told, .inl (cI, 54, .inl th_told)), (q_th_from, .inl (cI, 25, .inl o1)), (q_th_now, .inl (cI, 28, .inl th_now))] H → va_D A [(q_th, .inr (8, [.ref q_th_told, .ref q_th_now, x_th_text, .int th_letters, .int th_at, x_th_read, .int th_isMore, .int th_told0, .ref q_th_from, x_th_to, x_th_undone, .int th_undos, x_th_aside, .int th_beganOn, .int th_beganIn, .int th_first, .int th_second, x_th_seenCell, x_th_seenNight, .int th_seens, .int th_above, .int th_below, x_th_kept, .int th_keeps])), (q_th_told, .inl (cI, 54, .inl th_told)), (q_th_from, .inl (cI, 25, .inl o1)), (q_th_now, .inl (cI, 28, .inl th_now))] → va_S A s.heap H locs → lv_has ls 4 [(0, .ref q_th), (1, .int v1_9), (2, .int v2_9)] → W p l e ({ frames := 3, cells := 0, slots := 0, locals := 69 } : Room) s m args below meth c H locs 0 0 Q (F0 m 40 ls []) := by
          intro  hF H locs ls hP hD hS hl
          rw [fX8_target_40_e] at hF
          refine lv_iconst (v := (nI 0)) hx hb dX8_target_40 (by decide) ?_
          exact B_41 (nI 0) hF _ _ _ hP hD hS (lv_sub hl [0, 1, 2] rfl)
        refine lv_icmp_ne (tgt := 40) hx hb dX8_target_23 (by decide) (fun hc => ?_) (fun hc => ?_)
        · have hF := ng_f hc hF
          exact B_40  hF _ _ _ hP hD hS (lv_sub hl [0, 1, 2] rfl)
        · have hF := ng_t hc hF
          refine lv_aload_n hx hb dX8_target_26 rfl (lv_at hl 0 rfl) ?_
          refine nx_get S0 hK hP 0 8 hin_X8 hf_22 rfl rfl (by decide) rfl rfl dX8_target_27 ?_
          refine lv_iload_n hx hb dX8_target_30 rfl (lv_at hl 2 rfl) ?_
          have hg := ng_p hF
          have hF := ng_x hF
          refine nx_iald S0 hK hP 2 (v := o1 v2_9.toNatClampNeg) rfl hg rfl dX8_target_31 ?_
          refine lv_iconst (v := (nI 5)) hx hb dX8_target_32 (by decide) ?_
          refine lv_icmp_ge (tgt := 40) hx hb dX8_target_33 (by decide) (fun hc => ?_) (fun hc => ?_)
          · have hF := ng_t hc hF
            exact B_40  hF _ _ _ hP hD hS (lv_sub hl [0, 1, 2] rfl)
          · have hF := ng_f hc hF
            refine lv_iconst (v := (nI 1)) hx hb dX8_target_36 (by decide) ?_
            refine lv_goto (tgt := 41) hx hb dX8_target_37 (by decide) ?_
            exact B_41 (nI 1) hF _ _ _ hP hD hS (lv_sub hl [0, 1, 2] rfl)
  refine lv_istore_n (lv' := [(2, .int (nI 0)), (1, .int (-4 : Int32)), (0, .ref q_th)]) hx hb dX8_target_8 rfl hl (by decide) rfl (fun ls hl => ?_)
  exact B_9 N (-4 : Int32) (nI 0) hF _ _ _ hP hD hS (lv_sub hl [2, 1, 0] rfl)
theorem hdX8_next : yX8_next.cls ≠ "java/lang/invoke/MethodHandle" ∧ yX8_next.cls ≠ "java/lang/invoke/VarHandle" ∧ (parseMethodDescriptor yX8_next.desc).map (fun d => d.parameters.length) = some 0 := by decide +kernel
set_option maxHeartbeats 40000000 in
set_option maxRecDepth 100000 in
theorem kX8_next (l : Launch) (dC : Nat → ClassId) (dI : Nat → Nat → Nat) (cI : ClassId) (q_th : Nat) (q_th_told : Nat) (q_th_from : Nat) (q_th_now : Nat) (q_th_to : Nat) (sz : Nat) (x_th_text : Value) (th_letters : Int32) (th_at : Int32) (x_th_read : Value) (th_isMore : Int32) (th_told0 : Int32) (x_th_undone : Value) (th_undos : Int32) (x_th_aside : Value) (th_beganOn : Int32) (th_beganIn : Int32) (th_first : Int32) (th_second : Int32) (x_th_seenCell : Value) (x_th_seenNight : Value) (th_seens : Int32) (th_above : Int32) (th_below : Int32) (x_th_kept : Value) (th_keeps : Int32) (th_told : Nat → Int32) (th_from : Nat → Int32) (th_now : Nat → Int32) (th_to : Nat → Int32) (N : Nat) (o : Int32 × (Nat → Int32) × (Nat → Int32)) (hF : fX8_next N th_told th_from th_now th_to = some o) : nx_I l yX8_next wsX8_next ({ frames := 4, cells := 0, slots := 0, locals := 92 } : Room) (dC, dI) cI [.ref q_th] [(q_th, .inr (8, [.ref q_th_told, .ref q_th_now, x_th_text, .int th_letters, .int th_at, x_th_read, .int th_isMore, .int th_told0, .ref q_th_from, .ref q_th_to, x_th_undone, .int th_undos, x_th_aside, .int th_beganOn, .int th_beganIn, .int th_first, .int th_second, x_th_seenCell, x_th_seenNight, .int th_seens, .int th_above, .int th_below, x_th_kept, .int th_keeps])), (q_th_told, .inl (cI, 54, .inl th_told)), (q_th_from, .inl (cI, 25, .inl th_from)), (q_th_now, .inl (cI, 28, .inl th_now)), (q_th_to, .inl (cI, 25, .inl th_to))] sz o.1 [(q_th, .inr (8, [.ref q_th_told, .ref q_th_now, x_th_text, .int th_letters, .int th_at, x_th_read, .int th_isMore, .int th_told0, .ref q_th_from, .ref q_th_to, x_th_undone, .int th_undos, x_th_aside, .int th_beganOn, .int th_beganIn, .int th_first, .int th_second, x_th_seenCell, x_th_seenNight, .int th_seens, .int th_above, .int th_below, x_th_kept, .int th_keeps])), (q_th_told, .inl (cI, 54, .inl th_told)), (q_th_from, .inl (cI, 25, .inl o.2.1)), (q_th_now, .inl (cI, 28, .inl th_now)), (q_th_to, .inl (cI, 25, .inl o.2.2))] := by
  refine nx_int (cc := cX8_next) (maxL := 6) (by decide) rfl (Nat.le_of_ble_eq_true rfl) ?_
  intro p e s m args below meth c Q A S0 hK hN hA ret0 hP hD hS ls hl
  have S0 : CallFix p m c cX8_next 6 s args wsX8_next RX8 := S0
  have hx := S0.1
  have hb := S0.2.1
  have hown := S0.2.2.2.1
  have hts := S0.2.2.2.2
  have hf_13 := hts (.fieldLink RX8 13 "SnailsYearModel" "now" "[I") (by decide +kernel)
  have hin_X8 : ∀ w ∈ wsX80, w ∈ wsX8_next := by decide +kernel
  have hf_25 := hts (.fieldLink RX8 25 "SnailsYearModel" "to" "[I") (by decide +kernel)
  have hl : lv_has ls 6 [(0, .ref q_th)] := hl
  have hret : ∀ (r0 : Int32) (y0 : Nat → Int32) (y1 : Nat → Int32) (H : Heap) (locs : List Loc) (ls : Array Slot) (pc : Nat), some (r0, y0, y1) = some o → decode cX8_next pc = .ok (.ireturn, 1) → va_P (dC, dI) vwCl [(q_th, .inr (8, [.ref q_th_told, .ref q_th_now, x_th_text, .int th_letters, .int th_at, x_th_read, .int th_isMore, .int th_told0, .ref q_th_from, .ref q_th_to, x_th_undone, .int th_undos, x_th_aside, .int th_beganOn, .int th_beganIn, .int th_first, .int th_second, x_th_seenCell, x_th_seenNight, .int th_seens, .int th_above, .int th_below, x_th_kept, .int th_keeps])), (q_th_told, .inl (cI, 54, .inl th_told)), (q_th_from, .inl (cI, 25, .inl y0)), (q_th_now, .inl (cI, 28, .inl th_now)), (q_th_to, .inl (cI, 25, .inl y1))] H → va_D A [(q_th, .inr (8, [.ref q_th_told, .ref q_th_now, x_th_text, .int th_letters, .int th_at, x_th_read, .int th_isMore, .int th_told0, .ref q_th_from, .ref q_th_to, x_th_undone, .int th_undos, x_th_aside, .int th_beganOn, .int th_beganIn, .int th_first, .int th_second, x_th_seenCell, x_th_seenNight, .int th_seens, .int th_above, .int th_below, x_th_kept, .int th_keeps])), (q_th_told, .inl (cI, 54, .inl th_told)), (q_th_from, .inl (cI, 25, .inl y0)), (q_th_now, .inl (cI, 28, .inl th_now)), (q_th_to, .inl (cI, 25, .inl y1))] → va_S A s.heap H locs → W p l e ({ frames := 4, cells := 0, slots := 0, locals := 92 } : Room) s m args below meth c H locs 0 0 Q (F0 m pc ls [.int r0]) := by
    intro r0 y0 y1 H locs ls pc ho hd hP hD hS
    cases ho
    exact ret0 H locs ls pc hd hP hD hS
  rw [fX8_next_e] at hF
  refine lv_aload_n hx hb dX8_next_0 rfl (lv_at hl 0 rfl) ?_
  obtain ⟨o1, hF1, hF⟩ := ng_b hF
  refine nx_callVi (As := []) (rest := []) (W1 := [(q_th, .inr (8, [.ref q_th_told, .ref q_th_now, x_th_text, .int th_letters, .int th_at, x_th_read, .int th_isMore, .int th_told0, .ref q_th_from, .ref q_th_to, x_th_undone, .int th_undos, x_th_aside, .int th_beganOn, .int th_beganIn, .int th_first, .int th_second, x_th_seenCell, x_th_seenNight, .int th_seens, .int th_above, .int th_below, x_th_kept, .int th_keeps])), (q_th_told, .inl (cI, 54, .inl th_told)), (q_th_from, .inl (cI, 25, .inl o1.2)), (q_th_now, .inl (cI, 28, .inl th_now)), (q_th_to, .inl (cI, 25, .inl th_to))]) (wr := [(q_th_to, .inl (cI, 25, .inl th_to))]) S0 hK hN hA hP hD hS (kX8_target l dC dI cI q_th q_th_told q_th_from q_th_now _ (x_th_text) th_letters th_at (x_th_read) th_isMore th_told0 (.ref q_th_to) (x_th_undone) th_undos (x_th_aside) th_beganOn th_beganIn th_first th_second (x_th_seenCell) (x_th_seenNight) th_seens th_above th_below (x_th_kept) th_keeps th_told th_from th_now N o1 hF1) (cwV 0 hts gX8_next_X8_target rfl rfl rfl ⟨rfl, hdX8_target⟩ ⟨Nat.le_of_ble_eq_true rfl, Nat.le_of_ble_eq_true rfl⟩) [0, 1, 2, 3] [4] [1, 2, 3, 4, 0] rfl rfl rfl rfl 0 8 rfl rfl rfl rfl hl.1 rfl (Nat.le_of_ble_eq_true rfl) dX8_next_1 (fun H locs hP hD hS => ?_)
  refine lv_istore_n (lv' := [(1, .int o1.1), (0, .ref q_th)]) hx hb dX8_next_4 rfl hl (by decide) rfl (fun ls hl => ?_)
  refine lv_iload_n hx hb dX8_next_5 rfl (lv_at hl 0 rfl) ?_
  refine lv_bipush (v := (-4 : Int32)) hx hb dX8_next_6 (by decide) ?_
  refine lv_icmp_ne (tgt := 14) hx hb dX8_next_8 (by decide) (fun hc => ?_) (fun hc => ?_)
  · have hF := ng_f hc hF
    refine lv_aload_n hx hb dX8_next_14 rfl (lv_at hl 1 rfl) ?_
    refine lv_iload_n hx hb dX8_next_15 rfl (lv_at hl 0 rfl) ?_
    obtain ⟨o16, hF1, hF⟩ := ng_b hF
    refine nx_callVv (As := [.int o1.1]) (rest := []) (W1 := [(q_th, .inr (8, [.ref q_th_told, .ref q_th_now, x_th_text, .int th_letters, .int th_at, x_th_read, .int th_isMore, .int th_told0, .ref q_th_from, .ref q_th_to, x_th_undone, .int th_undos, x_th_aside, .int th_beganOn, .int th_beganIn, .int th_first, .int th_second, x_th_seenCell, x_th_seenNight, .int th_seens, .int th_above, .int th_below, x_th_kept, .int th_keeps])), (q_th_told, .inl (cI, 54, .inl th_told)), (q_th_from, .inl (cI, 25, .inl o1.2)), (q_th_now, .inl (cI, 28, .inl th_now)), (q_th_to, .inl (cI, 25, .inl o16))]) (wr := [(q_th_from, .inl (cI, 25, .inl o1.2))]) S0 hK hN hA hP hD hS (kX8_goesTo l dC dI cI q_th q_th_told q_th_to q_th_now _ (x_th_text) th_letters th_at (x_th_read) th_isMore th_told0 (.ref q_th_from) (x_th_undone) th_undos (x_th_aside) th_beganOn th_beganIn th_first th_second (x_th_seenCell) (x_th_seenNight) th_seens th_above th_below (x_th_kept) th_keeps th_told th_to th_now o1.1 N o16 hF1) (cwV 1 hts gX8_next_X8_goesTo rfl rfl rfl ⟨rfl, hdX8_goesTo⟩ ⟨Nat.le_of_ble_eq_true rfl, Nat.le_of_ble_eq_true rfl⟩) [0, 1, 4, 3] [2] [1, 2, 0, 4, 3] rfl rfl rfl rfl 0 8 rfl rfl rfl rfl hl.1 rfl (Nat.le_of_ble_eq_true rfl) dX8_next_16 (fun H locs hP hD hS => ?_)
    refine lv_bipush (v := (-4 : Int32)) hx hb dX8_next_19 (by decide) ?_
    refine lv_istore_n (lv' := [(2, .int (-4 : Int32)), (1, .int o1.1), (0, .ref q_th)]) hx hb dX8_next_21 rfl hl (by decide) rfl (fun ls hl => ?_)
    refine lv_iconst (v := (nI 0)) hx hb dX8_next_22 (by decide) ?_
    have B_24 : ∀ (n_24 : Nat) (v2_24 : Int32) (v3_24 : Int32), fX8_next_24 N th_told th_now o1 o16 n_24 v2_24 v3_24 = some o → ∀ (H : Heap) (locs : List Loc) (ls : Array Slot), va_P (dC, dI) vwCl [(q_th, .inr (8, [.ref q_th_told, .ref q_th_now, x_th_text, .int th_letters, .int th_at, x_th_read, .int th_isMore, .int th_told0, .ref q_th_from, .ref q_th_to, x_th_undone, .int th_undos, x_th_aside, .int th_beganOn, .int th_beganIn, .int th_first, .int th_second, x_th_seenCell, x_th_seenNight, .int th_seens, .int th_above, .int th_below, x_th_kept, .int th_keeps])), (q_th_told, .inl (cI, 54, .inl th_told)), (q_th_from, .inl (cI, 25, .inl o1.2)), (q_th_now, .inl (cI, 28, .inl th_now)), (q_th_to, .inl (cI, 25, .inl o16))] H → va_D A [(q_th, .inr (8, [.ref q_th_told, .ref q_th_now, x_th_text, .int th_letters, .int th_at, x_th_read, .int th_isMore, .int th_told0, .ref q_th_from, .ref q_th_to, x_th_undone, .int th_undos, x_th_aside, .int th_beganOn, .int th_beganIn, .int th_first, .int th_second, x_th_seenCell, x_th_seenNight, .int th_seens, .int th_above, .int th_below, x_th_kept, .int th_keeps])), (q_th_told, .inl (cI, 54, .inl th_told)), (q_th_from, .inl (cI, 25, .inl o1.2)), (q_th_now, .inl (cI, 28, .inl th_now)), (q_th_to, .inl (cI, 25, .inl o16))] → va_S A s.heap H locs → lv_has ls 6 [(0, .ref q_th), (2, .int v2_24), (3, .int v3_24)] → W p l e ({ frames := 4, cells := 0, slots := 0, locals := 92 } : Room) s m args below meth c H locs 0 0 Q (F0 m 24 ls []) := by
      intro n_24
      induction n_24 with
      | zero =>
        intro v2_24 v3_24 hF
        rw [fX8_next_24_z] at hF
        cases hF
      | succ n_24 ih_24 =>
        intro v2_24 v3_24 hF H locs ls hP hD hS hl
        rw [fX8_next_24_s] at hF
        refine lv_iload_n hx hb dX8_next_24 rfl (lv_at hl 2 rfl) ?_
        refine lv_iconst (v := (nI 4)) hx hb dX8_next_25 (by decide) ?_
        refine lv_icmp_ge (tgt := 117) hx hb dX8_next_26 (by decide) (fun hc => ?_) (fun hc => ?_)
        · have hF := ng_t hc hF
          refine lv_iload_n hx hb dX8_next_117 rfl (lv_at hl 1 rfl) ?_
          exact hret v2_24 o1.2 o16 _ _ _ _ hF dX8_next_118 hP hD hS
        · have hF := ng_f hc hF
          refine lv_aload_n hx hb dX8_next_29 rfl (lv_at hl 0 rfl) ?_
          refine lv_aload_n hx hb dX8_next_30 rfl (lv_at hl 0 rfl) ?_
          refine nx_get S0 hK hP 0 1 hin_X8 hf_13 rfl rfl (by decide) rfl rfl dX8_next_31 ?_
          refine lv_iconst (v := (nI 1)) hx hb dX8_next_34 (by decide) ?_
          refine nx_iald S0 hK hP 3 (v := th_now 1) rfl (by decide) rfl dX8_next_35 ?_
          refine lv_iload_n hx hb dX8_next_36 rfl (lv_at hl 2 rfl) ?_
          obtain ⟨o37, hF1, hF⟩ := ng_b hF
          refine nx_callVi (As := [.int (th_now 1), .int v3_24]) (rest := []) (W1 := [(q_th, .inr (8, [.ref q_th_told, .ref q_th_now, x_th_text, .int th_letters, .int th_at, x_th_read, .int th_isMore, .int th_told0, .ref q_th_from, .ref q_th_to, x_th_undone, .int th_undos, x_th_aside, .int th_beganOn, .int th_beganIn, .int th_first, .int th_second, x_th_seenCell, x_th_seenNight, .int th_seens, .int th_above, .int th_below, x_th_kept, .int th_keeps])), (q_th_told, .inl (cI, 54, .inl th_told)), (q_th_from, .inl (cI, 25, .inl o1.2)), (q_th_now, .inl (cI, 28, .inl th_now)), (q_th_to, .inl (cI, 25, .inl o16))]) (wr := [(q_th_from, .inl (cI, 25, .inl o1.2)), (q_th_now, .inl (cI, 28, .inl th_now)), (q_th_to, .inl (cI, 25, .inl o16))]) S0 hK hN hA hP hD hS (kX8_beside l dC dI cI q_th q_th_told _ (.ref q_th_now) (x_th_text) th_letters th_at (x_th_read) th_isMore th_told0 (.ref q_th_from) (.ref q_th_to) (x_th_undone) th_undos (x_th_aside) th_beganOn th_beganIn th_first th_second (x_th_seenCell) (x_th_seenNight) th_seens th_above th_below (x_th_kept) th_keeps th_told (th_now 1) v3_24 N o37 hF1) (cwV 2 hts gX8_next_X8_beside rfl rfl rfl ⟨rfl, hdX8_beside⟩ ⟨Nat.le_of_ble_eq_true rfl, Nat.le_of_ble_eq_true rfl⟩) [0, 1] [2, 3, 4] [3, 4, 0, 1, 2] rfl rfl rfl rfl 0 8 rfl rfl rfl rfl hl.1 rfl (Nat.le_of_ble_eq_true rfl) dX8_next_37 (fun H locs hP hD hS => ?_)
          refine lv_istore (lv' := [(4, .int o37), (0, .ref q_th), (2, .int v2_24), (3, .int v3_24)]) hx hb dX8_next_40 hl (by decide) rfl (fun ls hl => ?_)
          refine lv_iload hx hb dX8_next_42 (lv_at hl 0 rfl) ?_
          refine lv_bipush (v := (-4 : Int32)) hx hb dX8_next_44 (by decide) ?_
          have B_70 : ∀ (s0_70 : Int32), fX8_next_70 N th_now o16 v2_24 v3_24 o37 s0_70 (fX8_next_24 N th_told th_now o1 o16 n_24) = some o → ∀ (H : Heap) (locs : List Loc) (ls : Array Slot), va_P (dC, dI) vwCl [(q_th, .inr (8, [.ref q_th_told, .ref q_th_now, x_th_text, .int th_letters, .int th_at, x_th_read, .int th_isMore, .int th_told0, .ref q_th_from, .ref q_th_to, x_th_undone, .int th_undos, x_th_aside, .int th_beganOn, .int th_beganIn, .int th_first, .int th_second, x_th_seenCell, x_th_seenNight, .int th_seens, .int th_above, .int th_below, x_th_kept, .int th_keeps])), (q_th_told, .inl (cI, 54, .inl th_told)), (q_th_from, .inl (cI, 25, .inl o1.2)), (q_th_now, .inl (cI, 28, .inl th_now)), (q_th_to, .inl (cI, 25, .inl o16))] H → va_D A [(q_th, .inr (8, [.ref q_th_told, .ref q_th_now, x_th_text, .int th_letters, .int th_at, x_th_read, .int th_isMore, .int th_told0, .ref q_th_from, .ref q_th_to, x_th_undone, .int th_undos, x_th_aside, .int th_beganOn, .int th_beganIn, .int th_first, .int th_second, x_th_seenCell, x_th_seenNight, .int th_seens, .int th_above, .int th_below, x_th_kept, .int th_keeps])), (q_th_told, .inl (cI, 54, .inl th_told)), (q_th_from, .inl (cI, 25, .inl o1.2)), (q_th_now, .inl (cI, 28, .inl th_now)), (q_th_to, .inl (cI, 25, .inl o16))] → va_S A s.heap H locs → lv_has ls 6 [(0, .ref q_th), (2, .int v2_24), (3, .int v3_24), (4, .int o37)] → W p l e ({ frames := 4, cells := 0, slots := 0, locals := 92 } : Room) s m args below meth c H locs 0 0 Q (F0 m 70 ls [.int s0_70]) := by
            intro s0_70 hF H locs ls hP hD hS hl
            rw [fX8_next_70_e] at hF
            refine lv_istore (lv' := [(5, .int s0_70), (0, .ref q_th), (2, .int v2_24), (3, .int v3_24), (4, .int o37)]) hx hb dX8_next_70 hl (by decide) rfl (fun ls hl => ?_)
            refine lv_iload hx hb dX8_next_72 (lv_at hl 0 rfl) ?_
            refine lv_sipush (v := (nI 9999)) hx hb dX8_next_74 (by decide) ?_
            refine lv_icmp_ge (tgt := 109) hx hb dX8_next_77 (by decide) (fun hc => ?_) (fun hc => ?_)
            · have hF := ng_t hc hF
              refine lv_iload_n hx hb dX8_next_109 rfl (lv_at hl 2 rfl) ?_
              refine lv_istore_n (lv' := [(2, .int v2_24), (5, .int s0_70), (0, .ref q_th), (3, .int v3_24), (4, .int o37)]) hx hb dX8_next_110 rfl hl (by decide) rfl (fun ls hl => ?_)
              refine lv_iinc (v := v3_24 + (nI 1)) (lv' := [(3, .int (v3_24 + (nI 1))), (2, .int v2_24), (5, .int s0_70), (0, .ref q_th), (4, .int o37)]) hx hb dX8_next_111 hl (k := 3) rfl rfl (by decide) rfl (fun ls hl => ?_)
              refine lv_goto (tgt := 24) hx hb dX8_next_114 (by decide) ?_
              exact ih_24 v2_24 (v3_24 + (nI 1)) hF _ _ _ hP hD hS (lv_sub hl [3, 1, 0] rfl)
            · have hF := ng_f hc hF
              refine lv_iload_n hx hb dX8_next_80 rfl (lv_at hl 2 rfl) ?_
              refine lv_bipush (v := (-4 : Int32)) hx hb dX8_next_81 (by decide) ?_
              refine lv_icmp_eq (tgt := 104) hx hb dX8_next_83 (by decide) (fun hc => ?_) (fun hc => ?_)
              · have hF := ng_t hc hF
                refine lv_iload hx hb dX8_next_104 (lv_at hl 4 rfl) ?_
                refine lv_goto (tgt := 110) hx hb dX8_next_106 (by decide) ?_
                refine lv_istore_n (lv' := [(2, .int o37), (5, .int s0_70), (0, .ref q_th), (3, .int v3_24), (4, .int o37)]) hx hb dX8_next_110 rfl hl (by decide) rfl (fun ls hl => ?_)
                refine lv_iinc (v := v3_24 + (nI 1)) (lv' := [(3, .int (v3_24 + (nI 1))), (2, .int o37), (5, .int s0_70), (0, .ref q_th), (4, .int o37)]) hx hb dX8_next_111 hl (k := 3) rfl rfl (by decide) rfl (fun ls hl => ?_)
                refine lv_goto (tgt := 24) hx hb dX8_next_114 (by decide) ?_
                exact ih_24 o37 (v3_24 + (nI 1)) hF _ _ _ hP hD hS (lv_sub hl [3, 1, 0] rfl)
              · have hF := ng_f hc hF
                refine lv_iload hx hb dX8_next_86 (lv_at hl 0 rfl) ?_
                refine lv_aload_n hx hb dX8_next_88 rfl (lv_at hl 1 rfl) ?_
                refine lv_iload_n hx hb dX8_next_89 rfl (lv_at hl 2 rfl) ?_
                refine lv_iconst (v := (nI 2)) hx hb dX8_next_90 (by decide) ?_
                obtain ⟨o91, hF1, hF⟩ := ng_b hF
                refine nx_callVi (As := [.int v2_24, .int (nI 2)]) (rest := [.int s0_70]) (W1 := [(q_th, .inr (8, [.ref q_th_told, .ref q_th_now, x_th_text, .int th_letters, .int th_at, x_th_read, .int th_isMore, .int th_told0, .ref q_th_from, .ref q_th_to, x_th_undone, .int th_undos, x_th_aside, .int th_beganOn, .int th_beganIn, .int th_first, .int th_second, x_th_seenCell, x_th_seenNight, .int th_seens, .int th_above, .int th_below, x_th_kept, .int th_keeps])), (q_th_told, .inl (cI, 54, .inl th_told)), (q_th_from, .inl (cI, 25, .inl o1.2)), (q_th_now, .inl (cI, 28, .inl th_now)), (q_th_to, .inl (cI, 25, .inl o16))]) (wr := [(q_th_told, .inl (cI, 54, .inl th_told)), (q_th_from, .inl (cI, 25, .inl o1.2)), (q_th_to, .inl (cI, 25, .inl o16))]) S0 hK hN hA hP hD hS (kX8_into l dC dI cI q_th q_th_now _ (.ref q_th_told) (x_th_text) th_letters th_at (x_th_read) th_isMore th_told0 (.ref q_th_from) (.ref q_th_to) (x_th_undone) th_undos (x_th_aside) th_beganOn th_beganIn th_first th_second (x_th_seenCell) (x_th_seenNight) th_seens th_above th_below (x_th_kept) th_keeps th_now v2_24 (nI 2) N o91 hF1) (cwV 2 hts gX8_next_X8_into rfl rfl rfl ⟨rfl, hdX8_into⟩ ⟨Nat.le_of_ble_eq_true rfl, Nat.le_of_ble_eq_true rfl⟩) [0, 3] [1, 2, 4] [3, 0, 1, 4, 2] rfl rfl rfl rfl 0 8 rfl rfl rfl rfl hl.1 rfl (Nat.le_of_ble_eq_true rfl) dX8_next_91 (fun H locs hP hD hS => ?_)
                refine lv_aload_n hx hb dX8_next_94 rfl (lv_at hl 1 rfl) ?_
                refine nx_get S0 hK hP 0 9 hin_X8 hf_25 rfl rfl (by decide) rfl rfl dX8_next_95 ?_
                refine lv_iload_n hx hb dX8_next_98 rfl (lv_at hl 2 rfl) ?_
                have hg := ng_p hF
                have hF := ng_x hF
                refine nx_iald S0 hK hP 4 (v := o16 v2_24.toNatClampNeg) rfl hg rfl dX8_next_99 ?_
                refine lv_iadd hx hb dX8_next_100 ?_
                refine lv_icmp_ge (tgt := 109) hx hb dX8_next_101 (by decide) (fun hc => ?_) (fun hc => ?_)
                · have hF := ng_t hc hF
                  refine lv_iload_n hx hb dX8_next_109 rfl (lv_at hl 2 rfl) ?_
                  refine lv_istore_n (lv' := [(2, .int v2_24), (5, .int s0_70), (0, .ref q_th), (3, .int v3_24), (4, .int o37)]) hx hb dX8_next_110 rfl hl (by decide) rfl (fun ls hl => ?_)
                  refine lv_iinc (v := v3_24 + (nI 1)) (lv' := [(3, .int (v3_24 + (nI 1))), (2, .int v2_24), (5, .int s0_70), (0, .ref q_th), (4, .int o37)]) hx hb dX8_next_111 hl (k := 3) rfl rfl (by decide) rfl (fun ls hl => ?_)
                  refine lv_goto (tgt := 24) hx hb dX8_next_114 (by decide) ?_
                  exact ih_24 v2_24 (v3_24 + (nI 1)) hF _ _ _ hP hD hS (lv_sub hl [3, 1, 0] rfl)
                · have hF := ng_f hc hF
                  refine lv_iload hx hb dX8_next_104 (lv_at hl 4 rfl) ?_
                  refine lv_goto (tgt := 110) hx hb dX8_next_106 (by decide) ?_
                  refine lv_istore_n (lv' := [(2, .int o37), (5, .int s0_70), (0, .ref q_th), (3, .int v3_24), (4, .int o37)]) hx hb dX8_next_110 rfl hl (by decide) rfl (fun ls hl => ?_)
                  refine lv_iinc (v := v3_24 + (nI 1)) (lv' := [(3, .int (v3_24 + (nI 1))), (2, .int o37), (5, .int s0_70), (0, .ref q_th), (4, .int o37)]) hx hb dX8_next_111 hl (k := 3) rfl rfl (by decide) rfl (fun ls hl => ?_)
                  refine lv_goto (tgt := 24) hx hb dX8_next_114 (by decide) ?_
                  exact ih_24 o37 (v3_24 + (nI 1)) hF _ _ _ hP hD hS (lv_sub hl [3, 1, 0] rfl)
          refine lv_icmp_ne (tgt := 55) hx hb dX8_next_46 (by decide) (fun hc => ?_) (fun hc => ?_)
          · have hF := ng_f hc hF
            refine lv_aload_n hx hb dX8_next_55 rfl (lv_at hl 1 rfl) ?_
            refine lv_iload hx hb dX8_next_56 (lv_at hl 0 rfl) ?_
            refine lv_iconst (v := (nI 2)) hx hb dX8_next_58 (by decide) ?_
            obtain ⟨o59, hF1, hF⟩ := ng_b hF
            refine nx_callVi (As := [.int o37, .int (nI 2)]) (rest := []) (W1 := [(q_th, .inr (8, [.ref q_th_told, .ref q_th_now, x_th_text, .int th_letters, .int th_at, x_th_read, .int th_isMore, .int th_told0, .ref q_th_from, .ref q_th_to, x_th_undone, .int th_undos, x_th_aside, .int th_beganOn, .int th_beganIn, .int th_first, .int th_second, x_th_seenCell, x_th_seenNight, .int th_seens, .int th_above, .int th_below, x_th_kept, .int th_keeps])), (q_th_told, .inl (cI, 54, .inl th_told)), (q_th_from, .inl (cI, 25, .inl o1.2)), (q_th_now, .inl (cI, 28, .inl th_now)), (q_th_to, .inl (cI, 25, .inl o16))]) (wr := [(q_th_told, .inl (cI, 54, .inl th_told)), (q_th_from, .inl (cI, 25, .inl o1.2)), (q_th_to, .inl (cI, 25, .inl o16))]) S0 hK hN hA hP hD hS (kX8_into l dC dI cI q_th q_th_now _ (.ref q_th_told) (x_th_text) th_letters th_at (x_th_read) th_isMore th_told0 (.ref q_th_from) (.ref q_th_to) (x_th_undone) th_undos (x_th_aside) th_beganOn th_beganIn th_first th_second (x_th_seenCell) (x_th_seenNight) th_seens th_above th_below (x_th_kept) th_keeps th_now o37 (nI 2) N o59 hF1) (cwV 2 hts gX8_next_X8_into rfl rfl rfl ⟨rfl, hdX8_into⟩ ⟨Nat.le_of_ble_eq_true rfl, Nat.le_of_ble_eq_true rfl⟩) [0, 3] [1, 2, 4] [3, 0, 1, 4, 2] rfl rfl rfl rfl 0 8 rfl rfl rfl rfl hl.1 rfl (Nat.le_of_ble_eq_true rfl) dX8_next_59 (fun H locs hP hD hS => ?_)
            refine lv_aload_n hx hb dX8_next_62 rfl (lv_at hl 1 rfl) ?_
            refine nx_get S0 hK hP 0 9 hin_X8 hf_25 rfl rfl (by decide) rfl rfl dX8_next_63 ?_
            refine lv_iload hx hb dX8_next_66 (lv_at hl 0 rfl) ?_
            have hg := ng_p hF
            have hF := ng_x hF
            refine nx_iald S0 hK hP 4 (v := o16 o37.toNatClampNeg) rfl hg rfl dX8_next_68 ?_
            refine lv_iadd hx hb dX8_next_69 ?_
            exact B_70 (o59 + (o16 o37.toNatClampNeg)) hF _ _ _ hP hD hS (lv_sub hl [1, 2, 3, 0] rfl)
          · have hF := ng_t hc hF
            refine lv_sipush (v := (nI 9999)) hx hb dX8_next_49 (by decide) ?_
            refine lv_goto (tgt := 70) hx hb dX8_next_52 (by decide) ?_
            exact B_70 (nI 9999) hF _ _ _ hP hD hS (lv_sub hl [1, 2, 3, 0] rfl)
    refine lv_istore_n (lv' := [(3, .int (nI 0)), (2, .int (-4 : Int32)), (1, .int o1.1), (0, .ref q_th)]) hx hb dX8_next_23 rfl hl (by decide) rfl (fun ls hl => ?_)
    exact B_24 N (-4 : Int32) (nI 0) hF _ _ _ hP hD hS (lv_sub hl [3, 1, 0] rfl)
  · have hF := ng_t hc hF
    refine lv_bipush (v := (-4 : Int32)) hx hb dX8_next_11 (by decide) ?_
    exact hret (-4 : Int32) o1.2 th_to _ _ _ _ hF dX8_next_13 hP hD hS
theorem hdX8_dampOf : yX8_dampOf.cls ≠ "java/lang/invoke/MethodHandle" ∧ yX8_dampOf.cls ≠ "java/lang/invoke/VarHandle" ∧ (parseMethodDescriptor yX8_dampOf.desc).map (fun d => d.parameters.length) = some 1 := by decide +kernel
set_option maxHeartbeats 40000000 in
set_option maxRecDepth 100000 in
theorem kX8_dampOf (l : Launch) (dC : Nat → ClassId) (dI : Nat → Nat → Nat) (cI : ClassId) (q_th : Nat) (q_th_told : Nat) (sz : Nat) (x_th_now : Value) (x_th_text : Value) (th_letters : Int32) (th_at : Int32) (x_th_read : Value) (th_isMore : Int32) (th_told0 : Int32) (x_th_from : Value) (x_th_to : Value) (x_th_undone : Value) (th_undos : Int32) (x_th_aside : Value) (th_beganOn : Int32) (th_beganIn : Int32) (th_first : Int32) (th_second : Int32) (x_th_seenCell : Value) (x_th_seenNight : Value) (th_seens : Int32) (th_above : Int32) (th_below : Int32) (x_th_kept : Value) (th_keeps : Int32) (th_told : Nat → Int32) (p1 : Int32) (N : Nat) (o : Int32) (hF : fX8_dampOf N p1 th_told = some o) : nx_I l yX8_dampOf wsX8_dampOf ({ frames := 0, cells := 0, slots := 0, locals := 0 } : Room) (dC, dI) cI [.ref q_th, .int p1] [(q_th, .inr (8, [.ref q_th_told, x_th_now, x_th_text, .int th_letters, .int th_at, x_th_read, .int th_isMore, .int th_told0, x_th_from, x_th_to, x_th_undone, .int th_undos, x_th_aside, .int th_beganOn, .int th_beganIn, .int th_first, .int th_second, x_th_seenCell, x_th_seenNight, .int th_seens, .int th_above, .int th_below, x_th_kept, .int th_keeps])), (q_th_told, .inl (cI, 54, .inl th_told))] sz o [(q_th, .inr (8, [.ref q_th_told, x_th_now, x_th_text, .int th_letters, .int th_at, x_th_read, .int th_isMore, .int th_told0, x_th_from, x_th_to, x_th_undone, .int th_undos, x_th_aside, .int th_beganOn, .int th_beganIn, .int th_first, .int th_second, x_th_seenCell, x_th_seenNight, .int th_seens, .int th_above, .int th_below, x_th_kept, .int th_keeps])), (q_th_told, .inl (cI, 54, .inl th_told))] := by
  refine nx_int (cc := cX8_dampOf) (maxL := 3) (by decide) rfl (Nat.le_of_ble_eq_true rfl) ?_
  intro p e s m args below meth c Q A S0 hK hN hA ret0 hP hD hS ls hl
  have S0 : CallFix p m c cX8_dampOf 3 s args wsX8_dampOf RX8 := S0
  have hx := S0.1
  have hb := S0.2.1
  have hown := S0.2.2.2.1
  have hts := S0.2.2.2.2
  have hf_7 := hts (.fieldLink RX8 7 "SnailsYearModel" "told" "[I") (by decide +kernel)
  have hin_X8 : ∀ w ∈ wsX80, w ∈ wsX8_dampOf := by decide +kernel
  have hl : lv_has ls 3 [(0, .ref q_th), (1, .int p1)] := hl
  have hret : ∀ (r0 : Int32) (H : Heap) (locs : List Loc) (ls : Array Slot) (pc : Nat), some r0 = some o → decode cX8_dampOf pc = .ok (.ireturn, 1) → va_P (dC, dI) vwCl [(q_th, .inr (8, [.ref q_th_told, x_th_now, x_th_text, .int th_letters, .int th_at, x_th_read, .int th_isMore, .int th_told0, x_th_from, x_th_to, x_th_undone, .int th_undos, x_th_aside, .int th_beganOn, .int th_beganIn, .int th_first, .int th_second, x_th_seenCell, x_th_seenNight, .int th_seens, .int th_above, .int th_below, x_th_kept, .int th_keeps])), (q_th_told, .inl (cI, 54, .inl th_told))] H → va_D A [(q_th, .inr (8, [.ref q_th_told, x_th_now, x_th_text, .int th_letters, .int th_at, x_th_read, .int th_isMore, .int th_told0, x_th_from, x_th_to, x_th_undone, .int th_undos, x_th_aside, .int th_beganOn, .int th_beganIn, .int th_first, .int th_second, x_th_seenCell, x_th_seenNight, .int th_seens, .int th_above, .int th_below, x_th_kept, .int th_keeps])), (q_th_told, .inl (cI, 54, .inl th_told))] → va_S A s.heap H locs → W p l e ({ frames := 0, cells := 0, slots := 0, locals := 0 } : Room) s m args below meth c H locs 0 0 Q (F0 m pc ls [.int r0]) := by
    intro r0 H locs ls pc ho hd hP hD hS
    cases ho
    exact ret0 H locs ls pc hd hP hD hS
  rw [fX8_dampOf_e] at hF
  refine lv_aload_n hx hb dX8_dampOf_0 rfl (lv_at hl 0 rfl) ?_
  refine nx_get S0 hK hP 0 0 hin_X8 hf_7 rfl rfl (by decide) rfl rfl dX8_dampOf_1 ?_
  refine lv_iconst (v := (nI 3)) hx hb dX8_dampOf_4 (by decide) ?_
  refine nx_iald S0 hK hP 1 (v := th_told 3) rfl (by decide) rfl dX8_dampOf_5 ?_
  refine lv_istore_n (lv' := [(2, .int (th_told 3)), (0, .ref q_th), (1, .int p1)]) hx hb dX8_dampOf_6 rfl hl (by decide) rfl (fun ls hl => ?_)
  refine lv_iload_n hx hb dX8_dampOf_7 rfl (lv_at hl 0 rfl) ?_
  refine lv_if_ne (tgt := 15) hx hb dX8_dampOf_8 (by decide) (fun hc => ?_) (fun hc => ?_)
  · have hF := ng_f hc hF
    refine lv_aload_n hx hb dX8_dampOf_15 rfl (lv_at hl 1 rfl) ?_
    refine nx_get S0 hK hP 0 0 hin_X8 hf_7 rfl rfl (by decide) rfl rfl dX8_dampOf_16 ?_
    refine lv_iconst (v := (nI 4)) hx hb dX8_dampOf_19 (by decide) ?_
    refine lv_iload_n hx hb dX8_dampOf_20 rfl (lv_at hl 2 rfl) ?_
    refine lv_iload_n hx hb dX8_dampOf_21 rfl (lv_at hl 0 rfl) ?_
    have hg := ng_p hF
    have hF := ng_x hF
    refine lv_irem hx hb dX8_dampOf_22 hg ?_
    refine lv_iadd hx hb dX8_dampOf_23 ?_
    have hg := ng_p hF
    have hF := ng_x hF
    refine nx_iald S0 hK hP 1 (v := th_told (((nI 4) + (p1 - p1 / (th_told 3) * (th_told 3))).toNatClampNeg)) rfl hg rfl dX8_dampOf_24 ?_
    exact hret (th_told (((nI 4) + (p1 - p1 / (th_told 3) * (th_told 3))).toNatClampNeg)) _ _ _ _ hF dX8_dampOf_25 hP hD hS
  · have hF := ng_t hc hF
    refine lv_iconst (v := (nI 3)) hx hb dX8_dampOf_11 (by decide) ?_
    refine lv_goto (tgt := 25) hx hb dX8_dampOf_12 (by decide) ?_
    exact hret (nI 3) _ _ _ _ hF dX8_dampOf_25 hP hD hS
theorem hdX8_goesBy : yX8_goesBy.cls ≠ "java/lang/invoke/MethodHandle" ∧ yX8_goesBy.cls ≠ "java/lang/invoke/VarHandle" ∧ (parseMethodDescriptor yX8_goesBy.desc).map (fun d => d.parameters.length) = some 1 := by decide +kernel
set_option maxHeartbeats 40000000 in
set_option maxRecDepth 100000 in
theorem kX8_goesBy (l : Launch) (dC : Nat → ClassId) (dI : Nat → Nat → Nat) (cI : ClassId) (q_th : Nat) (q_th_now : Nat) (q_th_told : Nat) (q_th_from : Nat) (q_th_to : Nat) (sz : Nat) (x_th_text : Value) (th_letters : Int32) (th_at : Int32) (x_th_read : Value) (th_isMore : Int32) (th_told0 : Int32) (x_th_undone : Value) (th_undos : Int32) (x_th_aside : Value) (th_beganOn : Int32) (th_beganIn : Int32) (th_first : Int32) (th_second : Int32) (x_th_seenCell : Value) (x_th_seenNight : Value) (th_seens : Int32) (th_above : Int32) (th_below : Int32) (x_th_kept : Value) (th_keeps : Int32) (th_now : Nat → Int32) (th_told : Nat → Int32) (th_from : Nat → Int32) (th_to : Nat → Int32) (p1 : Int32) (N : Nat) (o : Int32 × (Nat → Int32) × (Nat → Int32) × (Nat → Int32)) (hF : fX8_goesBy N p1 th_now th_told th_from th_to = some o) : nx_I l yX8_goesBy wsX8_goesBy ({ frames := 5, cells := 0, slots := 0, locals := 117 } : Room) (dC, dI) cI [.ref q_th, .int p1] [(q_th, .inr (8, [.ref q_th_told, .ref q_th_now, x_th_text, .int th_letters, .int th_at, x_th_read, .int th_isMore, .int th_told0, .ref q_th_from, .ref q_th_to, x_th_undone, .int th_undos, x_th_aside, .int th_beganOn, .int th_beganIn, .int th_first, .int th_second, x_th_seenCell, x_th_seenNight, .int th_seens, .int th_above, .int th_below, x_th_kept, .int th_keeps])), (q_th_now, .inl (cI, 28, .inl th_now)), (q_th_told, .inl (cI, 54, .inl th_told)), (q_th_from, .inl (cI, 25, .inl th_from)), (q_th_to, .inl (cI, 25, .inl th_to))] sz o.1 [(q_th, .inr (8, [.ref q_th_told, .ref q_th_now, x_th_text, .int th_letters, .int th_at, x_th_read, .int th_isMore, .int th_told0, .ref q_th_from, .ref q_th_to, x_th_undone, .int th_undos, x_th_aside, .int th_beganOn, .int th_beganIn, .int th_first, .int th_second, x_th_seenCell, x_th_seenNight, .int th_seens, .int th_above, .int th_below, x_th_kept, .int th_keeps])), (q_th_now, .inl (cI, 28, .inl o.2.1)), (q_th_told, .inl (cI, 54, .inl th_told)), (q_th_from, .inl (cI, 25, .inl o.2.2.1)), (q_th_to, .inl (cI, 25, .inl o.2.2.2))] := by
  refine nx_zint (cc := cX8_goesBy) (maxL := 8) (by decide) rfl (Nat.le_of_ble_eq_true rfl) ?_
  intro p e s m args below meth c Q A S0 hK hN hA ret0 hP hD hS ls hl
  have S0 : CallFix p m c cX8_goesBy 8 s args wsX8_goesBy RX8 := S0
  have hx := S0.1
  have hb := S0.2.1
  have hown := S0.2.2.2.1
  have hts := S0.2.2.2.2
  have hf_13 := hts (.fieldLink RX8 13 "SnailsYearModel" "now" "[I") (by decide +kernel)
  have hin_X8 : ∀ w ∈ wsX80, w ∈ wsX8_goesBy := by decide +kernel
  have hf_7 := hts (.fieldLink RX8 7 "SnailsYearModel" "told" "[I") (by decide +kernel)
  have hl : lv_has ls 8 [(0, .ref q_th), (1, .int p1)] := hl
  have hret : ∀ (r0 : Int32) (y0 : Nat → Int32) (y1 : Nat → Int32) (y2 : Nat → Int32) (H : Heap) (locs : List Loc) (ls : Array Slot) (pc : Nat), (r0 = 0 ∨ r0 = 1) → some (r0, y0, y1, y2) = some o → decode cX8_goesBy pc = .ok (.ireturn, 1) → va_P (dC, dI) vwCl [(q_th, .inr (8, [.ref q_th_told, .ref q_th_now, x_th_text, .int th_letters, .int th_at, x_th_read, .int th_isMore, .int th_told0, .ref q_th_from, .ref q_th_to, x_th_undone, .int th_undos, x_th_aside, .int th_beganOn, .int th_beganIn, .int th_first, .int th_second, x_th_seenCell, x_th_seenNight, .int th_seens, .int th_above, .int th_below, x_th_kept, .int th_keeps])), (q_th_now, .inl (cI, 28, .inl y0)), (q_th_told, .inl (cI, 54, .inl th_told)), (q_th_from, .inl (cI, 25, .inl y1)), (q_th_to, .inl (cI, 25, .inl y2))] H → va_D A [(q_th, .inr (8, [.ref q_th_told, .ref q_th_now, x_th_text, .int th_letters, .int th_at, x_th_read, .int th_isMore, .int th_told0, .ref q_th_from, .ref q_th_to, x_th_undone, .int th_undos, x_th_aside, .int th_beganOn, .int th_beganIn, .int th_first, .int th_second, x_th_seenCell, x_th_seenNight, .int th_seens, .int th_above, .int th_below, x_th_kept, .int th_keeps])), (q_th_now, .inl (cI, 28, .inl y0)), (q_th_told, .inl (cI, 54, .inl th_told)), (q_th_from, .inl (cI, 25, .inl y1)), (q_th_to, .inl (cI, 25, .inl y2))] → va_S A s.heap H locs → W p l e ({ frames := 5, cells := 0, slots := 0, locals := 117 } : Room) s m args below meth c H locs 0 0 Q (F0 m pc ls [.int r0]) := by
    intro r0 y0 y1 y2 H locs ls pc hz ho hd hP hD hS
    cases ho
    exact ret0 H locs ls pc hz hd hP hD hS
  rw [fX8_goesBy_e] at hF
  refine lv_iload_n hx hb dX8_goesBy_0 rfl (lv_at hl 1 rfl) ?_
  refine lv_istore_n (lv' := [(2, .int p1), (0, .ref q_th), (1, .int p1)]) hx hb dX8_goesBy_1 rfl hl (by decide) rfl (fun ls hl => ?_)
  refine lv_iconst (v := (nI 0)) hx hb dX8_goesBy_2 (by decide) ?_
  refine lv_istore_n (lv' := [(3, .int (nI 0)), (2, .int p1), (0, .ref q_th), (1, .int p1)]) hx hb dX8_goesBy_3 rfl hl (by decide) rfl (fun ls hl => ?_)
  refine lv_aload_n hx hb dX8_goesBy_4 rfl (lv_at hl 2 rfl) ?_
  refine nx_get S0 hK hP 0 1 hin_X8 hf_13 rfl rfl (by decide) rfl rfl dX8_goesBy_5 ?_
  refine lv_iconst (v := (nI 2)) hx hb dX8_goesBy_8 (by decide) ?_
  refine nx_iald S0 hK hP 1 (v := th_now 2) rfl (by decide) rfl dX8_goesBy_9 ?_
  have B_18 : ∀ (s0_18 : Int32), fX8_goesBy_18 N p1 th_now th_told th_from th_to s0_18 = some o → ∀ (H : Heap) (locs : List Loc) (ls : Array Slot), va_P (dC, dI) vwCl [(q_th, .inr (8, [.ref q_th_told, .ref q_th_now, x_th_text, .int th_letters, .int th_at, x_th_read, .int th_isMore, .int th_told0, .ref q_th_from, .ref q_th_to, x_th_undone, .int th_undos, x_th_aside, .int th_beganOn, .int th_beganIn, .int th_first, .int th_second, x_th_seenCell, x_th_seenNight, .int th_seens, .int th_above, .int th_below, x_th_kept, .int th_keeps])), (q_th_now, .inl (cI, 28, .inl th_now)), (q_th_told, .inl (cI, 54, .inl th_told)), (q_th_from, .inl (cI, 25, .inl th_from)), (q_th_to, .inl (cI, 25, .inl th_to))] H → va_D A [(q_th, .inr (8, [.ref q_th_told, .ref q_th_now, x_th_text, .int th_letters, .int th_at, x_th_read, .int th_isMore, .int th_told0, .ref q_th_from, .ref q_th_to, x_th_undone, .int th_undos, x_th_aside, .int th_beganOn, .int th_beganIn, .int th_first, .int th_second, x_th_seenCell, x_th_seenNight, .int th_seens, .int th_above, .int th_below, x_th_kept, .int th_keeps])), (q_th_now, .inl (cI, 28, .inl th_now)), (q_th_told, .inl (cI, 54, .inl th_told)), (q_th_from, .inl (cI, 25, .inl th_from)), (q_th_to, .inl (cI, 25, .inl th_to))] → va_S A s.heap H locs → lv_has ls 8 [(0, .ref q_th), (1, .int p1), (2, .int p1), (3, .int (nI 0))] → W p l e ({ frames := 5, cells := 0, slots := 0, locals := 117 } : Room) s m args below meth c H locs 0 0 Q (F0 m 18 ls [.int s0_18]) := by
    intro s0_18 hF H locs ls hP hD hS hl
    rw [fX8_goesBy_18_e] at hF
    refine lv_istore (lv' := [(4, .int s0_18), (0, .ref q_th), (1, .int p1), (2, .int p1), (3, .int (nI 0))]) hx hb dX8_goesBy_18 hl (by decide) rfl (fun ls hl => ?_)
    refine lv_iconst (v := (nI 1)) hx hb dX8_goesBy_20 (by decide) ?_
    have B_23 : ∀ (n_23 : Nat) (v2_23 : Int32) (v3_23 : Int32) (v4_23 : Int32) (v5_23 : Int32) (th_now_23 : Nat → Int32) (th_from_23 : Nat → Int32) (th_to_23 : Nat → Int32), fX8_goesBy_23 N p1 th_told n_23 v2_23 v3_23 v4_23 v5_23 th_now_23 th_from_23 th_to_23 = some o → ∀ (H : Heap) (locs : List Loc) (ls : Array Slot), va_P (dC, dI) vwCl [(q_th, .inr (8, [.ref q_th_told, .ref q_th_now, x_th_text, .int th_letters, .int th_at, x_th_read, .int th_isMore, .int th_told0, .ref q_th_from, .ref q_th_to, x_th_undone, .int th_undos, x_th_aside, .int th_beganOn, .int th_beganIn, .int th_first, .int th_second, x_th_seenCell, x_th_seenNight, .int th_seens, .int th_above, .int th_below, x_th_kept, .int th_keeps])), (q_th_now, .inl (cI, 28, .inl th_now_23)), (q_th_told, .inl (cI, 54, .inl th_told)), (q_th_from, .inl (cI, 25, .inl th_from_23)), (q_th_to, .inl (cI, 25, .inl th_to_23))] H → va_D A [(q_th, .inr (8, [.ref q_th_told, .ref q_th_now, x_th_text, .int th_letters, .int th_at, x_th_read, .int th_isMore, .int th_told0, .ref q_th_from, .ref q_th_to, x_th_undone, .int th_undos, x_th_aside, .int th_beganOn, .int th_beganIn, .int th_first, .int th_second, x_th_seenCell, x_th_seenNight, .int th_seens, .int th_above, .int th_below, x_th_kept, .int th_keeps])), (q_th_now, .inl (cI, 28, .inl th_now_23)), (q_th_told, .inl (cI, 54, .inl th_told)), (q_th_from, .inl (cI, 25, .inl th_from_23)), (q_th_to, .inl (cI, 25, .inl th_to_23))] → va_S A s.heap H locs → lv_has ls 8 [(0, .ref q_th), (1, .int p1), (2, .int v2_23), (3, .int v3_23), (4, .int v4_23), (5, .int v5_23)] → W p l e ({ frames := 5, cells := 0, slots := 0, locals := 117 } : Room) s m args below meth c H locs 0 0 Q (F0 m 23 ls []) := by
      intro n_23
      induction n_23 with
      | zero =>
        intro v2_23 v3_23 v4_23 v5_23 th_now_23 th_from_23 th_to_23 hF
        rw [fX8_goesBy_23_z] at hF
        cases hF
      | succ n_23 ih_23 =>
        intro v2_23 v3_23 v4_23 v5_23 th_now_23 th_from_23 th_to_23 hF H locs ls hP hD hS hl
        rw [fX8_goesBy_23_s] at hF
        refine lv_iload hx hb dX8_goesBy_23 (lv_at hl 4 rfl) ?_
        refine lv_if_eq (tgt := 203) hx hb dX8_goesBy_25 (by decide) (fun hc => ?_) (fun hc => ?_)
        · have hF := ng_t hc hF
          refine lv_aload_n hx hb dX8_goesBy_203 rfl (lv_at hl 0 rfl) ?_
          refine nx_get S0 hK hP 0 1 hin_X8 hf_13 rfl rfl (by decide) rfl rfl dX8_goesBy_204 ?_
          refine lv_iconst (v := (nI 0)) hx hb dX8_goesBy_207 (by decide) ?_
          refine lv_dup2_11 hx hb dX8_goesBy_208 rfl rfl ?_
          refine nx_iald S0 hK hP 1 (v := th_now_23 0) rfl (by decide) rfl dX8_goesBy_209 ?_
          refine lv_iconst (v := (nI 1)) hx hb dX8_goesBy_210 (by decide) ?_
          refine lv_iadd hx hb dX8_goesBy_211 ?_
          refine nx_iast S0 hK hP hD hS 1 rfl (by decide) dX8_goesBy_212 (W1 := [(q_th, .inr (8, [.ref q_th_told, .ref q_th_now, x_th_text, .int th_letters, .int th_at, x_th_read, .int th_isMore, .int th_told0, .ref q_th_from, .ref q_th_to, x_th_undone, .int th_undos, x_th_aside, .int th_beganOn, .int th_beganIn, .int th_first, .int th_second, x_th_seenCell, x_th_seenNight, .int th_seens, .int th_above, .int th_below, x_th_kept, .int th_keeps])), (q_th_now, .inl (cI, 28, .inl (upd th_now_23 0 ((th_now_23 0) + (nI 1))))), (q_th_told, .inl (cI, 54, .inl th_told)), (q_th_from, .inl (cI, 25, .inl th_from_23)), (q_th_to, .inl (cI, 25, .inl th_to_23))]) rfl (fun H locs hP hD hS => ?_)
          refine lv_iload_n hx hb dX8_goesBy_213 rfl (lv_at hl 3 rfl) ?_
          have hg := ng_p hF
          have hF := ng_x hF
          exact hret v3_23 (upd th_now_23 0 ((th_now_23 0) + (nI 1))) th_from_23 th_to_23 _ _ _ _ hg hF dX8_goesBy_214 hP hD hS
        · have hF := ng_f hc hF
          refine lv_aload_n hx hb dX8_goesBy_28 rfl (lv_at hl 0 rfl) ?_
          obtain ⟨o29, hF1, hF⟩ := ng_b hF
          refine nx_callVi (As := []) (rest := []) (W1 := [(q_th, .inr (8, [.ref q_th_told, .ref q_th_now, x_th_text, .int th_letters, .int th_at, x_th_read, .int th_isMore, .int th_told0, .ref q_th_from, .ref q_th_to, x_th_undone, .int th_undos, x_th_aside, .int th_beganOn, .int th_beganIn, .int th_first, .int th_second, x_th_seenCell, x_th_seenNight, .int th_seens, .int th_above, .int th_below, x_th_kept, .int th_keeps])), (q_th_now, .inl (cI, 28, .inl th_now_23)), (q_th_told, .inl (cI, 54, .inl th_told)), (q_th_from, .inl (cI, 25, .inl o29.2.1)), (q_th_to, .inl (cI, 25, .inl o29.2.2))]) (wr := []) S0 hK hN hA hP hD hS (kX8_next l dC dI cI q_th q_th_told q_th_from q_th_now q_th_to _ (x_th_text) th_letters th_at (x_th_read) th_isMore th_told0 (x_th_undone) th_undos (x_th_aside) th_beganOn th_beganIn th_first th_second (x_th_seenCell) (x_th_seenNight) th_seens th_above th_below (x_th_kept) th_keeps th_told th_from_23 th_now_23 th_to_23 N o29 hF1) (cwV 0 hts gX8_goesBy_X8_next rfl rfl rfl ⟨rfl, hdX8_next⟩ ⟨Nat.le_of_ble_eq_true rfl, Nat.le_of_ble_eq_true rfl⟩) [0, 2, 3, 1, 4] [] [0, 3, 1, 2, 4] rfl rfl rfl rfl 0 8 rfl rfl rfl rfl hl.1 rfl (Nat.le_of_ble_eq_true rfl) dX8_goesBy_29 (fun H locs hP hD hS => ?_)
          refine lv_istore (lv' := [(6, .int o29.1), (0, .ref q_th), (1, .int p1), (2, .int v2_23), (3, .int v3_23), (4, .int v4_23), (5, .int v5_23)]) hx hb dX8_goesBy_32 hl (by decide) rfl (fun ls hl => ?_)
          refine lv_iload hx hb dX8_goesBy_34 (lv_at hl 0 rfl) ?_
          refine lv_bipush (v := (-4 : Int32)) hx hb dX8_goesBy_36 (by decide) ?_
          have B_63 : ∀ (s0_63 : Int32), fX8_goesBy_63 N th_told v2_23 v5_23 th_now_23 o29 s0_63 (fX8_goesBy_23 N p1 th_told n_23) = some o → ∀ (H : Heap) (locs : List Loc) (ls : Array Slot), va_P (dC, dI) vwCl [(q_th, .inr (8, [.ref q_th_told, .ref q_th_now, x_th_text, .int th_letters, .int th_at, x_th_read, .int th_isMore, .int th_told0, .ref q_th_from, .ref q_th_to, x_th_undone, .int th_undos, x_th_aside, .int th_beganOn, .int th_beganIn, .int th_first, .int th_second, x_th_seenCell, x_th_seenNight, .int th_seens, .int th_above, .int th_below, x_th_kept, .int th_keeps])), (q_th_now, .inl (cI, 28, .inl th_now_23)), (q_th_told, .inl (cI, 54, .inl th_told)), (q_th_from, .inl (cI, 25, .inl o29.2.1)), (q_th_to, .inl (cI, 25, .inl o29.2.2))] H → va_D A [(q_th, .inr (8, [.ref q_th_told, .ref q_th_now, x_th_text, .int th_letters, .int th_at, x_th_read, .int th_isMore, .int th_told0, .ref q_th_from, .ref q_th_to, x_th_undone, .int th_undos, x_th_aside, .int th_beganOn, .int th_beganIn, .int th_first, .int th_second, x_th_seenCell, x_th_seenNight, .int th_seens, .int th_above, .int th_below, x_th_kept, .int th_keeps])), (q_th_now, .inl (cI, 28, .inl th_now_23)), (q_th_told, .inl (cI, 54, .inl th_told)), (q_th_from, .inl (cI, 25, .inl o29.2.1)), (q_th_to, .inl (cI, 25, .inl o29.2.2))] → va_S A s.heap H locs → lv_has ls 8 [(0, .ref q_th), (1, .int p1), (2, .int v2_23), (5, .int v5_23), (6, .int o29.1)] → W p l e ({ frames := 5, cells := 0, slots := 0, locals := 117 } : Room) s m args below meth c H locs 0 0 Q (F0 m 63 ls [.int s0_63]) := by
            intro s0_63 hF H locs ls hP hD hS hl
            rw [fX8_goesBy_63_e] at hF
            refine lv_istore (lv' := [(7, .int s0_63), (0, .ref q_th), (1, .int p1), (2, .int v2_23), (5, .int v5_23), (6, .int o29.1)]) hx hb dX8_goesBy_63 hl (by decide) rfl (fun ls hl => ?_)
            refine lv_iload hx hb dX8_goesBy_65 (lv_at hl 4 rfl) ?_
            have B_88 : ∀ (s0_88 : Int32), fX8_goesBy_88 N th_told v2_23 th_now_23 o29 s0_63 s0_88 (fX8_goesBy_23 N p1 th_told n_23) = some o → ∀ (H : Heap) (locs : List Loc) (ls : Array Slot), va_P (dC, dI) vwCl [(q_th, .inr (8, [.ref q_th_told, .ref q_th_now, x_th_text, .int th_letters, .int th_at, x_th_read, .int th_isMore, .int th_told0, .ref q_th_from, .ref q_th_to, x_th_undone, .int th_undos, x_th_aside, .int th_beganOn, .int th_beganIn, .int th_first, .int th_second, x_th_seenCell, x_th_seenNight, .int th_seens, .int th_above, .int th_below, x_th_kept, .int th_keeps])), (q_th_now, .inl (cI, 28, .inl th_now_23)), (q_th_told, .inl (cI, 54, .inl th_told)), (q_th_from, .inl (cI, 25, .inl o29.2.1)), (q_th_to, .inl (cI, 25, .inl o29.2.2))] H → va_D A [(q_th, .inr (8, [.ref q_th_told, .ref q_th_now, x_th_text, .int th_letters, .int th_at, x_th_read, .int th_isMore, .int th_told0, .ref q_th_from, .ref q_th_to, x_th_undone, .int th_undos, x_th_aside, .int th_beganOn, .int th_beganIn, .int th_first, .int th_second, x_th_seenCell, x_th_seenNight, .int th_seens, .int th_above, .int th_below, x_th_kept, .int th_keeps])), (q_th_now, .inl (cI, 28, .inl th_now_23)), (q_th_told, .inl (cI, 54, .inl th_told)), (q_th_from, .inl (cI, 25, .inl o29.2.1)), (q_th_to, .inl (cI, 25, .inl o29.2.2))] → va_S A s.heap H locs → lv_has ls 8 [(0, .ref q_th), (1, .int p1), (2, .int v2_23), (6, .int o29.1), (7, .int s0_63)] → W p l e ({ frames := 5, cells := 0, slots := 0, locals := 117 } : Room) s m args below meth c H locs 0 0 Q (F0 m 88 ls [.int s0_88]) := by
              intro s0_88 hF H locs ls hP hD hS hl
              rw [fX8_goesBy_88_e] at hF
              refine lv_istore_n (lv' := [(3, .int s0_88), (0, .ref q_th), (1, .int p1), (2, .int v2_23), (6, .int o29.1), (7, .int s0_63)]) hx hb dX8_goesBy_88 rfl hl (by decide) rfl (fun ls hl => ?_)
              refine lv_iload hx hb dX8_goesBy_89 (lv_at hl 5 rfl) ?_
              refine lv_iload_n hx hb dX8_goesBy_91 rfl (lv_at hl 3 rfl) ?_
              have B_100 : ∀ (s0_100 : Int32), fX8_goesBy_100 N th_told v2_23 th_now_23 o29 s0_63 s0_88 s0_100 (fX8_goesBy_23 N p1 th_told n_23) = some o → ∀ (H : Heap) (locs : List Loc) (ls : Array Slot), va_P (dC, dI) vwCl [(q_th, .inr (8, [.ref q_th_told, .ref q_th_now, x_th_text, .int th_letters, .int th_at, x_th_read, .int th_isMore, .int th_told0, .ref q_th_from, .ref q_th_to, x_th_undone, .int th_undos, x_th_aside, .int th_beganOn, .int th_beganIn, .int th_first, .int th_second, x_th_seenCell, x_th_seenNight, .int th_seens, .int th_above, .int th_below, x_th_kept, .int th_keeps])), (q_th_now, .inl (cI, 28, .inl th_now_23)), (q_th_told, .inl (cI, 54, .inl th_told)), (q_th_from, .inl (cI, 25, .inl o29.2.1)), (q_th_to, .inl (cI, 25, .inl o29.2.2))] H → va_D A [(q_th, .inr (8, [.ref q_th_told, .ref q_th_now, x_th_text, .int th_letters, .int th_at, x_th_read, .int th_isMore, .int th_told0, .ref q_th_from, .ref q_th_to, x_th_undone, .int th_undos, x_th_aside, .int th_beganOn, .int th_beganIn, .int th_first, .int th_second, x_th_seenCell, x_th_seenNight, .int th_seens, .int th_above, .int th_below, x_th_kept, .int th_keeps])), (q_th_now, .inl (cI, 28, .inl th_now_23)), (q_th_told, .inl (cI, 54, .inl th_told)), (q_th_from, .inl (cI, 25, .inl o29.2.1)), (q_th_to, .inl (cI, 25, .inl o29.2.2))] → va_S A s.heap H locs → lv_has ls 8 [(0, .ref q_th), (1, .int p1), (2, .int v2_23), (3, .int s0_88), (6, .int o29.1), (7, .int s0_63)] → W p l e ({ frames := 5, cells := 0, slots := 0, locals := 117 } : Room) s m args below meth c H locs 0 0 Q (F0 m 100 ls [.int s0_100]) := by
                intro s0_100 hF H locs ls hP hD hS hl
                rw [fX8_goesBy_100_e] at hF
                refine lv_istore (lv' := [(4, .int s0_100), (0, .ref q_th), (1, .int p1), (2, .int v2_23), (3, .int s0_88), (6, .int o29.1), (7, .int s0_63)]) hx hb dX8_goesBy_100 hl (by decide) rfl (fun ls hl => ?_)
                refine lv_iload hx hb dX8_goesBy_102 (lv_at hl 0 rfl) ?_
                refine lv_if_eq (tgt := 197) hx hb dX8_goesBy_104 (by decide) (fun hc => ?_) (fun hc => ?_)
                · have hF := ng_t hc hF
                  refine lv_iconst (v := (nI 0)) hx hb dX8_goesBy_197 (by decide) ?_
                  refine lv_istore (lv' := [(5, .int (nI 0)), (4, .int s0_100), (0, .ref q_th), (1, .int p1), (2, .int v2_23), (3, .int s0_88), (6, .int o29.1), (7, .int s0_63)]) hx hb dX8_goesBy_198 hl (by decide) rfl (fun ls hl => ?_)
                  refine lv_goto (tgt := 23) hx hb dX8_goesBy_200 (by decide) ?_
                  exact ih_23 v2_23 s0_88 s0_100 (nI 0) th_now_23 o29.2.1 o29.2.2 hF _ _ _ hP hD hS (lv_sub hl [2, 3, 4, 5, 1, 0] rfl)
                · have hF := ng_f hc hF
                  refine lv_iload_n hx hb dX8_goesBy_107 rfl (lv_at hl 3 rfl) ?_
                  refine lv_iload hx hb dX8_goesBy_108 (lv_at hl 6 rfl) ?_
                  refine lv_isub hx hb dX8_goesBy_110 ?_
                  refine lv_istore_n (lv' := [(2, .int (v2_23 - s0_63)), (4, .int s0_100), (0, .ref q_th), (1, .int p1), (3, .int s0_88), (6, .int o29.1), (7, .int s0_63)]) hx hb dX8_goesBy_111 rfl hl (by decide) rfl (fun ls hl => ?_)
                  refine lv_aload_n hx hb dX8_goesBy_112 rfl (lv_at hl 2 rfl) ?_
                  refine nx_get S0 hK hP 0 1 hin_X8 hf_13 rfl rfl (by decide) rfl rfl dX8_goesBy_113 ?_
                  refine lv_iconst (v := (nI 1)) hx hb dX8_goesBy_116 (by decide) ?_
                  refine lv_iload hx hb dX8_goesBy_117 (lv_at hl 5 rfl) ?_
                  refine nx_iast S0 hK hP hD hS 1 rfl (by decide) dX8_goesBy_119 (W1 := [(q_th, .inr (8, [.ref q_th_told, .ref q_th_now, x_th_text, .int th_letters, .int th_at, x_th_read, .int th_isMore, .int th_told0, .ref q_th_from, .ref q_th_to, x_th_undone, .int th_undos, x_th_aside, .int th_beganOn, .int th_beganIn, .int th_first, .int th_second, x_th_seenCell, x_th_seenNight, .int th_seens, .int th_above, .int th_below, x_th_kept, .int th_keeps])), (q_th_now, .inl (cI, 28, .inl (upd th_now_23 1 o29.1))), (q_th_told, .inl (cI, 54, .inl th_told)), (q_th_from, .inl (cI, 25, .inl o29.2.1)), (q_th_to, .inl (cI, 25, .inl o29.2.2))]) rfl (fun H locs hP hD hS => ?_)
                  refine lv_aload_n hx hb dX8_goesBy_120 rfl (lv_at hl 2 rfl) ?_
                  refine lv_iload hx hb dX8_goesBy_121 (lv_at hl 5 rfl) ?_
                  obtain ⟨o123, hF1, hF⟩ := ng_b hF
                  refine nx_callVi (As := [.int o29.1]) (rest := []) (W1 := [(q_th, .inr (8, [.ref q_th_told, .ref q_th_now, x_th_text, .int th_letters, .int th_at, x_th_read, .int th_isMore, .int th_told0, .ref q_th_from, .ref q_th_to, x_th_undone, .int th_undos, x_th_aside, .int th_beganOn, .int th_beganIn, .int th_first, .int th_second, x_th_seenCell, x_th_seenNight, .int th_seens, .int th_above, .int th_below, x_th_kept, .int th_keeps])), (q_th_now, .inl (cI, 28, .inl (upd th_now_23 1 o29.1))), (q_th_told, .inl (cI, 54, .inl th_told)), (q_th_from, .inl (cI, 25, .inl o29.2.1)), (q_th_to, .inl (cI, 25, .inl o29.2.2))]) (wr := [(q_th_told, .inl (cI, 54, .inl th_told)), (q_th_from, .inl (cI, 25, .inl o29.2.1)), (q_th_to, .inl (cI, 25, .inl o29.2.2))]) S0 hK hN hA hP hD hS (kX8_kind l dC dI cI q_th q_th_now _ (.ref q_th_told) (x_th_text) th_letters th_at (x_th_read) th_isMore th_told0 (.ref q_th_from) (.ref q_th_to) (x_th_undone) th_undos (x_th_aside) th_beganOn th_beganIn th_first th_second (x_th_seenCell) (x_th_seenNight) th_seens th_above th_below (x_th_kept) th_keeps (upd th_now_23 1 o29.1) o29.1 N o123 hF1) (cwV 1 hts gX8_goesBy_X8_kind rfl rfl rfl ⟨rfl, hdX8_kind⟩ ⟨Nat.le_of_ble_eq_true rfl, Nat.le_of_ble_eq_true rfl⟩) [0, 1] [2, 3, 4] [3, 4, 0, 1, 2] rfl rfl rfl rfl 0 8 rfl rfl rfl rfl hl.1 rfl (Nat.le_of_ble_eq_true rfl) dX8_goesBy_123 (fun H locs hP hD hS => ?_)
                  refine lv_iconst (v := (nI 3)) hx hb dX8_goesBy_126 (by decide) ?_
                  have B_135 : ∀ (s0_135 : Int32), fX8_goesBy_135 N th_told v2_23 th_now_23 o29 s0_63 s0_88 s0_135 (fX8_goesBy_23 N p1 th_told n_23) = some o → ∀ (H : Heap) (locs : List Loc) (ls : Array Slot), va_P (dC, dI) vwCl [(q_th, .inr (8, [.ref q_th_told, .ref q_th_now, x_th_text, .int th_letters, .int th_at, x_th_read, .int th_isMore, .int th_told0, .ref q_th_from, .ref q_th_to, x_th_undone, .int th_undos, x_th_aside, .int th_beganOn, .int th_beganIn, .int th_first, .int th_second, x_th_seenCell, x_th_seenNight, .int th_seens, .int th_above, .int th_below, x_th_kept, .int th_keeps])), (q_th_now, .inl (cI, 28, .inl (upd th_now_23 1 o29.1))), (q_th_told, .inl (cI, 54, .inl th_told)), (q_th_from, .inl (cI, 25, .inl o29.2.1)), (q_th_to, .inl (cI, 25, .inl o29.2.2))] H → va_D A [(q_th, .inr (8, [.ref q_th_told, .ref q_th_now, x_th_text, .int th_letters, .int th_at, x_th_read, .int th_isMore, .int th_told0, .ref q_th_from, .ref q_th_to, x_th_undone, .int th_undos, x_th_aside, .int th_beganOn, .int th_beganIn, .int th_first, .int th_second, x_th_seenCell, x_th_seenNight, .int th_seens, .int th_above, .int th_below, x_th_kept, .int th_keeps])), (q_th_now, .inl (cI, 28, .inl (upd th_now_23 1 o29.1))), (q_th_told, .inl (cI, 54, .inl th_told)), (q_th_from, .inl (cI, 25, .inl o29.2.1)), (q_th_to, .inl (cI, 25, .inl o29.2.2))] → va_S A s.heap H locs → lv_has ls 8 [(0, .ref q_th), (1, .int p1), (2, .int (v2_23 - s0_63)), (3, .int s0_88), (6, .int o29.1)] → W p l e ({ frames := 5, cells := 0, slots := 0, locals := 117 } : Room) s m args below meth c H locs 0 0 Q (F0 m 135 ls [.int s0_135]) := by
                    intro s0_135 hF H locs ls hP hD hS hl
                    rw [fX8_goesBy_135_e] at hF
                    refine lv_istore (lv' := [(4, .int s0_135), (0, .ref q_th), (1, .int p1), (2, .int (v2_23 - s0_63)), (3, .int s0_88), (6, .int o29.1)]) hx hb dX8_goesBy_135 hl (by decide) rfl (fun ls hl => ?_)
                    refine lv_aload_n hx hb dX8_goesBy_137 rfl (lv_at hl 1 rfl) ?_
                    refine nx_get S0 hK hP 0 1 hin_X8 hf_13 rfl rfl (by decide) rfl rfl dX8_goesBy_138 ?_
                    refine lv_iconst (v := (nI 3)) hx hb dX8_goesBy_141 (by decide) ?_
                    refine lv_iload hx hb dX8_goesBy_142 (lv_at hl 5 rfl) ?_
                    refine lv_iadd hx hb dX8_goesBy_144 ?_
                    refine lv_aload_n hx hb dX8_goesBy_145 rfl (lv_at hl 1 rfl) ?_
                    refine lv_iload hx hb dX8_goesBy_146 (lv_at hl 5 rfl) ?_
                    obtain ⟨o148, hF1, hF⟩ := ng_b hF
                    refine nx_callVi (As := [.int o29.1]) (rest := [.int ((nI 3) + o29.1), .ref q_th_now]) (W1 := [(q_th, .inr (8, [.ref q_th_told, .ref q_th_now, x_th_text, .int th_letters, .int th_at, x_th_read, .int th_isMore, .int th_told0, .ref q_th_from, .ref q_th_to, x_th_undone, .int th_undos, x_th_aside, .int th_beganOn, .int th_beganIn, .int th_first, .int th_second, x_th_seenCell, x_th_seenNight, .int th_seens, .int th_above, .int th_below, x_th_kept, .int th_keeps])), (q_th_now, .inl (cI, 28, .inl (upd th_now_23 1 o29.1))), (q_th_told, .inl (cI, 54, .inl th_told)), (q_th_from, .inl (cI, 25, .inl o29.2.1)), (q_th_to, .inl (cI, 25, .inl o29.2.2))]) (wr := [(q_th_told, .inl (cI, 54, .inl th_told)), (q_th_from, .inl (cI, 25, .inl o29.2.1)), (q_th_to, .inl (cI, 25, .inl o29.2.2))]) S0 hK hN hA hP hD hS (kX8_kind l dC dI cI q_th q_th_now _ (.ref q_th_told) (x_th_text) th_letters th_at (x_th_read) th_isMore th_told0 (.ref q_th_from) (.ref q_th_to) (x_th_undone) th_undos (x_th_aside) th_beganOn th_beganIn th_first th_second (x_th_seenCell) (x_th_seenNight) th_seens th_above th_below (x_th_kept) th_keeps (upd th_now_23 1 o29.1) o29.1 N o148 hF1) (cwV 1 hts gX8_goesBy_X8_kind rfl rfl rfl ⟨rfl, hdX8_kind⟩ ⟨Nat.le_of_ble_eq_true rfl, Nat.le_of_ble_eq_true rfl⟩) [0, 1] [2, 3, 4] [3, 4, 0, 1, 2] rfl rfl rfl rfl 0 8 rfl rfl rfl rfl hl.1 rfl (Nat.le_of_ble_eq_true rfl) dX8_goesBy_148 (fun H locs hP hD hS => ?_)
                    refine lv_iconst (v := (nI 3)) hx hb dX8_goesBy_151 (by decide) ?_
                    have B_165 : ∀ (s2_165 : Int32), fX8_goesBy_165 N th_told v2_23 th_now_23 o29 s0_63 s0_88 s0_135 s2_165 (fX8_goesBy_23 N p1 th_told n_23) = some o → ∀ (H : Heap) (locs : List Loc) (ls : Array Slot), va_P (dC, dI) vwCl [(q_th, .inr (8, [.ref q_th_told, .ref q_th_now, x_th_text, .int th_letters, .int th_at, x_th_read, .int th_isMore, .int th_told0, .ref q_th_from, .ref q_th_to, x_th_undone, .int th_undos, x_th_aside, .int th_beganOn, .int th_beganIn, .int th_first, .int th_second, x_th_seenCell, x_th_seenNight, .int th_seens, .int th_above, .int th_below, x_th_kept, .int th_keeps])), (q_th_now, .inl (cI, 28, .inl (upd th_now_23 1 o29.1))), (q_th_told, .inl (cI, 54, .inl th_told)), (q_th_from, .inl (cI, 25, .inl o29.2.1)), (q_th_to, .inl (cI, 25, .inl o29.2.2))] H → va_D A [(q_th, .inr (8, [.ref q_th_told, .ref q_th_now, x_th_text, .int th_letters, .int th_at, x_th_read, .int th_isMore, .int th_told0, .ref q_th_from, .ref q_th_to, x_th_undone, .int th_undos, x_th_aside, .int th_beganOn, .int th_beganIn, .int th_first, .int th_second, x_th_seenCell, x_th_seenNight, .int th_seens, .int th_above, .int th_below, x_th_kept, .int th_keeps])), (q_th_now, .inl (cI, 28, .inl (upd th_now_23 1 o29.1))), (q_th_told, .inl (cI, 54, .inl th_told)), (q_th_from, .inl (cI, 25, .inl o29.2.1)), (q_th_to, .inl (cI, 25, .inl o29.2.2))] → va_S A s.heap H locs → lv_has ls 8 [(0, .ref q_th), (1, .int p1), (2, .int (v2_23 - s0_63)), (3, .int s0_88), (4, .int s0_135), (6, .int o29.1)] → W p l e ({ frames := 5, cells := 0, slots := 0, locals := 117 } : Room) s m args below meth c H locs 0 0 Q (F0 m 165 ls [.int s2_165, .int ((nI 3) + o29.1), .ref q_th_now]) := by
                      intro s2_165 hF H locs ls hP hD hS hl
                      rw [fX8_goesBy_165_e] at hF
                      have hg := ng_p hF
                      have hF := ng_x hF
                      refine nx_iast S0 hK hP hD hS 1 rfl hg dX8_goesBy_165 (W1 := [(q_th, .inr (8, [.ref q_th_told, .ref q_th_now, x_th_text, .int th_letters, .int th_at, x_th_read, .int th_isMore, .int th_told0, .ref q_th_from, .ref q_th_to, x_th_undone, .int th_undos, x_th_aside, .int th_beganOn, .int th_beganIn, .int th_first, .int th_second, x_th_seenCell, x_th_seenNight, .int th_seens, .int th_above, .int th_below, x_th_kept, .int th_keeps])), (q_th_now, .inl (cI, 28, .inl (upd (upd th_now_23 1 o29.1) (((nI 3) + o29.1).toNatClampNeg) s2_165))), (q_th_told, .inl (cI, 54, .inl th_told)), (q_th_from, .inl (cI, 25, .inl o29.2.1)), (q_th_to, .inl (cI, 25, .inl o29.2.2))]) rfl (fun H locs hP hD hS => ?_)
                      refine lv_iload hx hb dX8_goesBy_166 (lv_at hl 5 rfl) ?_
                      refine lv_aload_n hx hb dX8_goesBy_168 rfl (lv_at hl 0 rfl) ?_
                      obtain ⟨o169, hF1, hF⟩ := ng_b hF
                      refine nx_callVi (As := []) (rest := [.int o29.1]) (W1 := [(q_th, .inr (8, [.ref q_th_told, .ref q_th_now, x_th_text, .int th_letters, .int th_at, x_th_read, .int th_isMore, .int th_told0, .ref q_th_from, .ref q_th_to, x_th_undone, .int th_undos, x_th_aside, .int th_beganOn, .int th_beganIn, .int th_first, .int th_second, x_th_seenCell, x_th_seenNight, .int th_seens, .int th_above, .int th_below, x_th_kept, .int th_keeps])), (q_th_now, .inl (cI, 28, .inl (upd (upd th_now_23 1 o29.1) (((nI 3) + o29.1).toNatClampNeg) s2_165))), (q_th_told, .inl (cI, 54, .inl th_told)), (q_th_from, .inl (cI, 25, .inl o29.2.1)), (q_th_to, .inl (cI, 25, .inl o29.2.2))]) (wr := [(q_th_now, .inl (cI, 28, .inl (upd (upd th_now_23 1 o29.1) (((nI 3) + o29.1).toNatClampNeg) s2_165))), (q_th_from, .inl (cI, 25, .inl o29.2.1)), (q_th_to, .inl (cI, 25, .inl o29.2.2))]) S0 hK hN hA hP hD hS (kX8_cells l dC dI cI q_th q_th_told _ (.ref q_th_now) (x_th_text) th_letters th_at (x_th_read) th_isMore th_told0 (.ref q_th_from) (.ref q_th_to) (x_th_undone) th_undos (x_th_aside) th_beganOn th_beganIn th_first th_second (x_th_seenCell) (x_th_seenNight) th_seens th_above th_below (x_th_kept) th_keeps th_told N o169 hF1) (cwV 0 hts gX8_goesBy_X8_cells rfl rfl rfl ⟨rfl, hdX8_cells⟩ ⟨Nat.le_of_ble_eq_true rfl, Nat.le_of_ble_eq_true rfl⟩) [0, 2] [1, 3, 4] [3, 0, 4, 1, 2] rfl rfl rfl rfl 0 8 rfl rfl rfl rfl hl.1 rfl (Nat.le_of_ble_eq_true rfl) dX8_goesBy_169 (fun H locs hP hD hS => ?_)
                      refine lv_aload_n hx hb dX8_goesBy_172 rfl (lv_at hl 0 rfl) ?_
                      refine nx_get S0 hK hP 0 0 hin_X8 hf_7 rfl rfl (by decide) rfl rfl dX8_goesBy_173 ?_
                      refine lv_iconst (v := (nI 1)) hx hb dX8_goesBy_176 (by decide) ?_
                      refine nx_iald S0 hK hP 2 (v := th_told 1) rfl (by decide) rfl dX8_goesBy_177 ?_
                      refine lv_isub hx hb dX8_goesBy_178 ?_
                      refine lv_icmp_lt (tgt := 197) hx hb dX8_goesBy_179 (by decide) (fun hc => ?_) (fun hc => ?_)
                      · have hF := ng_t hc hF
                        refine lv_iconst (v := (nI 0)) hx hb dX8_goesBy_197 (by decide) ?_
                        refine lv_istore (lv' := [(5, .int (nI 0)), (0, .ref q_th), (1, .int p1), (2, .int (v2_23 - s0_63)), (3, .int s0_88), (4, .int s0_135), (6, .int o29.1)]) hx hb dX8_goesBy_198 hl (by decide) rfl (fun ls hl => ?_)
                        refine lv_goto (tgt := 23) hx hb dX8_goesBy_200 (by decide) ?_
                        exact ih_23 (v2_23 - s0_63) s0_88 s0_135 (nI 0) (upd (upd th_now_23 1 o29.1) (((nI 3) + o29.1).toNatClampNeg) s2_165) o29.2.1 o29.2.2 hF _ _ _ hP hD hS (lv_sub hl [1, 2, 3, 4, 5, 0] rfl)
                      · have hF := ng_f hc hF
                        refine lv_aload_n hx hb dX8_goesBy_182 rfl (lv_at hl 0 rfl) ?_
                        refine nx_get S0 hK hP 0 1 hin_X8 hf_13 rfl rfl (by decide) rfl rfl dX8_goesBy_183 ?_
                        refine lv_iconst (v := (nI 2)) hx hb dX8_goesBy_186 (by decide) ?_
                        refine lv_aload_n hx hb dX8_goesBy_187 rfl (lv_at hl 0 rfl) ?_
                        refine nx_get S0 hK hP 0 1 hin_X8 hf_13 rfl rfl (by decide) rfl rfl dX8_goesBy_188 ?_
                        refine lv_iconst (v := (nI 0)) hx hb dX8_goesBy_191 (by decide) ?_
                        refine nx_iald S0 hK hP 1 (v := (upd (upd th_now_23 1 o29.1) (((nI 3) + o29.1).toNatClampNeg) s2_165) 0) rfl (by decide) rfl dX8_goesBy_192 ?_
                        refine nx_iast S0 hK hP hD hS 1 rfl (by decide) dX8_goesBy_193 (W1 := [(q_th, .inr (8, [.ref q_th_told, .ref q_th_now, x_th_text, .int th_letters, .int th_at, x_th_read, .int th_isMore, .int th_told0, .ref q_th_from, .ref q_th_to, x_th_undone, .int th_undos, x_th_aside, .int th_beganOn, .int th_beganIn, .int th_first, .int th_second, x_th_seenCell, x_th_seenNight, .int th_seens, .int th_above, .int th_below, x_th_kept, .int th_keeps])), (q_th_now, .inl (cI, 28, .inl (upd (upd (upd th_now_23 1 o29.1) (((nI 3) + o29.1).toNatClampNeg) s2_165) 2 ((upd (upd th_now_23 1 o29.1) (((nI 3) + o29.1).toNatClampNeg) s2_165) 0)))), (q_th_told, .inl (cI, 54, .inl th_told)), (q_th_from, .inl (cI, 25, .inl o29.2.1)), (q_th_to, .inl (cI, 25, .inl o29.2.2))]) rfl (fun H locs hP hD hS => ?_)
                        refine lv_iconst (v := (nI 0)) hx hb dX8_goesBy_194 (by decide) ?_
                        refine lv_istore (lv' := [(4, .int (nI 0)), (0, .ref q_th), (1, .int p1), (2, .int (v2_23 - s0_63)), (3, .int s0_88), (6, .int o29.1)]) hx hb dX8_goesBy_195 hl (by decide) rfl (fun ls hl => ?_)
                        refine lv_iconst (v := (nI 0)) hx hb dX8_goesBy_197 (by decide) ?_
                        refine lv_istore (lv' := [(5, .int (nI 0)), (4, .int (nI 0)), (0, .ref q_th), (1, .int p1), (2, .int (v2_23 - s0_63)), (3, .int s0_88), (6, .int o29.1)]) hx hb dX8_goesBy_198 hl (by decide) rfl (fun ls hl => ?_)
                        refine lv_goto (tgt := 23) hx hb dX8_goesBy_200 (by decide) ?_
                        exact ih_23 (v2_23 - s0_63) s0_88 (nI 0) (nI 0) (upd (upd (upd th_now_23 1 o29.1) (((nI 3) + o29.1).toNatClampNeg) s2_165) 2 ((upd (upd th_now_23 1 o29.1) (((nI 3) + o29.1).toNatClampNeg) s2_165) 0)) o29.2.1 o29.2.2 hF _ _ _ hP hD hS (lv_sub hl [2, 3, 4, 5, 1, 0] rfl)
                    refine lv_icmp_ne (tgt := 159) hx hb dX8_goesBy_152 (by decide) (fun hc => ?_) (fun hc => ?_)
                    · have hF := ng_f hc hF
                      refine lv_aload_n hx hb dX8_goesBy_159 rfl (lv_at hl 1 rfl) ?_
                      refine lv_iload hx hb dX8_goesBy_160 (lv_at hl 5 rfl) ?_
                      obtain ⟨o162, hF1, hF⟩ := ng_b hF
                      refine nx_callVi (As := [.int o29.1]) (rest := [.int ((nI 3) + o29.1), .ref q_th_now]) (W1 := [(q_th, .inr (8, [.ref q_th_told, .ref q_th_now, x_th_text, .int th_letters, .int th_at, x_th_read, .int th_isMore, .int th_told0, .ref q_th_from, .ref q_th_to, x_th_undone, .int th_undos, x_th_aside, .int th_beganOn, .int th_beganIn, .int th_first, .int th_second, x_th_seenCell, x_th_seenNight, .int th_seens, .int th_above, .int th_below, x_th_kept, .int th_keeps])), (q_th_now, .inl (cI, 28, .inl (upd th_now_23 1 o29.1))), (q_th_told, .inl (cI, 54, .inl th_told)), (q_th_from, .inl (cI, 25, .inl o29.2.1)), (q_th_to, .inl (cI, 25, .inl o29.2.2))]) (wr := [(q_th_told, .inl (cI, 54, .inl th_told)), (q_th_from, .inl (cI, 25, .inl o29.2.1)), (q_th_to, .inl (cI, 25, .inl o29.2.2))]) S0 hK hN hA hP hD hS (kX8_kind l dC dI cI q_th q_th_now _ (.ref q_th_told) (x_th_text) th_letters th_at (x_th_read) th_isMore th_told0 (.ref q_th_from) (.ref q_th_to) (x_th_undone) th_undos (x_th_aside) th_beganOn th_beganIn th_first th_second (x_th_seenCell) (x_th_seenNight) th_seens th_above th_below (x_th_kept) th_keeps (upd th_now_23 1 o29.1) o29.1 N o162 hF1) (cwV 1 hts gX8_goesBy_X8_kind rfl rfl rfl ⟨rfl, hdX8_kind⟩ ⟨Nat.le_of_ble_eq_true rfl, Nat.le_of_ble_eq_true rfl⟩) [0, 1] [2, 3, 4] [3, 4, 0, 1, 2] rfl rfl rfl rfl 0 8 rfl rfl rfl rfl hl.1 rfl (Nat.le_of_ble_eq_true rfl) dX8_goesBy_162 (fun H locs hP hD hS => ?_)
                      exact B_165 o162 hF _ _ _ hP hD hS (lv_sub hl [1, 2, 3, 4, 0, 5] rfl)
                    · have hF := ng_t hc hF
                      refine lv_iconst (v := (nI 0)) hx hb dX8_goesBy_155 (by decide) ?_
                      refine lv_goto (tgt := 165) hx hb dX8_goesBy_156 (by decide) ?_
                      exact B_165 (nI 0) hF _ _ _ hP hD hS (lv_sub hl [1, 2, 3, 4, 0, 5] rfl)
                  refine lv_icmp_eq (tgt := 134) hx hb dX8_goesBy_127 (by decide) (fun hc => ?_) (fun hc => ?_)
                  · have hF := ng_t hc hF
                    refine lv_iconst (v := (nI 0)) hx hb dX8_goesBy_134 (by decide) ?_
                    exact B_135 (nI 0) hF _ _ _ hP hD hS (lv_sub hl [2, 3, 0, 4, 5] rfl)
                  · have hF := ng_f hc hF
                    refine lv_iconst (v := (nI 1)) hx hb dX8_goesBy_130 (by decide) ?_
                    refine lv_goto (tgt := 135) hx hb dX8_goesBy_131 (by decide) ?_
                    exact B_135 (nI 1) hF _ _ _ hP hD hS (lv_sub hl [2, 3, 0, 4, 5] rfl)
              refine lv_icmp_gt (tgt := 99) hx hb dX8_goesBy_92 (by decide) (fun hc => ?_) (fun hc => ?_)
              · have hF := ng_t hc hF
                refine lv_iconst (v := (nI 0)) hx hb dX8_goesBy_99 (by decide) ?_
                exact B_100 (nI 0) hF _ _ _ hP hD hS (lv_sub hl [1, 2, 3, 0, 4, 5] rfl)
              · have hF := ng_f hc hF
                refine lv_iconst (v := (nI 1)) hx hb dX8_goesBy_95 (by decide) ?_
                refine lv_goto (tgt := 100) hx hb dX8_goesBy_96 (by decide) ?_
                exact B_100 (nI 1) hF _ _ _ hP hD hS (lv_sub hl [1, 2, 3, 0, 4, 5] rfl)
            have B_87 : fX8_goesBy_87 N th_told v2_23 th_now_23 o29 s0_63 (fX8_goesBy_23 N p1 th_told n_23) = some o → ∀ (H : Heap) (locs : List Loc) (ls : Array Slot), va_P (dC, dI) vwCl [(q_th, .inr (8, [.ref q_th_told, .ref q_th_now, x_th_text, .int th_letters, .int th_at, x_th_read, .int th_isMore, .int th_told0, .ref q_th_from, .ref q_th_to, x_th_undone, .int th_undos, x_th_aside, .int th_beganOn, .int th_beganIn, .int th_first, .int th_second, x_th_seenCell, x_th_seenNight, .int th_seens, .int th_above, .int th_below, x_th_kept, .int th_keeps])), (q_th_now, .inl (cI, 28, .inl th_now_23)), (q_th_told, .inl (cI, 54, .inl th_told)), (q_th_from, .inl (cI, 25, .inl o29.2.1)), (q_th_to, .inl (cI, 25, .inl o29.2.2))] H → va_D A [(q_th, .inr (8, [.ref q_th_told, .ref q_th_now, x_th_text, .int th_letters, .int th_at, x_th_read, .int th_isMore, .int th_told0, .ref q_th_from, .ref q_th_to, x_th_undone, .int th_undos, x_th_aside, .int th_beganOn, .int th_beganIn, .int th_first, .int th_second, x_th_seenCell, x_th_seenNight, .int th_seens, .int th_above, .int th_below, x_th_kept, .int th_keeps])), (q_th_now, .inl (cI, 28, .inl th_now_23)), (q_th_told, .inl (cI, 54, .inl th_told)), (q_th_from, .inl (cI, 25, .inl o29.2.1)), (q_th_to, .inl (cI, 25, .inl o29.2.2))] → va_S A s.heap H locs → lv_has ls 8 [(0, .ref q_th), (1, .int p1), (2, .int v2_23), (6, .int o29.1), (7, .int s0_63)] → W p l e ({ frames := 5, cells := 0, slots := 0, locals := 117 } : Room) s m args below meth c H locs 0 0 Q (F0 m 87 ls []) := by
              intro  hF H locs ls hP hD hS hl
              rw [fX8_goesBy_87_e] at hF
              refine lv_iconst (v := (nI 0)) hx hb dX8_goesBy_87 (by decide) ?_
              exact B_88 (nI 0) hF _ _ _ hP hD hS (lv_sub hl [0, 1, 2, 3, 4] rfl)
            refine lv_if_eq (tgt := 87) hx hb dX8_goesBy_67 (by decide) (fun hc => ?_) (fun hc => ?_)
            · have hF := ng_t hc hF
              exact B_87  hF _ _ _ hP hD hS (lv_sub hl [1, 2, 3, 5, 0] rfl)
            · have hF := ng_f hc hF
              refine lv_iload hx hb dX8_goesBy_70 (lv_at hl 5 rfl) ?_
              refine lv_bipush (v := (-4 : Int32)) hx hb dX8_goesBy_72 (by decide) ?_
              refine lv_icmp_eq (tgt := 87) hx hb dX8_goesBy_74 (by decide) (fun hc => ?_) (fun hc => ?_)
              · have hF := ng_t hc hF
                exact B_87  hF _ _ _ hP hD hS (lv_sub hl [1, 2, 3, 5, 0] rfl)
              · have hF := ng_f hc hF
                refine lv_iload hx hb dX8_goesBy_77 (lv_at hl 0 rfl) ?_
                refine lv_iload_n hx hb dX8_goesBy_79 rfl (lv_at hl 3 rfl) ?_
                refine lv_icmp_le (tgt := 87) hx hb dX8_goesBy_80 (by decide) (fun hc => ?_) (fun hc => ?_)
                · have hF := ng_t hc hF
                  exact B_87  hF _ _ _ hP hD hS (lv_sub hl [1, 2, 3, 5, 0] rfl)
                · have hF := ng_f hc hF
                  refine lv_iconst (v := (nI 1)) hx hb dX8_goesBy_83 (by decide) ?_
                  refine lv_goto (tgt := 88) hx hb dX8_goesBy_84 (by decide) ?_
                  exact B_88 (nI 1) hF _ _ _ hP hD hS (lv_sub hl [1, 2, 3, 5, 0] rfl)
          refine lv_icmp_ne (tgt := 47) hx hb dX8_goesBy_38 (by decide) (fun hc => ?_) (fun hc => ?_)
          · have hF := ng_f hc hF
            refine lv_aload_n hx hb dX8_goesBy_47 rfl (lv_at hl 1 rfl) ?_
            refine lv_iload hx hb dX8_goesBy_48 (lv_at hl 0 rfl) ?_
            refine lv_iload_n hx hb dX8_goesBy_50 rfl (lv_at hl 2 rfl) ?_
            refine lv_iconst (v := (nI 3)) hx hb dX8_goesBy_51 (by decide) ?_
            have B_60 : ∀ (s2_60 : Int32), fX8_goesBy_60 N th_told v2_23 v5_23 th_now_23 o29 s2_60 (fX8_goesBy_23 N p1 th_told n_23) = some o → ∀ (H : Heap) (locs : List Loc) (ls : Array Slot), va_P (dC, dI) vwCl [(q_th, .inr (8, [.ref q_th_told, .ref q_th_now, x_th_text, .int th_letters, .int th_at, x_th_read, .int th_isMore, .int th_told0, .ref q_th_from, .ref q_th_to, x_th_undone, .int th_undos, x_th_aside, .int th_beganOn, .int th_beganIn, .int th_first, .int th_second, x_th_seenCell, x_th_seenNight, .int th_seens, .int th_above, .int th_below, x_th_kept, .int th_keeps])), (q_th_now, .inl (cI, 28, .inl th_now_23)), (q_th_told, .inl (cI, 54, .inl th_told)), (q_th_from, .inl (cI, 25, .inl o29.2.1)), (q_th_to, .inl (cI, 25, .inl o29.2.2))] H → va_D A [(q_th, .inr (8, [.ref q_th_told, .ref q_th_now, x_th_text, .int th_letters, .int th_at, x_th_read, .int th_isMore, .int th_told0, .ref q_th_from, .ref q_th_to, x_th_undone, .int th_undos, x_th_aside, .int th_beganOn, .int th_beganIn, .int th_first, .int th_second, x_th_seenCell, x_th_seenNight, .int th_seens, .int th_above, .int th_below, x_th_kept, .int th_keeps])), (q_th_now, .inl (cI, 28, .inl th_now_23)), (q_th_told, .inl (cI, 54, .inl th_told)), (q_th_from, .inl (cI, 25, .inl o29.2.1)), (q_th_to, .inl (cI, 25, .inl o29.2.2))] → va_S A s.heap H locs → lv_has ls 8 [(0, .ref q_th), (1, .int p1), (2, .int v2_23), (5, .int v5_23), (6, .int o29.1)] → W p l e ({ frames := 5, cells := 0, slots := 0, locals := 117 } : Room) s m args below meth c H locs 0 0 Q (F0 m 60 ls [.int s2_60, .int o29.1, .ref q_th]) := by
              intro s2_60 hF H locs ls hP hD hS hl
              rw [fX8_goesBy_60_e] at hF
              obtain ⟨o60, hF1, hF⟩ := ng_b hF
              refine nx_callVi (As := [.int o29.1, .int s2_60]) (rest := []) (W1 := [(q_th, .inr (8, [.ref q_th_told, .ref q_th_now, x_th_text, .int th_letters, .int th_at, x_th_read, .int th_isMore, .int th_told0, .ref q_th_from, .ref q_th_to, x_th_undone, .int th_undos, x_th_aside, .int th_beganOn, .int th_beganIn, .int th_first, .int th_second, x_th_seenCell, x_th_seenNight, .int th_seens, .int th_above, .int th_below, x_th_kept, .int th_keeps])), (q_th_now, .inl (cI, 28, .inl th_now_23)), (q_th_told, .inl (cI, 54, .inl th_told)), (q_th_from, .inl (cI, 25, .inl o29.2.1)), (q_th_to, .inl (cI, 25, .inl o29.2.2))]) (wr := [(q_th_told, .inl (cI, 54, .inl th_told)), (q_th_from, .inl (cI, 25, .inl o29.2.1)), (q_th_to, .inl (cI, 25, .inl o29.2.2))]) S0 hK hN hA hP hD hS (kX8_into l dC dI cI q_th q_th_now _ (.ref q_th_told) (x_th_text) th_letters th_at (x_th_read) th_isMore th_told0 (.ref q_th_from) (.ref q_th_to) (x_th_undone) th_undos (x_th_aside) th_beganOn th_beganIn th_first th_second (x_th_seenCell) (x_th_seenNight) th_seens th_above th_below (x_th_kept) th_keeps th_now_23 o29.1 s2_60 N o60 hF1) (cwV 2 hts gX8_goesBy_X8_into rfl rfl rfl ⟨rfl, hdX8_into⟩ ⟨Nat.le_of_ble_eq_true rfl, Nat.le_of_ble_eq_true rfl⟩) [0, 1] [2, 3, 4] [3, 4, 0, 1, 2] rfl rfl rfl rfl 0 8 rfl rfl rfl rfl hl.1 rfl (Nat.le_of_ble_eq_true rfl) dX8_goesBy_60 (fun H locs hP hD hS => ?_)
              exact B_63 o60 hF _ _ _ hP hD hS (lv_sub hl [0, 1, 2, 3, 4] rfl)
            refine lv_icmp_ge (tgt := 59) hx hb dX8_goesBy_52 (by decide) (fun hc => ?_) (fun hc => ?_)
            · have hF := ng_t hc hF
              refine lv_iconst (v := (nI 2)) hx hb dX8_goesBy_59 (by decide) ?_
              exact B_60 (nI 2) hF _ _ _ hP hD hS (lv_sub hl [1, 2, 3, 6, 0] rfl)
            · have hF := ng_f hc hF
              refine lv_iconst (v := (nI 1)) hx hb dX8_goesBy_55 (by decide) ?_
              refine lv_goto (tgt := 60) hx hb dX8_goesBy_56 (by decide) ?_
              exact B_60 (nI 1) hF _ _ _ hP hD hS (lv_sub hl [1, 2, 3, 6, 0] rfl)
          · have hF := ng_t hc hF
            refine lv_sipush (v := (nI 9999)) hx hb dX8_goesBy_41 (by decide) ?_
            refine lv_goto (tgt := 63) hx hb dX8_goesBy_44 (by decide) ?_
            exact B_63 (nI 9999) hF _ _ _ hP hD hS (lv_sub hl [1, 2, 3, 6, 0] rfl)
    refine lv_istore (lv' := [(5, .int (nI 1)), (4, .int s0_18), (0, .ref q_th), (1, .int p1), (2, .int p1), (3, .int (nI 0))]) hx hb dX8_goesBy_21 hl (by decide) rfl (fun ls hl => ?_)
    exact B_23 N p1 (nI 0) s0_18 (nI 1) th_now th_from th_to hF _ _ _ hP hD hS (lv_sub hl [2, 3, 4, 5, 1, 0] rfl)
  refine lv_if_ge (tgt := 17) hx hb dX8_goesBy_10 (by decide) (fun hc => ?_) (fun hc => ?_)
  · have hF := ng_t hc hF
    refine lv_iconst (v := (nI 0)) hx hb dX8_goesBy_17 (by decide) ?_
    exact B_18 (nI 0) hF _ _ _ hP hD hS (lv_sub hl [2, 3, 1, 0] rfl)
  · have hF := ng_f hc hF
    refine lv_iconst (v := (nI 1)) hx hb dX8_goesBy_13 (by decide) ?_
    refine lv_goto (tgt := 18) hx hb dX8_goesBy_14 (by decide) ?_
    exact B_18 (nI 1) hF _ _ _ hP hD hS (lv_sub hl [2, 3, 1, 0] rfl)
