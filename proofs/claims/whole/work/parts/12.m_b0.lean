theorem hdX6_takeDamp : yX6_takeDamp.cls ≠ "java/lang/invoke/MethodHandle" ∧ yX6_takeDamp.cls ≠ "java/lang/invoke/VarHandle" ∧ (parseMethodDescriptor yX6_takeDamp.desc).map (fun d => d.parameters.length) = some 1 := by decide +kernel
set_option maxHeartbeats 40000000 in
set_option maxRecDepth 100000 in
theorem kX6_takeDamp (l : Launch) (dC : Nat → ClassId) (dI : Nat → Nat → Nat) (cI : ClassId) (q_th : Nat) (q_th_damps : Nat) (sz : Nat) (x_th_kinds : Value) (x_th_column : Value) (x_th_beside : Value) (x_th_rentNights : Value) (x_th_rents : Value) (x_th_heirs : Value) (th_columns : Int32) (th_cells : Int32) (th_start : Int32) (th_dampCount : Int32) (th_rentCount : Int32) (th_heirCount : Int32) (th_damps : Nat → Int32) (p1 : Int32) (N : Nat) (o : Int32 × Int32 × (Nat → Int32)) (hF : fX6_takeDamp N th_dampCount p1 th_damps = some o) : nx_I l yX6_takeDamp wsX6_takeDamp ({ frames := 0, cells := 0, slots := 0, locals := 0 } : Room) (dC, dI) cI [.ref q_th, .int p1] [(q_th, .inr (6, [x_th_kinds, x_th_column, x_th_beside, .ref q_th_damps, x_th_rentNights, x_th_rents, x_th_heirs, .int th_columns, .int th_cells, .int th_start, .int th_dampCount, .int th_rentCount, .int th_heirCount])), (q_th_damps, .inl (cI, 9, .inl th_damps))] sz o.1 [(q_th, .inr (6, [x_th_kinds, x_th_column, x_th_beside, .ref q_th_damps, x_th_rentNights, x_th_rents, x_th_heirs, .int th_columns, .int th_cells, .int th_start, .int o.2.1, .int th_rentCount, .int th_heirCount])), (q_th_damps, .inl (cI, 9, .inl o.2.2))] := by
  refine nx_zint (cc := cX6_takeDamp) (maxL := 2) (by decide) rfl (Nat.le_of_ble_eq_true rfl) ?_
  intro p e s m args below meth c Q A S0 hK hN hA ret0 hP hD hS ls hl
  have S0 : CallFix p m c cX6_takeDamp 2 s args wsX6_takeDamp RX6 := S0
  have hx := S0.1
  have hb := S0.2.1
  have hown := S0.2.2.2.1
  have hts := S0.2.2.2.2
  have hf_43 := hts (.fieldLink RX6 43 "SnailsYear$Yard" "dampCount" "I") (by decide +kernel)
  have hin_X6 : ∀ w ∈ wsX60, w ∈ wsX6_takeDamp := by decide +kernel
  have hf_21 := hts (.fieldLink RX6 21 "SnailsYear$Yard" "damps" "[I") (by decide +kernel)
  have hl : lv_has ls 2 [(0, .ref q_th), (1, .int p1)] := hl
  have hret : ∀ (r0 : Int32) (y0 : Int32) (y1 : Nat → Int32) (H : Heap) (locs : List Loc) (ls : Array Slot) (pc : Nat), (r0 = 0 ∨ r0 = 1) → some (r0, y0, y1) = some o → decode cX6_takeDamp pc = .ok (.ireturn, 1) → va_P (dC, dI) vwCl [(q_th, .inr (6, [x_th_kinds, x_th_column, x_th_beside, .ref q_th_damps, x_th_rentNights, x_th_rents, x_th_heirs, .int th_columns, .int th_cells, .int th_start, .int y0, .int th_rentCount, .int th_heirCount])), (q_th_damps, .inl (cI, 9, .inl y1))] H → va_D A [(q_th, .inr (6, [x_th_kinds, x_th_column, x_th_beside, .ref q_th_damps, x_th_rentNights, x_th_rents, x_th_heirs, .int th_columns, .int th_cells, .int th_start, .int y0, .int th_rentCount, .int th_heirCount])), (q_th_damps, .inl (cI, 9, .inl y1))] → va_S A s.heap H locs → W p l e ({ frames := 0, cells := 0, slots := 0, locals := 0 } : Room) s m args below meth c H locs 0 0 Q (F0 m pc ls [.int r0]) := by
    intro r0 y0 y1 H locs ls pc hz ho hd hP hD hS
    cases ho
    exact ret0 H locs ls pc hz hd hP hD hS
  rw [fX6_takeDamp_e] at hF
  refine lv_iload_n hx hb dX6_takeDamp_0 rfl (lv_at hl 1 rfl) ?_
  refine lv_if_lt (tgt := 22) hx hb dX6_takeDamp_1 (by decide) (fun hc => ?_) (fun hc => ?_)
  · have hF := ng_t hc hF
    refine lv_iconst (v := (nI 0)) hx hb dX6_takeDamp_22 (by decide) ?_
    exact hret (nI 0) th_dampCount th_damps _ _ _ _ (Or.inl rfl) hF dX6_takeDamp_23 hP hD hS
  · have hF := ng_f hc hF
    refine lv_iload_n hx hb dX6_takeDamp_4 rfl (lv_at hl 1 rfl) ?_
    refine lv_bipush (v := (nI 9)) hx hb dX6_takeDamp_5 (by decide) ?_
    refine lv_icmp_gt (tgt := 22) hx hb dX6_takeDamp_7 (by decide) (fun hc => ?_) (fun hc => ?_)
    · have hF := ng_t hc hF
      refine lv_iconst (v := (nI 0)) hx hb dX6_takeDamp_22 (by decide) ?_
      exact hret (nI 0) th_dampCount th_damps _ _ _ _ (Or.inl rfl) hF dX6_takeDamp_23 hP hD hS
    · have hF := ng_f hc hF
      refine lv_aload_n hx hb dX6_takeDamp_10 rfl (lv_at hl 0 rfl) ?_
      refine nx_get S0 hK hP 0 10 hin_X6 hf_43 rfl rfl (by decide) rfl rfl dX6_takeDamp_11 ?_
      refine lv_aload_n hx hb dX6_takeDamp_14 rfl (lv_at hl 0 rfl) ?_
      refine nx_get S0 hK hP 0 3 hin_X6 hf_21 rfl rfl (by decide) rfl rfl dX6_takeDamp_15 ?_
      refine nx_alen S0 hK hP 1 (v := (nI 9)) rfl (by decide) dX6_takeDamp_18 ?_
      refine lv_icmp_lt (tgt := 24) hx hb dX6_takeDamp_19 (by decide) (fun hc => ?_) (fun hc => ?_)
      · have hF := ng_t hc hF
        refine lv_aload_n hx hb dX6_takeDamp_24 rfl (lv_at hl 0 rfl) ?_
        refine nx_get S0 hK hP 0 3 hin_X6 hf_21 rfl rfl (by decide) rfl rfl dX6_takeDamp_25 ?_
        refine lv_aload_n hx hb dX6_takeDamp_28 rfl (lv_at hl 0 rfl) ?_
        refine nx_get S0 hK hP 0 10 hin_X6 hf_43 rfl rfl (by decide) rfl rfl dX6_takeDamp_29 ?_
        refine lv_iload_n hx hb dX6_takeDamp_32 rfl (lv_at hl 1 rfl) ?_
        have hg := ng_p hF
        have hF := ng_x hF
        refine nx_iast S0 hK hP hD hS 1 rfl hg dX6_takeDamp_33 (W1 := [(q_th, .inr (6, [x_th_kinds, x_th_column, x_th_beside, .ref q_th_damps, x_th_rentNights, x_th_rents, x_th_heirs, .int th_columns, .int th_cells, .int th_start, .int th_dampCount, .int th_rentCount, .int th_heirCount])), (q_th_damps, .inl (cI, 9, .inl (upd th_damps th_dampCount.toNatClampNeg p1)))]) rfl (fun H locs hP hD hS => ?_)
        refine lv_aload_n hx hb dX6_takeDamp_34 rfl (lv_at hl 0 rfl) ?_
        refine lv_dup hx hb dX6_takeDamp_35 rfl ?_
        refine nx_get S0 hK hP 0 10 hin_X6 hf_43 rfl rfl (by decide) rfl rfl dX6_takeDamp_36 ?_
        refine lv_iconst (v := (nI 1)) hx hb dX6_takeDamp_39 (by decide) ?_
        refine lv_iadd hx hb dX6_takeDamp_40 ?_
        refine nx_put S0 hK hP hD hS 0 10 hin_X6 tyX6 tyX6_ok nmX6 hf_43 rfl rfl (by decide) rfl rfl rfl rfl (Nat.le_of_ble_eq_true rfl) dX6_takeDamp_41 (W1 := [(q_th, .inr (6, [x_th_kinds, x_th_column, x_th_beside, .ref q_th_damps, x_th_rentNights, x_th_rents, x_th_heirs, .int th_columns, .int th_cells, .int th_start, .int (th_dampCount + (nI 1)), .int th_rentCount, .int th_heirCount])), (q_th_damps, .inl (cI, 9, .inl (upd th_damps th_dampCount.toNatClampNeg p1)))]) rfl (fun H locs hP hD hS => ?_)
        refine lv_iconst (v := (nI 1)) hx hb dX6_takeDamp_44 (by decide) ?_
        exact hret (nI 1) (th_dampCount + (nI 1)) (upd th_damps th_dampCount.toNatClampNeg p1) _ _ _ _ (Or.inr rfl) hF dX6_takeDamp_45 hP hD hS
      · have hF := ng_f hc hF
        refine lv_iconst (v := (nI 0)) hx hb dX6_takeDamp_22 (by decide) ?_
        exact hret (nI 0) th_dampCount th_damps _ _ _ _ (Or.inl rfl) hF dX6_takeDamp_23 hP hD hS
theorem hdX6_takeHeir : yX6_takeHeir.cls ≠ "java/lang/invoke/MethodHandle" ∧ yX6_takeHeir.cls ≠ "java/lang/invoke/VarHandle" ∧ (parseMethodDescriptor yX6_takeHeir.desc).map (fun d => d.parameters.length) = some 1 := by decide +kernel
set_option maxHeartbeats 40000000 in
set_option maxRecDepth 100000 in
theorem kX6_takeHeir (l : Launch) (dC : Nat → ClassId) (dI : Nat → Nat → Nat) (cI : ClassId) (q_th : Nat) (q_th_heirs : Nat) (sz : Nat) (x_th_kinds : Value) (x_th_column : Value) (x_th_beside : Value) (x_th_damps : Value) (x_th_rentNights : Value) (x_th_rents : Value) (th_columns : Int32) (th_cells : Int32) (th_start : Int32) (th_dampCount : Int32) (th_rentCount : Int32) (th_heirCount : Int32) (th_heirs : Nat → Int32) (p1 : Int32) (N : Nat) (o : Int32 × Int32 × (Nat → Int32)) (hF : fX6_takeHeir N th_heirCount p1 th_heirs = some o) : nx_I l yX6_takeHeir wsX6_takeHeir ({ frames := 0, cells := 0, slots := 0, locals := 0 } : Room) (dC, dI) cI [.ref q_th, .int p1] [(q_th, .inr (6, [x_th_kinds, x_th_column, x_th_beside, x_th_damps, x_th_rentNights, x_th_rents, .ref q_th_heirs, .int th_columns, .int th_cells, .int th_start, .int th_dampCount, .int th_rentCount, .int th_heirCount])), (q_th_heirs, .inl (cI, 4, .inl th_heirs))] sz o.1 [(q_th, .inr (6, [x_th_kinds, x_th_column, x_th_beside, x_th_damps, x_th_rentNights, x_th_rents, .ref q_th_heirs, .int th_columns, .int th_cells, .int th_start, .int th_dampCount, .int th_rentCount, .int o.2.1])), (q_th_heirs, .inl (cI, 4, .inl o.2.2))] := by
  refine nx_zint (cc := cX6_takeHeir) (maxL := 2) (by decide) rfl (Nat.le_of_ble_eq_true rfl) ?_
  intro p e s m args below meth c Q A S0 hK hN hA ret0 hP hD hS ls hl
  have S0 : CallFix p m c cX6_takeHeir 2 s args wsX6_takeHeir RX6 := S0
  have hx := S0.1
  have hb := S0.2.1
  have hown := S0.2.2.2.1
  have hts := S0.2.2.2.2
  have hf_49 := hts (.fieldLink RX6 49 "SnailsYear$Yard" "heirCount" "I") (by decide +kernel)
  have hin_X6 : ∀ w ∈ wsX60, w ∈ wsX6_takeHeir := by decide +kernel
  have hf_30 := hts (.fieldLink RX6 30 "SnailsYear$Yard" "heirs" "[I") (by decide +kernel)
  have hl : lv_has ls 2 [(0, .ref q_th), (1, .int p1)] := hl
  have hret : ∀ (r0 : Int32) (y0 : Int32) (y1 : Nat → Int32) (H : Heap) (locs : List Loc) (ls : Array Slot) (pc : Nat), (r0 = 0 ∨ r0 = 1) → some (r0, y0, y1) = some o → decode cX6_takeHeir pc = .ok (.ireturn, 1) → va_P (dC, dI) vwCl [(q_th, .inr (6, [x_th_kinds, x_th_column, x_th_beside, x_th_damps, x_th_rentNights, x_th_rents, .ref q_th_heirs, .int th_columns, .int th_cells, .int th_start, .int th_dampCount, .int th_rentCount, .int y0])), (q_th_heirs, .inl (cI, 4, .inl y1))] H → va_D A [(q_th, .inr (6, [x_th_kinds, x_th_column, x_th_beside, x_th_damps, x_th_rentNights, x_th_rents, .ref q_th_heirs, .int th_columns, .int th_cells, .int th_start, .int th_dampCount, .int th_rentCount, .int y0])), (q_th_heirs, .inl (cI, 4, .inl y1))] → va_S A s.heap H locs → W p l e ({ frames := 0, cells := 0, slots := 0, locals := 0 } : Room) s m args below meth c H locs 0 0 Q (F0 m pc ls [.int r0]) := by
    intro r0 y0 y1 H locs ls pc hz ho hd hP hD hS
    cases ho
    exact ret0 H locs ls pc hz hd hP hD hS
  rw [fX6_takeHeir_e] at hF
  refine lv_iload_n hx hb dX6_takeHeir_0 rfl (lv_at hl 1 rfl) ?_
  refine lv_if_lt (tgt := 21) hx hb dX6_takeHeir_1 (by decide) (fun hc => ?_) (fun hc => ?_)
  · have hF := ng_t hc hF
    refine lv_iconst (v := (nI 0)) hx hb dX6_takeHeir_21 (by decide) ?_
    exact hret (nI 0) th_heirCount th_heirs _ _ _ _ (Or.inl rfl) hF dX6_takeHeir_22 hP hD hS
  · have hF := ng_f hc hF
    refine lv_iload_n hx hb dX6_takeHeir_4 rfl (lv_at hl 1 rfl) ?_
    refine lv_iconst (v := (nI 4)) hx hb dX6_takeHeir_5 (by decide) ?_
    refine lv_icmp_gt (tgt := 21) hx hb dX6_takeHeir_6 (by decide) (fun hc => ?_) (fun hc => ?_)
    · have hF := ng_t hc hF
      refine lv_iconst (v := (nI 0)) hx hb dX6_takeHeir_21 (by decide) ?_
      exact hret (nI 0) th_heirCount th_heirs _ _ _ _ (Or.inl rfl) hF dX6_takeHeir_22 hP hD hS
    · have hF := ng_f hc hF
      refine lv_aload_n hx hb dX6_takeHeir_9 rfl (lv_at hl 0 rfl) ?_
      refine nx_get S0 hK hP 0 12 hin_X6 hf_49 rfl rfl (by decide) rfl rfl dX6_takeHeir_10 ?_
      refine lv_aload_n hx hb dX6_takeHeir_13 rfl (lv_at hl 0 rfl) ?_
      refine nx_get S0 hK hP 0 6 hin_X6 hf_30 rfl rfl (by decide) rfl rfl dX6_takeHeir_14 ?_
      refine nx_alen S0 hK hP 1 (v := (nI 4)) rfl (by decide) dX6_takeHeir_17 ?_
      refine lv_icmp_lt (tgt := 23) hx hb dX6_takeHeir_18 (by decide) (fun hc => ?_) (fun hc => ?_)
      · have hF := ng_t hc hF
        refine lv_aload_n hx hb dX6_takeHeir_23 rfl (lv_at hl 0 rfl) ?_
        refine nx_get S0 hK hP 0 6 hin_X6 hf_30 rfl rfl (by decide) rfl rfl dX6_takeHeir_24 ?_
        refine lv_aload_n hx hb dX6_takeHeir_27 rfl (lv_at hl 0 rfl) ?_
        refine nx_get S0 hK hP 0 12 hin_X6 hf_49 rfl rfl (by decide) rfl rfl dX6_takeHeir_28 ?_
        refine lv_iload_n hx hb dX6_takeHeir_31 rfl (lv_at hl 1 rfl) ?_
        have hg := ng_p hF
        have hF := ng_x hF
        refine nx_iast S0 hK hP hD hS 1 rfl hg dX6_takeHeir_32 (W1 := [(q_th, .inr (6, [x_th_kinds, x_th_column, x_th_beside, x_th_damps, x_th_rentNights, x_th_rents, .ref q_th_heirs, .int th_columns, .int th_cells, .int th_start, .int th_dampCount, .int th_rentCount, .int th_heirCount])), (q_th_heirs, .inl (cI, 4, .inl (upd th_heirs th_heirCount.toNatClampNeg p1)))]) rfl (fun H locs hP hD hS => ?_)
        refine lv_aload_n hx hb dX6_takeHeir_33 rfl (lv_at hl 0 rfl) ?_
        refine lv_dup hx hb dX6_takeHeir_34 rfl ?_
        refine nx_get S0 hK hP 0 12 hin_X6 hf_49 rfl rfl (by decide) rfl rfl dX6_takeHeir_35 ?_
        refine lv_iconst (v := (nI 1)) hx hb dX6_takeHeir_38 (by decide) ?_
        refine lv_iadd hx hb dX6_takeHeir_39 ?_
        refine nx_put S0 hK hP hD hS 0 12 hin_X6 tyX6 tyX6_ok nmX6 hf_49 rfl rfl (by decide) rfl rfl rfl rfl (Nat.le_of_ble_eq_true rfl) dX6_takeHeir_40 (W1 := [(q_th, .inr (6, [x_th_kinds, x_th_column, x_th_beside, x_th_damps, x_th_rentNights, x_th_rents, .ref q_th_heirs, .int th_columns, .int th_cells, .int th_start, .int th_dampCount, .int th_rentCount, .int (th_heirCount + (nI 1))])), (q_th_heirs, .inl (cI, 4, .inl (upd th_heirs th_heirCount.toNatClampNeg p1)))]) rfl (fun H locs hP hD hS => ?_)
        refine lv_iconst (v := (nI 1)) hx hb dX6_takeHeir_43 (by decide) ?_
        exact hret (nI 1) (th_heirCount + (nI 1)) (upd th_heirs th_heirCount.toNatClampNeg p1) _ _ _ _ (Or.inr rfl) hF dX6_takeHeir_44 hP hD hS
      · have hF := ng_f hc hF
        refine lv_iconst (v := (nI 0)) hx hb dX6_takeHeir_21 (by decide) ?_
        exact hret (nI 0) th_heirCount th_heirs _ _ _ _ (Or.inl rfl) hF dX6_takeHeir_22 hP hD hS
theorem hdX6_takeStart : yX6_takeStart.cls ≠ "java/lang/invoke/MethodHandle" ∧ yX6_takeStart.cls ≠ "java/lang/invoke/VarHandle" ∧ (parseMethodDescriptor yX6_takeStart.desc).map (fun d => d.parameters.length) = some 1 := by decide +kernel
set_option maxHeartbeats 40000000 in
set_option maxRecDepth 100000 in
theorem kX6_takeStart (l : Launch) (dC : Nat → ClassId) (dI : Nat → Nat → Nat) (cI : ClassId) (q_th : Nat) (sz : Nat) (x_th_kinds : Value) (x_th_column : Value) (x_th_beside : Value) (x_th_damps : Value) (x_th_rentNights : Value) (x_th_rents : Value) (x_th_heirs : Value) (th_columns : Int32) (th_cells : Int32) (th_start : Int32) (th_dampCount : Int32) (th_rentCount : Int32) (th_heirCount : Int32) (p1 : Int32) (N : Nat) (o : Int32 × Int32) (hF : fX6_takeStart N th_columns th_start p1 = some o) : nx_I l yX6_takeStart wsX6_takeStart ({ frames := 0, cells := 0, slots := 0, locals := 0 } : Room) (dC, dI) cI [.ref q_th, .int p1] [(q_th, .inr (6, [x_th_kinds, x_th_column, x_th_beside, x_th_damps, x_th_rentNights, x_th_rents, x_th_heirs, .int th_columns, .int th_cells, .int th_start, .int th_dampCount, .int th_rentCount, .int th_heirCount]))] sz o.1 [(q_th, .inr (6, [x_th_kinds, x_th_column, x_th_beside, x_th_damps, x_th_rentNights, x_th_rents, x_th_heirs, .int th_columns, .int th_cells, .int o.2, .int th_dampCount, .int th_rentCount, .int th_heirCount]))] := by
  refine nx_zint (cc := cX6_takeStart) (maxL := 2) (by decide) rfl (Nat.le_of_ble_eq_true rfl) ?_
  intro p e s m args below meth c Q A S0 hK hN hA ret0 hP hD hS ls hl
  have S0 : CallFix p m c cX6_takeStart 2 s args wsX6_takeStart RX6 := S0
  have hx := S0.1
  have hb := S0.2.1
  have hown := S0.2.2.2.1
  have hts := S0.2.2.2.2
  have hf_33 := hts (.fieldLink RX6 33 "SnailsYear$Yard" "columns" "I") (by decide +kernel)
  have hin_X6 : ∀ w ∈ wsX60, w ∈ wsX6_takeStart := by decide +kernel
  have hf_40 := hts (.fieldLink RX6 40 "SnailsYear$Yard" "start" "I") (by decide +kernel)
  have hl : lv_has ls 2 [(0, .ref q_th), (1, .int p1)] := hl
  have hret : ∀ (r0 : Int32) (y0 : Int32) (H : Heap) (locs : List Loc) (ls : Array Slot) (pc : Nat), (r0 = 0 ∨ r0 = 1) → some (r0, y0) = some o → decode cX6_takeStart pc = .ok (.ireturn, 1) → va_P (dC, dI) vwCl [(q_th, .inr (6, [x_th_kinds, x_th_column, x_th_beside, x_th_damps, x_th_rentNights, x_th_rents, x_th_heirs, .int th_columns, .int th_cells, .int y0, .int th_dampCount, .int th_rentCount, .int th_heirCount]))] H → va_D A [(q_th, .inr (6, [x_th_kinds, x_th_column, x_th_beside, x_th_damps, x_th_rentNights, x_th_rents, x_th_heirs, .int th_columns, .int th_cells, .int y0, .int th_dampCount, .int th_rentCount, .int th_heirCount]))] → va_S A s.heap H locs → W p l e ({ frames := 0, cells := 0, slots := 0, locals := 0 } : Room) s m args below meth c H locs 0 0 Q (F0 m pc ls [.int r0]) := by
    intro r0 y0 H locs ls pc hz ho hd hP hD hS
    cases ho
    exact ret0 H locs ls pc hz hd hP hD hS
  rw [fX6_takeStart_e] at hF
  refine lv_iload_n hx hb dX6_takeStart_0 rfl (lv_at hl 1 rfl) ?_
  refine lv_if_lt (tgt := 12) hx hb dX6_takeStart_1 (by decide) (fun hc => ?_) (fun hc => ?_)
  · have hF := ng_t hc hF
    refine lv_iconst (v := (nI 0)) hx hb dX6_takeStart_12 (by decide) ?_
    exact hret (nI 0) th_start _ _ _ _ (Or.inl rfl) hF dX6_takeStart_13 hP hD hS
  · have hF := ng_f hc hF
    refine lv_iload_n hx hb dX6_takeStart_4 rfl (lv_at hl 1 rfl) ?_
    refine lv_aload_n hx hb dX6_takeStart_5 rfl (lv_at hl 0 rfl) ?_
    refine nx_get S0 hK hP 0 7 hin_X6 hf_33 rfl rfl (by decide) rfl rfl dX6_takeStart_6 ?_
    refine lv_icmp_lt (tgt := 14) hx hb dX6_takeStart_9 (by decide) (fun hc => ?_) (fun hc => ?_)
    · have hF := ng_t hc hF
      refine lv_aload_n hx hb dX6_takeStart_14 rfl (lv_at hl 0 rfl) ?_
      refine lv_iload_n hx hb dX6_takeStart_15 rfl (lv_at hl 1 rfl) ?_
      refine nx_put S0 hK hP hD hS 0 9 hin_X6 tyX6 tyX6_ok nmX6 hf_40 rfl rfl (by decide) rfl rfl rfl rfl (Nat.le_of_ble_eq_true rfl) dX6_takeStart_16 (W1 := [(q_th, .inr (6, [x_th_kinds, x_th_column, x_th_beside, x_th_damps, x_th_rentNights, x_th_rents, x_th_heirs, .int th_columns, .int th_cells, .int p1, .int th_dampCount, .int th_rentCount, .int th_heirCount]))]) rfl (fun H locs hP hD hS => ?_)
      refine lv_iconst (v := (nI 1)) hx hb dX6_takeStart_19 (by decide) ?_
      exact hret (nI 1) p1 _ _ _ _ (Or.inr rfl) hF dX6_takeStart_20 hP hD hS
    · have hF := ng_f hc hF
      refine lv_iconst (v := (nI 0)) hx hb dX6_takeStart_12 (by decide) ?_
      exact hret (nI 0) th_start _ _ _ _ (Or.inl rfl) hF dX6_takeStart_13 hP hD hS
theorem hdX6_has : yX6_has.cls ≠ "java/lang/invoke/MethodHandle" ∧ yX6_has.cls ≠ "java/lang/invoke/VarHandle" ∧ (parseMethodDescriptor yX6_has.desc).map (fun d => d.parameters.length) = some 1 := by decide +kernel
set_option maxHeartbeats 40000000 in
set_option maxRecDepth 100000 in
theorem kX6_has (l : Launch) (dC : Nat → ClassId) (dI : Nat → Nat → Nat) (cI : ClassId) (q_th : Nat) (q_th_kinds : Nat) (sz : Nat) (x_th_column : Value) (x_th_beside : Value) (x_th_damps : Value) (x_th_rentNights : Value) (x_th_rents : Value) (x_th_heirs : Value) (th_columns : Int32) (th_cells : Int32) (th_start : Int32) (th_dampCount : Int32) (th_rentCount : Int32) (th_heirCount : Int32) (th_kinds : Nat → Int32) (p1 : Int32) (N : Nat) (o : Int32) (hF : fX6_has N th_cells p1 = some o) : nx_I l yX6_has wsX6_has ({ frames := 0, cells := 0, slots := 0, locals := 0 } : Room) (dC, dI) cI [.ref q_th, .int p1] [(q_th, .inr (6, [.ref q_th_kinds, x_th_column, x_th_beside, x_th_damps, x_th_rentNights, x_th_rents, x_th_heirs, .int th_columns, .int th_cells, .int th_start, .int th_dampCount, .int th_rentCount, .int th_heirCount])), (q_th_kinds, .inl (cI, 25, .inl th_kinds))] sz o [(q_th, .inr (6, [.ref q_th_kinds, x_th_column, x_th_beside, x_th_damps, x_th_rentNights, x_th_rents, x_th_heirs, .int th_columns, .int th_cells, .int th_start, .int th_dampCount, .int th_rentCount, .int th_heirCount])), (q_th_kinds, .inl (cI, 25, .inl th_kinds))] := by
  refine nx_zint (cc := cX6_has) (maxL := 2) (by decide) rfl (Nat.le_of_ble_eq_true rfl) ?_
  intro p e s m args below meth c Q A S0 hK hN hA ret0 hP hD hS ls hl
  have S0 : CallFix p m c cX6_has 2 s args wsX6_has RX6 := S0
  have hx := S0.1
  have hb := S0.2.1
  have hown := S0.2.2.2.1
  have hts := S0.2.2.2.2
  have hf_37 := hts (.fieldLink RX6 37 "SnailsYear$Yard" "cells" "I") (by decide +kernel)
  have hin_X6 : ∀ w ∈ wsX60, w ∈ wsX6_has := by decide +kernel
  have hf_9 := hts (.fieldLink RX6 9 "SnailsYear$Yard" "kinds" "[I") (by decide +kernel)
  have hl : lv_has ls 2 [(0, .ref q_th), (1, .int p1)] := hl
  have hret : ∀ (r0 : Int32) (H : Heap) (locs : List Loc) (ls : Array Slot) (pc : Nat), (r0 = 0 ∨ r0 = 1) → some r0 = some o → decode cX6_has pc = .ok (.ireturn, 1) → va_P (dC, dI) vwCl [(q_th, .inr (6, [.ref q_th_kinds, x_th_column, x_th_beside, x_th_damps, x_th_rentNights, x_th_rents, x_th_heirs, .int th_columns, .int th_cells, .int th_start, .int th_dampCount, .int th_rentCount, .int th_heirCount])), (q_th_kinds, .inl (cI, 25, .inl th_kinds))] H → va_D A [(q_th, .inr (6, [.ref q_th_kinds, x_th_column, x_th_beside, x_th_damps, x_th_rentNights, x_th_rents, x_th_heirs, .int th_columns, .int th_cells, .int th_start, .int th_dampCount, .int th_rentCount, .int th_heirCount])), (q_th_kinds, .inl (cI, 25, .inl th_kinds))] → va_S A s.heap H locs → W p l e ({ frames := 0, cells := 0, slots := 0, locals := 0 } : Room) s m args below meth c H locs 0 0 Q (F0 m pc ls [.int r0]) := by
    intro r0 H locs ls pc hz ho hd hP hD hS
    cases ho
    exact ret0 H locs ls pc hz hd hP hD hS
  rw [fX6_has_e] at hF
  refine lv_iload_n hx hb dX6_has_0 rfl (lv_at hl 1 rfl) ?_
  refine lv_if_lt (tgt := 25) hx hb dX6_has_1 (by decide) (fun hc => ?_) (fun hc => ?_)
  · have hF := ng_t hc hF
    refine lv_iconst (v := (nI 0)) hx hb dX6_has_25 (by decide) ?_
    exact hret (nI 0) _ _ _ _ (Or.inl rfl) hF dX6_has_26 hP hD hS
  · have hF := ng_f hc hF
    refine lv_iload_n hx hb dX6_has_4 rfl (lv_at hl 1 rfl) ?_
    refine lv_aload_n hx hb dX6_has_5 rfl (lv_at hl 0 rfl) ?_
    refine nx_get S0 hK hP 0 8 hin_X6 hf_37 rfl rfl (by decide) rfl rfl dX6_has_6 ?_
    refine lv_icmp_ge (tgt := 25) hx hb dX6_has_9 (by decide) (fun hc => ?_) (fun hc => ?_)
    · have hF := ng_t hc hF
      refine lv_iconst (v := (nI 0)) hx hb dX6_has_25 (by decide) ?_
      exact hret (nI 0) _ _ _ _ (Or.inl rfl) hF dX6_has_26 hP hD hS
    · have hF := ng_f hc hF
      refine lv_iload_n hx hb dX6_has_12 rfl (lv_at hl 1 rfl) ?_
      refine lv_aload_n hx hb dX6_has_13 rfl (lv_at hl 0 rfl) ?_
      refine nx_get S0 hK hP 0 0 hin_X6 hf_9 rfl rfl (by decide) rfl rfl dX6_has_14 ?_
      refine nx_alen S0 hK hP 1 (v := (nI 25)) rfl (by decide) dX6_has_17 ?_
      refine lv_icmp_ge (tgt := 25) hx hb dX6_has_18 (by decide) (fun hc => ?_) (fun hc => ?_)
      · have hF := ng_t hc hF
        refine lv_iconst (v := (nI 0)) hx hb dX6_has_25 (by decide) ?_
        exact hret (nI 0) _ _ _ _ (Or.inl rfl) hF dX6_has_26 hP hD hS
      · have hF := ng_f hc hF
        refine lv_iconst (v := (nI 1)) hx hb dX6_has_21 (by decide) ?_
        refine lv_goto (tgt := 26) hx hb dX6_has_22 (by decide) ?_
        exact hret (nI 1) _ _ _ _ (Or.inr rfl) hF dX6_has_26 hP hD hS
theorem hdX6_takeKind : yX6_takeKind.cls ≠ "java/lang/invoke/MethodHandle" ∧ yX6_takeKind.cls ≠ "java/lang/invoke/VarHandle" ∧ (parseMethodDescriptor yX6_takeKind.desc).map (fun d => d.parameters.length) = some 2 := by decide +kernel
set_option maxHeartbeats 40000000 in
set_option maxRecDepth 100000 in
theorem kX6_takeKind (l : Launch) (dC : Nat → ClassId) (dI : Nat → Nat → Nat) (cI : ClassId) (q_th : Nat) (q_th_kinds : Nat) (sz : Nat) (x_th_column : Value) (x_th_beside : Value) (x_th_damps : Value) (x_th_rentNights : Value) (x_th_rents : Value) (x_th_heirs : Value) (th_columns : Int32) (th_cells : Int32) (th_start : Int32) (th_dampCount : Int32) (th_rentCount : Int32) (th_heirCount : Int32) (th_kinds : Nat → Int32) (p1 : Int32) (p2 : Int32) (N : Nat) (o : Int32 × (Nat → Int32)) (hF : fX6_takeKind N th_cells p1 p2 th_kinds = some o) : nx_I l yX6_takeKind wsX6_takeKind ({ frames := 1, cells := 0, slots := 0, locals := 21 } : Room) (dC, dI) cI [.ref q_th, .int p1, .int p2] [(q_th, .inr (6, [.ref q_th_kinds, x_th_column, x_th_beside, x_th_damps, x_th_rentNights, x_th_rents, x_th_heirs, .int th_columns, .int th_cells, .int th_start, .int th_dampCount, .int th_rentCount, .int th_heirCount])), (q_th_kinds, .inl (cI, 25, .inl th_kinds))] sz o.1 [(q_th, .inr (6, [.ref q_th_kinds, x_th_column, x_th_beside, x_th_damps, x_th_rentNights, x_th_rents, x_th_heirs, .int th_columns, .int th_cells, .int th_start, .int th_dampCount, .int th_rentCount, .int th_heirCount])), (q_th_kinds, .inl (cI, 25, .inl o.2))] := by
  refine nx_zint (cc := cX6_takeKind) (maxL := 3) (by decide) rfl (Nat.le_of_ble_eq_true rfl) ?_
  intro p e s m args below meth c Q A S0 hK hN hA ret0 hP hD hS ls hl
  have S0 : CallFix p m c cX6_takeKind 3 s args wsX6_takeKind RX6 := S0
  have hx := S0.1
  have hb := S0.2.1
  have hown := S0.2.2.2.1
  have hts := S0.2.2.2.2
  have hf_9 := hts (.fieldLink RX6 9 "SnailsYear$Yard" "kinds" "[I") (by decide +kernel)
  have hin_X6 : ∀ w ∈ wsX60, w ∈ wsX6_takeKind := by decide +kernel
  have hl : lv_has ls 3 [(0, .ref q_th), (1, .int p1), (2, .int p2)] := hl
  have hret : ∀ (r0 : Int32) (y0 : Nat → Int32) (H : Heap) (locs : List Loc) (ls : Array Slot) (pc : Nat), (r0 = 0 ∨ r0 = 1) → some (r0, y0) = some o → decode cX6_takeKind pc = .ok (.ireturn, 1) → va_P (dC, dI) vwCl [(q_th, .inr (6, [.ref q_th_kinds, x_th_column, x_th_beside, x_th_damps, x_th_rentNights, x_th_rents, x_th_heirs, .int th_columns, .int th_cells, .int th_start, .int th_dampCount, .int th_rentCount, .int th_heirCount])), (q_th_kinds, .inl (cI, 25, .inl y0))] H → va_D A [(q_th, .inr (6, [.ref q_th_kinds, x_th_column, x_th_beside, x_th_damps, x_th_rentNights, x_th_rents, x_th_heirs, .int th_columns, .int th_cells, .int th_start, .int th_dampCount, .int th_rentCount, .int th_heirCount])), (q_th_kinds, .inl (cI, 25, .inl y0))] → va_S A s.heap H locs → W p l e ({ frames := 1, cells := 0, slots := 0, locals := 21 } : Room) s m args below meth c H locs 0 0 Q (F0 m pc ls [.int r0]) := by
    intro r0 y0 H locs ls pc hz ho hd hP hD hS
    cases ho
    exact ret0 H locs ls pc hz hd hP hD hS
  rw [fX6_takeKind_e] at hF
  refine lv_aload_n hx hb dX6_takeKind_0 rfl (lv_at hl 0 rfl) ?_
  refine lv_iload_n hx hb dX6_takeKind_1 rfl (lv_at hl 1 rfl) ?_
  obtain ⟨o2, hF1, hF⟩ := ng_b hF
  refine nx_callVi (As := [.int p1]) (rest := []) (W1 := [(q_th, .inr (6, [.ref q_th_kinds, x_th_column, x_th_beside, x_th_damps, x_th_rentNights, x_th_rents, x_th_heirs, .int th_columns, .int th_cells, .int th_start, .int th_dampCount, .int th_rentCount, .int th_heirCount])), (q_th_kinds, .inl (cI, 25, .inl th_kinds))]) (wr := []) S0 hK hN hA hP hD hS (kX6_has l dC dI cI q_th q_th_kinds _ (x_th_column) (x_th_beside) (x_th_damps) (x_th_rentNights) (x_th_rents) (x_th_heirs) th_columns th_cells th_start th_dampCount th_rentCount th_heirCount th_kinds p1 N o2 hF1) (cwV 1 hts gX6_takeKind_X6_has rfl rfl rfl ⟨rfl, hdX6_has⟩ ⟨Nat.le_of_ble_eq_true rfl, Nat.le_of_ble_eq_true rfl⟩) [0, 1] [] [0, 1] rfl rfl rfl rfl 0 6 rfl rfl rfl rfl hl.1 rfl (Nat.le_of_ble_eq_true rfl) dX6_takeKind_2 (fun H locs hP hD hS => ?_)
  refine lv_if_eq (tgt := 17) hx hb dX6_takeKind_5 (by decide) (fun hc => ?_) (fun hc => ?_)
  · have hF := ng_t hc hF
    refine lv_iconst (v := (nI 0)) hx hb dX6_takeKind_17 (by decide) ?_
    exact hret (nI 0) th_kinds _ _ _ _ (Or.inl rfl) hF dX6_takeKind_18 hP hD hS
  · have hF := ng_f hc hF
    refine lv_iload_n hx hb dX6_takeKind_8 rfl (lv_at hl 2 rfl) ?_
    refine lv_if_lt (tgt := 17) hx hb dX6_takeKind_9 (by decide) (fun hc => ?_) (fun hc => ?_)
    · have hF := ng_t hc hF
      refine lv_iconst (v := (nI 0)) hx hb dX6_takeKind_17 (by decide) ?_
      exact hret (nI 0) th_kinds _ _ _ _ (Or.inl rfl) hF dX6_takeKind_18 hP hD hS
    · have hF := ng_f hc hF
      refine lv_iload_n hx hb dX6_takeKind_12 rfl (lv_at hl 2 rfl) ?_
      refine lv_iconst (v := (nI 4)) hx hb dX6_takeKind_13 (by decide) ?_
      refine lv_icmp_le (tgt := 19) hx hb dX6_takeKind_14 (by decide) (fun hc => ?_) (fun hc => ?_)
      · have hF := ng_t hc hF
        refine lv_aload_n hx hb dX6_takeKind_19 rfl (lv_at hl 0 rfl) ?_
        refine nx_get S0 hK hP 0 0 hin_X6 hf_9 rfl rfl (by decide) rfl rfl dX6_takeKind_20 ?_
        refine lv_iload_n hx hb dX6_takeKind_23 rfl (lv_at hl 1 rfl) ?_
        refine lv_iload_n hx hb dX6_takeKind_24 rfl (lv_at hl 2 rfl) ?_
        have hg := ng_p hF
        have hF := ng_x hF
        refine nx_iast S0 hK hP hD hS 1 rfl hg dX6_takeKind_25 (W1 := [(q_th, .inr (6, [.ref q_th_kinds, x_th_column, x_th_beside, x_th_damps, x_th_rentNights, x_th_rents, x_th_heirs, .int th_columns, .int th_cells, .int th_start, .int th_dampCount, .int th_rentCount, .int th_heirCount])), (q_th_kinds, .inl (cI, 25, .inl (upd th_kinds p1.toNatClampNeg p2)))]) rfl (fun H locs hP hD hS => ?_)
        refine lv_iconst (v := (nI 1)) hx hb dX6_takeKind_26 (by decide) ?_
        exact hret (nI 1) (upd th_kinds p1.toNatClampNeg p2) _ _ _ _ (Or.inr rfl) hF dX6_takeKind_27 hP hD hS
      · have hF := ng_f hc hF
        refine lv_iconst (v := (nI 0)) hx hb dX6_takeKind_17 (by decide) ?_
        exact hret (nI 0) th_kinds _ _ _ _ (Or.inl rfl) hF dX6_takeKind_18 hP hD hS
theorem hdX6_takeRent : yX6_takeRent.cls ≠ "java/lang/invoke/MethodHandle" ∧ yX6_takeRent.cls ≠ "java/lang/invoke/VarHandle" ∧ (parseMethodDescriptor yX6_takeRent.desc).map (fun d => d.parameters.length) = some 2 := by decide +kernel
set_option maxHeartbeats 40000000 in
set_option maxRecDepth 100000 in
theorem kX6_takeRent (l : Launch) (dC : Nat → ClassId) (dI : Nat → Nat → Nat) (cI : ClassId) (q_th : Nat) (q_th_rents : Nat) (q_th_rentNights : Nat) (sz : Nat) (x_th_kinds : Value) (x_th_column : Value) (x_th_beside : Value) (x_th_damps : Value) (x_th_heirs : Value) (th_columns : Int32) (th_cells : Int32) (th_start : Int32) (th_dampCount : Int32) (th_rentCount : Int32) (th_heirCount : Int32) (th_rents : Nat → Int32) (th_rentNights : Nat → Int32) (p1 : Int32) (p2 : Int32) (N : Nat) (o : Int32 × Int32 × (Nat → Int32) × (Nat → Int32)) (hF : fX6_takeRent N th_rentCount p1 p2 th_rents th_rentNights = some o) : nx_I l yX6_takeRent wsX6_takeRent ({ frames := 0, cells := 0, slots := 0, locals := 0 } : Room) (dC, dI) cI [.ref q_th, .int p1, .int p2] [(q_th, .inr (6, [x_th_kinds, x_th_column, x_th_beside, x_th_damps, .ref q_th_rentNights, .ref q_th_rents, x_th_heirs, .int th_columns, .int th_cells, .int th_start, .int th_dampCount, .int th_rentCount, .int th_heirCount])), (q_th_rents, .inl (cI, 5, .inl th_rents)), (q_th_rentNights, .inl (cI, 5, .inl th_rentNights))] sz o.1 [(q_th, .inr (6, [x_th_kinds, x_th_column, x_th_beside, x_th_damps, .ref q_th_rentNights, .ref q_th_rents, x_th_heirs, .int th_columns, .int th_cells, .int th_start, .int th_dampCount, .int o.2.1, .int th_heirCount])), (q_th_rents, .inl (cI, 5, .inl o.2.2.1)), (q_th_rentNights, .inl (cI, 5, .inl o.2.2.2))] := by
  refine nx_zint (cc := cX6_takeRent) (maxL := 4) (by decide) rfl (Nat.le_of_ble_eq_true rfl) ?_
  intro p e s m args below meth c Q A S0 hK hN hA ret0 hP hD hS ls hl
  have S0 : CallFix p m c cX6_takeRent 4 s args wsX6_takeRent RX6 := S0
  have hx := S0.1
  have hb := S0.2.1
  have hown := S0.2.2.2.1
  have hts := S0.2.2.2.2
  have hf_46 := hts (.fieldLink RX6 46 "SnailsYear$Yard" "rentCount" "I") (by decide +kernel)
  have hin_X6 : ∀ w ∈ wsX60, w ∈ wsX6_takeRent := by decide +kernel
  have hf_27 := hts (.fieldLink RX6 27 "SnailsYear$Yard" "rents" "[I") (by decide +kernel)
  have hf_24 := hts (.fieldLink RX6 24 "SnailsYear$Yard" "rentNights" "[I") (by decide +kernel)
  have hl : lv_has ls 4 [(0, .ref q_th), (1, .int p1), (2, .int p2)] := hl
  have hret : ∀ (r0 : Int32) (y0 : Int32) (y1 : Nat → Int32) (y2 : Nat → Int32) (H : Heap) (locs : List Loc) (ls : Array Slot) (pc : Nat), (r0 = 0 ∨ r0 = 1) → some (r0, y0, y1, y2) = some o → decode cX6_takeRent pc = .ok (.ireturn, 1) → va_P (dC, dI) vwCl [(q_th, .inr (6, [x_th_kinds, x_th_column, x_th_beside, x_th_damps, .ref q_th_rentNights, .ref q_th_rents, x_th_heirs, .int th_columns, .int th_cells, .int th_start, .int th_dampCount, .int y0, .int th_heirCount])), (q_th_rents, .inl (cI, 5, .inl y1)), (q_th_rentNights, .inl (cI, 5, .inl y2))] H → va_D A [(q_th, .inr (6, [x_th_kinds, x_th_column, x_th_beside, x_th_damps, .ref q_th_rentNights, .ref q_th_rents, x_th_heirs, .int th_columns, .int th_cells, .int th_start, .int th_dampCount, .int y0, .int th_heirCount])), (q_th_rents, .inl (cI, 5, .inl y1)), (q_th_rentNights, .inl (cI, 5, .inl y2))] → va_S A s.heap H locs → W p l e ({ frames := 0, cells := 0, slots := 0, locals := 0 } : Room) s m args below meth c H locs 0 0 Q (F0 m pc ls [.int r0]) := by
    intro r0 y0 y1 y2 H locs ls pc hz ho hd hP hD hS
    cases ho
    exact ret0 H locs ls pc hz hd hP hD hS
  rw [fX6_takeRent_e] at hF
  refine lv_iload_n hx hb dX6_takeRent_0 rfl (lv_at hl 1 rfl) ?_
  have B_26 : ∀ (s0_26 : Int32), fX6_takeRent_26 th_rentCount p1 p2 th_rents th_rentNights s0_26 = some o → ∀ (H : Heap) (locs : List Loc) (ls : Array Slot), va_P (dC, dI) vwCl [(q_th, .inr (6, [x_th_kinds, x_th_column, x_th_beside, x_th_damps, .ref q_th_rentNights, .ref q_th_rents, x_th_heirs, .int th_columns, .int th_cells, .int th_start, .int th_dampCount, .int th_rentCount, .int th_heirCount])), (q_th_rents, .inl (cI, 5, .inl th_rents)), (q_th_rentNights, .inl (cI, 5, .inl th_rentNights))] H → va_D A [(q_th, .inr (6, [x_th_kinds, x_th_column, x_th_beside, x_th_damps, .ref q_th_rentNights, .ref q_th_rents, x_th_heirs, .int th_columns, .int th_cells, .int th_start, .int th_dampCount, .int th_rentCount, .int th_heirCount])), (q_th_rents, .inl (cI, 5, .inl th_rents)), (q_th_rentNights, .inl (cI, 5, .inl th_rentNights))] → va_S A s.heap H locs → lv_has ls 4 [(0, .ref q_th), (1, .int p1), (2, .int p2)] → W p l e ({ frames := 0, cells := 0, slots := 0, locals := 0 } : Room) s m args below meth c H locs 0 0 Q (F0 m 26 ls [.int s0_26]) := by
    intro s0_26 hF H locs ls hP hD hS hl
    rw [fX6_takeRent_26_e] at hF
    refine lv_istore_n (lv' := [(3, .int s0_26), (0, .ref q_th), (1, .int p1), (2, .int p2)]) hx hb dX6_takeRent_26 rfl hl (by decide) rfl (fun ls hl => ?_)
    refine lv_iload_n hx hb dX6_takeRent_27 rfl (lv_at hl 0 rfl) ?_
    refine lv_if_eq (tgt := 43) hx hb dX6_takeRent_28 (by decide) (fun hc => ?_) (fun hc => ?_)
    · have hF := ng_t hc hF
      refine lv_iconst (v := (nI 0)) hx hb dX6_takeRent_43 (by decide) ?_
      exact hret (nI 0) th_rentCount th_rents th_rentNights _ _ _ _ (Or.inl rfl) hF dX6_takeRent_44 hP hD hS
    · have hF := ng_f hc hF
      refine lv_aload_n hx hb dX6_takeRent_31 rfl (lv_at hl 1 rfl) ?_
      refine nx_get S0 hK hP 0 11 hin_X6 hf_46 rfl rfl (by decide) rfl rfl dX6_takeRent_32 ?_
      refine lv_aload_n hx hb dX6_takeRent_35 rfl (lv_at hl 1 rfl) ?_
      refine nx_get S0 hK hP 0 5 hin_X6 hf_27 rfl rfl (by decide) rfl rfl dX6_takeRent_36 ?_
      refine nx_alen S0 hK hP 1 (v := (nI 5)) rfl (by decide) dX6_takeRent_39 ?_
      refine lv_icmp_lt (tgt := 45) hx hb dX6_takeRent_40 (by decide) (fun hc => ?_) (fun hc => ?_)
      · have hF := ng_t hc hF
        refine lv_aload_n hx hb dX6_takeRent_45 rfl (lv_at hl 1 rfl) ?_
        refine nx_get S0 hK hP 0 4 hin_X6 hf_24 rfl rfl (by decide) rfl rfl dX6_takeRent_46 ?_
        refine lv_aload_n hx hb dX6_takeRent_49 rfl (lv_at hl 1 rfl) ?_
        refine nx_get S0 hK hP 0 11 hin_X6 hf_46 rfl rfl (by decide) rfl rfl dX6_takeRent_50 ?_
        refine lv_iload_n hx hb dX6_takeRent_53 rfl (lv_at hl 2 rfl) ?_
        have hg := ng_p hF
        have hF := ng_x hF
        refine nx_iast S0 hK hP hD hS 2 rfl hg dX6_takeRent_54 (W1 := [(q_th, .inr (6, [x_th_kinds, x_th_column, x_th_beside, x_th_damps, .ref q_th_rentNights, .ref q_th_rents, x_th_heirs, .int th_columns, .int th_cells, .int th_start, .int th_dampCount, .int th_rentCount, .int th_heirCount])), (q_th_rents, .inl (cI, 5, .inl th_rents)), (q_th_rentNights, .inl (cI, 5, .inl (upd th_rentNights th_rentCount.toNatClampNeg p1)))]) rfl (fun H locs hP hD hS => ?_)
        refine lv_aload_n hx hb dX6_takeRent_55 rfl (lv_at hl 1 rfl) ?_
        refine nx_get S0 hK hP 0 5 hin_X6 hf_27 rfl rfl (by decide) rfl rfl dX6_takeRent_56 ?_
        refine lv_aload_n hx hb dX6_takeRent_59 rfl (lv_at hl 1 rfl) ?_
        refine nx_get S0 hK hP 0 11 hin_X6 hf_46 rfl rfl (by decide) rfl rfl dX6_takeRent_60 ?_
        refine lv_iload_n hx hb dX6_takeRent_63 rfl (lv_at hl 3 rfl) ?_
        have hg := ng_p hF
        have hF := ng_x hF
        refine nx_iast S0 hK hP hD hS 1 rfl hg dX6_takeRent_64 (W1 := [(q_th, .inr (6, [x_th_kinds, x_th_column, x_th_beside, x_th_damps, .ref q_th_rentNights, .ref q_th_rents, x_th_heirs, .int th_columns, .int th_cells, .int th_start, .int th_dampCount, .int th_rentCount, .int th_heirCount])), (q_th_rents, .inl (cI, 5, .inl (upd th_rents th_rentCount.toNatClampNeg p2))), (q_th_rentNights, .inl (cI, 5, .inl (upd th_rentNights th_rentCount.toNatClampNeg p1)))]) rfl (fun H locs hP hD hS => ?_)
        refine lv_aload_n hx hb dX6_takeRent_65 rfl (lv_at hl 1 rfl) ?_
        refine lv_dup hx hb dX6_takeRent_66 rfl ?_
        refine nx_get S0 hK hP 0 11 hin_X6 hf_46 rfl rfl (by decide) rfl rfl dX6_takeRent_67 ?_
        refine lv_iconst (v := (nI 1)) hx hb dX6_takeRent_70 (by decide) ?_
        refine lv_iadd hx hb dX6_takeRent_71 ?_
        refine nx_put S0 hK hP hD hS 0 11 hin_X6 tyX6 tyX6_ok nmX6 hf_46 rfl rfl (by decide) rfl rfl rfl rfl (Nat.le_of_ble_eq_true rfl) dX6_takeRent_72 (W1 := [(q_th, .inr (6, [x_th_kinds, x_th_column, x_th_beside, x_th_damps, .ref q_th_rentNights, .ref q_th_rents, x_th_heirs, .int th_columns, .int th_cells, .int th_start, .int th_dampCount, .int (th_rentCount + (nI 1)), .int th_heirCount])), (q_th_rents, .inl (cI, 5, .inl (upd th_rents th_rentCount.toNatClampNeg p2))), (q_th_rentNights, .inl (cI, 5, .inl (upd th_rentNights th_rentCount.toNatClampNeg p1)))]) rfl (fun H locs hP hD hS => ?_)
        refine lv_iconst (v := (nI 1)) hx hb dX6_takeRent_75 (by decide) ?_
        exact hret (nI 1) (th_rentCount + (nI 1)) (upd th_rents th_rentCount.toNatClampNeg p2) (upd th_rentNights th_rentCount.toNatClampNeg p1) _ _ _ _ (Or.inr rfl) hF dX6_takeRent_76 hP hD hS
      · have hF := ng_f hc hF
        refine lv_iconst (v := (nI 0)) hx hb dX6_takeRent_43 (by decide) ?_
        exact hret (nI 0) th_rentCount th_rents th_rentNights _ _ _ _ (Or.inl rfl) hF dX6_takeRent_44 hP hD hS
  have B_25 : fX6_takeRent_25 th_rentCount p1 p2 th_rents th_rentNights = some o → ∀ (H : Heap) (locs : List Loc) (ls : Array Slot), va_P (dC, dI) vwCl [(q_th, .inr (6, [x_th_kinds, x_th_column, x_th_beside, x_th_damps, .ref q_th_rentNights, .ref q_th_rents, x_th_heirs, .int th_columns, .int th_cells, .int th_start, .int th_dampCount, .int th_rentCount, .int th_heirCount])), (q_th_rents, .inl (cI, 5, .inl th_rents)), (q_th_rentNights, .inl (cI, 5, .inl th_rentNights))] H → va_D A [(q_th, .inr (6, [x_th_kinds, x_th_column, x_th_beside, x_th_damps, .ref q_th_rentNights, .ref q_th_rents, x_th_heirs, .int th_columns, .int th_cells, .int th_start, .int th_dampCount, .int th_rentCount, .int th_heirCount])), (q_th_rents, .inl (cI, 5, .inl th_rents)), (q_th_rentNights, .inl (cI, 5, .inl th_rentNights))] → va_S A s.heap H locs → lv_has ls 4 [(0, .ref q_th), (1, .int p1), (2, .int p2)] → W p l e ({ frames := 0, cells := 0, slots := 0, locals := 0 } : Room) s m args below meth c H locs 0 0 Q (F0 m 25 ls []) := by
    intro  hF H locs ls hP hD hS hl
    rw [fX6_takeRent_25_e] at hF
    refine lv_iconst (v := (nI 0)) hx hb dX6_takeRent_25 (by decide) ?_
    exact B_26 (nI 0) hF _ _ _ hP hD hS (lv_sub hl [0, 1, 2] rfl)
  refine lv_if_lt (tgt := 25) hx hb dX6_takeRent_1 (by decide) (fun hc => ?_) (fun hc => ?_)
  · have hF := ng_t hc hF
    exact B_25  hF _ _ _ hP hD hS (lv_sub hl [0, 1, 2] rfl)
  · have hF := ng_f hc hF
    refine lv_iload_n hx hb dX6_takeRent_4 rfl (lv_at hl 1 rfl) ?_
    refine lv_bipush (v := (nI 60)) hx hb dX6_takeRent_5 (by decide) ?_
    refine lv_icmp_gt (tgt := 25) hx hb dX6_takeRent_7 (by decide) (fun hc => ?_) (fun hc => ?_)
    · have hF := ng_t hc hF
      exact B_25  hF _ _ _ hP hD hS (lv_sub hl [0, 1, 2] rfl)
    · have hF := ng_f hc hF
      refine lv_iload_n hx hb dX6_takeRent_10 rfl (lv_at hl 2 rfl) ?_
      refine lv_iconst (v := (nI 1)) hx hb dX6_takeRent_11 (by decide) ?_
      refine lv_icmp_lt (tgt := 25) hx hb dX6_takeRent_12 (by decide) (fun hc => ?_) (fun hc => ?_)
      · have hF := ng_t hc hF
        exact B_25  hF _ _ _ hP hD hS (lv_sub hl [0, 1, 2] rfl)
      · have hF := ng_f hc hF
        refine lv_iload_n hx hb dX6_takeRent_15 rfl (lv_at hl 2 rfl) ?_
        refine lv_bipush (v := (nI 99)) hx hb dX6_takeRent_16 (by decide) ?_
        refine lv_icmp_gt (tgt := 25) hx hb dX6_takeRent_18 (by decide) (fun hc => ?_) (fun hc => ?_)
        · have hF := ng_t hc hF
          exact B_25  hF _ _ _ hP hD hS (lv_sub hl [0, 1, 2] rfl)
        · have hF := ng_f hc hF
          refine lv_iconst (v := (nI 1)) hx hb dX6_takeRent_21 (by decide) ?_
          refine lv_goto (tgt := 26) hx hb dX6_takeRent_22 (by decide) ?_
          exact B_26 (nI 1) hF _ _ _ hP hD hS (lv_sub hl [0, 1, 2] rfl)
theorem hdX6_takeShape : yX6_takeShape.cls ≠ "java/lang/invoke/MethodHandle" ∧ yX6_takeShape.cls ≠ "java/lang/invoke/VarHandle" ∧ (parseMethodDescriptor yX6_takeShape.desc).map (fun d => d.parameters.length) = some 2 := by decide +kernel
set_option maxHeartbeats 40000000 in
set_option maxRecDepth 100000 in
theorem kX6_takeShape (l : Launch) (dC : Nat → ClassId) (dI : Nat → Nat → Nat) (cI : ClassId) (q_th : Nat) (q_th_column : Nat) (q_th_beside : Nat) (sz : Nat) (x_th_kinds : Value) (x_th_damps : Value) (x_th_rentNights : Value) (x_th_rents : Value) (x_th_heirs : Value) (th_columns : Int32) (th_cells : Int32) (th_start : Int32) (th_dampCount : Int32) (th_rentCount : Int32) (th_heirCount : Int32) (th_column : Nat → Int32) (th_beside : Nat → Int32) (p1 : Int32) (p2 : Int32) (N : Nat) (o : Int32 × Int32 × Int32 × (Nat → Int32) × (Nat → Int32)) (hF : fX6_takeShape N th_columns th_cells p1 p2 th_column th_beside = some o) : nx_I l yX6_takeShape wsX6_takeShape ({ frames := 0, cells := 0, slots := 0, locals := 0 } : Room) (dC, dI) cI [.ref q_th, .int p1, .int p2] [(q_th, .inr (6, [x_th_kinds, .ref q_th_column, .ref q_th_beside, x_th_damps, x_th_rentNights, x_th_rents, x_th_heirs, .int th_columns, .int th_cells, .int th_start, .int th_dampCount, .int th_rentCount, .int th_heirCount])), (q_th_column, .inl (cI, 25, .inl th_column)), (q_th_beside, .inl (cI, 100, .inl th_beside))] sz o.1 [(q_th, .inr (6, [x_th_kinds, .ref q_th_column, .ref q_th_beside, x_th_damps, x_th_rentNights, x_th_rents, x_th_heirs, .int o.2.1, .int o.2.2.1, .int th_start, .int th_dampCount, .int th_rentCount, .int th_heirCount])), (q_th_column, .inl (cI, 25, .inl o.2.2.2.1)), (q_th_beside, .inl (cI, 100, .inl o.2.2.2.2))] := by
  refine nx_zint (cc := cX6_takeShape) (maxL := 6) (by decide) rfl (Nat.le_of_ble_eq_true rfl) ?_
  intro p e s m args below meth c Q A S0 hK hN hA ret0 hP hD hS ls hl
  have S0 : CallFix p m c cX6_takeShape 6 s args wsX6_takeShape RX6 := S0
  have hx := S0.1
  have hb := S0.2.1
  have hown := S0.2.2.2.1
  have hts := S0.2.2.2.2
  have hf_33 := hts (.fieldLink RX6 33 "SnailsYear$Yard" "columns" "I") (by decide +kernel)
  have hin_X6 : ∀ w ∈ wsX60, w ∈ wsX6_takeShape := by decide +kernel
  have hf_37 := hts (.fieldLink RX6 37 "SnailsYear$Yard" "cells" "I") (by decide +kernel)
  have hf_15 := hts (.fieldLink RX6 15 "SnailsYear$Yard" "column" "[I") (by decide +kernel)
  have hf_18 := hts (.fieldLink RX6 18 "SnailsYear$Yard" "beside" "[I") (by decide +kernel)
  have hl : lv_has ls 6 [(0, .ref q_th), (1, .int p1), (2, .int p2)] := hl
  have hret : ∀ (r0 : Int32) (y0 : Int32) (y1 : Int32) (y2 : Nat → Int32) (y3 : Nat → Int32) (H : Heap) (locs : List Loc) (ls : Array Slot) (pc : Nat), (r0 = 0 ∨ r0 = 1) → some (r0, y0, y1, y2, y3) = some o → decode cX6_takeShape pc = .ok (.ireturn, 1) → va_P (dC, dI) vwCl [(q_th, .inr (6, [x_th_kinds, .ref q_th_column, .ref q_th_beside, x_th_damps, x_th_rentNights, x_th_rents, x_th_heirs, .int y0, .int y1, .int th_start, .int th_dampCount, .int th_rentCount, .int th_heirCount])), (q_th_column, .inl (cI, 25, .inl y2)), (q_th_beside, .inl (cI, 100, .inl y3))] H → va_D A [(q_th, .inr (6, [x_th_kinds, .ref q_th_column, .ref q_th_beside, x_th_damps, x_th_rentNights, x_th_rents, x_th_heirs, .int y0, .int y1, .int th_start, .int th_dampCount, .int th_rentCount, .int th_heirCount])), (q_th_column, .inl (cI, 25, .inl y2)), (q_th_beside, .inl (cI, 100, .inl y3))] → va_S A s.heap H locs → W p l e ({ frames := 0, cells := 0, slots := 0, locals := 0 } : Room) s m args below meth c H locs 0 0 Q (F0 m pc ls [.int r0]) := by
    intro r0 y0 y1 y2 y3 H locs ls pc hz ho hd hP hD hS
    cases ho
    exact ret0 H locs ls pc hz hd hP hD hS
  rw [fX6_takeShape_e] at hF
  refine lv_iload_n hx hb dX6_takeShape_0 rfl (lv_at hl 1 rfl) ?_
  refine lv_iconst (v := (nI 3)) hx hb dX6_takeShape_1 (by decide) ?_
  refine lv_icmp_lt (tgt := 20) hx hb dX6_takeShape_2 (by decide) (fun hc => ?_) (fun hc => ?_)
  · have hF := ng_t hc hF
    refine lv_iconst (v := (nI 0)) hx hb dX6_takeShape_20 (by decide) ?_
    exact hret (nI 0) th_columns th_cells th_column th_beside _ _ _ _ (Or.inl rfl) hF dX6_takeShape_21 hP hD hS
  · have hF := ng_f hc hF
    refine lv_iload_n hx hb dX6_takeShape_5 rfl (lv_at hl 1 rfl) ?_
    refine lv_iconst (v := (nI 5)) hx hb dX6_takeShape_6 (by decide) ?_
    refine lv_icmp_gt (tgt := 20) hx hb dX6_takeShape_7 (by decide) (fun hc => ?_) (fun hc => ?_)
    · have hF := ng_t hc hF
      refine lv_iconst (v := (nI 0)) hx hb dX6_takeShape_20 (by decide) ?_
      exact hret (nI 0) th_columns th_cells th_column th_beside _ _ _ _ (Or.inl rfl) hF dX6_takeShape_21 hP hD hS
    · have hF := ng_f hc hF
      refine lv_iload_n hx hb dX6_takeShape_10 rfl (lv_at hl 2 rfl) ?_
      refine lv_iconst (v := (nI 2)) hx hb dX6_takeShape_11 (by decide) ?_
      refine lv_icmp_lt (tgt := 20) hx hb dX6_takeShape_12 (by decide) (fun hc => ?_) (fun hc => ?_)
      · have hF := ng_t hc hF
        refine lv_iconst (v := (nI 0)) hx hb dX6_takeShape_20 (by decide) ?_
        exact hret (nI 0) th_columns th_cells th_column th_beside _ _ _ _ (Or.inl rfl) hF dX6_takeShape_21 hP hD hS
      · have hF := ng_f hc hF
        refine lv_iload_n hx hb dX6_takeShape_15 rfl (lv_at hl 2 rfl) ?_
        refine lv_iconst (v := (nI 5)) hx hb dX6_takeShape_16 (by decide) ?_
        refine lv_icmp_le (tgt := 22) hx hb dX6_takeShape_17 (by decide) (fun hc => ?_) (fun hc => ?_)
        · have hF := ng_t hc hF
          refine lv_aload_n hx hb dX6_takeShape_22 rfl (lv_at hl 0 rfl) ?_
          refine lv_iload_n hx hb dX6_takeShape_23 rfl (lv_at hl 2 rfl) ?_
          refine nx_put S0 hK hP hD hS 0 7 hin_X6 tyX6 tyX6_ok nmX6 hf_33 rfl rfl (by decide) rfl rfl rfl rfl (Nat.le_of_ble_eq_true rfl) dX6_takeShape_24 (W1 := [(q_th, .inr (6, [x_th_kinds, .ref q_th_column, .ref q_th_beside, x_th_damps, x_th_rentNights, x_th_rents, x_th_heirs, .int p2, .int th_cells, .int th_start, .int th_dampCount, .int th_rentCount, .int th_heirCount])), (q_th_column, .inl (cI, 25, .inl th_column)), (q_th_beside, .inl (cI, 100, .inl th_beside))]) rfl (fun H locs hP hD hS => ?_)
          refine lv_aload_n hx hb dX6_takeShape_27 rfl (lv_at hl 0 rfl) ?_
          refine lv_iload_n hx hb dX6_takeShape_28 rfl (lv_at hl 1 rfl) ?_
          refine lv_iload_n hx hb dX6_takeShape_29 rfl (lv_at hl 2 rfl) ?_
          refine lv_imul hx hb dX6_takeShape_30 ?_
          refine nx_put S0 hK hP hD hS 0 8 hin_X6 tyX6 tyX6_ok nmX6 hf_37 rfl rfl (by decide) rfl rfl rfl rfl (Nat.le_of_ble_eq_true rfl) dX6_takeShape_31 (W1 := [(q_th, .inr (6, [x_th_kinds, .ref q_th_column, .ref q_th_beside, x_th_damps, x_th_rentNights, x_th_rents, x_th_heirs, .int p2, .int (p1 * p2), .int th_start, .int th_dampCount, .int th_rentCount, .int th_heirCount])), (q_th_column, .inl (cI, 25, .inl th_column)), (q_th_beside, .inl (cI, 100, .inl th_beside))]) rfl (fun H locs hP hD hS => ?_)
          refine lv_iconst (v := (nI 0)) hx hb dX6_takeShape_34 (by decide) ?_
          refine lv_istore_n (lv' := [(3, .int (nI 0)), (0, .ref q_th), (1, .int p1), (2, .int p2)]) hx hb dX6_takeShape_35 rfl hl (by decide) rfl (fun ls hl => ?_)
          refine lv_iconst (v := (nI 0)) hx hb dX6_takeShape_36 (by decide) ?_
          have B_39 : ∀ (n_39 : Nat) (v3_39 : Int32) (v4_39 : Int32) (th_column_39 : Nat → Int32) (th_beside_39 : Nat → Int32), fX6_takeShape_39 N p1 p2 n_39 v3_39 v4_39 th_column_39 th_beside_39 = some o → ∀ (H : Heap) (locs : List Loc) (ls : Array Slot), va_P (dC, dI) vwCl [(q_th, .inr (6, [x_th_kinds, .ref q_th_column, .ref q_th_beside, x_th_damps, x_th_rentNights, x_th_rents, x_th_heirs, .int p2, .int (p1 * p2), .int th_start, .int th_dampCount, .int th_rentCount, .int th_heirCount])), (q_th_column, .inl (cI, 25, .inl th_column_39)), (q_th_beside, .inl (cI, 100, .inl th_beside_39))] H → va_D A [(q_th, .inr (6, [x_th_kinds, .ref q_th_column, .ref q_th_beside, x_th_damps, x_th_rentNights, x_th_rents, x_th_heirs, .int p2, .int (p1 * p2), .int th_start, .int th_dampCount, .int th_rentCount, .int th_heirCount])), (q_th_column, .inl (cI, 25, .inl th_column_39)), (q_th_beside, .inl (cI, 100, .inl th_beside_39))] → va_S A s.heap H locs → lv_has ls 6 [(0, .ref q_th), (1, .int p1), (2, .int p2), (3, .int v3_39), (4, .int v4_39)] → W p l e ({ frames := 0, cells := 0, slots := 0, locals := 0 } : Room) s m args below meth c H locs 0 0 Q (F0 m 39 ls []) := by
            intro n_39
            induction n_39 with
            | zero =>
              intro v3_39 v4_39 th_column_39 th_beside_39 hF
              rw [fX6_takeShape_39_z] at hF
              cases hF
            | succ n_39 ih_39 =>
              intro v3_39 v4_39 th_column_39 th_beside_39 hF H locs ls hP hD hS hl
              rw [fX6_takeShape_39_s] at hF
              refine lv_iload hx hb dX6_takeShape_39 (lv_at hl 4 rfl) ?_
              refine lv_iload_n hx hb dX6_takeShape_41 rfl (lv_at hl 1 rfl) ?_
              refine lv_icmp_ge (tgt := 173) hx hb dX6_takeShape_42 (by decide) (fun hc => ?_) (fun hc => ?_)
              · have hF := ng_t hc hF
                refine lv_iconst (v := (nI 1)) hx hb dX6_takeShape_173 (by decide) ?_
                exact hret (nI 1) p2 (p1 * p2) th_column_39 th_beside_39 _ _ _ _ (Or.inr rfl) hF dX6_takeShape_174 hP hD hS
              · have hF := ng_f hc hF
                refine lv_iconst (v := (nI 0)) hx hb dX6_takeShape_45 (by decide) ?_
                have B_48 : ∀ (n_48 : Nat) (v3_48 : Int32) (v5_48 : Int32) (th_column_48 : Nat → Int32) (th_beside_48 : Nat → Int32), fX6_takeShape_48 p1 p2 v4_39 (fX6_takeShape_39 N p1 p2 n_39) n_48 v3_48 v5_48 th_column_48 th_beside_48 = some o → ∀ (H : Heap) (locs : List Loc) (ls : Array Slot), va_P (dC, dI) vwCl [(q_th, .inr (6, [x_th_kinds, .ref q_th_column, .ref q_th_beside, x_th_damps, x_th_rentNights, x_th_rents, x_th_heirs, .int p2, .int (p1 * p2), .int th_start, .int th_dampCount, .int th_rentCount, .int th_heirCount])), (q_th_column, .inl (cI, 25, .inl th_column_48)), (q_th_beside, .inl (cI, 100, .inl th_beside_48))] H → va_D A [(q_th, .inr (6, [x_th_kinds, .ref q_th_column, .ref q_th_beside, x_th_damps, x_th_rentNights, x_th_rents, x_th_heirs, .int p2, .int (p1 * p2), .int th_start, .int th_dampCount, .int th_rentCount, .int th_heirCount])), (q_th_column, .inl (cI, 25, .inl th_column_48)), (q_th_beside, .inl (cI, 100, .inl th_beside_48))] → va_S A s.heap H locs → lv_has ls 6 [(0, .ref q_th), (1, .int p1), (2, .int p2), (3, .int v3_48), (4, .int v4_39), (5, .int v5_48)] → W p l e ({ frames := 0, cells := 0, slots := 0, locals := 0 } : Room) s m args below meth c H locs 0 0 Q (F0 m 48 ls []) := by
                  intro n_48
                  induction n_48 with
                  | zero =>
                    intro v3_48 v5_48 th_column_48 th_beside_48 hF
                    rw [fX6_takeShape_48_z] at hF
                    cases hF
                  | succ n_48 ih_48 =>
                    intro v3_48 v5_48 th_column_48 th_beside_48 hF H locs ls hP hD hS hl
                    rw [fX6_takeShape_48_s] at hF
                    refine lv_iload hx hb dX6_takeShape_48 (lv_at hl 5 rfl) ?_
                    refine lv_iload_n hx hb dX6_takeShape_50 rfl (lv_at hl 2 rfl) ?_
                    refine lv_icmp_ge (tgt := 167) hx hb dX6_takeShape_51 (by decide) (fun hc => ?_) (fun hc => ?_)
                    · have hF := ng_t hc hF
                      refine lv_iinc (v := v4_39 + (nI 1)) (lv' := [(4, .int (v4_39 + (nI 1))), (0, .ref q_th), (1, .int p1), (2, .int p2), (3, .int v3_48), (5, .int v5_48)]) hx hb dX6_takeShape_167 hl (k := 4) rfl rfl (by decide) rfl (fun ls hl => ?_)
                      refine lv_goto (tgt := 39) hx hb dX6_takeShape_170 (by decide) ?_
                      exact ih_39 v3_48 (v4_39 + (nI 1)) th_column_48 th_beside_48 hF _ _ _ hP hD hS (lv_sub hl [1, 2, 3, 4, 0] rfl)
                    · have hF := ng_f hc hF
                      refine lv_aload_n hx hb dX6_takeShape_54 rfl (lv_at hl 0 rfl) ?_
                      refine nx_get S0 hK hP 0 1 hin_X6 hf_15 rfl rfl (by decide) rfl rfl dX6_takeShape_55 ?_
                      refine lv_iload_n hx hb dX6_takeShape_58 rfl (lv_at hl 3 rfl) ?_
                      refine lv_iload hx hb dX6_takeShape_59 (lv_at hl 5 rfl) ?_
                      have hg := ng_p hF
                      have hF := ng_x hF
                      refine nx_iast S0 hK hP hD hS 1 rfl hg dX6_takeShape_61 (W1 := [(q_th, .inr (6, [x_th_kinds, .ref q_th_column, .ref q_th_beside, x_th_damps, x_th_rentNights, x_th_rents, x_th_heirs, .int p2, .int (p1 * p2), .int th_start, .int th_dampCount, .int th_rentCount, .int th_heirCount])), (q_th_column, .inl (cI, 25, .inl (upd th_column_48 v3_48.toNatClampNeg v5_48))), (q_th_beside, .inl (cI, 100, .inl th_beside_48))]) rfl (fun H locs hP hD hS => ?_)
                      refine lv_aload_n hx hb dX6_takeShape_62 rfl (lv_at hl 0 rfl) ?_
                      refine nx_get S0 hK hP 0 2 hin_X6 hf_18 rfl rfl (by decide) rfl rfl dX6_takeShape_63 ?_
                      refine lv_iload_n hx hb dX6_takeShape_66 rfl (lv_at hl 3 rfl) ?_
                      refine lv_iconst (v := (nI 4)) hx hb dX6_takeShape_67 (by decide) ?_
                      refine lv_imul hx hb dX6_takeShape_68 ?_
                      refine lv_iload hx hb dX6_takeShape_69 (lv_at hl 4 rfl) ?_
                      have B_82 : ∀ (s2_82 : Int32), fX6_takeShape_82 p1 p2 v4_39 v3_48 v5_48 th_column_48 th_beside_48 s2_82 (fX6_takeShape_48 p1 p2 v4_39 (fX6_takeShape_39 N p1 p2 n_39) n_48) = some o → ∀ (H : Heap) (locs : List Loc) (ls : Array Slot), va_P (dC, dI) vwCl [(q_th, .inr (6, [x_th_kinds, .ref q_th_column, .ref q_th_beside, x_th_damps, x_th_rentNights, x_th_rents, x_th_heirs, .int p2, .int (p1 * p2), .int th_start, .int th_dampCount, .int th_rentCount, .int th_heirCount])), (q_th_column, .inl (cI, 25, .inl (upd th_column_48 v3_48.toNatClampNeg v5_48))), (q_th_beside, .inl (cI, 100, .inl th_beside_48))] H → va_D A [(q_th, .inr (6, [x_th_kinds, .ref q_th_column, .ref q_th_beside, x_th_damps, x_th_rentNights, x_th_rents, x_th_heirs, .int p2, .int (p1 * p2), .int th_start, .int th_dampCount, .int th_rentCount, .int th_heirCount])), (q_th_column, .inl (cI, 25, .inl (upd th_column_48 v3_48.toNatClampNeg v5_48))), (q_th_beside, .inl (cI, 100, .inl th_beside_48))] → va_S A s.heap H locs → lv_has ls 6 [(0, .ref q_th), (1, .int p1), (2, .int p2), (3, .int v3_48), (4, .int v4_39), (5, .int v5_48)] → W p l e ({ frames := 0, cells := 0, slots := 0, locals := 0 } : Room) s m args below meth c H locs 0 0 Q (F0 m 82 ls [.int s2_82, .int (v3_48 * (nI 4)), .ref q_th_beside]) := by
                        intro s2_82 hF H locs ls hP hD hS hl
                        rw [fX6_takeShape_82_e] at hF
                        have hg := ng_p hF
                        have hF := ng_x hF
                        refine nx_iast S0 hK hP hD hS 2 rfl hg dX6_takeShape_82 (W1 := [(q_th, .inr (6, [x_th_kinds, .ref q_th_column, .ref q_th_beside, x_th_damps, x_th_rentNights, x_th_rents, x_th_heirs, .int p2, .int (p1 * p2), .int th_start, .int th_dampCount, .int th_rentCount, .int th_heirCount])), (q_th_column, .inl (cI, 25, .inl (upd th_column_48 v3_48.toNatClampNeg v5_48))), (q_th_beside, .inl (cI, 100, .inl (upd th_beside_48 ((v3_48 * (nI 4)).toNatClampNeg) s2_82)))]) rfl (fun H locs hP hD hS => ?_)
                        refine lv_aload_n hx hb dX6_takeShape_83 rfl (lv_at hl 0 rfl) ?_
                        refine nx_get S0 hK hP 0 2 hin_X6 hf_18 rfl rfl (by decide) rfl rfl dX6_takeShape_84 ?_
                        refine lv_iload_n hx hb dX6_takeShape_87 rfl (lv_at hl 3 rfl) ?_
                        refine lv_iconst (v := (nI 4)) hx hb dX6_takeShape_88 (by decide) ?_
                        refine lv_imul hx hb dX6_takeShape_89 ?_
                        refine lv_iconst (v := (nI 1)) hx hb dX6_takeShape_90 (by decide) ?_
                        refine lv_iadd hx hb dX6_takeShape_91 ?_
                        refine lv_iload hx hb dX6_takeShape_92 (lv_at hl 5 rfl) ?_
                        have B_105 : ∀ (s2_105 : Int32), fX6_takeShape_105 p1 p2 v4_39 v3_48 v5_48 th_column_48 th_beside_48 s2_82 s2_105 (fX6_takeShape_48 p1 p2 v4_39 (fX6_takeShape_39 N p1 p2 n_39) n_48) = some o → ∀ (H : Heap) (locs : List Loc) (ls : Array Slot), va_P (dC, dI) vwCl [(q_th, .inr (6, [x_th_kinds, .ref q_th_column, .ref q_th_beside, x_th_damps, x_th_rentNights, x_th_rents, x_th_heirs, .int p2, .int (p1 * p2), .int th_start, .int th_dampCount, .int th_rentCount, .int th_heirCount])), (q_th_column, .inl (cI, 25, .inl (upd th_column_48 v3_48.toNatClampNeg v5_48))), (q_th_beside, .inl (cI, 100, .inl (upd th_beside_48 ((v3_48 * (nI 4)).toNatClampNeg) s2_82)))] H → va_D A [(q_th, .inr (6, [x_th_kinds, .ref q_th_column, .ref q_th_beside, x_th_damps, x_th_rentNights, x_th_rents, x_th_heirs, .int p2, .int (p1 * p2), .int th_start, .int th_dampCount, .int th_rentCount, .int th_heirCount])), (q_th_column, .inl (cI, 25, .inl (upd th_column_48 v3_48.toNatClampNeg v5_48))), (q_th_beside, .inl (cI, 100, .inl (upd th_beside_48 ((v3_48 * (nI 4)).toNatClampNeg) s2_82)))] → va_S A s.heap H locs → lv_has ls 6 [(0, .ref q_th), (1, .int p1), (2, .int p2), (3, .int v3_48), (4, .int v4_39), (5, .int v5_48)] → W p l e ({ frames := 0, cells := 0, slots := 0, locals := 0 } : Room) s m args below meth c H locs 0 0 Q (F0 m 105 ls [.int s2_105, .int ((v3_48 * (nI 4)) + (nI 1)), .ref q_th_beside]) := by
                          intro s2_105 hF H locs ls hP hD hS hl
                          rw [fX6_takeShape_105_e] at hF
                          have hg := ng_p hF
                          have hF := ng_x hF
                          refine nx_iast S0 hK hP hD hS 2 rfl hg dX6_takeShape_105 (W1 := [(q_th, .inr (6, [x_th_kinds, .ref q_th_column, .ref q_th_beside, x_th_damps, x_th_rentNights, x_th_rents, x_th_heirs, .int p2, .int (p1 * p2), .int th_start, .int th_dampCount, .int th_rentCount, .int th_heirCount])), (q_th_column, .inl (cI, 25, .inl (upd th_column_48 v3_48.toNatClampNeg v5_48))), (q_th_beside, .inl (cI, 100, .inl (upd (upd th_beside_48 ((v3_48 * (nI 4)).toNatClampNeg) s2_82) (((v3_48 * (nI 4)) + (nI 1)).toNatClampNeg) s2_105)))]) rfl (fun H locs hP hD hS => ?_)
                          refine lv_aload_n hx hb dX6_takeShape_106 rfl (lv_at hl 0 rfl) ?_
                          refine nx_get S0 hK hP 0 2 hin_X6 hf_18 rfl rfl (by decide) rfl rfl dX6_takeShape_107 ?_
                          refine lv_iload_n hx hb dX6_takeShape_110 rfl (lv_at hl 3 rfl) ?_
                          refine lv_iconst (v := (nI 4)) hx hb dX6_takeShape_111 (by decide) ?_
                          refine lv_imul hx hb dX6_takeShape_112 ?_
                          refine lv_iconst (v := (nI 2)) hx hb dX6_takeShape_113 (by decide) ?_
                          refine lv_iadd hx hb dX6_takeShape_114 ?_
                          refine lv_iload hx hb dX6_takeShape_115 (lv_at hl 5 rfl) ?_
                          refine lv_iload_n hx hb dX6_takeShape_117 rfl (lv_at hl 2 rfl) ?_
                          refine lv_iconst (v := (nI 1)) hx hb dX6_takeShape_118 (by decide) ?_
                          refine lv_isub hx hb dX6_takeShape_119 ?_
                          have B_131 : ∀ (s2_131 : Int32), fX6_takeShape_131 p1 p2 v4_39 v3_48 v5_48 th_column_48 th_beside_48 s2_82 s2_105 s2_131 (fX6_takeShape_48 p1 p2 v4_39 (fX6_takeShape_39 N p1 p2 n_39) n_48) = some o → ∀ (H : Heap) (locs : List Loc) (ls : Array Slot), va_P (dC, dI) vwCl [(q_th, .inr (6, [x_th_kinds, .ref q_th_column, .ref q_th_beside, x_th_damps, x_th_rentNights, x_th_rents, x_th_heirs, .int p2, .int (p1 * p2), .int th_start, .int th_dampCount, .int th_rentCount, .int th_heirCount])), (q_th_column, .inl (cI, 25, .inl (upd th_column_48 v3_48.toNatClampNeg v5_48))), (q_th_beside, .inl (cI, 100, .inl (upd (upd th_beside_48 ((v3_48 * (nI 4)).toNatClampNeg) s2_82) (((v3_48 * (nI 4)) + (nI 1)).toNatClampNeg) s2_105)))] H → va_D A [(q_th, .inr (6, [x_th_kinds, .ref q_th_column, .ref q_th_beside, x_th_damps, x_th_rentNights, x_th_rents, x_th_heirs, .int p2, .int (p1 * p2), .int th_start, .int th_dampCount, .int th_rentCount, .int th_heirCount])), (q_th_column, .inl (cI, 25, .inl (upd th_column_48 v3_48.toNatClampNeg v5_48))), (q_th_beside, .inl (cI, 100, .inl (upd (upd th_beside_48 ((v3_48 * (nI 4)).toNatClampNeg) s2_82) (((v3_48 * (nI 4)) + (nI 1)).toNatClampNeg) s2_105)))] → va_S A s.heap H locs → lv_has ls 6 [(0, .ref q_th), (1, .int p1), (2, .int p2), (3, .int v3_48), (4, .int v4_39), (5, .int v5_48)] → W p l e ({ frames := 0, cells := 0, slots := 0, locals := 0 } : Room) s m args below meth c H locs 0 0 Q (F0 m 131 ls [.int s2_131, .int ((v3_48 * (nI 4)) + (nI 2)), .ref q_th_beside]) := by
                            intro s2_131 hF H locs ls hP hD hS hl
                            rw [fX6_takeShape_131_e] at hF
                            have hg := ng_p hF
                            have hF := ng_x hF
                            refine nx_iast S0 hK hP hD hS 2 rfl hg dX6_takeShape_131 (W1 := [(q_th, .inr (6, [x_th_kinds, .ref q_th_column, .ref q_th_beside, x_th_damps, x_th_rentNights, x_th_rents, x_th_heirs, .int p2, .int (p1 * p2), .int th_start, .int th_dampCount, .int th_rentCount, .int th_heirCount])), (q_th_column, .inl (cI, 25, .inl (upd th_column_48 v3_48.toNatClampNeg v5_48))), (q_th_beside, .inl (cI, 100, .inl (upd (upd (upd th_beside_48 ((v3_48 * (nI 4)).toNatClampNeg) s2_82) (((v3_48 * (nI 4)) + (nI 1)).toNatClampNeg) s2_105) (((v3_48 * (nI 4)) + (nI 2)).toNatClampNeg) s2_131)))]) rfl (fun H locs hP hD hS => ?_)
                            refine lv_aload_n hx hb dX6_takeShape_132 rfl (lv_at hl 0 rfl) ?_
                            refine nx_get S0 hK hP 0 2 hin_X6 hf_18 rfl rfl (by decide) rfl rfl dX6_takeShape_133 ?_
                            refine lv_iload_n hx hb dX6_takeShape_136 rfl (lv_at hl 3 rfl) ?_
                            refine lv_iconst (v := (nI 4)) hx hb dX6_takeShape_137 (by decide) ?_
                            refine lv_imul hx hb dX6_takeShape_138 ?_
                            refine lv_iconst (v := (nI 3)) hx hb dX6_takeShape_139 (by decide) ?_
                            refine lv_iadd hx hb dX6_takeShape_140 ?_
                            refine lv_iload hx hb dX6_takeShape_141 (lv_at hl 4 rfl) ?_
                            refine lv_iload_n hx hb dX6_takeShape_143 rfl (lv_at hl 1 rfl) ?_
                            refine lv_iconst (v := (nI 1)) hx hb dX6_takeShape_144 (by decide) ?_
                            refine lv_isub hx hb dX6_takeShape_145 ?_
                            refine lv_icmp_ge (tgt := 155) hx hb dX6_takeShape_146 (by decide) (fun hc => ?_) (fun hc => ?_)
                            · have hF := ng_t hc hF
                              refine lv_bipush (v := (-4 : Int32)) hx hb dX6_takeShape_155 (by decide) ?_
                              have hg := ng_p hF
                              have hF := ng_x hF
                              refine nx_iast S0 hK hP hD hS 2 rfl hg dX6_takeShape_157 (W1 := [(q_th, .inr (6, [x_th_kinds, .ref q_th_column, .ref q_th_beside, x_th_damps, x_th_rentNights, x_th_rents, x_th_heirs, .int p2, .int (p1 * p2), .int th_start, .int th_dampCount, .int th_rentCount, .int th_heirCount])), (q_th_column, .inl (cI, 25, .inl (upd th_column_48 v3_48.toNatClampNeg v5_48))), (q_th_beside, .inl (cI, 100, .inl (upd (upd (upd (upd th_beside_48 ((v3_48 * (nI 4)).toNatClampNeg) s2_82) (((v3_48 * (nI 4)) + (nI 1)).toNatClampNeg) s2_105) (((v3_48 * (nI 4)) + (nI 2)).toNatClampNeg) s2_131) (((v3_48 * (nI 4)) + (nI 3)).toNatClampNeg) (-4 : Int32))))]) rfl (fun H locs hP hD hS => ?_)
                              refine lv_iinc (v := v3_48 + (nI 1)) (lv' := [(3, .int (v3_48 + (nI 1))), (0, .ref q_th), (1, .int p1), (2, .int p2), (4, .int v4_39), (5, .int v5_48)]) hx hb dX6_takeShape_158 hl (k := 3) rfl rfl (by decide) rfl (fun ls hl => ?_)
                              refine lv_iinc (v := v5_48 + (nI 1)) (lv' := [(5, .int (v5_48 + (nI 1))), (3, .int (v3_48 + (nI 1))), (0, .ref q_th), (1, .int p1), (2, .int p2), (4, .int v4_39)]) hx hb dX6_takeShape_161 hl (k := 5) rfl rfl (by decide) rfl (fun ls hl => ?_)
                              refine lv_goto (tgt := 48) hx hb dX6_takeShape_164 (by decide) ?_
                              exact ih_48 (v3_48 + (nI 1)) (v5_48 + (nI 1)) (upd th_column_48 v3_48.toNatClampNeg v5_48) (upd (upd (upd (upd th_beside_48 ((v3_48 * (nI 4)).toNatClampNeg) s2_82) (((v3_48 * (nI 4)) + (nI 1)).toNatClampNeg) s2_105) (((v3_48 * (nI 4)) + (nI 2)).toNatClampNeg) s2_131) (((v3_48 * (nI 4)) + (nI 3)).toNatClampNeg) (-4 : Int32)) hF _ _ _ hP hD hS (lv_sub hl [2, 3, 4, 1, 5, 0] rfl)
                            · have hF := ng_f hc hF
                              refine lv_iload_n hx hb dX6_takeShape_149 rfl (lv_at hl 3 rfl) ?_
                              refine lv_iload_n hx hb dX6_takeShape_150 rfl (lv_at hl 2 rfl) ?_
                              refine lv_iadd hx hb dX6_takeShape_151 ?_
                              refine lv_goto (tgt := 157) hx hb dX6_takeShape_152 (by decide) ?_
                              have hg := ng_p hF
                              have hF := ng_x hF
                              refine nx_iast S0 hK hP hD hS 2 rfl hg dX6_takeShape_157 (W1 := [(q_th, .inr (6, [x_th_kinds, .ref q_th_column, .ref q_th_beside, x_th_damps, x_th_rentNights, x_th_rents, x_th_heirs, .int p2, .int (p1 * p2), .int th_start, .int th_dampCount, .int th_rentCount, .int th_heirCount])), (q_th_column, .inl (cI, 25, .inl (upd th_column_48 v3_48.toNatClampNeg v5_48))), (q_th_beside, .inl (cI, 100, .inl (upd (upd (upd (upd th_beside_48 ((v3_48 * (nI 4)).toNatClampNeg) s2_82) (((v3_48 * (nI 4)) + (nI 1)).toNatClampNeg) s2_105) (((v3_48 * (nI 4)) + (nI 2)).toNatClampNeg) s2_131) (((v3_48 * (nI 4)) + (nI 3)).toNatClampNeg) (v3_48 + p2))))]) rfl (fun H locs hP hD hS => ?_)
                              refine lv_iinc (v := v3_48 + (nI 1)) (lv' := [(3, .int (v3_48 + (nI 1))), (0, .ref q_th), (1, .int p1), (2, .int p2), (4, .int v4_39), (5, .int v5_48)]) hx hb dX6_takeShape_158 hl (k := 3) rfl rfl (by decide) rfl (fun ls hl => ?_)
                              refine lv_iinc (v := v5_48 + (nI 1)) (lv' := [(5, .int (v5_48 + (nI 1))), (3, .int (v3_48 + (nI 1))), (0, .ref q_th), (1, .int p1), (2, .int p2), (4, .int v4_39)]) hx hb dX6_takeShape_161 hl (k := 5) rfl rfl (by decide) rfl (fun ls hl => ?_)
                              refine lv_goto (tgt := 48) hx hb dX6_takeShape_164 (by decide) ?_
                              exact ih_48 (v3_48 + (nI 1)) (v5_48 + (nI 1)) (upd th_column_48 v3_48.toNatClampNeg v5_48) (upd (upd (upd (upd th_beside_48 ((v3_48 * (nI 4)).toNatClampNeg) s2_82) (((v3_48 * (nI 4)) + (nI 1)).toNatClampNeg) s2_105) (((v3_48 * (nI 4)) + (nI 2)).toNatClampNeg) s2_131) (((v3_48 * (nI 4)) + (nI 3)).toNatClampNeg) (v3_48 + p2)) hF _ _ _ hP hD hS (lv_sub hl [2, 3, 4, 1, 5, 0] rfl)
                          refine lv_icmp_ge (tgt := 129) hx hb dX6_takeShape_120 (by decide) (fun hc => ?_) (fun hc => ?_)
                          · have hF := ng_t hc hF
                            refine lv_bipush (v := (-4 : Int32)) hx hb dX6_takeShape_129 (by decide) ?_
                            exact B_131 (-4 : Int32) hF _ _ _ hP hD hS (lv_sub hl [0, 1, 2, 3, 4, 5] rfl)
                          · have hF := ng_f hc hF
                            refine lv_iload_n hx hb dX6_takeShape_123 rfl (lv_at hl 3 rfl) ?_
                            refine lv_iconst (v := (nI 1)) hx hb dX6_takeShape_124 (by decide) ?_
                            refine lv_iadd hx hb dX6_takeShape_125 ?_
                            refine lv_goto (tgt := 131) hx hb dX6_takeShape_126 (by decide) ?_
                            exact B_131 (v3_48 + (nI 1)) hF _ _ _ hP hD hS (lv_sub hl [0, 1, 2, 3, 4, 5] rfl)
                        refine lv_if_le (tgt := 103) hx hb dX6_takeShape_94 (by decide) (fun hc => ?_) (fun hc => ?_)
                        · have hF := ng_t hc hF
                          refine lv_bipush (v := (-4 : Int32)) hx hb dX6_takeShape_103 (by decide) ?_
                          exact B_105 (-4 : Int32) hF _ _ _ hP hD hS (lv_sub hl [0, 1, 2, 3, 4, 5] rfl)
                        · have hF := ng_f hc hF
                          refine lv_iload_n hx hb dX6_takeShape_97 rfl (lv_at hl 3 rfl) ?_
                          refine lv_iconst (v := (nI 1)) hx hb dX6_takeShape_98 (by decide) ?_
                          refine lv_isub hx hb dX6_takeShape_99 ?_
                          refine lv_goto (tgt := 105) hx hb dX6_takeShape_100 (by decide) ?_
                          exact B_105 (v3_48 - (nI 1)) hF _ _ _ hP hD hS (lv_sub hl [0, 1, 2, 3, 4, 5] rfl)
                      refine lv_if_le (tgt := 80) hx hb dX6_takeShape_71 (by decide) (fun hc => ?_) (fun hc => ?_)
                      · have hF := ng_t hc hF
                        refine lv_bipush (v := (-4 : Int32)) hx hb dX6_takeShape_80 (by decide) ?_
                        exact B_82 (-4 : Int32) hF _ _ _ hP hD hS (lv_sub hl [0, 1, 2, 3, 4, 5] rfl)
                      · have hF := ng_f hc hF
                        refine lv_iload_n hx hb dX6_takeShape_74 rfl (lv_at hl 3 rfl) ?_
                        refine lv_iload_n hx hb dX6_takeShape_75 rfl (lv_at hl 2 rfl) ?_
                        refine lv_isub hx hb dX6_takeShape_76 ?_
                        refine lv_goto (tgt := 82) hx hb dX6_takeShape_77 (by decide) ?_
                        exact B_82 (v3_48 - p2) hF _ _ _ hP hD hS (lv_sub hl [0, 1, 2, 3, 4, 5] rfl)
                refine lv_istore (lv' := [(5, .int (nI 0)), (0, .ref q_th), (1, .int p1), (2, .int p2), (3, .int v3_39), (4, .int v4_39)]) hx hb dX6_takeShape_46 hl (by decide) rfl (fun ls hl => ?_)
                exact B_48 N v3_39 (nI 0) th_column_39 th_beside_39 hF _ _ _ hP hD hS (lv_sub hl [1, 2, 3, 4, 5, 0] rfl)
          refine lv_istore (lv' := [(4, .int (nI 0)), (3, .int (nI 0)), (0, .ref q_th), (1, .int p1), (2, .int p2)]) hx hb dX6_takeShape_37 hl (by decide) rfl (fun ls hl => ?_)
          exact B_39 N (nI 0) (nI 0) th_column th_beside hF _ _ _ hP hD hS (lv_sub hl [2, 3, 4, 1, 0] rfl)
        · have hF := ng_f hc hF
          refine lv_iconst (v := (nI 0)) hx hb dX6_takeShape_20 (by decide) ?_
          exact hret (nI 0) th_columns th_cells th_column th_beside _ _ _ _ (Or.inl rfl) hF dX6_takeShape_21 hP hD hS
theorem hdX6_clear : yX6_clear.cls ≠ "java/lang/invoke/MethodHandle" ∧ yX6_clear.cls ≠ "java/lang/invoke/VarHandle" ∧ (parseMethodDescriptor yX6_clear.desc).map (fun d => d.parameters.length) = some 0 := by decide +kernel
set_option maxHeartbeats 40000000 in
set_option maxRecDepth 100000 in
theorem kX6_clear (l : Launch) (dC : Nat → ClassId) (dI : Nat → Nat → Nat) (cI : ClassId) (q_th : Nat) (q_th_kinds : Nat) (q_th_column : Nat) (q_th_beside : Nat) (sz : Nat) (x_th_damps : Value) (x_th_rentNights : Value) (x_th_rents : Value) (x_th_heirs : Value) (th_columns : Int32) (th_cells : Int32) (th_start : Int32) (th_dampCount : Int32) (th_rentCount : Int32) (th_heirCount : Int32) (th_kinds : Nat → Int32) (th_column : Nat → Int32) (th_beside : Nat → Int32) (N : Nat) (o : Int32 × Int32 × Int32 × Int32 × Int32 × Int32 × (Nat → Int32) × (Nat → Int32) × (Nat → Int32)) (hF : fX6_clear N th_columns th_cells th_kinds th_column th_beside = some o) : nx_V l yX6_clear wsX6_clear ({ frames := 1, cells := 0, slots := 0, locals := 25 } : Room) (dC, dI) cI [.ref q_th] [(q_th, .inr (6, [.ref q_th_kinds, .ref q_th_column, .ref q_th_beside, x_th_damps, x_th_rentNights, x_th_rents, x_th_heirs, .int th_columns, .int th_cells, .int th_start, .int th_dampCount, .int th_rentCount, .int th_heirCount])), (q_th_kinds, .inl (cI, 25, .inl th_kinds)), (q_th_column, .inl (cI, 25, .inl th_column)), (q_th_beside, .inl (cI, 100, .inl th_beside))] sz [(q_th, .inr (6, [.ref q_th_kinds, .ref q_th_column, .ref q_th_beside, x_th_damps, x_th_rentNights, x_th_rents, x_th_heirs, .int o.1, .int o.2.1, .int o.2.2.1, .int o.2.2.2.1, .int o.2.2.2.2.1, .int o.2.2.2.2.2.1])), (q_th_kinds, .inl (cI, 25, .inl o.2.2.2.2.2.2.1)), (q_th_column, .inl (cI, 25, .inl o.2.2.2.2.2.2.2.1)), (q_th_beside, .inl (cI, 100, .inl o.2.2.2.2.2.2.2.2))] := by
  refine nx_void (cc := cX6_clear) (maxL := 1) (by decide) rfl (Nat.le_of_ble_eq_true rfl) ?_
  intro p e s m args below meth c Q A S0 hK hN hA ret0 hP hD hS ls hl
  have S0 : CallFix p m c cX6_clear 1 s args wsX6_clear RX6 := S0
  have hx := S0.1
  have hb := S0.2.1
  have hown := S0.2.2.2.1
  have hts := S0.2.2.2.2
  have hf_9 := hts (.fieldLink RX6 9 "SnailsYear$Yard" "kinds" "[I") (by decide +kernel)
  have hin_X6 : ∀ w ∈ wsX60, w ∈ wsX6_clear := by decide +kernel
  have hf_40 := hts (.fieldLink RX6 40 "SnailsYear$Yard" "start" "I") (by decide +kernel)
  have hf_43 := hts (.fieldLink RX6 43 "SnailsYear$Yard" "dampCount" "I") (by decide +kernel)
  have hf_46 := hts (.fieldLink RX6 46 "SnailsYear$Yard" "rentCount" "I") (by decide +kernel)
  have hf_49 := hts (.fieldLink RX6 49 "SnailsYear$Yard" "heirCount" "I") (by decide +kernel)
  have hl : lv_has ls 1 [(0, .ref q_th)] := hl
  have hret : ∀ (y0 : Int32) (y1 : Int32) (y2 : Int32) (y3 : Int32) (y4 : Int32) (y5 : Int32) (y6 : Nat → Int32) (y7 : Nat → Int32) (y8 : Nat → Int32) (H : Heap) (locs : List Loc) (ls : Array Slot) (pc : Nat), some (y0, y1, y2, y3, y4, y5, y6, y7, y8) = some o → decode cX6_clear pc = .ok (.return_, 1) → va_P (dC, dI) vwCl [(q_th, .inr (6, [.ref q_th_kinds, .ref q_th_column, .ref q_th_beside, x_th_damps, x_th_rentNights, x_th_rents, x_th_heirs, .int y0, .int y1, .int y2, .int y3, .int y4, .int y5])), (q_th_kinds, .inl (cI, 25, .inl y6)), (q_th_column, .inl (cI, 25, .inl y7)), (q_th_beside, .inl (cI, 100, .inl y8))] H → va_D A [(q_th, .inr (6, [.ref q_th_kinds, .ref q_th_column, .ref q_th_beside, x_th_damps, x_th_rentNights, x_th_rents, x_th_heirs, .int y0, .int y1, .int y2, .int y3, .int y4, .int y5])), (q_th_kinds, .inl (cI, 25, .inl y6)), (q_th_column, .inl (cI, 25, .inl y7)), (q_th_beside, .inl (cI, 100, .inl y8))] → va_S A s.heap H locs → W p l e ({ frames := 1, cells := 0, slots := 0, locals := 25 } : Room) s m args below meth c H locs 0 0 Q (F0 m pc ls []) := by
    intro y0 y1 y2 y3 y4 y5 y6 y7 y8 H locs ls pc ho hd hP hD hS
    cases ho
    exact ret0 H locs ls pc hd hP hD hS
  rw [fX6_clear_e] at hF
  refine lv_aload_n hx hb dX6_clear_0 rfl (lv_at hl 0 rfl) ?_
  refine nx_get S0 hK hP 0 0 hin_X6 hf_9 rfl rfl (by decide) rfl rfl dX6_clear_1 ?_
  refine lv_iconst (v := (nI 0)) hx hb dX6_clear_4 (by decide) ?_
  obtain ⟨o5, hF1, hF⟩ := ng_b hF
  refine nx_callSv (As := [.ref q_th_kinds, .int (nI 0)]) (rest := []) (W1 := [(q_th, .inr (6, [.ref q_th_kinds, .ref q_th_column, .ref q_th_beside, x_th_damps, x_th_rentNights, x_th_rents, x_th_heirs, .int th_columns, .int th_cells, .int th_start, .int th_dampCount, .int th_rentCount, .int th_heirCount])), (q_th_kinds, .inl (cI, 25, .inl o5)), (q_th_column, .inl (cI, 25, .inl th_column)), (q_th_beside, .inl (cI, 100, .inl th_beside))]) (wr := [(q_th, .inr (6, [.ref q_th_kinds, .ref q_th_column, .ref q_th_beside, x_th_damps, x_th_rentNights, x_th_rents, x_th_heirs, .int th_columns, .int th_cells, .int th_start, .int th_dampCount, .int th_rentCount, .int th_heirCount])), (q_th_column, .inl (cI, 25, .inl th_column)), (q_th_beside, .inl (cI, 100, .inl th_beside))]) S0 hK hN hA hP hD hS (kJ7_fill_53178 l dC dI cI q_th_kinds 25 _ th_kinds (nI 0) N o5 hF1) (va_cwS 2 hts gX6_clear_J7_fill_53178 rfl rfl rfl hdJ7_fill_53178 ⟨Nat.le_of_ble_eq_true rfl, Nat.le_of_ble_eq_true rfl⟩) [1] [0, 2, 3] [0, 3, 1, 2] rfl rfl rfl rfl rfl hl.1 rfl (Nat.le_of_ble_eq_true rfl) dX6_clear_5 (fun H locs hP hD hS => ?_)
  refine lv_aload_n hx hb dX6_clear_8 rfl (lv_at hl 0 rfl) ?_
  refine lv_iconst (v := (nI 0)) hx hb dX6_clear_9 (by decide) ?_
  refine nx_put S0 hK hP hD hS 0 9 hin_X6 tyX6 tyX6_ok nmX6 hf_40 rfl rfl (by decide) rfl rfl rfl rfl (Nat.le_of_ble_eq_true rfl) dX6_clear_10 (W1 := [(q_th, .inr (6, [.ref q_th_kinds, .ref q_th_column, .ref q_th_beside, x_th_damps, x_th_rentNights, x_th_rents, x_th_heirs, .int th_columns, .int th_cells, .int (nI 0), .int th_dampCount, .int th_rentCount, .int th_heirCount])), (q_th_kinds, .inl (cI, 25, .inl o5)), (q_th_column, .inl (cI, 25, .inl th_column)), (q_th_beside, .inl (cI, 100, .inl th_beside))]) rfl (fun H locs hP hD hS => ?_)
  refine lv_aload_n hx hb dX6_clear_13 rfl (lv_at hl 0 rfl) ?_
  refine lv_iconst (v := (nI 0)) hx hb dX6_clear_14 (by decide) ?_
  refine nx_put S0 hK hP hD hS 0 10 hin_X6 tyX6 tyX6_ok nmX6 hf_43 rfl rfl (by decide) rfl rfl rfl rfl (Nat.le_of_ble_eq_true rfl) dX6_clear_15 (W1 := [(q_th, .inr (6, [.ref q_th_kinds, .ref q_th_column, .ref q_th_beside, x_th_damps, x_th_rentNights, x_th_rents, x_th_heirs, .int th_columns, .int th_cells, .int (nI 0), .int (nI 0), .int th_rentCount, .int th_heirCount])), (q_th_kinds, .inl (cI, 25, .inl o5)), (q_th_column, .inl (cI, 25, .inl th_column)), (q_th_beside, .inl (cI, 100, .inl th_beside))]) rfl (fun H locs hP hD hS => ?_)
  refine lv_aload_n hx hb dX6_clear_18 rfl (lv_at hl 0 rfl) ?_
  refine lv_iconst (v := (nI 0)) hx hb dX6_clear_19 (by decide) ?_
  refine nx_put S0 hK hP hD hS 0 11 hin_X6 tyX6 tyX6_ok nmX6 hf_46 rfl rfl (by decide) rfl rfl rfl rfl (Nat.le_of_ble_eq_true rfl) dX6_clear_20 (W1 := [(q_th, .inr (6, [.ref q_th_kinds, .ref q_th_column, .ref q_th_beside, x_th_damps, x_th_rentNights, x_th_rents, x_th_heirs, .int th_columns, .int th_cells, .int (nI 0), .int (nI 0), .int (nI 0), .int th_heirCount])), (q_th_kinds, .inl (cI, 25, .inl o5)), (q_th_column, .inl (cI, 25, .inl th_column)), (q_th_beside, .inl (cI, 100, .inl th_beside))]) rfl (fun H locs hP hD hS => ?_)
  refine lv_aload_n hx hb dX6_clear_23 rfl (lv_at hl 0 rfl) ?_
  refine lv_iconst (v := (nI 0)) hx hb dX6_clear_24 (by decide) ?_
  refine nx_put S0 hK hP hD hS 0 12 hin_X6 tyX6 tyX6_ok nmX6 hf_49 rfl rfl (by decide) rfl rfl rfl rfl (Nat.le_of_ble_eq_true rfl) dX6_clear_25 (W1 := [(q_th, .inr (6, [.ref q_th_kinds, .ref q_th_column, .ref q_th_beside, x_th_damps, x_th_rentNights, x_th_rents, x_th_heirs, .int th_columns, .int th_cells, .int (nI 0), .int (nI 0), .int (nI 0), .int (nI 0)])), (q_th_kinds, .inl (cI, 25, .inl o5)), (q_th_column, .inl (cI, 25, .inl th_column)), (q_th_beside, .inl (cI, 100, .inl th_beside))]) rfl (fun H locs hP hD hS => ?_)
  refine lv_aload_n hx hb dX6_clear_28 rfl (lv_at hl 0 rfl) ?_
  refine lv_iconst (v := (nI 5)) hx hb dX6_clear_29 (by decide) ?_
  refine lv_iconst (v := (nI 4)) hx hb dX6_clear_30 (by decide) ?_
  obtain ⟨o31, hF1, hF⟩ := ng_b hF
  refine nx_callVi (As := [.int (nI 5), .int (nI 4)]) (rest := []) (W1 := [(q_th, .inr (6, [.ref q_th_kinds, .ref q_th_column, .ref q_th_beside, x_th_damps, x_th_rentNights, x_th_rents, x_th_heirs, .int o31.2.1, .int o31.2.2.1, .int (nI 0), .int (nI 0), .int (nI 0), .int (nI 0)])), (q_th_kinds, .inl (cI, 25, .inl o5)), (q_th_column, .inl (cI, 25, .inl o31.2.2.2.1)), (q_th_beside, .inl (cI, 100, .inl o31.2.2.2.2))]) (wr := [(q_th_kinds, .inl (cI, 25, .inl o5))]) S0 hK hN hA hP hD hS (kX6_takeShape l dC dI cI q_th q_th_column q_th_beside _ (.ref q_th_kinds) (x_th_damps) (x_th_rentNights) (x_th_rents) (x_th_heirs) th_columns th_cells (nI 0) (nI 0) (nI 0) (nI 0) th_column th_beside (nI 5) (nI 4) N o31 hF1) (cwV 2 hts gX6_clear_X6_takeShape rfl rfl rfl ⟨rfl, hdX6_takeShape⟩ ⟨Nat.le_of_ble_eq_true rfl, Nat.le_of_ble_eq_true rfl⟩) [0, 2, 3] [1] [1, 0, 2, 3] rfl rfl rfl rfl 0 6 rfl rfl rfl rfl hl.1 rfl (Nat.le_of_ble_eq_true rfl) dX6_clear_31 (fun H locs hP hD hS => ?_)
  refine lv_pop hx hb dX6_clear_34 rfl ?_
  exact hret o31.2.1 o31.2.2.1 (nI 0) (nI 0) (nI 0) (nI 0) o5 o31.2.2.2.1 o31.2.2.2.2 _ _ _ _ hF dX6_clear_35 hP hD hS
theorem hdX6_letOff : yX6_letOff.cls ≠ "java/lang/invoke/MethodHandle" ∧ yX6_letOff.cls ≠ "java/lang/invoke/VarHandle" ∧ (parseMethodDescriptor yX6_letOff.desc).map (fun d => d.parameters.length) = some 0 := by decide +kernel
set_option maxHeartbeats 40000000 in
set_option maxRecDepth 100000 in
theorem kX6_letOff (l : Launch) (dC : Nat → ClassId) (dI : Nat → Nat → Nat) (cI : ClassId) (q_th : Nat) (q_th_kinds : Nat) (sz : Nat) (x_th_column : Value) (x_th_beside : Value) (x_th_damps : Value) (x_th_rentNights : Value) (x_th_rents : Value) (x_th_heirs : Value) (th_columns : Int32) (th_cells : Int32) (th_start : Int32) (th_dampCount : Int32) (th_rentCount : Int32) (th_heirCount : Int32) (th_kinds : Nat → Int32) (N : Nat) (o : (Nat → Int32)) (hF : fX6_letOff N th_cells th_start th_kinds = some o) : nx_V l yX6_letOff wsX6_letOff ({ frames := 1, cells := 0, slots := 0, locals := 21 } : Room) (dC, dI) cI [.ref q_th] [(q_th, .inr (6, [.ref q_th_kinds, x_th_column, x_th_beside, x_th_damps, x_th_rentNights, x_th_rents, x_th_heirs, .int th_columns, .int th_cells, .int th_start, .int th_dampCount, .int th_rentCount, .int th_heirCount])), (q_th_kinds, .inl (cI, 25, .inl th_kinds))] sz [(q_th, .inr (6, [.ref q_th_kinds, x_th_column, x_th_beside, x_th_damps, x_th_rentNights, x_th_rents, x_th_heirs, .int th_columns, .int th_cells, .int th_start, .int th_dampCount, .int th_rentCount, .int th_heirCount])), (q_th_kinds, .inl (cI, 25, .inl o))] := by
  refine nx_void (cc := cX6_letOff) (maxL := 1) (by decide) rfl (Nat.le_of_ble_eq_true rfl) ?_
  intro p e s m args below meth c Q A S0 hK hN hA ret0 hP hD hS ls hl
  have S0 : CallFix p m c cX6_letOff 1 s args wsX6_letOff RX6 := S0
  have hx := S0.1
  have hb := S0.2.1
  have hown := S0.2.2.2.1
  have hts := S0.2.2.2.2
  have hf_40 := hts (.fieldLink RX6 40 "SnailsYear$Yard" "start" "I") (by decide +kernel)
  have hin_X6 : ∀ w ∈ wsX60, w ∈ wsX6_letOff := by decide +kernel
  have hf_9 := hts (.fieldLink RX6 9 "SnailsYear$Yard" "kinds" "[I") (by decide +kernel)
  have hl : lv_has ls 1 [(0, .ref q_th)] := hl
  have hret : ∀ (y0 : Nat → Int32) (H : Heap) (locs : List Loc) (ls : Array Slot) (pc : Nat), some y0 = some o → decode cX6_letOff pc = .ok (.return_, 1) → va_P (dC, dI) vwCl [(q_th, .inr (6, [.ref q_th_kinds, x_th_column, x_th_beside, x_th_damps, x_th_rentNights, x_th_rents, x_th_heirs, .int th_columns, .int th_cells, .int th_start, .int th_dampCount, .int th_rentCount, .int th_heirCount])), (q_th_kinds, .inl (cI, 25, .inl y0))] H → va_D A [(q_th, .inr (6, [.ref q_th_kinds, x_th_column, x_th_beside, x_th_damps, x_th_rentNights, x_th_rents, x_th_heirs, .int th_columns, .int th_cells, .int th_start, .int th_dampCount, .int th_rentCount, .int th_heirCount])), (q_th_kinds, .inl (cI, 25, .inl y0))] → va_S A s.heap H locs → W p l e ({ frames := 1, cells := 0, slots := 0, locals := 21 } : Room) s m args below meth c H locs 0 0 Q (F0 m pc ls []) := by
    intro y0 H locs ls pc ho hd hP hD hS
    cases ho
    exact ret0 H locs ls pc hd hP hD hS
  rw [fX6_letOff_e] at hF
  refine lv_aload_n hx hb dX6_letOff_0 rfl (lv_at hl 0 rfl) ?_
  refine lv_aload_n hx hb dX6_letOff_1 rfl (lv_at hl 0 rfl) ?_
  refine nx_get S0 hK hP 0 9 hin_X6 hf_40 rfl rfl (by decide) rfl rfl dX6_letOff_2 ?_
  obtain ⟨o5, hF1, hF⟩ := ng_b hF
  refine nx_callVi (As := [.int th_start]) (rest := []) (W1 := [(q_th, .inr (6, [.ref q_th_kinds, x_th_column, x_th_beside, x_th_damps, x_th_rentNights, x_th_rents, x_th_heirs, .int th_columns, .int th_cells, .int th_start, .int th_dampCount, .int th_rentCount, .int th_heirCount])), (q_th_kinds, .inl (cI, 25, .inl th_kinds))]) (wr := []) S0 hK hN hA hP hD hS (kX6_has l dC dI cI q_th q_th_kinds _ (x_th_column) (x_th_beside) (x_th_damps) (x_th_rentNights) (x_th_rents) (x_th_heirs) th_columns th_cells th_start th_dampCount th_rentCount th_heirCount th_kinds th_start N o5 hF1) (cwV 1 hts gX6_letOff_X6_has rfl rfl rfl ⟨rfl, hdX6_has⟩ ⟨Nat.le_of_ble_eq_true rfl, Nat.le_of_ble_eq_true rfl⟩) [0, 1] [] [0, 1] rfl rfl rfl rfl 0 6 rfl rfl rfl rfl hl.1 rfl (Nat.le_of_ble_eq_true rfl) dX6_letOff_5 (fun H locs hP hD hS => ?_)
  refine lv_if_eq (tgt := 21) hx hb dX6_letOff_8 (by decide) (fun hc => ?_) (fun hc => ?_)
  · have hF := ng_t hc hF
    exact hret th_kinds _ _ _ _ hF dX6_letOff_21 hP hD hS
  · have hF := ng_f hc hF
    refine lv_aload_n hx hb dX6_letOff_11 rfl (lv_at hl 0 rfl) ?_
    refine nx_get S0 hK hP 0 0 hin_X6 hf_9 rfl rfl (by decide) rfl rfl dX6_letOff_12 ?_
    refine lv_aload_n hx hb dX6_letOff_15 rfl (lv_at hl 0 rfl) ?_
    refine nx_get S0 hK hP 0 9 hin_X6 hf_40 rfl rfl (by decide) rfl rfl dX6_letOff_16 ?_
    refine lv_iconst (v := (nI 0)) hx hb dX6_letOff_19 (by decide) ?_
    have hg := ng_p hF
    have hF := ng_x hF
    refine nx_iast S0 hK hP hD hS 1 rfl hg dX6_letOff_20 (W1 := [(q_th, .inr (6, [.ref q_th_kinds, x_th_column, x_th_beside, x_th_damps, x_th_rentNights, x_th_rents, x_th_heirs, .int th_columns, .int th_cells, .int th_start, .int th_dampCount, .int th_rentCount, .int th_heirCount])), (q_th_kinds, .inl (cI, 25, .inl (upd th_kinds th_start.toNatClampNeg (nI 0))))]) rfl (fun H locs hP hD hS => ?_)
    exact hret (upd th_kinds th_start.toNatClampNeg (nI 0)) _ _ _ _ hF dX6_letOff_21 hP hD hS
theorem hdX6_isOfLine : yX6_isOfLine.cls ≠ "java/lang/invoke/MethodHandle" ∧ yX6_isOfLine.cls ≠ "java/lang/invoke/VarHandle" ∧ (parseMethodDescriptor yX6_isOfLine.desc).map (fun d => d.parameters.length) = some 1 := by decide +kernel
set_option maxHeartbeats 40000000 in
set_option maxRecDepth 100000 in
theorem kX6_isOfLine (l : Launch) (dC : Nat → ClassId) (dI : Nat → Nat → Nat) (cI : ClassId) (q_th : Nat) (sz : Nat) (x_th_kinds : Value) (x_th_column : Value) (x_th_beside : Value) (x_th_damps : Value) (x_th_rentNights : Value) (x_th_rents : Value) (x_th_heirs : Value) (th_columns : Int32) (th_cells : Int32) (th_start : Int32) (th_dampCount : Int32) (th_rentCount : Int32) (th_heirCount : Int32) (p1 : Int32) (N : Nat) (o : Int32) (hF : fX6_isOfLine N th_columns th_cells p1 = some o) : nx_I l yX6_isOfLine wsX6_isOfLine ({ frames := 0, cells := 0, slots := 0, locals := 0 } : Room) (dC, dI) cI [.ref q_th, .int p1] [(q_th, .inr (6, [x_th_kinds, x_th_column, x_th_beside, x_th_damps, x_th_rentNights, x_th_rents, x_th_heirs, .int th_columns, .int th_cells, .int th_start, .int th_dampCount, .int th_rentCount, .int th_heirCount]))] sz o [(q_th, .inr (6, [x_th_kinds, x_th_column, x_th_beside, x_th_damps, x_th_rentNights, x_th_rents, x_th_heirs, .int th_columns, .int th_cells, .int th_start, .int th_dampCount, .int th_rentCount, .int th_heirCount]))] := by
  refine nx_zint (cc := cX6_isOfLine) (maxL := 2) (by decide) rfl (Nat.le_of_ble_eq_true rfl) ?_
  intro p e s m args below meth c Q A S0 hK hN hA ret0 hP hD hS ls hl
  have S0 : CallFix p m c cX6_isOfLine 2 s args wsX6_isOfLine RX6 := S0
  have hx := S0.1
  have hb := S0.2.1
  have hown := S0.2.2.2.1
  have hts := S0.2.2.2.2
  have hf_37 := hts (.fieldLink RX6 37 "SnailsYear$Yard" "cells" "I") (by decide +kernel)
  have hin_X6 : ∀ w ∈ wsX60, w ∈ wsX6_isOfLine := by decide +kernel
  have hf_33 := hts (.fieldLink RX6 33 "SnailsYear$Yard" "columns" "I") (by decide +kernel)
  have hl : lv_has ls 2 [(0, .ref q_th), (1, .int p1)] := hl
  have hret : ∀ (r0 : Int32) (H : Heap) (locs : List Loc) (ls : Array Slot) (pc : Nat), (r0 = 0 ∨ r0 = 1) → some r0 = some o → decode cX6_isOfLine pc = .ok (.ireturn, 1) → va_P (dC, dI) vwCl [(q_th, .inr (6, [x_th_kinds, x_th_column, x_th_beside, x_th_damps, x_th_rentNights, x_th_rents, x_th_heirs, .int th_columns, .int th_cells, .int th_start, .int th_dampCount, .int th_rentCount, .int th_heirCount]))] H → va_D A [(q_th, .inr (6, [x_th_kinds, x_th_column, x_th_beside, x_th_damps, x_th_rentNights, x_th_rents, x_th_heirs, .int th_columns, .int th_cells, .int th_start, .int th_dampCount, .int th_rentCount, .int th_heirCount]))] → va_S A s.heap H locs → W p l e ({ frames := 0, cells := 0, slots := 0, locals := 0 } : Room) s m args below meth c H locs 0 0 Q (F0 m pc ls [.int r0]) := by
    intro r0 H locs ls pc hz ho hd hP hD hS
    cases ho
    exact ret0 H locs ls pc hz hd hP hD hS
  rw [fX6_isOfLine_e] at hF
  refine lv_iload_n hx hb dX6_isOfLine_0 rfl (lv_at hl 1 rfl) ?_
  refine lv_aload_n hx hb dX6_isOfLine_1 rfl (lv_at hl 0 rfl) ?_
  refine nx_get S0 hK hP 0 8 hin_X6 hf_37 rfl rfl (by decide) rfl rfl dX6_isOfLine_2 ?_
  refine lv_aload_n hx hb dX6_isOfLine_5 rfl (lv_at hl 0 rfl) ?_
  refine nx_get S0 hK hP 0 7 hin_X6 hf_33 rfl rfl (by decide) rfl rfl dX6_isOfLine_6 ?_
  refine lv_isub hx hb dX6_isOfLine_9 ?_
  refine lv_icmp_lt (tgt := 25) hx hb dX6_isOfLine_10 (by decide) (fun hc => ?_) (fun hc => ?_)
  · have hF := ng_t hc hF
    refine lv_iconst (v := (nI 0)) hx hb dX6_isOfLine_25 (by decide) ?_
    exact hret (nI 0) _ _ _ _ (Or.inl rfl) hF dX6_isOfLine_26 hP hD hS
  · have hF := ng_f hc hF
    refine lv_iload_n hx hb dX6_isOfLine_13 rfl (lv_at hl 1 rfl) ?_
    refine lv_aload_n hx hb dX6_isOfLine_14 rfl (lv_at hl 0 rfl) ?_
    refine nx_get S0 hK hP 0 8 hin_X6 hf_37 rfl rfl (by decide) rfl rfl dX6_isOfLine_15 ?_
    refine lv_icmp_ge (tgt := 25) hx hb dX6_isOfLine_18 (by decide) (fun hc => ?_) (fun hc => ?_)
    · have hF := ng_t hc hF
      refine lv_iconst (v := (nI 0)) hx hb dX6_isOfLine_25 (by decide) ?_
      exact hret (nI 0) _ _ _ _ (Or.inl rfl) hF dX6_isOfLine_26 hP hD hS
    · have hF := ng_f hc hF
      refine lv_iconst (v := (nI 1)) hx hb dX6_isOfLine_21 (by decide) ?_
      refine lv_goto (tgt := 26) hx hb dX6_isOfLine_22 (by decide) ?_
      exact hret (nI 1) _ _ _ _ (Or.inr rfl) hF dX6_isOfLine_26 hP hD hS
theorem hdX6_besideAt : yX6_besideAt.cls ≠ "java/lang/invoke/MethodHandle" ∧ yX6_besideAt.cls ≠ "java/lang/invoke/VarHandle" ∧ (parseMethodDescriptor yX6_besideAt.desc).map (fun d => d.parameters.length) = some 2 := by decide +kernel
set_option maxHeartbeats 40000000 in
set_option maxRecDepth 100000 in
theorem kX6_besideAt (l : Launch) (dC : Nat → ClassId) (dI : Nat → Nat → Nat) (cI : ClassId) (q_th : Nat) (q_th_beside : Nat) (sz : Nat) (x_th_kinds : Value) (x_th_column : Value) (x_th_damps : Value) (x_th_rentNights : Value) (x_th_rents : Value) (x_th_heirs : Value) (th_columns : Int32) (th_cells : Int32) (th_start : Int32) (th_dampCount : Int32) (th_rentCount : Int32) (th_heirCount : Int32) (th_beside : Nat → Int32) (p1 : Int32) (p2 : Int32) (N : Nat) (o : Int32) (hF : fX6_besideAt N p1 p2 th_beside = some o) : nx_I l yX6_besideAt wsX6_besideAt ({ frames := 0, cells := 0, slots := 0, locals := 0 } : Room) (dC, dI) cI [.ref q_th, .int p1, .int p2] [(q_th, .inr (6, [x_th_kinds, x_th_column, .ref q_th_beside, x_th_damps, x_th_rentNights, x_th_rents, x_th_heirs, .int th_columns, .int th_cells, .int th_start, .int th_dampCount, .int th_rentCount, .int th_heirCount])), (q_th_beside, .inl (cI, 100, .inl th_beside))] sz o [(q_th, .inr (6, [x_th_kinds, x_th_column, .ref q_th_beside, x_th_damps, x_th_rentNights, x_th_rents, x_th_heirs, .int th_columns, .int th_cells, .int th_start, .int th_dampCount, .int th_rentCount, .int th_heirCount])), (q_th_beside, .inl (cI, 100, .inl th_beside))] := by
  refine nx_int (cc := cX6_besideAt) (maxL := 4) (by decide) rfl (Nat.le_of_ble_eq_true rfl) ?_
  intro p e s m args below meth c Q A S0 hK hN hA ret0 hP hD hS ls hl
  have S0 : CallFix p m c cX6_besideAt 4 s args wsX6_besideAt RX6 := S0
  have hx := S0.1
  have hb := S0.2.1
  have hown := S0.2.2.2.1
  have hts := S0.2.2.2.2
  have hf_18 := hts (.fieldLink RX6 18 "SnailsYear$Yard" "beside" "[I") (by decide +kernel)
  have hin_X6 : ∀ w ∈ wsX60, w ∈ wsX6_besideAt := by decide +kernel
  have hl : lv_has ls 4 [(0, .ref q_th), (1, .int p1), (2, .int p2)] := hl
  have hret : ∀ (r0 : Int32) (H : Heap) (locs : List Loc) (ls : Array Slot) (pc : Nat), some r0 = some o → decode cX6_besideAt pc = .ok (.ireturn, 1) → va_P (dC, dI) vwCl [(q_th, .inr (6, [x_th_kinds, x_th_column, .ref q_th_beside, x_th_damps, x_th_rentNights, x_th_rents, x_th_heirs, .int th_columns, .int th_cells, .int th_start, .int th_dampCount, .int th_rentCount, .int th_heirCount])), (q_th_beside, .inl (cI, 100, .inl th_beside))] H → va_D A [(q_th, .inr (6, [x_th_kinds, x_th_column, .ref q_th_beside, x_th_damps, x_th_rentNights, x_th_rents, x_th_heirs, .int th_columns, .int th_cells, .int th_start, .int th_dampCount, .int th_rentCount, .int th_heirCount])), (q_th_beside, .inl (cI, 100, .inl th_beside))] → va_S A s.heap H locs → W p l e ({ frames := 0, cells := 0, slots := 0, locals := 0 } : Room) s m args below meth c H locs 0 0 Q (F0 m pc ls [.int r0]) := by
    intro r0 H locs ls pc ho hd hP hD hS
    cases ho
    exact ret0 H locs ls pc hd hP hD hS
  rw [fX6_besideAt_e] at hF
  refine lv_iload_n hx hb dX6_besideAt_0 rfl (lv_at hl 1 rfl) ?_
  have B_24 : ∀ (s0_24 : Int32), fX6_besideAt_24 p1 p2 th_beside s0_24 = some o → ∀ (H : Heap) (locs : List Loc) (ls : Array Slot), va_P (dC, dI) vwCl [(q_th, .inr (6, [x_th_kinds, x_th_column, .ref q_th_beside, x_th_damps, x_th_rentNights, x_th_rents, x_th_heirs, .int th_columns, .int th_cells, .int th_start, .int th_dampCount, .int th_rentCount, .int th_heirCount])), (q_th_beside, .inl (cI, 100, .inl th_beside))] H → va_D A [(q_th, .inr (6, [x_th_kinds, x_th_column, .ref q_th_beside, x_th_damps, x_th_rentNights, x_th_rents, x_th_heirs, .int th_columns, .int th_cells, .int th_start, .int th_dampCount, .int th_rentCount, .int th_heirCount])), (q_th_beside, .inl (cI, 100, .inl th_beside))] → va_S A s.heap H locs → lv_has ls 4 [(0, .ref q_th), (1, .int p1), (2, .int p2)] → W p l e ({ frames := 0, cells := 0, slots := 0, locals := 0 } : Room) s m args below meth c H locs 0 0 Q (F0 m 24 ls [.int s0_24]) := by
    intro s0_24 hF H locs ls hP hD hS hl
    rw [fX6_besideAt_24_e] at hF
    refine lv_istore_n (lv' := [(3, .int s0_24), (0, .ref q_th), (1, .int p1), (2, .int p2)]) hx hb dX6_besideAt_24 rfl hl (by decide) rfl (fun ls hl => ?_)
    refine lv_iload_n hx hb dX6_besideAt_25 rfl (lv_at hl 0 rfl) ?_
    refine lv_if_eq (tgt := 42) hx hb dX6_besideAt_26 (by decide) (fun hc => ?_) (fun hc => ?_)
    · have hF := ng_t hc hF
      refine lv_bipush (v := (-4 : Int32)) hx hb dX6_besideAt_42 (by decide) ?_
      exact hret (-4 : Int32) _ _ _ _ hF dX6_besideAt_44 hP hD hS
    · have hF := ng_f hc hF
      refine lv_aload_n hx hb dX6_besideAt_29 rfl (lv_at hl 1 rfl) ?_
      refine nx_get S0 hK hP 0 2 hin_X6 hf_18 rfl rfl (by decide) rfl rfl dX6_besideAt_30 ?_
      refine lv_iload_n hx hb dX6_besideAt_33 rfl (lv_at hl 2 rfl) ?_
      refine lv_iconst (v := (nI 4)) hx hb dX6_besideAt_34 (by decide) ?_
      refine lv_imul hx hb dX6_besideAt_35 ?_
      refine lv_iload_n hx hb dX6_besideAt_36 rfl (lv_at hl 3 rfl) ?_
      refine lv_iadd hx hb dX6_besideAt_37 ?_
      have hg := ng_p hF
      have hF := ng_x hF
      refine nx_iald S0 hK hP 1 (v := th_beside (((p1 * (nI 4)) + p2).toNatClampNeg)) rfl hg rfl dX6_besideAt_38 ?_
      refine lv_goto (tgt := 44) hx hb dX6_besideAt_39 (by decide) ?_
      exact hret (th_beside (((p1 * (nI 4)) + p2).toNatClampNeg)) _ _ _ _ hF dX6_besideAt_44 hP hD hS
  have B_23 : fX6_besideAt_23 p1 p2 th_beside = some o → ∀ (H : Heap) (locs : List Loc) (ls : Array Slot), va_P (dC, dI) vwCl [(q_th, .inr (6, [x_th_kinds, x_th_column, .ref q_th_beside, x_th_damps, x_th_rentNights, x_th_rents, x_th_heirs, .int th_columns, .int th_cells, .int th_start, .int th_dampCount, .int th_rentCount, .int th_heirCount])), (q_th_beside, .inl (cI, 100, .inl th_beside))] H → va_D A [(q_th, .inr (6, [x_th_kinds, x_th_column, .ref q_th_beside, x_th_damps, x_th_rentNights, x_th_rents, x_th_heirs, .int th_columns, .int th_cells, .int th_start, .int th_dampCount, .int th_rentCount, .int th_heirCount])), (q_th_beside, .inl (cI, 100, .inl th_beside))] → va_S A s.heap H locs → lv_has ls 4 [(0, .ref q_th), (1, .int p1), (2, .int p2)] → W p l e ({ frames := 0, cells := 0, slots := 0, locals := 0 } : Room) s m args below meth c H locs 0 0 Q (F0 m 23 ls []) := by
    intro  hF H locs ls hP hD hS hl
    rw [fX6_besideAt_23_e] at hF
    refine lv_iconst (v := (nI 0)) hx hb dX6_besideAt_23 (by decide) ?_
    exact B_24 (nI 0) hF _ _ _ hP hD hS (lv_sub hl [0, 1, 2] rfl)
  refine lv_if_lt (tgt := 23) hx hb dX6_besideAt_1 (by decide) (fun hc => ?_) (fun hc => ?_)
  · have hF := ng_t hc hF
    exact B_23  hF _ _ _ hP hD hS (lv_sub hl [0, 1, 2] rfl)
  · have hF := ng_f hc hF
    refine lv_iload_n hx hb dX6_besideAt_4 rfl (lv_at hl 1 rfl) ?_
    refine lv_bipush (v := (nI 25)) hx hb dX6_besideAt_5 (by decide) ?_
    refine lv_icmp_ge (tgt := 23) hx hb dX6_besideAt_7 (by decide) (fun hc => ?_) (fun hc => ?_)
    · have hF := ng_t hc hF
      exact B_23  hF _ _ _ hP hD hS (lv_sub hl [0, 1, 2] rfl)
    · have hF := ng_f hc hF
      refine lv_iload_n hx hb dX6_besideAt_10 rfl (lv_at hl 2 rfl) ?_
      refine lv_if_lt (tgt := 23) hx hb dX6_besideAt_11 (by decide) (fun hc => ?_) (fun hc => ?_)
      · have hF := ng_t hc hF
        exact B_23  hF _ _ _ hP hD hS (lv_sub hl [0, 1, 2] rfl)
      · have hF := ng_f hc hF
        refine lv_iload_n hx hb dX6_besideAt_14 rfl (lv_at hl 2 rfl) ?_
        refine lv_iconst (v := (nI 4)) hx hb dX6_besideAt_15 (by decide) ?_
        refine lv_icmp_ge (tgt := 23) hx hb dX6_besideAt_16 (by decide) (fun hc => ?_) (fun hc => ?_)
        · have hF := ng_t hc hF
          exact B_23  hF _ _ _ hP hD hS (lv_sub hl [0, 1, 2] rfl)
        · have hF := ng_f hc hF
          refine lv_iconst (v := (nI 1)) hx hb dX6_besideAt_19 (by decide) ?_
          refine lv_goto (tgt := 24) hx hb dX6_besideAt_20 (by decide) ?_
          exact B_24 (nI 1) hF _ _ _ hP hD hS (lv_sub hl [0, 1, 2] rfl)
theorem hdX6_kindAt : yX6_kindAt.cls ≠ "java/lang/invoke/MethodHandle" ∧ yX6_kindAt.cls ≠ "java/lang/invoke/VarHandle" ∧ (parseMethodDescriptor yX6_kindAt.desc).map (fun d => d.parameters.length) = some 1 := by decide +kernel
set_option maxHeartbeats 40000000 in
set_option maxRecDepth 100000 in
theorem kX6_kindAt (l : Launch) (dC : Nat → ClassId) (dI : Nat → Nat → Nat) (cI : ClassId) (q_th : Nat) (q_th_kinds : Nat) (sz : Nat) (x_th_column : Value) (x_th_beside : Value) (x_th_damps : Value) (x_th_rentNights : Value) (x_th_rents : Value) (x_th_heirs : Value) (th_columns : Int32) (th_cells : Int32) (th_start : Int32) (th_dampCount : Int32) (th_rentCount : Int32) (th_heirCount : Int32) (th_kinds : Nat → Int32) (p1 : Int32) (N : Nat) (o : Int32) (hF : fX6_kindAt N th_cells p1 th_kinds = some o) : nx_I l yX6_kindAt wsX6_kindAt ({ frames := 1, cells := 0, slots := 0, locals := 21 } : Room) (dC, dI) cI [.ref q_th, .int p1] [(q_th, .inr (6, [.ref q_th_kinds, x_th_column, x_th_beside, x_th_damps, x_th_rentNights, x_th_rents, x_th_heirs, .int th_columns, .int th_cells, .int th_start, .int th_dampCount, .int th_rentCount, .int th_heirCount])), (q_th_kinds, .inl (cI, 25, .inl th_kinds))] sz o [(q_th, .inr (6, [.ref q_th_kinds, x_th_column, x_th_beside, x_th_damps, x_th_rentNights, x_th_rents, x_th_heirs, .int th_columns, .int th_cells, .int th_start, .int th_dampCount, .int th_rentCount, .int th_heirCount])), (q_th_kinds, .inl (cI, 25, .inl th_kinds))] := by
  refine nx_int (cc := cX6_kindAt) (maxL := 2) (by decide) rfl (Nat.le_of_ble_eq_true rfl) ?_
  intro p e s m args below meth c Q A S0 hK hN hA ret0 hP hD hS ls hl
  have S0 : CallFix p m c cX6_kindAt 2 s args wsX6_kindAt RX6 := S0
  have hx := S0.1
  have hb := S0.2.1
  have hown := S0.2.2.2.1
  have hts := S0.2.2.2.2
  have hf_9 := hts (.fieldLink RX6 9 "SnailsYear$Yard" "kinds" "[I") (by decide +kernel)
  have hin_X6 : ∀ w ∈ wsX60, w ∈ wsX6_kindAt := by decide +kernel
  have hl : lv_has ls 2 [(0, .ref q_th), (1, .int p1)] := hl
  have hret : ∀ (r0 : Int32) (H : Heap) (locs : List Loc) (ls : Array Slot) (pc : Nat), some r0 = some o → decode cX6_kindAt pc = .ok (.ireturn, 1) → va_P (dC, dI) vwCl [(q_th, .inr (6, [.ref q_th_kinds, x_th_column, x_th_beside, x_th_damps, x_th_rentNights, x_th_rents, x_th_heirs, .int th_columns, .int th_cells, .int th_start, .int th_dampCount, .int th_rentCount, .int th_heirCount])), (q_th_kinds, .inl (cI, 25, .inl th_kinds))] H → va_D A [(q_th, .inr (6, [.ref q_th_kinds, x_th_column, x_th_beside, x_th_damps, x_th_rentNights, x_th_rents, x_th_heirs, .int th_columns, .int th_cells, .int th_start, .int th_dampCount, .int th_rentCount, .int th_heirCount])), (q_th_kinds, .inl (cI, 25, .inl th_kinds))] → va_S A s.heap H locs → W p l e ({ frames := 1, cells := 0, slots := 0, locals := 21 } : Room) s m args below meth c H locs 0 0 Q (F0 m pc ls [.int r0]) := by
    intro r0 H locs ls pc ho hd hP hD hS
    cases ho
    exact ret0 H locs ls pc hd hP hD hS
  rw [fX6_kindAt_e] at hF
  refine lv_aload_n hx hb dX6_kindAt_0 rfl (lv_at hl 0 rfl) ?_
  refine lv_iload_n hx hb dX6_kindAt_1 rfl (lv_at hl 1 rfl) ?_
  obtain ⟨o2, hF1, hF⟩ := ng_b hF
  refine nx_callVi (As := [.int p1]) (rest := []) (W1 := [(q_th, .inr (6, [.ref q_th_kinds, x_th_column, x_th_beside, x_th_damps, x_th_rentNights, x_th_rents, x_th_heirs, .int th_columns, .int th_cells, .int th_start, .int th_dampCount, .int th_rentCount, .int th_heirCount])), (q_th_kinds, .inl (cI, 25, .inl th_kinds))]) (wr := []) S0 hK hN hA hP hD hS (kX6_has l dC dI cI q_th q_th_kinds _ (x_th_column) (x_th_beside) (x_th_damps) (x_th_rentNights) (x_th_rents) (x_th_heirs) th_columns th_cells th_start th_dampCount th_rentCount th_heirCount th_kinds p1 N o2 hF1) (cwV 1 hts gX6_kindAt_X6_has rfl rfl rfl ⟨rfl, hdX6_has⟩ ⟨Nat.le_of_ble_eq_true rfl, Nat.le_of_ble_eq_true rfl⟩) [0, 1] [] [0, 1] rfl rfl rfl rfl 0 6 rfl rfl rfl rfl hl.1 rfl (Nat.le_of_ble_eq_true rfl) dX6_kindAt_2 (fun H locs hP hD hS => ?_)
  refine lv_if_eq (tgt := 17) hx hb dX6_kindAt_5 (by decide) (fun hc => ?_) (fun hc => ?_)
  · have hF := ng_t hc hF
    refine lv_iconst (v := (nI 2)) hx hb dX6_kindAt_17 (by decide) ?_
    exact hret (nI 2) _ _ _ _ hF dX6_kindAt_18 hP hD hS
  · have hF := ng_f hc hF
    refine lv_aload_n hx hb dX6_kindAt_8 rfl (lv_at hl 0 rfl) ?_
    refine nx_get S0 hK hP 0 0 hin_X6 hf_9 rfl rfl (by decide) rfl rfl dX6_kindAt_9 ?_
    refine lv_iload_n hx hb dX6_kindAt_12 rfl (lv_at hl 1 rfl) ?_
    have hg := ng_p hF
    have hF := ng_x hF
    refine nx_iald S0 hK hP 1 (v := th_kinds p1.toNatClampNeg) rfl hg rfl dX6_kindAt_13 ?_
    refine lv_goto (tgt := 18) hx hb dX6_kindAt_14 (by decide) ?_
    exact hret (th_kinds p1.toNatClampNeg) _ _ _ _ hF dX6_kindAt_18 hP hD hS
theorem hdX6_columnOf : yX6_columnOf.cls ≠ "java/lang/invoke/MethodHandle" ∧ yX6_columnOf.cls ≠ "java/lang/invoke/VarHandle" ∧ (parseMethodDescriptor yX6_columnOf.desc).map (fun d => d.parameters.length) = some 1 := by decide +kernel
set_option maxHeartbeats 40000000 in
set_option maxRecDepth 100000 in
theorem kX6_columnOf (l : Launch) (dC : Nat → ClassId) (dI : Nat → Nat → Nat) (cI : ClassId) (q_th : Nat) (q_th_kinds : Nat) (q_th_column : Nat) (sz : Nat) (x_th_beside : Value) (x_th_damps : Value) (x_th_rentNights : Value) (x_th_rents : Value) (x_th_heirs : Value) (th_columns : Int32) (th_cells : Int32) (th_start : Int32) (th_dampCount : Int32) (th_rentCount : Int32) (th_heirCount : Int32) (th_kinds : Nat → Int32) (th_column : Nat → Int32) (p1 : Int32) (N : Nat) (o : Int32) (hF : fX6_columnOf N th_cells p1 th_column = some o) : nx_I l yX6_columnOf wsX6_columnOf ({ frames := 1, cells := 0, slots := 0, locals := 21 } : Room) (dC, dI) cI [.ref q_th, .int p1] [(q_th, .inr (6, [.ref q_th_kinds, .ref q_th_column, x_th_beside, x_th_damps, x_th_rentNights, x_th_rents, x_th_heirs, .int th_columns, .int th_cells, .int th_start, .int th_dampCount, .int th_rentCount, .int th_heirCount])), (q_th_kinds, .inl (cI, 25, .inl th_kinds)), (q_th_column, .inl (cI, 25, .inl th_column))] sz o [(q_th, .inr (6, [.ref q_th_kinds, .ref q_th_column, x_th_beside, x_th_damps, x_th_rentNights, x_th_rents, x_th_heirs, .int th_columns, .int th_cells, .int th_start, .int th_dampCount, .int th_rentCount, .int th_heirCount])), (q_th_kinds, .inl (cI, 25, .inl th_kinds)), (q_th_column, .inl (cI, 25, .inl th_column))] := by
  refine nx_int (cc := cX6_columnOf) (maxL := 2) (by decide) rfl (Nat.le_of_ble_eq_true rfl) ?_
  intro p e s m args below meth c Q A S0 hK hN hA ret0 hP hD hS ls hl
  have S0 : CallFix p m c cX6_columnOf 2 s args wsX6_columnOf RX6 := S0
  have hx := S0.1
  have hb := S0.2.1
  have hown := S0.2.2.2.1
  have hts := S0.2.2.2.2
  have hf_15 := hts (.fieldLink RX6 15 "SnailsYear$Yard" "column" "[I") (by decide +kernel)
  have hin_X6 : ∀ w ∈ wsX60, w ∈ wsX6_columnOf := by decide +kernel
  have hl : lv_has ls 2 [(0, .ref q_th), (1, .int p1)] := hl
  have hret : ∀ (r0 : Int32) (H : Heap) (locs : List Loc) (ls : Array Slot) (pc : Nat), some r0 = some o → decode cX6_columnOf pc = .ok (.ireturn, 1) → va_P (dC, dI) vwCl [(q_th, .inr (6, [.ref q_th_kinds, .ref q_th_column, x_th_beside, x_th_damps, x_th_rentNights, x_th_rents, x_th_heirs, .int th_columns, .int th_cells, .int th_start, .int th_dampCount, .int th_rentCount, .int th_heirCount])), (q_th_kinds, .inl (cI, 25, .inl th_kinds)), (q_th_column, .inl (cI, 25, .inl th_column))] H → va_D A [(q_th, .inr (6, [.ref q_th_kinds, .ref q_th_column, x_th_beside, x_th_damps, x_th_rentNights, x_th_rents, x_th_heirs, .int th_columns, .int th_cells, .int th_start, .int th_dampCount, .int th_rentCount, .int th_heirCount])), (q_th_kinds, .inl (cI, 25, .inl th_kinds)), (q_th_column, .inl (cI, 25, .inl th_column))] → va_S A s.heap H locs → W p l e ({ frames := 1, cells := 0, slots := 0, locals := 21 } : Room) s m args below meth c H locs 0 0 Q (F0 m pc ls [.int r0]) := by
    intro r0 H locs ls pc ho hd hP hD hS
    cases ho
    exact ret0 H locs ls pc hd hP hD hS
  rw [fX6_columnOf_e] at hF
  refine lv_aload_n hx hb dX6_columnOf_0 rfl (lv_at hl 0 rfl) ?_
  refine lv_iload_n hx hb dX6_columnOf_1 rfl (lv_at hl 1 rfl) ?_
  obtain ⟨o2, hF1, hF⟩ := ng_b hF
  refine nx_callVi (As := [.int p1]) (rest := []) (W1 := [(q_th, .inr (6, [.ref q_th_kinds, .ref q_th_column, x_th_beside, x_th_damps, x_th_rentNights, x_th_rents, x_th_heirs, .int th_columns, .int th_cells, .int th_start, .int th_dampCount, .int th_rentCount, .int th_heirCount])), (q_th_kinds, .inl (cI, 25, .inl th_kinds)), (q_th_column, .inl (cI, 25, .inl th_column))]) (wr := [(q_th_column, .inl (cI, 25, .inl th_column))]) S0 hK hN hA hP hD hS (kX6_has l dC dI cI q_th q_th_kinds _ (.ref q_th_column) (x_th_beside) (x_th_damps) (x_th_rentNights) (x_th_rents) (x_th_heirs) th_columns th_cells th_start th_dampCount th_rentCount th_heirCount th_kinds p1 N o2 hF1) (cwV 1 hts gX6_columnOf_X6_has rfl rfl rfl ⟨rfl, hdX6_has⟩ ⟨Nat.le_of_ble_eq_true rfl, Nat.le_of_ble_eq_true rfl⟩) [0, 1] [2] [1, 2, 0] rfl rfl rfl rfl 0 6 rfl rfl rfl rfl hl.1 rfl (Nat.le_of_ble_eq_true rfl) dX6_columnOf_2 (fun H locs hP hD hS => ?_)
  refine lv_if_eq (tgt := 17) hx hb dX6_columnOf_5 (by decide) (fun hc => ?_) (fun hc => ?_)
  · have hF := ng_t hc hF
    refine lv_iconst (v := (nI 0)) hx hb dX6_columnOf_17 (by decide) ?_
    exact hret (nI 0) _ _ _ _ hF dX6_columnOf_18 hP hD hS
  · have hF := ng_f hc hF
    refine lv_aload_n hx hb dX6_columnOf_8 rfl (lv_at hl 0 rfl) ?_
    refine nx_get S0 hK hP 0 1 hin_X6 hf_15 rfl rfl (by decide) rfl rfl dX6_columnOf_9 ?_
    refine lv_iload_n hx hb dX6_columnOf_12 rfl (lv_at hl 1 rfl) ?_
    have hg := ng_p hF
    have hF := ng_x hF
    refine nx_iald S0 hK hP 2 (v := th_column p1.toNatClampNeg) rfl hg rfl dX6_columnOf_13 ?_
    refine lv_goto (tgt := 18) hx hb dX6_columnOf_14 (by decide) ?_
    exact hret (th_column p1.toNatClampNeg) _ _ _ _ hF dX6_columnOf_18 hP hD hS
theorem hdX6_dampOn : yX6_dampOn.cls ≠ "java/lang/invoke/MethodHandle" ∧ yX6_dampOn.cls ≠ "java/lang/invoke/VarHandle" ∧ (parseMethodDescriptor yX6_dampOn.desc).map (fun d => d.parameters.length) = some 1 := by decide +kernel
set_option maxHeartbeats 40000000 in
set_option maxRecDepth 100000 in
theorem kX6_dampOn (l : Launch) (dC : Nat → ClassId) (dI : Nat → Nat → Nat) (cI : ClassId) (q_th : Nat) (q_th_damps : Nat) (sz : Nat) (x_th_kinds : Value) (x_th_column : Value) (x_th_beside : Value) (x_th_rentNights : Value) (x_th_rents : Value) (x_th_heirs : Value) (th_columns : Int32) (th_cells : Int32) (th_start : Int32) (th_dampCount : Int32) (th_rentCount : Int32) (th_heirCount : Int32) (th_damps : Nat → Int32) (p1 : Int32) (N : Nat) (o : Int32) (hF : fX6_dampOn N th_dampCount p1 th_damps = some o) : nx_I l yX6_dampOn wsX6_dampOn ({ frames := 0, cells := 0, slots := 0, locals := 0 } : Room) (dC, dI) cI [.ref q_th, .int p1] [(q_th, .inr (6, [x_th_kinds, x_th_column, x_th_beside, .ref q_th_damps, x_th_rentNights, x_th_rents, x_th_heirs, .int th_columns, .int th_cells, .int th_start, .int th_dampCount, .int th_rentCount, .int th_heirCount])), (q_th_damps, .inl (cI, 9, .inl th_damps))] sz o [(q_th, .inr (6, [x_th_kinds, x_th_column, x_th_beside, .ref q_th_damps, x_th_rentNights, x_th_rents, x_th_heirs, .int th_columns, .int th_cells, .int th_start, .int th_dampCount, .int th_rentCount, .int th_heirCount])), (q_th_damps, .inl (cI, 9, .inl th_damps))] := by
  refine nx_int (cc := cX6_dampOn) (maxL := 2) (by decide) rfl (Nat.le_of_ble_eq_true rfl) ?_
  intro p e s m args below meth c Q A S0 hK hN hA ret0 hP hD hS ls hl
  have S0 : CallFix p m c cX6_dampOn 2 s args wsX6_dampOn RX6 := S0
  have hx := S0.1
  have hb := S0.2.1
  have hown := S0.2.2.2.1
  have hts := S0.2.2.2.2
  have hf_43 := hts (.fieldLink RX6 43 "SnailsYear$Yard" "dampCount" "I") (by decide +kernel)
  have hin_X6 : ∀ w ∈ wsX60, w ∈ wsX6_dampOn := by decide +kernel
  have hf_21 := hts (.fieldLink RX6 21 "SnailsYear$Yard" "damps" "[I") (by decide +kernel)
  have hl : lv_has ls 2 [(0, .ref q_th), (1, .int p1)] := hl
  have hret : ∀ (r0 : Int32) (H : Heap) (locs : List Loc) (ls : Array Slot) (pc : Nat), some r0 = some o → decode cX6_dampOn pc = .ok (.ireturn, 1) → va_P (dC, dI) vwCl [(q_th, .inr (6, [x_th_kinds, x_th_column, x_th_beside, .ref q_th_damps, x_th_rentNights, x_th_rents, x_th_heirs, .int th_columns, .int th_cells, .int th_start, .int th_dampCount, .int th_rentCount, .int th_heirCount])), (q_th_damps, .inl (cI, 9, .inl th_damps))] H → va_D A [(q_th, .inr (6, [x_th_kinds, x_th_column, x_th_beside, .ref q_th_damps, x_th_rentNights, x_th_rents, x_th_heirs, .int th_columns, .int th_cells, .int th_start, .int th_dampCount, .int th_rentCount, .int th_heirCount])), (q_th_damps, .inl (cI, 9, .inl th_damps))] → va_S A s.heap H locs → W p l e ({ frames := 0, cells := 0, slots := 0, locals := 0 } : Room) s m args below meth c H locs 0 0 Q (F0 m pc ls [.int r0]) := by
    intro r0 H locs ls pc ho hd hP hD hS
    cases ho
    exact ret0 H locs ls pc hd hP hD hS
  rw [fX6_dampOn_e] at hF
  refine lv_aload_n hx hb dX6_dampOn_0 rfl (lv_at hl 0 rfl) ?_
  refine nx_get S0 hK hP 0 10 hin_X6 hf_43 rfl rfl (by decide) rfl rfl dX6_dampOn_1 ?_
  refine lv_if_le (tgt := 11) hx hb dX6_dampOn_4 (by decide) (fun hc => ?_) (fun hc => ?_)
  · have hF := ng_t hc hF
    refine lv_iconst (v := (nI 3)) hx hb dX6_dampOn_11 (by decide) ?_
    exact hret (nI 3) _ _ _ _ hF dX6_dampOn_12 hP hD hS
  · have hF := ng_f hc hF
    refine lv_iload_n hx hb dX6_dampOn_7 rfl (lv_at hl 1 rfl) ?_
    refine lv_if_ge (tgt := 13) hx hb dX6_dampOn_8 (by decide) (fun hc => ?_) (fun hc => ?_)
    · have hF := ng_t hc hF
      refine lv_aload_n hx hb dX6_dampOn_13 rfl (lv_at hl 0 rfl) ?_
      refine nx_get S0 hK hP 0 3 hin_X6 hf_21 rfl rfl (by decide) rfl rfl dX6_dampOn_14 ?_
      refine lv_iload_n hx hb dX6_dampOn_17 rfl (lv_at hl 1 rfl) ?_
      refine lv_aload_n hx hb dX6_dampOn_18 rfl (lv_at hl 0 rfl) ?_
      refine nx_get S0 hK hP 0 10 hin_X6 hf_43 rfl rfl (by decide) rfl rfl dX6_dampOn_19 ?_
      have hg := ng_p hF
      have hF := ng_x hF
      refine lv_irem hx hb dX6_dampOn_22 hg ?_
      have hg := ng_p hF
      have hF := ng_x hF
      refine nx_iald S0 hK hP 1 (v := th_damps ((p1 - p1 / th_dampCount * th_dampCount).toNatClampNeg)) rfl hg rfl dX6_dampOn_23 ?_
      exact hret (th_damps ((p1 - p1 / th_dampCount * th_dampCount).toNatClampNeg)) _ _ _ _ hF dX6_dampOn_24 hP hD hS
    · have hF := ng_f hc hF
      refine lv_iconst (v := (nI 3)) hx hb dX6_dampOn_11 (by decide) ?_
      exact hret (nI 3) _ _ _ _ hF dX6_dampOn_12 hP hD hS
theorem hdX6_rentsTill : yX6_rentsTill.cls ≠ "java/lang/invoke/MethodHandle" ∧ yX6_rentsTill.cls ≠ "java/lang/invoke/VarHandle" ∧ (parseMethodDescriptor yX6_rentsTill.desc).map (fun d => d.parameters.length) = some 1 := by decide +kernel
set_option maxHeartbeats 40000000 in
set_option maxRecDepth 100000 in
theorem kX6_rentsTill (l : Launch) (dC : Nat → ClassId) (dI : Nat → Nat → Nat) (cI : ClassId) (q_th : Nat) (q_th_rentNights : Nat) (q_th_rents : Nat) (sz : Nat) (x_th_kinds : Value) (x_th_column : Value) (x_th_beside : Value) (x_th_damps : Value) (x_th_heirs : Value) (th_columns : Int32) (th_cells : Int32) (th_start : Int32) (th_dampCount : Int32) (th_rentCount : Int32) (th_heirCount : Int32) (th_rentNights : Nat → Int32) (th_rents : Nat → Int32) (p1 : Int32) (N : Nat) (o : Int32) (hF : fX6_rentsTill N th_rentCount p1 th_rentNights th_rents = some o) : nx_I l yX6_rentsTill wsX6_rentsTill ({ frames := 0, cells := 0, slots := 0, locals := 0 } : Room) (dC, dI) cI [.ref q_th, .int p1] [(q_th, .inr (6, [x_th_kinds, x_th_column, x_th_beside, x_th_damps, .ref q_th_rentNights, .ref q_th_rents, x_th_heirs, .int th_columns, .int th_cells, .int th_start, .int th_dampCount, .int th_rentCount, .int th_heirCount])), (q_th_rentNights, .inl (cI, 5, .inl th_rentNights)), (q_th_rents, .inl (cI, 5, .inl th_rents))] sz o [(q_th, .inr (6, [x_th_kinds, x_th_column, x_th_beside, x_th_damps, .ref q_th_rentNights, .ref q_th_rents, x_th_heirs, .int th_columns, .int th_cells, .int th_start, .int th_dampCount, .int th_rentCount, .int th_heirCount])), (q_th_rentNights, .inl (cI, 5, .inl th_rentNights)), (q_th_rents, .inl (cI, 5, .inl th_rents))] := by
  refine nx_int (cc := cX6_rentsTill) (maxL := 4) (by decide) rfl (Nat.le_of_ble_eq_true rfl) ?_
  intro p e s m args below meth c Q A S0 hK hN hA ret0 hP hD hS ls hl
  have S0 : CallFix p m c cX6_rentsTill 4 s args wsX6_rentsTill RX6 := S0
  have hx := S0.1
  have hb := S0.2.1
  have hown := S0.2.2.2.1
  have hts := S0.2.2.2.2
  have hf_46 := hts (.fieldLink RX6 46 "SnailsYear$Yard" "rentCount" "I") (by decide +kernel)
  have hin_X6 : ∀ w ∈ wsX60, w ∈ wsX6_rentsTill := by decide +kernel
  have hf_24 := hts (.fieldLink RX6 24 "SnailsYear$Yard" "rentNights" "[I") (by decide +kernel)
  have hf_27 := hts (.fieldLink RX6 27 "SnailsYear$Yard" "rents" "[I") (by decide +kernel)
  have hl : lv_has ls 4 [(0, .ref q_th), (1, .int p1)] := hl
  have hret : ∀ (r0 : Int32) (H : Heap) (locs : List Loc) (ls : Array Slot) (pc : Nat), some r0 = some o → decode cX6_rentsTill pc = .ok (.ireturn, 1) → va_P (dC, dI) vwCl [(q_th, .inr (6, [x_th_kinds, x_th_column, x_th_beside, x_th_damps, .ref q_th_rentNights, .ref q_th_rents, x_th_heirs, .int th_columns, .int th_cells, .int th_start, .int th_dampCount, .int th_rentCount, .int th_heirCount])), (q_th_rentNights, .inl (cI, 5, .inl th_rentNights)), (q_th_rents, .inl (cI, 5, .inl th_rents))] H → va_D A [(q_th, .inr (6, [x_th_kinds, x_th_column, x_th_beside, x_th_damps, .ref q_th_rentNights, .ref q_th_rents, x_th_heirs, .int th_columns, .int th_cells, .int th_start, .int th_dampCount, .int th_rentCount, .int th_heirCount])), (q_th_rentNights, .inl (cI, 5, .inl th_rentNights)), (q_th_rents, .inl (cI, 5, .inl th_rents))] → va_S A s.heap H locs → W p l e ({ frames := 0, cells := 0, slots := 0, locals := 0 } : Room) s m args below meth c H locs 0 0 Q (F0 m pc ls [.int r0]) := by
    intro r0 H locs ls pc ho hd hP hD hS
    cases ho
    exact ret0 H locs ls pc hd hP hD hS
  rw [fX6_rentsTill_e] at hF
  refine lv_iconst (v := (nI 0)) hx hb dX6_rentsTill_0 (by decide) ?_
  refine lv_istore_n (lv' := [(2, .int (nI 0)), (0, .ref q_th), (1, .int p1)]) hx hb dX6_rentsTill_1 rfl hl (by decide) rfl (fun ls hl => ?_)
  refine lv_iconst (v := (nI 0)) hx hb dX6_rentsTill_2 (by decide) ?_
  have B_4 : ∀ (n_4 : Nat) (v2_4 : Int32) (v3_4 : Int32), fX6_rentsTill_4 th_rentCount p1 th_rentNights th_rents n_4 v2_4 v3_4 = some o → ∀ (H : Heap) (locs : List Loc) (ls : Array Slot), va_P (dC, dI) vwCl [(q_th, .inr (6, [x_th_kinds, x_th_column, x_th_beside, x_th_damps, .ref q_th_rentNights, .ref q_th_rents, x_th_heirs, .int th_columns, .int th_cells, .int th_start, .int th_dampCount, .int th_rentCount, .int th_heirCount])), (q_th_rentNights, .inl (cI, 5, .inl th_rentNights)), (q_th_rents, .inl (cI, 5, .inl th_rents))] H → va_D A [(q_th, .inr (6, [x_th_kinds, x_th_column, x_th_beside, x_th_damps, .ref q_th_rentNights, .ref q_th_rents, x_th_heirs, .int th_columns, .int th_cells, .int th_start, .int th_dampCount, .int th_rentCount, .int th_heirCount])), (q_th_rentNights, .inl (cI, 5, .inl th_rentNights)), (q_th_rents, .inl (cI, 5, .inl th_rents))] → va_S A s.heap H locs → lv_has ls 4 [(0, .ref q_th), (1, .int p1), (2, .int v2_4), (3, .int v3_4)] → W p l e ({ frames := 0, cells := 0, slots := 0, locals := 0 } : Room) s m args below meth c H locs 0 0 Q (F0 m 4 ls []) := by
    intro n_4
    induction n_4 with
    | zero =>
      intro v2_4 v3_4 hF
      rw [fX6_rentsTill_4_z] at hF
      cases hF
    | succ n_4 ih_4 =>
      intro v2_4 v3_4 hF H locs ls hP hD hS hl
      rw [fX6_rentsTill_4_s] at hF
      refine lv_iload_n hx hb dX6_rentsTill_4 rfl (lv_at hl 3 rfl) ?_
      refine lv_aload_n hx hb dX6_rentsTill_5 rfl (lv_at hl 0 rfl) ?_
      refine nx_get S0 hK hP 0 11 hin_X6 hf_46 rfl rfl (by decide) rfl rfl dX6_rentsTill_6 ?_
      refine lv_icmp_ge (tgt := 37) hx hb dX6_rentsTill_9 (by decide) (fun hc => ?_) (fun hc => ?_)
      · have hF := ng_t hc hF
        refine lv_iload_n hx hb dX6_rentsTill_37 rfl (lv_at hl 2 rfl) ?_
        exact hret v2_4 _ _ _ _ hF dX6_rentsTill_38 hP hD hS
      · have hF := ng_f hc hF
        refine lv_aload_n hx hb dX6_rentsTill_12 rfl (lv_at hl 0 rfl) ?_
        refine nx_get S0 hK hP 0 4 hin_X6 hf_24 rfl rfl (by decide) rfl rfl dX6_rentsTill_13 ?_
        refine lv_iload_n hx hb dX6_rentsTill_16 rfl (lv_at hl 3 rfl) ?_
        have hg := ng_p hF
        have hF := ng_x hF
        refine nx_iald S0 hK hP 1 (v := th_rentNights v3_4.toNatClampNeg) rfl hg rfl dX6_rentsTill_17 ?_
        refine lv_iload_n hx hb dX6_rentsTill_18 rfl (lv_at hl 1 rfl) ?_
        refine lv_icmp_gt (tgt := 31) hx hb dX6_rentsTill_19 (by decide) (fun hc => ?_) (fun hc => ?_)
        · have hF := ng_t hc hF
          refine lv_iinc (v := v3_4 + (nI 1)) (lv' := [(3, .int (v3_4 + (nI 1))), (0, .ref q_th), (1, .int p1), (2, .int v2_4)]) hx hb dX6_rentsTill_31 hl (k := 3) rfl rfl (by decide) rfl (fun ls hl => ?_)
          refine lv_goto (tgt := 4) hx hb dX6_rentsTill_34 (by decide) ?_
          exact ih_4 v2_4 (v3_4 + (nI 1)) hF _ _ _ hP hD hS (lv_sub hl [1, 2, 3, 0] rfl)
        · have hF := ng_f hc hF
          refine lv_iload_n hx hb dX6_rentsTill_22 rfl (lv_at hl 2 rfl) ?_
          refine lv_aload_n hx hb dX6_rentsTill_23 rfl (lv_at hl 0 rfl) ?_
          refine nx_get S0 hK hP 0 5 hin_X6 hf_27 rfl rfl (by decide) rfl rfl dX6_rentsTill_24 ?_
          refine lv_iload_n hx hb dX6_rentsTill_27 rfl (lv_at hl 3 rfl) ?_
          have hg := ng_p hF
          have hF := ng_x hF
          refine nx_iald S0 hK hP 2 (v := th_rents v3_4.toNatClampNeg) rfl hg rfl dX6_rentsTill_28 ?_
          refine lv_iadd hx hb dX6_rentsTill_29 ?_
          refine lv_istore_n (lv' := [(2, .int (v2_4 + (th_rents v3_4.toNatClampNeg))), (0, .ref q_th), (1, .int p1), (3, .int v3_4)]) hx hb dX6_rentsTill_30 rfl hl (by decide) rfl (fun ls hl => ?_)
          refine lv_iinc (v := v3_4 + (nI 1)) (lv' := [(3, .int (v3_4 + (nI 1))), (2, .int (v2_4 + (th_rents v3_4.toNatClampNeg))), (0, .ref q_th), (1, .int p1)]) hx hb dX6_rentsTill_31 hl (k := 3) rfl rfl (by decide) rfl (fun ls hl => ?_)
          refine lv_goto (tgt := 4) hx hb dX6_rentsTill_34 (by decide) ?_
          exact ih_4 (v2_4 + (th_rents v3_4.toNatClampNeg)) (v3_4 + (nI 1)) hF _ _ _ hP hD hS (lv_sub hl [2, 3, 1, 0] rfl)
  refine lv_istore_n (lv' := [(3, .int (nI 0)), (2, .int (nI 0)), (0, .ref q_th), (1, .int p1)]) hx hb dX6_rentsTill_3 rfl hl (by decide) rfl (fun ls hl => ?_)
  exact B_4 N (nI 0) (nI 0) hF _ _ _ hP hD hS (lv_sub hl [2, 3, 1, 0] rfl)
theorem hdX6_heirNearest : yX6_heirNearest.cls ≠ "java/lang/invoke/MethodHandle" ∧ yX6_heirNearest.cls ≠ "java/lang/invoke/VarHandle" ∧ (parseMethodDescriptor yX6_heirNearest.desc).map (fun d => d.parameters.length) = some 1 := by decide +kernel
set_option maxHeartbeats 40000000 in
set_option maxRecDepth 100000 in
theorem kX6_heirNearest (l : Launch) (dC : Nat → ClassId) (dI : Nat → Nat → Nat) (cI : ClassId) (q_th : Nat) (q_th_heirs : Nat) (sz : Nat) (x_th_kinds : Value) (x_th_column : Value) (x_th_beside : Value) (x_th_damps : Value) (x_th_rentNights : Value) (x_th_rents : Value) (th_columns : Int32) (th_cells : Int32) (th_start : Int32) (th_dampCount : Int32) (th_rentCount : Int32) (th_heirCount : Int32) (th_heirs : Nat → Int32) (p1 : Int32) (N : Nat) (o : Int32) (hF : fX6_heirNearest N th_heirCount p1 th_heirs = some o) : nx_I l yX6_heirNearest wsX6_heirNearest ({ frames := 1, cells := 0, slots := 0, locals := 21 } : Room) (dC, dI) cI [.ref q_th, .int p1] [(q_th, .inr (6, [x_th_kinds, x_th_column, x_th_beside, x_th_damps, x_th_rentNights, x_th_rents, .ref q_th_heirs, .int th_columns, .int th_cells, .int th_start, .int th_dampCount, .int th_rentCount, .int th_heirCount])), (q_th_heirs, .inl (cI, 4, .inl th_heirs))] sz o [(q_th, .inr (6, [x_th_kinds, x_th_column, x_th_beside, x_th_damps, x_th_rentNights, x_th_rents, .ref q_th_heirs, .int th_columns, .int th_cells, .int th_start, .int th_dampCount, .int th_rentCount, .int th_heirCount])), (q_th_heirs, .inl (cI, 4, .inl th_heirs))] := by
  refine nx_int (cc := cX6_heirNearest) (maxL := 6) (by decide) rfl (Nat.le_of_ble_eq_true rfl) ?_
  intro p e s m args below meth c Q A S0 hK hN hA ret0 hP hD hS ls hl
  have S0 : CallFix p m c cX6_heirNearest 6 s args wsX6_heirNearest RX6 := S0
  have hx := S0.1
  have hb := S0.2.1
  have hown := S0.2.2.2.1
  have hts := S0.2.2.2.2
  have hf_49 := hts (.fieldLink RX6 49 "SnailsYear$Yard" "heirCount" "I") (by decide +kernel)
  have hin_X6 : ∀ w ∈ wsX60, w ∈ wsX6_heirNearest := by decide +kernel
  have hf_30 := hts (.fieldLink RX6 30 "SnailsYear$Yard" "heirs" "[I") (by decide +kernel)
  have hcl_66 := hts (.methodLink RX6 66 Lib.Math.abs.name) (by decide +kernel)
  have hcs_66 := hts (.static Lib.Math.abs.name) (by decide +kernel)
  have hci_66 := hts (.initialized "java/lang/Math") (by decide +kernel)
  have hcc_66 := hts (.code Lib.Math.abs.name Lib.Math.abs.code 1 (some .int)) (by decide +kernel)
  have hl : lv_has ls 6 [(0, .ref q_th), (1, .int p1)] := hl
  have hret : ∀ (r0 : Int32) (H : Heap) (locs : List Loc) (ls : Array Slot) (pc : Nat), some r0 = some o → decode cX6_heirNearest pc = .ok (.ireturn, 1) → va_P (dC, dI) vwCl [(q_th, .inr (6, [x_th_kinds, x_th_column, x_th_beside, x_th_damps, x_th_rentNights, x_th_rents, .ref q_th_heirs, .int th_columns, .int th_cells, .int th_start, .int th_dampCount, .int th_rentCount, .int th_heirCount])), (q_th_heirs, .inl (cI, 4, .inl th_heirs))] H → va_D A [(q_th, .inr (6, [x_th_kinds, x_th_column, x_th_beside, x_th_damps, x_th_rentNights, x_th_rents, .ref q_th_heirs, .int th_columns, .int th_cells, .int th_start, .int th_dampCount, .int th_rentCount, .int th_heirCount])), (q_th_heirs, .inl (cI, 4, .inl th_heirs))] → va_S A s.heap H locs → W p l e ({ frames := 1, cells := 0, slots := 0, locals := 21 } : Room) s m args below meth c H locs 0 0 Q (F0 m pc ls [.int r0]) := by
    intro r0 H locs ls pc ho hd hP hD hS
    cases ho
    exact ret0 H locs ls pc hd hP hD hS
  rw [fX6_heirNearest_e] at hF
  refine lv_bipush (v := (-4 : Int32)) hx hb dX6_heirNearest_0 (by decide) ?_
  refine lv_istore_n (lv' := [(2, .int (-4 : Int32)), (0, .ref q_th), (1, .int p1)]) hx hb dX6_heirNearest_2 rfl hl (by decide) rfl (fun ls hl => ?_)
  refine lv_sipush (v := (nI 1000)) hx hb dX6_heirNearest_3 (by decide) ?_
  refine lv_istore_n (lv' := [(3, .int (nI 1000)), (2, .int (-4 : Int32)), (0, .ref q_th), (1, .int p1)]) hx hb dX6_heirNearest_6 rfl hl (by decide) rfl (fun ls hl => ?_)
  refine lv_iconst (v := (nI 0)) hx hb dX6_heirNearest_7 (by decide) ?_
  have B_10 : ∀ (n_10 : Nat) (v2_10 : Int32) (v3_10 : Int32) (v4_10 : Int32), fX6_heirNearest_10 th_heirCount p1 th_heirs n_10 v2_10 v3_10 v4_10 = some o → ∀ (H : Heap) (locs : List Loc) (ls : Array Slot), va_P (dC, dI) vwCl [(q_th, .inr (6, [x_th_kinds, x_th_column, x_th_beside, x_th_damps, x_th_rentNights, x_th_rents, .ref q_th_heirs, .int th_columns, .int th_cells, .int th_start, .int th_dampCount, .int th_rentCount, .int th_heirCount])), (q_th_heirs, .inl (cI, 4, .inl th_heirs))] H → va_D A [(q_th, .inr (6, [x_th_kinds, x_th_column, x_th_beside, x_th_damps, x_th_rentNights, x_th_rents, .ref q_th_heirs, .int th_columns, .int th_cells, .int th_start, .int th_dampCount, .int th_rentCount, .int th_heirCount])), (q_th_heirs, .inl (cI, 4, .inl th_heirs))] → va_S A s.heap H locs → lv_has ls 6 [(0, .ref q_th), (1, .int p1), (2, .int v2_10), (3, .int v3_10), (4, .int v4_10)] → W p l e ({ frames := 1, cells := 0, slots := 0, locals := 21 } : Room) s m args below meth c H locs 0 0 Q (F0 m 10 ls []) := by
    intro n_10
    induction n_10 with
    | zero =>
      intro v2_10 v3_10 v4_10 hF
      rw [fX6_heirNearest_10_z] at hF
      cases hF
    | succ n_10 ih_10 =>
      intro v2_10 v3_10 v4_10 hF H locs ls hP hD hS hl
      rw [fX6_heirNearest_10_s] at hF
      refine lv_iload hx hb dX6_heirNearest_10 (lv_at hl 4 rfl) ?_
      refine lv_aload_n hx hb dX6_heirNearest_12 rfl (lv_at hl 0 rfl) ?_
      refine nx_get S0 hK hP 0 12 hin_X6 hf_49 rfl rfl (by decide) rfl rfl dX6_heirNearest_13 ?_
      refine lv_icmp_ge (tgt := 51) hx hb dX6_heirNearest_16 (by decide) (fun hc => ?_) (fun hc => ?_)
      · have hF := ng_t hc hF
        refine lv_iload_n hx hb dX6_heirNearest_51 rfl (lv_at hl 2 rfl) ?_
        exact hret v2_10 _ _ _ _ hF dX6_heirNearest_52 hP hD hS
      · have hF := ng_f hc hF
        refine lv_aload_n hx hb dX6_heirNearest_19 rfl (lv_at hl 0 rfl) ?_
        refine nx_get S0 hK hP 0 6 hin_X6 hf_30 rfl rfl (by decide) rfl rfl dX6_heirNearest_20 ?_
        refine lv_iload hx hb dX6_heirNearest_23 (lv_at hl 4 rfl) ?_
        have hg := ng_p hF
        have hF := ng_x hF
        refine nx_iald S0 hK hP 1 (v := th_heirs v4_10.toNatClampNeg) rfl hg rfl dX6_heirNearest_25 ?_
        refine lv_iload_n hx hb dX6_heirNearest_26 rfl (lv_at hl 1 rfl) ?_
        refine lv_isub hx hb dX6_heirNearest_27 ?_
        refine va_mabs hx hb (S0.2.2.1.trans hl.1.symm) hown hcl_66 hcs_66 hci_66 hcc_66 (by decide) (by decide) (Nat.zero_le _) (Nat.zero_le _) dX6_heirNearest_28 ?_
        refine lv_istore (lv' := [(5, .int (if 0 ≤ ((th_heirs v4_10.toNatClampNeg) - p1) then ((th_heirs v4_10.toNatClampNeg) - p1) else 0 - ((th_heirs v4_10.toNatClampNeg) - p1))), (0, .ref q_th), (1, .int p1), (2, .int v2_10), (3, .int v3_10), (4, .int v4_10)]) hx hb dX6_heirNearest_31 hl (by decide) rfl (fun ls hl => ?_)
        refine lv_iload hx hb dX6_heirNearest_33 (lv_at hl 0 rfl) ?_
        refine lv_iload_n hx hb dX6_heirNearest_35 rfl (lv_at hl 4 rfl) ?_
        refine lv_icmp_ge (tgt := 45) hx hb dX6_heirNearest_36 (by decide) (fun hc => ?_) (fun hc => ?_)
        · have hF := ng_t hc hF
          refine lv_iinc (v := v4_10 + (nI 1)) (lv' := [(4, .int (v4_10 + (nI 1))), (5, .int (if 0 ≤ ((th_heirs v4_10.toNatClampNeg) - p1) then ((th_heirs v4_10.toNatClampNeg) - p1) else 0 - ((th_heirs v4_10.toNatClampNeg) - p1))), (0, .ref q_th), (1, .int p1), (2, .int v2_10), (3, .int v3_10)]) hx hb dX6_heirNearest_45 hl (k := 5) rfl rfl (by decide) rfl (fun ls hl => ?_)
          refine lv_goto (tgt := 10) hx hb dX6_heirNearest_48 (by decide) ?_
          exact ih_10 v2_10 v3_10 (v4_10 + (nI 1)) hF _ _ _ hP hD hS (lv_sub hl [2, 3, 4, 5, 0] rfl)
        · have hF := ng_f hc hF
          refine lv_iload hx hb dX6_heirNearest_39 (lv_at hl 0 rfl) ?_
          refine lv_istore_n (lv' := [(3, .int (if 0 ≤ ((th_heirs v4_10.toNatClampNeg) - p1) then ((th_heirs v4_10.toNatClampNeg) - p1) else 0 - ((th_heirs v4_10.toNatClampNeg) - p1))), (5, .int (if 0 ≤ ((th_heirs v4_10.toNatClampNeg) - p1) then ((th_heirs v4_10.toNatClampNeg) - p1) else 0 - ((th_heirs v4_10.toNatClampNeg) - p1))), (0, .ref q_th), (1, .int p1), (2, .int v2_10), (4, .int v4_10)]) hx hb dX6_heirNearest_41 rfl hl (by decide) rfl (fun ls hl => ?_)
          refine lv_iload hx hb dX6_heirNearest_42 (lv_at hl 5 rfl) ?_
          refine lv_istore_n (lv' := [(2, .int v4_10), (3, .int (if 0 ≤ ((th_heirs v4_10.toNatClampNeg) - p1) then ((th_heirs v4_10.toNatClampNeg) - p1) else 0 - ((th_heirs v4_10.toNatClampNeg) - p1))), (5, .int (if 0 ≤ ((th_heirs v4_10.toNatClampNeg) - p1) then ((th_heirs v4_10.toNatClampNeg) - p1) else 0 - ((th_heirs v4_10.toNatClampNeg) - p1))), (0, .ref q_th), (1, .int p1), (4, .int v4_10)]) hx hb dX6_heirNearest_44 rfl hl (by decide) rfl (fun ls hl => ?_)
          refine lv_iinc (v := v4_10 + (nI 1)) (lv' := [(4, .int (v4_10 + (nI 1))), (2, .int v4_10), (3, .int (if 0 ≤ ((th_heirs v4_10.toNatClampNeg) - p1) then ((th_heirs v4_10.toNatClampNeg) - p1) else 0 - ((th_heirs v4_10.toNatClampNeg) - p1))), (5, .int (if 0 ≤ ((th_heirs v4_10.toNatClampNeg) - p1) then ((th_heirs v4_10.toNatClampNeg) - p1) else 0 - ((th_heirs v4_10.toNatClampNeg) - p1))), (0, .ref q_th), (1, .int p1)]) hx hb dX6_heirNearest_45 hl (k := 5) rfl rfl (by decide) rfl (fun ls hl => ?_)
          refine lv_goto (tgt := 10) hx hb dX6_heirNearest_48 (by decide) ?_
          exact ih_10 v4_10 (if 0 ≤ ((th_heirs v4_10.toNatClampNeg) - p1) then ((th_heirs v4_10.toNatClampNeg) - p1) else 0 - ((th_heirs v4_10.toNatClampNeg) - p1)) (v4_10 + (nI 1)) hF _ _ _ hP hD hS (lv_sub hl [4, 5, 1, 2, 0] rfl)
  refine lv_istore (lv' := [(4, .int (nI 0)), (3, .int (nI 1000)), (2, .int (-4 : Int32)), (0, .ref q_th), (1, .int p1)]) hx hb dX6_heirNearest_8 hl (by decide) rfl (fun ls hl => ?_)
  exact B_10 N (-4 : Int32) (nI 1000) (nI 0) hF _ _ _ hP hD hS (lv_sub hl [3, 4, 2, 1, 0] rfl)
