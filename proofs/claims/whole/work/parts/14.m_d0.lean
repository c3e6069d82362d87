theorem hdX5_comeInto : yX5_comeInto.cls ≠ "java/lang/invoke/MethodHandle" ∧ yX5_comeInto.cls ≠ "java/lang/invoke/VarHandle" ∧ (parseMethodDescriptor yX5_comeInto.desc).map (fun d => d.parameters.length) = some 3 := by decide +kernel
set_option maxHeartbeats 40000000 in
set_option maxRecDepth 100000 in
theorem kX5_comeInto (l : Launch) (dC : Nat → ClassId) (dI : Nat → Nat → Nat) (cI : ClassId) (q_p1 : Nat) (q_p2 : Nat) (q_p2_kinds : Nat) (sz : Nat) (x_p1_kinds : Value) (x_p1_column : Value) (x_p1_beside : Value) (x_p1_damps : Value) (x_p1_rentNights : Value) (x_p1_rents : Value) (x_p1_heirs : Value) (p1_columns : Int32) (p1_cells : Int32) (p1_start : Int32) (p1_dampCount : Int32) (p1_rentCount : Int32) (p1_heirCount : Int32) (p2_snail : Int32) (p2_night : Int32) (p2_begunOn : Int32) (p2_kinds : Nat → Int32) (p0 : Int32) (N : Nat) (o : Int32 × Int32 × Int32 × (Nat → Int32)) (hF : fX5_comeInto N p0 p1_columns p1_cells p2_night p2_begunOn p2_kinds = some o) : nx_I l yX5_comeInto wsX5_comeInto ({ frames := 1, cells := 0, slots := 0, locals := 22 } : Room) (dC, dI) cI [.int p0, .ref q_p1, .ref q_p2] [(q_p1, .inr (6, [x_p1_kinds, x_p1_column, x_p1_beside, x_p1_damps, x_p1_rentNights, x_p1_rents, x_p1_heirs, .int p1_columns, .int p1_cells, .int p1_start, .int p1_dampCount, .int p1_rentCount, .int p1_heirCount])), (q_p2, .inr (3, [.ref q_p2_kinds, .int p2_snail, .int p2_night, .int p2_begunOn])), (q_p2_kinds, .inl (cI, 25, .inl p2_kinds))] sz o.1 [(q_p1, .inr (6, [x_p1_kinds, x_p1_column, x_p1_beside, x_p1_damps, x_p1_rentNights, x_p1_rents, x_p1_heirs, .int p1_columns, .int p1_cells, .int p1_start, .int p1_dampCount, .int p1_rentCount, .int p1_heirCount])), (q_p2, .inr (3, [.ref q_p2_kinds, .int o.2.1, .int p2_night, .int o.2.2.1])), (q_p2_kinds, .inl (cI, 25, .inl o.2.2.2))] := by
  refine nx_zint (cc := cX5_comeInto) (maxL := 4) (by decide) rfl (Nat.le_of_ble_eq_true rfl) ?_
  intro p e s m args below meth c Q A S0 hK hN hA ret0 hP hD hS ls hl
  have S0 : CallFix p m c cX5_comeInto 4 s args wsX5_comeInto RX5 := S0
  have hx := S0.1
  have hb := S0.2.1
  have hown := S0.2.2.2.1
  have hts := S0.2.2.2.2
  have hf_44 := hN.f (args := args) (a := "SnailsYear$Walker") (i := 44) (b := "SnailsYear$Scene") (n := "snail") (d := "I") (k := "SnailsYear") (by decide +kernel)
  have hin_X3 : ∀ w ∈ wsX30, w ∈ wsX5_comeInto := by decide +kernel
  have hf_40 := hN.f (args := args) (a := "SnailsYear$Walker") (i := 40) (b := "SnailsYear$Scene") (n := "night") (d := "I") (k := "SnailsYear") (by decide +kernel)
  have hf_57 := hN.f (args := args) (a := "SnailsYear$Walker") (i := 57) (b := "SnailsYear$Scene") (n := "begunOn") (d := "I") (k := "SnailsYear") (by decide +kernel)
  have hl : lv_has ls 4 [(0, .int p0), (1, .ref q_p1), (2, .ref q_p2)] := hl
  have hret : ∀ (r0 : Int32) (y0 : Int32) (y1 : Int32) (y2 : Nat → Int32) (H : Heap) (locs : List Loc) (ls : Array Slot) (pc : Nat), (r0 = 0 ∨ r0 = 1) → some (r0, y0, y1, y2) = some o → decode cX5_comeInto pc = .ok (.ireturn, 1) → va_P (dC, dI) vwCl [(q_p1, .inr (6, [x_p1_kinds, x_p1_column, x_p1_beside, x_p1_damps, x_p1_rentNights, x_p1_rents, x_p1_heirs, .int p1_columns, .int p1_cells, .int p1_start, .int p1_dampCount, .int p1_rentCount, .int p1_heirCount])), (q_p2, .inr (3, [.ref q_p2_kinds, .int y0, .int p2_night, .int y1])), (q_p2_kinds, .inl (cI, 25, .inl y2))] H → va_D A [(q_p1, .inr (6, [x_p1_kinds, x_p1_column, x_p1_beside, x_p1_damps, x_p1_rentNights, x_p1_rents, x_p1_heirs, .int p1_columns, .int p1_cells, .int p1_start, .int p1_dampCount, .int p1_rentCount, .int p1_heirCount])), (q_p2, .inr (3, [.ref q_p2_kinds, .int y0, .int p2_night, .int y1])), (q_p2_kinds, .inl (cI, 25, .inl y2))] → va_S A s.heap H locs → W p l e ({ frames := 1, cells := 0, slots := 0, locals := 22 } : Room) s m args below meth c H locs 0 0 Q (F0 m pc ls [.int r0]) := by
    intro r0 y0 y1 y2 H locs ls pc hz ho hd hP hD hS
    cases ho
    exact ret0 H locs ls pc hz hd hP hD hS
  rw [fX5_comeInto_e] at hF
  refine lv_aload_n hx hb dX5_comeInto_0 rfl (lv_at hl 2 rfl) ?_
  refine lv_iload_n hx hb dX5_comeInto_1 rfl (lv_at hl 0 rfl) ?_
  obtain ⟨o2, hF1, hF⟩ := ng_b hF
  refine nx_callVi (As := [.int p0]) (rest := []) (W1 := [(q_p1, .inr (6, [x_p1_kinds, x_p1_column, x_p1_beside, x_p1_damps, x_p1_rentNights, x_p1_rents, x_p1_heirs, .int p1_columns, .int p1_cells, .int p1_start, .int p1_dampCount, .int p1_rentCount, .int p1_heirCount])), (q_p2, .inr (3, [.ref q_p2_kinds, .int p2_snail, .int p2_night, .int p2_begunOn])), (q_p2_kinds, .inl (cI, 25, .inl p2_kinds))]) (wr := [(q_p1, .inr (6, [x_p1_kinds, x_p1_column, x_p1_beside, x_p1_damps, x_p1_rentNights, x_p1_rents, x_p1_heirs, .int p1_columns, .int p1_cells, .int p1_start, .int p1_dampCount, .int p1_rentCount, .int p1_heirCount]))]) S0 hK hN hA hP hD hS (kX3_kindAt l dC dI cI q_p2 q_p2_kinds _ p2_snail p2_night p2_begunOn p2_kinds p0 N o2 hF1) (cwV 1 hts gX5_comeInto_X3_kindAt rfl rfl rfl ⟨rfl, hdX3_kindAt⟩ ⟨Nat.le_of_ble_eq_true rfl, Nat.le_of_ble_eq_true rfl⟩) [1, 2] [0] [0, 1, 2] rfl rfl rfl rfl 1 3 rfl rfl rfl rfl hl.1 rfl (Nat.le_of_ble_eq_true rfl) dX5_comeInto_2 (fun H locs hP hD hS => ?_)
  refine lv_iconst (v := (nI 3)) hx hb dX5_comeInto_5 (by decide) ?_
  have B_14 : ∀ (s0_14 : Int32), fX5_comeInto_14 N p0 p1_columns p1_cells p2_night p2_begunOn p2_kinds s0_14 = some o → ∀ (H : Heap) (locs : List Loc) (ls : Array Slot), va_P (dC, dI) vwCl [(q_p1, .inr (6, [x_p1_kinds, x_p1_column, x_p1_beside, x_p1_damps, x_p1_rentNights, x_p1_rents, x_p1_heirs, .int p1_columns, .int p1_cells, .int p1_start, .int p1_dampCount, .int p1_rentCount, .int p1_heirCount])), (q_p2, .inr (3, [.ref q_p2_kinds, .int p2_snail, .int p2_night, .int p2_begunOn])), (q_p2_kinds, .inl (cI, 25, .inl p2_kinds))] H → va_D A [(q_p1, .inr (6, [x_p1_kinds, x_p1_column, x_p1_beside, x_p1_damps, x_p1_rentNights, x_p1_rents, x_p1_heirs, .int p1_columns, .int p1_cells, .int p1_start, .int p1_dampCount, .int p1_rentCount, .int p1_heirCount])), (q_p2, .inr (3, [.ref q_p2_kinds, .int p2_snail, .int p2_night, .int p2_begunOn])), (q_p2_kinds, .inl (cI, 25, .inl p2_kinds))] → va_S A s.heap H locs → lv_has ls 4 [(0, .int p0), (1, .ref q_p1), (2, .ref q_p2)] → W p l e ({ frames := 1, cells := 0, slots := 0, locals := 22 } : Room) s m args below meth c H locs 0 0 Q (F0 m 14 ls [.int s0_14]) := by
    intro s0_14 hF H locs ls hP hD hS hl
    rw [fX5_comeInto_14_e] at hF
    refine lv_istore_n (lv' := [(3, .int s0_14), (0, .int p0), (1, .ref q_p1), (2, .ref q_p2)]) hx hb dX5_comeInto_14 rfl hl (by decide) rfl (fun ls hl => ?_)
    refine lv_aload_n hx hb dX5_comeInto_15 rfl (lv_at hl 3 rfl) ?_
    refine lv_iload_n hx hb dX5_comeInto_16 rfl (lv_at hl 1 rfl) ?_
    refine nx_putN S0 hK hP hD hS 1 1 hin_X3 tyX3 tyX3_ok nmX3 hf_44 rfl rfl (by decide) rfl rfl rfl rfl (Nat.le_of_ble_eq_true rfl) dX5_comeInto_17 (W1 := [(q_p1, .inr (6, [x_p1_kinds, x_p1_column, x_p1_beside, x_p1_damps, x_p1_rentNights, x_p1_rents, x_p1_heirs, .int p1_columns, .int p1_cells, .int p1_start, .int p1_dampCount, .int p1_rentCount, .int p1_heirCount])), (q_p2, .inr (3, [.ref q_p2_kinds, .int p0, .int p2_night, .int p2_begunOn])), (q_p2_kinds, .inl (cI, 25, .inl p2_kinds))]) rfl (fun H locs hP hD hS => ?_)
    refine lv_iload_n hx hb dX5_comeInto_20 rfl (lv_at hl 0 rfl) ?_
    have B_30 : ∀ (p2_kinds_30 : Nat → Int32), fX5_comeInto_30 N p0 p1_columns p1_cells p2_night p2_begunOn s0_14 p2_kinds_30 = some o → ∀ (H : Heap) (locs : List Loc) (ls : Array Slot), va_P (dC, dI) vwCl [(q_p1, .inr (6, [x_p1_kinds, x_p1_column, x_p1_beside, x_p1_damps, x_p1_rentNights, x_p1_rents, x_p1_heirs, .int p1_columns, .int p1_cells, .int p1_start, .int p1_dampCount, .int p1_rentCount, .int p1_heirCount])), (q_p2, .inr (3, [.ref q_p2_kinds, .int p0, .int p2_night, .int p2_begunOn])), (q_p2_kinds, .inl (cI, 25, .inl p2_kinds_30))] H → va_D A [(q_p1, .inr (6, [x_p1_kinds, x_p1_column, x_p1_beside, x_p1_damps, x_p1_rentNights, x_p1_rents, x_p1_heirs, .int p1_columns, .int p1_cells, .int p1_start, .int p1_dampCount, .int p1_rentCount, .int p1_heirCount])), (q_p2, .inr (3, [.ref q_p2_kinds, .int p0, .int p2_night, .int p2_begunOn])), (q_p2_kinds, .inl (cI, 25, .inl p2_kinds_30))] → va_S A s.heap H locs → lv_has ls 4 [(0, .int p0), (1, .ref q_p1), (2, .ref q_p2), (3, .int s0_14)] → W p l e ({ frames := 1, cells := 0, slots := 0, locals := 22 } : Room) s m args below meth c H locs 0 0 Q (F0 m 30 ls []) := by
      intro p2_kinds_30 hF H locs ls hP hD hS hl
      rw [fX5_comeInto_30_e] at hF
      refine lv_aload_n hx hb dX5_comeInto_30 rfl (lv_at hl 1 rfl) ?_
      refine lv_iload_n hx hb dX5_comeInto_31 rfl (lv_at hl 0 rfl) ?_
      obtain ⟨o32, hF1, hF⟩ := ng_b hF
      refine nx_callVi (As := [.int p0]) (rest := []) (W1 := [(q_p1, .inr (6, [x_p1_kinds, x_p1_column, x_p1_beside, x_p1_damps, x_p1_rentNights, x_p1_rents, x_p1_heirs, .int p1_columns, .int p1_cells, .int p1_start, .int p1_dampCount, .int p1_rentCount, .int p1_heirCount])), (q_p2, .inr (3, [.ref q_p2_kinds, .int p0, .int p2_night, .int p2_begunOn])), (q_p2_kinds, .inl (cI, 25, .inl p2_kinds_30))]) (wr := [(q_p2, .inr (3, [.ref q_p2_kinds, .int p0, .int p2_night, .int p2_begunOn])), (q_p2_kinds, .inl (cI, 25, .inl p2_kinds_30))]) S0 hK hN hA hP hD hS (kX6_isOfLine l dC dI cI q_p1 _ (x_p1_kinds) (x_p1_column) (x_p1_beside) (x_p1_damps) (x_p1_rentNights) (x_p1_rents) (x_p1_heirs) p1_columns p1_cells p1_start p1_dampCount p1_rentCount p1_heirCount p0 N o32 hF1) (cwV 1 hts gX5_comeInto_X6_isOfLine rfl rfl rfl ⟨rfl, hdX6_isOfLine⟩ ⟨Nat.le_of_ble_eq_true rfl, Nat.le_of_ble_eq_true rfl⟩) [0] [1, 2] [2, 0, 1] rfl rfl rfl rfl 0 6 rfl rfl rfl rfl hl.1 rfl (Nat.le_of_ble_eq_true rfl) dX5_comeInto_32 (fun H locs hP hD hS => ?_)
      have B_46 : ∀ (p2_begunOn_46 : Int32), fX5_comeInto_46 N p0 s0_14 p2_kinds_30 p2_begunOn_46 = some o → ∀ (H : Heap) (locs : List Loc) (ls : Array Slot), va_P (dC, dI) vwCl [(q_p1, .inr (6, [x_p1_kinds, x_p1_column, x_p1_beside, x_p1_damps, x_p1_rentNights, x_p1_rents, x_p1_heirs, .int p1_columns, .int p1_cells, .int p1_start, .int p1_dampCount, .int p1_rentCount, .int p1_heirCount])), (q_p2, .inr (3, [.ref q_p2_kinds, .int p0, .int p2_night, .int p2_begunOn_46])), (q_p2_kinds, .inl (cI, 25, .inl p2_kinds_30))] H → va_D A [(q_p1, .inr (6, [x_p1_kinds, x_p1_column, x_p1_beside, x_p1_damps, x_p1_rentNights, x_p1_rents, x_p1_heirs, .int p1_columns, .int p1_cells, .int p1_start, .int p1_dampCount, .int p1_rentCount, .int p1_heirCount])), (q_p2, .inr (3, [.ref q_p2_kinds, .int p0, .int p2_night, .int p2_begunOn_46])), (q_p2_kinds, .inl (cI, 25, .inl p2_kinds_30))] → va_S A s.heap H locs → lv_has ls 4 [(2, .ref q_p2), (3, .int s0_14)] → W p l e ({ frames := 1, cells := 0, slots := 0, locals := 22 } : Room) s m args below meth c H locs 0 0 Q (F0 m 46 ls []) := by
        intro p2_begunOn_46 hF H locs ls hP hD hS hl
        rw [fX5_comeInto_46_e] at hF
        refine lv_iload_n hx hb dX5_comeInto_46 rfl (lv_at hl 1 rfl) ?_
        refine lv_if_ne (tgt := 61) hx hb dX5_comeInto_47 (by decide) (fun hc => ?_) (fun hc => ?_)
        · have hF := ng_f hc hF
          refine lv_iconst (v := (nI 0)) hx hb dX5_comeInto_61 (by decide) ?_
          exact hret (nI 0) p0 p2_begunOn_46 p2_kinds_30 _ _ _ _ (Or.inl rfl) hF dX5_comeInto_62 hP hD hS
        · have hF := ng_t hc hF
          refine lv_aload_n hx hb dX5_comeInto_50 rfl (lv_at hl 0 rfl) ?_
          obtain ⟨o51, hF1, hF⟩ := ng_b hF
          refine nx_callVi (As := []) (rest := []) (W1 := [(q_p1, .inr (6, [x_p1_kinds, x_p1_column, x_p1_beside, x_p1_damps, x_p1_rentNights, x_p1_rents, x_p1_heirs, .int p1_columns, .int p1_cells, .int p1_start, .int p1_dampCount, .int p1_rentCount, .int p1_heirCount])), (q_p2, .inr (3, [.ref q_p2_kinds, .int p0, .int p2_night, .int p2_begunOn_46])), (q_p2_kinds, .inl (cI, 25, .inl p2_kinds_30))]) (wr := [(q_p1, .inr (6, [x_p1_kinds, x_p1_column, x_p1_beside, x_p1_damps, x_p1_rentNights, x_p1_rents, x_p1_heirs, .int p1_columns, .int p1_cells, .int p1_start, .int p1_dampCount, .int p1_rentCount, .int p1_heirCount])), (q_p2_kinds, .inl (cI, 25, .inl p2_kinds_30))]) S0 hK hN hA hP hD hS (kX3_hasBegun l dC dI cI q_p2 _ (.ref q_p2_kinds) p0 p2_night p2_begunOn_46 N o51 hF1) (cwV 0 hts gX5_comeInto_X3_hasBegun rfl rfl rfl ⟨rfl, hdX3_hasBegun⟩ ⟨Nat.le_of_ble_eq_true rfl, Nat.le_of_ble_eq_true rfl⟩) [1] [0, 2] [0, 2, 1] rfl rfl rfl rfl 1 3 rfl rfl rfl rfl hl.1 rfl (Nat.le_of_ble_eq_true rfl) dX5_comeInto_51 (fun H locs hP hD hS => ?_)
          refine lv_if_ne (tgt := 61) hx hb dX5_comeInto_54 (by decide) (fun hc => ?_) (fun hc => ?_)
          · have hF := ng_f hc hF
            refine lv_iconst (v := (nI 0)) hx hb dX5_comeInto_61 (by decide) ?_
            exact hret (nI 0) p0 p2_begunOn_46 p2_kinds_30 _ _ _ _ (Or.inl rfl) hF dX5_comeInto_62 hP hD hS
          · have hF := ng_t hc hF
            refine lv_iconst (v := (nI 1)) hx hb dX5_comeInto_57 (by decide) ?_
            refine lv_goto (tgt := 62) hx hb dX5_comeInto_58 (by decide) ?_
            exact hret (nI 1) p0 p2_begunOn_46 p2_kinds_30 _ _ _ _ (Or.inr rfl) hF dX5_comeInto_62 hP hD hS
      refine lv_if_eq (tgt := 46) hx hb dX5_comeInto_35 (by decide) (fun hc => ?_) (fun hc => ?_)
      · have hF := ng_t hc hF
        exact B_46 p2_begunOn hF _ _ _ hP hD hS (lv_sub hl [2, 3] rfl)
      · have hF := ng_f hc hF
        refine lv_aload_n hx hb dX5_comeInto_38 rfl (lv_at hl 2 rfl) ?_
        refine lv_aload_n hx hb dX5_comeInto_39 rfl (lv_at hl 2 rfl) ?_
        refine nx_getN S0 hK hP 1 2 hin_X3 hf_40 rfl rfl (by decide) rfl rfl dX5_comeInto_40 ?_
        refine nx_putN S0 hK hP hD hS 1 3 hin_X3 tyX3 tyX3_ok nmX3 hf_57 rfl rfl (by decide) rfl rfl rfl rfl (Nat.le_of_ble_eq_true rfl) dX5_comeInto_43 (W1 := [(q_p1, .inr (6, [x_p1_kinds, x_p1_column, x_p1_beside, x_p1_damps, x_p1_rentNights, x_p1_rents, x_p1_heirs, .int p1_columns, .int p1_cells, .int p1_start, .int p1_dampCount, .int p1_rentCount, .int p1_heirCount])), (q_p2, .inr (3, [.ref q_p2_kinds, .int p0, .int p2_night, .int p2_night])), (q_p2_kinds, .inl (cI, 25, .inl p2_kinds_30))]) rfl (fun H locs hP hD hS => ?_)
        exact B_46 p2_night hF _ _ _ hP hD hS (lv_sub hl [2, 3] rfl)
    refine lv_if_eq (tgt := 30) hx hb dX5_comeInto_21 (by decide) (fun hc => ?_) (fun hc => ?_)
    · have hF := ng_t hc hF
      exact B_30 p2_kinds hF _ _ _ hP hD hS (lv_sub hl [1, 2, 3, 0] rfl)
    · have hF := ng_f hc hF
      refine lv_aload_n hx hb dX5_comeInto_24 rfl (lv_at hl 3 rfl) ?_
      refine lv_iload_n hx hb dX5_comeInto_25 rfl (lv_at hl 1 rfl) ?_
      refine lv_iconst (v := (nI 0)) hx hb dX5_comeInto_26 (by decide) ?_
      obtain ⟨o27, hF1, hF⟩ := ng_b hF
      refine nx_callVv (As := [.int p0, .int (nI 0)]) (rest := []) (W1 := [(q_p1, .inr (6, [x_p1_kinds, x_p1_column, x_p1_beside, x_p1_damps, x_p1_rentNights, x_p1_rents, x_p1_heirs, .int p1_columns, .int p1_cells, .int p1_start, .int p1_dampCount, .int p1_rentCount, .int p1_heirCount])), (q_p2, .inr (3, [.ref q_p2_kinds, .int p0, .int p2_night, .int p2_begunOn])), (q_p2_kinds, .inl (cI, 25, .inl o27))]) (wr := [(q_p1, .inr (6, [x_p1_kinds, x_p1_column, x_p1_beside, x_p1_damps, x_p1_rentNights, x_p1_rents, x_p1_heirs, .int p1_columns, .int p1_cells, .int p1_start, .int p1_dampCount, .int p1_rentCount, .int p1_heirCount]))]) S0 hK hN hA hP hD hS (kX3_setKind l dC dI cI q_p2 q_p2_kinds _ p0 p2_night p2_begunOn p2_kinds p0 (nI 0) N o27 hF1) (cwV 2 hts gX5_comeInto_X3_setKind rfl rfl rfl ⟨rfl, hdX3_setKind⟩ ⟨Nat.le_of_ble_eq_true rfl, Nat.le_of_ble_eq_true rfl⟩) [1, 2] [0] [0, 1, 2] rfl rfl rfl rfl 1 3 rfl rfl rfl rfl hl.1 rfl (Nat.le_of_ble_eq_true rfl) dX5_comeInto_27 (fun H locs hP hD hS => ?_)
      exact B_30 o27 hF _ _ _ hP hD hS (lv_sub hl [1, 2, 3, 0] rfl)
  refine lv_icmp_ne (tgt := 13) hx hb dX5_comeInto_6 (by decide) (fun hc => ?_) (fun hc => ?_)
  · have hF := ng_f hc hF
    refine lv_iconst (v := (nI 0)) hx hb dX5_comeInto_13 (by decide) ?_
    exact B_14 (nI 0) hF _ _ _ hP hD hS (lv_sub hl [0, 1, 2] rfl)
  · have hF := ng_t hc hF
    refine lv_iconst (v := (nI 1)) hx hb dX5_comeInto_9 (by decide) ?_
    refine lv_goto (tgt := 14) hx hb dX5_comeInto_10 (by decide) ?_
    exact B_14 (nI 1) hF _ _ _ hP hD hS (lv_sub hl [0, 1, 2] rfl)
theorem hdX5_nearestLettuce : yX5_nearestLettuce.cls ≠ "java/lang/invoke/MethodHandle" ∧ yX5_nearestLettuce.cls ≠ "java/lang/invoke/VarHandle" ∧ (parseMethodDescriptor yX5_nearestLettuce.desc).map (fun d => d.parameters.length) = some 2 := by decide +kernel
set_option maxHeartbeats 40000000 in
set_option maxRecDepth 100000 in
theorem kX5_nearestLettuce (l : Launch) (dC : Nat → ClassId) (dI : Nat → Nat → Nat) (cI : ClassId) (q_th : Nat) (q_p1 : Nat) (q_p2 : Nat) (q_th_fromSnail : Nat) (q_p2_kinds : Nat) (sz : Nat) (x_th_fromGoal : Value) (x_p1_kinds : Value) (x_p1_column : Value) (x_p1_beside : Value) (x_p1_damps : Value) (x_p1_rentNights : Value) (x_p1_rents : Value) (x_p1_heirs : Value) (p1_columns : Int32) (p1_cells : Int32) (p1_start : Int32) (p1_dampCount : Int32) (p1_rentCount : Int32) (p1_heirCount : Int32) (p2_snail : Int32) (p2_night : Int32) (p2_begunOn : Int32) (th_fromSnail : Nat → Int32) (p2_kinds : Nat → Int32) (N : Nat) (o : Int32) (hF : fX5_nearestLettuce N p1_cells th_fromSnail p2_kinds = some o) : nx_I l yX5_nearestLettuce wsX5_nearestLettuce ({ frames := 1, cells := 0, slots := 0, locals := 21 } : Room) (dC, dI) cI [.ref q_th, .ref q_p1, .ref q_p2] [(q_th, .inr (5, [.ref q_th_fromSnail, x_th_fromGoal])), (q_p1, .inr (6, [x_p1_kinds, x_p1_column, x_p1_beside, x_p1_damps, x_p1_rentNights, x_p1_rents, x_p1_heirs, .int p1_columns, .int p1_cells, .int p1_start, .int p1_dampCount, .int p1_rentCount, .int p1_heirCount])), (q_p2, .inr (3, [.ref q_p2_kinds, .int p2_snail, .int p2_night, .int p2_begunOn])), (q_th_fromSnail, .inl (cI, 25, .inl th_fromSnail)), (q_p2_kinds, .inl (cI, 25, .inl p2_kinds))] sz o [(q_th, .inr (5, [.ref q_th_fromSnail, x_th_fromGoal])), (q_p1, .inr (6, [x_p1_kinds, x_p1_column, x_p1_beside, x_p1_damps, x_p1_rentNights, x_p1_rents, x_p1_heirs, .int p1_columns, .int p1_cells, .int p1_start, .int p1_dampCount, .int p1_rentCount, .int p1_heirCount])), (q_p2, .inr (3, [.ref q_p2_kinds, .int p2_snail, .int p2_night, .int p2_begunOn])), (q_th_fromSnail, .inl (cI, 25, .inl th_fromSnail)), (q_p2_kinds, .inl (cI, 25, .inl p2_kinds))] := by
  refine nx_int (cc := cX5_nearestLettuce) (maxL := 6) (by decide) rfl (Nat.le_of_ble_eq_true rfl) ?_
  intro p e s m args below meth c Q A S0 hK hN hA ret0 hP hD hS ls hl
  have S0 : CallFix p m c cX5_nearestLettuce 6 s args wsX5_nearestLettuce RX5 := S0
  have hx := S0.1
  have hb := S0.2.1
  have hown := S0.2.2.2.1
  have hts := S0.2.2.2.2
  have hf_74 := hN.f (args := args) (a := "SnailsYear$Walker") (i := 74) (b := "SnailsYear$Yard") (n := "cells") (d := "I") (k := "SnailsYear") (by decide +kernel)
  have hin_X6 : ∀ w ∈ wsX60, w ∈ wsX5_nearestLettuce := by decide +kernel
  have hf_9 := hts (.fieldLink RX5 9 "SnailsYear$Walker" "fromSnail" "[I") (by decide +kernel)
  have hin_X5 : ∀ w ∈ wsX50, w ∈ wsX5_nearestLettuce := by decide +kernel
  have hl : lv_has ls 6 [(0, .ref q_th), (1, .ref q_p1), (2, .ref q_p2)] := hl
  have hret : ∀ (r0 : Int32) (H : Heap) (locs : List Loc) (ls : Array Slot) (pc : Nat), some r0 = some o → decode cX5_nearestLettuce pc = .ok (.ireturn, 1) → va_P (dC, dI) vwCl [(q_th, .inr (5, [.ref q_th_fromSnail, x_th_fromGoal])), (q_p1, .inr (6, [x_p1_kinds, x_p1_column, x_p1_beside, x_p1_damps, x_p1_rentNights, x_p1_rents, x_p1_heirs, .int p1_columns, .int p1_cells, .int p1_start, .int p1_dampCount, .int p1_rentCount, .int p1_heirCount])), (q_p2, .inr (3, [.ref q_p2_kinds, .int p2_snail, .int p2_night, .int p2_begunOn])), (q_th_fromSnail, .inl (cI, 25, .inl th_fromSnail)), (q_p2_kinds, .inl (cI, 25, .inl p2_kinds))] H → va_D A [(q_th, .inr (5, [.ref q_th_fromSnail, x_th_fromGoal])), (q_p1, .inr (6, [x_p1_kinds, x_p1_column, x_p1_beside, x_p1_damps, x_p1_rentNights, x_p1_rents, x_p1_heirs, .int p1_columns, .int p1_cells, .int p1_start, .int p1_dampCount, .int p1_rentCount, .int p1_heirCount])), (q_p2, .inr (3, [.ref q_p2_kinds, .int p2_snail, .int p2_night, .int p2_begunOn])), (q_th_fromSnail, .inl (cI, 25, .inl th_fromSnail)), (q_p2_kinds, .inl (cI, 25, .inl p2_kinds))] → va_S A s.heap H locs → W p l e ({ frames := 1, cells := 0, slots := 0, locals := 21 } : Room) s m args below meth c H locs 0 0 Q (F0 m pc ls [.int r0]) := by
    intro r0 H locs ls pc ho hd hP hD hS
    cases ho
    exact ret0 H locs ls pc hd hP hD hS
  rw [fX5_nearestLettuce_e] at hF
  refine lv_bipush (v := (-4 : Int32)) hx hb dX5_nearestLettuce_0 (by decide) ?_
  refine lv_istore_n (lv' := [(3, .int (-4 : Int32)), (0, .ref q_th), (1, .ref q_p1), (2, .ref q_p2)]) hx hb dX5_nearestLettuce_2 rfl hl (by decide) rfl (fun ls hl => ?_)
  refine lv_iconst (v := (nI 5)) hx hb dX5_nearestLettuce_3 (by decide) ?_
  refine lv_istore (lv' := [(4, .int (nI 5)), (3, .int (-4 : Int32)), (0, .ref q_th), (1, .ref q_p1), (2, .ref q_p2)]) hx hb dX5_nearestLettuce_4 hl (by decide) rfl (fun ls hl => ?_)
  refine lv_iconst (v := (nI 0)) hx hb dX5_nearestLettuce_6 (by decide) ?_
  have B_9 : ∀ (n_9 : Nat) (v3_9 : Int32) (v4_9 : Int32) (v5_9 : Int32), fX5_nearestLettuce_9 N p1_cells th_fromSnail p2_kinds n_9 v3_9 v4_9 v5_9 = some o → ∀ (H : Heap) (locs : List Loc) (ls : Array Slot), va_P (dC, dI) vwCl [(q_th, .inr (5, [.ref q_th_fromSnail, x_th_fromGoal])), (q_p1, .inr (6, [x_p1_kinds, x_p1_column, x_p1_beside, x_p1_damps, x_p1_rentNights, x_p1_rents, x_p1_heirs, .int p1_columns, .int p1_cells, .int p1_start, .int p1_dampCount, .int p1_rentCount, .int p1_heirCount])), (q_p2, .inr (3, [.ref q_p2_kinds, .int p2_snail, .int p2_night, .int p2_begunOn])), (q_th_fromSnail, .inl (cI, 25, .inl th_fromSnail)), (q_p2_kinds, .inl (cI, 25, .inl p2_kinds))] H → va_D A [(q_th, .inr (5, [.ref q_th_fromSnail, x_th_fromGoal])), (q_p1, .inr (6, [x_p1_kinds, x_p1_column, x_p1_beside, x_p1_damps, x_p1_rentNights, x_p1_rents, x_p1_heirs, .int p1_columns, .int p1_cells, .int p1_start, .int p1_dampCount, .int p1_rentCount, .int p1_heirCount])), (q_p2, .inr (3, [.ref q_p2_kinds, .int p2_snail, .int p2_night, .int p2_begunOn])), (q_th_fromSnail, .inl (cI, 25, .inl th_fromSnail)), (q_p2_kinds, .inl (cI, 25, .inl p2_kinds))] → va_S A s.heap H locs → lv_has ls 6 [(0, .ref q_th), (1, .ref q_p1), (2, .ref q_p2), (3, .int v3_9), (4, .int v4_9), (5, .int v5_9)] → W p l e ({ frames := 1, cells := 0, slots := 0, locals := 21 } : Room) s m args below meth c H locs 0 0 Q (F0 m 9 ls []) := by
    intro n_9
    induction n_9 with
    | zero =>
      intro v3_9 v4_9 v5_9 hF
      rw [fX5_nearestLettuce_9_z] at hF
      cases hF
    | succ n_9 ih_9 =>
      intro v3_9 v4_9 v5_9 hF H locs ls hP hD hS hl
      rw [fX5_nearestLettuce_9_s] at hF
      refine lv_iload hx hb dX5_nearestLettuce_9 (lv_at hl 5 rfl) ?_
      refine lv_aload_n hx hb dX5_nearestLettuce_11 rfl (lv_at hl 1 rfl) ?_
      refine nx_getN S0 hK hP 1 8 hin_X6 hf_74 rfl rfl (by decide) rfl rfl dX5_nearestLettuce_12 ?_
      refine lv_icmp_ge (tgt := 68) hx hb dX5_nearestLettuce_15 (by decide) (fun hc => ?_) (fun hc => ?_)
      · have hF := ng_t hc hF
        refine lv_iload_n hx hb dX5_nearestLettuce_68 rfl (lv_at hl 3 rfl) ?_
        exact hret v3_9 _ _ _ _ hF dX5_nearestLettuce_69 hP hD hS
      · have hF := ng_f hc hF
        refine lv_iload hx hb dX5_nearestLettuce_18 (lv_at hl 5 rfl) ?_
        refine lv_aload_n hx hb dX5_nearestLettuce_20 rfl (lv_at hl 0 rfl) ?_
        refine nx_get S0 hK hP 0 0 hin_X5 hf_9 rfl rfl (by decide) rfl rfl dX5_nearestLettuce_21 ?_
        refine nx_alen S0 hK hP 3 (v := (nI 25)) rfl (by decide) dX5_nearestLettuce_24 ?_
        refine lv_icmp_ge (tgt := 68) hx hb dX5_nearestLettuce_25 (by decide) (fun hc => ?_) (fun hc => ?_)
        · have hF := ng_t hc hF
          refine lv_iload_n hx hb dX5_nearestLettuce_68 rfl (lv_at hl 3 rfl) ?_
          exact hret v3_9 _ _ _ _ hF dX5_nearestLettuce_69 hP hD hS
        · have hF := ng_f hc hF
          refine lv_aload_n hx hb dX5_nearestLettuce_28 rfl (lv_at hl 2 rfl) ?_
          refine lv_iload hx hb dX5_nearestLettuce_29 (lv_at hl 5 rfl) ?_
          obtain ⟨o31, hF1, hF⟩ := ng_b hF
          refine nx_callVi (As := [.int v5_9]) (rest := []) (W1 := [(q_th, .inr (5, [.ref q_th_fromSnail, x_th_fromGoal])), (q_p1, .inr (6, [x_p1_kinds, x_p1_column, x_p1_beside, x_p1_damps, x_p1_rentNights, x_p1_rents, x_p1_heirs, .int p1_columns, .int p1_cells, .int p1_start, .int p1_dampCount, .int p1_rentCount, .int p1_heirCount])), (q_p2, .inr (3, [.ref q_p2_kinds, .int p2_snail, .int p2_night, .int p2_begunOn])), (q_th_fromSnail, .inl (cI, 25, .inl th_fromSnail)), (q_p2_kinds, .inl (cI, 25, .inl p2_kinds))]) (wr := [(q_th, .inr (5, [.ref q_th_fromSnail, x_th_fromGoal])), (q_p1, .inr (6, [x_p1_kinds, x_p1_column, x_p1_beside, x_p1_damps, x_p1_rentNights, x_p1_rents, x_p1_heirs, .int p1_columns, .int p1_cells, .int p1_start, .int p1_dampCount, .int p1_rentCount, .int p1_heirCount])), (q_th_fromSnail, .inl (cI, 25, .inl th_fromSnail))]) S0 hK hN hA hP hD hS (kX3_kindAt l dC dI cI q_p2 q_p2_kinds _ p2_snail p2_night p2_begunOn p2_kinds v5_9 N o31 hF1) (cwV 1 hts gX5_nearestLettuce_X3_kindAt rfl rfl rfl ⟨rfl, hdX3_kindAt⟩ ⟨Nat.le_of_ble_eq_true rfl, Nat.le_of_ble_eq_true rfl⟩) [2, 4] [0, 1, 3] [0, 1, 3, 2, 4] rfl rfl rfl rfl 2 3 rfl rfl rfl rfl hl.1 rfl (Nat.le_of_ble_eq_true rfl) dX5_nearestLettuce_31 (fun H locs hP hD hS => ?_)
          refine lv_iconst (v := (nI 3)) hx hb dX5_nearestLettuce_34 (by decide) ?_
          refine lv_icmp_ne (tgt := 62) hx hb dX5_nearestLettuce_35 (by decide) (fun hc => ?_) (fun hc => ?_)
          · have hF := ng_f hc hF
            refine lv_iinc (v := v5_9 + (nI 1)) (lv' := [(5, .int (v5_9 + (nI 1))), (0, .ref q_th), (1, .ref q_p1), (2, .ref q_p2), (3, .int v3_9), (4, .int v4_9)]) hx hb dX5_nearestLettuce_62 hl (k := 5) rfl rfl (by decide) rfl (fun ls hl => ?_)
            refine lv_goto (tgt := 9) hx hb dX5_nearestLettuce_65 (by decide) ?_
            exact ih_9 v3_9 v4_9 (v5_9 + (nI 1)) hF _ _ _ hP hD hS (lv_sub hl [1, 2, 3, 4, 5, 0] rfl)
          · have hF := ng_t hc hF
            refine lv_aload_n hx hb dX5_nearestLettuce_38 rfl (lv_at hl 0 rfl) ?_
            refine nx_get S0 hK hP 0 0 hin_X5 hf_9 rfl rfl (by decide) rfl rfl dX5_nearestLettuce_39 ?_
            refine lv_iload hx hb dX5_nearestLettuce_42 (lv_at hl 5 rfl) ?_
            have hg := ng_p hF
            have hF := ng_x hF
            refine nx_iald S0 hK hP 3 (v := th_fromSnail v5_9.toNatClampNeg) rfl hg rfl dX5_nearestLettuce_44 ?_
            refine lv_iload hx hb dX5_nearestLettuce_45 (lv_at hl 4 rfl) ?_
            refine lv_icmp_ge (tgt := 62) hx hb dX5_nearestLettuce_47 (by decide) (fun hc => ?_) (fun hc => ?_)
            · have hF := ng_t hc hF
              refine lv_iinc (v := v5_9 + (nI 1)) (lv' := [(5, .int (v5_9 + (nI 1))), (0, .ref q_th), (1, .ref q_p1), (2, .ref q_p2), (3, .int v3_9), (4, .int v4_9)]) hx hb dX5_nearestLettuce_62 hl (k := 5) rfl rfl (by decide) rfl (fun ls hl => ?_)
              refine lv_goto (tgt := 9) hx hb dX5_nearestLettuce_65 (by decide) ?_
              exact ih_9 v3_9 v4_9 (v5_9 + (nI 1)) hF _ _ _ hP hD hS (lv_sub hl [1, 2, 3, 4, 5, 0] rfl)
            · have hF := ng_f hc hF
              refine lv_aload_n hx hb dX5_nearestLettuce_50 rfl (lv_at hl 0 rfl) ?_
              refine nx_get S0 hK hP 0 0 hin_X5 hf_9 rfl rfl (by decide) rfl rfl dX5_nearestLettuce_51 ?_
              refine lv_iload hx hb dX5_nearestLettuce_54 (lv_at hl 5 rfl) ?_
              have hg := ng_p hF
              have hF := ng_x hF
              refine nx_iald S0 hK hP 3 (v := th_fromSnail v5_9.toNatClampNeg) rfl hg rfl dX5_nearestLettuce_56 ?_
              refine lv_istore (lv' := [(4, .int (th_fromSnail v5_9.toNatClampNeg)), (0, .ref q_th), (1, .ref q_p1), (2, .ref q_p2), (3, .int v3_9), (5, .int v5_9)]) hx hb dX5_nearestLettuce_57 hl (by decide) rfl (fun ls hl => ?_)
              refine lv_iload hx hb dX5_nearestLettuce_59 (lv_at hl 5 rfl) ?_
              refine lv_istore_n (lv' := [(3, .int v5_9), (4, .int (th_fromSnail v5_9.toNatClampNeg)), (0, .ref q_th), (1, .ref q_p1), (2, .ref q_p2), (5, .int v5_9)]) hx hb dX5_nearestLettuce_61 rfl hl (by decide) rfl (fun ls hl => ?_)
              refine lv_iinc (v := v5_9 + (nI 1)) (lv' := [(5, .int (v5_9 + (nI 1))), (3, .int v5_9), (4, .int (th_fromSnail v5_9.toNatClampNeg)), (0, .ref q_th), (1, .ref q_p1), (2, .ref q_p2)]) hx hb dX5_nearestLettuce_62 hl (k := 5) rfl rfl (by decide) rfl (fun ls hl => ?_)
              refine lv_goto (tgt := 9) hx hb dX5_nearestLettuce_65 (by decide) ?_
              exact ih_9 v5_9 (th_fromSnail v5_9.toNatClampNeg) (v5_9 + (nI 1)) hF _ _ _ hP hD hS (lv_sub hl [3, 4, 5, 1, 2, 0] rfl)
  refine lv_istore (lv' := [(5, .int (nI 0)), (4, .int (nI 5)), (3, .int (-4 : Int32)), (0, .ref q_th), (1, .ref q_p1), (2, .ref q_p2)]) hx hb dX5_nearestLettuce_7 hl (by decide) rfl (fun ls hl => ?_)
  exact B_9 N (-4 : Int32) (nI 5) (nI 0) hF _ _ _ hP hD hS (lv_sub hl [3, 4, 5, 2, 1, 0] rfl)
theorem hdX5_nearestOfLine : yX5_nearestOfLine.cls ≠ "java/lang/invoke/MethodHandle" ∧ yX5_nearestOfLine.cls ≠ "java/lang/invoke/VarHandle" ∧ (parseMethodDescriptor yX5_nearestOfLine.desc).map (fun d => d.parameters.length) = some 1 := by decide +kernel
set_option maxHeartbeats 40000000 in
set_option maxRecDepth 100000 in
theorem kX5_nearestOfLine (l : Launch) (dC : Nat → ClassId) (dI : Nat → Nat → Nat) (cI : ClassId) (q_th : Nat) (q_p1 : Nat) (q_th_fromSnail : Nat) (sz : Nat) (x_th_fromGoal : Value) (x_p1_kinds : Value) (x_p1_column : Value) (x_p1_beside : Value) (x_p1_damps : Value) (x_p1_rentNights : Value) (x_p1_rents : Value) (x_p1_heirs : Value) (p1_columns : Int32) (p1_cells : Int32) (p1_start : Int32) (p1_dampCount : Int32) (p1_rentCount : Int32) (p1_heirCount : Int32) (th_fromSnail : Nat → Int32) (N : Nat) (o : Int32) (hF : fX5_nearestOfLine N p1_columns p1_cells th_fromSnail = some o) : nx_I l yX5_nearestOfLine wsX5_nearestOfLine ({ frames := 1, cells := 0, slots := 0, locals := 21 } : Room) (dC, dI) cI [.ref q_th, .ref q_p1] [(q_th, .inr (5, [.ref q_th_fromSnail, x_th_fromGoal])), (q_p1, .inr (6, [x_p1_kinds, x_p1_column, x_p1_beside, x_p1_damps, x_p1_rentNights, x_p1_rents, x_p1_heirs, .int p1_columns, .int p1_cells, .int p1_start, .int p1_dampCount, .int p1_rentCount, .int p1_heirCount])), (q_th_fromSnail, .inl (cI, 25, .inl th_fromSnail))] sz o [(q_th, .inr (5, [.ref q_th_fromSnail, x_th_fromGoal])), (q_p1, .inr (6, [x_p1_kinds, x_p1_column, x_p1_beside, x_p1_damps, x_p1_rentNights, x_p1_rents, x_p1_heirs, .int p1_columns, .int p1_cells, .int p1_start, .int p1_dampCount, .int p1_rentCount, .int p1_heirCount])), (q_th_fromSnail, .inl (cI, 25, .inl th_fromSnail))] := by
  refine nx_int (cc := cX5_nearestOfLine) (maxL := 5) (by decide) rfl (Nat.le_of_ble_eq_true rfl) ?_
  intro p e s m args below meth c Q A S0 hK hN hA ret0 hP hD hS ls hl
  have S0 : CallFix p m c cX5_nearestOfLine 5 s args wsX5_nearestOfLine RX5 := S0
  have hx := S0.1
  have hb := S0.2.1
  have hown := S0.2.2.2.1
  have hts := S0.2.2.2.2
  have hf_74 := hN.f (args := args) (a := "SnailsYear$Walker") (i := 74) (b := "SnailsYear$Yard") (n := "cells") (d := "I") (k := "SnailsYear") (by decide +kernel)
  have hin_X6 : ∀ w ∈ wsX60, w ∈ wsX5_nearestOfLine := by decide +kernel
  have hf_9 := hts (.fieldLink RX5 9 "SnailsYear$Walker" "fromSnail" "[I") (by decide +kernel)
  have hin_X5 : ∀ w ∈ wsX50, w ∈ wsX5_nearestOfLine := by decide +kernel
  have hl : lv_has ls 5 [(0, .ref q_th), (1, .ref q_p1)] := hl
  have hret : ∀ (r0 : Int32) (H : Heap) (locs : List Loc) (ls : Array Slot) (pc : Nat), some r0 = some o → decode cX5_nearestOfLine pc = .ok (.ireturn, 1) → va_P (dC, dI) vwCl [(q_th, .inr (5, [.ref q_th_fromSnail, x_th_fromGoal])), (q_p1, .inr (6, [x_p1_kinds, x_p1_column, x_p1_beside, x_p1_damps, x_p1_rentNights, x_p1_rents, x_p1_heirs, .int p1_columns, .int p1_cells, .int p1_start, .int p1_dampCount, .int p1_rentCount, .int p1_heirCount])), (q_th_fromSnail, .inl (cI, 25, .inl th_fromSnail))] H → va_D A [(q_th, .inr (5, [.ref q_th_fromSnail, x_th_fromGoal])), (q_p1, .inr (6, [x_p1_kinds, x_p1_column, x_p1_beside, x_p1_damps, x_p1_rentNights, x_p1_rents, x_p1_heirs, .int p1_columns, .int p1_cells, .int p1_start, .int p1_dampCount, .int p1_rentCount, .int p1_heirCount])), (q_th_fromSnail, .inl (cI, 25, .inl th_fromSnail))] → va_S A s.heap H locs → W p l e ({ frames := 1, cells := 0, slots := 0, locals := 21 } : Room) s m args below meth c H locs 0 0 Q (F0 m pc ls [.int r0]) := by
    intro r0 H locs ls pc ho hd hP hD hS
    cases ho
    exact ret0 H locs ls pc hd hP hD hS
  rw [fX5_nearestOfLine_e] at hF
  refine lv_bipush (v := (-4 : Int32)) hx hb dX5_nearestOfLine_0 (by decide) ?_
  refine lv_istore_n (lv' := [(2, .int (-4 : Int32)), (0, .ref q_th), (1, .ref q_p1)]) hx hb dX5_nearestOfLine_2 rfl hl (by decide) rfl (fun ls hl => ?_)
  refine lv_sipush (v := (nI 1000)) hx hb dX5_nearestOfLine_3 (by decide) ?_
  refine lv_istore_n (lv' := [(3, .int (nI 1000)), (2, .int (-4 : Int32)), (0, .ref q_th), (1, .ref q_p1)]) hx hb dX5_nearestOfLine_6 rfl hl (by decide) rfl (fun ls hl => ?_)
  refine lv_iconst (v := (nI 0)) hx hb dX5_nearestOfLine_7 (by decide) ?_
  have B_10 : ∀ (n_10 : Nat) (v2_10 : Int32) (v3_10 : Int32) (v4_10 : Int32), fX5_nearestOfLine_10 N p1_columns p1_cells th_fromSnail n_10 v2_10 v3_10 v4_10 = some o → ∀ (H : Heap) (locs : List Loc) (ls : Array Slot), va_P (dC, dI) vwCl [(q_th, .inr (5, [.ref q_th_fromSnail, x_th_fromGoal])), (q_p1, .inr (6, [x_p1_kinds, x_p1_column, x_p1_beside, x_p1_damps, x_p1_rentNights, x_p1_rents, x_p1_heirs, .int p1_columns, .int p1_cells, .int p1_start, .int p1_dampCount, .int p1_rentCount, .int p1_heirCount])), (q_th_fromSnail, .inl (cI, 25, .inl th_fromSnail))] H → va_D A [(q_th, .inr (5, [.ref q_th_fromSnail, x_th_fromGoal])), (q_p1, .inr (6, [x_p1_kinds, x_p1_column, x_p1_beside, x_p1_damps, x_p1_rentNights, x_p1_rents, x_p1_heirs, .int p1_columns, .int p1_cells, .int p1_start, .int p1_dampCount, .int p1_rentCount, .int p1_heirCount])), (q_th_fromSnail, .inl (cI, 25, .inl th_fromSnail))] → va_S A s.heap H locs → lv_has ls 5 [(0, .ref q_th), (1, .ref q_p1), (2, .int v2_10), (3, .int v3_10), (4, .int v4_10)] → W p l e ({ frames := 1, cells := 0, slots := 0, locals := 21 } : Room) s m args below meth c H locs 0 0 Q (F0 m 10 ls []) := by
    intro n_10
    induction n_10 with
    | zero =>
      intro v2_10 v3_10 v4_10 hF
      rw [fX5_nearestOfLine_10_z] at hF
      cases hF
    | succ n_10 ih_10 =>
      intro v2_10 v3_10 v4_10 hF H locs ls hP hD hS hl
      rw [fX5_nearestOfLine_10_s] at hF
      refine lv_iload hx hb dX5_nearestOfLine_10 (lv_at hl 4 rfl) ?_
      refine lv_aload_n hx hb dX5_nearestOfLine_12 rfl (lv_at hl 1 rfl) ?_
      refine nx_getN S0 hK hP 1 8 hin_X6 hf_74 rfl rfl (by decide) rfl rfl dX5_nearestOfLine_13 ?_
      refine lv_icmp_ge (tgt := 66) hx hb dX5_nearestOfLine_16 (by decide) (fun hc => ?_) (fun hc => ?_)
      · have hF := ng_t hc hF
        refine lv_iload_n hx hb dX5_nearestOfLine_66 rfl (lv_at hl 2 rfl) ?_
        exact hret v2_10 _ _ _ _ hF dX5_nearestOfLine_67 hP hD hS
      · have hF := ng_f hc hF
        refine lv_iload hx hb dX5_nearestOfLine_19 (lv_at hl 4 rfl) ?_
        refine lv_aload_n hx hb dX5_nearestOfLine_21 rfl (lv_at hl 0 rfl) ?_
        refine nx_get S0 hK hP 0 0 hin_X5 hf_9 rfl rfl (by decide) rfl rfl dX5_nearestOfLine_22 ?_
        refine nx_alen S0 hK hP 2 (v := (nI 25)) rfl (by decide) dX5_nearestOfLine_25 ?_
        refine lv_icmp_ge (tgt := 66) hx hb dX5_nearestOfLine_26 (by decide) (fun hc => ?_) (fun hc => ?_)
        · have hF := ng_t hc hF
          refine lv_iload_n hx hb dX5_nearestOfLine_66 rfl (lv_at hl 2 rfl) ?_
          exact hret v2_10 _ _ _ _ hF dX5_nearestOfLine_67 hP hD hS
        · have hF := ng_f hc hF
          refine lv_aload_n hx hb dX5_nearestOfLine_29 rfl (lv_at hl 1 rfl) ?_
          refine lv_iload hx hb dX5_nearestOfLine_30 (lv_at hl 4 rfl) ?_
          obtain ⟨o32, hF1, hF⟩ := ng_b hF
          refine nx_callVi (As := [.int v4_10]) (rest := []) (W1 := [(q_th, .inr (5, [.ref q_th_fromSnail, x_th_fromGoal])), (q_p1, .inr (6, [x_p1_kinds, x_p1_column, x_p1_beside, x_p1_damps, x_p1_rentNights, x_p1_rents, x_p1_heirs, .int p1_columns, .int p1_cells, .int p1_start, .int p1_dampCount, .int p1_rentCount, .int p1_heirCount])), (q_th_fromSnail, .inl (cI, 25, .inl th_fromSnail))]) (wr := [(q_th, .inr (5, [.ref q_th_fromSnail, x_th_fromGoal])), (q_th_fromSnail, .inl (cI, 25, .inl th_fromSnail))]) S0 hK hN hA hP hD hS (kX6_isOfLine l dC dI cI q_p1 _ (x_p1_kinds) (x_p1_column) (x_p1_beside) (x_p1_damps) (x_p1_rentNights) (x_p1_rents) (x_p1_heirs) p1_columns p1_cells p1_start p1_dampCount p1_rentCount p1_heirCount v4_10 N o32 hF1) (cwV 1 hts gX5_nearestOfLine_X6_isOfLine rfl rfl rfl ⟨rfl, hdX6_isOfLine⟩ ⟨Nat.le_of_ble_eq_true rfl, Nat.le_of_ble_eq_true rfl⟩) [1] [0, 2] [0, 2, 1] rfl rfl rfl rfl 1 6 rfl rfl rfl rfl hl.1 rfl (Nat.le_of_ble_eq_true rfl) dX5_nearestOfLine_32 (fun H locs hP hD hS => ?_)
          refine lv_if_eq (tgt := 60) hx hb dX5_nearestOfLine_35 (by decide) (fun hc => ?_) (fun hc => ?_)
          · have hF := ng_t hc hF
            refine lv_iinc (v := v4_10 + (nI 1)) (lv' := [(4, .int (v4_10 + (nI 1))), (0, .ref q_th), (1, .ref q_p1), (2, .int v2_10), (3, .int v3_10)]) hx hb dX5_nearestOfLine_60 hl (k := 4) rfl rfl (by decide) rfl (fun ls hl => ?_)
            refine lv_goto (tgt := 10) hx hb dX5_nearestOfLine_63 (by decide) ?_
            exact ih_10 v2_10 v3_10 (v4_10 + (nI 1)) hF _ _ _ hP hD hS (lv_sub hl [1, 2, 3, 4, 0] rfl)
          · have hF := ng_f hc hF
            refine lv_aload_n hx hb dX5_nearestOfLine_38 rfl (lv_at hl 0 rfl) ?_
            refine nx_get S0 hK hP 0 0 hin_X5 hf_9 rfl rfl (by decide) rfl rfl dX5_nearestOfLine_39 ?_
            refine lv_iload hx hb dX5_nearestOfLine_42 (lv_at hl 4 rfl) ?_
            have hg := ng_p hF
            have hF := ng_x hF
            refine nx_iald S0 hK hP 2 (v := th_fromSnail v4_10.toNatClampNeg) rfl hg rfl dX5_nearestOfLine_44 ?_
            refine lv_iload_n hx hb dX5_nearestOfLine_45 rfl (lv_at hl 3 rfl) ?_
            refine lv_icmp_ge (tgt := 60) hx hb dX5_nearestOfLine_46 (by decide) (fun hc => ?_) (fun hc => ?_)
            · have hF := ng_t hc hF
              refine lv_iinc (v := v4_10 + (nI 1)) (lv' := [(4, .int (v4_10 + (nI 1))), (0, .ref q_th), (1, .ref q_p1), (2, .int v2_10), (3, .int v3_10)]) hx hb dX5_nearestOfLine_60 hl (k := 4) rfl rfl (by decide) rfl (fun ls hl => ?_)
              refine lv_goto (tgt := 10) hx hb dX5_nearestOfLine_63 (by decide) ?_
              exact ih_10 v2_10 v3_10 (v4_10 + (nI 1)) hF _ _ _ hP hD hS (lv_sub hl [1, 2, 3, 4, 0] rfl)
            · have hF := ng_f hc hF
              refine lv_aload_n hx hb dX5_nearestOfLine_49 rfl (lv_at hl 0 rfl) ?_
              refine nx_get S0 hK hP 0 0 hin_X5 hf_9 rfl rfl (by decide) rfl rfl dX5_nearestOfLine_50 ?_
              refine lv_iload hx hb dX5_nearestOfLine_53 (lv_at hl 4 rfl) ?_
              have hg := ng_p hF
              have hF := ng_x hF
              refine nx_iald S0 hK hP 2 (v := th_fromSnail v4_10.toNatClampNeg) rfl hg rfl dX5_nearestOfLine_55 ?_
              refine lv_istore_n (lv' := [(3, .int (th_fromSnail v4_10.toNatClampNeg)), (0, .ref q_th), (1, .ref q_p1), (2, .int v2_10), (4, .int v4_10)]) hx hb dX5_nearestOfLine_56 rfl hl (by decide) rfl (fun ls hl => ?_)
              refine lv_iload hx hb dX5_nearestOfLine_57 (lv_at hl 4 rfl) ?_
              refine lv_istore_n (lv' := [(2, .int v4_10), (3, .int (th_fromSnail v4_10.toNatClampNeg)), (0, .ref q_th), (1, .ref q_p1), (4, .int v4_10)]) hx hb dX5_nearestOfLine_59 rfl hl (by decide) rfl (fun ls hl => ?_)
              refine lv_iinc (v := v4_10 + (nI 1)) (lv' := [(4, .int (v4_10 + (nI 1))), (2, .int v4_10), (3, .int (th_fromSnail v4_10.toNatClampNeg)), (0, .ref q_th), (1, .ref q_p1)]) hx hb dX5_nearestOfLine_60 hl (k := 4) rfl rfl (by decide) rfl (fun ls hl => ?_)
              refine lv_goto (tgt := 10) hx hb dX5_nearestOfLine_63 (by decide) ?_
              exact ih_10 v4_10 (th_fromSnail v4_10.toNatClampNeg) (v4_10 + (nI 1)) hF _ _ _ hP hD hS (lv_sub hl [3, 4, 1, 2, 0] rfl)
  refine lv_istore (lv' := [(4, .int (nI 0)), (3, .int (nI 1000)), (2, .int (-4 : Int32)), (0, .ref q_th), (1, .ref q_p1)]) hx hb dX5_nearestOfLine_8 hl (by decide) rfl (fun ls hl => ?_)
  exact B_10 N (-4 : Int32) (nI 1000) (nI 0) hF _ _ _ hP hD hS (lv_sub hl [3, 4, 2, 1, 0] rfl)
theorem hdX5_spread : yX5_spread.cls ≠ "java/lang/invoke/MethodHandle" ∧ yX5_spread.cls ≠ "java/lang/invoke/VarHandle" ∧ (parseMethodDescriptor yX5_spread.desc).map (fun d => d.parameters.length) = some 4 := by decide +kernel
set_option maxHeartbeats 40000000 in
set_option maxRecDepth 100000 in
theorem kX5_spread (l : Launch) (dC : Nat → ClassId) (dI : Nat → Nat → Nat) (cI : ClassId) (q_p1 : Nat) (q_p2 : Nat) (q_p3 : Nat) (q_p1_beside : Nat) (q_p2_kinds : Nat) (n_p3 : Nat) (sz : Nat) (x_p1_kinds : Value) (x_p1_column : Value) (x_p1_damps : Value) (x_p1_rentNights : Value) (x_p1_rents : Value) (x_p1_heirs : Value) (p1_columns : Int32) (p1_cells : Int32) (p1_start : Int32) (p1_dampCount : Int32) (p1_rentCount : Int32) (p1_heirCount : Int32) (p2_snail : Int32) (p2_night : Int32) (p2_begunOn : Int32) (p3 : Nat → Int32) (p1_beside : Nat → Int32) (p2_kinds : Nat → Int32) (p0 : Int32) (N : Nat) (o : (Nat → Int32)) (hF : fX5_spread N p0 p1_cells n_p3 p3 p1_beside p2_kinds = some o) : nx_V l yX5_spread wsX5_spread ({ frames := 1, cells := 0, slots := 0, locals := 23 } : Room) (dC, dI) cI [.int p0, .ref q_p1, .ref q_p2, .ref q_p3] [(q_p1, .inr (6, [x_p1_kinds, x_p1_column, .ref q_p1_beside, x_p1_damps, x_p1_rentNights, x_p1_rents, x_p1_heirs, .int p1_columns, .int p1_cells, .int p1_start, .int p1_dampCount, .int p1_rentCount, .int p1_heirCount])), (q_p2, .inr (3, [.ref q_p2_kinds, .int p2_snail, .int p2_night, .int p2_begunOn])), (q_p3, .inl (cI, n_p3, .inl p3)), (q_p1_beside, .inl (cI, 100, .inl p1_beside)), (q_p2_kinds, .inl (cI, 25, .inl p2_kinds))] sz [(q_p1, .inr (6, [x_p1_kinds, x_p1_column, .ref q_p1_beside, x_p1_damps, x_p1_rentNights, x_p1_rents, x_p1_heirs, .int p1_columns, .int p1_cells, .int p1_start, .int p1_dampCount, .int p1_rentCount, .int p1_heirCount])), (q_p2, .inr (3, [.ref q_p2_kinds, .int p2_snail, .int p2_night, .int p2_begunOn])), (q_p3, .inl (cI, n_p3, .inl o)), (q_p1_beside, .inl (cI, 100, .inl p1_beside)), (q_p2_kinds, .inl (cI, 25, .inl p2_kinds))] := by
  refine nx_void (cc := cX5_spread) (maxL := 10) (by decide) rfl (Nat.le_of_ble_eq_true rfl) ?_
  intro p e s m args below meth c Q A S0 hK hN hA ret0 hP hD hS ls hl
  have S0 : CallFix p m c cX5_spread 10 s args wsX5_spread RX5 := S0
  have hx := S0.1
  have hb := S0.2.1
  have hown := S0.2.2.2.1
  have hts := S0.2.2.2.2
  have hf_74 := hN.f (args := args) (a := "SnailsYear$Walker") (i := 74) (b := "SnailsYear$Yard") (n := "cells") (d := "I") (k := "SnailsYear") (by decide +kernel)
  have hin_X6 : ∀ w ∈ wsX60, w ∈ wsX5_spread := by decide +kernel
  have hcs_32 := hts (.static yX7_stepsInto) (by decide +kernel)
  have hci_32 := hts (.initialized RX7) (by decide +kernel)
  have hl : lv_has ls 10 [(0, .int p0), (1, .ref q_p1), (2, .ref q_p2), (3, .ref q_p3)] := hl
  have hret : ∀ (y0 : Nat → Int32) (H : Heap) (locs : List Loc) (ls : Array Slot) (pc : Nat), some y0 = some o → decode cX5_spread pc = .ok (.return_, 1) → va_P (dC, dI) vwCl [(q_p1, .inr (6, [x_p1_kinds, x_p1_column, .ref q_p1_beside, x_p1_damps, x_p1_rentNights, x_p1_rents, x_p1_heirs, .int p1_columns, .int p1_cells, .int p1_start, .int p1_dampCount, .int p1_rentCount, .int p1_heirCount])), (q_p2, .inr (3, [.ref q_p2_kinds, .int p2_snail, .int p2_night, .int p2_begunOn])), (q_p3, .inl (cI, n_p3, .inl y0)), (q_p1_beside, .inl (cI, 100, .inl p1_beside)), (q_p2_kinds, .inl (cI, 25, .inl p2_kinds))] H → va_D A [(q_p1, .inr (6, [x_p1_kinds, x_p1_column, .ref q_p1_beside, x_p1_damps, x_p1_rentNights, x_p1_rents, x_p1_heirs, .int p1_columns, .int p1_cells, .int p1_start, .int p1_dampCount, .int p1_rentCount, .int p1_heirCount])), (q_p2, .inr (3, [.ref q_p2_kinds, .int p2_snail, .int p2_night, .int p2_begunOn])), (q_p3, .inl (cI, n_p3, .inl y0)), (q_p1_beside, .inl (cI, 100, .inl p1_beside)), (q_p2_kinds, .inl (cI, 25, .inl p2_kinds))] → va_S A s.heap H locs → W p l e ({ frames := 1, cells := 0, slots := 0, locals := 23 } : Room) s m args below meth c H locs 0 0 Q (F0 m pc ls []) := by
    intro y0 H locs ls pc ho hd hP hD hS
    cases ho
    exact ret0 H locs ls pc hd hP hD hS
  rw [fX5_spread_e] at hF
  refine lv_aload_n hx hb dX5_spread_0 rfl (lv_at hl 3 rfl) ?_
  refine lv_sipush (v := (nI 1000)) hx hb dX5_spread_1 (by decide) ?_
  obtain ⟨o4, hF1, hF⟩ := ng_b hF
  refine nx_callSv (As := [.ref q_p3, .int (nI 1000)]) (rest := []) (W1 := [(q_p1, .inr (6, [x_p1_kinds, x_p1_column, .ref q_p1_beside, x_p1_damps, x_p1_rentNights, x_p1_rents, x_p1_heirs, .int p1_columns, .int p1_cells, .int p1_start, .int p1_dampCount, .int p1_rentCount, .int p1_heirCount])), (q_p2, .inr (3, [.ref q_p2_kinds, .int p2_snail, .int p2_night, .int p2_begunOn])), (q_p3, .inl (cI, n_p3, .inl o4)), (q_p1_beside, .inl (cI, 100, .inl p1_beside)), (q_p2_kinds, .inl (cI, 25, .inl p2_kinds))]) (wr := [(q_p1, .inr (6, [x_p1_kinds, x_p1_column, .ref q_p1_beside, x_p1_damps, x_p1_rentNights, x_p1_rents, x_p1_heirs, .int p1_columns, .int p1_cells, .int p1_start, .int p1_dampCount, .int p1_rentCount, .int p1_heirCount])), (q_p2, .inr (3, [.ref q_p2_kinds, .int p2_snail, .int p2_night, .int p2_begunOn])), (q_p1_beside, .inl (cI, 100, .inl p1_beside)), (q_p2_kinds, .inl (cI, 25, .inl p2_kinds))]) S0 hK hN hA hP hD hS (kJ7_fill_53178 l dC dI cI q_p3 n_p3 _ p3 (nI 1000) N o4 hF1) (va_cwS 2 hts gX5_spread_J7_fill_53178 rfl rfl rfl hdJ7_fill_53178 ⟨Nat.le_of_ble_eq_true rfl, Nat.le_of_ble_eq_true rfl⟩) [2] [0, 1, 3, 4] [0, 1, 4, 2, 3] rfl rfl rfl rfl rfl hl.1 rfl (Nat.le_of_ble_eq_true rfl) dX5_spread_4 (fun H locs hP hD hS => ?_)
  refine lv_iload_n hx hb dX5_spread_7 rfl (lv_at hl 0 rfl) ?_
  refine lv_if_lt (tgt := 17) hx hb dX5_spread_8 (by decide) (fun hc => ?_) (fun hc => ?_)
  · have hF := ng_t hc hF
    exact hret o4 _ _ _ _ hF dX5_spread_17 hP hD hS
  · have hF := ng_f hc hF
    refine lv_iload_n hx hb dX5_spread_11 rfl (lv_at hl 0 rfl) ?_
    refine lv_aload_n hx hb dX5_spread_12 rfl (lv_at hl 3 rfl) ?_
    refine nx_alen S0 hK hP 2 (v := nI n_p3) rfl rfl dX5_spread_13 ?_
    refine lv_icmp_lt (tgt := 18) hx hb dX5_spread_14 (by decide) (fun hc => ?_) (fun hc => ?_)
    · have hF := ng_t hc hF
      refine lv_aload_n hx hb dX5_spread_18 rfl (lv_at hl 3 rfl) ?_
      refine lv_iload_n hx hb dX5_spread_19 rfl (lv_at hl 0 rfl) ?_
      refine lv_iconst (v := (nI 0)) hx hb dX5_spread_20 (by decide) ?_
      have hg := ng_p hF
      have hF := ng_x hF
      refine nx_iast S0 hK hP hD hS 2 rfl hg dX5_spread_21 (W1 := [(q_p1, .inr (6, [x_p1_kinds, x_p1_column, .ref q_p1_beside, x_p1_damps, x_p1_rentNights, x_p1_rents, x_p1_heirs, .int p1_columns, .int p1_cells, .int p1_start, .int p1_dampCount, .int p1_rentCount, .int p1_heirCount])), (q_p2, .inr (3, [.ref q_p2_kinds, .int p2_snail, .int p2_night, .int p2_begunOn])), (q_p3, .inl (cI, n_p3, .inl (upd o4 p0.toNatClampNeg (nI 0)))), (q_p1_beside, .inl (cI, 100, .inl p1_beside)), (q_p2_kinds, .inl (cI, 25, .inl p2_kinds))]) rfl (fun H locs hP hD hS => ?_)
      refine lv_iconst (v := (nI 1)) hx hb dX5_spread_22 (by decide) ?_
      refine lv_istore (lv' := [(4, .int (nI 1)), (0, .int p0), (1, .ref q_p1), (2, .ref q_p2), (3, .ref q_p3)]) hx hb dX5_spread_23 hl (by decide) rfl (fun ls hl => ?_)
      refine lv_iconst (v := (nI 0)) hx hb dX5_spread_25 (by decide) ?_
      have B_28 : ∀ (n_28 : Nat) (v4_28 : Int32) (v5_28 : Int32) (p3_28 : Nat → Int32), fX5_spread_28 N p1_cells n_p3 p1_beside p2_kinds n_28 v4_28 v5_28 p3_28 = some o → ∀ (H : Heap) (locs : List Loc) (ls : Array Slot), va_P (dC, dI) vwCl [(q_p1, .inr (6, [x_p1_kinds, x_p1_column, .ref q_p1_beside, x_p1_damps, x_p1_rentNights, x_p1_rents, x_p1_heirs, .int p1_columns, .int p1_cells, .int p1_start, .int p1_dampCount, .int p1_rentCount, .int p1_heirCount])), (q_p2, .inr (3, [.ref q_p2_kinds, .int p2_snail, .int p2_night, .int p2_begunOn])), (q_p3, .inl (cI, n_p3, .inl p3_28)), (q_p1_beside, .inl (cI, 100, .inl p1_beside)), (q_p2_kinds, .inl (cI, 25, .inl p2_kinds))] H → va_D A [(q_p1, .inr (6, [x_p1_kinds, x_p1_column, .ref q_p1_beside, x_p1_damps, x_p1_rentNights, x_p1_rents, x_p1_heirs, .int p1_columns, .int p1_cells, .int p1_start, .int p1_dampCount, .int p1_rentCount, .int p1_heirCount])), (q_p2, .inr (3, [.ref q_p2_kinds, .int p2_snail, .int p2_night, .int p2_begunOn])), (q_p3, .inl (cI, n_p3, .inl p3_28)), (q_p1_beside, .inl (cI, 100, .inl p1_beside)), (q_p2_kinds, .inl (cI, 25, .inl p2_kinds))] → va_S A s.heap H locs → lv_has ls 10 [(1, .ref q_p1), (2, .ref q_p2), (3, .ref q_p3), (4, .int v4_28), (5, .int v5_28)] → W p l e ({ frames := 1, cells := 0, slots := 0, locals := 23 } : Room) s m args below meth c H locs 0 0 Q (F0 m 28 ls []) := by
        intro n_28
        induction n_28 with
        | zero =>
          intro v4_28 v5_28 p3_28 hF
          rw [fX5_spread_28_z] at hF
          cases hF
        | succ n_28 ih_28 =>
          intro v4_28 v5_28 p3_28 hF H locs ls hP hD hS hl
          rw [fX5_spread_28_s] at hF
          refine lv_iload hx hb dX5_spread_28 (lv_at hl 3 rfl) ?_
          refine lv_if_eq (tgt := 164) hx hb dX5_spread_30 (by decide) (fun hc => ?_) (fun hc => ?_)
          · have hF := ng_t hc hF
            exact hret p3_28 _ _ _ _ hF dX5_spread_164 hP hD hS
          · have hF := ng_f hc hF
            refine lv_iload hx hb dX5_spread_33 (lv_at hl 4 rfl) ?_
            refine lv_bipush (v := (nI 25)) hx hb dX5_spread_35 (by decide) ?_
            refine lv_icmp_ge (tgt := 164) hx hb dX5_spread_37 (by decide) (fun hc => ?_) (fun hc => ?_)
            · have hF := ng_t hc hF
              exact hret p3_28 _ _ _ _ hF dX5_spread_164 hP hD hS
            · have hF := ng_f hc hF
              refine lv_iconst (v := (nI 0)) hx hb dX5_spread_40 (by decide) ?_
              refine lv_istore (lv' := [(4, .int (nI 0)), (1, .ref q_p1), (2, .ref q_p2), (3, .ref q_p3), (5, .int v5_28)]) hx hb dX5_spread_41 hl (by decide) rfl (fun ls hl => ?_)
              refine lv_iconst (v := (nI 0)) hx hb dX5_spread_43 (by decide) ?_
              have B_46 : ∀ (n_46 : Nat) (v4_46 : Int32) (v6_46 : Int32) (p3_46 : Nat → Int32), fX5_spread_46 N p1_cells n_p3 p1_beside p2_kinds v5_28 (fX5_spread_28 N p1_cells n_p3 p1_beside p2_kinds n_28) n_46 v4_46 v6_46 p3_46 = some o → ∀ (H : Heap) (locs : List Loc) (ls : Array Slot), va_P (dC, dI) vwCl [(q_p1, .inr (6, [x_p1_kinds, x_p1_column, .ref q_p1_beside, x_p1_damps, x_p1_rentNights, x_p1_rents, x_p1_heirs, .int p1_columns, .int p1_cells, .int p1_start, .int p1_dampCount, .int p1_rentCount, .int p1_heirCount])), (q_p2, .inr (3, [.ref q_p2_kinds, .int p2_snail, .int p2_night, .int p2_begunOn])), (q_p3, .inl (cI, n_p3, .inl p3_46)), (q_p1_beside, .inl (cI, 100, .inl p1_beside)), (q_p2_kinds, .inl (cI, 25, .inl p2_kinds))] H → va_D A [(q_p1, .inr (6, [x_p1_kinds, x_p1_column, .ref q_p1_beside, x_p1_damps, x_p1_rentNights, x_p1_rents, x_p1_heirs, .int p1_columns, .int p1_cells, .int p1_start, .int p1_dampCount, .int p1_rentCount, .int p1_heirCount])), (q_p2, .inr (3, [.ref q_p2_kinds, .int p2_snail, .int p2_night, .int p2_begunOn])), (q_p3, .inl (cI, n_p3, .inl p3_46)), (q_p1_beside, .inl (cI, 100, .inl p1_beside)), (q_p2_kinds, .inl (cI, 25, .inl p2_kinds))] → va_S A s.heap H locs → lv_has ls 10 [(1, .ref q_p1), (2, .ref q_p2), (3, .ref q_p3), (4, .int v4_46), (5, .int v5_28), (6, .int v6_46)] → W p l e ({ frames := 1, cells := 0, slots := 0, locals := 23 } : Room) s m args below meth c H locs 0 0 Q (F0 m 46 ls []) := by
                intro n_46
                induction n_46 with
                | zero =>
                  intro v4_46 v6_46 p3_46 hF
                  rw [fX5_spread_46_z] at hF
                  cases hF
                | succ n_46 ih_46 =>
                  intro v4_46 v6_46 p3_46 hF H locs ls hP hD hS hl
                  rw [fX5_spread_46_s] at hF
                  refine lv_iload hx hb dX5_spread_46 (lv_at hl 5 rfl) ?_
                  refine lv_aload_n hx hb dX5_spread_48 rfl (lv_at hl 0 rfl) ?_
                  refine nx_getN S0 hK hP 0 8 hin_X6 hf_74 rfl rfl (by decide) rfl rfl dX5_spread_49 ?_
                  refine lv_icmp_ge (tgt := 158) hx hb dX5_spread_52 (by decide) (fun hc => ?_) (fun hc => ?_)
                  · have hF := ng_t hc hF
                    refine lv_iinc (v := v5_28 + (nI 1)) (lv' := [(5, .int (v5_28 + (nI 1))), (1, .ref q_p1), (2, .ref q_p2), (3, .ref q_p3), (4, .int v4_46), (6, .int v6_46)]) hx hb dX5_spread_158 hl (k := 4) rfl rfl (by decide) rfl (fun ls hl => ?_)
                    refine lv_goto (tgt := 28) hx hb dX5_spread_161 (by decide) ?_
                    exact ih_28 v4_46 (v5_28 + (nI 1)) p3_46 hF _ _ _ hP hD hS (lv_sub hl [1, 2, 3, 4, 0] rfl)
                  · have hF := ng_f hc hF
                    refine lv_iload hx hb dX5_spread_55 (lv_at hl 5 rfl) ?_
                    refine lv_aload_n hx hb dX5_spread_57 rfl (lv_at hl 2 rfl) ?_
                    refine nx_alen S0 hK hP 2 (v := nI n_p3) rfl rfl dX5_spread_58 ?_
                    refine lv_icmp_ge (tgt := 158) hx hb dX5_spread_59 (by decide) (fun hc => ?_) (fun hc => ?_)
                    · have hF := ng_t hc hF
                      refine lv_iinc (v := v5_28 + (nI 1)) (lv' := [(5, .int (v5_28 + (nI 1))), (1, .ref q_p1), (2, .ref q_p2), (3, .ref q_p3), (4, .int v4_46), (6, .int v6_46)]) hx hb dX5_spread_158 hl (k := 4) rfl rfl (by decide) rfl (fun ls hl => ?_)
                      refine lv_goto (tgt := 28) hx hb dX5_spread_161 (by decide) ?_
                      exact ih_28 v4_46 (v5_28 + (nI 1)) p3_46 hF _ _ _ hP hD hS (lv_sub hl [1, 2, 3, 4, 0] rfl)
                    · have hF := ng_f hc hF
                      refine lv_iconst (v := (nI 0)) hx hb dX5_spread_62 (by decide) ?_
                      have B_65 : ∀ (n_65 : Nat) (v4_65 : Int32) (v7_65 : Int32) (p3_65 : Nat → Int32), fX5_spread_65 N n_p3 p1_beside p2_kinds v6_46 (fX5_spread_46 N p1_cells n_p3 p1_beside p2_kinds v5_28 (fX5_spread_28 N p1_cells n_p3 p1_beside p2_kinds n_28) n_46) n_65 v4_65 v7_65 p3_65 = some o → ∀ (H : Heap) (locs : List Loc) (ls : Array Slot), va_P (dC, dI) vwCl [(q_p1, .inr (6, [x_p1_kinds, x_p1_column, .ref q_p1_beside, x_p1_damps, x_p1_rentNights, x_p1_rents, x_p1_heirs, .int p1_columns, .int p1_cells, .int p1_start, .int p1_dampCount, .int p1_rentCount, .int p1_heirCount])), (q_p2, .inr (3, [.ref q_p2_kinds, .int p2_snail, .int p2_night, .int p2_begunOn])), (q_p3, .inl (cI, n_p3, .inl p3_65)), (q_p1_beside, .inl (cI, 100, .inl p1_beside)), (q_p2_kinds, .inl (cI, 25, .inl p2_kinds))] H → va_D A [(q_p1, .inr (6, [x_p1_kinds, x_p1_column, .ref q_p1_beside, x_p1_damps, x_p1_rentNights, x_p1_rents, x_p1_heirs, .int p1_columns, .int p1_cells, .int p1_start, .int p1_dampCount, .int p1_rentCount, .int p1_heirCount])), (q_p2, .inr (3, [.ref q_p2_kinds, .int p2_snail, .int p2_night, .int p2_begunOn])), (q_p3, .inl (cI, n_p3, .inl p3_65)), (q_p1_beside, .inl (cI, 100, .inl p1_beside)), (q_p2_kinds, .inl (cI, 25, .inl p2_kinds))] → va_S A s.heap H locs → lv_has ls 10 [(1, .ref q_p1), (2, .ref q_p2), (3, .ref q_p3), (4, .int v4_65), (5, .int v5_28), (6, .int v6_46), (7, .int v7_65)] → W p l e ({ frames := 1, cells := 0, slots := 0, locals := 23 } : Room) s m args below meth c H locs 0 0 Q (F0 m 65 ls []) := by
                        intro n_65
                        induction n_65 with
                        | zero =>
                          intro v4_65 v7_65 p3_65 hF
                          rw [fX5_spread_65_z] at hF
                          cases hF
                        | succ n_65 ih_65 =>
                          intro v4_65 v7_65 p3_65 hF H locs ls hP hD hS hl
                          rw [fX5_spread_65_s] at hF
                          refine lv_iload hx hb dX5_spread_65 (lv_at hl 6 rfl) ?_
                          refine lv_iconst (v := (nI 4)) hx hb dX5_spread_67 (by decide) ?_
                          refine lv_icmp_ge (tgt := 152) hx hb dX5_spread_68 (by decide) (fun hc => ?_) (fun hc => ?_)
                          · have hF := ng_t hc hF
                            refine lv_iinc (v := v6_46 + (nI 1)) (lv' := [(6, .int (v6_46 + (nI 1))), (1, .ref q_p1), (2, .ref q_p2), (3, .ref q_p3), (4, .int v4_65), (5, .int v5_28), (7, .int v7_65)]) hx hb dX5_spread_152 hl (k := 5) rfl rfl (by decide) rfl (fun ls hl => ?_)
                            refine lv_goto (tgt := 46) hx hb dX5_spread_155 (by decide) ?_
                            exact ih_46 v4_65 (v6_46 + (nI 1)) p3_65 hF _ _ _ hP hD hS (lv_sub hl [1, 2, 3, 4, 5, 0] rfl)
                          · have hF := ng_f hc hF
                            refine lv_aload_n hx hb dX5_spread_71 rfl (lv_at hl 2 rfl) ?_
                            refine lv_iload hx hb dX5_spread_72 (lv_at hl 5 rfl) ?_
                            have hg := ng_p hF
                            have hF := ng_x hF
                            refine nx_iald S0 hK hP 2 (v := p3_65 v6_46.toNatClampNeg) rfl hg rfl dX5_spread_74 ?_
                            refine lv_sipush (v := (nI 1000)) hx hb dX5_spread_75 (by decide) ?_
                            refine lv_icmp_ge (tgt := 152) hx hb dX5_spread_78 (by decide) (fun hc => ?_) (fun hc => ?_)
                            · have hF := ng_t hc hF
                              refine lv_iinc (v := v6_46 + (nI 1)) (lv' := [(6, .int (v6_46 + (nI 1))), (1, .ref q_p1), (2, .ref q_p2), (3, .ref q_p3), (4, .int v4_65), (5, .int v5_28), (7, .int v7_65)]) hx hb dX5_spread_152 hl (k := 5) rfl rfl (by decide) rfl (fun ls hl => ?_)
                              refine lv_goto (tgt := 46) hx hb dX5_spread_155 (by decide) ?_
                              exact ih_46 v4_65 (v6_46 + (nI 1)) p3_65 hF _ _ _ hP hD hS (lv_sub hl [1, 2, 3, 4, 5, 0] rfl)
                            · have hF := ng_f hc hF
                              refine lv_aload_n hx hb dX5_spread_81 rfl (lv_at hl 0 rfl) ?_
                              refine lv_iload hx hb dX5_spread_82 (lv_at hl 5 rfl) ?_
                              refine lv_iload hx hb dX5_spread_84 (lv_at hl 6 rfl) ?_
                              obtain ⟨o86, hF1, hF⟩ := ng_b hF
                              refine nx_callVi (As := [.int v6_46, .int v7_65]) (rest := []) (W1 := [(q_p1, .inr (6, [x_p1_kinds, x_p1_column, .ref q_p1_beside, x_p1_damps, x_p1_rentNights, x_p1_rents, x_p1_heirs, .int p1_columns, .int p1_cells, .int p1_start, .int p1_dampCount, .int p1_rentCount, .int p1_heirCount])), (q_p2, .inr (3, [.ref q_p2_kinds, .int p2_snail, .int p2_night, .int p2_begunOn])), (q_p3, .inl (cI, n_p3, .inl p3_65)), (q_p1_beside, .inl (cI, 100, .inl p1_beside)), (q_p2_kinds, .inl (cI, 25, .inl p2_kinds))]) (wr := [(q_p2, .inr (3, [.ref q_p2_kinds, .int p2_snail, .int p2_night, .int p2_begunOn])), (q_p3, .inl (cI, n_p3, .inl p3_65)), (q_p2_kinds, .inl (cI, 25, .inl p2_kinds))]) S0 hK hN hA hP hD hS (kX6_besideAt l dC dI cI q_p1 q_p1_beside _ (x_p1_kinds) (x_p1_column) (x_p1_damps) (x_p1_rentNights) (x_p1_rents) (x_p1_heirs) p1_columns p1_cells p1_start p1_dampCount p1_rentCount p1_heirCount p1_beside v6_46 v7_65 N o86 hF1) (cwV 2 hts gX5_spread_X6_besideAt rfl rfl rfl ⟨rfl, hdX6_besideAt⟩ ⟨Nat.le_of_ble_eq_true rfl, Nat.le_of_ble_eq_true rfl⟩) [0, 3] [1, 2, 4] [3, 0, 1, 4, 2] rfl rfl rfl rfl 0 6 rfl rfl rfl rfl hl.1 rfl (Nat.le_of_ble_eq_true rfl) dX5_spread_86 (fun H locs hP hD hS => ?_)
                              refine lv_istore (lv' := [(8, .int o86), (1, .ref q_p1), (2, .ref q_p2), (3, .ref q_p3), (4, .int v4_65), (5, .int v5_28), (6, .int v6_46), (7, .int v7_65)]) hx hb dX5_spread_89 hl (by decide) rfl (fun ls hl => ?_)
                              refine lv_aload_n hx hb dX5_spread_91 rfl (lv_at hl 3 rfl) ?_
                              refine lv_iload hx hb dX5_spread_92 (lv_at hl 6 rfl) ?_
                              have hg := ng_p hF
                              have hF := ng_x hF
                              refine nx_iald S0 hK hP 2 (v := p3_65 v6_46.toNatClampNeg) rfl hg rfl dX5_spread_94 ?_
                              refine lv_aload_n hx hb dX5_spread_95 rfl (lv_at hl 2 rfl) ?_
                              refine lv_iload hx hb dX5_spread_96 (lv_at hl 0 rfl) ?_
                              obtain ⟨o98, hF1, hF⟩ := ng_b hF
                              refine nx_callVi (As := [.int o86]) (rest := [.int (p3_65 v6_46.toNatClampNeg)]) (W1 := [(q_p1, .inr (6, [x_p1_kinds, x_p1_column, .ref q_p1_beside, x_p1_damps, x_p1_rentNights, x_p1_rents, x_p1_heirs, .int p1_columns, .int p1_cells, .int p1_start, .int p1_dampCount, .int p1_rentCount, .int p1_heirCount])), (q_p2, .inr (3, [.ref q_p2_kinds, .int p2_snail, .int p2_night, .int p2_begunOn])), (q_p3, .inl (cI, n_p3, .inl p3_65)), (q_p1_beside, .inl (cI, 100, .inl p1_beside)), (q_p2_kinds, .inl (cI, 25, .inl p2_kinds))]) (wr := [(q_p1, .inr (6, [x_p1_kinds, x_p1_column, .ref q_p1_beside, x_p1_damps, x_p1_rentNights, x_p1_rents, x_p1_heirs, .int p1_columns, .int p1_cells, .int p1_start, .int p1_dampCount, .int p1_rentCount, .int p1_heirCount])), (q_p3, .inl (cI, n_p3, .inl p3_65)), (q_p1_beside, .inl (cI, 100, .inl p1_beside))]) S0 hK hN hA hP hD hS (kX3_kindAt l dC dI cI q_p2 q_p2_kinds _ p2_snail p2_night p2_begunOn p2_kinds o86 N o98 hF1) (cwV 1 hts gX5_spread_X3_kindAt rfl rfl rfl ⟨rfl, hdX3_kindAt⟩ ⟨Nat.le_of_ble_eq_true rfl, Nat.le_of_ble_eq_true rfl⟩) [1, 4] [0, 2, 3] [0, 3, 1, 2, 4] rfl rfl rfl rfl 1 3 rfl rfl rfl rfl hl.1 rfl (Nat.le_of_ble_eq_true rfl) dX5_spread_98 (fun H locs hP hD hS => ?_)
                              refine lv_iconst (v := (nI 3)) hx hb dX5_spread_101 (by decide) ?_
                              obtain ⟨o102, hF1, hF⟩ := ng_b hF
                              refine nx_callNi (As := [.int o98, .int (nI 3)]) (rest := [.int (p3_65 v6_46.toNatClampNeg)]) (W1 := [(q_p1, .inr (6, [x_p1_kinds, x_p1_column, .ref q_p1_beside, x_p1_damps, x_p1_rentNights, x_p1_rents, x_p1_heirs, .int p1_columns, .int p1_cells, .int p1_start, .int p1_dampCount, .int p1_rentCount, .int p1_heirCount])), (q_p2, .inr (3, [.ref q_p2_kinds, .int p2_snail, .int p2_night, .int p2_begunOn])), (q_p3, .inl (cI, n_p3, .inl p3_65)), (q_p1_beside, .inl (cI, 100, .inl p1_beside)), (q_p2_kinds, .inl (cI, 25, .inl p2_kinds))]) (wr := [(q_p1, .inr (6, [x_p1_kinds, x_p1_column, .ref q_p1_beside, x_p1_damps, x_p1_rentNights, x_p1_rents, x_p1_heirs, .int p1_columns, .int p1_cells, .int p1_start, .int p1_dampCount, .int p1_rentCount, .int p1_heirCount])), (q_p2, .inr (3, [.ref q_p2_kinds, .int p2_snail, .int p2_night, .int p2_begunOn])), (q_p3, .inl (cI, n_p3, .inl p3_65)), (q_p1_beside, .inl (cI, 100, .inl p1_beside)), (q_p2_kinds, .inl (cI, 25, .inl p2_kinds))]) S0 hK hN hA hP hD hS (kX7_stepsInto l dC dI cI _ o98 (nI 3) N o102 hF1) ⟨va_cnB 2 hts gX5_spread_X7_stepsInto_n32 rfl rfl rfl (hN.2 ("SnailsYear$Walker", 32, yX7_stepsInto, "SnailsYear") (by decide +kernel)) hci_32 hdX7_stepsInto ⟨Nat.le_of_ble_eq_true rfl, Nat.le_of_ble_eq_true rfl⟩, hcs_32, trivial⟩ [] [0, 1, 2, 3, 4] [0, 1, 2, 3, 4] rfl rfl rfl rfl rfl hl.1 rfl (Nat.le_of_ble_eq_true rfl) dX5_spread_102 (fun H locs hP hD hS => ?_)
                              refine lv_iadd hx hb dX5_spread_105 ?_
                              refine lv_istore (lv' := [(9, .int ((p3_65 v6_46.toNatClampNeg) + o102)), (8, .int o86), (1, .ref q_p1), (2, .ref q_p2), (3, .ref q_p3), (4, .int v4_65), (5, .int v5_28), (6, .int v6_46), (7, .int v7_65)]) hx hb dX5_spread_106 hl (by decide) rfl (fun ls hl => ?_)
                              refine lv_iload hx hb dX5_spread_108 (lv_at hl 1 rfl) ?_
                              refine lv_if_lt (tgt := 146) hx hb dX5_spread_110 (by decide) (fun hc => ?_) (fun hc => ?_)
                              · have hF := ng_t hc hF
                                refine lv_iinc (v := v7_65 + (nI 1)) (lv' := [(7, .int (v7_65 + (nI 1))), (9, .int ((p3_65 v6_46.toNatClampNeg) + o102)), (8, .int o86), (1, .ref q_p1), (2, .ref q_p2), (3, .ref q_p3), (4, .int v4_65), (5, .int v5_28), (6, .int v6_46)]) hx hb dX5_spread_146 hl (k := 8) rfl rfl (by decide) rfl (fun ls hl => ?_)
                                refine lv_goto (tgt := 65) hx hb dX5_spread_149 (by decide) ?_
                                exact ih_65 v4_65 (v7_65 + (nI 1)) p3_65 hF _ _ _ hP hD hS (lv_sub hl [3, 4, 5, 6, 7, 8, 0] rfl)
                              · have hF := ng_f hc hF
                                refine lv_iload hx hb dX5_spread_113 (lv_at hl 1 rfl) ?_
                                refine lv_aload_n hx hb dX5_spread_115 rfl (lv_at hl 4 rfl) ?_
                                refine nx_alen S0 hK hP 2 (v := nI n_p3) rfl rfl dX5_spread_116 ?_
                                refine lv_icmp_ge (tgt := 146) hx hb dX5_spread_117 (by decide) (fun hc => ?_) (fun hc => ?_)
                                · have hF := ng_t hc hF
                                  refine lv_iinc (v := v7_65 + (nI 1)) (lv' := [(7, .int (v7_65 + (nI 1))), (9, .int ((p3_65 v6_46.toNatClampNeg) + o102)), (8, .int o86), (1, .ref q_p1), (2, .ref q_p2), (3, .ref q_p3), (4, .int v4_65), (5, .int v5_28), (6, .int v6_46)]) hx hb dX5_spread_146 hl (k := 8) rfl rfl (by decide) rfl (fun ls hl => ?_)
                                  refine lv_goto (tgt := 65) hx hb dX5_spread_149 (by decide) ?_
                                  exact ih_65 v4_65 (v7_65 + (nI 1)) p3_65 hF _ _ _ hP hD hS (lv_sub hl [3, 4, 5, 6, 7, 8, 0] rfl)
                                · have hF := ng_f hc hF
                                  refine lv_iload hx hb dX5_spread_120 (lv_at hl 0 rfl) ?_
                                  refine lv_aload_n hx hb dX5_spread_122 rfl (lv_at hl 4 rfl) ?_
                                  refine lv_iload hx hb dX5_spread_123 (lv_at hl 1 rfl) ?_
                                  have hg := ng_p hF
                                  have hF := ng_x hF
                                  refine nx_iald S0 hK hP 2 (v := p3_65 o86.toNatClampNeg) rfl hg rfl dX5_spread_125 ?_
                                  refine lv_icmp_ge (tgt := 146) hx hb dX5_spread_126 (by decide) (fun hc => ?_) (fun hc => ?_)
                                  · have hF := ng_t hc hF
                                    refine lv_iinc (v := v7_65 + (nI 1)) (lv' := [(7, .int (v7_65 + (nI 1))), (9, .int ((p3_65 v6_46.toNatClampNeg) + o102)), (8, .int o86), (1, .ref q_p1), (2, .ref q_p2), (3, .ref q_p3), (4, .int v4_65), (5, .int v5_28), (6, .int v6_46)]) hx hb dX5_spread_146 hl (k := 8) rfl rfl (by decide) rfl (fun ls hl => ?_)
                                    refine lv_goto (tgt := 65) hx hb dX5_spread_149 (by decide) ?_
                                    exact ih_65 v4_65 (v7_65 + (nI 1)) p3_65 hF _ _ _ hP hD hS (lv_sub hl [3, 4, 5, 6, 7, 8, 0] rfl)
                                  · have hF := ng_f hc hF
                                    refine lv_iload hx hb dX5_spread_129 (lv_at hl 0 rfl) ?_
                                    refine lv_sipush (v := (nI 1000)) hx hb dX5_spread_131 (by decide) ?_
                                    refine lv_icmp_ge (tgt := 146) hx hb dX5_spread_134 (by decide) (fun hc => ?_) (fun hc => ?_)
                                    · have hF := ng_t hc hF
                                      refine lv_iinc (v := v7_65 + (nI 1)) (lv' := [(7, .int (v7_65 + (nI 1))), (9, .int ((p3_65 v6_46.toNatClampNeg) + o102)), (8, .int o86), (1, .ref q_p1), (2, .ref q_p2), (3, .ref q_p3), (4, .int v4_65), (5, .int v5_28), (6, .int v6_46)]) hx hb dX5_spread_146 hl (k := 8) rfl rfl (by decide) rfl (fun ls hl => ?_)
                                      refine lv_goto (tgt := 65) hx hb dX5_spread_149 (by decide) ?_
                                      exact ih_65 v4_65 (v7_65 + (nI 1)) p3_65 hF _ _ _ hP hD hS (lv_sub hl [3, 4, 5, 6, 7, 8, 0] rfl)
                                    · have hF := ng_f hc hF
                                      refine lv_aload_n hx hb dX5_spread_137 rfl (lv_at hl 4 rfl) ?_
                                      refine lv_iload hx hb dX5_spread_138 (lv_at hl 1 rfl) ?_
                                      refine lv_iload hx hb dX5_spread_140 (lv_at hl 0 rfl) ?_
                                      have hg := ng_p hF
                                      have hF := ng_x hF
                                      refine nx_iast S0 hK hP hD hS 2 rfl hg dX5_spread_142 (W1 := [(q_p1, .inr (6, [x_p1_kinds, x_p1_column, .ref q_p1_beside, x_p1_damps, x_p1_rentNights, x_p1_rents, x_p1_heirs, .int p1_columns, .int p1_cells, .int p1_start, .int p1_dampCount, .int p1_rentCount, .int p1_heirCount])), (q_p2, .inr (3, [.ref q_p2_kinds, .int p2_snail, .int p2_night, .int p2_begunOn])), (q_p3, .inl (cI, n_p3, .inl (upd p3_65 o86.toNatClampNeg ((p3_65 v6_46.toNatClampNeg) + o102)))), (q_p1_beside, .inl (cI, 100, .inl p1_beside)), (q_p2_kinds, .inl (cI, 25, .inl p2_kinds))]) rfl (fun H locs hP hD hS => ?_)
                                      refine lv_iconst (v := (nI 1)) hx hb dX5_spread_143 (by decide) ?_
                                      refine lv_istore (lv' := [(4, .int (nI 1)), (9, .int ((p3_65 v6_46.toNatClampNeg) + o102)), (8, .int o86), (1, .ref q_p1), (2, .ref q_p2), (3, .ref q_p3), (5, .int v5_28), (6, .int v6_46), (7, .int v7_65)]) hx hb dX5_spread_144 hl (by decide) rfl (fun ls hl => ?_)
                                      refine lv_iinc (v := v7_65 + (nI 1)) (lv' := [(7, .int (v7_65 + (nI 1))), (4, .int (nI 1)), (9, .int ((p3_65 v6_46.toNatClampNeg) + o102)), (8, .int o86), (1, .ref q_p1), (2, .ref q_p2), (3, .ref q_p3), (5, .int v5_28), (6, .int v6_46)]) hx hb dX5_spread_146 hl (k := 8) rfl rfl (by decide) rfl (fun ls hl => ?_)
                                      refine lv_goto (tgt := 65) hx hb dX5_spread_149 (by decide) ?_
                                      exact ih_65 (nI 1) (v7_65 + (nI 1)) (upd p3_65 o86.toNatClampNeg ((p3_65 v6_46.toNatClampNeg) + o102)) hF _ _ _ hP hD hS (lv_sub hl [4, 5, 6, 1, 7, 8, 0] rfl)
                      refine lv_istore (lv' := [(7, .int (nI 0)), (1, .ref q_p1), (2, .ref q_p2), (3, .ref q_p3), (4, .int v4_46), (5, .int v5_28), (6, .int v6_46)]) hx hb dX5_spread_63 hl (by decide) rfl (fun ls hl => ?_)
                      exact B_65 N v4_46 (nI 0) p3_46 hF _ _ _ hP hD hS (lv_sub hl [1, 2, 3, 4, 5, 6, 0] rfl)
              refine lv_istore (lv' := [(6, .int (nI 0)), (4, .int (nI 0)), (1, .ref q_p1), (2, .ref q_p2), (3, .ref q_p3), (5, .int v5_28)]) hx hb dX5_spread_44 hl (by decide) rfl (fun ls hl => ?_)
              exact B_46 N (nI 0) (nI 0) p3_28 hF _ _ _ hP hD hS (lv_sub hl [2, 3, 4, 1, 5, 0] rfl)
      refine lv_istore (lv' := [(5, .int (nI 0)), (4, .int (nI 1)), (0, .int p0), (1, .ref q_p1), (2, .ref q_p2), (3, .ref q_p3)]) hx hb dX5_spread_26 hl (by decide) rfl (fun ls hl => ?_)
      exact B_28 N (nI 1) (nI 0) (upd o4 p0.toNatClampNeg (nI 0)) hF _ _ _ hP hD hS (lv_sub hl [3, 4, 5, 1, 0] rfl)
    · have hF := ng_f hc hF
      exact hret o4 _ _ _ _ hF dX5_spread_17 hP hD hS
theorem hdX5_nextCell : yX5_nextCell.cls ≠ "java/lang/invoke/MethodHandle" ∧ yX5_nextCell.cls ≠ "java/lang/invoke/VarHandle" ∧ (parseMethodDescriptor yX5_nextCell.desc).map (fun d => d.parameters.length) = some 2 := by decide +kernel
set_option maxHeartbeats 40000000 in
set_option maxRecDepth 100000 in
theorem kX5_nextCell (l : Launch) (dC : Nat → ClassId) (dI : Nat → Nat → Nat) (cI : ClassId) (q_th : Nat) (q_p1 : Nat) (q_p2 : Nat) (q_th_fromSnail : Nat) (q_p1_beside : Nat) (q_p2_kinds : Nat) (q_th_fromGoal : Nat) (sz : Nat) (x_p1_kinds : Value) (x_p1_column : Value) (x_p1_damps : Value) (x_p1_rentNights : Value) (x_p1_rents : Value) (x_p1_heirs : Value) (p1_columns : Int32) (p1_cells : Int32) (p1_start : Int32) (p1_dampCount : Int32) (p1_rentCount : Int32) (p1_heirCount : Int32) (p2_snail : Int32) (p2_night : Int32) (p2_begunOn : Int32) (th_fromSnail : Nat → Int32) (p1_beside : Nat → Int32) (p2_kinds : Nat → Int32) (th_fromGoal : Nat → Int32) (N : Nat) (o : Int32 × (Nat → Int32) × (Nat → Int32)) (hF : fX5_nextCell N p1_columns p1_cells p2_snail th_fromSnail p1_beside p2_kinds th_fromGoal = some o) : nx_I l yX5_nextCell wsX5_nextCell ({ frames := 2, cells := 0, slots := 0, locals := 52 } : Room) (dC, dI) cI [.ref q_th, .ref q_p1, .ref q_p2] [(q_th, .inr (5, [.ref q_th_fromSnail, .ref q_th_fromGoal])), (q_p1, .inr (6, [x_p1_kinds, x_p1_column, .ref q_p1_beside, x_p1_damps, x_p1_rentNights, x_p1_rents, x_p1_heirs, .int p1_columns, .int p1_cells, .int p1_start, .int p1_dampCount, .int p1_rentCount, .int p1_heirCount])), (q_p2, .inr (3, [.ref q_p2_kinds, .int p2_snail, .int p2_night, .int p2_begunOn])), (q_th_fromSnail, .inl (cI, 25, .inl th_fromSnail)), (q_p1_beside, .inl (cI, 100, .inl p1_beside)), (q_p2_kinds, .inl (cI, 25, .inl p2_kinds)), (q_th_fromGoal, .inl (cI, 25, .inl th_fromGoal))] sz o.1 [(q_th, .inr (5, [.ref q_th_fromSnail, .ref q_th_fromGoal])), (q_p1, .inr (6, [x_p1_kinds, x_p1_column, .ref q_p1_beside, x_p1_damps, x_p1_rentNights, x_p1_rents, x_p1_heirs, .int p1_columns, .int p1_cells, .int p1_start, .int p1_dampCount, .int p1_rentCount, .int p1_heirCount])), (q_p2, .inr (3, [.ref q_p2_kinds, .int p2_snail, .int p2_night, .int p2_begunOn])), (q_th_fromSnail, .inl (cI, 25, .inl o.2.1)), (q_p1_beside, .inl (cI, 100, .inl p1_beside)), (q_p2_kinds, .inl (cI, 25, .inl p2_kinds)), (q_th_fromGoal, .inl (cI, 25, .inl o.2.2))] := by
  refine nx_int (cc := cX5_nextCell) (maxL := 8) (by decide) rfl (Nat.le_of_ble_eq_true rfl) ?_
  intro p e s m args below meth c Q A S0 hK hN hA ret0 hP hD hS ls hl
  have S0 : CallFix p m c cX5_nextCell 8 s args wsX5_nextCell RX5 := S0
  have hx := S0.1
  have hb := S0.2.1
  have hown := S0.2.2.2.1
  have hts := S0.2.2.2.2
  have hf_44 := hN.f (args := args) (a := "SnailsYear$Walker") (i := 44) (b := "SnailsYear$Scene") (n := "snail") (d := "I") (k := "SnailsYear") (by decide +kernel)
  have hin_X3 : ∀ w ∈ wsX30, w ∈ wsX5_nextCell := by decide +kernel
  have hf_9 := hts (.fieldLink RX5 9 "SnailsYear$Walker" "fromSnail" "[I") (by decide +kernel)
  have hin_X5 : ∀ w ∈ wsX50, w ∈ wsX5_nextCell := by decide +kernel
  have hf_15 := hts (.fieldLink RX5 15 "SnailsYear$Walker" "fromGoal" "[I") (by decide +kernel)
  have hl : lv_has ls 8 [(0, .ref q_th), (1, .ref q_p1), (2, .ref q_p2)] := hl
  have hret : ∀ (r0 : Int32) (y0 : Nat → Int32) (y1 : Nat → Int32) (H : Heap) (locs : List Loc) (ls : Array Slot) (pc : Nat), some (r0, y0, y1) = some o → decode cX5_nextCell pc = .ok (.ireturn, 1) → va_P (dC, dI) vwCl [(q_th, .inr (5, [.ref q_th_fromSnail, .ref q_th_fromGoal])), (q_p1, .inr (6, [x_p1_kinds, x_p1_column, .ref q_p1_beside, x_p1_damps, x_p1_rentNights, x_p1_rents, x_p1_heirs, .int p1_columns, .int p1_cells, .int p1_start, .int p1_dampCount, .int p1_rentCount, .int p1_heirCount])), (q_p2, .inr (3, [.ref q_p2_kinds, .int p2_snail, .int p2_night, .int p2_begunOn])), (q_th_fromSnail, .inl (cI, 25, .inl y0)), (q_p1_beside, .inl (cI, 100, .inl p1_beside)), (q_p2_kinds, .inl (cI, 25, .inl p2_kinds)), (q_th_fromGoal, .inl (cI, 25, .inl y1))] H → va_D A [(q_th, .inr (5, [.ref q_th_fromSnail, .ref q_th_fromGoal])), (q_p1, .inr (6, [x_p1_kinds, x_p1_column, .ref q_p1_beside, x_p1_damps, x_p1_rentNights, x_p1_rents, x_p1_heirs, .int p1_columns, .int p1_cells, .int p1_start, .int p1_dampCount, .int p1_rentCount, .int p1_heirCount])), (q_p2, .inr (3, [.ref q_p2_kinds, .int p2_snail, .int p2_night, .int p2_begunOn])), (q_th_fromSnail, .inl (cI, 25, .inl y0)), (q_p1_beside, .inl (cI, 100, .inl p1_beside)), (q_p2_kinds, .inl (cI, 25, .inl p2_kinds)), (q_th_fromGoal, .inl (cI, 25, .inl y1))] → va_S A s.heap H locs → W p l e ({ frames := 2, cells := 0, slots := 0, locals := 52 } : Room) s m args below meth c H locs 0 0 Q (F0 m pc ls [.int r0]) := by
    intro r0 y0 y1 H locs ls pc ho hd hP hD hS
    cases ho
    exact ret0 H locs ls pc hd hP hD hS
  rw [fX5_nextCell_e] at hF
  refine lv_aload_n hx hb dX5_nextCell_0 rfl (lv_at hl 2 rfl) ?_
  refine nx_getN S0 hK hP 2 1 hin_X3 hf_44 rfl rfl (by decide) rfl rfl dX5_nextCell_1 ?_
  refine lv_aload_n hx hb dX5_nextCell_4 rfl (lv_at hl 1 rfl) ?_
  refine lv_aload_n hx hb dX5_nextCell_5 rfl (lv_at hl 2 rfl) ?_
  refine lv_aload_n hx hb dX5_nextCell_6 rfl (lv_at hl 0 rfl) ?_
  refine nx_get S0 hK hP 0 0 hin_X5 hf_9 rfl rfl (by decide) rfl rfl dX5_nextCell_7 ?_
  obtain ⟨o10, hF1, hF⟩ := ng_b hF
  refine nx_callSv (As := [.int p2_snail, .ref q_p1, .ref q_p2, .ref q_th_fromSnail]) (rest := []) (W1 := [(q_th, .inr (5, [.ref q_th_fromSnail, .ref q_th_fromGoal])), (q_p1, .inr (6, [x_p1_kinds, x_p1_column, .ref q_p1_beside, x_p1_damps, x_p1_rentNights, x_p1_rents, x_p1_heirs, .int p1_columns, .int p1_cells, .int p1_start, .int p1_dampCount, .int p1_rentCount, .int p1_heirCount])), (q_p2, .inr (3, [.ref q_p2_kinds, .int p2_snail, .int p2_night, .int p2_begunOn])), (q_th_fromSnail, .inl (cI, 25, .inl o10)), (q_p1_beside, .inl (cI, 100, .inl p1_beside)), (q_p2_kinds, .inl (cI, 25, .inl p2_kinds)), (q_th_fromGoal, .inl (cI, 25, .inl th_fromGoal))]) (wr := [(q_th, .inr (5, [.ref q_th_fromSnail, .ref q_th_fromGoal])), (q_th_fromGoal, .inl (cI, 25, .inl th_fromGoal))]) S0 hK hN hA hP hD hS (kX5_spread l dC dI cI q_p1 q_p2 q_th_fromSnail q_p1_beside q_p2_kinds 25 _ (x_p1_kinds) (x_p1_column) (x_p1_damps) (x_p1_rentNights) (x_p1_rents) (x_p1_heirs) p1_columns p1_cells p1_start p1_dampCount p1_rentCount p1_heirCount p2_snail p2_night p2_begunOn th_fromSnail p1_beside p2_kinds p2_snail N o10 hF1) (va_cwS 4 hts gX5_nextCell_X5_spread rfl rfl rfl hdX5_spread ⟨Nat.le_of_ble_eq_true rfl, Nat.le_of_ble_eq_true rfl⟩) [1, 2, 3, 4, 5] [0, 6] [0, 2, 3, 4, 5, 6, 1] rfl rfl rfl rfl rfl hl.1 rfl (Nat.le_of_ble_eq_true rfl) dX5_nextCell_10 (fun H locs hP hD hS => ?_)
  refine lv_aload_n hx hb dX5_nextCell_13 rfl (lv_at hl 0 rfl) ?_
  refine lv_aload_n hx hb dX5_nextCell_14 rfl (lv_at hl 1 rfl) ?_
  refine lv_aload_n hx hb dX5_nextCell_15 rfl (lv_at hl 2 rfl) ?_
  obtain ⟨o16, hF1, hF⟩ := ng_b hF
  refine nx_callVi (As := [.ref q_p1, .ref q_p2]) (rest := []) (W1 := [(q_th, .inr (5, [.ref q_th_fromSnail, .ref q_th_fromGoal])), (q_p1, .inr (6, [x_p1_kinds, x_p1_column, .ref q_p1_beside, x_p1_damps, x_p1_rentNights, x_p1_rents, x_p1_heirs, .int p1_columns, .int p1_cells, .int p1_start, .int p1_dampCount, .int p1_rentCount, .int p1_heirCount])), (q_p2, .inr (3, [.ref q_p2_kinds, .int p2_snail, .int p2_night, .int p2_begunOn])), (q_th_fromSnail, .inl (cI, 25, .inl o10)), (q_p1_beside, .inl (cI, 100, .inl p1_beside)), (q_p2_kinds, .inl (cI, 25, .inl p2_kinds)), (q_th_fromGoal, .inl (cI, 25, .inl th_fromGoal))]) (wr := [(q_p1_beside, .inl (cI, 100, .inl p1_beside)), (q_th_fromGoal, .inl (cI, 25, .inl th_fromGoal))]) S0 hK hN hA hP hD hS (kX5_nearestLettuce l dC dI cI q_th q_p1 q_p2 q_th_fromSnail q_p2_kinds _ (.ref q_th_fromGoal) (x_p1_kinds) (x_p1_column) (.ref q_p1_beside) (x_p1_damps) (x_p1_rentNights) (x_p1_rents) (x_p1_heirs) p1_columns p1_cells p1_start p1_dampCount p1_rentCount p1_heirCount p2_snail p2_night p2_begunOn o10 p2_kinds N o16 hF1) (cwV 2 hts gX5_nextCell_X5_nearestLettuce rfl rfl rfl ⟨rfl, hdX5_nearestLettuce⟩ ⟨Nat.le_of_ble_eq_true rfl, Nat.le_of_ble_eq_true rfl⟩) [0, 1, 2, 3, 5] [4, 6] [2, 3, 4, 5, 0, 6, 1] rfl rfl rfl rfl 0 5 rfl rfl rfl rfl hl.1 rfl (Nat.le_of_ble_eq_true rfl) dX5_nextCell_16 (fun H locs hP hD hS => ?_)
  refine lv_istore_n (lv' := [(3, .int o16), (0, .ref q_th), (1, .ref q_p1), (2, .ref q_p2)]) hx hb dX5_nextCell_19 rfl hl (by decide) rfl (fun ls hl => ?_)
  refine lv_iload_n hx hb dX5_nextCell_20 rfl (lv_at hl 0 rfl) ?_
  refine lv_bipush (v := (-4 : Int32)) hx hb dX5_nextCell_21 (by decide) ?_
  have B_32 : ∀ (v3_32 : Int32), fX5_nextCell_32 N p1_cells p2_snail p1_beside p2_kinds th_fromGoal o10 v3_32 = some o → ∀ (H : Heap) (locs : List Loc) (ls : Array Slot), va_P (dC, dI) vwCl [(q_th, .inr (5, [.ref q_th_fromSnail, .ref q_th_fromGoal])), (q_p1, .inr (6, [x_p1_kinds, x_p1_column, .ref q_p1_beside, x_p1_damps, x_p1_rentNights, x_p1_rents, x_p1_heirs, .int p1_columns, .int p1_cells, .int p1_start, .int p1_dampCount, .int p1_rentCount, .int p1_heirCount])), (q_p2, .inr (3, [.ref q_p2_kinds, .int p2_snail, .int p2_night, .int p2_begunOn])), (q_th_fromSnail, .inl (cI, 25, .inl o10)), (q_p1_beside, .inl (cI, 100, .inl p1_beside)), (q_p2_kinds, .inl (cI, 25, .inl p2_kinds)), (q_th_fromGoal, .inl (cI, 25, .inl th_fromGoal))] H → va_D A [(q_th, .inr (5, [.ref q_th_fromSnail, .ref q_th_fromGoal])), (q_p1, .inr (6, [x_p1_kinds, x_p1_column, .ref q_p1_beside, x_p1_damps, x_p1_rentNights, x_p1_rents, x_p1_heirs, .int p1_columns, .int p1_cells, .int p1_start, .int p1_dampCount, .int p1_rentCount, .int p1_heirCount])), (q_p2, .inr (3, [.ref q_p2_kinds, .int p2_snail, .int p2_night, .int p2_begunOn])), (q_th_fromSnail, .inl (cI, 25, .inl o10)), (q_p1_beside, .inl (cI, 100, .inl p1_beside)), (q_p2_kinds, .inl (cI, 25, .inl p2_kinds)), (q_th_fromGoal, .inl (cI, 25, .inl th_fromGoal))] → va_S A s.heap H locs → lv_has ls 8 [(0, .ref q_th), (1, .ref q_p1), (2, .ref q_p2), (3, .int v3_32)] → W p l e ({ frames := 2, cells := 0, slots := 0, locals := 52 } : Room) s m args below meth c H locs 0 0 Q (F0 m 32 ls []) := by
    intro v3_32 hF H locs ls hP hD hS hl
    rw [fX5_nextCell_32_e] at hF
    refine lv_iload_n hx hb dX5_nextCell_32 rfl (lv_at hl 3 rfl) ?_
    refine lv_bipush (v := (-4 : Int32)) hx hb dX5_nextCell_33 (by decide) ?_
    refine lv_icmp_ne (tgt := 41) hx hb dX5_nextCell_35 (by decide) (fun hc => ?_) (fun hc => ?_)
    · have hF := ng_f hc hF
      refine lv_iload_n hx hb dX5_nextCell_41 rfl (lv_at hl 3 rfl) ?_
      refine lv_aload_n hx hb dX5_nextCell_42 rfl (lv_at hl 1 rfl) ?_
      refine lv_aload_n hx hb dX5_nextCell_43 rfl (lv_at hl 2 rfl) ?_
      refine lv_aload_n hx hb dX5_nextCell_44 rfl (lv_at hl 0 rfl) ?_
      refine nx_get S0 hK hP 0 1 hin_X5 hf_15 rfl rfl (by decide) rfl rfl dX5_nextCell_45 ?_
      obtain ⟨o48, hF1, hF⟩ := ng_b hF
      refine nx_callSv (As := [.int v3_32, .ref q_p1, .ref q_p2, .ref q_th_fromGoal]) (rest := []) (W1 := [(q_th, .inr (5, [.ref q_th_fromSnail, .ref q_th_fromGoal])), (q_p1, .inr (6, [x_p1_kinds, x_p1_column, .ref q_p1_beside, x_p1_damps, x_p1_rentNights, x_p1_rents, x_p1_heirs, .int p1_columns, .int p1_cells, .int p1_start, .int p1_dampCount, .int p1_rentCount, .int p1_heirCount])), (q_p2, .inr (3, [.ref q_p2_kinds, .int p2_snail, .int p2_night, .int p2_begunOn])), (q_th_fromSnail, .inl (cI, 25, .inl o10)), (q_p1_beside, .inl (cI, 100, .inl p1_beside)), (q_p2_kinds, .inl (cI, 25, .inl p2_kinds)), (q_th_fromGoal, .inl (cI, 25, .inl o48))]) (wr := [(q_th, .inr (5, [.ref q_th_fromSnail, .ref q_th_fromGoal])), (q_th_fromSnail, .inl (cI, 25, .inl o10))]) S0 hK hN hA hP hD hS (kX5_spread l dC dI cI q_p1 q_p2 q_th_fromGoal q_p1_beside q_p2_kinds 25 _ (x_p1_kinds) (x_p1_column) (x_p1_damps) (x_p1_rentNights) (x_p1_rents) (x_p1_heirs) p1_columns p1_cells p1_start p1_dampCount p1_rentCount p1_heirCount p2_snail p2_night p2_begunOn th_fromGoal p1_beside p2_kinds v3_32 N o48 hF1) (va_cwS 4 hts gX5_nextCell_X5_spread rfl rfl rfl hdX5_spread ⟨Nat.le_of_ble_eq_true rfl, Nat.le_of_ble_eq_true rfl⟩) [1, 2, 6, 4, 5] [0, 3] [0, 2, 3, 1, 5, 6, 4] rfl rfl rfl rfl rfl hl.1 rfl (Nat.le_of_ble_eq_true rfl) dX5_nextCell_48 (fun H locs hP hD hS => ?_)
      refine lv_bipush (v := (-4 : Int32)) hx hb dX5_nextCell_51 (by decide) ?_
      refine lv_istore (lv' := [(4, .int (-4 : Int32)), (0, .ref q_th), (1, .ref q_p1), (2, .ref q_p2), (3, .int v3_32)]) hx hb dX5_nextCell_53 hl (by decide) rfl (fun ls hl => ?_)
      refine lv_sipush (v := (nI 1000)) hx hb dX5_nextCell_55 (by decide) ?_
      refine lv_istore (lv' := [(5, .int (nI 1000)), (4, .int (-4 : Int32)), (0, .ref q_th), (1, .ref q_p1), (2, .ref q_p2), (3, .int v3_32)]) hx hb dX5_nextCell_58 hl (by decide) rfl (fun ls hl => ?_)
      refine lv_iconst (v := (nI 0)) hx hb dX5_nextCell_60 (by decide) ?_
      have B_63 : ∀ (n_63 : Nat) (v4_63 : Int32) (v5_63 : Int32) (v6_63 : Int32), fX5_nextCell_63 N p2_snail p1_beside o10 o48 n_63 v4_63 v5_63 v6_63 = some o → ∀ (H : Heap) (locs : List Loc) (ls : Array Slot), va_P (dC, dI) vwCl [(q_th, .inr (5, [.ref q_th_fromSnail, .ref q_th_fromGoal])), (q_p1, .inr (6, [x_p1_kinds, x_p1_column, .ref q_p1_beside, x_p1_damps, x_p1_rentNights, x_p1_rents, x_p1_heirs, .int p1_columns, .int p1_cells, .int p1_start, .int p1_dampCount, .int p1_rentCount, .int p1_heirCount])), (q_p2, .inr (3, [.ref q_p2_kinds, .int p2_snail, .int p2_night, .int p2_begunOn])), (q_th_fromSnail, .inl (cI, 25, .inl o10)), (q_p1_beside, .inl (cI, 100, .inl p1_beside)), (q_p2_kinds, .inl (cI, 25, .inl p2_kinds)), (q_th_fromGoal, .inl (cI, 25, .inl o48))] H → va_D A [(q_th, .inr (5, [.ref q_th_fromSnail, .ref q_th_fromGoal])), (q_p1, .inr (6, [x_p1_kinds, x_p1_column, .ref q_p1_beside, x_p1_damps, x_p1_rentNights, x_p1_rents, x_p1_heirs, .int p1_columns, .int p1_cells, .int p1_start, .int p1_dampCount, .int p1_rentCount, .int p1_heirCount])), (q_p2, .inr (3, [.ref q_p2_kinds, .int p2_snail, .int p2_night, .int p2_begunOn])), (q_th_fromSnail, .inl (cI, 25, .inl o10)), (q_p1_beside, .inl (cI, 100, .inl p1_beside)), (q_p2_kinds, .inl (cI, 25, .inl p2_kinds)), (q_th_fromGoal, .inl (cI, 25, .inl o48))] → va_S A s.heap H locs → lv_has ls 8 [(0, .ref q_th), (1, .ref q_p1), (2, .ref q_p2), (4, .int v4_63), (5, .int v5_63), (6, .int v6_63)] → W p l e ({ frames := 2, cells := 0, slots := 0, locals := 52 } : Room) s m args below meth c H locs 0 0 Q (F0 m 63 ls []) := by
        intro n_63
        induction n_63 with
        | zero =>
          intro v4_63 v5_63 v6_63 hF
          rw [fX5_nextCell_63_z] at hF
          cases hF
        | succ n_63 ih_63 =>
          intro v4_63 v5_63 v6_63 hF H locs ls hP hD hS hl
          rw [fX5_nextCell_63_s] at hF
          refine lv_iload hx hb dX5_nextCell_63 (lv_at hl 5 rfl) ?_
          refine lv_iconst (v := (nI 4)) hx hb dX5_nextCell_65 (by decide) ?_
          refine lv_icmp_ge (tgt := 127) hx hb dX5_nextCell_66 (by decide) (fun hc => ?_) (fun hc => ?_)
          · have hF := ng_t hc hF
            refine lv_iload hx hb dX5_nextCell_127 (lv_at hl 3 rfl) ?_
            exact hret v4_63 o10 o48 _ _ _ _ hF dX5_nextCell_129 hP hD hS
          · have hF := ng_f hc hF
            refine lv_aload_n hx hb dX5_nextCell_69 rfl (lv_at hl 1 rfl) ?_
            refine lv_aload_n hx hb dX5_nextCell_70 rfl (lv_at hl 2 rfl) ?_
            refine nx_getN S0 hK hP 2 1 hin_X3 hf_44 rfl rfl (by decide) rfl rfl dX5_nextCell_71 ?_
            refine lv_iload hx hb dX5_nextCell_74 (lv_at hl 5 rfl) ?_
            obtain ⟨o76, hF1, hF⟩ := ng_b hF
            refine nx_callVi (As := [.int p2_snail, .int v6_63]) (rest := []) (W1 := [(q_th, .inr (5, [.ref q_th_fromSnail, .ref q_th_fromGoal])), (q_p1, .inr (6, [x_p1_kinds, x_p1_column, .ref q_p1_beside, x_p1_damps, x_p1_rentNights, x_p1_rents, x_p1_heirs, .int p1_columns, .int p1_cells, .int p1_start, .int p1_dampCount, .int p1_rentCount, .int p1_heirCount])), (q_p2, .inr (3, [.ref q_p2_kinds, .int p2_snail, .int p2_night, .int p2_begunOn])), (q_th_fromSnail, .inl (cI, 25, .inl o10)), (q_p1_beside, .inl (cI, 100, .inl p1_beside)), (q_p2_kinds, .inl (cI, 25, .inl p2_kinds)), (q_th_fromGoal, .inl (cI, 25, .inl o48))]) (wr := [(q_th, .inr (5, [.ref q_th_fromSnail, .ref q_th_fromGoal])), (q_p2, .inr (3, [.ref q_p2_kinds, .int p2_snail, .int p2_night, .int p2_begunOn])), (q_th_fromSnail, .inl (cI, 25, .inl o10)), (q_p2_kinds, .inl (cI, 25, .inl p2_kinds)), (q_th_fromGoal, .inl (cI, 25, .inl o48))]) S0 hK hN hA hP hD hS (kX6_besideAt l dC dI cI q_p1 q_p1_beside _ (x_p1_kinds) (x_p1_column) (x_p1_damps) (x_p1_rentNights) (x_p1_rents) (x_p1_heirs) p1_columns p1_cells p1_start p1_dampCount p1_rentCount p1_heirCount p1_beside p2_snail v6_63 N o76 hF1) (cwV 2 hts gX5_nextCell_X6_besideAt rfl rfl rfl ⟨rfl, hdX6_besideAt⟩ ⟨Nat.le_of_ble_eq_true rfl, Nat.le_of_ble_eq_true rfl⟩) [1, 4] [0, 2, 3, 5, 6] [0, 5, 1, 2, 6, 3, 4] rfl rfl rfl rfl 1 6 rfl rfl rfl rfl hl.1 rfl (Nat.le_of_ble_eq_true rfl) dX5_nextCell_76 (fun H locs hP hD hS => ?_)
            refine lv_istore (lv' := [(7, .int o76), (0, .ref q_th), (1, .ref q_p1), (2, .ref q_p2), (4, .int v4_63), (5, .int v5_63), (6, .int v6_63)]) hx hb dX5_nextCell_79 hl (by decide) rfl (fun ls hl => ?_)
            refine lv_iload hx hb dX5_nextCell_81 (lv_at hl 0 rfl) ?_
            refine lv_if_lt (tgt := 121) hx hb dX5_nextCell_83 (by decide) (fun hc => ?_) (fun hc => ?_)
            · have hF := ng_t hc hF
              refine lv_iinc (v := v6_63 + (nI 1)) (lv' := [(6, .int (v6_63 + (nI 1))), (7, .int o76), (0, .ref q_th), (1, .ref q_p1), (2, .ref q_p2), (4, .int v4_63), (5, .int v5_63)]) hx hb dX5_nextCell_121 hl (k := 6) rfl rfl (by decide) rfl (fun ls hl => ?_)
              refine lv_goto (tgt := 63) hx hb dX5_nextCell_124 (by decide) ?_
              exact ih_63 v4_63 v5_63 (v6_63 + (nI 1)) hF _ _ _ hP hD hS (lv_sub hl [2, 3, 4, 5, 6, 0] rfl)
            · have hF := ng_f hc hF
              refine lv_iload hx hb dX5_nextCell_86 (lv_at hl 0 rfl) ?_
              refine lv_aload_n hx hb dX5_nextCell_88 rfl (lv_at hl 1 rfl) ?_
              refine nx_get S0 hK hP 0 1 hin_X5 hf_15 rfl rfl (by decide) rfl rfl dX5_nextCell_89 ?_
              refine nx_alen S0 hK hP 6 (v := (nI 25)) rfl (by decide) dX5_nextCell_92 ?_
              refine lv_icmp_ge (tgt := 121) hx hb dX5_nextCell_93 (by decide) (fun hc => ?_) (fun hc => ?_)
              · have hF := ng_t hc hF
                refine lv_iinc (v := v6_63 + (nI 1)) (lv' := [(6, .int (v6_63 + (nI 1))), (7, .int o76), (0, .ref q_th), (1, .ref q_p1), (2, .ref q_p2), (4, .int v4_63), (5, .int v5_63)]) hx hb dX5_nextCell_121 hl (k := 6) rfl rfl (by decide) rfl (fun ls hl => ?_)
                refine lv_goto (tgt := 63) hx hb dX5_nextCell_124 (by decide) ?_
                exact ih_63 v4_63 v5_63 (v6_63 + (nI 1)) hF _ _ _ hP hD hS (lv_sub hl [2, 3, 4, 5, 6, 0] rfl)
              · have hF := ng_f hc hF
                refine lv_aload_n hx hb dX5_nextCell_96 rfl (lv_at hl 1 rfl) ?_
                refine nx_get S0 hK hP 0 1 hin_X5 hf_15 rfl rfl (by decide) rfl rfl dX5_nextCell_97 ?_
                refine lv_iload hx hb dX5_nextCell_100 (lv_at hl 0 rfl) ?_
                have hg := ng_p hF
                have hF := ng_x hF
                refine nx_iald S0 hK hP 6 (v := o48 o76.toNatClampNeg) rfl hg rfl dX5_nextCell_102 ?_
                refine lv_iload hx hb dX5_nextCell_103 (lv_at hl 5 rfl) ?_
                refine lv_icmp_ge (tgt := 121) hx hb dX5_nextCell_105 (by decide) (fun hc => ?_) (fun hc => ?_)
                · have hF := ng_t hc hF
                  refine lv_iinc (v := v6_63 + (nI 1)) (lv' := [(6, .int (v6_63 + (nI 1))), (7, .int o76), (0, .ref q_th), (1, .ref q_p1), (2, .ref q_p2), (4, .int v4_63), (5, .int v5_63)]) hx hb dX5_nextCell_121 hl (k := 6) rfl rfl (by decide) rfl (fun ls hl => ?_)
                  refine lv_goto (tgt := 63) hx hb dX5_nextCell_124 (by decide) ?_
                  exact ih_63 v4_63 v5_63 (v6_63 + (nI 1)) hF _ _ _ hP hD hS (lv_sub hl [2, 3, 4, 5, 6, 0] rfl)
                · have hF := ng_f hc hF
                  refine lv_aload_n hx hb dX5_nextCell_108 rfl (lv_at hl 1 rfl) ?_
                  refine nx_get S0 hK hP 0 1 hin_X5 hf_15 rfl rfl (by decide) rfl rfl dX5_nextCell_109 ?_
                  refine lv_iload hx hb dX5_nextCell_112 (lv_at hl 0 rfl) ?_
                  have hg := ng_p hF
                  have hF := ng_x hF
                  refine nx_iald S0 hK hP 6 (v := o48 o76.toNatClampNeg) rfl hg rfl dX5_nextCell_114 ?_
                  refine lv_istore (lv' := [(5, .int (o48 o76.toNatClampNeg)), (7, .int o76), (0, .ref q_th), (1, .ref q_p1), (2, .ref q_p2), (4, .int v4_63), (6, .int v6_63)]) hx hb dX5_nextCell_115 hl (by decide) rfl (fun ls hl => ?_)
                  refine lv_iload hx hb dX5_nextCell_117 (lv_at hl 1 rfl) ?_
                  refine lv_istore (lv' := [(4, .int o76), (5, .int (o48 o76.toNatClampNeg)), (7, .int o76), (0, .ref q_th), (1, .ref q_p1), (2, .ref q_p2), (6, .int v6_63)]) hx hb dX5_nextCell_119 hl (by decide) rfl (fun ls hl => ?_)
                  refine lv_iinc (v := v6_63 + (nI 1)) (lv' := [(6, .int (v6_63 + (nI 1))), (4, .int o76), (5, .int (o48 o76.toNatClampNeg)), (7, .int o76), (0, .ref q_th), (1, .ref q_p1), (2, .ref q_p2)]) hx hb dX5_nextCell_121 hl (k := 6) rfl rfl (by decide) rfl (fun ls hl => ?_)
                  refine lv_goto (tgt := 63) hx hb dX5_nextCell_124 (by decide) ?_
                  exact ih_63 o76 (o48 o76.toNatClampNeg) (v6_63 + (nI 1)) hF _ _ _ hP hD hS (lv_sub hl [4, 5, 6, 1, 2, 0] rfl)
      refine lv_istore (lv' := [(6, .int (nI 0)), (5, .int (nI 1000)), (4, .int (-4 : Int32)), (0, .ref q_th), (1, .ref q_p1), (2, .ref q_p2), (3, .int v3_32)]) hx hb dX5_nextCell_61 hl (by decide) rfl (fun ls hl => ?_)
      exact B_63 N (-4 : Int32) (nI 1000) (nI 0) hF _ _ _ hP hD hS (lv_sub hl [3, 4, 5, 2, 1, 0] rfl)
    · have hF := ng_t hc hF
      refine lv_bipush (v := (-4 : Int32)) hx hb dX5_nextCell_38 (by decide) ?_
      exact hret (-4 : Int32) o10 th_fromGoal _ _ _ _ hF dX5_nextCell_40 hP hD hS
  refine lv_icmp_ne (tgt := 32) hx hb dX5_nextCell_23 (by decide) (fun hc => ?_) (fun hc => ?_)
  · have hF := ng_f hc hF
    exact B_32 o16 hF _ _ _ hP hD hS (lv_sub hl [1, 2, 3, 0] rfl)
  · have hF := ng_t hc hF
    refine lv_aload_n hx hb dX5_nextCell_26 rfl (lv_at hl 1 rfl) ?_
    refine lv_aload_n hx hb dX5_nextCell_27 rfl (lv_at hl 2 rfl) ?_
    obtain ⟨o28, hF1, hF⟩ := ng_b hF
    refine nx_callVi (As := [.ref q_p1]) (rest := []) (W1 := [(q_th, .inr (5, [.ref q_th_fromSnail, .ref q_th_fromGoal])), (q_p1, .inr (6, [x_p1_kinds, x_p1_column, .ref q_p1_beside, x_p1_damps, x_p1_rentNights, x_p1_rents, x_p1_heirs, .int p1_columns, .int p1_cells, .int p1_start, .int p1_dampCount, .int p1_rentCount, .int p1_heirCount])), (q_p2, .inr (3, [.ref q_p2_kinds, .int p2_snail, .int p2_night, .int p2_begunOn])), (q_th_fromSnail, .inl (cI, 25, .inl o10)), (q_p1_beside, .inl (cI, 100, .inl p1_beside)), (q_p2_kinds, .inl (cI, 25, .inl p2_kinds)), (q_th_fromGoal, .inl (cI, 25, .inl th_fromGoal))]) (wr := [(q_p2, .inr (3, [.ref q_p2_kinds, .int p2_snail, .int p2_night, .int p2_begunOn])), (q_p1_beside, .inl (cI, 100, .inl p1_beside)), (q_p2_kinds, .inl (cI, 25, .inl p2_kinds)), (q_th_fromGoal, .inl (cI, 25, .inl th_fromGoal))]) S0 hK hN hA hP hD hS (kX5_nearestOfLine l dC dI cI q_th q_p1 q_th_fromSnail _ (.ref q_th_fromGoal) (x_p1_kinds) (x_p1_column) (.ref q_p1_beside) (x_p1_damps) (x_p1_rentNights) (x_p1_rents) (x_p1_heirs) p1_columns p1_cells p1_start p1_dampCount p1_rentCount p1_heirCount o10 N o28 hF1) (cwV 1 hts gX5_nextCell_X5_nearestOfLine rfl rfl rfl ⟨rfl, hdX5_nearestOfLine⟩ ⟨Nat.le_of_ble_eq_true rfl, Nat.le_of_ble_eq_true rfl⟩) [0, 1, 3] [2, 4, 5, 6] [4, 5, 0, 6, 1, 2, 3] rfl rfl rfl rfl 0 5 rfl rfl rfl rfl hl.1 rfl (Nat.le_of_ble_eq_true rfl) dX5_nextCell_28 (fun H locs hP hD hS => ?_)
    refine lv_istore_n (lv' := [(3, .int o28), (0, .ref q_th), (1, .ref q_p1), (2, .ref q_p2)]) hx hb dX5_nextCell_31 rfl hl (by decide) rfl (fun ls hl => ?_)
    exact B_32 o28 hF _ _ _ hP hD hS (lv_sub hl [1, 2, 3, 0] rfl)
theorem hdX5_goNight : yX5_goNight.cls ≠ "java/lang/invoke/MethodHandle" ∧ yX5_goNight.cls ≠ "java/lang/invoke/VarHandle" ∧ (parseMethodDescriptor yX5_goNight.desc).map (fun d => d.parameters.length) = some 3 := by decide +kernel
set_option maxHeartbeats 40000000 in
set_option maxRecDepth 100000 in
theorem kX5_goNight (l : Launch) (dC : Nat → ClassId) (dI : Nat → Nat → Nat) (cI : ClassId) (q_th : Nat) (q_p1 : Nat) (q_p2 : Nat) (q_th_fromSnail : Nat) (q_p1_beside : Nat) (q_p2_kinds : Nat) (q_th_fromGoal : Nat) (sz : Nat) (x_p1_kinds : Value) (x_p1_column : Value) (x_p1_damps : Value) (x_p1_rentNights : Value) (x_p1_rents : Value) (x_p1_heirs : Value) (p1_columns : Int32) (p1_cells : Int32) (p1_start : Int32) (p1_dampCount : Int32) (p1_rentCount : Int32) (p1_heirCount : Int32) (p2_snail : Int32) (p2_night : Int32) (p2_begunOn : Int32) (th_fromSnail : Nat → Int32) (p1_beside : Nat → Int32) (p2_kinds : Nat → Int32) (th_fromGoal : Nat → Int32) (p3 : Int32) (N : Nat) (o : Int32 × Int32 × Int32 × Int32 × (Nat → Int32) × (Nat → Int32) × (Nat → Int32)) (hF : fX5_goNight N p1_columns p1_cells p2_snail p2_night p2_begunOn p3 th_fromSnail p1_beside p2_kinds th_fromGoal = some o) : nx_I l yX5_goNight wsX5_goNight ({ frames := 3, cells := 0, slots := 0, locals := 79 } : Room) (dC, dI) cI [.ref q_th, .ref q_p1, .ref q_p2, .int p3] [(q_th, .inr (5, [.ref q_th_fromSnail, .ref q_th_fromGoal])), (q_p1, .inr (6, [x_p1_kinds, x_p1_column, .ref q_p1_beside, x_p1_damps, x_p1_rentNights, x_p1_rents, x_p1_heirs, .int p1_columns, .int p1_cells, .int p1_start, .int p1_dampCount, .int p1_rentCount, .int p1_heirCount])), (q_p2, .inr (3, [.ref q_p2_kinds, .int p2_snail, .int p2_night, .int p2_begunOn])), (q_th_fromSnail, .inl (cI, 25, .inl th_fromSnail)), (q_p1_beside, .inl (cI, 100, .inl p1_beside)), (q_p2_kinds, .inl (cI, 25, .inl p2_kinds)), (q_th_fromGoal, .inl (cI, 25, .inl th_fromGoal))] sz o.1 [(q_th, .inr (5, [.ref q_th_fromSnail, .ref q_th_fromGoal])), (q_p1, .inr (6, [x_p1_kinds, x_p1_column, .ref q_p1_beside, x_p1_damps, x_p1_rentNights, x_p1_rents, x_p1_heirs, .int p1_columns, .int p1_cells, .int p1_start, .int p1_dampCount, .int p1_rentCount, .int p1_heirCount])), (q_p2, .inr (3, [.ref q_p2_kinds, .int o.2.1, .int o.2.2.1, .int o.2.2.2.1])), (q_th_fromSnail, .inl (cI, 25, .inl o.2.2.2.2.1)), (q_p1_beside, .inl (cI, 100, .inl p1_beside)), (q_p2_kinds, .inl (cI, 25, .inl o.2.2.2.2.2.1)), (q_th_fromGoal, .inl (cI, 25, .inl o.2.2.2.2.2.2))] := by
  refine nx_zint (cc := cX5_goNight) (maxL := 10) (by decide) rfl (Nat.le_of_ble_eq_true rfl) ?_
  intro p e s m args below meth c Q A S0 hK hN hA ret0 hP hD hS ls hl
  have S0 : CallFix p m c cX5_goNight 10 s args wsX5_goNight RX5 := S0
  have hx := S0.1
  have hb := S0.2.1
  have hown := S0.2.2.2.1
  have hts := S0.2.2.2.2
  have hcs_32 := hts (.static yX7_stepsInto) (by decide +kernel)
  have hci_32 := hts (.initialized RX7) (by decide +kernel)
  have hf_40 := hN.f (args := args) (a := "SnailsYear$Walker") (i := 40) (b := "SnailsYear$Scene") (n := "night") (d := "I") (k := "SnailsYear") (by decide +kernel)
  have hin_X3 : ∀ w ∈ wsX30, w ∈ wsX5_goNight := by decide +kernel
  have hl : lv_has ls 10 [(0, .ref q_th), (1, .ref q_p1), (2, .ref q_p2), (3, .int p3)] := hl
  have hret : ∀ (r0 : Int32) (y0 : Int32) (y1 : Int32) (y2 : Int32) (y3 : Nat → Int32) (y4 : Nat → Int32) (y5 : Nat → Int32) (H : Heap) (locs : List Loc) (ls : Array Slot) (pc : Nat), (r0 = 0 ∨ r0 = 1) → some (r0, y0, y1, y2, y3, y4, y5) = some o → decode cX5_goNight pc = .ok (.ireturn, 1) → va_P (dC, dI) vwCl [(q_th, .inr (5, [.ref q_th_fromSnail, .ref q_th_fromGoal])), (q_p1, .inr (6, [x_p1_kinds, x_p1_column, .ref q_p1_beside, x_p1_damps, x_p1_rentNights, x_p1_rents, x_p1_heirs, .int p1_columns, .int p1_cells, .int p1_start, .int p1_dampCount, .int p1_rentCount, .int p1_heirCount])), (q_p2, .inr (3, [.ref q_p2_kinds, .int y0, .int y1, .int y2])), (q_th_fromSnail, .inl (cI, 25, .inl y3)), (q_p1_beside, .inl (cI, 100, .inl p1_beside)), (q_p2_kinds, .inl (cI, 25, .inl y4)), (q_th_fromGoal, .inl (cI, 25, .inl y5))] H → va_D A [(q_th, .inr (5, [.ref q_th_fromSnail, .ref q_th_fromGoal])), (q_p1, .inr (6, [x_p1_kinds, x_p1_column, .ref q_p1_beside, x_p1_damps, x_p1_rentNights, x_p1_rents, x_p1_heirs, .int p1_columns, .int p1_cells, .int p1_start, .int p1_dampCount, .int p1_rentCount, .int p1_heirCount])), (q_p2, .inr (3, [.ref q_p2_kinds, .int y0, .int y1, .int y2])), (q_th_fromSnail, .inl (cI, 25, .inl y3)), (q_p1_beside, .inl (cI, 100, .inl p1_beside)), (q_p2_kinds, .inl (cI, 25, .inl y4)), (q_th_fromGoal, .inl (cI, 25, .inl y5))] → va_S A s.heap H locs → W p l e ({ frames := 3, cells := 0, slots := 0, locals := 79 } : Room) s m args below meth c H locs 0 0 Q (F0 m pc ls [.int r0]) := by
    intro r0 y0 y1 y2 y3 y4 y5 H locs ls pc hz ho hd hP hD hS
    cases ho
    exact ret0 H locs ls pc hz hd hP hD hS
  rw [fX5_goNight_e] at hF
  refine lv_iconst (v := (nI 0)) hx hb dX5_goNight_0 (by decide) ?_
  refine lv_istore (lv' := [(4, .int (nI 0)), (0, .ref q_th), (1, .ref q_p1), (2, .ref q_p2), (3, .int p3)]) hx hb dX5_goNight_1 hl (by decide) rfl (fun ls hl => ?_)
  refine lv_aload_n hx hb dX5_goNight_3 rfl (lv_at hl 3 rfl) ?_
  obtain ⟨o4, hF1, hF⟩ := ng_b hF
  refine nx_callVi (As := []) (rest := []) (W1 := [(q_th, .inr (5, [.ref q_th_fromSnail, .ref q_th_fromGoal])), (q_p1, .inr (6, [x_p1_kinds, x_p1_column, .ref q_p1_beside, x_p1_damps, x_p1_rentNights, x_p1_rents, x_p1_heirs, .int p1_columns, .int p1_cells, .int p1_start, .int p1_dampCount, .int p1_rentCount, .int p1_heirCount])), (q_p2, .inr (3, [.ref q_p2_kinds, .int p2_snail, .int p2_night, .int p2_begunOn])), (q_th_fromSnail, .inl (cI, 25, .inl th_fromSnail)), (q_p1_beside, .inl (cI, 100, .inl p1_beside)), (q_p2_kinds, .inl (cI, 25, .inl p2_kinds)), (q_th_fromGoal, .inl (cI, 25, .inl th_fromGoal))]) (wr := [(q_th, .inr (5, [.ref q_th_fromSnail, .ref q_th_fromGoal])), (q_p1, .inr (6, [x_p1_kinds, x_p1_column, .ref q_p1_beside, x_p1_damps, x_p1_rentNights, x_p1_rents, x_p1_heirs, .int p1_columns, .int p1_cells, .int p1_start, .int p1_dampCount, .int p1_rentCount, .int p1_heirCount])), (q_th_fromSnail, .inl (cI, 25, .inl th_fromSnail)), (q_p1_beside, .inl (cI, 100, .inl p1_beside)), (q_p2_kinds, .inl (cI, 25, .inl p2_kinds)), (q_th_fromGoal, .inl (cI, 25, .inl th_fromGoal))]) S0 hK hN hA hP hD hS (kX3_hasBegun l dC dI cI q_p2 _ (.ref q_p2_kinds) p2_snail p2_night p2_begunOn N o4 hF1) (cwV 0 hts gX5_goNight_X3_hasBegun rfl rfl rfl ⟨rfl, hdX3_hasBegun⟩ ⟨Nat.le_of_ble_eq_true rfl, Nat.le_of_ble_eq_true rfl⟩) [2] [0, 1, 3, 4, 5, 6] [0, 1, 6, 2, 3, 4, 5] rfl rfl rfl rfl 2 3 rfl rfl rfl rfl hl.1 rfl (Nat.le_of_ble_eq_true rfl) dX5_goNight_4 (fun H locs hP hD hS => ?_)
  have B_15 : ∀ (s0_15 : Int32), fX5_goNight_15 N p1_columns p1_cells p2_snail p2_night p2_begunOn p3 th_fromSnail p1_beside p2_kinds th_fromGoal s0_15 = some o → ∀ (H : Heap) (locs : List Loc) (ls : Array Slot), va_P (dC, dI) vwCl [(q_th, .inr (5, [.ref q_th_fromSnail, .ref q_th_fromGoal])), (q_p1, .inr (6, [x_p1_kinds, x_p1_column, .ref q_p1_beside, x_p1_damps, x_p1_rentNights, x_p1_rents, x_p1_heirs, .int p1_columns, .int p1_cells, .int p1_start, .int p1_dampCount, .int p1_rentCount, .int p1_heirCount])), (q_p2, .inr (3, [.ref q_p2_kinds, .int p2_snail, .int p2_night, .int p2_begunOn])), (q_th_fromSnail, .inl (cI, 25, .inl th_fromSnail)), (q_p1_beside, .inl (cI, 100, .inl p1_beside)), (q_p2_kinds, .inl (cI, 25, .inl p2_kinds)), (q_th_fromGoal, .inl (cI, 25, .inl th_fromGoal))] H → va_D A [(q_th, .inr (5, [.ref q_th_fromSnail, .ref q_th_fromGoal])), (q_p1, .inr (6, [x_p1_kinds, x_p1_column, .ref q_p1_beside, x_p1_damps, x_p1_rentNights, x_p1_rents, x_p1_heirs, .int p1_columns, .int p1_cells, .int p1_start, .int p1_dampCount, .int p1_rentCount, .int p1_heirCount])), (q_p2, .inr (3, [.ref q_p2_kinds, .int p2_snail, .int p2_night, .int p2_begunOn])), (q_th_fromSnail, .inl (cI, 25, .inl th_fromSnail)), (q_p1_beside, .inl (cI, 100, .inl p1_beside)), (q_p2_kinds, .inl (cI, 25, .inl p2_kinds)), (q_th_fromGoal, .inl (cI, 25, .inl th_fromGoal))] → va_S A s.heap H locs → lv_has ls 10 [(0, .ref q_th), (1, .ref q_p1), (2, .ref q_p2), (3, .int p3), (4, .int (nI 0))] → W p l e ({ frames := 3, cells := 0, slots := 0, locals := 79 } : Room) s m args below meth c H locs 0 0 Q (F0 m 15 ls [.int s0_15]) := by
    intro s0_15 hF H locs ls hP hD hS hl
    rw [fX5_goNight_15_e] at hF
    refine lv_istore (lv' := [(5, .int s0_15), (0, .ref q_th), (1, .ref q_p1), (2, .ref q_p2), (3, .int p3), (4, .int (nI 0))]) hx hb dX5_goNight_15 hl (by decide) rfl (fun ls hl => ?_)
    refine lv_iload_n hx hb dX5_goNight_17 rfl (lv_at hl 4 rfl) ?_
    refine lv_istore (lv' := [(6, .int p3), (5, .int s0_15), (0, .ref q_th), (1, .ref q_p1), (2, .ref q_p2), (3, .int p3), (4, .int (nI 0))]) hx hb dX5_goNight_18 hl (by decide) rfl (fun ls hl => ?_)
    refine lv_iconst (v := (nI 0)) hx hb dX5_goNight_20 (by decide) ?_
    have B_23 : ∀ (n_23 : Nat) (v4_23 : Int32) (v5_23 : Int32) (v6_23 : Int32) (v7_23 : Int32) (p2_snail_23 : Int32) (p2_begunOn_23 : Int32) (th_fromSnail_23 : Nat → Int32) (p2_kinds_23 : Nat → Int32) (th_fromGoal_23 : Nat → Int32), fX5_goNight_23 N p1_columns p1_cells p2_night p3 p1_beside n_23 v4_23 v5_23 v6_23 v7_23 p2_snail_23 p2_begunOn_23 th_fromSnail_23 p2_kinds_23 th_fromGoal_23 = some o → ∀ (H : Heap) (locs : List Loc) (ls : Array Slot), va_P (dC, dI) vwCl [(q_th, .inr (5, [.ref q_th_fromSnail, .ref q_th_fromGoal])), (q_p1, .inr (6, [x_p1_kinds, x_p1_column, .ref q_p1_beside, x_p1_damps, x_p1_rentNights, x_p1_rents, x_p1_heirs, .int p1_columns, .int p1_cells, .int p1_start, .int p1_dampCount, .int p1_rentCount, .int p1_heirCount])), (q_p2, .inr (3, [.ref q_p2_kinds, .int p2_snail_23, .int p2_night, .int p2_begunOn_23])), (q_th_fromSnail, .inl (cI, 25, .inl th_fromSnail_23)), (q_p1_beside, .inl (cI, 100, .inl p1_beside)), (q_p2_kinds, .inl (cI, 25, .inl p2_kinds_23)), (q_th_fromGoal, .inl (cI, 25, .inl th_fromGoal_23))] H → va_D A [(q_th, .inr (5, [.ref q_th_fromSnail, .ref q_th_fromGoal])), (q_p1, .inr (6, [x_p1_kinds, x_p1_column, .ref q_p1_beside, x_p1_damps, x_p1_rentNights, x_p1_rents, x_p1_heirs, .int p1_columns, .int p1_cells, .int p1_start, .int p1_dampCount, .int p1_rentCount, .int p1_heirCount])), (q_p2, .inr (3, [.ref q_p2_kinds, .int p2_snail_23, .int p2_night, .int p2_begunOn_23])), (q_th_fromSnail, .inl (cI, 25, .inl th_fromSnail_23)), (q_p1_beside, .inl (cI, 100, .inl p1_beside)), (q_p2_kinds, .inl (cI, 25, .inl p2_kinds_23)), (q_th_fromGoal, .inl (cI, 25, .inl th_fromGoal_23))] → va_S A s.heap H locs → lv_has ls 10 [(0, .ref q_th), (1, .ref q_p1), (2, .ref q_p2), (3, .int p3), (4, .int v4_23), (5, .int v5_23), (6, .int v6_23), (7, .int v7_23)] → W p l e ({ frames := 3, cells := 0, slots := 0, locals := 79 } : Room) s m args below meth c H locs 0 0 Q (F0 m 23 ls []) := by
      intro n_23
      induction n_23 with
      | zero =>
        intro v4_23 v5_23 v6_23 v7_23 p2_snail_23 p2_begunOn_23 th_fromSnail_23 p2_kinds_23 th_fromGoal_23 hF
        rw [fX5_goNight_23_z] at hF
        cases hF
      | succ n_23 ih_23 =>
        intro v4_23 v5_23 v6_23 v7_23 p2_snail_23 p2_begunOn_23 th_fromSnail_23 p2_kinds_23 th_fromGoal_23 hF H locs ls hP hD hS hl
        rw [fX5_goNight_23_s] at hF
        refine lv_iload hx hb dX5_goNight_23 (lv_at hl 5 rfl) ?_
        have B_129 : fX5_goNight_129 p2_night v4_23 p2_snail_23 p2_begunOn_23 th_fromSnail_23 p2_kinds_23 th_fromGoal_23 = some o → ∀ (H : Heap) (locs : List Loc) (ls : Array Slot), va_P (dC, dI) vwCl [(q_th, .inr (5, [.ref q_th_fromSnail, .ref q_th_fromGoal])), (q_p1, .inr (6, [x_p1_kinds, x_p1_column, .ref q_p1_beside, x_p1_damps, x_p1_rentNights, x_p1_rents, x_p1_heirs, .int p1_columns, .int p1_cells, .int p1_start, .int p1_dampCount, .int p1_rentCount, .int p1_heirCount])), (q_p2, .inr (3, [.ref q_p2_kinds, .int p2_snail_23, .int p2_night, .int p2_begunOn_23])), (q_th_fromSnail, .inl (cI, 25, .inl th_fromSnail_23)), (q_p1_beside, .inl (cI, 100, .inl p1_beside)), (q_p2_kinds, .inl (cI, 25, .inl p2_kinds_23)), (q_th_fromGoal, .inl (cI, 25, .inl th_fromGoal_23))] H → va_D A [(q_th, .inr (5, [.ref q_th_fromSnail, .ref q_th_fromGoal])), (q_p1, .inr (6, [x_p1_kinds, x_p1_column, .ref q_p1_beside, x_p1_damps, x_p1_rentNights, x_p1_rents, x_p1_heirs, .int p1_columns, .int p1_cells, .int p1_start, .int p1_dampCount, .int p1_rentCount, .int p1_heirCount])), (q_p2, .inr (3, [.ref q_p2_kinds, .int p2_snail_23, .int p2_night, .int p2_begunOn_23])), (q_th_fromSnail, .inl (cI, 25, .inl th_fromSnail_23)), (q_p1_beside, .inl (cI, 100, .inl p1_beside)), (q_p2_kinds, .inl (cI, 25, .inl p2_kinds_23)), (q_th_fromGoal, .inl (cI, 25, .inl th_fromGoal_23))] → va_S A s.heap H locs → lv_has ls 10 [(2, .ref q_p2), (4, .int v4_23)] → W p l e ({ frames := 3, cells := 0, slots := 0, locals := 79 } : Room) s m args below meth c H locs 0 0 Q (F0 m 129 ls []) := by
          intro  hF H locs ls hP hD hS hl
          rw [fX5_goNight_129_e] at hF
          refine lv_aload_n hx hb dX5_goNight_129 rfl (lv_at hl 0 rfl) ?_
          refine lv_dup hx hb dX5_goNight_130 rfl ?_
          refine nx_getN S0 hK hP 2 2 hin_X3 hf_40 rfl rfl (by decide) rfl rfl dX5_goNight_131 ?_
          refine lv_iconst (v := (nI 1)) hx hb dX5_goNight_134 (by decide) ?_
          refine lv_iadd hx hb dX5_goNight_135 ?_
          refine nx_putN S0 hK hP hD hS 2 2 hin_X3 tyX3 tyX3_ok nmX3 hf_40 rfl rfl (by decide) rfl rfl rfl rfl (Nat.le_of_ble_eq_true rfl) dX5_goNight_136 (W1 := [(q_th, .inr (5, [.ref q_th_fromSnail, .ref q_th_fromGoal])), (q_p1, .inr (6, [x_p1_kinds, x_p1_column, .ref q_p1_beside, x_p1_damps, x_p1_rentNights, x_p1_rents, x_p1_heirs, .int p1_columns, .int p1_cells, .int p1_start, .int p1_dampCount, .int p1_rentCount, .int p1_heirCount])), (q_p2, .inr (3, [.ref q_p2_kinds, .int p2_snail_23, .int (p2_night + (nI 1)), .int p2_begunOn_23])), (q_th_fromSnail, .inl (cI, 25, .inl th_fromSnail_23)), (q_p1_beside, .inl (cI, 100, .inl p1_beside)), (q_p2_kinds, .inl (cI, 25, .inl p2_kinds_23)), (q_th_fromGoal, .inl (cI, 25, .inl th_fromGoal_23))]) rfl (fun H locs hP hD hS => ?_)
          refine lv_iload hx hb dX5_goNight_139 (lv_at hl 1 rfl) ?_
          have hg := ng_p hF
          have hF := ng_x hF
          exact hret v4_23 p2_snail_23 (p2_night + (nI 1)) p2_begunOn_23 th_fromSnail_23 p2_kinds_23 th_fromGoal_23 _ _ _ _ hg hF dX5_goNight_141 hP hD hS
        refine lv_if_eq (tgt := 129) hx hb dX5_goNight_25 (by decide) (fun hc => ?_) (fun hc => ?_)
        · have hF := ng_t hc hF
          exact B_129  hF _ _ _ hP hD hS (lv_sub hl [2, 4] rfl)
        · have hF := ng_f hc hF
          refine lv_iload hx hb dX5_goNight_28 (lv_at hl 7 rfl) ?_
          refine lv_bipush (v := (nI 9)) hx hb dX5_goNight_30 (by decide) ?_
          refine lv_icmp_gt (tgt := 129) hx hb dX5_goNight_32 (by decide) (fun hc => ?_) (fun hc => ?_)
          · have hF := ng_t hc hF
            exact B_129  hF _ _ _ hP hD hS (lv_sub hl [2, 4] rfl)
          · have hF := ng_f hc hF
            refine lv_aload_n hx hb dX5_goNight_35 rfl (lv_at hl 0 rfl) ?_
            refine lv_aload_n hx hb dX5_goNight_36 rfl (lv_at hl 1 rfl) ?_
            refine lv_aload_n hx hb dX5_goNight_37 rfl (lv_at hl 2 rfl) ?_
            obtain ⟨o38, hF1, hF⟩ := ng_b hF
            refine nx_callVi (As := [.ref q_p1, .ref q_p2]) (rest := []) (W1 := [(q_th, .inr (5, [.ref q_th_fromSnail, .ref q_th_fromGoal])), (q_p1, .inr (6, [x_p1_kinds, x_p1_column, .ref q_p1_beside, x_p1_damps, x_p1_rentNights, x_p1_rents, x_p1_heirs, .int p1_columns, .int p1_cells, .int p1_start, .int p1_dampCount, .int p1_rentCount, .int p1_heirCount])), (q_p2, .inr (3, [.ref q_p2_kinds, .int p2_snail_23, .int p2_night, .int p2_begunOn_23])), (q_th_fromSnail, .inl (cI, 25, .inl o38.2.1)), (q_p1_beside, .inl (cI, 100, .inl p1_beside)), (q_p2_kinds, .inl (cI, 25, .inl p2_kinds_23)), (q_th_fromGoal, .inl (cI, 25, .inl o38.2.2))]) (wr := []) S0 hK hN hA hP hD hS (kX5_nextCell l dC dI cI q_th q_p1 q_p2 q_th_fromSnail q_p1_beside q_p2_kinds q_th_fromGoal _ (x_p1_kinds) (x_p1_column) (x_p1_damps) (x_p1_rentNights) (x_p1_rents) (x_p1_heirs) p1_columns p1_cells p1_start p1_dampCount p1_rentCount p1_heirCount p2_snail_23 p2_night p2_begunOn_23 th_fromSnail_23 p1_beside p2_kinds_23 th_fromGoal_23 N o38 hF1) (cwV 2 hts gX5_goNight_X5_nextCell rfl rfl rfl ⟨rfl, hdX5_nextCell⟩ ⟨Nat.le_of_ble_eq_true rfl, Nat.le_of_ble_eq_true rfl⟩) [0, 1, 2, 3, 4, 5, 6] [] [0, 1, 2, 3, 4, 5, 6] rfl rfl rfl rfl 0 5 rfl rfl rfl rfl hl.1 rfl (Nat.le_of_ble_eq_true rfl) dX5_goNight_38 (fun H locs hP hD hS => ?_)
            refine lv_istore (lv' := [(8, .int o38.1), (0, .ref q_th), (1, .ref q_p1), (2, .ref q_p2), (3, .int p3), (4, .int v4_23), (5, .int v5_23), (6, .int v6_23), (7, .int v7_23)]) hx hb dX5_goNight_41 hl (by decide) rfl (fun ls hl => ?_)
            refine lv_aload_n hx hb dX5_goNight_43 rfl (lv_at hl 3 rfl) ?_
            refine lv_iload hx hb dX5_goNight_44 (lv_at hl 0 rfl) ?_
            obtain ⟨o46, hF1, hF⟩ := ng_b hF
            refine nx_callVi (As := [.int o38.1]) (rest := []) (W1 := [(q_th, .inr (5, [.ref q_th_fromSnail, .ref q_th_fromGoal])), (q_p1, .inr (6, [x_p1_kinds, x_p1_column, .ref q_p1_beside, x_p1_damps, x_p1_rentNights, x_p1_rents, x_p1_heirs, .int p1_columns, .int p1_cells, .int p1_start, .int p1_dampCount, .int p1_rentCount, .int p1_heirCount])), (q_p2, .inr (3, [.ref q_p2_kinds, .int p2_snail_23, .int p2_night, .int p2_begunOn_23])), (q_th_fromSnail, .inl (cI, 25, .inl o38.2.1)), (q_p1_beside, .inl (cI, 100, .inl p1_beside)), (q_p2_kinds, .inl (cI, 25, .inl p2_kinds_23)), (q_th_fromGoal, .inl (cI, 25, .inl o38.2.2))]) (wr := [(q_th, .inr (5, [.ref q_th_fromSnail, .ref q_th_fromGoal])), (q_p1, .inr (6, [x_p1_kinds, x_p1_column, .ref q_p1_beside, x_p1_damps, x_p1_rentNights, x_p1_rents, x_p1_heirs, .int p1_columns, .int p1_cells, .int p1_start, .int p1_dampCount, .int p1_rentCount, .int p1_heirCount])), (q_th_fromSnail, .inl (cI, 25, .inl o38.2.1)), (q_p1_beside, .inl (cI, 100, .inl p1_beside)), (q_th_fromGoal, .inl (cI, 25, .inl o38.2.2))]) S0 hK hN hA hP hD hS (kX3_kindAt l dC dI cI q_p2 q_p2_kinds _ p2_snail_23 p2_night p2_begunOn_23 p2_kinds_23 o38.1 N o46 hF1) (cwV 1 hts gX5_goNight_X3_kindAt rfl rfl rfl ⟨rfl, hdX3_kindAt⟩ ⟨Nat.le_of_ble_eq_true rfl, Nat.le_of_ble_eq_true rfl⟩) [2, 5] [0, 1, 3, 4, 6] [0, 1, 5, 2, 3, 6, 4] rfl rfl rfl rfl 2 3 rfl rfl rfl rfl hl.1 rfl (Nat.le_of_ble_eq_true rfl) dX5_goNight_46 (fun H locs hP hD hS => ?_)
            refine lv_iload_n hx hb dX5_goNight_49 rfl (lv_at hl 4 rfl) ?_
            obtain ⟨o50, hF1, hF⟩ := ng_b hF
            refine nx_callNi (As := [.int o46, .int p3]) (rest := []) (W1 := [(q_th, .inr (5, [.ref q_th_fromSnail, .ref q_th_fromGoal])), (q_p1, .inr (6, [x_p1_kinds, x_p1_column, .ref q_p1_beside, x_p1_damps, x_p1_rentNights, x_p1_rents, x_p1_heirs, .int p1_columns, .int p1_cells, .int p1_start, .int p1_dampCount, .int p1_rentCount, .int p1_heirCount])), (q_p2, .inr (3, [.ref q_p2_kinds, .int p2_snail_23, .int p2_night, .int p2_begunOn_23])), (q_th_fromSnail, .inl (cI, 25, .inl o38.2.1)), (q_p1_beside, .inl (cI, 100, .inl p1_beside)), (q_p2_kinds, .inl (cI, 25, .inl p2_kinds_23)), (q_th_fromGoal, .inl (cI, 25, .inl o38.2.2))]) (wr := [(q_th, .inr (5, [.ref q_th_fromSnail, .ref q_th_fromGoal])), (q_p1, .inr (6, [x_p1_kinds, x_p1_column, .ref q_p1_beside, x_p1_damps, x_p1_rentNights, x_p1_rents, x_p1_heirs, .int p1_columns, .int p1_cells, .int p1_start, .int p1_dampCount, .int p1_rentCount, .int p1_heirCount])), (q_p2, .inr (3, [.ref q_p2_kinds, .int p2_snail_23, .int p2_night, .int p2_begunOn_23])), (q_th_fromSnail, .inl (cI, 25, .inl o38.2.1)), (q_p1_beside, .inl (cI, 100, .inl p1_beside)), (q_p2_kinds, .inl (cI, 25, .inl p2_kinds_23)), (q_th_fromGoal, .inl (cI, 25, .inl o38.2.2))]) S0 hK hN hA hP hD hS (kX7_stepsInto l dC dI cI _ o46 p3 N o50 hF1) ⟨va_cnB 2 hts gX5_goNight_X7_stepsInto_n32 rfl rfl rfl (hN.2 ("SnailsYear$Walker", 32, yX7_stepsInto, "SnailsYear") (by decide +kernel)) hci_32 hdX7_stepsInto ⟨Nat.le_of_ble_eq_true rfl, Nat.le_of_ble_eq_true rfl⟩, hcs_32, trivial⟩ [] [0, 1, 2, 3, 4, 5, 6] [0, 1, 2, 3, 4, 5, 6] rfl rfl rfl rfl rfl hl.1 rfl (Nat.le_of_ble_eq_true rfl) dX5_goNight_50 (fun H locs hP hD hS => ?_)
            refine lv_istore (lv' := [(9, .int o50), (8, .int o38.1), (0, .ref q_th), (1, .ref q_p1), (2, .ref q_p2), (3, .int p3), (4, .int v4_23), (5, .int v5_23), (6, .int v6_23), (7, .int v7_23)]) hx hb dX5_goNight_53 hl (by decide) rfl (fun ls hl => ?_)
            refine lv_iload hx hb dX5_goNight_55 (lv_at hl 1 rfl) ?_
            refine lv_bipush (v := (-4 : Int32)) hx hb dX5_goNight_57 (by decide) ?_
            have B_69 : fX5_goNight_69 v6_23 v7_23 p2_snail_23 p2_begunOn_23 p2_kinds_23 o38 (fX5_goNight_23 N p1_columns p1_cells p2_night p3 p1_beside n_23) = some o → ∀ (H : Heap) (locs : List Loc) (ls : Array Slot), va_P (dC, dI) vwCl [(q_th, .inr (5, [.ref q_th_fromSnail, .ref q_th_fromGoal])), (q_p1, .inr (6, [x_p1_kinds, x_p1_column, .ref q_p1_beside, x_p1_damps, x_p1_rentNights, x_p1_rents, x_p1_heirs, .int p1_columns, .int p1_cells, .int p1_start, .int p1_dampCount, .int p1_rentCount, .int p1_heirCount])), (q_p2, .inr (3, [.ref q_p2_kinds, .int p2_snail_23, .int p2_night, .int p2_begunOn_23])), (q_th_fromSnail, .inl (cI, 25, .inl o38.2.1)), (q_p1_beside, .inl (cI, 100, .inl p1_beside)), (q_p2_kinds, .inl (cI, 25, .inl p2_kinds_23)), (q_th_fromGoal, .inl (cI, 25, .inl o38.2.2))] H → va_D A [(q_th, .inr (5, [.ref q_th_fromSnail, .ref q_th_fromGoal])), (q_p1, .inr (6, [x_p1_kinds, x_p1_column, .ref q_p1_beside, x_p1_damps, x_p1_rentNights, x_p1_rents, x_p1_heirs, .int p1_columns, .int p1_cells, .int p1_start, .int p1_dampCount, .int p1_rentCount, .int p1_heirCount])), (q_p2, .inr (3, [.ref q_p2_kinds, .int p2_snail_23, .int p2_night, .int p2_begunOn_23])), (q_th_fromSnail, .inl (cI, 25, .inl o38.2.1)), (q_p1_beside, .inl (cI, 100, .inl p1_beside)), (q_p2_kinds, .inl (cI, 25, .inl p2_kinds_23)), (q_th_fromGoal, .inl (cI, 25, .inl o38.2.2))] → va_S A s.heap H locs → lv_has ls 10 [(0, .ref q_th), (1, .ref q_p1), (2, .ref q_p2), (3, .int p3), (6, .int v6_23), (7, .int v7_23), (8, .int o38.1)] → W p l e ({ frames := 3, cells := 0, slots := 0, locals := 79 } : Room) s m args below meth c H locs 0 0 Q (F0 m 69 ls []) := by
              intro  hF H locs ls hP hD hS hl
              rw [fX5_goNight_69_e] at hF
              refine lv_iload hx hb dX5_goNight_69 (lv_at hl 6 rfl) ?_
              refine lv_bipush (v := (-4 : Int32)) hx hb dX5_goNight_71 (by decide) ?_
              have B_86 : ∀ (s0_86 : Int32), fX5_goNight_86 v6_23 v7_23 p2_snail_23 p2_begunOn_23 p2_kinds_23 o38 s0_86 (fX5_goNight_23 N p1_columns p1_cells p2_night p3 p1_beside n_23) = some o → ∀ (H : Heap) (locs : List Loc) (ls : Array Slot), va_P (dC, dI) vwCl [(q_th, .inr (5, [.ref q_th_fromSnail, .ref q_th_fromGoal])), (q_p1, .inr (6, [x_p1_kinds, x_p1_column, .ref q_p1_beside, x_p1_damps, x_p1_rentNights, x_p1_rents, x_p1_heirs, .int p1_columns, .int p1_cells, .int p1_start, .int p1_dampCount, .int p1_rentCount, .int p1_heirCount])), (q_p2, .inr (3, [.ref q_p2_kinds, .int p2_snail_23, .int p2_night, .int p2_begunOn_23])), (q_th_fromSnail, .inl (cI, 25, .inl o38.2.1)), (q_p1_beside, .inl (cI, 100, .inl p1_beside)), (q_p2_kinds, .inl (cI, 25, .inl p2_kinds_23)), (q_th_fromGoal, .inl (cI, 25, .inl o38.2.2))] H → va_D A [(q_th, .inr (5, [.ref q_th_fromSnail, .ref q_th_fromGoal])), (q_p1, .inr (6, [x_p1_kinds, x_p1_column, .ref q_p1_beside, x_p1_damps, x_p1_rentNights, x_p1_rents, x_p1_heirs, .int p1_columns, .int p1_cells, .int p1_start, .int p1_dampCount, .int p1_rentCount, .int p1_heirCount])), (q_p2, .inr (3, [.ref q_p2_kinds, .int p2_snail_23, .int p2_night, .int p2_begunOn_23])), (q_th_fromSnail, .inl (cI, 25, .inl o38.2.1)), (q_p1_beside, .inl (cI, 100, .inl p1_beside)), (q_p2_kinds, .inl (cI, 25, .inl p2_kinds_23)), (q_th_fromGoal, .inl (cI, 25, .inl o38.2.2))] → va_S A s.heap H locs → lv_has ls 10 [(0, .ref q_th), (1, .ref q_p1), (2, .ref q_p2), (3, .int p3), (6, .int v6_23), (7, .int v7_23)] → W p l e ({ frames := 3, cells := 0, slots := 0, locals := 79 } : Room) s m args below meth c H locs 0 0 Q (F0 m 86 ls [.int s0_86]) := by
                intro s0_86 hF H locs ls hP hD hS hl
                rw [fX5_goNight_86_e] at hF
                refine lv_istore (lv' := [(4, .int s0_86), (0, .ref q_th), (1, .ref q_p1), (2, .ref q_p2), (3, .int p3), (6, .int v6_23), (7, .int v7_23)]) hx hb dX5_goNight_86 hl (by decide) rfl (fun ls hl => ?_)
                refine lv_iconst (v := (nI 0)) hx hb dX5_goNight_88 (by decide) ?_
                refine lv_istore (lv' := [(5, .int (nI 0)), (4, .int s0_86), (0, .ref q_th), (1, .ref q_p1), (2, .ref q_p2), (3, .int p3), (6, .int v6_23), (7, .int v7_23)]) hx hb dX5_goNight_89 hl (by decide) rfl (fun ls hl => ?_)
                refine lv_goto (tgt := 123) hx hb dX5_goNight_91 (by decide) ?_
                refine lv_iinc (v := v7_23 + (nI 1)) (lv' := [(7, .int (v7_23 + (nI 1))), (5, .int (nI 0)), (4, .int s0_86), (0, .ref q_th), (1, .ref q_p1), (2, .ref q_p2), (3, .int p3), (6, .int v6_23)]) hx hb dX5_goNight_123 hl (k := 7) rfl rfl (by decide) rfl (fun ls hl => ?_)
                refine lv_goto (tgt := 23) hx hb dX5_goNight_126 (by decide) ?_
                exact ih_23 s0_86 (nI 0) v6_23 (v7_23 + (nI 1)) p2_snail_23 p2_begunOn_23 o38.2.1 p2_kinds_23 o38.2.2 hF _ _ _ hP hD hS (lv_sub hl [3, 4, 5, 6, 2, 1, 7, 0] rfl)
              have B_85 : fX5_goNight_85 v6_23 v7_23 p2_snail_23 p2_begunOn_23 p2_kinds_23 o38 (fX5_goNight_23 N p1_columns p1_cells p2_night p3 p1_beside n_23) = some o → ∀ (H : Heap) (locs : List Loc) (ls : Array Slot), va_P (dC, dI) vwCl [(q_th, .inr (5, [.ref q_th_fromSnail, .ref q_th_fromGoal])), (q_p1, .inr (6, [x_p1_kinds, x_p1_column, .ref q_p1_beside, x_p1_damps, x_p1_rentNights, x_p1_rents, x_p1_heirs, .int p1_columns, .int p1_cells, .int p1_start, .int p1_dampCount, .int p1_rentCount, .int p1_heirCount])), (q_p2, .inr (3, [.ref q_p2_kinds, .int p2_snail_23, .int p2_night, .int p2_begunOn_23])), (q_th_fromSnail, .inl (cI, 25, .inl o38.2.1)), (q_p1_beside, .inl (cI, 100, .inl p1_beside)), (q_p2_kinds, .inl (cI, 25, .inl p2_kinds_23)), (q_th_fromGoal, .inl (cI, 25, .inl o38.2.2))] H → va_D A [(q_th, .inr (5, [.ref q_th_fromSnail, .ref q_th_fromGoal])), (q_p1, .inr (6, [x_p1_kinds, x_p1_column, .ref q_p1_beside, x_p1_damps, x_p1_rentNights, x_p1_rents, x_p1_heirs, .int p1_columns, .int p1_cells, .int p1_start, .int p1_dampCount, .int p1_rentCount, .int p1_heirCount])), (q_p2, .inr (3, [.ref q_p2_kinds, .int p2_snail_23, .int p2_night, .int p2_begunOn_23])), (q_th_fromSnail, .inl (cI, 25, .inl o38.2.1)), (q_p1_beside, .inl (cI, 100, .inl p1_beside)), (q_p2_kinds, .inl (cI, 25, .inl p2_kinds_23)), (q_th_fromGoal, .inl (cI, 25, .inl o38.2.2))] → va_S A s.heap H locs → lv_has ls 10 [(0, .ref q_th), (1, .ref q_p1), (2, .ref q_p2), (3, .int p3), (6, .int v6_23), (7, .int v7_23)] → W p l e ({ frames := 3, cells := 0, slots := 0, locals := 79 } : Room) s m args below meth c H locs 0 0 Q (F0 m 85 ls []) := by
                intro  hF H locs ls hP hD hS hl
                rw [fX5_goNight_85_e] at hF
                refine lv_iconst (v := (nI 0)) hx hb dX5_goNight_85 (by decide) ?_
                exact B_86 (nI 0) hF _ _ _ hP hD hS (lv_sub hl [0, 1, 2, 3, 4, 5] rfl)
              refine lv_icmp_eq (tgt := 85) hx hb dX5_goNight_73 (by decide) (fun hc => ?_) (fun hc => ?_)
              · have hF := ng_t hc hF
                exact B_85  hF _ _ _ hP hD hS (lv_sub hl [0, 1, 2, 3, 4, 5] rfl)
              · have hF := ng_f hc hF
                refine lv_iload hx hb dX5_goNight_76 (lv_at hl 5 rfl) ?_
                refine lv_if_ne (tgt := 85) hx hb dX5_goNight_78 (by decide) (fun hc => ?_) (fun hc => ?_)
                · have hF := ng_f hc hF
                  exact B_85  hF _ _ _ hP hD hS (lv_sub hl [0, 1, 2, 3, 4, 5] rfl)
                · have hF := ng_t hc hF
                  refine lv_iconst (v := (nI 1)) hx hb dX5_goNight_81 (by decide) ?_
                  refine lv_goto (tgt := 86) hx hb dX5_goNight_82 (by decide) ?_
                  exact B_86 (nI 1) hF _ _ _ hP hD hS (lv_sub hl [0, 1, 2, 3, 4, 5] rfl)
            refine lv_icmp_eq (tgt := 69) hx hb dX5_goNight_59 (by decide) (fun hc => ?_) (fun hc => ?_)
            · have hF := ng_t hc hF
              exact B_69  hF _ _ _ hP hD hS (lv_sub hl [2, 3, 4, 5, 8, 9, 1] rfl)
            · have hF := ng_f hc hF
              refine lv_iload hx hb dX5_goNight_62 (lv_at hl 0 rfl) ?_
              refine lv_iload hx hb dX5_goNight_64 (lv_at hl 8 rfl) ?_
              refine lv_icmp_le (tgt := 94) hx hb dX5_goNight_66 (by decide) (fun hc => ?_) (fun hc => ?_)
              · have hF := ng_t hc hF
                refine lv_iload hx hb dX5_goNight_94 (lv_at hl 8 rfl) ?_
                refine lv_iload hx hb dX5_goNight_96 (lv_at hl 0 rfl) ?_
                refine lv_isub hx hb dX5_goNight_98 ?_
                refine lv_istore (lv' := [(6, .int (v6_23 - o50)), (9, .int o50), (8, .int o38.1), (0, .ref q_th), (1, .ref q_p1), (2, .ref q_p2), (3, .int p3), (4, .int v4_23), (5, .int v5_23), (7, .int v7_23)]) hx hb dX5_goNight_99 hl (by decide) rfl (fun ls hl => ?_)
                refine lv_iload hx hb dX5_goNight_101 (lv_at hl 2 rfl) ?_
                refine lv_aload_n hx hb dX5_goNight_103 rfl (lv_at hl 4 rfl) ?_
                refine lv_aload_n hx hb dX5_goNight_104 rfl (lv_at hl 5 rfl) ?_
                obtain ⟨o105, hF1, hF⟩ := ng_b hF
                refine nx_callSi (As := [.int o38.1, .ref q_p1, .ref q_p2]) (rest := []) (W1 := [(q_th, .inr (5, [.ref q_th_fromSnail, .ref q_th_fromGoal])), (q_p1, .inr (6, [x_p1_kinds, x_p1_column, .ref q_p1_beside, x_p1_damps, x_p1_rentNights, x_p1_rents, x_p1_heirs, .int p1_columns, .int p1_cells, .int p1_start, .int p1_dampCount, .int p1_rentCount, .int p1_heirCount])), (q_p2, .inr (3, [.ref q_p2_kinds, .int o105.2.1, .int p2_night, .int o105.2.2.1])), (q_th_fromSnail, .inl (cI, 25, .inl o38.2.1)), (q_p1_beside, .inl (cI, 100, .inl p1_beside)), (q_p2_kinds, .inl (cI, 25, .inl o105.2.2.2)), (q_th_fromGoal, .inl (cI, 25, .inl o38.2.2))]) (wr := [(q_th, .inr (5, [.ref q_th_fromSnail, .ref q_th_fromGoal])), (q_th_fromSnail, .inl (cI, 25, .inl o38.2.1)), (q_p1_beside, .inl (cI, 100, .inl p1_beside)), (q_th_fromGoal, .inl (cI, 25, .inl o38.2.2))]) S0 hK hN hA hP hD hS (kX5_comeInto l dC dI cI q_p1 q_p2 q_p2_kinds _ (x_p1_kinds) (x_p1_column) (.ref q_p1_beside) (x_p1_damps) (x_p1_rentNights) (x_p1_rents) (x_p1_heirs) p1_columns p1_cells p1_start p1_dampCount p1_rentCount p1_heirCount p2_snail_23 p2_night p2_begunOn_23 p2_kinds_23 o38.1 N o105 hF1) (va_cwS 3 hts gX5_goNight_X5_comeInto rfl rfl rfl hdX5_comeInto ⟨Nat.le_of_ble_eq_true rfl, Nat.le_of_ble_eq_true rfl⟩) [1, 2, 5] [0, 3, 4, 6] [0, 4, 5, 1, 2, 6, 3] rfl rfl rfl rfl rfl hl.1 rfl (Nat.le_of_ble_eq_true rfl) dX5_goNight_105 (fun H locs hP hD hS => ?_)
                refine lv_if_eq (tgt := 120) hx hb dX5_goNight_108 (by decide) (fun hc => ?_) (fun hc => ?_)
                · have hF := ng_t hc hF
                  refine lv_iconst (v := (nI 0)) hx hb dX5_goNight_120 (by decide) ?_
                  refine lv_istore (lv' := [(5, .int (nI 0)), (6, .int (v6_23 - o50)), (9, .int o50), (8, .int o38.1), (0, .ref q_th), (1, .ref q_p1), (2, .ref q_p2), (3, .int p3), (4, .int v4_23), (7, .int v7_23)]) hx hb dX5_goNight_121 hl (by decide) rfl (fun ls hl => ?_)
                  refine lv_iinc (v := v7_23 + (nI 1)) (lv' := [(7, .int (v7_23 + (nI 1))), (5, .int (nI 0)), (6, .int (v6_23 - o50)), (9, .int o50), (8, .int o38.1), (0, .ref q_th), (1, .ref q_p1), (2, .ref q_p2), (3, .int p3), (4, .int v4_23)]) hx hb dX5_goNight_123 hl (k := 9) rfl rfl (by decide) rfl (fun ls hl => ?_)
                  refine lv_goto (tgt := 23) hx hb dX5_goNight_126 (by decide) ?_
                  exact ih_23 v4_23 (nI 0) (v6_23 - o50) (v7_23 + (nI 1)) o105.2.1 o105.2.2.1 o38.2.1 o105.2.2.2 o38.2.2 hF _ _ _ hP hD hS (lv_sub hl [5, 6, 7, 8, 9, 1, 2, 0] rfl)
                · have hF := ng_f hc hF
                  refine lv_iload hx hb dX5_goNight_111 (lv_at hl 0 rfl) ?_
                  refine lv_if_le (tgt := 120) hx hb dX5_goNight_113 (by decide) (fun hc => ?_) (fun hc => ?_)
                  · have hF := ng_t hc hF
                    refine lv_iconst (v := (nI 0)) hx hb dX5_goNight_120 (by decide) ?_
                    refine lv_istore (lv' := [(5, .int (nI 0)), (6, .int (v6_23 - o50)), (9, .int o50), (8, .int o38.1), (0, .ref q_th), (1, .ref q_p1), (2, .ref q_p2), (3, .int p3), (4, .int v4_23), (7, .int v7_23)]) hx hb dX5_goNight_121 hl (by decide) rfl (fun ls hl => ?_)
                    refine lv_iinc (v := v7_23 + (nI 1)) (lv' := [(7, .int (v7_23 + (nI 1))), (5, .int (nI 0)), (6, .int (v6_23 - o50)), (9, .int o50), (8, .int o38.1), (0, .ref q_th), (1, .ref q_p1), (2, .ref q_p2), (3, .int p3), (4, .int v4_23)]) hx hb dX5_goNight_123 hl (k := 9) rfl rfl (by decide) rfl (fun ls hl => ?_)
                    refine lv_goto (tgt := 23) hx hb dX5_goNight_126 (by decide) ?_
                    exact ih_23 v4_23 (nI 0) (v6_23 - o50) (v7_23 + (nI 1)) o105.2.1 o105.2.2.1 o38.2.1 o105.2.2.2 o38.2.2 hF _ _ _ hP hD hS (lv_sub hl [5, 6, 7, 8, 9, 1, 2, 0] rfl)
                  · have hF := ng_f hc hF
                    refine lv_iconst (v := (nI 1)) hx hb dX5_goNight_116 (by decide) ?_
                    refine lv_goto (tgt := 121) hx hb dX5_goNight_117 (by decide) ?_
                    refine lv_istore (lv' := [(5, .int (nI 1)), (6, .int (v6_23 - o50)), (9, .int o50), (8, .int o38.1), (0, .ref q_th), (1, .ref q_p1), (2, .ref q_p2), (3, .int p3), (4, .int v4_23), (7, .int v7_23)]) hx hb dX5_goNight_121 hl (by decide) rfl (fun ls hl => ?_)
                    refine lv_iinc (v := v7_23 + (nI 1)) (lv' := [(7, .int (v7_23 + (nI 1))), (5, .int (nI 1)), (6, .int (v6_23 - o50)), (9, .int o50), (8, .int o38.1), (0, .ref q_th), (1, .ref q_p1), (2, .ref q_p2), (3, .int p3), (4, .int v4_23)]) hx hb dX5_goNight_123 hl (k := 9) rfl rfl (by decide) rfl (fun ls hl => ?_)
                    refine lv_goto (tgt := 23) hx hb dX5_goNight_126 (by decide) ?_
                    exact ih_23 v4_23 (nI 1) (v6_23 - o50) (v7_23 + (nI 1)) o105.2.1 o105.2.2.1 o38.2.1 o105.2.2.2 o38.2.2 hF _ _ _ hP hD hS (lv_sub hl [5, 6, 7, 8, 9, 1, 2, 0] rfl)
              · have hF := ng_f hc hF
                exact B_69  hF _ _ _ hP hD hS (lv_sub hl [2, 3, 4, 5, 8, 9, 1] rfl)
    refine lv_istore (lv' := [(7, .int (nI 0)), (6, .int p3), (5, .int s0_15), (0, .ref q_th), (1, .ref q_p1), (2, .ref q_p2), (3, .int p3), (4, .int (nI 0))]) hx hb dX5_goNight_21 hl (by decide) rfl (fun ls hl => ?_)
    exact B_23 N (nI 0) s0_15 p3 (nI 0) p2_snail p2_begunOn th_fromSnail p2_kinds th_fromGoal hF _ _ _ hP hD hS (lv_sub hl [3, 4, 5, 6, 7, 2, 1, 0] rfl)
  refine lv_if_ne (tgt := 14) hx hb dX5_goNight_7 (by decide) (fun hc => ?_) (fun hc => ?_)
  · have hF := ng_f hc hF
    refine lv_iconst (v := (nI 0)) hx hb dX5_goNight_14 (by decide) ?_
    exact B_15 (nI 0) hF _ _ _ hP hD hS (lv_sub hl [1, 2, 3, 4, 0] rfl)
  · have hF := ng_t hc hF
    refine lv_iconst (v := (nI 1)) hx hb dX5_goNight_10 (by decide) ?_
    refine lv_goto (tgt := 15) hx hb dX5_goNight_11 (by decide) ?_
    exact B_15 (nI 1) hF _ _ _ hP hD hS (lv_sub hl [1, 2, 3, 4, 0] rfl)
theorem hdX5_stepsTo : yX5_stepsTo.cls ≠ "java/lang/invoke/MethodHandle" ∧ yX5_stepsTo.cls ≠ "java/lang/invoke/VarHandle" ∧ (parseMethodDescriptor yX5_stepsTo.desc).map (fun d => d.parameters.length) = some 3 := by decide +kernel
set_option maxHeartbeats 40000000 in
set_option maxRecDepth 100000 in
theorem kX5_stepsTo (l : Launch) (dC : Nat → ClassId) (dI : Nat → Nat → Nat) (cI : ClassId) (q_th : Nat) (q_p2 : Nat) (q_p3 : Nat) (q_th_fromSnail : Nat) (q_p2_beside : Nat) (q_p3_kinds : Nat) (sz : Nat) (x_th_fromGoal : Value) (x_p2_kinds : Value) (x_p2_column : Value) (x_p2_damps : Value) (x_p2_rentNights : Value) (x_p2_rents : Value) (x_p2_heirs : Value) (p2_columns : Int32) (p2_cells : Int32) (p2_start : Int32) (p2_dampCount : Int32) (p2_rentCount : Int32) (p2_heirCount : Int32) (p3_snail : Int32) (p3_night : Int32) (p3_begunOn : Int32) (th_fromSnail : Nat → Int32) (p2_beside : Nat → Int32) (p3_kinds : Nat → Int32) (p1 : Int32) (N : Nat) (o : Int32 × (Nat → Int32)) (hF : fX5_stepsTo N p1 p2_cells p3_snail th_fromSnail p2_beside p3_kinds = some o) : nx_I l yX5_stepsTo wsX5_stepsTo ({ frames := 2, cells := 0, slots := 0, locals := 52 } : Room) (dC, dI) cI [.ref q_th, .int p1, .ref q_p2, .ref q_p3] [(q_th, .inr (5, [.ref q_th_fromSnail, x_th_fromGoal])), (q_p2, .inr (6, [x_p2_kinds, x_p2_column, .ref q_p2_beside, x_p2_damps, x_p2_rentNights, x_p2_rents, x_p2_heirs, .int p2_columns, .int p2_cells, .int p2_start, .int p2_dampCount, .int p2_rentCount, .int p2_heirCount])), (q_p3, .inr (3, [.ref q_p3_kinds, .int p3_snail, .int p3_night, .int p3_begunOn])), (q_th_fromSnail, .inl (cI, 25, .inl th_fromSnail)), (q_p2_beside, .inl (cI, 100, .inl p2_beside)), (q_p3_kinds, .inl (cI, 25, .inl p3_kinds))] sz o.1 [(q_th, .inr (5, [.ref q_th_fromSnail, x_th_fromGoal])), (q_p2, .inr (6, [x_p2_kinds, x_p2_column, .ref q_p2_beside, x_p2_damps, x_p2_rentNights, x_p2_rents, x_p2_heirs, .int p2_columns, .int p2_cells, .int p2_start, .int p2_dampCount, .int p2_rentCount, .int p2_heirCount])), (q_p3, .inr (3, [.ref q_p3_kinds, .int p3_snail, .int p3_night, .int p3_begunOn])), (q_th_fromSnail, .inl (cI, 25, .inl o.2)), (q_p2_beside, .inl (cI, 100, .inl p2_beside)), (q_p3_kinds, .inl (cI, 25, .inl p3_kinds))] := by
  refine nx_int (cc := cX5_stepsTo) (maxL := 4) (by decide) rfl (Nat.le_of_ble_eq_true rfl) ?_
  intro p e s m args below meth c Q A S0 hK hN hA ret0 hP hD hS ls hl
  have S0 : CallFix p m c cX5_stepsTo 4 s args wsX5_stepsTo RX5 := S0
  have hx := S0.1
  have hb := S0.2.1
  have hown := S0.2.2.2.1
  have hts := S0.2.2.2.2
  have hf_44 := hN.f (args := args) (a := "SnailsYear$Walker") (i := 44) (b := "SnailsYear$Scene") (n := "snail") (d := "I") (k := "SnailsYear") (by decide +kernel)
  have hin_X3 : ∀ w ∈ wsX30, w ∈ wsX5_stepsTo := by decide +kernel
  have hf_9 := hts (.fieldLink RX5 9 "SnailsYear$Walker" "fromSnail" "[I") (by decide +kernel)
  have hin_X5 : ∀ w ∈ wsX50, w ∈ wsX5_stepsTo := by decide +kernel
  have hl : lv_has ls 4 [(0, .ref q_th), (1, .int p1), (2, .ref q_p2), (3, .ref q_p3)] := hl
  have hret : ∀ (r0 : Int32) (y0 : Nat → Int32) (H : Heap) (locs : List Loc) (ls : Array Slot) (pc : Nat), some (r0, y0) = some o → decode cX5_stepsTo pc = .ok (.ireturn, 1) → va_P (dC, dI) vwCl [(q_th, .inr (5, [.ref q_th_fromSnail, x_th_fromGoal])), (q_p2, .inr (6, [x_p2_kinds, x_p2_column, .ref q_p2_beside, x_p2_damps, x_p2_rentNights, x_p2_rents, x_p2_heirs, .int p2_columns, .int p2_cells, .int p2_start, .int p2_dampCount, .int p2_rentCount, .int p2_heirCount])), (q_p3, .inr (3, [.ref q_p3_kinds, .int p3_snail, .int p3_night, .int p3_begunOn])), (q_th_fromSnail, .inl (cI, 25, .inl y0)), (q_p2_beside, .inl (cI, 100, .inl p2_beside)), (q_p3_kinds, .inl (cI, 25, .inl p3_kinds))] H → va_D A [(q_th, .inr (5, [.ref q_th_fromSnail, x_th_fromGoal])), (q_p2, .inr (6, [x_p2_kinds, x_p2_column, .ref q_p2_beside, x_p2_damps, x_p2_rentNights, x_p2_rents, x_p2_heirs, .int p2_columns, .int p2_cells, .int p2_start, .int p2_dampCount, .int p2_rentCount, .int p2_heirCount])), (q_p3, .inr (3, [.ref q_p3_kinds, .int p3_snail, .int p3_night, .int p3_begunOn])), (q_th_fromSnail, .inl (cI, 25, .inl y0)), (q_p2_beside, .inl (cI, 100, .inl p2_beside)), (q_p3_kinds, .inl (cI, 25, .inl p3_kinds))] → va_S A s.heap H locs → W p l e ({ frames := 2, cells := 0, slots := 0, locals := 52 } : Room) s m args below meth c H locs 0 0 Q (F0 m pc ls [.int r0]) := by
    intro r0 y0 H locs ls pc ho hd hP hD hS
    cases ho
    exact ret0 H locs ls pc hd hP hD hS
  rw [fX5_stepsTo_e] at hF
  refine lv_aload_n hx hb dX5_stepsTo_0 rfl (lv_at hl 3 rfl) ?_
  refine nx_getN S0 hK hP 2 1 hin_X3 hf_44 rfl rfl (by decide) rfl rfl dX5_stepsTo_1 ?_
  refine lv_aload_n hx hb dX5_stepsTo_4 rfl (lv_at hl 2 rfl) ?_
  refine lv_aload_n hx hb dX5_stepsTo_5 rfl (lv_at hl 3 rfl) ?_
  refine lv_aload_n hx hb dX5_stepsTo_6 rfl (lv_at hl 0 rfl) ?_
  refine nx_get S0 hK hP 0 0 hin_X5 hf_9 rfl rfl (by decide) rfl rfl dX5_stepsTo_7 ?_
  obtain ⟨o10, hF1, hF⟩ := ng_b hF
  refine nx_callSv (As := [.int p3_snail, .ref q_p2, .ref q_p3, .ref q_th_fromSnail]) (rest := []) (W1 := [(q_th, .inr (5, [.ref q_th_fromSnail, x_th_fromGoal])), (q_p2, .inr (6, [x_p2_kinds, x_p2_column, .ref q_p2_beside, x_p2_damps, x_p2_rentNights, x_p2_rents, x_p2_heirs, .int p2_columns, .int p2_cells, .int p2_start, .int p2_dampCount, .int p2_rentCount, .int p2_heirCount])), (q_p3, .inr (3, [.ref q_p3_kinds, .int p3_snail, .int p3_night, .int p3_begunOn])), (q_th_fromSnail, .inl (cI, 25, .inl o10)), (q_p2_beside, .inl (cI, 100, .inl p2_beside)), (q_p3_kinds, .inl (cI, 25, .inl p3_kinds))]) (wr := [(q_th, .inr (5, [.ref q_th_fromSnail, x_th_fromGoal]))]) S0 hK hN hA hP hD hS (kX5_spread l dC dI cI q_p2 q_p3 q_th_fromSnail q_p2_beside q_p3_kinds 25 _ (x_p2_kinds) (x_p2_column) (x_p2_damps) (x_p2_rentNights) (x_p2_rents) (x_p2_heirs) p2_columns p2_cells p2_start p2_dampCount p2_rentCount p2_heirCount p3_snail p3_night p3_begunOn th_fromSnail p2_beside p3_kinds p3_snail N o10 hF1) (va_cwS 4 hts gX5_stepsTo_X5_spread rfl rfl rfl hdX5_spread ⟨Nat.le_of_ble_eq_true rfl, Nat.le_of_ble_eq_true rfl⟩) [1, 2, 3, 4, 5] [0] [0, 1, 2, 3, 4, 5] rfl rfl rfl rfl rfl hl.1 rfl (Nat.le_of_ble_eq_true rfl) dX5_stepsTo_10 (fun H locs hP hD hS => ?_)
  refine lv_iload_n hx hb dX5_stepsTo_13 rfl (lv_at hl 1 rfl) ?_
  refine lv_if_lt (tgt := 35) hx hb dX5_stepsTo_14 (by decide) (fun hc => ?_) (fun hc => ?_)
  · have hF := ng_t hc hF
    refine lv_sipush (v := (nI 1000)) hx hb dX5_stepsTo_35 (by decide) ?_
    exact hret (nI 1000) o10 _ _ _ _ hF dX5_stepsTo_38 hP hD hS
  · have hF := ng_f hc hF
    refine lv_iload_n hx hb dX5_stepsTo_17 rfl (lv_at hl 1 rfl) ?_
    refine lv_aload_n hx hb dX5_stepsTo_18 rfl (lv_at hl 0 rfl) ?_
    refine nx_get S0 hK hP 0 0 hin_X5 hf_9 rfl rfl (by decide) rfl rfl dX5_stepsTo_19 ?_
    refine nx_alen S0 hK hP 3 (v := (nI 25)) rfl (by decide) dX5_stepsTo_22 ?_
    refine lv_icmp_ge (tgt := 35) hx hb dX5_stepsTo_23 (by decide) (fun hc => ?_) (fun hc => ?_)
    · have hF := ng_t hc hF
      refine lv_sipush (v := (nI 1000)) hx hb dX5_stepsTo_35 (by decide) ?_
      exact hret (nI 1000) o10 _ _ _ _ hF dX5_stepsTo_38 hP hD hS
    · have hF := ng_f hc hF
      refine lv_aload_n hx hb dX5_stepsTo_26 rfl (lv_at hl 0 rfl) ?_
      refine nx_get S0 hK hP 0 0 hin_X5 hf_9 rfl rfl (by decide) rfl rfl dX5_stepsTo_27 ?_
      refine lv_iload_n hx hb dX5_stepsTo_30 rfl (lv_at hl 1 rfl) ?_
      have hg := ng_p hF
      have hF := ng_x hF
      refine nx_iald S0 hK hP 3 (v := o10 p1.toNatClampNeg) rfl hg rfl dX5_stepsTo_31 ?_
      refine lv_goto (tgt := 38) hx hb dX5_stepsTo_32 (by decide) ?_
      exact hret (o10 p1.toNatClampNeg) o10 _ _ _ _ hF dX5_stepsTo_38 hP hD hS
