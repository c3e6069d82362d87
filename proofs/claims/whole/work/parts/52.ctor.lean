theorem hdX0_init : yX0_init.cls ≠ "java/lang/invoke/MethodHandle" ∧ yX0_init.cls ≠ "java/lang/invoke/VarHandle" ∧ (parseMethodDescriptor yX0_init.desc).map (fun d => d.parameters.length) = some 0 := by decide +kernel
set_option maxHeartbeats 40000000 in
set_option maxRecDepth 100000 in
theorem kX0_init (l : Launch) (dC : Nat → ClassId) (dI : Nat → Nat → Nat) (cI : ClassId) (q_th sz : Nat) : nx_C l yX0_init wsX0_init ({ frames := 1, cells := 1, slots := 200, locals := 12 } : Room) (dC, dI) cI [.ref q_th] [(q_th, .inr (0, [.null, .int 0]))] sz 1 200 (fun q_n8 : Nat => [(q_th, .inr (0, [.ref q_n8, .int (nI 0)])), (q_n8, .inl (cI, 200, .inl (fun _ => 0)))]) := by
  refine nx_ctor (cc := cX0_init) (maxL := 1) (by decide) rfl rfl (Nat.le_of_ble_eq_true rfl) ?_
  intro p e s m args below meth c Q A S0 hinit hK hN hA ret0 hP hD hS ls hl
  have S0 : CallFix p m c cX0_init 1 s args wsX0_init RX0 := S0
  have hx := S0.1
  have hb := S0.2.1
  have hown := S0.2.2.2.1
  have hts := S0.2.2.2.2
  have harr := hts (.arrayClass .int) (by decide +kernel)
  have hf_9 := hts (.fieldLink RX0 9 "SnailsYear$Letters" "letters" "[I") (by decide +kernel)
  have hin_X0 : ∀ w ∈ wsX00, w ∈ wsX0_init := by decide +kernel
  have hf_15 := hts (.fieldLink RX0 15 "SnailsYear$Letters" "length" "I") (by decide +kernel)
  have hl : lv_has ls 1 [(0, .ref q_th)] := hl
  refine lv_aload_n hx hb dX0_init_0 rfl (lv_at hl 0 rfl) ?_
  refine W.objInit hx hb hown (hts (.methodLink RX0 3 objectInit) (by decide +kernel)) (hts (.instanceMethod objectInit) (by decide +kernel)) (hts (.code objectInit ⟨#[0xb1]⟩ 1 none) (by decide +kernel)) rfl (by rw [S0.2.2.1]; exact hl.1) rfl dX0_init_1 (Nat.le_of_ble_eq_true rfl) (Nat.le_of_ble_eq_true rfl) ?_
  refine W.eq (g2 := F0 m 4 ls []) rfl ?_
  refine lv_aload_n hx hb dX0_init_4 rfl (lv_at hl 0 rfl) ?_
  refine lv_sipush (v := (nI 200)) hx hb dX0_init_5 (by decide) ?_
  refine nx_newa (N' := 200) S0 hK hP hD hS hA harr (by decide) (by decide) (Nat.le_of_ble_eq_true rfl) (Nat.le_of_ble_eq_true rfl) (Nat.le_of_ble_eq_true rfl) dX0_init_8 (fun q_n8 H hP hD hS => ?_)
  have hP : va_P (dC, dI) vwCl [(q_th, .inr (0, [.null, .int 0])), (q_n8, .inl (cI, 200, .inl (fun _ => 0)))] H := hP
  have hD : va_D A [(q_th, .inr (0, [.null, .int 0])), (q_n8, .inl (cI, 200, .inl (fun _ => 0)))] := hD
  refine W.widen (k := 1) (n := 200) (Nat.le_of_ble_eq_true rfl) (Nat.le_of_ble_eq_true rfl) ?_
  refine nx_putF S0 hK hP hD hS hinit 0 0 hin_X0 tyX0 tyX0_ok nmX0 hf_9 rfl rfl (by decide) rfl rfl rfl rfl rfl (Nat.le_of_ble_eq_true rfl) dX0_init_10 (W1 := [(q_th, .inr (0, [.ref q_n8, .int 0])), (q_n8, .inl (cI, 200, .inl (fun _ => 0)))]) rfl (fun H locs hP hD hS => ?_)
  refine lv_aload_n hx hb dX0_init_13 rfl (lv_at hl 0 rfl) ?_
  refine lv_iconst (v := (nI 0)) hx hb dX0_init_14 (by decide) ?_
  refine nx_put S0 hK hP hD hS 0 1 hin_X0 tyX0 tyX0_ok nmX0 hf_15 rfl rfl (by decide) rfl rfl rfl rfl (Nat.le_of_ble_eq_true rfl) dX0_init_15 (W1 := [(q_th, .inr (0, [.ref q_n8, .int (nI 0)])), (q_n8, .inl (cI, 200, .inl (fun _ => 0)))]) rfl (fun H locs hP hD hS => ?_)
  exact ret0 q_n8 _ _ _ _ dX0_init_18 hP hD hS
theorem hdX1_init : yX1_init.cls ≠ "java/lang/invoke/MethodHandle" ∧ yX1_init.cls ≠ "java/lang/invoke/VarHandle" ∧ (parseMethodDescriptor yX1_init.desc).map (fun d => d.parameters.length) = some 1 := by decide +kernel
set_option maxHeartbeats 40000000 in
set_option maxRecDepth 100000 in
theorem kX1_init (l : Launch) (dC : Nat → ClassId) (dI : Nat → Nat → Nat) (cI : ClassId) (q_th sz : Nat) (p1 : Int32) (nrow : Nat) (hmax : (if nI 1 < p1 then p1 else nI 1) = p1) (hneg : ¬ p1 * nI 28 < 0) (hlen : (p1 * nI 28).toNatClampNeg = nrow) (hsml : nrow ≤ 100000) : nx_C l yX1_init wsX1_init ({ frames := 1, cells := 1, slots := nrow, locals := 21 } : Room) (dC, dI) cI [.ref q_th, .int p1] [(q_th, .inr (1, [.null, .int 0, .int 0]))] sz 1 nrow (fun q_n26 : Nat => [(q_th, .inr (1, [.ref q_n26, .int p1, .int (nI 0)])), (q_n26, .inl (cI, nrow, .inl (fun _ => 0)))]) := by
  refine nx_ctor (cc := cX1_init) (maxL := 2) (by decide) rfl rfl (Nat.le_of_ble_eq_true rfl) ?_
  intro p e s m args below meth c Q A S0 hinit hK hN hA ret0 hP hD hS ls hl
  have S0 : CallFix p m c cX1_init 2 s args wsX1_init RX1 := S0
  have hx := S0.1
  have hb := S0.2.1
  have hown := S0.2.2.2.1
  have hts := S0.2.2.2.2
  have hf_7 := hts (.fieldLink RX1 7 "SnailsYear$Pile" "size" "I") (by decide +kernel)
  have hin_X1 : ∀ w ∈ wsX10, w ∈ wsX1_init := by decide +kernel
  have hcl_13 := hts (.methodLink RX1 13 Lib.Math.max.name) (by decide +kernel)
  have hcs_13 := hts (.static Lib.Math.max.name) (by decide +kernel)
  have hci_13 := hts (.initialized "java/lang/Math") (by decide +kernel)
  have hcc_13 := hts (.code Lib.Math.max.name Lib.Math.max.code 2 (some .int)) (by decide +kernel)
  have hf_19 := hts (.fieldLink RX1 19 "SnailsYear$Pile" "most" "I") (by decide +kernel)
  have harr := hts (.arrayClass .int) (by decide +kernel)
  have hf_24 := hts (.fieldLink RX1 24 "SnailsYear$Pile" "row" "[I") (by decide +kernel)
  have hl : lv_has ls 2 [(0, .ref q_th), (1, .int p1)] := hl
  refine lv_aload_n hx hb dX1_init_0 rfl (lv_at hl 0 rfl) ?_
  refine W.objInit hx hb hown (hts (.methodLink RX1 1 objectInit) (by decide +kernel)) (hts (.instanceMethod objectInit) (by decide +kernel)) (hts (.code objectInit ⟨#[0xb1]⟩ 1 none) (by decide +kernel)) rfl (by rw [S0.2.2.1]; exact hl.1) rfl dX1_init_1 (Nat.le_of_ble_eq_true rfl) (Nat.le_of_ble_eq_true rfl) ?_
  refine W.eq (g2 := F0 m 4 ls []) rfl ?_
  refine lv_aload_n hx hb dX1_init_4 rfl (lv_at hl 0 rfl) ?_
  refine lv_iconst (v := (nI 0)) hx hb dX1_init_5 (by decide) ?_
  refine nx_put S0 hK hP hD hS 0 2 hin_X1 tyX1 tyX1_ok nmX1 hf_7 rfl rfl (by decide) rfl rfl rfl rfl (Nat.le_of_ble_eq_true rfl) dX1_init_6 (W1 := [(q_th, .inr (1, [.null, .int 0, .int (nI 0)]))]) rfl (fun H locs hP hD hS => ?_)
  refine lv_aload_n hx hb dX1_init_9 rfl (lv_at hl 0 rfl) ?_
  refine lv_iconst (v := (nI 1)) hx hb dX1_init_10 (by decide) ?_
  refine lv_iload_n hx hb dX1_init_11 rfl (lv_at hl 1 rfl) ?_
  refine va_mmax hx hb (S0.2.2.1.trans hl.1.symm) hown hcl_13 hcs_13 hci_13 hcc_13 (Nat.le_of_ble_eq_true rfl) (Nat.le_of_ble_eq_true rfl) (Nat.zero_le _) (Nat.zero_le _) dX1_init_12 ?_
  rw [hmax]
  refine nx_putF S0 hK hP hD hS hinit 0 1 hin_X1 tyX1 tyX1_ok nmX1 hf_19 rfl rfl (by decide) rfl rfl rfl rfl rfl (Nat.le_of_ble_eq_true rfl) dX1_init_15 (W1 := [(q_th, .inr (1, [.null, .int p1, .int (nI 0)]))]) rfl (fun H locs hP hD hS => ?_)
  refine lv_aload_n hx hb dX1_init_18 rfl (lv_at hl 0 rfl) ?_
  refine lv_aload_n hx hb dX1_init_19 rfl (lv_at hl 0 rfl) ?_
  refine nx_get S0 hK hP 0 1 hin_X1 hf_19 rfl rfl (by decide) rfl rfl dX1_init_20 ?_
  refine lv_bipush (v := (nI 28)) hx hb dX1_init_23 (by decide) ?_
  refine lv_imul hx hb dX1_init_25 ?_
  refine nx_newa (N' := nrow) S0 hK hP hD hS hA harr hneg hlen hsml (Nat.le_of_ble_eq_true rfl) (show 0 + nrow ≤ nrow by omega) dX1_init_26 (fun q_n26 H hP hD hS => ?_)
  have hP : va_P (dC, dI) vwCl [(q_th, .inr (1, [.null, .int p1, .int (nI 0)])), (q_n26, .inl (cI, nrow, .inl (fun _ => 0)))] H := hP
  have hD : va_D A [(q_th, .inr (1, [.null, .int p1, .int (nI 0)])), (q_n26, .inl (cI, nrow, .inl (fun _ => 0)))] := hD
  refine W.widen (k := 1) (n := nrow) (Nat.le_of_ble_eq_true rfl) (by omega) ?_
  refine nx_putF S0 hK hP hD hS hinit 0 0 hin_X1 tyX1 tyX1_ok nmX1 hf_24 rfl rfl (by decide) rfl rfl rfl rfl rfl (Nat.le_of_ble_eq_true rfl) dX1_init_28 (W1 := [(q_th, .inr (1, [.ref q_n26, .int p1, .int (nI 0)])), (q_n26, .inl (cI, nrow, .inl (fun _ => 0)))]) rfl (fun H locs hP hD hS => ?_)
  exact ret0 q_n26 _ _ _ _ dX1_init_31 hP hD hS
theorem hdX2_init : yX2_init.cls ≠ "java/lang/invoke/MethodHandle" ∧ yX2_init.cls ≠ "java/lang/invoke/VarHandle" ∧ (parseMethodDescriptor yX2_init.desc).map (fun d => d.parameters.length) = some 1 := by decide +kernel
set_option maxHeartbeats 40000000 in
set_option maxRecDepth 100000 in
theorem kX2_init (l : Launch) (dC : Nat → ClassId) (dI : Nat → Nat → Nat) (cI : ClassId) (q_th sz : Nat) (q_p1 : Nat) : nx_C l yX2_init wsX2_init ({ frames := 1, cells := 0, slots := 0, locals := 12 } : Room) (dC, dI) cI [.ref q_th, .ref q_p1] [(q_th, .inr (2, [.null, .int 0, .int 0, .int 0, .int 0]))] sz 0 0 (fun _ : Unit => [(q_th, .inr (2, [.ref q_p1, .int (nI 0), .int (nI 0), .int (nI 0), .int (nI 0)]))]) := by
  refine nx_ctor (cc := cX2_init) (maxL := 2) (by decide) rfl rfl (Nat.le_of_ble_eq_true rfl) ?_
  intro p e s m args below meth c Q A S0 hinit hK hN hA ret0 hP hD hS ls hl
  have S0 : CallFix p m c cX2_init 2 s args wsX2_init RX2 := S0
  have hx := S0.1
  have hb := S0.2.1
  have hown := S0.2.2.2.1
  have hts := S0.2.2.2.2
  have hf_9 := hts (.fieldLink RX2 9 "SnailsYear$Reader" "place" "I") (by decide +kernel)
  have hin_X2 : ∀ w ∈ wsX20, w ∈ wsX2_init := by decide +kernel
  have hf_15 := hts (.fieldLink RX2 15 "SnailsYear$Reader" "first" "I") (by decide +kernel)
  have hf_18 := hts (.fieldLink RX2 18 "SnailsYear$Reader" "second" "I") (by decide +kernel)
  have hf_21 := hts (.fieldLink RX2 21 "SnailsYear$Reader" "yardIsFixed" "Z") (by decide +kernel)
  have hf_25 := hts (.fieldLink RX2 25 "SnailsYear$Reader" "text" "LSnailsYear$Letters;") (by decide +kernel)
  have hl : lv_has ls 2 [(0, .ref q_th), (1, .ref q_p1)] := hl
  refine lv_aload_n hx hb dX2_init_0 rfl (lv_at hl 0 rfl) ?_
  refine W.objInit hx hb hown (hts (.methodLink RX2 3 objectInit) (by decide +kernel)) (hts (.instanceMethod objectInit) (by decide +kernel)) (hts (.code objectInit ⟨#[0xb1]⟩ 1 none) (by decide +kernel)) rfl (by rw [S0.2.2.1]; exact hl.1) rfl dX2_init_1 (Nat.le_of_ble_eq_true rfl) (Nat.le_of_ble_eq_true rfl) ?_
  refine W.eq (g2 := F0 m 4 ls []) rfl ?_
  refine lv_aload_n hx hb dX2_init_4 rfl (lv_at hl 0 rfl) ?_
  refine lv_iconst (v := (nI 0)) hx hb dX2_init_5 (by decide) ?_
  refine nx_put S0 hK hP hD hS 0 1 hin_X2 tyX2 tyX2_ok nmX2 hf_9 rfl rfl (by decide) rfl rfl rfl rfl (Nat.le_of_ble_eq_true rfl) dX2_init_6 (W1 := [(q_th, .inr (2, [.null, .int (nI 0), .int 0, .int 0, .int 0]))]) rfl (fun H locs hP hD hS => ?_)
  refine lv_aload_n hx hb dX2_init_9 rfl (lv_at hl 0 rfl) ?_
  refine lv_iconst (v := (nI 0)) hx hb dX2_init_10 (by decide) ?_
  refine nx_put S0 hK hP hD hS 0 2 hin_X2 tyX2 tyX2_ok nmX2 hf_15 rfl rfl (by decide) rfl rfl rfl rfl (Nat.le_of_ble_eq_true rfl) dX2_init_11 (W1 := [(q_th, .inr (2, [.null, .int (nI 0), .int (nI 0), .int 0, .int 0]))]) rfl (fun H locs hP hD hS => ?_)
  refine lv_aload_n hx hb dX2_init_14 rfl (lv_at hl 0 rfl) ?_
  refine lv_iconst (v := (nI 0)) hx hb dX2_init_15 (by decide) ?_
  refine nx_put S0 hK hP hD hS 0 3 hin_X2 tyX2 tyX2_ok nmX2 hf_18 rfl rfl (by decide) rfl rfl rfl rfl (Nat.le_of_ble_eq_true rfl) dX2_init_16 (W1 := [(q_th, .inr (2, [.null, .int (nI 0), .int (nI 0), .int (nI 0), .int 0]))]) rfl (fun H locs hP hD hS => ?_)
  refine lv_aload_n hx hb dX2_init_19 rfl (lv_at hl 0 rfl) ?_
  refine lv_iconst (v := (nI 0)) hx hb dX2_init_20 (by decide) ?_
  refine nx_put S0 hK hP hD hS 0 4 hin_X2 tyX2 tyX2_ok nmX2 hf_21 rfl rfl (by decide) rfl rfl (by decide) (by decide) (Nat.le_of_ble_eq_true rfl) dX2_init_21 (W1 := [(q_th, .inr (2, [.null, .int (nI 0), .int (nI 0), .int (nI 0), .int (nI 0)]))]) rfl (fun H locs hP hD hS => ?_)
  refine lv_aload_n hx hb dX2_init_24 rfl (lv_at hl 0 rfl) ?_
  refine lv_aload_n hx hb dX2_init_25 rfl (lv_at hl 1 rfl) ?_
  refine nx_putF S0 hK hP hD hS hinit 0 0 hin_X2 tyX2 tyX2_ok nmX2 hf_25 rfl rfl (by decide) rfl rfl rfl rfl rfl (Nat.le_of_ble_eq_true rfl) dX2_init_26 (W1 := [(q_th, .inr (2, [.ref q_p1, .int (nI 0), .int (nI 0), .int (nI 0), .int (nI 0)]))]) rfl (fun H locs hP hD hS => ?_)
  exact ret0 () _ _ _ _ dX2_init_29 hP hD hS
theorem hdX3_init : yX3_init.cls ≠ "java/lang/invoke/MethodHandle" ∧ yX3_init.cls ≠ "java/lang/invoke/VarHandle" ∧ (parseMethodDescriptor yX3_init.desc).map (fun d => d.parameters.length) = some 0 := by decide +kernel
set_option maxHeartbeats 40000000 in
set_option maxRecDepth 100000 in
theorem kX3_init (l : Launch) (dC : Nat → ClassId) (dI : Nat → Nat → Nat) (cI : ClassId) (q_th sz : Nat) : nx_C l yX3_init wsX3_init ({ frames := 1, cells := 1, slots := 25, locals := 12 } : Room) (dC, dI) cI [.ref q_th] [(q_th, .inr (3, [.null, .int 0, .int 0, .int 0]))] sz 1 25 (fun q_n7 : Nat => [(q_th, .inr (3, [.ref q_n7, .int (nI 0), .int (nI 0), .int (-4 : Int32)])), (q_n7, .inl (cI, 25, .inl (fun _ => 0)))]) := by
  refine nx_ctor (cc := cX3_init) (maxL := 1) (by decide) rfl rfl (Nat.le_of_ble_eq_true rfl) ?_
  intro p e s m args below meth c Q A S0 hinit hK hN hA ret0 hP hD hS ls hl
  have S0 : CallFix p m c cX3_init 1 s args wsX3_init RX3 := S0
  have hx := S0.1
  have hb := S0.2.1
  have hown := S0.2.2.2.1
  have hts := S0.2.2.2.2
  have harr := hts (.arrayClass .int) (by decide +kernel)
  have hf_9 := hts (.fieldLink RX3 9 "SnailsYear$Scene" "kinds" "[I") (by decide +kernel)
  have hin_X3 : ∀ w ∈ wsX30, w ∈ wsX3_init := by decide +kernel
  have hf_15 := hts (.fieldLink RX3 15 "SnailsYear$Scene" "snail" "I") (by decide +kernel)
  have hf_19 := hts (.fieldLink RX3 19 "SnailsYear$Scene" "night" "I") (by decide +kernel)
  have hf_22 := hts (.fieldLink RX3 22 "SnailsYear$Scene" "begunOn" "I") (by decide +kernel)
  have hl : lv_has ls 1 [(0, .ref q_th)] := hl
  refine lv_aload_n hx hb dX3_init_0 rfl (lv_at hl 0 rfl) ?_
  refine W.objInit hx hb hown (hts (.methodLink RX3 3 objectInit) (by decide +kernel)) (hts (.instanceMethod objectInit) (by decide +kernel)) (hts (.code objectInit ⟨#[0xb1]⟩ 1 none) (by decide +kernel)) rfl (by rw [S0.2.2.1]; exact hl.1) rfl dX3_init_1 (Nat.le_of_ble_eq_true rfl) (Nat.le_of_ble_eq_true rfl) ?_
  refine W.eq (g2 := F0 m 4 ls []) rfl ?_
  refine lv_aload_n hx hb dX3_init_4 rfl (lv_at hl 0 rfl) ?_
  refine lv_bipush (v := (nI 25)) hx hb dX3_init_5 (by decide) ?_
  refine nx_newa (N' := 25) S0 hK hP hD hS hA harr (by decide) (by decide) (Nat.le_of_ble_eq_true rfl) (Nat.le_of_ble_eq_true rfl) (Nat.le_of_ble_eq_true rfl) dX3_init_7 (fun q_n7 H hP hD hS => ?_)
  have hP : va_P (dC, dI) vwCl [(q_th, .inr (3, [.null, .int 0, .int 0, .int 0])), (q_n7, .inl (cI, 25, .inl (fun _ => 0)))] H := hP
  have hD : va_D A [(q_th, .inr (3, [.null, .int 0, .int 0, .int 0])), (q_n7, .inl (cI, 25, .inl (fun _ => 0)))] := hD
  refine W.widen (k := 1) (n := 25) (Nat.le_of_ble_eq_true rfl) (Nat.le_of_ble_eq_true rfl) ?_
  refine nx_putF S0 hK hP hD hS hinit 0 0 hin_X3 tyX3 tyX3_ok nmX3 hf_9 rfl rfl (by decide) rfl rfl rfl rfl rfl (Nat.le_of_ble_eq_true rfl) dX3_init_9 (W1 := [(q_th, .inr (3, [.ref q_n7, .int 0, .int 0, .int 0])), (q_n7, .inl (cI, 25, .inl (fun _ => 0)))]) rfl (fun H locs hP hD hS => ?_)
  refine lv_aload_n hx hb dX3_init_12 rfl (lv_at hl 0 rfl) ?_
  refine lv_iconst (v := (nI 0)) hx hb dX3_init_13 (by decide) ?_
  refine nx_put S0 hK hP hD hS 0 1 hin_X3 tyX3 tyX3_ok nmX3 hf_15 rfl rfl (by decide) rfl rfl rfl rfl (Nat.le_of_ble_eq_true rfl) dX3_init_14 (W1 := [(q_th, .inr (3, [.ref q_n7, .int (nI 0), .int 0, .int 0])), (q_n7, .inl (cI, 25, .inl (fun _ => 0)))]) rfl (fun H locs hP hD hS => ?_)
  refine lv_aload_n hx hb dX3_init_17 rfl (lv_at hl 0 rfl) ?_
  refine lv_iconst (v := (nI 0)) hx hb dX3_init_18 (by decide) ?_
  refine nx_put S0 hK hP hD hS 0 2 hin_X3 tyX3 tyX3_ok nmX3 hf_19 rfl rfl (by decide) rfl rfl rfl rfl (Nat.le_of_ble_eq_true rfl) dX3_init_19 (W1 := [(q_th, .inr (3, [.ref q_n7, .int (nI 0), .int (nI 0), .int 0])), (q_n7, .inl (cI, 25, .inl (fun _ => 0)))]) rfl (fun H locs hP hD hS => ?_)
  refine lv_aload_n hx hb dX3_init_22 rfl (lv_at hl 0 rfl) ?_
  refine lv_bipush (v := (-4 : Int32)) hx hb dX3_init_23 (by decide) ?_
  refine nx_put S0 hK hP hD hS 0 3 hin_X3 tyX3 tyX3_ok nmX3 hf_22 rfl rfl (by decide) rfl rfl rfl rfl (Nat.le_of_ble_eq_true rfl) dX3_init_25 (W1 := [(q_th, .inr (3, [.ref q_n7, .int (nI 0), .int (nI 0), .int (-4 : Int32)])), (q_n7, .inl (cI, 25, .inl (fun _ => 0)))]) rfl (fun H locs hP hD hS => ?_)
  exact ret0 q_n7 _ _ _ _ dX3_init_28 hP hD hS
theorem hdX4_init : yX4_init.cls ≠ "java/lang/invoke/MethodHandle" ∧ yX4_init.cls ≠ "java/lang/invoke/VarHandle" ∧ (parseMethodDescriptor yX4_init.desc).map (fun d => d.parameters.length) = some 0 := by decide +kernel
set_option maxHeartbeats 40000000 in
set_option maxRecDepth 100000 in
theorem kX4_init (l : Launch) (dC : Nat → ClassId) (dI : Nat → Nat → Nat) (cI : ClassId) (q_th sz : Nat) : nx_C l yX4_init wsX4_init ({ frames := 1, cells := 2, slots := 16, locals := 12 } : Room) (dC, dI) cI [.ref q_th] [(q_th, .inr (4, [.null, .null, .int 0]))] sz 2 16 (fun u : Nat × Nat => match u with | (q_n7, q_n15) => [(q_th, .inr (4, [.ref q_n7, .ref q_n15, .int (nI 0)])), (q_n7, .inl (cI, 8, .inl (fun _ => 0))), (q_n15, .inl (cI, 8, .inl (fun _ => 0)))]) := by
  refine nx_ctor (cc := cX4_init) (maxL := 1) (by decide) rfl rfl (Nat.le_of_ble_eq_true rfl) ?_
  intro p e s m args below meth c Q A S0 hinit hK hN hA ret0 hP hD hS ls hl
  have S0 : CallFix p m c cX4_init 1 s args wsX4_init RX4 := S0
  have hx := S0.1
  have hb := S0.2.1
  have hown := S0.2.2.2.1
  have hts := S0.2.2.2.2
  have harr := hts (.arrayClass .int) (by decide +kernel)
  have hf_9 := hts (.fieldLink RX4 9 "SnailsYear$Sightings" "places" "[I") (by decide +kernel)
  have hin_X4 : ∀ w ∈ wsX40, w ∈ wsX4_init := by decide +kernel
  have hf_15 := hts (.fieldLink RX4 15 "SnailsYear$Sightings" "nights" "[I") (by decide +kernel)
  have hf_18 := hts (.fieldLink RX4 18 "SnailsYear$Sightings" "size" "I") (by decide +kernel)
  have hl : lv_has ls 1 [(0, .ref q_th)] := hl
  refine lv_aload_n hx hb dX4_init_0 rfl (lv_at hl 0 rfl) ?_
  refine W.objInit hx hb hown (hts (.methodLink RX4 3 objectInit) (by decide +kernel)) (hts (.instanceMethod objectInit) (by decide +kernel)) (hts (.code objectInit ⟨#[0xb1]⟩ 1 none) (by decide +kernel)) rfl (by rw [S0.2.2.1]; exact hl.1) rfl dX4_init_1 (Nat.le_of_ble_eq_true rfl) (Nat.le_of_ble_eq_true rfl) ?_
  refine W.eq (g2 := F0 m 4 ls []) rfl ?_
  refine lv_aload_n hx hb dX4_init_4 rfl (lv_at hl 0 rfl) ?_
  refine lv_bipush (v := (nI 8)) hx hb dX4_init_5 (by decide) ?_
  refine nx_newa (N' := 8) S0 hK hP hD hS hA harr (by decide) (by decide) (Nat.le_of_ble_eq_true rfl) (Nat.le_of_ble_eq_true rfl) (Nat.le_of_ble_eq_true rfl) dX4_init_7 (fun q_n7 H hP hD hS => ?_)
  have hP : va_P (dC, dI) vwCl [(q_th, .inr (4, [.null, .null, .int 0])), (q_n7, .inl (cI, 8, .inl (fun _ => 0)))] H := hP
  have hD : va_D A [(q_th, .inr (4, [.null, .null, .int 0])), (q_n7, .inl (cI, 8, .inl (fun _ => 0)))] := hD
  refine W.widen (k := 1) (n := 8) (Nat.le_of_ble_eq_true rfl) (Nat.le_of_ble_eq_true rfl) ?_
  refine nx_putF S0 hK hP hD hS hinit 0 0 hin_X4 tyX4 tyX4_ok nmX4 hf_9 rfl rfl (by decide) rfl rfl rfl rfl rfl (Nat.le_of_ble_eq_true rfl) dX4_init_9 (W1 := [(q_th, .inr (4, [.ref q_n7, .null, .int 0])), (q_n7, .inl (cI, 8, .inl (fun _ => 0)))]) rfl (fun H locs hP hD hS => ?_)
  refine lv_aload_n hx hb dX4_init_12 rfl (lv_at hl 0 rfl) ?_
  refine lv_bipush (v := (nI 8)) hx hb dX4_init_13 (by decide) ?_
  refine nx_newa (N' := 8) S0 hK hP hD hS hA harr (by decide) (by decide) (Nat.le_of_ble_eq_true rfl) (Nat.le_of_ble_eq_true rfl) (Nat.le_of_ble_eq_true rfl) dX4_init_15 (fun q_n15 H hP hD hS => ?_)
  have hP : va_P (dC, dI) vwCl [(q_th, .inr (4, [.ref q_n7, .null, .int 0])), (q_n7, .inl (cI, 8, .inl (fun _ => 0))), (q_n15, .inl (cI, 8, .inl (fun _ => 0)))] H := hP
  have hD : va_D A [(q_th, .inr (4, [.ref q_n7, .null, .int 0])), (q_n7, .inl (cI, 8, .inl (fun _ => 0))), (q_n15, .inl (cI, 8, .inl (fun _ => 0)))] := hD
  refine W.widen (k := 2) (n := 16) (Nat.le_of_ble_eq_true rfl) (Nat.le_of_ble_eq_true rfl) ?_
  refine nx_putF S0 hK hP hD hS hinit 0 1 hin_X4 tyX4 tyX4_ok nmX4 hf_15 rfl rfl (by decide) rfl rfl rfl rfl rfl (Nat.le_of_ble_eq_true rfl) dX4_init_17 (W1 := [(q_th, .inr (4, [.ref q_n7, .ref q_n15, .int 0])), (q_n7, .inl (cI, 8, .inl (fun _ => 0))), (q_n15, .inl (cI, 8, .inl (fun _ => 0)))]) rfl (fun H locs hP hD hS => ?_)
  refine lv_aload_n hx hb dX4_init_20 rfl (lv_at hl 0 rfl) ?_
  refine lv_iconst (v := (nI 0)) hx hb dX4_init_21 (by decide) ?_
  refine nx_put S0 hK hP hD hS 0 2 hin_X4 tyX4 tyX4_ok nmX4 hf_18 rfl rfl (by decide) rfl rfl rfl rfl (Nat.le_of_ble_eq_true rfl) dX4_init_22 (W1 := [(q_th, .inr (4, [.ref q_n7, .ref q_n15, .int (nI 0)])), (q_n7, .inl (cI, 8, .inl (fun _ => 0))), (q_n15, .inl (cI, 8, .inl (fun _ => 0)))]) rfl (fun H locs hP hD hS => ?_)
  exact ret0 (q_n7, q_n15) _ _ _ _ dX4_init_25 hP hD hS
theorem hdX5_init : yX5_init.cls ≠ "java/lang/invoke/MethodHandle" ∧ yX5_init.cls ≠ "java/lang/invoke/VarHandle" ∧ (parseMethodDescriptor yX5_init.desc).map (fun d => d.parameters.length) = some 0 := by decide +kernel
set_option maxHeartbeats 40000000 in
set_option maxRecDepth 100000 in
theorem kX5_init (l : Launch) (dC : Nat → ClassId) (dI : Nat → Nat → Nat) (cI : ClassId) (q_th sz : Nat) : nx_C l yX5_init wsX5_init ({ frames := 1, cells := 2, slots := 50, locals := 12 } : Room) (dC, dI) cI [.ref q_th] [(q_th, .inr (5, [.null, .null]))] sz 2 50 (fun u : Nat × Nat => match u with | (q_n7, q_n15) => [(q_th, .inr (5, [.ref q_n7, .ref q_n15])), (q_n7, .inl (cI, 25, .inl (fun _ => 0))), (q_n15, .inl (cI, 25, .inl (fun _ => 0)))]) := by
  refine nx_ctor (cc := cX5_init) (maxL := 1) (by decide) rfl rfl (Nat.le_of_ble_eq_true rfl) ?_
  intro p e s m args below meth c Q A S0 hinit hK hN hA ret0 hP hD hS ls hl
  have S0 : CallFix p m c cX5_init 1 s args wsX5_init RX5 := S0
  have hx := S0.1
  have hb := S0.2.1
  have hown := S0.2.2.2.1
  have hts := S0.2.2.2.2
  have harr := hts (.arrayClass .int) (by decide +kernel)
  have hf_9 := hts (.fieldLink RX5 9 "SnailsYear$Walker" "fromSnail" "[I") (by decide +kernel)
  have hin_X5 : ∀ w ∈ wsX50, w ∈ wsX5_init := by decide +kernel
  have hf_15 := hts (.fieldLink RX5 15 "SnailsYear$Walker" "fromGoal" "[I") (by decide +kernel)
  have hl : lv_has ls 1 [(0, .ref q_th)] := hl
  refine lv_aload_n hx hb dX5_init_0 rfl (lv_at hl 0 rfl) ?_
  refine W.objInit hx hb hown (hts (.methodLink RX5 3 objectInit) (by decide +kernel)) (hts (.instanceMethod objectInit) (by decide +kernel)) (hts (.code objectInit ⟨#[0xb1]⟩ 1 none) (by decide +kernel)) rfl (by rw [S0.2.2.1]; exact hl.1) rfl dX5_init_1 (Nat.le_of_ble_eq_true rfl) (Nat.le_of_ble_eq_true rfl) ?_
  refine W.eq (g2 := F0 m 4 ls []) rfl ?_
  refine lv_aload_n hx hb dX5_init_4 rfl (lv_at hl 0 rfl) ?_
  refine lv_bipush (v := (nI 25)) hx hb dX5_init_5 (by decide) ?_
  refine nx_newa (N' := 25) S0 hK hP hD hS hA harr (by decide) (by decide) (Nat.le_of_ble_eq_true rfl) (Nat.le_of_ble_eq_true rfl) (Nat.le_of_ble_eq_true rfl) dX5_init_7 (fun q_n7 H hP hD hS => ?_)
  have hP : va_P (dC, dI) vwCl [(q_th, .inr (5, [.null, .null])), (q_n7, .inl (cI, 25, .inl (fun _ => 0)))] H := hP
  have hD : va_D A [(q_th, .inr (5, [.null, .null])), (q_n7, .inl (cI, 25, .inl (fun _ => 0)))] := hD
  refine W.widen (k := 1) (n := 25) (Nat.le_of_ble_eq_true rfl) (Nat.le_of_ble_eq_true rfl) ?_
  refine nx_putF S0 hK hP hD hS hinit 0 0 hin_X5 tyX5 tyX5_ok nmX5 hf_9 rfl rfl (by decide) rfl rfl rfl rfl rfl (Nat.le_of_ble_eq_true rfl) dX5_init_9 (W1 := [(q_th, .inr (5, [.ref q_n7, .null])), (q_n7, .inl (cI, 25, .inl (fun _ => 0)))]) rfl (fun H locs hP hD hS => ?_)
  refine lv_aload_n hx hb dX5_init_12 rfl (lv_at hl 0 rfl) ?_
  refine lv_bipush (v := (nI 25)) hx hb dX5_init_13 (by decide) ?_
  refine nx_newa (N' := 25) S0 hK hP hD hS hA harr (by decide) (by decide) (Nat.le_of_ble_eq_true rfl) (Nat.le_of_ble_eq_true rfl) (Nat.le_of_ble_eq_true rfl) dX5_init_15 (fun q_n15 H hP hD hS => ?_)
  have hP : va_P (dC, dI) vwCl [(q_th, .inr (5, [.ref q_n7, .null])), (q_n7, .inl (cI, 25, .inl (fun _ => 0))), (q_n15, .inl (cI, 25, .inl (fun _ => 0)))] H := hP
  have hD : va_D A [(q_th, .inr (5, [.ref q_n7, .null])), (q_n7, .inl (cI, 25, .inl (fun _ => 0))), (q_n15, .inl (cI, 25, .inl (fun _ => 0)))] := hD
  refine W.widen (k := 2) (n := 50) (Nat.le_of_ble_eq_true rfl) (Nat.le_of_ble_eq_true rfl) ?_
  refine nx_putF S0 hK hP hD hS hinit 0 1 hin_X5 tyX5 tyX5_ok nmX5 hf_15 rfl rfl (by decide) rfl rfl rfl rfl rfl (Nat.le_of_ble_eq_true rfl) dX5_init_17 (W1 := [(q_th, .inr (5, [.ref q_n7, .ref q_n15])), (q_n7, .inl (cI, 25, .inl (fun _ => 0))), (q_n15, .inl (cI, 25, .inl (fun _ => 0)))]) rfl (fun H locs hP hD hS => ?_)
  exact ret0 (q_n7, q_n15) _ _ _ _ dX5_init_20 hP hD hS
theorem hdX6_init : yX6_init.cls ≠ "java/lang/invoke/MethodHandle" ∧ yX6_init.cls ≠ "java/lang/invoke/VarHandle" ∧ (parseMethodDescriptor yX6_init.desc).map (fun d => d.parameters.length) = some 0 := by decide +kernel
set_option maxHeartbeats 40000000 in
set_option maxRecDepth 100000 in
theorem kX6_init (l : Launch) (dC : Nat → ClassId) (dI : Nat → Nat → Nat) (cI : ClassId) (q_th sz : Nat) : nx_C l yX6_init wsX6_init ({ frames := 1, cells := 7, slots := 173, locals := 12 } : Room) (dC, dI) cI [.ref q_th] [(q_th, .inr (6, [.null, .null, .null, .null, .null, .null, .null, .int 0, .int 0, .int 0, .int 0, .int 0, .int 0]))] sz 7 173 (fun u : Nat × Nat × Nat × Nat × Nat × Nat × Nat => match u with | (q_n7, q_n15, q_n23, q_n31, q_n38, q_n45, q_n52) => [(q_th, .inr (6, [.ref q_n7, .ref q_n15, .ref q_n23, .ref q_n31, .ref q_n38, .ref q_n45, .ref q_n52, .int (nI 0), .int (nI 0), .int (nI 0), .int (nI 0), .int (nI 0), .int (nI 0)])), (q_n7, .inl (cI, 25, .inl (fun _ => 0))), (q_n15, .inl (cI, 25, .inl (fun _ => 0))), (q_n23, .inl (cI, 100, .inl (fun _ => 0))), (q_n31, .inl (cI, 9, .inl (fun _ => 0))), (q_n38, .inl (cI, 5, .inl (fun _ => 0))), (q_n45, .inl (cI, 5, .inl (fun _ => 0))), (q_n52, .inl (cI, 4, .inl (fun _ => 0)))]) := by
  refine nx_ctor (cc := cX6_init) (maxL := 1) (by decide) rfl rfl (Nat.le_of_ble_eq_true rfl) ?_
  intro p e s m args below meth c Q A S0 hinit hK hN hA ret0 hP hD hS ls hl
  have S0 : CallFix p m c cX6_init 1 s args wsX6_init RX6 := S0
  have hx := S0.1
  have hb := S0.2.1
  have hown := S0.2.2.2.1
  have hts := S0.2.2.2.2
  have harr := hts (.arrayClass .int) (by decide +kernel)
  have hf_9 := hts (.fieldLink RX6 9 "SnailsYear$Yard" "kinds" "[I") (by decide +kernel)
  have hin_X6 : ∀ w ∈ wsX60, w ∈ wsX6_init := by decide +kernel
  have hf_15 := hts (.fieldLink RX6 15 "SnailsYear$Yard" "column" "[I") (by decide +kernel)
  have hf_18 := hts (.fieldLink RX6 18 "SnailsYear$Yard" "beside" "[I") (by decide +kernel)
  have hf_21 := hts (.fieldLink RX6 21 "SnailsYear$Yard" "damps" "[I") (by decide +kernel)
  have hf_24 := hts (.fieldLink RX6 24 "SnailsYear$Yard" "rentNights" "[I") (by decide +kernel)
  have hf_27 := hts (.fieldLink RX6 27 "SnailsYear$Yard" "rents" "[I") (by decide +kernel)
  have hf_30 := hts (.fieldLink RX6 30 "SnailsYear$Yard" "heirs" "[I") (by decide +kernel)
  have hf_33 := hts (.fieldLink RX6 33 "SnailsYear$Yard" "columns" "I") (by decide +kernel)
  have hf_37 := hts (.fieldLink RX6 37 "SnailsYear$Yard" "cells" "I") (by decide +kernel)
  have hf_40 := hts (.fieldLink RX6 40 "SnailsYear$Yard" "start" "I") (by decide +kernel)
  have hf_43 := hts (.fieldLink RX6 43 "SnailsYear$Yard" "dampCount" "I") (by decide +kernel)
  have hf_46 := hts (.fieldLink RX6 46 "SnailsYear$Yard" "rentCount" "I") (by decide +kernel)
  have hf_49 := hts (.fieldLink RX6 49 "SnailsYear$Yard" "heirCount" "I") (by decide +kernel)
  have hl : lv_has ls 1 [(0, .ref q_th)] := hl
  refine lv_aload_n hx hb dX6_init_0 rfl (lv_at hl 0 rfl) ?_
  refine W.objInit hx hb hown (hts (.methodLink RX6 3 objectInit) (by decide +kernel)) (hts (.instanceMethod objectInit) (by decide +kernel)) (hts (.code objectInit ⟨#[0xb1]⟩ 1 none) (by decide +kernel)) rfl (by rw [S0.2.2.1]; exact hl.1) rfl dX6_init_1 (Nat.le_of_ble_eq_true rfl) (Nat.le_of_ble_eq_true rfl) ?_
  refine W.eq (g2 := F0 m 4 ls []) rfl ?_
  refine lv_aload_n hx hb dX6_init_4 rfl (lv_at hl 0 rfl) ?_
  refine lv_bipush (v := (nI 25)) hx hb dX6_init_5 (by decide) ?_
  refine nx_newa (N' := 25) S0 hK hP hD hS hA harr (by decide) (by decide) (Nat.le_of_ble_eq_true rfl) (Nat.le_of_ble_eq_true rfl) (Nat.le_of_ble_eq_true rfl) dX6_init_7 (fun q_n7 H hP hD hS => ?_)
  have hP : va_P (dC, dI) vwCl [(q_th, .inr (6, [.null, .null, .null, .null, .null, .null, .null, .int 0, .int 0, .int 0, .int 0, .int 0, .int 0])), (q_n7, .inl (cI, 25, .inl (fun _ => 0)))] H := hP
  have hD : va_D A [(q_th, .inr (6, [.null, .null, .null, .null, .null, .null, .null, .int 0, .int 0, .int 0, .int 0, .int 0, .int 0])), (q_n7, .inl (cI, 25, .inl (fun _ => 0)))] := hD
  refine W.widen (k := 1) (n := 25) (Nat.le_of_ble_eq_true rfl) (Nat.le_of_ble_eq_true rfl) ?_
  refine nx_putF S0 hK hP hD hS hinit 0 0 hin_X6 tyX6 tyX6_ok nmX6 hf_9 rfl rfl (by decide) rfl rfl rfl rfl rfl (Nat.le_of_ble_eq_true rfl) dX6_init_9 (W1 := [(q_th, .inr (6, [.ref q_n7, .null, .null, .null, .null, .null, .null, .int 0, .int 0, .int 0, .int 0, .int 0, .int 0])), (q_n7, .inl (cI, 25, .inl (fun _ => 0)))]) rfl (fun H locs hP hD hS => ?_)
  refine lv_aload_n hx hb dX6_init_12 rfl (lv_at hl 0 rfl) ?_
  refine lv_bipush (v := (nI 25)) hx hb dX6_init_13 (by decide) ?_
  refine nx_newa (N' := 25) S0 hK hP hD hS hA harr (by decide) (by decide) (Nat.le_of_ble_eq_true rfl) (Nat.le_of_ble_eq_true rfl) (Nat.le_of_ble_eq_true rfl) dX6_init_15 (fun q_n15 H hP hD hS => ?_)
  have hP : va_P (dC, dI) vwCl [(q_th, .inr (6, [.ref q_n7, .null, .null, .null, .null, .null, .null, .int 0, .int 0, .int 0, .int 0, .int 0, .int 0])), (q_n7, .inl (cI, 25, .inl (fun _ => 0))), (q_n15, .inl (cI, 25, .inl (fun _ => 0)))] H := hP
  have hD : va_D A [(q_th, .inr (6, [.ref q_n7, .null, .null, .null, .null, .null, .null, .int 0, .int 0, .int 0, .int 0, .int 0, .int 0])), (q_n7, .inl (cI, 25, .inl (fun _ => 0))), (q_n15, .inl (cI, 25, .inl (fun _ => 0)))] := hD
  refine W.widen (k := 2) (n := 50) (Nat.le_of_ble_eq_true rfl) (Nat.le_of_ble_eq_true rfl) ?_
  refine nx_putF S0 hK hP hD hS hinit 0 1 hin_X6 tyX6 tyX6_ok nmX6 hf_15 rfl rfl (by decide) rfl rfl rfl rfl rfl (Nat.le_of_ble_eq_true rfl) dX6_init_17 (W1 := [(q_th, .inr (6, [.ref q_n7, .ref q_n15, .null, .null, .null, .null, .null, .int 0, .int 0, .int 0, .int 0, .int 0, .int 0])), (q_n7, .inl (cI, 25, .inl (fun _ => 0))), (q_n15, .inl (cI, 25, .inl (fun _ => 0)))]) rfl (fun H locs hP hD hS => ?_)
  refine lv_aload_n hx hb dX6_init_20 rfl (lv_at hl 0 rfl) ?_
  refine lv_bipush (v := (nI 100)) hx hb dX6_init_21 (by decide) ?_
  refine nx_newa (N' := 100) S0 hK hP hD hS hA harr (by decide) (by decide) (Nat.le_of_ble_eq_true rfl) (Nat.le_of_ble_eq_true rfl) (Nat.le_of_ble_eq_true rfl) dX6_init_23 (fun q_n23 H hP hD hS => ?_)
  have hP : va_P (dC, dI) vwCl [(q_th, .inr (6, [.ref q_n7, .ref q_n15, .null, .null, .null, .null, .null, .int 0, .int 0, .int 0, .int 0, .int 0, .int 0])), (q_n7, .inl (cI, 25, .inl (fun _ => 0))), (q_n15, .inl (cI, 25, .inl (fun _ => 0))), (q_n23, .inl (cI, 100, .inl (fun _ => 0)))] H := hP
  have hD : va_D A [(q_th, .inr (6, [.ref q_n7, .ref q_n15, .null, .null, .null, .null, .null, .int 0, .int 0, .int 0, .int 0, .int 0, .int 0])), (q_n7, .inl (cI, 25, .inl (fun _ => 0))), (q_n15, .inl (cI, 25, .inl (fun _ => 0))), (q_n23, .inl (cI, 100, .inl (fun _ => 0)))] := hD
  refine W.widen (k := 3) (n := 150) (Nat.le_of_ble_eq_true rfl) (Nat.le_of_ble_eq_true rfl) ?_
  refine nx_putF S0 hK hP hD hS hinit 0 2 hin_X6 tyX6 tyX6_ok nmX6 hf_18 rfl rfl (by decide) rfl rfl rfl rfl rfl (Nat.le_of_ble_eq_true rfl) dX6_init_25 (W1 := [(q_th, .inr (6, [.ref q_n7, .ref q_n15, .ref q_n23, .null, .null, .null, .null, .int 0, .int 0, .int 0, .int 0, .int 0, .int 0])), (q_n7, .inl (cI, 25, .inl (fun _ => 0))), (q_n15, .inl (cI, 25, .inl (fun _ => 0))), (q_n23, .inl (cI, 100, .inl (fun _ => 0)))]) rfl (fun H locs hP hD hS => ?_)
  refine lv_aload_n hx hb dX6_init_28 rfl (lv_at hl 0 rfl) ?_
  refine lv_bipush (v := (nI 9)) hx hb dX6_init_29 (by decide) ?_
  refine nx_newa (N' := 9) S0 hK hP hD hS hA harr (by decide) (by decide) (Nat.le_of_ble_eq_true rfl) (Nat.le_of_ble_eq_true rfl) (Nat.le_of_ble_eq_true rfl) dX6_init_31 (fun q_n31 H hP hD hS => ?_)
  have hP : va_P (dC, dI) vwCl [(q_th, .inr (6, [.ref q_n7, .ref q_n15, .ref q_n23, .null, .null, .null, .null, .int 0, .int 0, .int 0, .int 0, .int 0, .int 0])), (q_n7, .inl (cI, 25, .inl (fun _ => 0))), (q_n15, .inl (cI, 25, .inl (fun _ => 0))), (q_n23, .inl (cI, 100, .inl (fun _ => 0))), (q_n31, .inl (cI, 9, .inl (fun _ => 0)))] H := hP
  have hD : va_D A [(q_th, .inr (6, [.ref q_n7, .ref q_n15, .ref q_n23, .null, .null, .null, .null, .int 0, .int 0, .int 0, .int 0, .int 0, .int 0])), (q_n7, .inl (cI, 25, .inl (fun _ => 0))), (q_n15, .inl (cI, 25, .inl (fun _ => 0))), (q_n23, .inl (cI, 100, .inl (fun _ => 0))), (q_n31, .inl (cI, 9, .inl (fun _ => 0)))] := hD
  refine W.widen (k := 4) (n := 159) (Nat.le_of_ble_eq_true rfl) (Nat.le_of_ble_eq_true rfl) ?_
  refine nx_putF S0 hK hP hD hS hinit 0 3 hin_X6 tyX6 tyX6_ok nmX6 hf_21 rfl rfl (by decide) rfl rfl rfl rfl rfl (Nat.le_of_ble_eq_true rfl) dX6_init_33 (W1 := [(q_th, .inr (6, [.ref q_n7, .ref q_n15, .ref q_n23, .ref q_n31, .null, .null, .null, .int 0, .int 0, .int 0, .int 0, .int 0, .int 0])), (q_n7, .inl (cI, 25, .inl (fun _ => 0))), (q_n15, .inl (cI, 25, .inl (fun _ => 0))), (q_n23, .inl (cI, 100, .inl (fun _ => 0))), (q_n31, .inl (cI, 9, .inl (fun _ => 0)))]) rfl (fun H locs hP hD hS => ?_)
  refine lv_aload_n hx hb dX6_init_36 rfl (lv_at hl 0 rfl) ?_
  refine lv_iconst (v := (nI 5)) hx hb dX6_init_37 (by decide) ?_
  refine nx_newa (N' := 5) S0 hK hP hD hS hA harr (by decide) (by decide) (Nat.le_of_ble_eq_true rfl) (Nat.le_of_ble_eq_true rfl) (Nat.le_of_ble_eq_true rfl) dX6_init_38 (fun q_n38 H hP hD hS => ?_)
  have hP : va_P (dC, dI) vwCl [(q_th, .inr (6, [.ref q_n7, .ref q_n15, .ref q_n23, .ref q_n31, .null, .null, .null, .int 0, .int 0, .int 0, .int 0, .int 0, .int 0])), (q_n7, .inl (cI, 25, .inl (fun _ => 0))), (q_n15, .inl (cI, 25, .inl (fun _ => 0))), (q_n23, .inl (cI, 100, .inl (fun _ => 0))), (q_n31, .inl (cI, 9, .inl (fun _ => 0))), (q_n38, .inl (cI, 5, .inl (fun _ => 0)))] H := hP
  have hD : va_D A [(q_th, .inr (6, [.ref q_n7, .ref q_n15, .ref q_n23, .ref q_n31, .null, .null, .null, .int 0, .int 0, .int 0, .int 0, .int 0, .int 0])), (q_n7, .inl (cI, 25, .inl (fun _ => 0))), (q_n15, .inl (cI, 25, .inl (fun _ => 0))), (q_n23, .inl (cI, 100, .inl (fun _ => 0))), (q_n31, .inl (cI, 9, .inl (fun _ => 0))), (q_n38, .inl (cI, 5, .inl (fun _ => 0)))] := hD
  refine W.widen (k := 5) (n := 164) (Nat.le_of_ble_eq_true rfl) (Nat.le_of_ble_eq_true rfl) ?_
  refine nx_putF S0 hK hP hD hS hinit 0 4 hin_X6 tyX6 tyX6_ok nmX6 hf_24 rfl rfl (by decide) rfl rfl rfl rfl rfl (Nat.le_of_ble_eq_true rfl) dX6_init_40 (W1 := [(q_th, .inr (6, [.ref q_n7, .ref q_n15, .ref q_n23, .ref q_n31, .ref q_n38, .null, .null, .int 0, .int 0, .int 0, .int 0, .int 0, .int 0])), (q_n7, .inl (cI, 25, .inl (fun _ => 0))), (q_n15, .inl (cI, 25, .inl (fun _ => 0))), (q_n23, .inl (cI, 100, .inl (fun _ => 0))), (q_n31, .inl (cI, 9, .inl (fun _ => 0))), (q_n38, .inl (cI, 5, .inl (fun _ => 0)))]) rfl (fun H locs hP hD hS => ?_)
  refine lv_aload_n hx hb dX6_init_43 rfl (lv_at hl 0 rfl) ?_
  refine lv_iconst (v := (nI 5)) hx hb dX6_init_44 (by decide) ?_
  refine nx_newa (N' := 5) S0 hK hP hD hS hA harr (by decide) (by decide) (Nat.le_of_ble_eq_true rfl) (Nat.le_of_ble_eq_true rfl) (Nat.le_of_ble_eq_true rfl) dX6_init_45 (fun q_n45 H hP hD hS => ?_)
  have hP : va_P (dC, dI) vwCl [(q_th, .inr (6, [.ref q_n7, .ref q_n15, .ref q_n23, .ref q_n31, .ref q_n38, .null, .null, .int 0, .int 0, .int 0, .int 0, .int 0, .int 0])), (q_n7, .inl (cI, 25, .inl (fun _ => 0))), (q_n15, .inl (cI, 25, .inl (fun _ => 0))), (q_n23, .inl (cI, 100, .inl (fun _ => 0))), (q_n31, .inl (cI, 9, .inl (fun _ => 0))), (q_n38, .inl (cI, 5, .inl (fun _ => 0))), (q_n45, .inl (cI, 5, .inl (fun _ => 0)))] H := hP
  have hD : va_D A [(q_th, .inr (6, [.ref q_n7, .ref q_n15, .ref q_n23, .ref q_n31, .ref q_n38, .null, .null, .int 0, .int 0, .int 0, .int 0, .int 0, .int 0])), (q_n7, .inl (cI, 25, .inl (fun _ => 0))), (q_n15, .inl (cI, 25, .inl (fun _ => 0))), (q_n23, .inl (cI, 100, .inl (fun _ => 0))), (q_n31, .inl (cI, 9, .inl (fun _ => 0))), (q_n38, .inl (cI, 5, .inl (fun _ => 0))), (q_n45, .inl (cI, 5, .inl (fun _ => 0)))] := hD
  refine W.widen (k := 6) (n := 169) (Nat.le_of_ble_eq_true rfl) (Nat.le_of_ble_eq_true rfl) ?_
  refine nx_putF S0 hK hP hD hS hinit 0 5 hin_X6 tyX6 tyX6_ok nmX6 hf_27 rfl rfl (by decide) rfl rfl rfl rfl rfl (Nat.le_of_ble_eq_true rfl) dX6_init_47 (W1 := [(q_th, .inr (6, [.ref q_n7, .ref q_n15, .ref q_n23, .ref q_n31, .ref q_n38, .ref q_n45, .null, .int 0, .int 0, .int 0, .int 0, .int 0, .int 0])), (q_n7, .inl (cI, 25, .inl (fun _ => 0))), (q_n15, .inl (cI, 25, .inl (fun _ => 0))), (q_n23, .inl (cI, 100, .inl (fun _ => 0))), (q_n31, .inl (cI, 9, .inl (fun _ => 0))), (q_n38, .inl (cI, 5, .inl (fun _ => 0))), (q_n45, .inl (cI, 5, .inl (fun _ => 0)))]) rfl (fun H locs hP hD hS => ?_)
  refine lv_aload_n hx hb dX6_init_50 rfl (lv_at hl 0 rfl) ?_
  refine lv_iconst (v := (nI 4)) hx hb dX6_init_51 (by decide) ?_
  refine nx_newa (N' := 4) S0 hK hP hD hS hA harr (by decide) (by decide) (Nat.le_of_ble_eq_true rfl) (Nat.le_of_ble_eq_true rfl) (Nat.le_of_ble_eq_true rfl) dX6_init_52 (fun q_n52 H hP hD hS => ?_)
  have hP : va_P (dC, dI) vwCl [(q_th, .inr (6, [.ref q_n7, .ref q_n15, .ref q_n23, .ref q_n31, .ref q_n38, .ref q_n45, .null, .int 0, .int 0, .int 0, .int 0, .int 0, .int 0])), (q_n7, .inl (cI, 25, .inl (fun _ => 0))), (q_n15, .inl (cI, 25, .inl (fun _ => 0))), (q_n23, .inl (cI, 100, .inl (fun _ => 0))), (q_n31, .inl (cI, 9, .inl (fun _ => 0))), (q_n38, .inl (cI, 5, .inl (fun _ => 0))), (q_n45, .inl (cI, 5, .inl (fun _ => 0))), (q_n52, .inl (cI, 4, .inl (fun _ => 0)))] H := hP
  have hD : va_D A [(q_th, .inr (6, [.ref q_n7, .ref q_n15, .ref q_n23, .ref q_n31, .ref q_n38, .ref q_n45, .null, .int 0, .int 0, .int 0, .int 0, .int 0, .int 0])), (q_n7, .inl (cI, 25, .inl (fun _ => 0))), (q_n15, .inl (cI, 25, .inl (fun _ => 0))), (q_n23, .inl (cI, 100, .inl (fun _ => 0))), (q_n31, .inl (cI, 9, .inl (fun _ => 0))), (q_n38, .inl (cI, 5, .inl (fun _ => 0))), (q_n45, .inl (cI, 5, .inl (fun _ => 0))), (q_n52, .inl (cI, 4, .inl (fun _ => 0)))] := hD
  refine W.widen (k := 7) (n := 173) (Nat.le_of_ble_eq_true rfl) (Nat.le_of_ble_eq_true rfl) ?_
  refine nx_putF S0 hK hP hD hS hinit 0 6 hin_X6 tyX6 tyX6_ok nmX6 hf_30 rfl rfl (by decide) rfl rfl rfl rfl rfl (Nat.le_of_ble_eq_true rfl) dX6_init_54 (W1 := [(q_th, .inr (6, [.ref q_n7, .ref q_n15, .ref q_n23, .ref q_n31, .ref q_n38, .ref q_n45, .ref q_n52, .int 0, .int 0, .int 0, .int 0, .int 0, .int 0])), (q_n7, .inl (cI, 25, .inl (fun _ => 0))), (q_n15, .inl (cI, 25, .inl (fun _ => 0))), (q_n23, .inl (cI, 100, .inl (fun _ => 0))), (q_n31, .inl (cI, 9, .inl (fun _ => 0))), (q_n38, .inl (cI, 5, .inl (fun _ => 0))), (q_n45, .inl (cI, 5, .inl (fun _ => 0))), (q_n52, .inl (cI, 4, .inl (fun _ => 0)))]) rfl (fun H locs hP hD hS => ?_)
  refine lv_aload_n hx hb dX6_init_57 rfl (lv_at hl 0 rfl) ?_
  refine lv_iconst (v := (nI 0)) hx hb dX6_init_58 (by decide) ?_
  refine nx_put S0 hK hP hD hS 0 7 hin_X6 tyX6 tyX6_ok nmX6 hf_33 rfl rfl (by decide) rfl rfl rfl rfl (Nat.le_of_ble_eq_true rfl) dX6_init_59 (W1 := [(q_th, .inr (6, [.ref q_n7, .ref q_n15, .ref q_n23, .ref q_n31, .ref q_n38, .ref q_n45, .ref q_n52, .int (nI 0), .int 0, .int 0, .int 0, .int 0, .int 0])), (q_n7, .inl (cI, 25, .inl (fun _ => 0))), (q_n15, .inl (cI, 25, .inl (fun _ => 0))), (q_n23, .inl (cI, 100, .inl (fun _ => 0))), (q_n31, .inl (cI, 9, .inl (fun _ => 0))), (q_n38, .inl (cI, 5, .inl (fun _ => 0))), (q_n45, .inl (cI, 5, .inl (fun _ => 0))), (q_n52, .inl (cI, 4, .inl (fun _ => 0)))]) rfl (fun H locs hP hD hS => ?_)
  refine lv_aload_n hx hb dX6_init_62 rfl (lv_at hl 0 rfl) ?_
  refine lv_iconst (v := (nI 0)) hx hb dX6_init_63 (by decide) ?_
  refine nx_put S0 hK hP hD hS 0 8 hin_X6 tyX6 tyX6_ok nmX6 hf_37 rfl rfl (by decide) rfl rfl rfl rfl (Nat.le_of_ble_eq_true rfl) dX6_init_64 (W1 := [(q_th, .inr (6, [.ref q_n7, .ref q_n15, .ref q_n23, .ref q_n31, .ref q_n38, .ref q_n45, .ref q_n52, .int (nI 0), .int (nI 0), .int 0, .int 0, .int 0, .int 0])), (q_n7, .inl (cI, 25, .inl (fun _ => 0))), (q_n15, .inl (cI, 25, .inl (fun _ => 0))), (q_n23, .inl (cI, 100, .inl (fun _ => 0))), (q_n31, .inl (cI, 9, .inl (fun _ => 0))), (q_n38, .inl (cI, 5, .inl (fun _ => 0))), (q_n45, .inl (cI, 5, .inl (fun _ => 0))), (q_n52, .inl (cI, 4, .inl (fun _ => 0)))]) rfl (fun H locs hP hD hS => ?_)
  refine lv_aload_n hx hb dX6_init_67 rfl (lv_at hl 0 rfl) ?_
  refine lv_iconst (v := (nI 0)) hx hb dX6_init_68 (by decide) ?_
  refine nx_put S0 hK hP hD hS 0 9 hin_X6 tyX6 tyX6_ok nmX6 hf_40 rfl rfl (by decide) rfl rfl rfl rfl (Nat.le_of_ble_eq_true rfl) dX6_init_69 (W1 := [(q_th, .inr (6, [.ref q_n7, .ref q_n15, .ref q_n23, .ref q_n31, .ref q_n38, .ref q_n45, .ref q_n52, .int (nI 0), .int (nI 0), .int (nI 0), .int 0, .int 0, .int 0])), (q_n7, .inl (cI, 25, .inl (fun _ => 0))), (q_n15, .inl (cI, 25, .inl (fun _ => 0))), (q_n23, .inl (cI, 100, .inl (fun _ => 0))), (q_n31, .inl (cI, 9, .inl (fun _ => 0))), (q_n38, .inl (cI, 5, .inl (fun _ => 0))), (q_n45, .inl (cI, 5, .inl (fun _ => 0))), (q_n52, .inl (cI, 4, .inl (fun _ => 0)))]) rfl (fun H locs hP hD hS => ?_)
  refine lv_aload_n hx hb dX6_init_72 rfl (lv_at hl 0 rfl) ?_
  refine lv_iconst (v := (nI 0)) hx hb dX6_init_73 (by decide) ?_
  refine nx_put S0 hK hP hD hS 0 10 hin_X6 tyX6 tyX6_ok nmX6 hf_43 rfl rfl (by decide) rfl rfl rfl rfl (Nat.le_of_ble_eq_true rfl) dX6_init_74 (W1 := [(q_th, .inr (6, [.ref q_n7, .ref q_n15, .ref q_n23, .ref q_n31, .ref q_n38, .ref q_n45, .ref q_n52, .int (nI 0), .int (nI 0), .int (nI 0), .int (nI 0), .int 0, .int 0])), (q_n7, .inl (cI, 25, .inl (fun _ => 0))), (q_n15, .inl (cI, 25, .inl (fun _ => 0))), (q_n23, .inl (cI, 100, .inl (fun _ => 0))), (q_n31, .inl (cI, 9, .inl (fun _ => 0))), (q_n38, .inl (cI, 5, .inl (fun _ => 0))), (q_n45, .inl (cI, 5, .inl (fun _ => 0))), (q_n52, .inl (cI, 4, .inl (fun _ => 0)))]) rfl (fun H locs hP hD hS => ?_)
  refine lv_aload_n hx hb dX6_init_77 rfl (lv_at hl 0 rfl) ?_
  refine lv_iconst (v := (nI 0)) hx hb dX6_init_78 (by decide) ?_
  refine nx_put S0 hK hP hD hS 0 11 hin_X6 tyX6 tyX6_ok nmX6 hf_46 rfl rfl (by decide) rfl rfl rfl rfl (Nat.le_of_ble_eq_true rfl) dX6_init_79 (W1 := [(q_th, .inr (6, [.ref q_n7, .ref q_n15, .ref q_n23, .ref q_n31, .ref q_n38, .ref q_n45, .ref q_n52, .int (nI 0), .int (nI 0), .int (nI 0), .int (nI 0), .int (nI 0), .int 0])), (q_n7, .inl (cI, 25, .inl (fun _ => 0))), (q_n15, .inl (cI, 25, .inl (fun _ => 0))), (q_n23, .inl (cI, 100, .inl (fun _ => 0))), (q_n31, .inl (cI, 9, .inl (fun _ => 0))), (q_n38, .inl (cI, 5, .inl (fun _ => 0))), (q_n45, .inl (cI, 5, .inl (fun _ => 0))), (q_n52, .inl (cI, 4, .inl (fun _ => 0)))]) rfl (fun H locs hP hD hS => ?_)
  refine lv_aload_n hx hb dX6_init_82 rfl (lv_at hl 0 rfl) ?_
  refine lv_iconst (v := (nI 0)) hx hb dX6_init_83 (by decide) ?_
  refine nx_put S0 hK hP hD hS 0 12 hin_X6 tyX6 tyX6_ok nmX6 hf_49 rfl rfl (by decide) rfl rfl rfl rfl (Nat.le_of_ble_eq_true rfl) dX6_init_84 (W1 := [(q_th, .inr (6, [.ref q_n7, .ref q_n15, .ref q_n23, .ref q_n31, .ref q_n38, .ref q_n45, .ref q_n52, .int (nI 0), .int (nI 0), .int (nI 0), .int (nI 0), .int (nI 0), .int (nI 0)])), (q_n7, .inl (cI, 25, .inl (fun _ => 0))), (q_n15, .inl (cI, 25, .inl (fun _ => 0))), (q_n23, .inl (cI, 100, .inl (fun _ => 0))), (q_n31, .inl (cI, 9, .inl (fun _ => 0))), (q_n38, .inl (cI, 5, .inl (fun _ => 0))), (q_n45, .inl (cI, 5, .inl (fun _ => 0))), (q_n52, .inl (cI, 4, .inl (fun _ => 0)))]) rfl (fun H locs hP hD hS => ?_)
  exact ret0 (q_n7, q_n15, q_n23, q_n31, q_n38, q_n45, q_n52) _ _ _ _ dX6_init_87 hP hD hS
theorem hdX8_init : yX8_init.cls ≠ "java/lang/invoke/MethodHandle" ∧ yX8_init.cls ≠ "java/lang/invoke/VarHandle" ∧ (parseMethodDescriptor yX8_init.desc).map (fun d => d.parameters.length) = some 0 := by decide +kernel
set_option maxHeartbeats 40000000 in
set_option maxRecDepth 100000 in
theorem kX8_init (l : Launch) (dC : Nat → ClassId) (dI : Nat → Nat → Nat) (cI : ClassId) (q_th sz : Nat) (N : Nat) (o190 : (Nat → Int32)) (o197 : (Nat → Int32)) (o206 : (Nat → Int32)) (o234 : (Nat → Int32)) (hF190 : fX8_rents N (nI 0) (nI 3) (nI 10) (upd (upd (upd (upd (upd (upd (upd (upd (upd (upd (upd (upd (fun _ => 0) 0 (nI 5)) 1 (nI 4)) 2 (nI 1)) 34 (nI 1)) 35 (nI 2)) 38 (nI 4)) 40 (nI 3)) 41 (nI 1)) 43 (nI 1)) 3 (nI 3)) 4 (nI 4)) 6 (nI 2)) = some o190) (hF197 : fX8_rents N (nI 1) (nI 5) (nI 4) o190 = some o197) (hF206 : fX8_rents N (nI 2) (nI 9) (nI 7) o197 = some o206) (hF234 : fX8_begins0 N (fun _ => 0) (upd (upd (upd o206 13 (nI 3)) 24 (nI 2)) 26 (nI 3)) = some o234) : nx_C l yX8_init wsX8_init ({ frames := 1, cells := 11, slots := 710, locals := 23 } : Room) (dC, dI) cI [.ref q_th] [(q_th, .inr (8, [.null, .null, .null, .int 0, .int 0, .null, .int 0, .int 0, .null, .null, .null, .int 0, .null, .int 0, .int 0, .int 0, .int 0, .null, .null, .int 0, .int 0, .int 0, .null, .int 0]))] sz 11 710 (fun u : Nat × Nat × Nat × Nat × Nat × Nat × Nat × Nat × Nat × Nat × Nat => match u with | (q_n7, q_n15, q_n24, q_n32, q_n40, q_n48, q_n57, q_n65, q_n73, q_n81, q_n89) => [(q_th, .inr (8, [.ref q_n7, .ref q_n15, .ref q_n24, .int 0, .int 0, .ref q_n32, .int 0, .int 0, .ref q_n40, .ref q_n48, .ref q_n57, .int 0, .ref q_n65, .int 0, .int 0, .int 0, .int 0, .ref q_n73, .ref q_n81, .int 0, .int 0, .int 0, .ref q_n89, .int 0])), (q_n7, .inl (cI, 54, .inl (upd (upd (upd o206 13 (nI 3)) 24 (nI 2)) 26 (nI 3)))), (q_n15, .inl (cI, 28, .inl o234)), (q_n24, .inl (cI, 200, .inl (fun _ => 0))), (q_n32, .inl (cI, 54, .inl (fun _ => 0))), (q_n40, .inl (cI, 25, .inl (fun _ => 0))), (q_n48, .inl (cI, 25, .inl (fun _ => 0))), (q_n57, .inl (cI, 224, .inl (fun _ => 0))), (q_n65, .inl (cI, 28, .inl (fun _ => 0))), (q_n73, .inl (cI, 8, .inl (fun _ => 0))), (q_n81, .inl (cI, 8, .inl (fun _ => 0))), (q_n89, .inl (cI, 56, .inl (fun _ => 0)))]) := by
  refine nx_ctor (cc := cX8_init) (maxL := 1) (by decide) rfl rfl (Nat.le_of_ble_eq_true rfl) ?_
  intro p e s m args below meth c Q A S0 hinit hK hN hA ret0 hP hD hS ls hl
  have S0 : CallFix p m c cX8_init 1 s args wsX8_init RX8 := S0
  have hx := S0.1
  have hb := S0.2.1
  have hown := S0.2.2.2.1
  have hts := S0.2.2.2.2
  have harr := hts (.arrayClass .int) (by decide +kernel)
  have hf_7 := hts (.fieldLink RX8 7 "SnailsYearModel" "told" "[I") (by decide +kernel)
  have hin_X8 : ∀ w ∈ wsX80, w ∈ wsX8_init := by decide +kernel
  have hf_13 := hts (.fieldLink RX8 13 "SnailsYearModel" "now" "[I") (by decide +kernel)
  have hf_16 := hts (.fieldLink RX8 16 "SnailsYearModel" "text" "[I") (by decide +kernel)
  have hf_19 := hts (.fieldLink RX8 19 "SnailsYearModel" "read" "[I") (by decide +kernel)
  have hf_22 := hts (.fieldLink RX8 22 "SnailsYearModel" "from" "[I") (by decide +kernel)
  have hf_25 := hts (.fieldLink RX8 25 "SnailsYearModel" "to" "[I") (by decide +kernel)
  have hf_28 := hts (.fieldLink RX8 28 "SnailsYearModel" "undone" "[I") (by decide +kernel)
  have hf_31 := hts (.fieldLink RX8 31 "SnailsYearModel" "aside" "[I") (by decide +kernel)
  have hf_34 := hts (.fieldLink RX8 34 "SnailsYearModel" "seenCell" "[I") (by decide +kernel)
  have hf_37 := hts (.fieldLink RX8 37 "SnailsYearModel" "seenNight" "[I") (by decide +kernel)
  have hf_40 := hts (.fieldLink RX8 40 "SnailsYearModel" "kept" "[I") (by decide +kernel)
  have hl : lv_has ls 1 [(0, .ref q_th)] := hl
  refine lv_aload_n hx hb dX8_init_0 rfl (lv_at hl 0 rfl) ?_
  refine W.objInit hx hb hown (hts (.methodLink RX8 1 objectInit) (by decide +kernel)) (hts (.instanceMethod objectInit) (by decide +kernel)) (hts (.code objectInit ⟨#[0xb1]⟩ 1 none) (by decide +kernel)) rfl (by rw [S0.2.2.1]; exact hl.1) rfl dX8_init_1 (Nat.le_of_ble_eq_true rfl) (Nat.le_of_ble_eq_true rfl) ?_
  refine W.eq (g2 := F0 m 4 ls []) rfl ?_
  refine lv_aload_n hx hb dX8_init_4 rfl (lv_at hl 0 rfl) ?_
  refine lv_bipush (v := (nI 54)) hx hb dX8_init_5 (by decide) ?_
  refine nx_newa (N' := 54) S0 hK hP hD hS hA harr (by decide) (by decide) (Nat.le_of_ble_eq_true rfl) (Nat.le_of_ble_eq_true rfl) (Nat.le_of_ble_eq_true rfl) dX8_init_7 (fun q_n7 H hP hD hS => ?_)
  have hP : va_P (dC, dI) vwCl [(q_th, .inr (8, [.null, .null, .null, .int 0, .int 0, .null, .int 0, .int 0, .null, .null, .null, .int 0, .null, .int 0, .int 0, .int 0, .int 0, .null, .null, .int 0, .int 0, .int 0, .null, .int 0])), (q_n7, .inl (cI, 54, .inl (fun _ => 0)))] H := hP
  have hD : va_D A [(q_th, .inr (8, [.null, .null, .null, .int 0, .int 0, .null, .int 0, .int 0, .null, .null, .null, .int 0, .null, .int 0, .int 0, .int 0, .int 0, .null, .null, .int 0, .int 0, .int 0, .null, .int 0])), (q_n7, .inl (cI, 54, .inl (fun _ => 0)))] := hD
  refine W.widen (k := 1) (n := 54) (Nat.le_of_ble_eq_true rfl) (Nat.le_of_ble_eq_true rfl) ?_
  refine nx_putF S0 hK hP hD hS hinit 0 0 hin_X8 tyX8 tyX8_ok nmX8 hf_7 rfl rfl (by decide) rfl rfl rfl rfl rfl (Nat.le_of_ble_eq_true rfl) dX8_init_9 (W1 := [(q_th, .inr (8, [.ref q_n7, .null, .null, .int 0, .int 0, .null, .int 0, .int 0, .null, .null, .null, .int 0, .null, .int 0, .int 0, .int 0, .int 0, .null, .null, .int 0, .int 0, .int 0, .null, .int 0])), (q_n7, .inl (cI, 54, .inl (fun _ => 0)))]) rfl (fun H locs hP hD hS => ?_)
  refine lv_aload_n hx hb dX8_init_12 rfl (lv_at hl 0 rfl) ?_
  refine lv_bipush (v := (nI 28)) hx hb dX8_init_13 (by decide) ?_
  refine nx_newa (N' := 28) S0 hK hP hD hS hA harr (by decide) (by decide) (Nat.le_of_ble_eq_true rfl) (Nat.le_of_ble_eq_true rfl) (Nat.le_of_ble_eq_true rfl) dX8_init_15 (fun q_n15 H hP hD hS => ?_)
  have hP : va_P (dC, dI) vwCl [(q_th, .inr (8, [.ref q_n7, .null, .null, .int 0, .int 0, .null, .int 0, .int 0, .null, .null, .null, .int 0, .null, .int 0, .int 0, .int 0, .int 0, .null, .null, .int 0, .int 0, .int 0, .null, .int 0])), (q_n7, .inl (cI, 54, .inl (fun _ => 0))), (q_n15, .inl (cI, 28, .inl (fun _ => 0)))] H := hP
  have hD : va_D A [(q_th, .inr (8, [.ref q_n7, .null, .null, .int 0, .int 0, .null, .int 0, .int 0, .null, .null, .null, .int 0, .null, .int 0, .int 0, .int 0, .int 0, .null, .null, .int 0, .int 0, .int 0, .null, .int 0])), (q_n7, .inl (cI, 54, .inl (fun _ => 0))), (q_n15, .inl (cI, 28, .inl (fun _ => 0)))] := hD
  refine W.widen (k := 2) (n := 82) (Nat.le_of_ble_eq_true rfl) (Nat.le_of_ble_eq_true rfl) ?_
  refine nx_putF S0 hK hP hD hS hinit 0 1 hin_X8 tyX8 tyX8_ok nmX8 hf_13 rfl rfl (by decide) rfl rfl rfl rfl rfl (Nat.le_of_ble_eq_true rfl) dX8_init_17 (W1 := [(q_th, .inr (8, [.ref q_n7, .ref q_n15, .null, .int 0, .int 0, .null, .int 0, .int 0, .null, .null, .null, .int 0, .null, .int 0, .int 0, .int 0, .int 0, .null, .null, .int 0, .int 0, .int 0, .null, .int 0])), (q_n7, .inl (cI, 54, .inl (fun _ => 0))), (q_n15, .inl (cI, 28, .inl (fun _ => 0)))]) rfl (fun H locs hP hD hS => ?_)
  refine lv_aload_n hx hb dX8_init_20 rfl (lv_at hl 0 rfl) ?_
  refine lv_sipush (v := (nI 200)) hx hb dX8_init_21 (by decide) ?_
  refine nx_newa (N' := 200) S0 hK hP hD hS hA harr (by decide) (by decide) (Nat.le_of_ble_eq_true rfl) (Nat.le_of_ble_eq_true rfl) (Nat.le_of_ble_eq_true rfl) dX8_init_24 (fun q_n24 H hP hD hS => ?_)
  have hP : va_P (dC, dI) vwCl [(q_th, .inr (8, [.ref q_n7, .ref q_n15, .null, .int 0, .int 0, .null, .int 0, .int 0, .null, .null, .null, .int 0, .null, .int 0, .int 0, .int 0, .int 0, .null, .null, .int 0, .int 0, .int 0, .null, .int 0])), (q_n7, .inl (cI, 54, .inl (fun _ => 0))), (q_n15, .inl (cI, 28, .inl (fun _ => 0))), (q_n24, .inl (cI, 200, .inl (fun _ => 0)))] H := hP
  have hD : va_D A [(q_th, .inr (8, [.ref q_n7, .ref q_n15, .null, .int 0, .int 0, .null, .int 0, .int 0, .null, .null, .null, .int 0, .null, .int 0, .int 0, .int 0, .int 0, .null, .null, .int 0, .int 0, .int 0, .null, .int 0])), (q_n7, .inl (cI, 54, .inl (fun _ => 0))), (q_n15, .inl (cI, 28, .inl (fun _ => 0))), (q_n24, .inl (cI, 200, .inl (fun _ => 0)))] := hD
  refine W.widen (k := 3) (n := 282) (Nat.le_of_ble_eq_true rfl) (Nat.le_of_ble_eq_true rfl) ?_
  refine nx_putF S0 hK hP hD hS hinit 0 2 hin_X8 tyX8 tyX8_ok nmX8 hf_16 rfl rfl (by decide) rfl rfl rfl rfl rfl (Nat.le_of_ble_eq_true rfl) dX8_init_26 (W1 := [(q_th, .inr (8, [.ref q_n7, .ref q_n15, .ref q_n24, .int 0, .int 0, .null, .int 0, .int 0, .null, .null, .null, .int 0, .null, .int 0, .int 0, .int 0, .int 0, .null, .null, .int 0, .int 0, .int 0, .null, .int 0])), (q_n7, .inl (cI, 54, .inl (fun _ => 0))), (q_n15, .inl (cI, 28, .inl (fun _ => 0))), (q_n24, .inl (cI, 200, .inl (fun _ => 0)))]) rfl (fun H locs hP hD hS => ?_)
  refine lv_aload_n hx hb dX8_init_29 rfl (lv_at hl 0 rfl) ?_
  refine lv_bipush (v := (nI 54)) hx hb dX8_init_30 (by decide) ?_
  refine nx_newa (N' := 54) S0 hK hP hD hS hA harr (by decide) (by decide) (Nat.le_of_ble_eq_true rfl) (Nat.le_of_ble_eq_true rfl) (Nat.le_of_ble_eq_true rfl) dX8_init_32 (fun q_n32 H hP hD hS => ?_)
  have hP : va_P (dC, dI) vwCl [(q_th, .inr (8, [.ref q_n7, .ref q_n15, .ref q_n24, .int 0, .int 0, .null, .int 0, .int 0, .null, .null, .null, .int 0, .null, .int 0, .int 0, .int 0, .int 0, .null, .null, .int 0, .int 0, .int 0, .null, .int 0])), (q_n7, .inl (cI, 54, .inl (fun _ => 0))), (q_n15, .inl (cI, 28, .inl (fun _ => 0))), (q_n24, .inl (cI, 200, .inl (fun _ => 0))), (q_n32, .inl (cI, 54, .inl (fun _ => 0)))] H := hP
  have hD : va_D A [(q_th, .inr (8, [.ref q_n7, .ref q_n15, .ref q_n24, .int 0, .int 0, .null, .int 0, .int 0, .null, .null, .null, .int 0, .null, .int 0, .int 0, .int 0, .int 0, .null, .null, .int 0, .int 0, .int 0, .null, .int 0])), (q_n7, .inl (cI, 54, .inl (fun _ => 0))), (q_n15, .inl (cI, 28, .inl (fun _ => 0))), (q_n24, .inl (cI, 200, .inl (fun _ => 0))), (q_n32, .inl (cI, 54, .inl (fun _ => 0)))] := hD
  refine W.widen (k := 4) (n := 336) (Nat.le_of_ble_eq_true rfl) (Nat.le_of_ble_eq_true rfl) ?_
  refine nx_putF S0 hK hP hD hS hinit 0 5 hin_X8 tyX8 tyX8_ok nmX8 hf_19 rfl rfl (by decide) rfl rfl rfl rfl rfl (Nat.le_of_ble_eq_true rfl) dX8_init_34 (W1 := [(q_th, .inr (8, [.ref q_n7, .ref q_n15, .ref q_n24, .int 0, .int 0, .ref q_n32, .int 0, .int 0, .null, .null, .null, .int 0, .null, .int 0, .int 0, .int 0, .int 0, .null, .null, .int 0, .int 0, .int 0, .null, .int 0])), (q_n7, .inl (cI, 54, .inl (fun _ => 0))), (q_n15, .inl (cI, 28, .inl (fun _ => 0))), (q_n24, .inl (cI, 200, .inl (fun _ => 0))), (q_n32, .inl (cI, 54, .inl (fun _ => 0)))]) rfl (fun H locs hP hD hS => ?_)
  refine lv_aload_n hx hb dX8_init_37 rfl (lv_at hl 0 rfl) ?_
  refine lv_bipush (v := (nI 25)) hx hb dX8_init_38 (by decide) ?_
  refine nx_newa (N' := 25) S0 hK hP hD hS hA harr (by decide) (by decide) (Nat.le_of_ble_eq_true rfl) (Nat.le_of_ble_eq_true rfl) (Nat.le_of_ble_eq_true rfl) dX8_init_40 (fun q_n40 H hP hD hS => ?_)
  have hP : va_P (dC, dI) vwCl [(q_th, .inr (8, [.ref q_n7, .ref q_n15, .ref q_n24, .int 0, .int 0, .ref q_n32, .int 0, .int 0, .null, .null, .null, .int 0, .null, .int 0, .int 0, .int 0, .int 0, .null, .null, .int 0, .int 0, .int 0, .null, .int 0])), (q_n7, .inl (cI, 54, .inl (fun _ => 0))), (q_n15, .inl (cI, 28, .inl (fun _ => 0))), (q_n24, .inl (cI, 200, .inl (fun _ => 0))), (q_n32, .inl (cI, 54, .inl (fun _ => 0))), (q_n40, .inl (cI, 25, .inl (fun _ => 0)))] H := hP
  have hD : va_D A [(q_th, .inr (8, [.ref q_n7, .ref q_n15, .ref q_n24, .int 0, .int 0, .ref q_n32, .int 0, .int 0, .null, .null, .null, .int 0, .null, .int 0, .int 0, .int 0, .int 0, .null, .null, .int 0, .int 0, .int 0, .null, .int 0])), (q_n7, .inl (cI, 54, .inl (fun _ => 0))), (q_n15, .inl (cI, 28, .inl (fun _ => 0))), (q_n24, .inl (cI, 200, .inl (fun _ => 0))), (q_n32, .inl (cI, 54, .inl (fun _ => 0))), (q_n40, .inl (cI, 25, .inl (fun _ => 0)))] := hD
  refine W.widen (k := 5) (n := 361) (Nat.le_of_ble_eq_true rfl) (Nat.le_of_ble_eq_true rfl) ?_
  refine nx_putF S0 hK hP hD hS hinit 0 8 hin_X8 tyX8 tyX8_ok nmX8 hf_22 rfl rfl (by decide) rfl rfl rfl rfl rfl (Nat.le_of_ble_eq_true rfl) dX8_init_42 (W1 := [(q_th, .inr (8, [.ref q_n7, .ref q_n15, .ref q_n24, .int 0, .int 0, .ref q_n32, .int 0, .int 0, .ref q_n40, .null, .null, .int 0, .null, .int 0, .int 0, .int 0, .int 0, .null, .null, .int 0, .int 0, .int 0, .null, .int 0])), (q_n7, .inl (cI, 54, .inl (fun _ => 0))), (q_n15, .inl (cI, 28, .inl (fun _ => 0))), (q_n24, .inl (cI, 200, .inl (fun _ => 0))), (q_n32, .inl (cI, 54, .inl (fun _ => 0))), (q_n40, .inl (cI, 25, .inl (fun _ => 0)))]) rfl (fun H locs hP hD hS => ?_)
  refine lv_aload_n hx hb dX8_init_45 rfl (lv_at hl 0 rfl) ?_
  refine lv_bipush (v := (nI 25)) hx hb dX8_init_46 (by decide) ?_
  refine nx_newa (N' := 25) S0 hK hP hD hS hA harr (by decide) (by decide) (Nat.le_of_ble_eq_true rfl) (Nat.le_of_ble_eq_true rfl) (Nat.le_of_ble_eq_true rfl) dX8_init_48 (fun q_n48 H hP hD hS => ?_)
  have hP : va_P (dC, dI) vwCl [(q_th, .inr (8, [.ref q_n7, .ref q_n15, .ref q_n24, .int 0, .int 0, .ref q_n32, .int 0, .int 0, .ref q_n40, .null, .null, .int 0, .null, .int 0, .int 0, .int 0, .int 0, .null, .null, .int 0, .int 0, .int 0, .null, .int 0])), (q_n7, .inl (cI, 54, .inl (fun _ => 0))), (q_n15, .inl (cI, 28, .inl (fun _ => 0))), (q_n24, .inl (cI, 200, .inl (fun _ => 0))), (q_n32, .inl (cI, 54, .inl (fun _ => 0))), (q_n40, .inl (cI, 25, .inl (fun _ => 0))), (q_n48, .inl (cI, 25, .inl (fun _ => 0)))] H := hP
  have hD : va_D A [(q_th, .inr (8, [.ref q_n7, .ref q_n15, .ref q_n24, .int 0, .int 0, .ref q_n32, .int 0, .int 0, .ref q_n40, .null, .null, .int 0, .null, .int 0, .int 0, .int 0, .int 0, .null, .null, .int 0, .int 0, .int 0, .null, .int 0])), (q_n7, .inl (cI, 54, .inl (fun _ => 0))), (q_n15, .inl (cI, 28, .inl (fun _ => 0))), (q_n24, .inl (cI, 200, .inl (fun _ => 0))), (q_n32, .inl (cI, 54, .inl (fun _ => 0))), (q_n40, .inl (cI, 25, .inl (fun _ => 0))), (q_n48, .inl (cI, 25, .inl (fun _ => 0)))] := hD
  refine W.widen (k := 6) (n := 386) (Nat.le_of_ble_eq_true rfl) (Nat.le_of_ble_eq_true rfl) ?_
  refine nx_putF S0 hK hP hD hS hinit 0 9 hin_X8 tyX8 tyX8_ok nmX8 hf_25 rfl rfl (by decide) rfl rfl rfl rfl rfl (Nat.le_of_ble_eq_true rfl) dX8_init_50 (W1 := [(q_th, .inr (8, [.ref q_n7, .ref q_n15, .ref q_n24, .int 0, .int 0, .ref q_n32, .int 0, .int 0, .ref q_n40, .ref q_n48, .null, .int 0, .null, .int 0, .int 0, .int 0, .int 0, .null, .null, .int 0, .int 0, .int 0, .null, .int 0])), (q_n7, .inl (cI, 54, .inl (fun _ => 0))), (q_n15, .inl (cI, 28, .inl (fun _ => 0))), (q_n24, .inl (cI, 200, .inl (fun _ => 0))), (q_n32, .inl (cI, 54, .inl (fun _ => 0))), (q_n40, .inl (cI, 25, .inl (fun _ => 0))), (q_n48, .inl (cI, 25, .inl (fun _ => 0)))]) rfl (fun H locs hP hD hS => ?_)
  refine lv_aload_n hx hb dX8_init_53 rfl (lv_at hl 0 rfl) ?_
  refine lv_sipush (v := (nI 224)) hx hb dX8_init_54 (by decide) ?_
  refine nx_newa (N' := 224) S0 hK hP hD hS hA harr (by decide) (by decide) (Nat.le_of_ble_eq_true rfl) (Nat.le_of_ble_eq_true rfl) (Nat.le_of_ble_eq_true rfl) dX8_init_57 (fun q_n57 H hP hD hS => ?_)
  have hP : va_P (dC, dI) vwCl [(q_th, .inr (8, [.ref q_n7, .ref q_n15, .ref q_n24, .int 0, .int 0, .ref q_n32, .int 0, .int 0, .ref q_n40, .ref q_n48, .null, .int 0, .null, .int 0, .int 0, .int 0, .int 0, .null, .null, .int 0, .int 0, .int 0, .null, .int 0])), (q_n7, .inl (cI, 54, .inl (fun _ => 0))), (q_n15, .inl (cI, 28, .inl (fun _ => 0))), (q_n24, .inl (cI, 200, .inl (fun _ => 0))), (q_n32, .inl (cI, 54, .inl (fun _ => 0))), (q_n40, .inl (cI, 25, .inl (fun _ => 0))), (q_n48, .inl (cI, 25, .inl (fun _ => 0))), (q_n57, .inl (cI, 224, .inl (fun _ => 0)))] H := hP
  have hD : va_D A [(q_th, .inr (8, [.ref q_n7, .ref q_n15, .ref q_n24, .int 0, .int 0, .ref q_n32, .int 0, .int 0, .ref q_n40, .ref q_n48, .null, .int 0, .null, .int 0, .int 0, .int 0, .int 0, .null, .null, .int 0, .int 0, .int 0, .null, .int 0])), (q_n7, .inl (cI, 54, .inl (fun _ => 0))), (q_n15, .inl (cI, 28, .inl (fun _ => 0))), (q_n24, .inl (cI, 200, .inl (fun _ => 0))), (q_n32, .inl (cI, 54, .inl (fun _ => 0))), (q_n40, .inl (cI, 25, .inl (fun _ => 0))), (q_n48, .inl (cI, 25, .inl (fun _ => 0))), (q_n57, .inl (cI, 224, .inl (fun _ => 0)))] := hD
  refine W.widen (k := 7) (n := 610) (Nat.le_of_ble_eq_true rfl) (Nat.le_of_ble_eq_true rfl) ?_
  refine nx_putF S0 hK hP hD hS hinit 0 10 hin_X8 tyX8 tyX8_ok nmX8 hf_28 rfl rfl (by decide) rfl rfl rfl rfl rfl (Nat.le_of_ble_eq_true rfl) dX8_init_59 (W1 := [(q_th, .inr (8, [.ref q_n7, .ref q_n15, .ref q_n24, .int 0, .int 0, .ref q_n32, .int 0, .int 0, .ref q_n40, .ref q_n48, .ref q_n57, .int 0, .null, .int 0, .int 0, .int 0, .int 0, .null, .null, .int 0, .int 0, .int 0, .null, .int 0])), (q_n7, .inl (cI, 54, .inl (fun _ => 0))), (q_n15, .inl (cI, 28, .inl (fun _ => 0))), (q_n24, .inl (cI, 200, .inl (fun _ => 0))), (q_n32, .inl (cI, 54, .inl (fun _ => 0))), (q_n40, .inl (cI, 25, .inl (fun _ => 0))), (q_n48, .inl (cI, 25, .inl (fun _ => 0))), (q_n57, .inl (cI, 224, .inl (fun _ => 0)))]) rfl (fun H locs hP hD hS => ?_)
  refine lv_aload_n hx hb dX8_init_62 rfl (lv_at hl 0 rfl) ?_
  refine lv_bipush (v := (nI 28)) hx hb dX8_init_63 (by decide) ?_
  refine nx_newa (N' := 28) S0 hK hP hD hS hA harr (by decide) (by decide) (Nat.le_of_ble_eq_true rfl) (Nat.le_of_ble_eq_true rfl) (Nat.le_of_ble_eq_true rfl) dX8_init_65 (fun q_n65 H hP hD hS => ?_)
  have hP : va_P (dC, dI) vwCl [(q_th, .inr (8, [.ref q_n7, .ref q_n15, .ref q_n24, .int 0, .int 0, .ref q_n32, .int 0, .int 0, .ref q_n40, .ref q_n48, .ref q_n57, .int 0, .null, .int 0, .int 0, .int 0, .int 0, .null, .null, .int 0, .int 0, .int 0, .null, .int 0])), (q_n7, .inl (cI, 54, .inl (fun _ => 0))), (q_n15, .inl (cI, 28, .inl (fun _ => 0))), (q_n24, .inl (cI, 200, .inl (fun _ => 0))), (q_n32, .inl (cI, 54, .inl (fun _ => 0))), (q_n40, .inl (cI, 25, .inl (fun _ => 0))), (q_n48, .inl (cI, 25, .inl (fun _ => 0))), (q_n57, .inl (cI, 224, .inl (fun _ => 0))), (q_n65, .inl (cI, 28, .inl (fun _ => 0)))] H := hP
  have hD : va_D A [(q_th, .inr (8, [.ref q_n7, .ref q_n15, .ref q_n24, .int 0, .int 0, .ref q_n32, .int 0, .int 0, .ref q_n40, .ref q_n48, .ref q_n57, .int 0, .null, .int 0, .int 0, .int 0, .int 0, .null, .null, .int 0, .int 0, .int 0, .null, .int 0])), (q_n7, .inl (cI, 54, .inl (fun _ => 0))), (q_n15, .inl (cI, 28, .inl (fun _ => 0))), (q_n24, .inl (cI, 200, .inl (fun _ => 0))), (q_n32, .inl (cI, 54, .inl (fun _ => 0))), (q_n40, .inl (cI, 25, .inl (fun _ => 0))), (q_n48, .inl (cI, 25, .inl (fun _ => 0))), (q_n57, .inl (cI, 224, .inl (fun _ => 0))), (q_n65, .inl (cI, 28, .inl (fun _ => 0)))] := hD
  refine W.widen (k := 8) (n := 638) (Nat.le_of_ble_eq_true rfl) (Nat.le_of_ble_eq_true rfl) ?_
  refine nx_putF S0 hK hP hD hS hinit 0 12 hin_X8 tyX8 tyX8_ok nmX8 hf_31 rfl rfl (by decide) rfl rfl rfl rfl rfl (Nat.le_of_ble_eq_true rfl) dX8_init_67 (W1 := [(q_th, .inr (8, [.ref q_n7, .ref q_n15, .ref q_n24, .int 0, .int 0, .ref q_n32, .int 0, .int 0, .ref q_n40, .ref q_n48, .ref q_n57, .int 0, .ref q_n65, .int 0, .int 0, .int 0, .int 0, .null, .null, .int 0, .int 0, .int 0, .null, .int 0])), (q_n7, .inl (cI, 54, .inl (fun _ => 0))), (q_n15, .inl (cI, 28, .inl (fun _ => 0))), (q_n24, .inl (cI, 200, .inl (fun _ => 0))), (q_n32, .inl (cI, 54, .inl (fun _ => 0))), (q_n40, .inl (cI, 25, .inl (fun _ => 0))), (q_n48, .inl (cI, 25, .inl (fun _ => 0))), (q_n57, .inl (cI, 224, .inl (fun _ => 0))), (q_n65, .inl (cI, 28, .inl (fun _ => 0)))]) rfl (fun H locs hP hD hS => ?_)
  refine lv_aload_n hx hb dX8_init_70 rfl (lv_at hl 0 rfl) ?_
  refine lv_bipush (v := (nI 8)) hx hb dX8_init_71 (by decide) ?_
  refine nx_newa (N' := 8) S0 hK hP hD hS hA harr (by decide) (by decide) (Nat.le_of_ble_eq_true rfl) (Nat.le_of_ble_eq_true rfl) (Nat.le_of_ble_eq_true rfl) dX8_init_73 (fun q_n73 H hP hD hS => ?_)
  have hP : va_P (dC, dI) vwCl [(q_th, .inr (8, [.ref q_n7, .ref q_n15, .ref q_n24, .int 0, .int 0, .ref q_n32, .int 0, .int 0, .ref q_n40, .ref q_n48, .ref q_n57, .int 0, .ref q_n65, .int 0, .int 0, .int 0, .int 0, .null, .null, .int 0, .int 0, .int 0, .null, .int 0])), (q_n7, .inl (cI, 54, .inl (fun _ => 0))), (q_n15, .inl (cI, 28, .inl (fun _ => 0))), (q_n24, .inl (cI, 200, .inl (fun _ => 0))), (q_n32, .inl (cI, 54, .inl (fun _ => 0))), (q_n40, .inl (cI, 25, .inl (fun _ => 0))), (q_n48, .inl (cI, 25, .inl (fun _ => 0))), (q_n57, .inl (cI, 224, .inl (fun _ => 0))), (q_n65, .inl (cI, 28, .inl (fun _ => 0))), (q_n73, .inl (cI, 8, .inl (fun _ => 0)))] H := hP
  have hD : va_D A [(q_th, .inr (8, [.ref q_n7, .ref q_n15, .ref q_n24, .int 0, .int 0, .ref q_n32, .int 0, .int 0, .ref q_n40, .ref q_n48, .ref q_n57, .int 0, .ref q_n65, .int 0, .int 0, .int 0, .int 0, .null, .null, .int 0, .int 0, .int 0, .null, .int 0])), (q_n7, .inl (cI, 54, .inl (fun _ => 0))), (q_n15, .inl (cI, 28, .inl (fun _ => 0))), (q_n24, .inl (cI, 200, .inl (fun _ => 0))), (q_n32, .inl (cI, 54, .inl (fun _ => 0))), (q_n40, .inl (cI, 25, .inl (fun _ => 0))), (q_n48, .inl (cI, 25, .inl (fun _ => 0))), (q_n57, .inl (cI, 224, .inl (fun _ => 0))), (q_n65, .inl (cI, 28, .inl (fun _ => 0))), (q_n73, .inl (cI, 8, .inl (fun _ => 0)))] := hD
  refine W.widen (k := 9) (n := 646) (Nat.le_of_ble_eq_true rfl) (Nat.le_of_ble_eq_true rfl) ?_
  refine nx_putF S0 hK hP hD hS hinit 0 17 hin_X8 tyX8 tyX8_ok nmX8 hf_34 rfl rfl (by decide) rfl rfl rfl rfl rfl (Nat.le_of_ble_eq_true rfl) dX8_init_75 (W1 := [(q_th, .inr (8, [.ref q_n7, .ref q_n15, .ref q_n24, .int 0, .int 0, .ref q_n32, .int 0, .int 0, .ref q_n40, .ref q_n48, .ref q_n57, .int 0, .ref q_n65, .int 0, .int 0, .int 0, .int 0, .ref q_n73, .null, .int 0, .int 0, .int 0, .null, .int 0])), (q_n7, .inl (cI, 54, .inl (fun _ => 0))), (q_n15, .inl (cI, 28, .inl (fun _ => 0))), (q_n24, .inl (cI, 200, .inl (fun _ => 0))), (q_n32, .inl (cI, 54, .inl (fun _ => 0))), (q_n40, .inl (cI, 25, .inl (fun _ => 0))), (q_n48, .inl (cI, 25, .inl (fun _ => 0))), (q_n57, .inl (cI, 224, .inl (fun _ => 0))), (q_n65, .inl (cI, 28, .inl (fun _ => 0))), (q_n73, .inl (cI, 8, .inl (fun _ => 0)))]) rfl (fun H locs hP hD hS => ?_)
  refine lv_aload_n hx hb dX8_init_78 rfl (lv_at hl 0 rfl) ?_
  refine lv_bipush (v := (nI 8)) hx hb dX8_init_79 (by decide) ?_
  refine nx_newa (N' := 8) S0 hK hP hD hS hA harr (by decide) (by decide) (Nat.le_of_ble_eq_true rfl) (Nat.le_of_ble_eq_true rfl) (Nat.le_of_ble_eq_true rfl) dX8_init_81 (fun q_n81 H hP hD hS => ?_)
  have hP : va_P (dC, dI) vwCl [(q_th, .inr (8, [.ref q_n7, .ref q_n15, .ref q_n24, .int 0, .int 0, .ref q_n32, .int 0, .int 0, .ref q_n40, .ref q_n48, .ref q_n57, .int 0, .ref q_n65, .int 0, .int 0, .int 0, .int 0, .ref q_n73, .null, .int 0, .int 0, .int 0, .null, .int 0])), (q_n7, .inl (cI, 54, .inl (fun _ => 0))), (q_n15, .inl (cI, 28, .inl (fun _ => 0))), (q_n24, .inl (cI, 200, .inl (fun _ => 0))), (q_n32, .inl (cI, 54, .inl (fun _ => 0))), (q_n40, .inl (cI, 25, .inl (fun _ => 0))), (q_n48, .inl (cI, 25, .inl (fun _ => 0))), (q_n57, .inl (cI, 224, .inl (fun _ => 0))), (q_n65, .inl (cI, 28, .inl (fun _ => 0))), (q_n73, .inl (cI, 8, .inl (fun _ => 0))), (q_n81, .inl (cI, 8, .inl (fun _ => 0)))] H := hP
  have hD : va_D A [(q_th, .inr (8, [.ref q_n7, .ref q_n15, .ref q_n24, .int 0, .int 0, .ref q_n32, .int 0, .int 0, .ref q_n40, .ref q_n48, .ref q_n57, .int 0, .ref q_n65, .int 0, .int 0, .int 0, .int 0, .ref q_n73, .null, .int 0, .int 0, .int 0, .null, .int 0])), (q_n7, .inl (cI, 54, .inl (fun _ => 0))), (q_n15, .inl (cI, 28, .inl (fun _ => 0))), (q_n24, .inl (cI, 200, .inl (fun _ => 0))), (q_n32, .inl (cI, 54, .inl (fun _ => 0))), (q_n40, .inl (cI, 25, .inl (fun _ => 0))), (q_n48, .inl (cI, 25, .inl (fun _ => 0))), (q_n57, .inl (cI, 224, .inl (fun _ => 0))), (q_n65, .inl (cI, 28, .inl (fun _ => 0))), (q_n73, .inl (cI, 8, .inl (fun _ => 0))), (q_n81, .inl (cI, 8, .inl (fun _ => 0)))] := hD
  refine W.widen (k := 10) (n := 654) (Nat.le_of_ble_eq_true rfl) (Nat.le_of_ble_eq_true rfl) ?_
  refine nx_putF S0 hK hP hD hS hinit 0 18 hin_X8 tyX8 tyX8_ok nmX8 hf_37 rfl rfl (by decide) rfl rfl rfl rfl rfl (Nat.le_of_ble_eq_true rfl) dX8_init_83 (W1 := [(q_th, .inr (8, [.ref q_n7, .ref q_n15, .ref q_n24, .int 0, .int 0, .ref q_n32, .int 0, .int 0, .ref q_n40, .ref q_n48, .ref q_n57, .int 0, .ref q_n65, .int 0, .int 0, .int 0, .int 0, .ref q_n73, .ref q_n81, .int 0, .int 0, .int 0, .null, .int 0])), (q_n7, .inl (cI, 54, .inl (fun _ => 0))), (q_n15, .inl (cI, 28, .inl (fun _ => 0))), (q_n24, .inl (cI, 200, .inl (fun _ => 0))), (q_n32, .inl (cI, 54, .inl (fun _ => 0))), (q_n40, .inl (cI, 25, .inl (fun _ => 0))), (q_n48, .inl (cI, 25, .inl (fun _ => 0))), (q_n57, .inl (cI, 224, .inl (fun _ => 0))), (q_n65, .inl (cI, 28, .inl (fun _ => 0))), (q_n73, .inl (cI, 8, .inl (fun _ => 0))), (q_n81, .inl (cI, 8, .inl (fun _ => 0)))]) rfl (fun H locs hP hD hS => ?_)
  refine lv_aload_n hx hb dX8_init_86 rfl (lv_at hl 0 rfl) ?_
  refine lv_bipush (v := (nI 56)) hx hb dX8_init_87 (by decide) ?_
  refine nx_newa (N' := 56) S0 hK hP hD hS hA harr (by decide) (by decide) (Nat.le_of_ble_eq_true rfl) (Nat.le_of_ble_eq_true rfl) (Nat.le_of_ble_eq_true rfl) dX8_init_89 (fun q_n89 H hP hD hS => ?_)
  have hP : va_P (dC, dI) vwCl [(q_th, .inr (8, [.ref q_n7, .ref q_n15, .ref q_n24, .int 0, .int 0, .ref q_n32, .int 0, .int 0, .ref q_n40, .ref q_n48, .ref q_n57, .int 0, .ref q_n65, .int 0, .int 0, .int 0, .int 0, .ref q_n73, .ref q_n81, .int 0, .int 0, .int 0, .null, .int 0])), (q_n7, .inl (cI, 54, .inl (fun _ => 0))), (q_n15, .inl (cI, 28, .inl (fun _ => 0))), (q_n24, .inl (cI, 200, .inl (fun _ => 0))), (q_n32, .inl (cI, 54, .inl (fun _ => 0))), (q_n40, .inl (cI, 25, .inl (fun _ => 0))), (q_n48, .inl (cI, 25, .inl (fun _ => 0))), (q_n57, .inl (cI, 224, .inl (fun _ => 0))), (q_n65, .inl (cI, 28, .inl (fun _ => 0))), (q_n73, .inl (cI, 8, .inl (fun _ => 0))), (q_n81, .inl (cI, 8, .inl (fun _ => 0))), (q_n89, .inl (cI, 56, .inl (fun _ => 0)))] H := hP
  have hD : va_D A [(q_th, .inr (8, [.ref q_n7, .ref q_n15, .ref q_n24, .int 0, .int 0, .ref q_n32, .int 0, .int 0, .ref q_n40, .ref q_n48, .ref q_n57, .int 0, .ref q_n65, .int 0, .int 0, .int 0, .int 0, .ref q_n73, .ref q_n81, .int 0, .int 0, .int 0, .null, .int 0])), (q_n7, .inl (cI, 54, .inl (fun _ => 0))), (q_n15, .inl (cI, 28, .inl (fun _ => 0))), (q_n24, .inl (cI, 200, .inl (fun _ => 0))), (q_n32, .inl (cI, 54, .inl (fun _ => 0))), (q_n40, .inl (cI, 25, .inl (fun _ => 0))), (q_n48, .inl (cI, 25, .inl (fun _ => 0))), (q_n57, .inl (cI, 224, .inl (fun _ => 0))), (q_n65, .inl (cI, 28, .inl (fun _ => 0))), (q_n73, .inl (cI, 8, .inl (fun _ => 0))), (q_n81, .inl (cI, 8, .inl (fun _ => 0))), (q_n89, .inl (cI, 56, .inl (fun _ => 0)))] := hD
  refine W.widen (k := 11) (n := 710) (Nat.le_of_ble_eq_true rfl) (Nat.le_of_ble_eq_true rfl) ?_
  refine nx_putF S0 hK hP hD hS hinit 0 22 hin_X8 tyX8 tyX8_ok nmX8 hf_40 rfl rfl (by decide) rfl rfl rfl rfl rfl (Nat.le_of_ble_eq_true rfl) dX8_init_91 (W1 := [(q_th, .inr (8, [.ref q_n7, .ref q_n15, .ref q_n24, .int 0, .int 0, .ref q_n32, .int 0, .int 0, .ref q_n40, .ref q_n48, .ref q_n57, .int 0, .ref q_n65, .int 0, .int 0, .int 0, .int 0, .ref q_n73, .ref q_n81, .int 0, .int 0, .int 0, .ref q_n89, .int 0])), (q_n7, .inl (cI, 54, .inl (fun _ => 0))), (q_n15, .inl (cI, 28, .inl (fun _ => 0))), (q_n24, .inl (cI, 200, .inl (fun _ => 0))), (q_n32, .inl (cI, 54, .inl (fun _ => 0))), (q_n40, .inl (cI, 25, .inl (fun _ => 0))), (q_n48, .inl (cI, 25, .inl (fun _ => 0))), (q_n57, .inl (cI, 224, .inl (fun _ => 0))), (q_n65, .inl (cI, 28, .inl (fun _ => 0))), (q_n73, .inl (cI, 8, .inl (fun _ => 0))), (q_n81, .inl (cI, 8, .inl (fun _ => 0))), (q_n89, .inl (cI, 56, .inl (fun _ => 0)))]) rfl (fun H locs hP hD hS => ?_)
  refine lv_aload_n hx hb dX8_init_94 rfl (lv_at hl 0 rfl) ?_
  refine nx_get S0 hK hP 0 0 hin_X8 hf_7 rfl rfl (by decide) rfl rfl dX8_init_95 ?_
  refine lv_iconst (v := (nI 0)) hx hb dX8_init_98 (by decide) ?_
  refine lv_iconst (v := (nI 5)) hx hb dX8_init_99 (by decide) ?_
  refine nx_iast S0 hK hP hD hS 1 rfl (by decide) dX8_init_100 (W1 := [(q_th, .inr (8, [.ref q_n7, .ref q_n15, .ref q_n24, .int 0, .int 0, .ref q_n32, .int 0, .int 0, .ref q_n40, .ref q_n48, .ref q_n57, .int 0, .ref q_n65, .int 0, .int 0, .int 0, .int 0, .ref q_n73, .ref q_n81, .int 0, .int 0, .int 0, .ref q_n89, .int 0])), (q_n7, .inl (cI, 54, .inl (upd (fun _ => 0) 0 (nI 5)))), (q_n15, .inl (cI, 28, .inl (fun _ => 0))), (q_n24, .inl (cI, 200, .inl (fun _ => 0))), (q_n32, .inl (cI, 54, .inl (fun _ => 0))), (q_n40, .inl (cI, 25, .inl (fun _ => 0))), (q_n48, .inl (cI, 25, .inl (fun _ => 0))), (q_n57, .inl (cI, 224, .inl (fun _ => 0))), (q_n65, .inl (cI, 28, .inl (fun _ => 0))), (q_n73, .inl (cI, 8, .inl (fun _ => 0))), (q_n81, .inl (cI, 8, .inl (fun _ => 0))), (q_n89, .inl (cI, 56, .inl (fun _ => 0)))]) rfl (fun H locs hP hD hS => ?_)
  refine lv_aload_n hx hb dX8_init_101 rfl (lv_at hl 0 rfl) ?_
  refine nx_get S0 hK hP 0 0 hin_X8 hf_7 rfl rfl (by decide) rfl rfl dX8_init_102 ?_
  refine lv_iconst (v := (nI 1)) hx hb dX8_init_105 (by decide) ?_
  refine lv_iconst (v := (nI 4)) hx hb dX8_init_106 (by decide) ?_
  refine nx_iast S0 hK hP hD hS 1 rfl (by decide) dX8_init_107 (W1 := [(q_th, .inr (8, [.ref q_n7, .ref q_n15, .ref q_n24, .int 0, .int 0, .ref q_n32, .int 0, .int 0, .ref q_n40, .ref q_n48, .ref q_n57, .int 0, .ref q_n65, .int 0, .int 0, .int 0, .int 0, .ref q_n73, .ref q_n81, .int 0, .int 0, .int 0, .ref q_n89, .int 0])), (q_n7, .inl (cI, 54, .inl (upd (upd (fun _ => 0) 0 (nI 5)) 1 (nI 4)))), (q_n15, .inl (cI, 28, .inl (fun _ => 0))), (q_n24, .inl (cI, 200, .inl (fun _ => 0))), (q_n32, .inl (cI, 54, .inl (fun _ => 0))), (q_n40, .inl (cI, 25, .inl (fun _ => 0))), (q_n48, .inl (cI, 25, .inl (fun _ => 0))), (q_n57, .inl (cI, 224, .inl (fun _ => 0))), (q_n65, .inl (cI, 28, .inl (fun _ => 0))), (q_n73, .inl (cI, 8, .inl (fun _ => 0))), (q_n81, .inl (cI, 8, .inl (fun _ => 0))), (q_n89, .inl (cI, 56, .inl (fun _ => 0)))]) rfl (fun H locs hP hD hS => ?_)
  refine lv_aload_n hx hb dX8_init_108 rfl (lv_at hl 0 rfl) ?_
  refine nx_get S0 hK hP 0 0 hin_X8 hf_7 rfl rfl (by decide) rfl rfl dX8_init_109 ?_
  refine lv_iconst (v := (nI 2)) hx hb dX8_init_112 (by decide) ?_
  refine lv_iconst (v := (nI 1)) hx hb dX8_init_113 (by decide) ?_
  refine nx_iast S0 hK hP hD hS 1 rfl (by decide) dX8_init_114 (W1 := [(q_th, .inr (8, [.ref q_n7, .ref q_n15, .ref q_n24, .int 0, .int 0, .ref q_n32, .int 0, .int 0, .ref q_n40, .ref q_n48, .ref q_n57, .int 0, .ref q_n65, .int 0, .int 0, .int 0, .int 0, .ref q_n73, .ref q_n81, .int 0, .int 0, .int 0, .ref q_n89, .int 0])), (q_n7, .inl (cI, 54, .inl (upd (upd (upd (fun _ => 0) 0 (nI 5)) 1 (nI 4)) 2 (nI 1)))), (q_n15, .inl (cI, 28, .inl (fun _ => 0))), (q_n24, .inl (cI, 200, .inl (fun _ => 0))), (q_n32, .inl (cI, 54, .inl (fun _ => 0))), (q_n40, .inl (cI, 25, .inl (fun _ => 0))), (q_n48, .inl (cI, 25, .inl (fun _ => 0))), (q_n57, .inl (cI, 224, .inl (fun _ => 0))), (q_n65, .inl (cI, 28, .inl (fun _ => 0))), (q_n73, .inl (cI, 8, .inl (fun _ => 0))), (q_n81, .inl (cI, 8, .inl (fun _ => 0))), (q_n89, .inl (cI, 56, .inl (fun _ => 0)))]) rfl (fun H locs hP hD hS => ?_)
  refine lv_aload_n hx hb dX8_init_115 rfl (lv_at hl 0 rfl) ?_
  refine nx_get S0 hK hP 0 0 hin_X8 hf_7 rfl rfl (by decide) rfl rfl dX8_init_116 ?_
  refine lv_bipush (v := (nI 34)) hx hb dX8_init_119 (by decide) ?_
  refine lv_iconst (v := (nI 1)) hx hb dX8_init_121 (by decide) ?_
  refine nx_iast S0 hK hP hD hS 1 rfl (by decide) dX8_init_122 (W1 := [(q_th, .inr (8, [.ref q_n7, .ref q_n15, .ref q_n24, .int 0, .int 0, .ref q_n32, .int 0, .int 0, .ref q_n40, .ref q_n48, .ref q_n57, .int 0, .ref q_n65, .int 0, .int 0, .int 0, .int 0, .ref q_n73, .ref q_n81, .int 0, .int 0, .int 0, .ref q_n89, .int 0])), (q_n7, .inl (cI, 54, .inl (upd (upd (upd (upd (fun _ => 0) 0 (nI 5)) 1 (nI 4)) 2 (nI 1)) 34 (nI 1)))), (q_n15, .inl (cI, 28, .inl (fun _ => 0))), (q_n24, .inl (cI, 200, .inl (fun _ => 0))), (q_n32, .inl (cI, 54, .inl (fun _ => 0))), (q_n40, .inl (cI, 25, .inl (fun _ => 0))), (q_n48, .inl (cI, 25, .inl (fun _ => 0))), (q_n57, .inl (cI, 224, .inl (fun _ => 0))), (q_n65, .inl (cI, 28, .inl (fun _ => 0))), (q_n73, .inl (cI, 8, .inl (fun _ => 0))), (q_n81, .inl (cI, 8, .inl (fun _ => 0))), (q_n89, .inl (cI, 56, .inl (fun _ => 0)))]) rfl (fun H locs hP hD hS => ?_)
  refine lv_aload_n hx hb dX8_init_123 rfl (lv_at hl 0 rfl) ?_
  refine nx_get S0 hK hP 0 0 hin_X8 hf_7 rfl rfl (by decide) rfl rfl dX8_init_124 ?_
  refine lv_bipush (v := (nI 35)) hx hb dX8_init_127 (by decide) ?_
  refine lv_iconst (v := (nI 2)) hx hb dX8_init_129 (by decide) ?_
  refine nx_iast S0 hK hP hD hS 1 rfl (by decide) dX8_init_130 (W1 := [(q_th, .inr (8, [.ref q_n7, .ref q_n15, .ref q_n24, .int 0, .int 0, .ref q_n32, .int 0, .int 0, .ref q_n40, .ref q_n48, .ref q_n57, .int 0, .ref q_n65, .int 0, .int 0, .int 0, .int 0, .ref q_n73, .ref q_n81, .int 0, .int 0, .int 0, .ref q_n89, .int 0])), (q_n7, .inl (cI, 54, .inl (upd (upd (upd (upd (upd (fun _ => 0) 0 (nI 5)) 1 (nI 4)) 2 (nI 1)) 34 (nI 1)) 35 (nI 2)))), (q_n15, .inl (cI, 28, .inl (fun _ => 0))), (q_n24, .inl (cI, 200, .inl (fun _ => 0))), (q_n32, .inl (cI, 54, .inl (fun _ => 0))), (q_n40, .inl (cI, 25, .inl (fun _ => 0))), (q_n48, .inl (cI, 25, .inl (fun _ => 0))), (q_n57, .inl (cI, 224, .inl (fun _ => 0))), (q_n65, .inl (cI, 28, .inl (fun _ => 0))), (q_n73, .inl (cI, 8, .inl (fun _ => 0))), (q_n81, .inl (cI, 8, .inl (fun _ => 0))), (q_n89, .inl (cI, 56, .inl (fun _ => 0)))]) rfl (fun H locs hP hD hS => ?_)
  refine lv_aload_n hx hb dX8_init_131 rfl (lv_at hl 0 rfl) ?_
  refine nx_get S0 hK hP 0 0 hin_X8 hf_7 rfl rfl (by decide) rfl rfl dX8_init_132 ?_
  refine lv_bipush (v := (nI 38)) hx hb dX8_init_135 (by decide) ?_
  refine lv_iconst (v := (nI 4)) hx hb dX8_init_137 (by decide) ?_
  refine nx_iast S0 hK hP hD hS 1 rfl (by decide) dX8_init_138 (W1 := [(q_th, .inr (8, [.ref q_n7, .ref q_n15, .ref q_n24, .int 0, .int 0, .ref q_n32, .int 0, .int 0, .ref q_n40, .ref q_n48, .ref q_n57, .int 0, .ref q_n65, .int 0, .int 0, .int 0, .int 0, .ref q_n73, .ref q_n81, .int 0, .int 0, .int 0, .ref q_n89, .int 0])), (q_n7, .inl (cI, 54, .inl (upd (upd (upd (upd (upd (upd (fun _ => 0) 0 (nI 5)) 1 (nI 4)) 2 (nI 1)) 34 (nI 1)) 35 (nI 2)) 38 (nI 4)))), (q_n15, .inl (cI, 28, .inl (fun _ => 0))), (q_n24, .inl (cI, 200, .inl (fun _ => 0))), (q_n32, .inl (cI, 54, .inl (fun _ => 0))), (q_n40, .inl (cI, 25, .inl (fun _ => 0))), (q_n48, .inl (cI, 25, .inl (fun _ => 0))), (q_n57, .inl (cI, 224, .inl (fun _ => 0))), (q_n65, .inl (cI, 28, .inl (fun _ => 0))), (q_n73, .inl (cI, 8, .inl (fun _ => 0))), (q_n81, .inl (cI, 8, .inl (fun _ => 0))), (q_n89, .inl (cI, 56, .inl (fun _ => 0)))]) rfl (fun H locs hP hD hS => ?_)
  refine lv_aload_n hx hb dX8_init_139 rfl (lv_at hl 0 rfl) ?_
  refine nx_get S0 hK hP 0 0 hin_X8 hf_7 rfl rfl (by decide) rfl rfl dX8_init_140 ?_
  refine lv_bipush (v := (nI 40)) hx hb dX8_init_143 (by decide) ?_
  refine lv_iconst (v := (nI 3)) hx hb dX8_init_145 (by decide) ?_
  refine nx_iast S0 hK hP hD hS 1 rfl (by decide) dX8_init_146 (W1 := [(q_th, .inr (8, [.ref q_n7, .ref q_n15, .ref q_n24, .int 0, .int 0, .ref q_n32, .int 0, .int 0, .ref q_n40, .ref q_n48, .ref q_n57, .int 0, .ref q_n65, .int 0, .int 0, .int 0, .int 0, .ref q_n73, .ref q_n81, .int 0, .int 0, .int 0, .ref q_n89, .int 0])), (q_n7, .inl (cI, 54, .inl (upd (upd (upd (upd (upd (upd (upd (fun _ => 0) 0 (nI 5)) 1 (nI 4)) 2 (nI 1)) 34 (nI 1)) 35 (nI 2)) 38 (nI 4)) 40 (nI 3)))), (q_n15, .inl (cI, 28, .inl (fun _ => 0))), (q_n24, .inl (cI, 200, .inl (fun _ => 0))), (q_n32, .inl (cI, 54, .inl (fun _ => 0))), (q_n40, .inl (cI, 25, .inl (fun _ => 0))), (q_n48, .inl (cI, 25, .inl (fun _ => 0))), (q_n57, .inl (cI, 224, .inl (fun _ => 0))), (q_n65, .inl (cI, 28, .inl (fun _ => 0))), (q_n73, .inl (cI, 8, .inl (fun _ => 0))), (q_n81, .inl (cI, 8, .inl (fun _ => 0))), (q_n89, .inl (cI, 56, .inl (fun _ => 0)))]) rfl (fun H locs hP hD hS => ?_)
  refine lv_aload_n hx hb dX8_init_147 rfl (lv_at hl 0 rfl) ?_
  refine nx_get S0 hK hP 0 0 hin_X8 hf_7 rfl rfl (by decide) rfl rfl dX8_init_148 ?_
  refine lv_bipush (v := (nI 41)) hx hb dX8_init_151 (by decide) ?_
  refine lv_iconst (v := (nI 1)) hx hb dX8_init_153 (by decide) ?_
  refine nx_iast S0 hK hP hD hS 1 rfl (by decide) dX8_init_154 (W1 := [(q_th, .inr (8, [.ref q_n7, .ref q_n15, .ref q_n24, .int 0, .int 0, .ref q_n32, .int 0, .int 0, .ref q_n40, .ref q_n48, .ref q_n57, .int 0, .ref q_n65, .int 0, .int 0, .int 0, .int 0, .ref q_n73, .ref q_n81, .int 0, .int 0, .int 0, .ref q_n89, .int 0])), (q_n7, .inl (cI, 54, .inl (upd (upd (upd (upd (upd (upd (upd (upd (fun _ => 0) 0 (nI 5)) 1 (nI 4)) 2 (nI 1)) 34 (nI 1)) 35 (nI 2)) 38 (nI 4)) 40 (nI 3)) 41 (nI 1)))), (q_n15, .inl (cI, 28, .inl (fun _ => 0))), (q_n24, .inl (cI, 200, .inl (fun _ => 0))), (q_n32, .inl (cI, 54, .inl (fun _ => 0))), (q_n40, .inl (cI, 25, .inl (fun _ => 0))), (q_n48, .inl (cI, 25, .inl (fun _ => 0))), (q_n57, .inl (cI, 224, .inl (fun _ => 0))), (q_n65, .inl (cI, 28, .inl (fun _ => 0))), (q_n73, .inl (cI, 8, .inl (fun _ => 0))), (q_n81, .inl (cI, 8, .inl (fun _ => 0))), (q_n89, .inl (cI, 56, .inl (fun _ => 0)))]) rfl (fun H locs hP hD hS => ?_)
  refine lv_aload_n hx hb dX8_init_155 rfl (lv_at hl 0 rfl) ?_
  refine nx_get S0 hK hP 0 0 hin_X8 hf_7 rfl rfl (by decide) rfl rfl dX8_init_156 ?_
  refine lv_bipush (v := (nI 43)) hx hb dX8_init_159 (by decide) ?_
  refine lv_iconst (v := (nI 1)) hx hb dX8_init_161 (by decide) ?_
  refine nx_iast S0 hK hP hD hS 1 rfl (by decide) dX8_init_162 (W1 := [(q_th, .inr (8, [.ref q_n7, .ref q_n15, .ref q_n24, .int 0, .int 0, .ref q_n32, .int 0, .int 0, .ref q_n40, .ref q_n48, .ref q_n57, .int 0, .ref q_n65, .int 0, .int 0, .int 0, .int 0, .ref q_n73, .ref q_n81, .int 0, .int 0, .int 0, .ref q_n89, .int 0])), (q_n7, .inl (cI, 54, .inl (upd (upd (upd (upd (upd (upd (upd (upd (upd (fun _ => 0) 0 (nI 5)) 1 (nI 4)) 2 (nI 1)) 34 (nI 1)) 35 (nI 2)) 38 (nI 4)) 40 (nI 3)) 41 (nI 1)) 43 (nI 1)))), (q_n15, .inl (cI, 28, .inl (fun _ => 0))), (q_n24, .inl (cI, 200, .inl (fun _ => 0))), (q_n32, .inl (cI, 54, .inl (fun _ => 0))), (q_n40, .inl (cI, 25, .inl (fun _ => 0))), (q_n48, .inl (cI, 25, .inl (fun _ => 0))), (q_n57, .inl (cI, 224, .inl (fun _ => 0))), (q_n65, .inl (cI, 28, .inl (fun _ => 0))), (q_n73, .inl (cI, 8, .inl (fun _ => 0))), (q_n81, .inl (cI, 8, .inl (fun _ => 0))), (q_n89, .inl (cI, 56, .inl (fun _ => 0)))]) rfl (fun H locs hP hD hS => ?_)
  refine lv_aload_n hx hb dX8_init_163 rfl (lv_at hl 0 rfl) ?_
  refine nx_get S0 hK hP 0 0 hin_X8 hf_7 rfl rfl (by decide) rfl rfl dX8_init_164 ?_
  refine lv_iconst (v := (nI 3)) hx hb dX8_init_167 (by decide) ?_
  refine lv_iconst (v := (nI 3)) hx hb dX8_init_168 (by decide) ?_
  refine nx_iast S0 hK hP hD hS 1 rfl (by decide) dX8_init_169 (W1 := [(q_th, .inr (8, [.ref q_n7, .ref q_n15, .ref q_n24, .int 0, .int 0, .ref q_n32, .int 0, .int 0, .ref q_n40, .ref q_n48, .ref q_n57, .int 0, .ref q_n65, .int 0, .int 0, .int 0, .int 0, .ref q_n73, .ref q_n81, .int 0, .int 0, .int 0, .ref q_n89, .int 0])), (q_n7, .inl (cI, 54, .inl (upd (upd (upd (upd (upd (upd (upd (upd (upd (upd (fun _ => 0) 0 (nI 5)) 1 (nI 4)) 2 (nI 1)) 34 (nI 1)) 35 (nI 2)) 38 (nI 4)) 40 (nI 3)) 41 (nI 1)) 43 (nI 1)) 3 (nI 3)))), (q_n15, .inl (cI, 28, .inl (fun _ => 0))), (q_n24, .inl (cI, 200, .inl (fun _ => 0))), (q_n32, .inl (cI, 54, .inl (fun _ => 0))), (q_n40, .inl (cI, 25, .inl (fun _ => 0))), (q_n48, .inl (cI, 25, .inl (fun _ => 0))), (q_n57, .inl (cI, 224, .inl (fun _ => 0))), (q_n65, .inl (cI, 28, .inl (fun _ => 0))), (q_n73, .inl (cI, 8, .inl (fun _ => 0))), (q_n81, .inl (cI, 8, .inl (fun _ => 0))), (q_n89, .inl (cI, 56, .inl (fun _ => 0)))]) rfl (fun H locs hP hD hS => ?_)
  refine lv_aload_n hx hb dX8_init_170 rfl (lv_at hl 0 rfl) ?_
  refine nx_get S0 hK hP 0 0 hin_X8 hf_7 rfl rfl (by decide) rfl rfl dX8_init_171 ?_
  refine lv_iconst (v := (nI 4)) hx hb dX8_init_174 (by decide) ?_
  refine lv_iconst (v := (nI 4)) hx hb dX8_init_175 (by decide) ?_
  refine nx_iast S0 hK hP hD hS 1 rfl (by decide) dX8_init_176 (W1 := [(q_th, .inr (8, [.ref q_n7, .ref q_n15, .ref q_n24, .int 0, .int 0, .ref q_n32, .int 0, .int 0, .ref q_n40, .ref q_n48, .ref q_n57, .int 0, .ref q_n65, .int 0, .int 0, .int 0, .int 0, .ref q_n73, .ref q_n81, .int 0, .int 0, .int 0, .ref q_n89, .int 0])), (q_n7, .inl (cI, 54, .inl (upd (upd (upd (upd (upd (upd (upd (upd (upd (upd (upd (fun _ => 0) 0 (nI 5)) 1 (nI 4)) 2 (nI 1)) 34 (nI 1)) 35 (nI 2)) 38 (nI 4)) 40 (nI 3)) 41 (nI 1)) 43 (nI 1)) 3 (nI 3)) 4 (nI 4)))), (q_n15, .inl (cI, 28, .inl (fun _ => 0))), (q_n24, .inl (cI, 200, .inl (fun _ => 0))), (q_n32, .inl (cI, 54, .inl (fun _ => 0))), (q_n40, .inl (cI, 25, .inl (fun _ => 0))), (q_n48, .inl (cI, 25, .inl (fun _ => 0))), (q_n57, .inl (cI, 224, .inl (fun _ => 0))), (q_n65, .inl (cI, 28, .inl (fun _ => 0))), (q_n73, .inl (cI, 8, .inl (fun _ => 0))), (q_n81, .inl (cI, 8, .inl (fun _ => 0))), (q_n89, .inl (cI, 56, .inl (fun _ => 0)))]) rfl (fun H locs hP hD hS => ?_)
  refine lv_aload_n hx hb dX8_init_177 rfl (lv_at hl 0 rfl) ?_
  refine nx_get S0 hK hP 0 0 hin_X8 hf_7 rfl rfl (by decide) rfl rfl dX8_init_178 ?_
  refine lv_bipush (v := (nI 6)) hx hb dX8_init_181 (by decide) ?_
  refine lv_iconst (v := (nI 2)) hx hb dX8_init_183 (by decide) ?_
  refine nx_iast S0 hK hP hD hS 1 rfl (by decide) dX8_init_184 (W1 := [(q_th, .inr (8, [.ref q_n7, .ref q_n15, .ref q_n24, .int 0, .int 0, .ref q_n32, .int 0, .int 0, .ref q_n40, .ref q_n48, .ref q_n57, .int 0, .ref q_n65, .int 0, .int 0, .int 0, .int 0, .ref q_n73, .ref q_n81, .int 0, .int 0, .int 0, .ref q_n89, .int 0])), (q_n7, .inl (cI, 54, .inl (upd (upd (upd (upd (upd (upd (upd (upd (upd (upd (upd (upd (fun _ => 0) 0 (nI 5)) 1 (nI 4)) 2 (nI 1)) 34 (nI 1)) 35 (nI 2)) 38 (nI 4)) 40 (nI 3)) 41 (nI 1)) 43 (nI 1)) 3 (nI 3)) 4 (nI 4)) 6 (nI 2)))), (q_n15, .inl (cI, 28, .inl (fun _ => 0))), (q_n24, .inl (cI, 200, .inl (fun _ => 0))), (q_n32, .inl (cI, 54, .inl (fun _ => 0))), (q_n40, .inl (cI, 25, .inl (fun _ => 0))), (q_n48, .inl (cI, 25, .inl (fun _ => 0))), (q_n57, .inl (cI, 224, .inl (fun _ => 0))), (q_n65, .inl (cI, 28, .inl (fun _ => 0))), (q_n73, .inl (cI, 8, .inl (fun _ => 0))), (q_n81, .inl (cI, 8, .inl (fun _ => 0))), (q_n89, .inl (cI, 56, .inl (fun _ => 0)))]) rfl (fun H locs hP hD hS => ?_)
  refine lv_aload_n hx hb dX8_init_185 rfl (lv_at hl 0 rfl) ?_
  refine lv_iconst (v := (nI 0)) hx hb dX8_init_186 (by decide) ?_
  refine lv_iconst (v := (nI 3)) hx hb dX8_init_187 (by decide) ?_
  refine lv_bipush (v := (nI 10)) hx hb dX8_init_188 (by decide) ?_
  refine nx_callVvG (As := [.int (nI 0), .int (nI 3), .int (nI 10)]) (rest := []) (W1 := [(q_th, .inr (8, [.ref q_n7, .ref q_n15, .ref q_n24, .int 0, .int 0, .ref q_n32, .int 0, .int 0, .ref q_n40, .ref q_n48, .ref q_n57, .int 0, .ref q_n65, .int 0, .int 0, .int 0, .int 0, .ref q_n73, .ref q_n81, .int 0, .int 0, .int 0, .ref q_n89, .int 0])), (q_n7, .inl (cI, 54, .inl o190)), (q_n15, .inl (cI, 28, .inl (fun _ => 0))), (q_n24, .inl (cI, 200, .inl (fun _ => 0))), (q_n32, .inl (cI, 54, .inl (fun _ => 0))), (q_n40, .inl (cI, 25, .inl (fun _ => 0))), (q_n48, .inl (cI, 25, .inl (fun _ => 0))), (q_n57, .inl (cI, 224, .inl (fun _ => 0))), (q_n65, .inl (cI, 28, .inl (fun _ => 0))), (q_n73, .inl (cI, 8, .inl (fun _ => 0))), (q_n81, .inl (cI, 8, .inl (fun _ => 0))), (q_n89, .inl (cI, 56, .inl (fun _ => 0)))]) (wr := [(q_n15, .inl (cI, 28, .inl (fun _ => 0))), (q_n24, .inl (cI, 200, .inl (fun _ => 0))), (q_n32, .inl (cI, 54, .inl (fun _ => 0))), (q_n40, .inl (cI, 25, .inl (fun _ => 0))), (q_n48, .inl (cI, 25, .inl (fun _ => 0))), (q_n57, .inl (cI, 224, .inl (fun _ => 0))), (q_n65, .inl (cI, 28, .inl (fun _ => 0))), (q_n73, .inl (cI, 8, .inl (fun _ => 0))), (q_n81, .inl (cI, 8, .inl (fun _ => 0))), (q_n89, .inl (cI, 56, .inl (fun _ => 0)))]) S0 hK hN hA hP hD hS (kX8_rents l dC dI cI q_th q_n7 _ (.ref q_n15) (.ref q_n24) 0 0 (.ref q_n32) 0 0 (.ref q_n40) (.ref q_n48) (.ref q_n57) 0 (.ref q_n65) 0 0 0 0 (.ref q_n73) (.ref q_n81) 0 0 0 (.ref q_n89) 0 (upd (upd (upd (upd (upd (upd (upd (upd (upd (upd (upd (upd (fun _ => 0) 0 (nI 5)) 1 (nI 4)) 2 (nI 1)) 34 (nI 1)) 35 (nI 2)) 38 (nI 4)) 40 (nI 3)) 41 (nI 1)) 43 (nI 1)) 3 (nI 3)) 4 (nI 4)) 6 (nI 2)) (nI 0) (nI 3) (nI 10) N o190 hF190) (cwV 3 hts gX8_init_X8_rents rfl rfl rfl ⟨rfl, hdX8_rents⟩ ⟨Nat.le_of_ble_eq_true rfl, Nat.le_of_ble_eq_true rfl⟩) [0, 1] [2, 3, 4, 5, 6, 7, 8, 9, 10, 11] [10, 11, 0, 1, 2, 3, 4, 5, 6, 7, 8, 9] rfl rfl rfl rfl 0 8 rfl rfl rfl rfl hl.1 rfl (Nat.le_of_ble_eq_true rfl) dX8_init_190 ⟨Nat.le_of_ble_eq_true rfl, Nat.le_of_ble_eq_true rfl⟩ (fun H locs hP hD hS => ?_)
  refine lv_aload_n hx hb dX8_init_193 rfl (lv_at hl 0 rfl) ?_
  refine lv_iconst (v := (nI 1)) hx hb dX8_init_194 (by decide) ?_
  refine lv_iconst (v := (nI 5)) hx hb dX8_init_195 (by decide) ?_
  refine lv_iconst (v := (nI 4)) hx hb dX8_init_196 (by decide) ?_
  refine nx_callVvG (As := [.int (nI 1), .int (nI 5), .int (nI 4)]) (rest := []) (W1 := [(q_th, .inr (8, [.ref q_n7, .ref q_n15, .ref q_n24, .int 0, .int 0, .ref q_n32, .int 0, .int 0, .ref q_n40, .ref q_n48, .ref q_n57, .int 0, .ref q_n65, .int 0, .int 0, .int 0, .int 0, .ref q_n73, .ref q_n81, .int 0, .int 0, .int 0, .ref q_n89, .int 0])), (q_n7, .inl (cI, 54, .inl o197)), (q_n15, .inl (cI, 28, .inl (fun _ => 0))), (q_n24, .inl (cI, 200, .inl (fun _ => 0))), (q_n32, .inl (cI, 54, .inl (fun _ => 0))), (q_n40, .inl (cI, 25, .inl (fun _ => 0))), (q_n48, .inl (cI, 25, .inl (fun _ => 0))), (q_n57, .inl (cI, 224, .inl (fun _ => 0))), (q_n65, .inl (cI, 28, .inl (fun _ => 0))), (q_n73, .inl (cI, 8, .inl (fun _ => 0))), (q_n81, .inl (cI, 8, .inl (fun _ => 0))), (q_n89, .inl (cI, 56, .inl (fun _ => 0)))]) (wr := [(q_n15, .inl (cI, 28, .inl (fun _ => 0))), (q_n24, .inl (cI, 200, .inl (fun _ => 0))), (q_n32, .inl (cI, 54, .inl (fun _ => 0))), (q_n40, .inl (cI, 25, .inl (fun _ => 0))), (q_n48, .inl (cI, 25, .inl (fun _ => 0))), (q_n57, .inl (cI, 224, .inl (fun _ => 0))), (q_n65, .inl (cI, 28, .inl (fun _ => 0))), (q_n73, .inl (cI, 8, .inl (fun _ => 0))), (q_n81, .inl (cI, 8, .inl (fun _ => 0))), (q_n89, .inl (cI, 56, .inl (fun _ => 0)))]) S0 hK hN hA hP hD hS (kX8_rents l dC dI cI q_th q_n7 _ (.ref q_n15) (.ref q_n24) 0 0 (.ref q_n32) 0 0 (.ref q_n40) (.ref q_n48) (.ref q_n57) 0 (.ref q_n65) 0 0 0 0 (.ref q_n73) (.ref q_n81) 0 0 0 (.ref q_n89) 0 o190 (nI 1) (nI 5) (nI 4) N o197 hF197) (cwV 3 hts gX8_init_X8_rents rfl rfl rfl ⟨rfl, hdX8_rents⟩ ⟨Nat.le_of_ble_eq_true rfl, Nat.le_of_ble_eq_true rfl⟩) [0, 1] [2, 3, 4, 5, 6, 7, 8, 9, 10, 11] [10, 11, 0, 1, 2, 3, 4, 5, 6, 7, 8, 9] rfl rfl rfl rfl 0 8 rfl rfl rfl rfl hl.1 rfl (Nat.le_of_ble_eq_true rfl) dX8_init_197 ⟨Nat.le_of_ble_eq_true rfl, Nat.le_of_ble_eq_true rfl⟩ (fun H locs hP hD hS => ?_)
  refine lv_aload_n hx hb dX8_init_200 rfl (lv_at hl 0 rfl) ?_
  refine lv_iconst (v := (nI 2)) hx hb dX8_init_201 (by decide) ?_
  refine lv_bipush (v := (nI 9)) hx hb dX8_init_202 (by decide) ?_
  refine lv_bipush (v := (nI 7)) hx hb dX8_init_204 (by decide) ?_
  refine nx_callVvG (As := [.int (nI 2), .int (nI 9), .int (nI 7)]) (rest := []) (W1 := [(q_th, .inr (8, [.ref q_n7, .ref q_n15, .ref q_n24, .int 0, .int 0, .ref q_n32, .int 0, .int 0, .ref q_n40, .ref q_n48, .ref q_n57, .int 0, .ref q_n65, .int 0, .int 0, .int 0, .int 0, .ref q_n73, .ref q_n81, .int 0, .int 0, .int 0, .ref q_n89, .int 0])), (q_n7, .inl (cI, 54, .inl o206)), (q_n15, .inl (cI, 28, .inl (fun _ => 0))), (q_n24, .inl (cI, 200, .inl (fun _ => 0))), (q_n32, .inl (cI, 54, .inl (fun _ => 0))), (q_n40, .inl (cI, 25, .inl (fun _ => 0))), (q_n48, .inl (cI, 25, .inl (fun _ => 0))), (q_n57, .inl (cI, 224, .inl (fun _ => 0))), (q_n65, .inl (cI, 28, .inl (fun _ => 0))), (q_n73, .inl (cI, 8, .inl (fun _ => 0))), (q_n81, .inl (cI, 8, .inl (fun _ => 0))), (q_n89, .inl (cI, 56, .inl (fun _ => 0)))]) (wr := [(q_n15, .inl (cI, 28, .inl (fun _ => 0))), (q_n24, .inl (cI, 200, .inl (fun _ => 0))), (q_n32, .inl (cI, 54, .inl (fun _ => 0))), (q_n40, .inl (cI, 25, .inl (fun _ => 0))), (q_n48, .inl (cI, 25, .inl (fun _ => 0))), (q_n57, .inl (cI, 224, .inl (fun _ => 0))), (q_n65, .inl (cI, 28, .inl (fun _ => 0))), (q_n73, .inl (cI, 8, .inl (fun _ => 0))), (q_n81, .inl (cI, 8, .inl (fun _ => 0))), (q_n89, .inl (cI, 56, .inl (fun _ => 0)))]) S0 hK hN hA hP hD hS (kX8_rents l dC dI cI q_th q_n7 _ (.ref q_n15) (.ref q_n24) 0 0 (.ref q_n32) 0 0 (.ref q_n40) (.ref q_n48) (.ref q_n57) 0 (.ref q_n65) 0 0 0 0 (.ref q_n73) (.ref q_n81) 0 0 0 (.ref q_n89) 0 o197 (nI 2) (nI 9) (nI 7) N o206 hF206) (cwV 3 hts gX8_init_X8_rents rfl rfl rfl ⟨rfl, hdX8_rents⟩ ⟨Nat.le_of_ble_eq_true rfl, Nat.le_of_ble_eq_true rfl⟩) [0, 1] [2, 3, 4, 5, 6, 7, 8, 9, 10, 11] [10, 11, 0, 1, 2, 3, 4, 5, 6, 7, 8, 9] rfl rfl rfl rfl 0 8 rfl rfl rfl rfl hl.1 rfl (Nat.le_of_ble_eq_true rfl) dX8_init_206 ⟨Nat.le_of_ble_eq_true rfl, Nat.le_of_ble_eq_true rfl⟩ (fun H locs hP hD hS => ?_)
  refine lv_aload_n hx hb dX8_init_209 rfl (lv_at hl 0 rfl) ?_
  refine nx_get S0 hK hP 0 0 hin_X8 hf_7 rfl rfl (by decide) rfl rfl dX8_init_210 ?_
  refine lv_bipush (v := (nI 13)) hx hb dX8_init_213 (by decide) ?_
  refine lv_iconst (v := (nI 3)) hx hb dX8_init_215 (by decide) ?_
  refine nx_iast S0 hK hP hD hS 1 rfl (by decide) dX8_init_216 (W1 := [(q_th, .inr (8, [.ref q_n7, .ref q_n15, .ref q_n24, .int 0, .int 0, .ref q_n32, .int 0, .int 0, .ref q_n40, .ref q_n48, .ref q_n57, .int 0, .ref q_n65, .int 0, .int 0, .int 0, .int 0, .ref q_n73, .ref q_n81, .int 0, .int 0, .int 0, .ref q_n89, .int 0])), (q_n7, .inl (cI, 54, .inl (upd o206 13 (nI 3)))), (q_n15, .inl (cI, 28, .inl (fun _ => 0))), (q_n24, .inl (cI, 200, .inl (fun _ => 0))), (q_n32, .inl (cI, 54, .inl (fun _ => 0))), (q_n40, .inl (cI, 25, .inl (fun _ => 0))), (q_n48, .inl (cI, 25, .inl (fun _ => 0))), (q_n57, .inl (cI, 224, .inl (fun _ => 0))), (q_n65, .inl (cI, 28, .inl (fun _ => 0))), (q_n73, .inl (cI, 8, .inl (fun _ => 0))), (q_n81, .inl (cI, 8, .inl (fun _ => 0))), (q_n89, .inl (cI, 56, .inl (fun _ => 0)))]) rfl (fun H locs hP hD hS => ?_)
  refine lv_aload_n hx hb dX8_init_217 rfl (lv_at hl 0 rfl) ?_
  refine nx_get S0 hK hP 0 0 hin_X8 hf_7 rfl rfl (by decide) rfl rfl dX8_init_218 ?_
  refine lv_bipush (v := (nI 24)) hx hb dX8_init_221 (by decide) ?_
  refine lv_iconst (v := (nI 2)) hx hb dX8_init_223 (by decide) ?_
  refine nx_iast S0 hK hP hD hS 1 rfl (by decide) dX8_init_224 (W1 := [(q_th, .inr (8, [.ref q_n7, .ref q_n15, .ref q_n24, .int 0, .int 0, .ref q_n32, .int 0, .int 0, .ref q_n40, .ref q_n48, .ref q_n57, .int 0, .ref q_n65, .int 0, .int 0, .int 0, .int 0, .ref q_n73, .ref q_n81, .int 0, .int 0, .int 0, .ref q_n89, .int 0])), (q_n7, .inl (cI, 54, .inl (upd (upd o206 13 (nI 3)) 24 (nI 2)))), (q_n15, .inl (cI, 28, .inl (fun _ => 0))), (q_n24, .inl (cI, 200, .inl (fun _ => 0))), (q_n32, .inl (cI, 54, .inl (fun _ => 0))), (q_n40, .inl (cI, 25, .inl (fun _ => 0))), (q_n48, .inl (cI, 25, .inl (fun _ => 0))), (q_n57, .inl (cI, 224, .inl (fun _ => 0))), (q_n65, .inl (cI, 28, .inl (fun _ => 0))), (q_n73, .inl (cI, 8, .inl (fun _ => 0))), (q_n81, .inl (cI, 8, .inl (fun _ => 0))), (q_n89, .inl (cI, 56, .inl (fun _ => 0)))]) rfl (fun H locs hP hD hS => ?_)
  refine lv_aload_n hx hb dX8_init_225 rfl (lv_at hl 0 rfl) ?_
  refine nx_get S0 hK hP 0 0 hin_X8 hf_7 rfl rfl (by decide) rfl rfl dX8_init_226 ?_
  refine lv_bipush (v := (nI 26)) hx hb dX8_init_229 (by decide) ?_
  refine lv_iconst (v := (nI 3)) hx hb dX8_init_231 (by decide) ?_
  refine nx_iast S0 hK hP hD hS 1 rfl (by decide) dX8_init_232 (W1 := [(q_th, .inr (8, [.ref q_n7, .ref q_n15, .ref q_n24, .int 0, .int 0, .ref q_n32, .int 0, .int 0, .ref q_n40, .ref q_n48, .ref q_n57, .int 0, .ref q_n65, .int 0, .int 0, .int 0, .int 0, .ref q_n73, .ref q_n81, .int 0, .int 0, .int 0, .ref q_n89, .int 0])), (q_n7, .inl (cI, 54, .inl (upd (upd (upd o206 13 (nI 3)) 24 (nI 2)) 26 (nI 3)))), (q_n15, .inl (cI, 28, .inl (fun _ => 0))), (q_n24, .inl (cI, 200, .inl (fun _ => 0))), (q_n32, .inl (cI, 54, .inl (fun _ => 0))), (q_n40, .inl (cI, 25, .inl (fun _ => 0))), (q_n48, .inl (cI, 25, .inl (fun _ => 0))), (q_n57, .inl (cI, 224, .inl (fun _ => 0))), (q_n65, .inl (cI, 28, .inl (fun _ => 0))), (q_n73, .inl (cI, 8, .inl (fun _ => 0))), (q_n81, .inl (cI, 8, .inl (fun _ => 0))), (q_n89, .inl (cI, 56, .inl (fun _ => 0)))]) rfl (fun H locs hP hD hS => ?_)
  refine lv_aload_n hx hb dX8_init_233 rfl (lv_at hl 0 rfl) ?_
  refine nx_callVvG (As := []) (rest := []) (W1 := [(q_th, .inr (8, [.ref q_n7, .ref q_n15, .ref q_n24, .int 0, .int 0, .ref q_n32, .int 0, .int 0, .ref q_n40, .ref q_n48, .ref q_n57, .int 0, .ref q_n65, .int 0, .int 0, .int 0, .int 0, .ref q_n73, .ref q_n81, .int 0, .int 0, .int 0, .ref q_n89, .int 0])), (q_n7, .inl (cI, 54, .inl (upd (upd (upd o206 13 (nI 3)) 24 (nI 2)) 26 (nI 3)))), (q_n15, .inl (cI, 28, .inl o234)), (q_n24, .inl (cI, 200, .inl (fun _ => 0))), (q_n32, .inl (cI, 54, .inl (fun _ => 0))), (q_n40, .inl (cI, 25, .inl (fun _ => 0))), (q_n48, .inl (cI, 25, .inl (fun _ => 0))), (q_n57, .inl (cI, 224, .inl (fun _ => 0))), (q_n65, .inl (cI, 28, .inl (fun _ => 0))), (q_n73, .inl (cI, 8, .inl (fun _ => 0))), (q_n81, .inl (cI, 8, .inl (fun _ => 0))), (q_n89, .inl (cI, 56, .inl (fun _ => 0)))]) (wr := [(q_n24, .inl (cI, 200, .inl (fun _ => 0))), (q_n32, .inl (cI, 54, .inl (fun _ => 0))), (q_n40, .inl (cI, 25, .inl (fun _ => 0))), (q_n48, .inl (cI, 25, .inl (fun _ => 0))), (q_n57, .inl (cI, 224, .inl (fun _ => 0))), (q_n65, .inl (cI, 28, .inl (fun _ => 0))), (q_n73, .inl (cI, 8, .inl (fun _ => 0))), (q_n81, .inl (cI, 8, .inl (fun _ => 0))), (q_n89, .inl (cI, 56, .inl (fun _ => 0)))]) S0 hK hN hA hP hD hS (kX8_begins0 l dC dI cI q_th q_n15 q_n7 _ (.ref q_n24) 0 0 (.ref q_n32) 0 0 (.ref q_n40) (.ref q_n48) (.ref q_n57) 0 (.ref q_n65) 0 0 0 0 (.ref q_n73) (.ref q_n81) 0 0 0 (.ref q_n89) 0 (fun _ => 0) (upd (upd (upd o206 13 (nI 3)) 24 (nI 2)) 26 (nI 3)) N o234 hF234) (cwV 0 hts gX8_init_X8_begins0 rfl rfl rfl ⟨rfl, hdX8_begins0⟩ ⟨Nat.le_of_ble_eq_true rfl, Nat.le_of_ble_eq_true rfl⟩) [0, 2, 1] [3, 4, 5, 6, 7, 8, 9, 10, 11] [9, 11, 10, 0, 1, 2, 3, 4, 5, 6, 7, 8] rfl rfl rfl rfl 0 8 rfl rfl rfl rfl hl.1 rfl (Nat.le_of_ble_eq_true rfl) dX8_init_234 ⟨Nat.le_of_ble_eq_true rfl, Nat.le_of_ble_eq_true rfl⟩ (fun H locs hP hD hS => ?_)
  exact ret0 (q_n7, q_n15, q_n24, q_n32, q_n40, q_n48, q_n57, q_n65, q_n73, q_n81, q_n89) _ _ _ _ dX8_init_237 hP hD hS
