theorem hdX0_add : yX0_add.cls ≠ "java/lang/invoke/MethodHandle" ∧ yX0_add.cls ≠ "java/lang/invoke/VarHandle" ∧ (parseMethodDescriptor yX0_add.desc).map (fun d => d.parameters.length) = some 1 := by decide +kernel
set_option maxHeartbeats 40000000 in
set_option maxRecDepth 100000 in
theorem kX0_add (l : Launch) (dC : Nat → ClassId) (dI : Nat → Nat → Nat) (cI : ClassId) (q_th : Nat) (q_th_letters : Nat) (sz : Nat) (th_length : Int32) (th_letters : Nat → Int32) (p1 : Int32) (N : Nat) (o : Int32 × Int32 × (Nat → Int32)) (hF : fX0_add N th_length p1 th_letters = some o) : nx_I l yX0_add wsX0_add ({ frames := 0, cells := 0, slots := 0, locals := 0 } : Room) (dC, dI) cI [.ref q_th, .int p1] [(q_th, .inr (0, [.ref q_th_letters, .int th_length])), (q_th_letters, .inl (cI, 200, .inl th_letters))] sz o.1 [(q_th, .inr (0, [.ref q_th_letters, .int o.2.1])), (q_th_letters, .inl (cI, 200, .inl o.2.2))] := by
  refine nx_zint (cc := cX0_add) (maxL := 2) (by decide) rfl (Nat.le_of_ble_eq_true rfl) ?_
  intro p e s m args below meth c Q A S0 hK hN hA ret0 hP hD hS ls hl
  have S0 : CallFix p m c cX0_add 2 s args wsX0_add RX0 := S0
  have hx := S0.1
  have hb := S0.2.1
  have hown := S0.2.2.2.1
  have hts := S0.2.2.2.2
  have hf_15 := hts (.fieldLink RX0 15 "SnailsYear$Letters" "length" "I") (by decide +kernel)
  have hin_X0 : ∀ w ∈ wsX00, w ∈ wsX0_add := by decide +kernel
  have hf_9 := hts (.fieldLink RX0 9 "SnailsYear$Letters" "letters" "[I") (by decide +kernel)
  have hl : lv_has ls 2 [(0, .ref q_th), (1, .int p1)] := hl
  have hret : ∀ (r0 : Int32) (y0 : Int32) (y1 : Nat → Int32) (H : Heap) (locs : List Loc) (ls : Array Slot) (pc : Nat), (r0 = 0 ∨ r0 = 1) → some (r0, y0, y1) = some o → decode cX0_add pc = .ok (.ireturn, 1) → va_P (dC, dI) vwCl [(q_th, .inr (0, [.ref q_th_letters, .int y0])), (q_th_letters, .inl (cI, 200, .inl y1))] H → va_D A [(q_th, .inr (0, [.ref q_th_letters, .int y0])), (q_th_letters, .inl (cI, 200, .inl y1))] → va_S A s.heap H locs → W p l e ({ frames := 0, cells := 0, slots := 0, locals := 0 } : Room) s m args below meth c H locs 0 0 Q (F0 m pc ls [.int r0]) := by
    intro r0 y0 y1 H locs ls pc hz ho hd hP hD hS
    cases ho
    exact ret0 H locs ls pc hz hd hP hD hS
  rw [fX0_add_e] at hF
  refine lv_aload_n hx hb dX0_add_0 rfl (lv_at hl 0 rfl) ?_
  refine nx_get S0 hK hP 0 1 hin_X0 hf_15 rfl rfl (by decide) rfl rfl dX0_add_1 ?_
  refine lv_if_lt (tgt := 19) hx hb dX0_add_4 (by decide) (fun hc => ?_) (fun hc => ?_)
  · have hF := ng_t hc hF
    refine lv_iconst (v := (nI 0)) hx hb dX0_add_19 (by decide) ?_
    exact hret (nI 0) th_length th_letters _ _ _ _ (Or.inl rfl) hF dX0_add_20 hP hD hS
  · have hF := ng_f hc hF
    refine lv_aload_n hx hb dX0_add_7 rfl (lv_at hl 0 rfl) ?_
    refine nx_get S0 hK hP 0 1 hin_X0 hf_15 rfl rfl (by decide) rfl rfl dX0_add_8 ?_
    refine lv_aload_n hx hb dX0_add_11 rfl (lv_at hl 0 rfl) ?_
    refine nx_get S0 hK hP 0 0 hin_X0 hf_9 rfl rfl (by decide) rfl rfl dX0_add_12 ?_
    refine nx_alen S0 hK hP 1 (v := (nI 200)) rfl (by decide) dX0_add_15 ?_
    refine lv_icmp_lt (tgt := 21) hx hb dX0_add_16 (by decide) (fun hc => ?_) (fun hc => ?_)
    · have hF := ng_t hc hF
      refine lv_aload_n hx hb dX0_add_21 rfl (lv_at hl 0 rfl) ?_
      refine nx_get S0 hK hP 0 0 hin_X0 hf_9 rfl rfl (by decide) rfl rfl dX0_add_22 ?_
      refine lv_aload_n hx hb dX0_add_25 rfl (lv_at hl 0 rfl) ?_
      refine nx_get S0 hK hP 0 1 hin_X0 hf_15 rfl rfl (by decide) rfl rfl dX0_add_26 ?_
      refine lv_iload_n hx hb dX0_add_29 rfl (lv_at hl 1 rfl) ?_
      have hg := ng_p hF
      have hF := ng_x hF
      refine nx_iast S0 hK hP hD hS 1 rfl hg dX0_add_30 (W1 := [(q_th, .inr (0, [.ref q_th_letters, .int th_length])), (q_th_letters, .inl (cI, 200, .inl (upd th_letters th_length.toNatClampNeg p1)))]) rfl (fun H locs hP hD hS => ?_)
      refine lv_aload_n hx hb dX0_add_31 rfl (lv_at hl 0 rfl) ?_
      refine lv_dup hx hb dX0_add_32 rfl ?_
      refine nx_get S0 hK hP 0 1 hin_X0 hf_15 rfl rfl (by decide) rfl rfl dX0_add_33 ?_
      refine lv_iconst (v := (nI 1)) hx hb dX0_add_36 (by decide) ?_
      refine lv_iadd hx hb dX0_add_37 ?_
      refine nx_put S0 hK hP hD hS 0 1 hin_X0 tyX0 tyX0_ok nmX0 hf_15 rfl rfl (by decide) rfl rfl rfl rfl (Nat.le_of_ble_eq_true rfl) dX0_add_38 (W1 := [(q_th, .inr (0, [.ref q_th_letters, .int (th_length + (nI 1))])), (q_th_letters, .inl (cI, 200, .inl (upd th_letters th_length.toNatClampNeg p1)))]) rfl (fun H locs hP hD hS => ?_)
      refine lv_iconst (v := (nI 1)) hx hb dX0_add_41 (by decide) ?_
      exact hret (nI 1) (th_length + (nI 1)) (upd th_letters th_length.toNatClampNeg p1) _ _ _ _ (Or.inr rfl) hF dX0_add_42 hP hD hS
    · have hF := ng_f hc hF
      refine lv_iconst (v := (nI 0)) hx hb dX0_add_19 (by decide) ?_
      exact hret (nI 0) th_length th_letters _ _ _ _ (Or.inl rfl) hF dX0_add_20 hP hD hS
theorem hdX0_at : yX0_at.cls ≠ "java/lang/invoke/MethodHandle" ∧ yX0_at.cls ≠ "java/lang/invoke/VarHandle" ∧ (parseMethodDescriptor yX0_at.desc).map (fun d => d.parameters.length) = some 1 := by decide +kernel
set_option maxHeartbeats 40000000 in
set_option maxRecDepth 100000 in
theorem kX0_at (l : Launch) (dC : Nat → ClassId) (dI : Nat → Nat → Nat) (cI : ClassId) (q_th : Nat) (q_th_letters : Nat) (sz : Nat) (th_length : Int32) (th_letters : Nat → Int32) (p1 : Int32) (N : Nat) (o : Int32) (hF : fX0_at N th_length p1 th_letters = some o) : nx_I l yX0_at wsX0_at ({ frames := 0, cells := 0, slots := 0, locals := 0 } : Room) (dC, dI) cI [.ref q_th, .int p1] [(q_th, .inr (0, [.ref q_th_letters, .int th_length])), (q_th_letters, .inl (cI, 200, .inl th_letters))] sz o [(q_th, .inr (0, [.ref q_th_letters, .int th_length])), (q_th_letters, .inl (cI, 200, .inl th_letters))] := by
  refine nx_int (cc := cX0_at) (maxL := 2) (by decide) rfl (Nat.le_of_ble_eq_true rfl) ?_
  intro p e s m args below meth c Q A S0 hK hN hA ret0 hP hD hS ls hl
  have S0 : CallFix p m c cX0_at 2 s args wsX0_at RX0 := S0
  have hx := S0.1
  have hb := S0.2.1
  have hown := S0.2.2.2.1
  have hts := S0.2.2.2.2
  have hf_15 := hts (.fieldLink RX0 15 "SnailsYear$Letters" "length" "I") (by decide +kernel)
  have hin_X0 : ∀ w ∈ wsX00, w ∈ wsX0_at := by decide +kernel
  have hf_9 := hts (.fieldLink RX0 9 "SnailsYear$Letters" "letters" "[I") (by decide +kernel)
  have hl : lv_has ls 2 [(0, .ref q_th), (1, .int p1)] := hl
  have hret : ∀ (r0 : Int32) (H : Heap) (locs : List Loc) (ls : Array Slot) (pc : Nat), some r0 = some o → decode cX0_at pc = .ok (.ireturn, 1) → va_P (dC, dI) vwCl [(q_th, .inr (0, [.ref q_th_letters, .int th_length])), (q_th_letters, .inl (cI, 200, .inl th_letters))] H → va_D A [(q_th, .inr (0, [.ref q_th_letters, .int th_length])), (q_th_letters, .inl (cI, 200, .inl th_letters))] → va_S A s.heap H locs → W p l e ({ frames := 0, cells := 0, slots := 0, locals := 0 } : Room) s m args below meth c H locs 0 0 Q (F0 m pc ls [.int r0]) := by
    intro r0 H locs ls pc ho hd hP hD hS
    cases ho
    exact ret0 H locs ls pc hd hP hD hS
  rw [fX0_at_e] at hF
  refine lv_iload_n hx hb dX0_at_0 rfl (lv_at hl 1 rfl) ?_
  refine lv_if_lt (tgt := 30) hx hb dX0_at_1 (by decide) (fun hc => ?_) (fun hc => ?_)
  · have hF := ng_t hc hF
    refine lv_iconst (v := (nI 0)) hx hb dX0_at_30 (by decide) ?_
    exact hret (nI 0) _ _ _ _ hF dX0_at_31 hP hD hS
  · have hF := ng_f hc hF
    refine lv_iload_n hx hb dX0_at_4 rfl (lv_at hl 1 rfl) ?_
    refine lv_aload_n hx hb dX0_at_5 rfl (lv_at hl 0 rfl) ?_
    refine nx_get S0 hK hP 0 1 hin_X0 hf_15 rfl rfl (by decide) rfl rfl dX0_at_6 ?_
    refine lv_icmp_ge (tgt := 30) hx hb dX0_at_9 (by decide) (fun hc => ?_) (fun hc => ?_)
    · have hF := ng_t hc hF
      refine lv_iconst (v := (nI 0)) hx hb dX0_at_30 (by decide) ?_
      exact hret (nI 0) _ _ _ _ hF dX0_at_31 hP hD hS
    · have hF := ng_f hc hF
      refine lv_iload_n hx hb dX0_at_12 rfl (lv_at hl 1 rfl) ?_
      refine lv_aload_n hx hb dX0_at_13 rfl (lv_at hl 0 rfl) ?_
      refine nx_get S0 hK hP 0 0 hin_X0 hf_9 rfl rfl (by decide) rfl rfl dX0_at_14 ?_
      refine nx_alen S0 hK hP 1 (v := (nI 200)) rfl (by decide) dX0_at_17 ?_
      refine lv_icmp_ge (tgt := 30) hx hb dX0_at_18 (by decide) (fun hc => ?_) (fun hc => ?_)
      · have hF := ng_t hc hF
        refine lv_iconst (v := (nI 0)) hx hb dX0_at_30 (by decide) ?_
        exact hret (nI 0) _ _ _ _ hF dX0_at_31 hP hD hS
      · have hF := ng_f hc hF
        refine lv_aload_n hx hb dX0_at_21 rfl (lv_at hl 0 rfl) ?_
        refine nx_get S0 hK hP 0 0 hin_X0 hf_9 rfl rfl (by decide) rfl rfl dX0_at_22 ?_
        refine lv_iload_n hx hb dX0_at_25 rfl (lv_at hl 1 rfl) ?_
        have hg := ng_p hF
        have hF := ng_x hF
        refine nx_iald S0 hK hP 1 (v := th_letters p1.toNatClampNeg) rfl hg rfl dX0_at_26 ?_
        refine lv_goto (tgt := 31) hx hb dX0_at_27 (by decide) ?_
        exact hret (th_letters p1.toNatClampNeg) _ _ _ _ hF dX0_at_31 hP hD hS
theorem hdX3_putInto : yX3_putInto.cls ≠ "java/lang/invoke/MethodHandle" ∧ yX3_putInto.cls ≠ "java/lang/invoke/VarHandle" ∧ (parseMethodDescriptor yX3_putInto.desc).map (fun d => d.parameters.length) = some 2 := by decide +kernel
set_option maxHeartbeats 40000000 in
set_option maxRecDepth 100000 in
theorem kX3_putInto (l : Launch) (dC : Nat → ClassId) (dI : Nat → Nat → Nat) (cI : ClassId) (q_th : Nat) (q_p1 : Nat) (q_th_kinds : Nat) (n_p1 : Nat) (sz : Nat) (th_snail : Int32) (th_night : Int32) (th_begunOn : Int32) (p1 : Nat → Int32) (th_kinds : Nat → Int32) (p2 : Int32) (N : Nat) (o : (Nat → Int32)) (hF : fX3_putInto N th_snail th_night th_begunOn n_p1 p1 p2 th_kinds = some o) : nx_V l yX3_putInto wsX3_putInto ({ frames := 1, cells := 0, slots := 0, locals := 40 } : Room) (dC, dI) cI [.ref q_th, .ref q_p1, .int p2] [(q_th, .inr (3, [.ref q_th_kinds, .int th_snail, .int th_night, .int th_begunOn])), (q_p1, .inl (cI, n_p1, .inl p1)), (q_th_kinds, .inl (cI, 25, .inl th_kinds))] sz [(q_th, .inr (3, [.ref q_th_kinds, .int th_snail, .int th_night, .int th_begunOn])), (q_p1, .inl (cI, n_p1, .inl o)), (q_th_kinds, .inl (cI, 25, .inl th_kinds))] := by
  refine nx_void (cc := cX3_putInto) (maxL := 3) (by decide) rfl (Nat.le_of_ble_eq_true rfl) ?_
  intro p e s m args below meth c Q A S0 hK hN hA ret0 hP hD hS ls hl
  have S0 : CallFix p m c cX3_putInto 3 s args wsX3_putInto RX3 := S0
  have hx := S0.1
  have hb := S0.2.1
  have hown := S0.2.2.2.1
  have hts := S0.2.2.2.2
  have hf_9 := hts (.fieldLink RX3 9 "SnailsYear$Scene" "kinds" "[I") (by decide +kernel)
  have hin_X3 : ∀ w ∈ wsX30, w ∈ wsX3_putInto := by decide +kernel
  have hcl_28 := hts (.methodLink RX3 28 arraycopyName) (by decide +kernel)
  have hcn_28 := hts (.native arraycopyName) (by decide +kernel)
  have hcs_28 := hts (.static arraycopyName) (by decide +kernel)
  have hci_28 := hts (.initialized "java/lang/System") (by decide +kernel)
  have hf_15 := hts (.fieldLink RX3 15 "SnailsYear$Scene" "snail" "I") (by decide +kernel)
  have hf_19 := hts (.fieldLink RX3 19 "SnailsYear$Scene" "night" "I") (by decide +kernel)
  have hf_22 := hts (.fieldLink RX3 22 "SnailsYear$Scene" "begunOn" "I") (by decide +kernel)
  have hl : lv_has ls 3 [(0, .ref q_th), (1, .ref q_p1), (2, .int p2)] := hl
  have hret : ∀ (y0 : Nat → Int32) (H : Heap) (locs : List Loc) (ls : Array Slot) (pc : Nat), some y0 = some o → decode cX3_putInto pc = .ok (.return_, 1) → va_P (dC, dI) vwCl [(q_th, .inr (3, [.ref q_th_kinds, .int th_snail, .int th_night, .int th_begunOn])), (q_p1, .inl (cI, n_p1, .inl y0)), (q_th_kinds, .inl (cI, 25, .inl th_kinds))] H → va_D A [(q_th, .inr (3, [.ref q_th_kinds, .int th_snail, .int th_night, .int th_begunOn])), (q_p1, .inl (cI, n_p1, .inl y0)), (q_th_kinds, .inl (cI, 25, .inl th_kinds))] → va_S A s.heap H locs → W p l e ({ frames := 1, cells := 0, slots := 0, locals := 40 } : Room) s m args below meth c H locs 0 0 Q (F0 m pc ls []) := by
    intro y0 H locs ls pc ho hd hP hD hS
    cases ho
    exact ret0 H locs ls pc hd hP hD hS
  rw [fX3_putInto_e] at hF
  refine lv_iload_n hx hb dX3_putInto_0 rfl (lv_at hl 2 rfl) ?_
  refine lv_if_lt (tgt := 59) hx hb dX3_putInto_1 (by decide) (fun hc => ?_) (fun hc => ?_)
  · have hF := ng_t hc hF
    exact hret p1 _ _ _ _ hF dX3_putInto_59 hP hD hS
  · have hF := ng_f hc hF
    refine lv_iload_n hx hb dX3_putInto_4 rfl (lv_at hl 2 rfl) ?_
    refine lv_aload_n hx hb dX3_putInto_5 rfl (lv_at hl 1 rfl) ?_
    refine nx_alen S0 hK hP 1 (v := nI n_p1) rfl rfl dX3_putInto_6 ?_
    refine lv_bipush (v := (nI 28)) hx hb dX3_putInto_7 (by decide) ?_
    refine lv_isub hx hb dX3_putInto_9 ?_
    refine lv_icmp_gt (tgt := 59) hx hb dX3_putInto_10 (by decide) (fun hc => ?_) (fun hc => ?_)
    · have hF := ng_t hc hF
      exact hret p1 _ _ _ _ hF dX3_putInto_59 hP hD hS
    · have hF := ng_f hc hF
      refine lv_aload_n hx hb dX3_putInto_13 rfl (lv_at hl 0 rfl) ?_
      refine nx_get S0 hK hP 0 0 hin_X3 hf_9 rfl rfl (by decide) rfl rfl dX3_putInto_14 ?_
      refine lv_iconst (v := (nI 0)) hx hb dX3_putInto_17 (by decide) ?_
      refine lv_aload_n hx hb dX3_putInto_18 rfl (lv_at hl 1 rfl) ?_
      refine lv_iload_n hx hb dX3_putInto_19 rfl (lv_at hl 2 rfl) ?_
      refine lv_bipush (v := (nI 25)) hx hb dX3_putInto_20 (by decide) ?_
      have hg := ng_p hF
      have hF := ng_x hF
      refine nx_copy S0 hK hP hD hS hl hcl_28 hcn_28 hcs_28 hci_28 2 1 rfl rfl hg (by decide) (by decide) dX3_putInto_22 (W1 := [(q_th, .inr (3, [.ref q_th_kinds, .int th_snail, .int th_night, .int th_begunOn])), (q_p1, .inl (cI, n_p1, .inl (va_cpy th_kinds p1 0 p2.toNatClampNeg 25))), (q_th_kinds, .inl (cI, 25, .inl th_kinds))]) rfl (fun H locs hP hD hS => ?_)
      refine lv_aload_n hx hb dX3_putInto_25 rfl (lv_at hl 1 rfl) ?_
      refine lv_iload_n hx hb dX3_putInto_26 rfl (lv_at hl 2 rfl) ?_
      refine lv_bipush (v := (nI 25)) hx hb dX3_putInto_27 (by decide) ?_
      refine lv_iadd hx hb dX3_putInto_29 ?_
      refine lv_aload_n hx hb dX3_putInto_30 rfl (lv_at hl 0 rfl) ?_
      refine nx_get S0 hK hP 0 1 hin_X3 hf_15 rfl rfl (by decide) rfl rfl dX3_putInto_31 ?_
      have hg := ng_p hF
      have hF := ng_x hF
      refine nx_iast S0 hK hP hD hS 1 rfl hg dX3_putInto_34 (W1 := [(q_th, .inr (3, [.ref q_th_kinds, .int th_snail, .int th_night, .int th_begunOn])), (q_p1, .inl (cI, n_p1, .inl (upd (va_cpy th_kinds p1 0 p2.toNatClampNeg 25) ((p2 + (nI 25)).toNatClampNeg) th_snail))), (q_th_kinds, .inl (cI, 25, .inl th_kinds))]) rfl (fun H locs hP hD hS => ?_)
      refine lv_aload_n hx hb dX3_putInto_35 rfl (lv_at hl 1 rfl) ?_
      refine lv_iload_n hx hb dX3_putInto_36 rfl (lv_at hl 2 rfl) ?_
      refine lv_bipush (v := (nI 25)) hx hb dX3_putInto_37 (by decide) ?_
      refine lv_iadd hx hb dX3_putInto_39 ?_
      refine lv_iconst (v := (nI 1)) hx hb dX3_putInto_40 (by decide) ?_
      refine lv_iadd hx hb dX3_putInto_41 ?_
      refine lv_aload_n hx hb dX3_putInto_42 rfl (lv_at hl 0 rfl) ?_
      refine nx_get S0 hK hP 0 2 hin_X3 hf_19 rfl rfl (by decide) rfl rfl dX3_putInto_43 ?_
      have hg := ng_p hF
      have hF := ng_x hF
      refine nx_iast S0 hK hP hD hS 1 rfl hg dX3_putInto_46 (W1 := [(q_th, .inr (3, [.ref q_th_kinds, .int th_snail, .int th_night, .int th_begunOn])), (q_p1, .inl (cI, n_p1, .inl (upd (upd (va_cpy th_kinds p1 0 p2.toNatClampNeg 25) ((p2 + (nI 25)).toNatClampNeg) th_snail) (((p2 + (nI 25)) + (nI 1)).toNatClampNeg) th_night))), (q_th_kinds, .inl (cI, 25, .inl th_kinds))]) rfl (fun H locs hP hD hS => ?_)
      refine lv_aload_n hx hb dX3_putInto_47 rfl (lv_at hl 1 rfl) ?_
      refine lv_iload_n hx hb dX3_putInto_48 rfl (lv_at hl 2 rfl) ?_
      refine lv_bipush (v := (nI 25)) hx hb dX3_putInto_49 (by decide) ?_
      refine lv_iadd hx hb dX3_putInto_51 ?_
      refine lv_iconst (v := (nI 2)) hx hb dX3_putInto_52 (by decide) ?_
      refine lv_iadd hx hb dX3_putInto_53 ?_
      refine lv_aload_n hx hb dX3_putInto_54 rfl (lv_at hl 0 rfl) ?_
      refine nx_get S0 hK hP 0 3 hin_X3 hf_22 rfl rfl (by decide) rfl rfl dX3_putInto_55 ?_
      have hg := ng_p hF
      have hF := ng_x hF
      refine nx_iast S0 hK hP hD hS 1 rfl hg dX3_putInto_58 (W1 := [(q_th, .inr (3, [.ref q_th_kinds, .int th_snail, .int th_night, .int th_begunOn])), (q_p1, .inl (cI, n_p1, .inl (upd (upd (upd (va_cpy th_kinds p1 0 p2.toNatClampNeg 25) ((p2 + (nI 25)).toNatClampNeg) th_snail) (((p2 + (nI 25)) + (nI 1)).toNatClampNeg) th_night) (((p2 + (nI 25)) + (nI 2)).toNatClampNeg) th_begunOn))), (q_th_kinds, .inl (cI, 25, .inl th_kinds))]) rfl (fun H locs hP hD hS => ?_)
      exact hret (upd (upd (upd (va_cpy th_kinds p1 0 p2.toNatClampNeg 25) ((p2 + (nI 25)).toNatClampNeg) th_snail) (((p2 + (nI 25)) + (nI 1)).toNatClampNeg) th_night) (((p2 + (nI 25)) + (nI 2)).toNatClampNeg) th_begunOn) _ _ _ _ hF dX3_putInto_59 hP hD hS
theorem hdX1_add : yX1_add.cls ≠ "java/lang/invoke/MethodHandle" ∧ yX1_add.cls ≠ "java/lang/invoke/VarHandle" ∧ (parseMethodDescriptor yX1_add.desc).map (fun d => d.parameters.length) = some 1 := by decide +kernel
set_option maxHeartbeats 40000000 in
set_option maxRecDepth 100000 in
theorem kX1_add (l : Launch) (dC : Nat → ClassId) (dI : Nat → Nat → Nat) (cI : ClassId) (q_th : Nat) (q_p1 : Nat) (q_th_row : Nat) (q_p1_kinds : Nat) (n_th_row : Nat) (sz : Nat) (th_most : Int32) (th_size : Int32) (p1_snail : Int32) (p1_night : Int32) (p1_begunOn : Int32) (th_row : Nat → Int32) (p1_kinds : Nat → Int32) (N : Nat) (o : Int32 × (Nat → Int32)) (hF : fX1_add N th_most th_size p1_snail p1_night p1_begunOn n_th_row th_row p1_kinds = some o) : nx_V l yX1_add wsX1_add ({ frames := 2, cells := 0, slots := 0, locals := 62 } : Room) (dC, dI) cI [.ref q_th, .ref q_p1] [(q_th, .inr (1, [.ref q_th_row, .int th_most, .int th_size])), (q_p1, .inr (3, [.ref q_p1_kinds, .int p1_snail, .int p1_night, .int p1_begunOn])), (q_th_row, .inl (cI, n_th_row, .inl th_row)), (q_p1_kinds, .inl (cI, 25, .inl p1_kinds))] sz [(q_th, .inr (1, [.ref q_th_row, .int th_most, .int o.1])), (q_p1, .inr (3, [.ref q_p1_kinds, .int p1_snail, .int p1_night, .int p1_begunOn])), (q_th_row, .inl (cI, n_th_row, .inl o.2)), (q_p1_kinds, .inl (cI, 25, .inl p1_kinds))] := by
  refine nx_void (cc := cX1_add) (maxL := 2) (by decide) rfl (Nat.le_of_ble_eq_true rfl) ?_
  intro p e s m args below meth c Q A S0 hK hN hA ret0 hP hD hS ls hl
  have S0 : CallFix p m c cX1_add 2 s args wsX1_add RX1 := S0
  have hx := S0.1
  have hb := S0.2.1
  have hown := S0.2.2.2.1
  have hts := S0.2.2.2.2
  have hf_7 := hts (.fieldLink RX1 7 "SnailsYear$Pile" "size" "I") (by decide +kernel)
  have hin_X1 : ∀ w ∈ wsX10, w ∈ wsX1_add := by decide +kernel
  have hf_19 := hts (.fieldLink RX1 19 "SnailsYear$Pile" "most" "I") (by decide +kernel)
  have hf_24 := hts (.fieldLink RX1 24 "SnailsYear$Pile" "row" "[I") (by decide +kernel)
  have hcl_28 := hts (.methodLink RX1 28 arraycopyName) (by decide +kernel)
  have hcn_28 := hts (.native arraycopyName) (by decide +kernel)
  have hcs_28 := hts (.static arraycopyName) (by decide +kernel)
  have hci_28 := hts (.initialized "java/lang/System") (by decide +kernel)
  have hl : lv_has ls 2 [(0, .ref q_th), (1, .ref q_p1)] := hl
  have hret : ∀ (y0 : Int32) (y1 : Nat → Int32) (H : Heap) (locs : List Loc) (ls : Array Slot) (pc : Nat), some (y0, y1) = some o → decode cX1_add pc = .ok (.return_, 1) → va_P (dC, dI) vwCl [(q_th, .inr (1, [.ref q_th_row, .int th_most, .int y0])), (q_p1, .inr (3, [.ref q_p1_kinds, .int p1_snail, .int p1_night, .int p1_begunOn])), (q_th_row, .inl (cI, n_th_row, .inl y1)), (q_p1_kinds, .inl (cI, 25, .inl p1_kinds))] H → va_D A [(q_th, .inr (1, [.ref q_th_row, .int th_most, .int y0])), (q_p1, .inr (3, [.ref q_p1_kinds, .int p1_snail, .int p1_night, .int p1_begunOn])), (q_th_row, .inl (cI, n_th_row, .inl y1)), (q_p1_kinds, .inl (cI, 25, .inl p1_kinds))] → va_S A s.heap H locs → W p l e ({ frames := 2, cells := 0, slots := 0, locals := 62 } : Room) s m args below meth c H locs 0 0 Q (F0 m pc ls []) := by
    intro y0 y1 H locs ls pc ho hd hP hD hS
    cases ho
    exact ret0 H locs ls pc hd hP hD hS
  rw [fX1_add_e] at hF
  refine lv_aload_n hx hb dX1_add_0 rfl (lv_at hl 0 rfl) ?_
  refine nx_get S0 hK hP 0 2 hin_X1 hf_7 rfl rfl (by decide) rfl rfl dX1_add_1 ?_
  refine lv_aload_n hx hb dX1_add_4 rfl (lv_at hl 0 rfl) ?_
  refine nx_get S0 hK hP 0 1 hin_X1 hf_19 rfl rfl (by decide) rfl rfl dX1_add_5 ?_
  have B_44 : ∀ (th_size_44 : Int32) (th_row_44 : Nat → Int32), fX1_add_44 N p1_snail p1_night p1_begunOn n_th_row p1_kinds th_size_44 th_row_44 = some o → ∀ (H : Heap) (locs : List Loc) (ls : Array Slot), va_P (dC, dI) vwCl [(q_th, .inr (1, [.ref q_th_row, .int th_most, .int th_size_44])), (q_p1, .inr (3, [.ref q_p1_kinds, .int p1_snail, .int p1_night, .int p1_begunOn])), (q_th_row, .inl (cI, n_th_row, .inl th_row_44)), (q_p1_kinds, .inl (cI, 25, .inl p1_kinds))] H → va_D A [(q_th, .inr (1, [.ref q_th_row, .int th_most, .int th_size_44])), (q_p1, .inr (3, [.ref q_p1_kinds, .int p1_snail, .int p1_night, .int p1_begunOn])), (q_th_row, .inl (cI, n_th_row, .inl th_row_44)), (q_p1_kinds, .inl (cI, 25, .inl p1_kinds))] → va_S A s.heap H locs → lv_has ls 2 [(0, .ref q_th), (1, .ref q_p1)] → W p l e ({ frames := 2, cells := 0, slots := 0, locals := 62 } : Room) s m args below meth c H locs 0 0 Q (F0 m 44 ls []) := by
    intro th_size_44 th_row_44 hF H locs ls hP hD hS hl
    rw [fX1_add_44_e] at hF
    refine lv_aload_n hx hb dX1_add_44 rfl (lv_at hl 1 rfl) ?_
    refine lv_aload_n hx hb dX1_add_45 rfl (lv_at hl 0 rfl) ?_
    refine nx_get S0 hK hP 0 0 hin_X1 hf_24 rfl rfl (by decide) rfl rfl dX1_add_46 ?_
    refine lv_aload_n hx hb dX1_add_49 rfl (lv_at hl 0 rfl) ?_
    refine nx_get S0 hK hP 0 2 hin_X1 hf_7 rfl rfl (by decide) rfl rfl dX1_add_50 ?_
    refine lv_bipush (v := (nI 28)) hx hb dX1_add_53 (by decide) ?_
    refine lv_imul hx hb dX1_add_55 ?_
    obtain ⟨o56, hF1, hF⟩ := ng_b hF
    refine nx_callVv (As := [.ref q_th_row, .int (th_size_44 * (nI 28))]) (rest := []) (W1 := [(q_th, .inr (1, [.ref q_th_row, .int th_most, .int th_size_44])), (q_p1, .inr (3, [.ref q_p1_kinds, .int p1_snail, .int p1_night, .int p1_begunOn])), (q_th_row, .inl (cI, n_th_row, .inl o56)), (q_p1_kinds, .inl (cI, 25, .inl p1_kinds))]) (wr := [(q_th, .inr (1, [.ref q_th_row, .int th_most, .int th_size_44]))]) S0 hK hN hA hP hD hS (kX3_putInto l dC dI cI q_p1 q_th_row q_p1_kinds n_th_row _ p1_snail p1_night p1_begunOn th_row_44 p1_kinds (th_size_44 * (nI 28)) N o56 hF1) (cwV 2 hts gX1_add_X3_putInto rfl rfl rfl ⟨rfl, hdX3_putInto⟩ ⟨Nat.le_of_ble_eq_true rfl, Nat.le_of_ble_eq_true rfl⟩) [1, 2, 3] [0] [0, 1, 2, 3] rfl rfl rfl rfl 1 3 rfl rfl rfl rfl hl.1 rfl (Nat.le_of_ble_eq_true rfl) dX1_add_56 (fun H locs hP hD hS => ?_)
    refine lv_aload_n hx hb dX1_add_59 rfl (lv_at hl 0 rfl) ?_
    refine lv_dup hx hb dX1_add_60 rfl ?_
    refine nx_get S0 hK hP 0 2 hin_X1 hf_7 rfl rfl (by decide) rfl rfl dX1_add_61 ?_
    refine lv_iconst (v := (nI 1)) hx hb dX1_add_64 (by decide) ?_
    refine lv_iadd hx hb dX1_add_65 ?_
    refine nx_put S0 hK hP hD hS 0 2 hin_X1 tyX1 tyX1_ok nmX1 hf_7 rfl rfl (by decide) rfl rfl rfl rfl (Nat.le_of_ble_eq_true rfl) dX1_add_66 (W1 := [(q_th, .inr (1, [.ref q_th_row, .int th_most, .int (th_size_44 + (nI 1))])), (q_p1, .inr (3, [.ref q_p1_kinds, .int p1_snail, .int p1_night, .int p1_begunOn])), (q_th_row, .inl (cI, n_th_row, .inl o56)), (q_p1_kinds, .inl (cI, 25, .inl p1_kinds))]) rfl (fun H locs hP hD hS => ?_)
    exact hret (th_size_44 + (nI 1)) o56 _ _ _ _ hF dX1_add_69 hP hD hS
  refine lv_icmp_lt (tgt := 44) hx hb dX1_add_8 (by decide) (fun hc => ?_) (fun hc => ?_)
  · have hF := ng_t hc hF
    exact B_44 th_size th_row hF _ _ _ hP hD hS (lv_sub hl [0, 1] rfl)
  · have hF := ng_f hc hF
    refine lv_aload_n hx hb dX1_add_11 rfl (lv_at hl 0 rfl) ?_
    refine nx_get S0 hK hP 0 0 hin_X1 hf_24 rfl rfl (by decide) rfl rfl dX1_add_12 ?_
    refine lv_bipush (v := (nI 28)) hx hb dX1_add_15 (by decide) ?_
    refine lv_aload_n hx hb dX1_add_17 rfl (lv_at hl 0 rfl) ?_
    refine nx_get S0 hK hP 0 0 hin_X1 hf_24 rfl rfl (by decide) rfl rfl dX1_add_18 ?_
    refine lv_iconst (v := (nI 0)) hx hb dX1_add_21 (by decide) ?_
    refine lv_aload_n hx hb dX1_add_22 rfl (lv_at hl 0 rfl) ?_
    refine nx_get S0 hK hP 0 1 hin_X1 hf_19 rfl rfl (by decide) rfl rfl dX1_add_23 ?_
    refine lv_iconst (v := (nI 1)) hx hb dX1_add_26 (by decide) ?_
    refine lv_isub hx hb dX1_add_27 ?_
    refine lv_bipush (v := (nI 28)) hx hb dX1_add_28 (by decide) ?_
    refine lv_imul hx hb dX1_add_30 ?_
    have hg := ng_p hF
    have hF := ng_x hF
    refine nx_copy S0 hK hP hD hS hl hcl_28 hcn_28 hcs_28 hci_28 2 2 rfl rfl hg (by decide) (by decide) dX1_add_31 (W1 := [(q_th, .inr (1, [.ref q_th_row, .int th_most, .int th_size])), (q_p1, .inr (3, [.ref q_p1_kinds, .int p1_snail, .int p1_night, .int p1_begunOn])), (q_th_row, .inl (cI, n_th_row, .inl (va_cpy th_row th_row 28 0 (((th_most - (nI 1)) * (nI 28)).toNatClampNeg)))), (q_p1_kinds, .inl (cI, 25, .inl p1_kinds))]) rfl (fun H locs hP hD hS => ?_)
    refine lv_aload_n hx hb dX1_add_34 rfl (lv_at hl 0 rfl) ?_
    refine lv_aload_n hx hb dX1_add_35 rfl (lv_at hl 0 rfl) ?_
    refine nx_get S0 hK hP 0 1 hin_X1 hf_19 rfl rfl (by decide) rfl rfl dX1_add_36 ?_
    refine lv_iconst (v := (nI 1)) hx hb dX1_add_39 (by decide) ?_
    refine lv_isub hx hb dX1_add_40 ?_
    refine nx_put S0 hK hP hD hS 0 2 hin_X1 tyX1 tyX1_ok nmX1 hf_7 rfl rfl (by decide) rfl rfl rfl rfl (Nat.le_of_ble_eq_true rfl) dX1_add_41 (W1 := [(q_th, .inr (1, [.ref q_th_row, .int th_most, .int (th_most - (nI 1))])), (q_p1, .inr (3, [.ref q_p1_kinds, .int p1_snail, .int p1_night, .int p1_begunOn])), (q_th_row, .inl (cI, n_th_row, .inl (va_cpy th_row th_row 28 0 (((th_most - (nI 1)) * (nI 28)).toNatClampNeg)))), (q_p1_kinds, .inl (cI, 25, .inl p1_kinds))]) rfl (fun H locs hP hD hS => ?_)
    exact B_44 (th_most - (nI 1)) (va_cpy th_row th_row 28 0 (((th_most - (nI 1)) * (nI 28)).toNatClampNeg)) hF _ _ _ hP hD hS (lv_sub hl [0, 1] rfl)
theorem hdX3_takeFrom : yX3_takeFrom.cls ≠ "java/lang/invoke/MethodHandle" ∧ yX3_takeFrom.cls ≠ "java/lang/invoke/VarHandle" ∧ (parseMethodDescriptor yX3_takeFrom.desc).map (fun d => d.parameters.length) = some 2 := by decide +kernel
set_option maxHeartbeats 40000000 in
set_option maxRecDepth 100000 in
theorem kX3_takeFrom (l : Launch) (dC : Nat → ClassId) (dI : Nat → Nat → Nat) (cI : ClassId) (q_th : Nat) (q_p1 : Nat) (q_th_kinds : Nat) (n_p1 : Nat) (sz : Nat) (th_snail : Int32) (th_night : Int32) (th_begunOn : Int32) (p1 : Nat → Int32) (th_kinds : Nat → Int32) (p2 : Int32) (N : Nat) (o : Int32 × Int32 × Int32 × (Nat → Int32)) (hF : fX3_takeFrom N th_snail th_night th_begunOn n_p1 p1 p2 th_kinds = some o) : nx_V l yX3_takeFrom wsX3_takeFrom ({ frames := 1, cells := 0, slots := 0, locals := 40 } : Room) (dC, dI) cI [.ref q_th, .ref q_p1, .int p2] [(q_th, .inr (3, [.ref q_th_kinds, .int th_snail, .int th_night, .int th_begunOn])), (q_p1, .inl (cI, n_p1, .inl p1)), (q_th_kinds, .inl (cI, 25, .inl th_kinds))] sz [(q_th, .inr (3, [.ref q_th_kinds, .int o.1, .int o.2.1, .int o.2.2.1])), (q_p1, .inl (cI, n_p1, .inl p1)), (q_th_kinds, .inl (cI, 25, .inl o.2.2.2))] := by
  refine nx_void (cc := cX3_takeFrom) (maxL := 3) (by decide) rfl (Nat.le_of_ble_eq_true rfl) ?_
  intro p e s m args below meth c Q A S0 hK hN hA ret0 hP hD hS ls hl
  have S0 : CallFix p m c cX3_takeFrom 3 s args wsX3_takeFrom RX3 := S0
  have hx := S0.1
  have hb := S0.2.1
  have hown := S0.2.2.2.1
  have hts := S0.2.2.2.2
  have hf_9 := hts (.fieldLink RX3 9 "SnailsYear$Scene" "kinds" "[I") (by decide +kernel)
  have hin_X3 : ∀ w ∈ wsX30, w ∈ wsX3_takeFrom := by decide +kernel
  have hcl_28 := hts (.methodLink RX3 28 arraycopyName) (by decide +kernel)
  have hcn_28 := hts (.native arraycopyName) (by decide +kernel)
  have hcs_28 := hts (.static arraycopyName) (by decide +kernel)
  have hci_28 := hts (.initialized "java/lang/System") (by decide +kernel)
  have hf_15 := hts (.fieldLink RX3 15 "SnailsYear$Scene" "snail" "I") (by decide +kernel)
  have hf_19 := hts (.fieldLink RX3 19 "SnailsYear$Scene" "night" "I") (by decide +kernel)
  have hf_22 := hts (.fieldLink RX3 22 "SnailsYear$Scene" "begunOn" "I") (by decide +kernel)
  have hl : lv_has ls 3 [(0, .ref q_th), (1, .ref q_p1), (2, .int p2)] := hl
  have hret : ∀ (y0 : Int32) (y1 : Int32) (y2 : Int32) (y3 : Nat → Int32) (H : Heap) (locs : List Loc) (ls : Array Slot) (pc : Nat), some (y0, y1, y2, y3) = some o → decode cX3_takeFrom pc = .ok (.return_, 1) → va_P (dC, dI) vwCl [(q_th, .inr (3, [.ref q_th_kinds, .int y0, .int y1, .int y2])), (q_p1, .inl (cI, n_p1, .inl p1)), (q_th_kinds, .inl (cI, 25, .inl y3))] H → va_D A [(q_th, .inr (3, [.ref q_th_kinds, .int y0, .int y1, .int y2])), (q_p1, .inl (cI, n_p1, .inl p1)), (q_th_kinds, .inl (cI, 25, .inl y3))] → va_S A s.heap H locs → W p l e ({ frames := 1, cells := 0, slots := 0, locals := 40 } : Room) s m args below meth c H locs 0 0 Q (F0 m pc ls []) := by
    intro y0 y1 y2 y3 H locs ls pc ho hd hP hD hS
    cases ho
    exact ret0 H locs ls pc hd hP hD hS
  rw [fX3_takeFrom_e] at hF
  refine lv_iload_n hx hb dX3_takeFrom_0 rfl (lv_at hl 2 rfl) ?_
  refine lv_if_lt (tgt := 59) hx hb dX3_takeFrom_1 (by decide) (fun hc => ?_) (fun hc => ?_)
  · have hF := ng_t hc hF
    exact hret th_snail th_night th_begunOn th_kinds _ _ _ _ hF dX3_takeFrom_59 hP hD hS
  · have hF := ng_f hc hF
    refine lv_iload_n hx hb dX3_takeFrom_4 rfl (lv_at hl 2 rfl) ?_
    refine lv_aload_n hx hb dX3_takeFrom_5 rfl (lv_at hl 1 rfl) ?_
    refine nx_alen S0 hK hP 1 (v := nI n_p1) rfl rfl dX3_takeFrom_6 ?_
    refine lv_bipush (v := (nI 28)) hx hb dX3_takeFrom_7 (by decide) ?_
    refine lv_isub hx hb dX3_takeFrom_9 ?_
    refine lv_icmp_gt (tgt := 59) hx hb dX3_takeFrom_10 (by decide) (fun hc => ?_) (fun hc => ?_)
    · have hF := ng_t hc hF
      exact hret th_snail th_night th_begunOn th_kinds _ _ _ _ hF dX3_takeFrom_59 hP hD hS
    · have hF := ng_f hc hF
      refine lv_aload_n hx hb dX3_takeFrom_13 rfl (lv_at hl 1 rfl) ?_
      refine lv_iload_n hx hb dX3_takeFrom_14 rfl (lv_at hl 2 rfl) ?_
      refine lv_aload_n hx hb dX3_takeFrom_15 rfl (lv_at hl 0 rfl) ?_
      refine nx_get S0 hK hP 0 0 hin_X3 hf_9 rfl rfl (by decide) rfl rfl dX3_takeFrom_16 ?_
      refine lv_iconst (v := (nI 0)) hx hb dX3_takeFrom_19 (by decide) ?_
      refine lv_bipush (v := (nI 25)) hx hb dX3_takeFrom_20 (by decide) ?_
      have hg := ng_p hF
      have hF := ng_x hF
      refine nx_copy S0 hK hP hD hS hl hcl_28 hcn_28 hcs_28 hci_28 1 2 rfl rfl hg (by decide) (by decide) dX3_takeFrom_22 (W1 := [(q_th, .inr (3, [.ref q_th_kinds, .int th_snail, .int th_night, .int th_begunOn])), (q_p1, .inl (cI, n_p1, .inl p1)), (q_th_kinds, .inl (cI, 25, .inl (va_cpy p1 th_kinds p2.toNatClampNeg 0 25)))]) rfl (fun H locs hP hD hS => ?_)
      refine lv_aload_n hx hb dX3_takeFrom_25 rfl (lv_at hl 0 rfl) ?_
      refine lv_aload_n hx hb dX3_takeFrom_26 rfl (lv_at hl 1 rfl) ?_
      refine lv_iload_n hx hb dX3_takeFrom_27 rfl (lv_at hl 2 rfl) ?_
      refine lv_bipush (v := (nI 25)) hx hb dX3_takeFrom_28 (by decide) ?_
      refine lv_iadd hx hb dX3_takeFrom_30 ?_
      have hg := ng_p hF
      have hF := ng_x hF
      refine nx_iald S0 hK hP 1 (v := p1 ((p2 + (nI 25)).toNatClampNeg)) rfl hg rfl dX3_takeFrom_31 ?_
      refine nx_put S0 hK hP hD hS 0 1 hin_X3 tyX3 tyX3_ok nmX3 hf_15 rfl rfl (by decide) rfl rfl rfl rfl (Nat.le_of_ble_eq_true rfl) dX3_takeFrom_32 (W1 := [(q_th, .inr (3, [.ref q_th_kinds, .int (p1 ((p2 + (nI 25)).toNatClampNeg)), .int th_night, .int th_begunOn])), (q_p1, .inl (cI, n_p1, .inl p1)), (q_th_kinds, .inl (cI, 25, .inl (va_cpy p1 th_kinds p2.toNatClampNeg 0 25)))]) rfl (fun H locs hP hD hS => ?_)
      refine lv_aload_n hx hb dX3_takeFrom_35 rfl (lv_at hl 0 rfl) ?_
      refine lv_aload_n hx hb dX3_takeFrom_36 rfl (lv_at hl 1 rfl) ?_
      refine lv_iload_n hx hb dX3_takeFrom_37 rfl (lv_at hl 2 rfl) ?_
      refine lv_bipush (v := (nI 25)) hx hb dX3_takeFrom_38 (by decide) ?_
      refine lv_iadd hx hb dX3_takeFrom_40 ?_
      refine lv_iconst (v := (nI 1)) hx hb dX3_takeFrom_41 (by decide) ?_
      refine lv_iadd hx hb dX3_takeFrom_42 ?_
      have hg := ng_p hF
      have hF := ng_x hF
      refine nx_iald S0 hK hP 1 (v := p1 (((p2 + (nI 25)) + (nI 1)).toNatClampNeg)) rfl hg rfl dX3_takeFrom_43 ?_
      refine nx_put S0 hK hP hD hS 0 2 hin_X3 tyX3 tyX3_ok nmX3 hf_19 rfl rfl (by decide) rfl rfl rfl rfl (Nat.le_of_ble_eq_true rfl) dX3_takeFrom_44 (W1 := [(q_th, .inr (3, [.ref q_th_kinds, .int (p1 ((p2 + (nI 25)).toNatClampNeg)), .int (p1 (((p2 + (nI 25)) + (nI 1)).toNatClampNeg)), .int th_begunOn])), (q_p1, .inl (cI, n_p1, .inl p1)), (q_th_kinds, .inl (cI, 25, .inl (va_cpy p1 th_kinds p2.toNatClampNeg 0 25)))]) rfl (fun H locs hP hD hS => ?_)
      refine lv_aload_n hx hb dX3_takeFrom_47 rfl (lv_at hl 0 rfl) ?_
      refine lv_aload_n hx hb dX3_takeFrom_48 rfl (lv_at hl 1 rfl) ?_
      refine lv_iload_n hx hb dX3_takeFrom_49 rfl (lv_at hl 2 rfl) ?_
      refine lv_bipush (v := (nI 25)) hx hb dX3_takeFrom_50 (by decide) ?_
      refine lv_iadd hx hb dX3_takeFrom_52 ?_
      refine lv_iconst (v := (nI 2)) hx hb dX3_takeFrom_53 (by decide) ?_
      refine lv_iadd hx hb dX3_takeFrom_54 ?_
      have hg := ng_p hF
      have hF := ng_x hF
      refine nx_iald S0 hK hP 1 (v := p1 (((p2 + (nI 25)) + (nI 2)).toNatClampNeg)) rfl hg rfl dX3_takeFrom_55 ?_
      refine nx_put S0 hK hP hD hS 0 3 hin_X3 tyX3 tyX3_ok nmX3 hf_22 rfl rfl (by decide) rfl rfl rfl rfl (Nat.le_of_ble_eq_true rfl) dX3_takeFrom_56 (W1 := [(q_th, .inr (3, [.ref q_th_kinds, .int (p1 ((p2 + (nI 25)).toNatClampNeg)), .int (p1 (((p2 + (nI 25)) + (nI 1)).toNatClampNeg)), .int (p1 (((p2 + (nI 25)) + (nI 2)).toNatClampNeg))])), (q_p1, .inl (cI, n_p1, .inl p1)), (q_th_kinds, .inl (cI, 25, .inl (va_cpy p1 th_kinds p2.toNatClampNeg 0 25)))]) rfl (fun H locs hP hD hS => ?_)
      exact hret (p1 ((p2 + (nI 25)).toNatClampNeg)) (p1 (((p2 + (nI 25)) + (nI 1)).toNatClampNeg)) (p1 (((p2 + (nI 25)) + (nI 2)).toNatClampNeg)) (va_cpy p1 th_kinds p2.toNatClampNeg 0 25) _ _ _ _ hF dX3_takeFrom_59 hP hD hS
theorem hdX1_takeInto : yX1_takeInto.cls ≠ "java/lang/invoke/MethodHandle" ∧ yX1_takeInto.cls ≠ "java/lang/invoke/VarHandle" ∧ (parseMethodDescriptor yX1_takeInto.desc).map (fun d => d.parameters.length) = some 1 := by decide +kernel
set_option maxHeartbeats 40000000 in
set_option maxRecDepth 100000 in
theorem kX1_takeInto (l : Launch) (dC : Nat → ClassId) (dI : Nat → Nat → Nat) (cI : ClassId) (q_th : Nat) (q_p1 : Nat) (q_th_row : Nat) (q_p1_kinds : Nat) (n_th_row : Nat) (sz : Nat) (th_most : Int32) (th_size : Int32) (p1_snail : Int32) (p1_night : Int32) (p1_begunOn : Int32) (th_row : Nat → Int32) (p1_kinds : Nat → Int32) (N : Nat) (o : Int32 × Int32 × Int32 × Int32 × Int32 × (Nat → Int32)) (hF : fX1_takeInto N th_size p1_snail p1_night p1_begunOn n_th_row th_row p1_kinds = some o) : nx_I l yX1_takeInto wsX1_takeInto ({ frames := 2, cells := 0, slots := 0, locals := 62 } : Room) (dC, dI) cI [.ref q_th, .ref q_p1] [(q_th, .inr (1, [.ref q_th_row, .int th_most, .int th_size])), (q_p1, .inr (3, [.ref q_p1_kinds, .int p1_snail, .int p1_night, .int p1_begunOn])), (q_th_row, .inl (cI, n_th_row, .inl th_row)), (q_p1_kinds, .inl (cI, 25, .inl p1_kinds))] sz o.1 [(q_th, .inr (1, [.ref q_th_row, .int th_most, .int o.2.1])), (q_p1, .inr (3, [.ref q_p1_kinds, .int o.2.2.1, .int o.2.2.2.1, .int o.2.2.2.2.1])), (q_th_row, .inl (cI, n_th_row, .inl th_row)), (q_p1_kinds, .inl (cI, 25, .inl o.2.2.2.2.2))] := by
  refine nx_zint (cc := cX1_takeInto) (maxL := 2) (by decide) rfl (Nat.le_of_ble_eq_true rfl) ?_
  intro p e s m args below meth c Q A S0 hK hN hA ret0 hP hD hS ls hl
  have S0 : CallFix p m c cX1_takeInto 2 s args wsX1_takeInto RX1 := S0
  have hx := S0.1
  have hb := S0.2.1
  have hown := S0.2.2.2.1
  have hts := S0.2.2.2.2
  have hf_7 := hts (.fieldLink RX1 7 "SnailsYear$Pile" "size" "I") (by decide +kernel)
  have hin_X1 : ∀ w ∈ wsX10, w ∈ wsX1_takeInto := by decide +kernel
  have hf_24 := hts (.fieldLink RX1 24 "SnailsYear$Pile" "row" "[I") (by decide +kernel)
  have hl : lv_has ls 2 [(0, .ref q_th), (1, .ref q_p1)] := hl
  have hret : ∀ (r0 : Int32) (y0 : Int32) (y1 : Int32) (y2 : Int32) (y3 : Int32) (y4 : Nat → Int32) (H : Heap) (locs : List Loc) (ls : Array Slot) (pc : Nat), (r0 = 0 ∨ r0 = 1) → some (r0, y0, y1, y2, y3, y4) = some o → decode cX1_takeInto pc = .ok (.ireturn, 1) → va_P (dC, dI) vwCl [(q_th, .inr (1, [.ref q_th_row, .int th_most, .int y0])), (q_p1, .inr (3, [.ref q_p1_kinds, .int y1, .int y2, .int y3])), (q_th_row, .inl (cI, n_th_row, .inl th_row)), (q_p1_kinds, .inl (cI, 25, .inl y4))] H → va_D A [(q_th, .inr (1, [.ref q_th_row, .int th_most, .int y0])), (q_p1, .inr (3, [.ref q_p1_kinds, .int y1, .int y2, .int y3])), (q_th_row, .inl (cI, n_th_row, .inl th_row)), (q_p1_kinds, .inl (cI, 25, .inl y4))] → va_S A s.heap H locs → W p l e ({ frames := 2, cells := 0, slots := 0, locals := 62 } : Room) s m args below meth c H locs 0 0 Q (F0 m pc ls [.int r0]) := by
    intro r0 y0 y1 y2 y3 y4 H locs ls pc hz ho hd hP hD hS
    cases ho
    exact ret0 H locs ls pc hz hd hP hD hS
  rw [fX1_takeInto_e] at hF
  refine lv_aload_n hx hb dX1_takeInto_0 rfl (lv_at hl 0 rfl) ?_
  refine nx_get S0 hK hP 0 2 hin_X1 hf_7 rfl rfl (by decide) rfl rfl dX1_takeInto_1 ?_
  refine lv_if_gt (tgt := 9) hx hb dX1_takeInto_4 (by decide) (fun hc => ?_) (fun hc => ?_)
  · have hF := ng_t hc hF
    refine lv_aload_n hx hb dX1_takeInto_9 rfl (lv_at hl 0 rfl) ?_
    refine lv_dup hx hb dX1_takeInto_10 rfl ?_
    refine nx_get S0 hK hP 0 2 hin_X1 hf_7 rfl rfl (by decide) rfl rfl dX1_takeInto_11 ?_
    refine lv_iconst (v := (nI 1)) hx hb dX1_takeInto_14 (by decide) ?_
    refine lv_isub hx hb dX1_takeInto_15 ?_
    refine nx_put S0 hK hP hD hS 0 2 hin_X1 tyX1 tyX1_ok nmX1 hf_7 rfl rfl (by decide) rfl rfl rfl rfl (Nat.le_of_ble_eq_true rfl) dX1_takeInto_16 (W1 := [(q_th, .inr (1, [.ref q_th_row, .int th_most, .int (th_size - (nI 1))])), (q_p1, .inr (3, [.ref q_p1_kinds, .int p1_snail, .int p1_night, .int p1_begunOn])), (q_th_row, .inl (cI, n_th_row, .inl th_row)), (q_p1_kinds, .inl (cI, 25, .inl p1_kinds))]) rfl (fun H locs hP hD hS => ?_)
    refine lv_aload_n hx hb dX1_takeInto_19 rfl (lv_at hl 1 rfl) ?_
    refine lv_aload_n hx hb dX1_takeInto_20 rfl (lv_at hl 0 rfl) ?_
    refine nx_get S0 hK hP 0 0 hin_X1 hf_24 rfl rfl (by decide) rfl rfl dX1_takeInto_21 ?_
    refine lv_aload_n hx hb dX1_takeInto_24 rfl (lv_at hl 0 rfl) ?_
    refine nx_get S0 hK hP 0 2 hin_X1 hf_7 rfl rfl (by decide) rfl rfl dX1_takeInto_25 ?_
    refine lv_bipush (v := (nI 28)) hx hb dX1_takeInto_28 (by decide) ?_
    refine lv_imul hx hb dX1_takeInto_30 ?_
    obtain ⟨o31, hF1, hF⟩ := ng_b hF
    refine nx_callVv (As := [.ref q_th_row, .int ((th_size - (nI 1)) * (nI 28))]) (rest := []) (W1 := [(q_th, .inr (1, [.ref q_th_row, .int th_most, .int (th_size - (nI 1))])), (q_p1, .inr (3, [.ref q_p1_kinds, .int o31.1, .int o31.2.1, .int o31.2.2.1])), (q_th_row, .inl (cI, n_th_row, .inl th_row)), (q_p1_kinds, .inl (cI, 25, .inl o31.2.2.2))]) (wr := [(q_th, .inr (1, [.ref q_th_row, .int th_most, .int (th_size - (nI 1))]))]) S0 hK hN hA hP hD hS (kX3_takeFrom l dC dI cI q_p1 q_th_row q_p1_kinds n_th_row _ p1_snail p1_night p1_begunOn th_row p1_kinds ((th_size - (nI 1)) * (nI 28)) N o31 hF1) (cwV 2 hts gX1_takeInto_X3_takeFrom rfl rfl rfl ⟨rfl, hdX3_takeFrom⟩ ⟨Nat.le_of_ble_eq_true rfl, Nat.le_of_ble_eq_true rfl⟩) [1, 2, 3] [0] [0, 1, 2, 3] rfl rfl rfl rfl 1 3 rfl rfl rfl rfl hl.1 rfl (Nat.le_of_ble_eq_true rfl) dX1_takeInto_31 (fun H locs hP hD hS => ?_)
    refine lv_iconst (v := (nI 1)) hx hb dX1_takeInto_34 (by decide) ?_
    exact hret (nI 1) (th_size - (nI 1)) o31.1 o31.2.1 o31.2.2.1 o31.2.2.2 _ _ _ _ (Or.inr rfl) hF dX1_takeInto_35 hP hD hS
  · have hF := ng_f hc hF
    refine lv_iconst (v := (nI 0)) hx hb dX1_takeInto_7 (by decide) ?_
    exact hret (nI 0) th_size p1_snail p1_night p1_begunOn p1_kinds _ _ _ _ (Or.inl rfl) hF dX1_takeInto_8 hP hD hS
theorem hdJ7_fill_53178 : yJ7_fill_53178.cls ≠ "java/lang/invoke/MethodHandle" ∧ yJ7_fill_53178.cls ≠ "java/lang/invoke/VarHandle" ∧ (parseMethodDescriptor yJ7_fill_53178.desc).map (fun d => d.parameters.length) = some 2 := by decide +kernel
set_option maxHeartbeats 40000000 in
set_option maxRecDepth 100000 in
theorem kJ7_fill_53178 (l : Launch) (dC : Nat → ClassId) (dI : Nat → Nat → Nat) (cI : ClassId) (q_p0 : Nat) (n_p0 : Nat) (sz : Nat) (p0 : Nat → Int32) (p1 : Int32) (N : Nat) (o : (Nat → Int32)) (hF : fJ7_fill_53178 N n_p0 p0 p1 = some o) : nx_V l yJ7_fill_53178 wsJ7_fill_53178 ({ frames := 0, cells := 0, slots := 0, locals := 0 } : Room) (dC, dI) cI [.ref q_p0, .int p1] [(q_p0, .inl (cI, n_p0, .inl p0))] sz [(q_p0, .inl (cI, n_p0, .inl o))] := by
  refine nx_void (cc := cJ7_fill_53178) (maxL := 4) (by decide) rfl (Nat.le_of_ble_eq_true rfl) ?_
  intro p e s m args below meth c Q A S0 hK hN hA ret0 hP hD hS ls hl
  have S0 : CallFix p m c cJ7_fill_53178 4 s args wsJ7_fill_53178 RJ7 := S0
  have hx := S0.1
  have hb := S0.2.1
  have hown := S0.2.2.2.1
  have hts := S0.2.2.2.2
  have hl : lv_has ls 4 [(0, .ref q_p0), (1, .int p1)] := hl
  have hret : ∀ (y0 : Nat → Int32) (H : Heap) (locs : List Loc) (ls : Array Slot) (pc : Nat), some y0 = some o → decode cJ7_fill_53178 pc = .ok (.return_, 1) → va_P (dC, dI) vwCl [(q_p0, .inl (cI, n_p0, .inl y0))] H → va_D A [(q_p0, .inl (cI, n_p0, .inl y0))] → va_S A s.heap H locs → W p l e ({ frames := 0, cells := 0, slots := 0, locals := 0 } : Room) s m args below meth c H locs 0 0 Q (F0 m pc ls []) := by
    intro y0 H locs ls pc ho hd hP hD hS
    cases ho
    exact ret0 H locs ls pc hd hP hD hS
  rw [fJ7_fill_53178_e] at hF
  refine lv_iconst (v := (nI 0)) hx hb dJ7_fill_53178_0 (by decide) ?_
  refine lv_istore_n (lv' := [(2, .int (nI 0)), (0, .ref q_p0), (1, .int p1)]) hx hb dJ7_fill_53178_1 rfl hl (by decide) rfl (fun ls hl => ?_)
  refine lv_aload_n hx hb dJ7_fill_53178_2 rfl (lv_at hl 1 rfl) ?_
  refine nx_alen S0 hK hP 0 (v := nI n_p0) rfl rfl dJ7_fill_53178_3 ?_
  have B_5 : ∀ (n_5 : Nat) (v2_5 : Int32) (p0_5 : Nat → Int32), fJ7_fill_53178_5 n_p0 p1 n_5 v2_5 p0_5 = some o → ∀ (H : Heap) (locs : List Loc) (ls : Array Slot), va_P (dC, dI) vwCl [(q_p0, .inl (cI, n_p0, .inl p0_5))] H → va_D A [(q_p0, .inl (cI, n_p0, .inl p0_5))] → va_S A s.heap H locs → lv_has ls 4 [(0, .ref q_p0), (1, .int p1), (2, .int v2_5), (3, .int (nI n_p0))] → W p l e ({ frames := 0, cells := 0, slots := 0, locals := 0 } : Room) s m args below meth c H locs 0 0 Q (F0 m 5 ls []) := by
    intro n_5
    induction n_5 with
    | zero =>
      intro v2_5 p0_5 hF
      rw [fJ7_fill_53178_5_z] at hF
      cases hF
    | succ n_5 ih_5 =>
      intro v2_5 p0_5 hF H locs ls hP hD hS hl
      rw [fJ7_fill_53178_5_s] at hF
      refine lv_iload_n hx hb dJ7_fill_53178_5 rfl (lv_at hl 2 rfl) ?_
      refine lv_iload_n hx hb dJ7_fill_53178_6 rfl (lv_at hl 3 rfl) ?_
      refine lv_icmp_ge (tgt := 20) hx hb dJ7_fill_53178_7 (by decide) (fun hc => ?_) (fun hc => ?_)
      · have hF := ng_t hc hF
        exact hret p0_5 _ _ _ _ hF dJ7_fill_53178_20 hP hD hS
      · have hF := ng_f hc hF
        refine lv_aload_n hx hb dJ7_fill_53178_10 rfl (lv_at hl 0 rfl) ?_
        refine lv_iload_n hx hb dJ7_fill_53178_11 rfl (lv_at hl 2 rfl) ?_
        refine lv_iload_n hx hb dJ7_fill_53178_12 rfl (lv_at hl 1 rfl) ?_
        have hg := ng_p hF
        have hF := ng_x hF
        refine nx_iast S0 hK hP hD hS 0 rfl hg dJ7_fill_53178_13 (W1 := [(q_p0, .inl (cI, n_p0, .inl (upd p0_5 v2_5.toNatClampNeg p1)))]) rfl (fun H locs hP hD hS => ?_)
        refine lv_iinc (v := v2_5 + (nI 1)) (lv' := [(2, .int (v2_5 + (nI 1))), (0, .ref q_p0), (1, .int p1), (3, .int (nI n_p0))]) hx hb dJ7_fill_53178_14 hl (k := 2) rfl rfl (by decide) rfl (fun ls hl => ?_)
        refine lv_goto (tgt := 5) hx hb dJ7_fill_53178_17 (by decide) ?_
        exact ih_5 (v2_5 + (nI 1)) (upd p0_5 v2_5.toNatClampNeg p1) hF _ _ _ hP hD hS (lv_sub hl [1, 2, 0, 3] rfl)
  refine lv_istore_n (lv' := [(3, .int (nI n_p0)), (2, .int (nI 0)), (0, .ref q_p0), (1, .int p1)]) hx hb dJ7_fill_53178_4 rfl hl (by decide) rfl (fun ls hl => ?_)
  exact B_5 N (nI 0) p0 hF _ _ _ hP hD hS (lv_sub hl [2, 3, 1, 0] rfl)
theorem hdX3_setOut : yX3_setOut.cls ≠ "java/lang/invoke/MethodHandle" ∧ yX3_setOut.cls ≠ "java/lang/invoke/VarHandle" ∧ (parseMethodDescriptor yX3_setOut.desc).map (fun d => d.parameters.length) = some 1 := by decide +kernel
set_option maxHeartbeats 40000000 in
set_option maxRecDepth 100000 in
theorem kX3_setOut (l : Launch) (dC : Nat → ClassId) (dI : Nat → Nat → Nat) (cI : ClassId) (q_th : Nat) (q_p1 : Nat) (q_p1_kinds : Nat) (q_th_kinds : Nat) (sz : Nat) (th_snail : Int32) (th_night : Int32) (th_begunOn : Int32) (x_p1_column : Value) (x_p1_beside : Value) (x_p1_damps : Value) (x_p1_rentNights : Value) (x_p1_rents : Value) (x_p1_heirs : Value) (p1_columns : Int32) (p1_cells : Int32) (p1_start : Int32) (p1_dampCount : Int32) (p1_rentCount : Int32) (p1_heirCount : Int32) (p1_kinds : Nat → Int32) (th_kinds : Nat → Int32) (N : Nat) (o : Int32 × Int32 × Int32 × (Nat → Int32)) (hF : fX3_setOut N p1_start p1_kinds th_kinds = some o) : nx_V l yX3_setOut wsX3_setOut ({ frames := 1, cells := 0, slots := 0, locals := 40 } : Room) (dC, dI) cI [.ref q_th, .ref q_p1] [(q_th, .inr (3, [.ref q_th_kinds, .int th_snail, .int th_night, .int th_begunOn])), (q_p1, .inr (6, [.ref q_p1_kinds, x_p1_column, x_p1_beside, x_p1_damps, x_p1_rentNights, x_p1_rents, x_p1_heirs, .int p1_columns, .int p1_cells, .int p1_start, .int p1_dampCount, .int p1_rentCount, .int p1_heirCount])), (q_p1_kinds, .inl (cI, 25, .inl p1_kinds)), (q_th_kinds, .inl (cI, 25, .inl th_kinds))] sz [(q_th, .inr (3, [.ref q_th_kinds, .int o.1, .int o.2.1, .int o.2.2.1])), (q_p1, .inr (6, [.ref q_p1_kinds, x_p1_column, x_p1_beside, x_p1_damps, x_p1_rentNights, x_p1_rents, x_p1_heirs, .int p1_columns, .int p1_cells, .int p1_start, .int p1_dampCount, .int p1_rentCount, .int p1_heirCount])), (q_p1_kinds, .inl (cI, 25, .inl p1_kinds)), (q_th_kinds, .inl (cI, 25, .inl o.2.2.2))] := by
  refine nx_void (cc := cX3_setOut) (maxL := 2) (by decide) rfl (Nat.le_of_ble_eq_true rfl) ?_
  intro p e s m args below meth c Q A S0 hK hN hA ret0 hP hD hS ls hl
  have S0 : CallFix p m c cX3_setOut 2 s args wsX3_setOut RX3 := S0
  have hx := S0.1
  have hb := S0.2.1
  have hown := S0.2.2.2.1
  have hts := S0.2.2.2.2
  have hf_25 := hN.f (args := args) (a := "SnailsYear$Scene") (i := 25) (b := "SnailsYear$Yard") (n := "kinds") (d := "[I") (k := "SnailsYear") (by decide +kernel)
  have hin_X6 : ∀ w ∈ wsX60, w ∈ wsX3_setOut := by decide +kernel
  have hf_9 := hts (.fieldLink RX3 9 "SnailsYear$Scene" "kinds" "[I") (by decide +kernel)
  have hin_X3 : ∀ w ∈ wsX30, w ∈ wsX3_setOut := by decide +kernel
  have hcl_28 := hts (.methodLink RX3 28 arraycopyName) (by decide +kernel)
  have hcn_28 := hts (.native arraycopyName) (by decide +kernel)
  have hcs_28 := hts (.static arraycopyName) (by decide +kernel)
  have hci_28 := hts (.initialized "java/lang/System") (by decide +kernel)
  have hf_34 := hN.f (args := args) (a := "SnailsYear$Scene") (i := 34) (b := "SnailsYear$Yard") (n := "start") (d := "I") (k := "SnailsYear") (by decide +kernel)
  have hf_15 := hts (.fieldLink RX3 15 "SnailsYear$Scene" "snail" "I") (by decide +kernel)
  have hf_19 := hts (.fieldLink RX3 19 "SnailsYear$Scene" "night" "I") (by decide +kernel)
  have hf_22 := hts (.fieldLink RX3 22 "SnailsYear$Scene" "begunOn" "I") (by decide +kernel)
  have hl : lv_has ls 2 [(0, .ref q_th), (1, .ref q_p1)] := hl
  have hret : ∀ (y0 : Int32) (y1 : Int32) (y2 : Int32) (y3 : Nat → Int32) (H : Heap) (locs : List Loc) (ls : Array Slot) (pc : Nat), some (y0, y1, y2, y3) = some o → decode cX3_setOut pc = .ok (.return_, 1) → va_P (dC, dI) vwCl [(q_th, .inr (3, [.ref q_th_kinds, .int y0, .int y1, .int y2])), (q_p1, .inr (6, [.ref q_p1_kinds, x_p1_column, x_p1_beside, x_p1_damps, x_p1_rentNights, x_p1_rents, x_p1_heirs, .int p1_columns, .int p1_cells, .int p1_start, .int p1_dampCount, .int p1_rentCount, .int p1_heirCount])), (q_p1_kinds, .inl (cI, 25, .inl p1_kinds)), (q_th_kinds, .inl (cI, 25, .inl y3))] H → va_D A [(q_th, .inr (3, [.ref q_th_kinds, .int y0, .int y1, .int y2])), (q_p1, .inr (6, [.ref q_p1_kinds, x_p1_column, x_p1_beside, x_p1_damps, x_p1_rentNights, x_p1_rents, x_p1_heirs, .int p1_columns, .int p1_cells, .int p1_start, .int p1_dampCount, .int p1_rentCount, .int p1_heirCount])), (q_p1_kinds, .inl (cI, 25, .inl p1_kinds)), (q_th_kinds, .inl (cI, 25, .inl y3))] → va_S A s.heap H locs → W p l e ({ frames := 1, cells := 0, slots := 0, locals := 40 } : Room) s m args below meth c H locs 0 0 Q (F0 m pc ls []) := by
    intro y0 y1 y2 y3 H locs ls pc ho hd hP hD hS
    cases ho
    exact ret0 H locs ls pc hd hP hD hS
  rw [fX3_setOut_e] at hF
  refine lv_aload_n hx hb dX3_setOut_0 rfl (lv_at hl 1 rfl) ?_
  refine nx_getN S0 hK hP 1 0 hin_X6 hf_25 rfl rfl (by decide) rfl rfl dX3_setOut_1 ?_
  refine lv_iconst (v := (nI 0)) hx hb dX3_setOut_4 (by decide) ?_
  refine lv_aload_n hx hb dX3_setOut_5 rfl (lv_at hl 0 rfl) ?_
  refine nx_get S0 hK hP 0 0 hin_X3 hf_9 rfl rfl (by decide) rfl rfl dX3_setOut_6 ?_
  refine lv_iconst (v := (nI 0)) hx hb dX3_setOut_9 (by decide) ?_
  refine lv_bipush (v := (nI 25)) hx hb dX3_setOut_10 (by decide) ?_
  refine nx_copy S0 hK hP hD hS hl hcl_28 hcn_28 hcs_28 hci_28 2 3 rfl rfl (by decide) (by decide) (by decide) dX3_setOut_12 (W1 := [(q_th, .inr (3, [.ref q_th_kinds, .int th_snail, .int th_night, .int th_begunOn])), (q_p1, .inr (6, [.ref q_p1_kinds, x_p1_column, x_p1_beside, x_p1_damps, x_p1_rentNights, x_p1_rents, x_p1_heirs, .int p1_columns, .int p1_cells, .int p1_start, .int p1_dampCount, .int p1_rentCount, .int p1_heirCount])), (q_p1_kinds, .inl (cI, 25, .inl p1_kinds)), (q_th_kinds, .inl (cI, 25, .inl (va_cpy p1_kinds th_kinds 0 0 25)))]) rfl (fun H locs hP hD hS => ?_)
  refine lv_aload_n hx hb dX3_setOut_15 rfl (lv_at hl 0 rfl) ?_
  refine lv_aload_n hx hb dX3_setOut_16 rfl (lv_at hl 1 rfl) ?_
  refine nx_getN S0 hK hP 1 9 hin_X6 hf_34 rfl rfl (by decide) rfl rfl dX3_setOut_17 ?_
  refine nx_put S0 hK hP hD hS 0 1 hin_X3 tyX3 tyX3_ok nmX3 hf_15 rfl rfl (by decide) rfl rfl rfl rfl (Nat.le_of_ble_eq_true rfl) dX3_setOut_20 (W1 := [(q_th, .inr (3, [.ref q_th_kinds, .int p1_start, .int th_night, .int th_begunOn])), (q_p1, .inr (6, [.ref q_p1_kinds, x_p1_column, x_p1_beside, x_p1_damps, x_p1_rentNights, x_p1_rents, x_p1_heirs, .int p1_columns, .int p1_cells, .int p1_start, .int p1_dampCount, .int p1_rentCount, .int p1_heirCount])), (q_p1_kinds, .inl (cI, 25, .inl p1_kinds)), (q_th_kinds, .inl (cI, 25, .inl (va_cpy p1_kinds th_kinds 0 0 25)))]) rfl (fun H locs hP hD hS => ?_)
  refine lv_aload_n hx hb dX3_setOut_23 rfl (lv_at hl 0 rfl) ?_
  refine lv_iconst (v := (nI 0)) hx hb dX3_setOut_24 (by decide) ?_
  refine nx_put S0 hK hP hD hS 0 2 hin_X3 tyX3 tyX3_ok nmX3 hf_19 rfl rfl (by decide) rfl rfl rfl rfl (Nat.le_of_ble_eq_true rfl) dX3_setOut_25 (W1 := [(q_th, .inr (3, [.ref q_th_kinds, .int p1_start, .int (nI 0), .int th_begunOn])), (q_p1, .inr (6, [.ref q_p1_kinds, x_p1_column, x_p1_beside, x_p1_damps, x_p1_rentNights, x_p1_rents, x_p1_heirs, .int p1_columns, .int p1_cells, .int p1_start, .int p1_dampCount, .int p1_rentCount, .int p1_heirCount])), (q_p1_kinds, .inl (cI, 25, .inl p1_kinds)), (q_th_kinds, .inl (cI, 25, .inl (va_cpy p1_kinds th_kinds 0 0 25)))]) rfl (fun H locs hP hD hS => ?_)
  refine lv_aload_n hx hb dX3_setOut_28 rfl (lv_at hl 0 rfl) ?_
  refine lv_bipush (v := (-4 : Int32)) hx hb dX3_setOut_29 (by decide) ?_
  refine nx_put S0 hK hP hD hS 0 3 hin_X3 tyX3 tyX3_ok nmX3 hf_22 rfl rfl (by decide) rfl rfl rfl rfl (Nat.le_of_ble_eq_true rfl) dX3_setOut_31 (W1 := [(q_th, .inr (3, [.ref q_th_kinds, .int p1_start, .int (nI 0), .int (-4 : Int32)])), (q_p1, .inr (6, [.ref q_p1_kinds, x_p1_column, x_p1_beside, x_p1_damps, x_p1_rentNights, x_p1_rents, x_p1_heirs, .int p1_columns, .int p1_cells, .int p1_start, .int p1_dampCount, .int p1_rentCount, .int p1_heirCount])), (q_p1_kinds, .inl (cI, 25, .inl p1_kinds)), (q_th_kinds, .inl (cI, 25, .inl (va_cpy p1_kinds th_kinds 0 0 25)))]) rfl (fun H locs hP hD hS => ?_)
  exact hret p1_start (nI 0) (-4 : Int32) (va_cpy p1_kinds th_kinds 0 0 25) _ _ _ _ hF dX3_setOut_34 hP hD hS
theorem hdX3_become : yX3_become.cls ≠ "java/lang/invoke/MethodHandle" ∧ yX3_become.cls ≠ "java/lang/invoke/VarHandle" ∧ (parseMethodDescriptor yX3_become.desc).map (fun d => d.parameters.length) = some 1 := by decide +kernel
set_option maxHeartbeats 40000000 in
set_option maxRecDepth 100000 in
theorem kX3_become (l : Launch) (dC : Nat → ClassId) (dI : Nat → Nat → Nat) (cI : ClassId) (q_th : Nat) (q_p1 : Nat) (q_p1_kinds : Nat) (q_th_kinds : Nat) (sz : Nat) (th_snail : Int32) (th_night : Int32) (th_begunOn : Int32) (p1_snail : Int32) (p1_night : Int32) (p1_begunOn : Int32) (p1_kinds : Nat → Int32) (th_kinds : Nat → Int32) (N : Nat) (o : Int32 × Int32 × Int32 × (Nat → Int32)) (hF : fX3_become N p1_snail p1_night p1_begunOn p1_kinds th_kinds = some o) : nx_V l yX3_become wsX3_become ({ frames := 1, cells := 0, slots := 0, locals := 40 } : Room) (dC, dI) cI [.ref q_th, .ref q_p1] [(q_th, .inr (3, [.ref q_th_kinds, .int th_snail, .int th_night, .int th_begunOn])), (q_p1, .inr (3, [.ref q_p1_kinds, .int p1_snail, .int p1_night, .int p1_begunOn])), (q_p1_kinds, .inl (cI, 25, .inl p1_kinds)), (q_th_kinds, .inl (cI, 25, .inl th_kinds))] sz [(q_th, .inr (3, [.ref q_th_kinds, .int o.1, .int o.2.1, .int o.2.2.1])), (q_p1, .inr (3, [.ref q_p1_kinds, .int p1_snail, .int p1_night, .int p1_begunOn])), (q_p1_kinds, .inl (cI, 25, .inl p1_kinds)), (q_th_kinds, .inl (cI, 25, .inl o.2.2.2))] := by
  refine nx_void (cc := cX3_become) (maxL := 2) (by decide) rfl (Nat.le_of_ble_eq_true rfl) ?_
  intro p e s m args below meth c Q A S0 hK hN hA ret0 hP hD hS ls hl
  have S0 : CallFix p m c cX3_become 2 s args wsX3_become RX3 := S0
  have hx := S0.1
  have hb := S0.2.1
  have hown := S0.2.2.2.1
  have hts := S0.2.2.2.2
  have hf_9 := hts (.fieldLink RX3 9 "SnailsYear$Scene" "kinds" "[I") (by decide +kernel)
  have hin_X3 : ∀ w ∈ wsX30, w ∈ wsX3_become := by decide +kernel
  have hcl_28 := hts (.methodLink RX3 28 arraycopyName) (by decide +kernel)
  have hcn_28 := hts (.native arraycopyName) (by decide +kernel)
  have hcs_28 := hts (.static arraycopyName) (by decide +kernel)
  have hci_28 := hts (.initialized "java/lang/System") (by decide +kernel)
  have hf_15 := hts (.fieldLink RX3 15 "SnailsYear$Scene" "snail" "I") (by decide +kernel)
  have hf_19 := hts (.fieldLink RX3 19 "SnailsYear$Scene" "night" "I") (by decide +kernel)
  have hf_22 := hts (.fieldLink RX3 22 "SnailsYear$Scene" "begunOn" "I") (by decide +kernel)
  have hl : lv_has ls 2 [(0, .ref q_th), (1, .ref q_p1)] := hl
  have hret : ∀ (y0 : Int32) (y1 : Int32) (y2 : Int32) (y3 : Nat → Int32) (H : Heap) (locs : List Loc) (ls : Array Slot) (pc : Nat), some (y0, y1, y2, y3) = some o → decode cX3_become pc = .ok (.return_, 1) → va_P (dC, dI) vwCl [(q_th, .inr (3, [.ref q_th_kinds, .int y0, .int y1, .int y2])), (q_p1, .inr (3, [.ref q_p1_kinds, .int p1_snail, .int p1_night, .int p1_begunOn])), (q_p1_kinds, .inl (cI, 25, .inl p1_kinds)), (q_th_kinds, .inl (cI, 25, .inl y3))] H → va_D A [(q_th, .inr (3, [.ref q_th_kinds, .int y0, .int y1, .int y2])), (q_p1, .inr (3, [.ref q_p1_kinds, .int p1_snail, .int p1_night, .int p1_begunOn])), (q_p1_kinds, .inl (cI, 25, .inl p1_kinds)), (q_th_kinds, .inl (cI, 25, .inl y3))] → va_S A s.heap H locs → W p l e ({ frames := 1, cells := 0, slots := 0, locals := 40 } : Room) s m args below meth c H locs 0 0 Q (F0 m pc ls []) := by
    intro y0 y1 y2 y3 H locs ls pc ho hd hP hD hS
    cases ho
    exact ret0 H locs ls pc hd hP hD hS
  rw [fX3_become_e] at hF
  refine lv_aload_n hx hb dX3_become_0 rfl (lv_at hl 1 rfl) ?_
  refine nx_get S0 hK hP 1 0 hin_X3 hf_9 rfl rfl (by decide) rfl rfl dX3_become_1 ?_
  refine lv_iconst (v := (nI 0)) hx hb dX3_become_4 (by decide) ?_
  refine lv_aload_n hx hb dX3_become_5 rfl (lv_at hl 0 rfl) ?_
  refine nx_get S0 hK hP 0 0 hin_X3 hf_9 rfl rfl (by decide) rfl rfl dX3_become_6 ?_
  refine lv_iconst (v := (nI 0)) hx hb dX3_become_9 (by decide) ?_
  refine lv_bipush (v := (nI 25)) hx hb dX3_become_10 (by decide) ?_
  refine nx_copy S0 hK hP hD hS hl hcl_28 hcn_28 hcs_28 hci_28 2 3 rfl rfl (by decide) (by decide) (by decide) dX3_become_12 (W1 := [(q_th, .inr (3, [.ref q_th_kinds, .int th_snail, .int th_night, .int th_begunOn])), (q_p1, .inr (3, [.ref q_p1_kinds, .int p1_snail, .int p1_night, .int p1_begunOn])), (q_p1_kinds, .inl (cI, 25, .inl p1_kinds)), (q_th_kinds, .inl (cI, 25, .inl (va_cpy p1_kinds th_kinds 0 0 25)))]) rfl (fun H locs hP hD hS => ?_)
  refine lv_aload_n hx hb dX3_become_15 rfl (lv_at hl 0 rfl) ?_
  refine lv_aload_n hx hb dX3_become_16 rfl (lv_at hl 1 rfl) ?_
  refine nx_get S0 hK hP 1 1 hin_X3 hf_15 rfl rfl (by decide) rfl rfl dX3_become_17 ?_
  refine nx_put S0 hK hP hD hS 0 1 hin_X3 tyX3 tyX3_ok nmX3 hf_15 rfl rfl (by decide) rfl rfl rfl rfl (Nat.le_of_ble_eq_true rfl) dX3_become_20 (W1 := [(q_th, .inr (3, [.ref q_th_kinds, .int p1_snail, .int th_night, .int th_begunOn])), (q_p1, .inr (3, [.ref q_p1_kinds, .int p1_snail, .int p1_night, .int p1_begunOn])), (q_p1_kinds, .inl (cI, 25, .inl p1_kinds)), (q_th_kinds, .inl (cI, 25, .inl (va_cpy p1_kinds th_kinds 0 0 25)))]) rfl (fun H locs hP hD hS => ?_)
  refine lv_aload_n hx hb dX3_become_23 rfl (lv_at hl 0 rfl) ?_
  refine lv_aload_n hx hb dX3_become_24 rfl (lv_at hl 1 rfl) ?_
  refine nx_get S0 hK hP 1 2 hin_X3 hf_19 rfl rfl (by decide) rfl rfl dX3_become_25 ?_
  refine nx_put S0 hK hP hD hS 0 2 hin_X3 tyX3 tyX3_ok nmX3 hf_19 rfl rfl (by decide) rfl rfl rfl rfl (Nat.le_of_ble_eq_true rfl) dX3_become_28 (W1 := [(q_th, .inr (3, [.ref q_th_kinds, .int p1_snail, .int p1_night, .int th_begunOn])), (q_p1, .inr (3, [.ref q_p1_kinds, .int p1_snail, .int p1_night, .int p1_begunOn])), (q_p1_kinds, .inl (cI, 25, .inl p1_kinds)), (q_th_kinds, .inl (cI, 25, .inl (va_cpy p1_kinds th_kinds 0 0 25)))]) rfl (fun H locs hP hD hS => ?_)
  refine lv_aload_n hx hb dX3_become_31 rfl (lv_at hl 0 rfl) ?_
  refine lv_aload_n hx hb dX3_become_32 rfl (lv_at hl 1 rfl) ?_
  refine nx_get S0 hK hP 1 3 hin_X3 hf_22 rfl rfl (by decide) rfl rfl dX3_become_33 ?_
  refine nx_put S0 hK hP hD hS 0 3 hin_X3 tyX3 tyX3_ok nmX3 hf_22 rfl rfl (by decide) rfl rfl rfl rfl (Nat.le_of_ble_eq_true rfl) dX3_become_36 (W1 := [(q_th, .inr (3, [.ref q_th_kinds, .int p1_snail, .int p1_night, .int p1_begunOn])), (q_p1, .inr (3, [.ref q_p1_kinds, .int p1_snail, .int p1_night, .int p1_begunOn])), (q_p1_kinds, .inl (cI, 25, .inl p1_kinds)), (q_th_kinds, .inl (cI, 25, .inl (va_cpy p1_kinds th_kinds 0 0 25)))]) rfl (fun H locs hP hD hS => ?_)
  exact hret p1_snail p1_night p1_begunOn (va_cpy p1_kinds th_kinds 0 0 25) _ _ _ _ hF dX3_become_39 hP hD hS
theorem hdX3_hasBegun : yX3_hasBegun.cls ≠ "java/lang/invoke/MethodHandle" ∧ yX3_hasBegun.cls ≠ "java/lang/invoke/VarHandle" ∧ (parseMethodDescriptor yX3_hasBegun.desc).map (fun d => d.parameters.length) = some 0 := by decide +kernel
set_option maxHeartbeats 40000000 in
set_option maxRecDepth 100000 in
theorem kX3_hasBegun (l : Launch) (dC : Nat → ClassId) (dI : Nat → Nat → Nat) (cI : ClassId) (q_th : Nat) (sz : Nat) (x_th_kinds : Value) (th_snail : Int32) (th_night : Int32) (th_begunOn : Int32) (N : Nat) (o : Int32) (hF : fX3_hasBegun N th_begunOn = some o) : nx_I l yX3_hasBegun wsX3_hasBegun ({ frames := 0, cells := 0, slots := 0, locals := 0 } : Room) (dC, dI) cI [.ref q_th] [(q_th, .inr (3, [x_th_kinds, .int th_snail, .int th_night, .int th_begunOn]))] sz o [(q_th, .inr (3, [x_th_kinds, .int th_snail, .int th_night, .int th_begunOn]))] := by
  refine nx_zint (cc := cX3_hasBegun) (maxL := 1) (by decide) rfl (Nat.le_of_ble_eq_true rfl) ?_
  intro p e s m args below meth c Q A S0 hK hN hA ret0 hP hD hS ls hl
  have S0 : CallFix p m c cX3_hasBegun 1 s args wsX3_hasBegun RX3 := S0
  have hx := S0.1
  have hb := S0.2.1
  have hown := S0.2.2.2.1
  have hts := S0.2.2.2.2
  have hf_22 := hts (.fieldLink RX3 22 "SnailsYear$Scene" "begunOn" "I") (by decide +kernel)
  have hin_X3 : ∀ w ∈ wsX30, w ∈ wsX3_hasBegun := by decide +kernel
  have hl : lv_has ls 1 [(0, .ref q_th)] := hl
  have hret : ∀ (r0 : Int32) (H : Heap) (locs : List Loc) (ls : Array Slot) (pc : Nat), (r0 = 0 ∨ r0 = 1) → some r0 = some o → decode cX3_hasBegun pc = .ok (.ireturn, 1) → va_P (dC, dI) vwCl [(q_th, .inr (3, [x_th_kinds, .int th_snail, .int th_night, .int th_begunOn]))] H → va_D A [(q_th, .inr (3, [x_th_kinds, .int th_snail, .int th_night, .int th_begunOn]))] → va_S A s.heap H locs → W p l e ({ frames := 0, cells := 0, slots := 0, locals := 0 } : Room) s m args below meth c H locs 0 0 Q (F0 m pc ls [.int r0]) := by
    intro r0 H locs ls pc hz ho hd hP hD hS
    cases ho
    exact ret0 H locs ls pc hz hd hP hD hS
  rw [fX3_hasBegun_e] at hF
  refine lv_aload_n hx hb dX3_hasBegun_0 rfl (lv_at hl 0 rfl) ?_
  refine nx_get S0 hK hP 0 3 hin_X3 hf_22 rfl rfl (by decide) rfl rfl dX3_hasBegun_1 ?_
  refine lv_bipush (v := (-4 : Int32)) hx hb dX3_hasBegun_4 (by decide) ?_
  refine lv_icmp_eq (tgt := 13) hx hb dX3_hasBegun_6 (by decide) (fun hc => ?_) (fun hc => ?_)
  · have hF := ng_t hc hF
    refine lv_iconst (v := (nI 0)) hx hb dX3_hasBegun_13 (by decide) ?_
    exact hret (nI 0) _ _ _ _ (Or.inl rfl) hF dX3_hasBegun_14 hP hD hS
  · have hF := ng_f hc hF
    refine lv_iconst (v := (nI 1)) hx hb dX3_hasBegun_9 (by decide) ?_
    refine lv_goto (tgt := 14) hx hb dX3_hasBegun_10 (by decide) ?_
    exact hret (nI 1) _ _ _ _ (Or.inr rfl) hF dX3_hasBegun_14 hP hD hS
theorem hdX3_kindAt : yX3_kindAt.cls ≠ "java/lang/invoke/MethodHandle" ∧ yX3_kindAt.cls ≠ "java/lang/invoke/VarHandle" ∧ (parseMethodDescriptor yX3_kindAt.desc).map (fun d => d.parameters.length) = some 1 := by decide +kernel
set_option maxHeartbeats 40000000 in
set_option maxRecDepth 100000 in
theorem kX3_kindAt (l : Launch) (dC : Nat → ClassId) (dI : Nat → Nat → Nat) (cI : ClassId) (q_th : Nat) (q_th_kinds : Nat) (sz : Nat) (th_snail : Int32) (th_night : Int32) (th_begunOn : Int32) (th_kinds : Nat → Int32) (p1 : Int32) (N : Nat) (o : Int32) (hF : fX3_kindAt N p1 th_kinds = some o) : nx_I l yX3_kindAt wsX3_kindAt ({ frames := 0, cells := 0, slots := 0, locals := 0 } : Room) (dC, dI) cI [.ref q_th, .int p1] [(q_th, .inr (3, [.ref q_th_kinds, .int th_snail, .int th_night, .int th_begunOn])), (q_th_kinds, .inl (cI, 25, .inl th_kinds))] sz o [(q_th, .inr (3, [.ref q_th_kinds, .int th_snail, .int th_night, .int th_begunOn])), (q_th_kinds, .inl (cI, 25, .inl th_kinds))] := by
  refine nx_int (cc := cX3_kindAt) (maxL := 2) (by decide) rfl (Nat.le_of_ble_eq_true rfl) ?_
  intro p e s m args below meth c Q A S0 hK hN hA ret0 hP hD hS ls hl
  have S0 : CallFix p m c cX3_kindAt 2 s args wsX3_kindAt RX3 := S0
  have hx := S0.1
  have hb := S0.2.1
  have hown := S0.2.2.2.1
  have hts := S0.2.2.2.2
  have hf_9 := hts (.fieldLink RX3 9 "SnailsYear$Scene" "kinds" "[I") (by decide +kernel)
  have hin_X3 : ∀ w ∈ wsX30, w ∈ wsX3_kindAt := by decide +kernel
  have hl : lv_has ls 2 [(0, .ref q_th), (1, .int p1)] := hl
  have hret : ∀ (r0 : Int32) (H : Heap) (locs : List Loc) (ls : Array Slot) (pc : Nat), some r0 = some o → decode cX3_kindAt pc = .ok (.ireturn, 1) → va_P (dC, dI) vwCl [(q_th, .inr (3, [.ref q_th_kinds, .int th_snail, .int th_night, .int th_begunOn])), (q_th_kinds, .inl (cI, 25, .inl th_kinds))] H → va_D A [(q_th, .inr (3, [.ref q_th_kinds, .int th_snail, .int th_night, .int th_begunOn])), (q_th_kinds, .inl (cI, 25, .inl th_kinds))] → va_S A s.heap H locs → W p l e ({ frames := 0, cells := 0, slots := 0, locals := 0 } : Room) s m args below meth c H locs 0 0 Q (F0 m pc ls [.int r0]) := by
    intro r0 H locs ls pc ho hd hP hD hS
    cases ho
    exact ret0 H locs ls pc hd hP hD hS
  rw [fX3_kindAt_e] at hF
  refine lv_iload_n hx hb dX3_kindAt_0 rfl (lv_at hl 1 rfl) ?_
  refine lv_if_lt (tgt := 22) hx hb dX3_kindAt_1 (by decide) (fun hc => ?_) (fun hc => ?_)
  · have hF := ng_t hc hF
    refine lv_iconst (v := (nI 2)) hx hb dX3_kindAt_22 (by decide) ?_
    exact hret (nI 2) _ _ _ _ hF dX3_kindAt_23 hP hD hS
  · have hF := ng_f hc hF
    refine lv_iload_n hx hb dX3_kindAt_4 rfl (lv_at hl 1 rfl) ?_
    refine lv_aload_n hx hb dX3_kindAt_5 rfl (lv_at hl 0 rfl) ?_
    refine nx_get S0 hK hP 0 0 hin_X3 hf_9 rfl rfl (by decide) rfl rfl dX3_kindAt_6 ?_
    refine nx_alen S0 hK hP 1 (v := (nI 25)) rfl (by decide) dX3_kindAt_9 ?_
    refine lv_icmp_ge (tgt := 22) hx hb dX3_kindAt_10 (by decide) (fun hc => ?_) (fun hc => ?_)
    · have hF := ng_t hc hF
      refine lv_iconst (v := (nI 2)) hx hb dX3_kindAt_22 (by decide) ?_
      exact hret (nI 2) _ _ _ _ hF dX3_kindAt_23 hP hD hS
    · have hF := ng_f hc hF
      refine lv_aload_n hx hb dX3_kindAt_13 rfl (lv_at hl 0 rfl) ?_
      refine nx_get S0 hK hP 0 0 hin_X3 hf_9 rfl rfl (by decide) rfl rfl dX3_kindAt_14 ?_
      refine lv_iload_n hx hb dX3_kindAt_17 rfl (lv_at hl 1 rfl) ?_
      have hg := ng_p hF
      have hF := ng_x hF
      refine nx_iald S0 hK hP 1 (v := th_kinds p1.toNatClampNeg) rfl hg rfl dX3_kindAt_18 ?_
      refine lv_goto (tgt := 23) hx hb dX3_kindAt_19 (by decide) ?_
      exact hret (th_kinds p1.toNatClampNeg) _ _ _ _ hF dX3_kindAt_23 hP hD hS
theorem hdX3_setKind : yX3_setKind.cls ≠ "java/lang/invoke/MethodHandle" ∧ yX3_setKind.cls ≠ "java/lang/invoke/VarHandle" ∧ (parseMethodDescriptor yX3_setKind.desc).map (fun d => d.parameters.length) = some 2 := by decide +kernel
set_option maxHeartbeats 40000000 in
set_option maxRecDepth 100000 in
theorem kX3_setKind (l : Launch) (dC : Nat → ClassId) (dI : Nat → Nat → Nat) (cI : ClassId) (q_th : Nat) (q_th_kinds : Nat) (sz : Nat) (th_snail : Int32) (th_night : Int32) (th_begunOn : Int32) (th_kinds : Nat → Int32) (p1 : Int32) (p2 : Int32) (N : Nat) (o : (Nat → Int32)) (hF : fX3_setKind N p1 p2 th_kinds = some o) : nx_V l yX3_setKind wsX3_setKind ({ frames := 0, cells := 0, slots := 0, locals := 0 } : Room) (dC, dI) cI [.ref q_th, .int p1, .int p2] [(q_th, .inr (3, [.ref q_th_kinds, .int th_snail, .int th_night, .int th_begunOn])), (q_th_kinds, .inl (cI, 25, .inl th_kinds))] sz [(q_th, .inr (3, [.ref q_th_kinds, .int th_snail, .int th_night, .int th_begunOn])), (q_th_kinds, .inl (cI, 25, .inl o))] := by
  refine nx_void (cc := cX3_setKind) (maxL := 3) (by decide) rfl (Nat.le_of_ble_eq_true rfl) ?_
  intro p e s m args below meth c Q A S0 hK hN hA ret0 hP hD hS ls hl
  have S0 : CallFix p m c cX3_setKind 3 s args wsX3_setKind RX3 := S0
  have hx := S0.1
  have hb := S0.2.1
  have hown := S0.2.2.2.1
  have hts := S0.2.2.2.2
  have hf_9 := hts (.fieldLink RX3 9 "SnailsYear$Scene" "kinds" "[I") (by decide +kernel)
  have hin_X3 : ∀ w ∈ wsX30, w ∈ wsX3_setKind := by decide +kernel
  have hl : lv_has ls 3 [(0, .ref q_th), (1, .int p1), (2, .int p2)] := hl
  have hret : ∀ (y0 : Nat → Int32) (H : Heap) (locs : List Loc) (ls : Array Slot) (pc : Nat), some y0 = some o → decode cX3_setKind pc = .ok (.return_, 1) → va_P (dC, dI) vwCl [(q_th, .inr (3, [.ref q_th_kinds, .int th_snail, .int th_night, .int th_begunOn])), (q_th_kinds, .inl (cI, 25, .inl y0))] H → va_D A [(q_th, .inr (3, [.ref q_th_kinds, .int th_snail, .int th_night, .int th_begunOn])), (q_th_kinds, .inl (cI, 25, .inl y0))] → va_S A s.heap H locs → W p l e ({ frames := 0, cells := 0, slots := 0, locals := 0 } : Room) s m args below meth c H locs 0 0 Q (F0 m pc ls []) := by
    intro y0 H locs ls pc ho hd hP hD hS
    cases ho
    exact ret0 H locs ls pc hd hP hD hS
  rw [fX3_setKind_e] at hF
  refine lv_iload_n hx hb dX3_setKind_0 rfl (lv_at hl 1 rfl) ?_
  refine lv_if_lt (tgt := 20) hx hb dX3_setKind_1 (by decide) (fun hc => ?_) (fun hc => ?_)
  · have hF := ng_t hc hF
    exact hret th_kinds _ _ _ _ hF dX3_setKind_20 hP hD hS
  · have hF := ng_f hc hF
    refine lv_iload_n hx hb dX3_setKind_4 rfl (lv_at hl 1 rfl) ?_
    refine lv_aload_n hx hb dX3_setKind_5 rfl (lv_at hl 0 rfl) ?_
    refine nx_get S0 hK hP 0 0 hin_X3 hf_9 rfl rfl (by decide) rfl rfl dX3_setKind_6 ?_
    refine nx_alen S0 hK hP 1 (v := (nI 25)) rfl (by decide) dX3_setKind_9 ?_
    refine lv_icmp_ge (tgt := 20) hx hb dX3_setKind_10 (by decide) (fun hc => ?_) (fun hc => ?_)
    · have hF := ng_t hc hF
      exact hret th_kinds _ _ _ _ hF dX3_setKind_20 hP hD hS
    · have hF := ng_f hc hF
      refine lv_aload_n hx hb dX3_setKind_13 rfl (lv_at hl 0 rfl) ?_
      refine nx_get S0 hK hP 0 0 hin_X3 hf_9 rfl rfl (by decide) rfl rfl dX3_setKind_14 ?_
      refine lv_iload_n hx hb dX3_setKind_17 rfl (lv_at hl 1 rfl) ?_
      refine lv_iload_n hx hb dX3_setKind_18 rfl (lv_at hl 2 rfl) ?_
      have hg := ng_p hF
      have hF := ng_x hF
      refine nx_iast S0 hK hP hD hS 1 rfl hg dX3_setKind_19 (W1 := [(q_th, .inr (3, [.ref q_th_kinds, .int th_snail, .int th_night, .int th_begunOn])), (q_th_kinds, .inl (cI, 25, .inl (upd th_kinds p1.toNatClampNeg p2)))]) rfl (fun H locs hP hD hS => ?_)
      exact hret (upd th_kinds p1.toNatClampNeg p2) _ _ _ _ hF dX3_setKind_20 hP hD hS
theorem hdX3_countOf : yX3_countOf.cls ≠ "java/lang/invoke/MethodHandle" ∧ yX3_countOf.cls ≠ "java/lang/invoke/VarHandle" ∧ (parseMethodDescriptor yX3_countOf.desc).map (fun d => d.parameters.length) = some 2 := by decide +kernel
set_option maxHeartbeats 40000000 in
set_option maxRecDepth 100000 in
theorem kX3_countOf (l : Launch) (dC : Nat → ClassId) (dI : Nat → Nat → Nat) (cI : ClassId) (q_th : Nat) (q_th_kinds : Nat) (sz : Nat) (th_snail : Int32) (th_night : Int32) (th_begunOn : Int32) (th_kinds : Nat → Int32) (p1 : Int32) (p2 : Int32) (N : Nat) (o : Int32) (hF : fX3_countOf N p1 p2 th_kinds = some o) : nx_I l yX3_countOf wsX3_countOf ({ frames := 1, cells := 0, slots := 0, locals := 21 } : Room) (dC, dI) cI [.ref q_th, .int p1, .int p2] [(q_th, .inr (3, [.ref q_th_kinds, .int th_snail, .int th_night, .int th_begunOn])), (q_th_kinds, .inl (cI, 25, .inl th_kinds))] sz o [(q_th, .inr (3, [.ref q_th_kinds, .int th_snail, .int th_night, .int th_begunOn])), (q_th_kinds, .inl (cI, 25, .inl th_kinds))] := by
  refine nx_int (cc := cX3_countOf) (maxL := 5) (by decide) rfl (Nat.le_of_ble_eq_true rfl) ?_
  intro p e s m args below meth c Q A S0 hK hN hA ret0 hP hD hS ls hl
  have S0 : CallFix p m c cX3_countOf 5 s args wsX3_countOf RX3 := S0
  have hx := S0.1
  have hb := S0.2.1
  have hown := S0.2.2.2.1
  have hts := S0.2.2.2.2
  have hl : lv_has ls 5 [(0, .ref q_th), (1, .int p1), (2, .int p2)] := hl
  have hret : ∀ (r0 : Int32) (H : Heap) (locs : List Loc) (ls : Array Slot) (pc : Nat), some r0 = some o → decode cX3_countOf pc = .ok (.ireturn, 1) → va_P (dC, dI) vwCl [(q_th, .inr (3, [.ref q_th_kinds, .int th_snail, .int th_night, .int th_begunOn])), (q_th_kinds, .inl (cI, 25, .inl th_kinds))] H → va_D A [(q_th, .inr (3, [.ref q_th_kinds, .int th_snail, .int th_night, .int th_begunOn])), (q_th_kinds, .inl (cI, 25, .inl th_kinds))] → va_S A s.heap H locs → W p l e ({ frames := 1, cells := 0, slots := 0, locals := 21 } : Room) s m args below meth c H locs 0 0 Q (F0 m pc ls [.int r0]) := by
    intro r0 H locs ls pc ho hd hP hD hS
    cases ho
    exact ret0 H locs ls pc hd hP hD hS
  rw [fX3_countOf_e] at hF
  refine lv_iconst (v := (nI 0)) hx hb dX3_countOf_0 (by decide) ?_
  refine lv_istore_n (lv' := [(3, .int (nI 0)), (0, .ref q_th), (1, .int p1), (2, .int p2)]) hx hb dX3_countOf_1 rfl hl (by decide) rfl (fun ls hl => ?_)
  refine lv_iconst (v := (nI 0)) hx hb dX3_countOf_2 (by decide) ?_
  have B_5 : ∀ (n_5 : Nat) (v3_5 : Int32) (v4_5 : Int32), fX3_countOf_5 N p1 p2 th_kinds n_5 v3_5 v4_5 = some o → ∀ (H : Heap) (locs : List Loc) (ls : Array Slot), va_P (dC, dI) vwCl [(q_th, .inr (3, [.ref q_th_kinds, .int th_snail, .int th_night, .int th_begunOn])), (q_th_kinds, .inl (cI, 25, .inl th_kinds))] H → va_D A [(q_th, .inr (3, [.ref q_th_kinds, .int th_snail, .int th_night, .int th_begunOn])), (q_th_kinds, .inl (cI, 25, .inl th_kinds))] → va_S A s.heap H locs → lv_has ls 5 [(0, .ref q_th), (1, .int p1), (2, .int p2), (3, .int v3_5), (4, .int v4_5)] → W p l e ({ frames := 1, cells := 0, slots := 0, locals := 21 } : Room) s m args below meth c H locs 0 0 Q (F0 m 5 ls []) := by
    intro n_5
    induction n_5 with
    | zero =>
      intro v3_5 v4_5 hF
      rw [fX3_countOf_5_z] at hF
      cases hF
    | succ n_5 ih_5 =>
      intro v3_5 v4_5 hF H locs ls hP hD hS hl
      rw [fX3_countOf_5_s] at hF
      refine lv_iload hx hb dX3_countOf_5 (lv_at hl 4 rfl) ?_
      refine lv_iload_n hx hb dX3_countOf_7 rfl (lv_at hl 2 rfl) ?_
      refine lv_icmp_ge (tgt := 30) hx hb dX3_countOf_8 (by decide) (fun hc => ?_) (fun hc => ?_)
      · have hF := ng_t hc hF
        refine lv_iload_n hx hb dX3_countOf_30 rfl (lv_at hl 3 rfl) ?_
        exact hret v3_5 _ _ _ _ hF dX3_countOf_31 hP hD hS
      · have hF := ng_f hc hF
        refine lv_aload_n hx hb dX3_countOf_11 rfl (lv_at hl 0 rfl) ?_
        refine lv_iload hx hb dX3_countOf_12 (lv_at hl 4 rfl) ?_
        obtain ⟨o14, hF1, hF⟩ := ng_b hF
        refine nx_callVi (As := [.int v4_5]) (rest := []) (W1 := [(q_th, .inr (3, [.ref q_th_kinds, .int th_snail, .int th_night, .int th_begunOn])), (q_th_kinds, .inl (cI, 25, .inl th_kinds))]) (wr := []) S0 hK hN hA hP hD hS (kX3_kindAt l dC dI cI q_th q_th_kinds _ th_snail th_night th_begunOn th_kinds v4_5 N o14 hF1) (cwV 1 hts gX3_countOf_X3_kindAt rfl rfl rfl ⟨rfl, hdX3_kindAt⟩ ⟨Nat.le_of_ble_eq_true rfl, Nat.le_of_ble_eq_true rfl⟩) [0, 1] [] [0, 1] rfl rfl rfl rfl 0 3 rfl rfl rfl rfl hl.1 rfl (Nat.le_of_ble_eq_true rfl) dX3_countOf_14 (fun H locs hP hD hS => ?_)
        refine lv_iload_n hx hb dX3_countOf_17 rfl (lv_at hl 1 rfl) ?_
        refine lv_icmp_ne (tgt := 24) hx hb dX3_countOf_18 (by decide) (fun hc => ?_) (fun hc => ?_)
        · have hF := ng_f hc hF
          refine lv_iinc (v := v4_5 + (nI 1)) (lv' := [(4, .int (v4_5 + (nI 1))), (0, .ref q_th), (1, .int p1), (2, .int p2), (3, .int v3_5)]) hx hb dX3_countOf_24 hl (k := 4) rfl rfl (by decide) rfl (fun ls hl => ?_)
          refine lv_goto (tgt := 5) hx hb dX3_countOf_27 (by decide) ?_
          exact ih_5 v3_5 (v4_5 + (nI 1)) hF _ _ _ hP hD hS (lv_sub hl [1, 2, 3, 4, 0] rfl)
        · have hF := ng_t hc hF
          refine lv_iinc (v := v3_5 + (nI 1)) (lv' := [(3, .int (v3_5 + (nI 1))), (0, .ref q_th), (1, .int p1), (2, .int p2), (4, .int v4_5)]) hx hb dX3_countOf_21 hl (k := 3) rfl rfl (by decide) rfl (fun ls hl => ?_)
          refine lv_iinc (v := v4_5 + (nI 1)) (lv' := [(4, .int (v4_5 + (nI 1))), (3, .int (v3_5 + (nI 1))), (0, .ref q_th), (1, .int p1), (2, .int p2)]) hx hb dX3_countOf_24 hl (k := 4) rfl rfl (by decide) rfl (fun ls hl => ?_)
          refine lv_goto (tgt := 5) hx hb dX3_countOf_27 (by decide) ?_
          exact ih_5 (v3_5 + (nI 1)) (v4_5 + (nI 1)) hF _ _ _ hP hD hS (lv_sub hl [2, 3, 4, 1, 0] rfl)
  refine lv_istore (lv' := [(4, .int (nI 0)), (3, .int (nI 0)), (0, .ref q_th), (1, .int p1), (2, .int p2)]) hx hb dX3_countOf_3 hl (by decide) rfl (fun ls hl => ?_)
  exact B_5 N (nI 0) (nI 0) hF _ _ _ hP hD hS (lv_sub hl [2, 3, 4, 1, 0] rfl)
theorem hdX4_add : yX4_add.cls ≠ "java/lang/invoke/MethodHandle" ∧ yX4_add.cls ≠ "java/lang/invoke/VarHandle" ∧ (parseMethodDescriptor yX4_add.desc).map (fun d => d.parameters.length) = some 2 := by decide +kernel
set_option maxHeartbeats 40000000 in
set_option maxRecDepth 100000 in
theorem kX4_add (l : Launch) (dC : Nat → ClassId) (dI : Nat → Nat → Nat) (cI : ClassId) (q_th : Nat) (q_th_places : Nat) (q_th_nights : Nat) (sz : Nat) (th_size : Int32) (th_places : Nat → Int32) (th_nights : Nat → Int32) (p1 : Int32) (p2 : Int32) (N : Nat) (o : Int32 × Int32 × (Nat → Int32) × (Nat → Int32)) (hF : fX4_add N th_size p1 p2 th_places th_nights = some o) : nx_I l yX4_add wsX4_add ({ frames := 0, cells := 0, slots := 0, locals := 0 } : Room) (dC, dI) cI [.ref q_th, .int p1, .int p2] [(q_th, .inr (4, [.ref q_th_places, .ref q_th_nights, .int th_size])), (q_th_places, .inl (cI, 8, .inl th_places)), (q_th_nights, .inl (cI, 8, .inl th_nights))] sz o.1 [(q_th, .inr (4, [.ref q_th_places, .ref q_th_nights, .int o.2.1])), (q_th_places, .inl (cI, 8, .inl o.2.2.1)), (q_th_nights, .inl (cI, 8, .inl o.2.2.2))] := by
  refine nx_zint (cc := cX4_add) (maxL := 3) (by decide) rfl (Nat.le_of_ble_eq_true rfl) ?_
  intro p e s m args below meth c Q A S0 hK hN hA ret0 hP hD hS ls hl
  have S0 : CallFix p m c cX4_add 3 s args wsX4_add RX4 := S0
  have hx := S0.1
  have hb := S0.2.1
  have hown := S0.2.2.2.1
  have hts := S0.2.2.2.2
  have hf_18 := hts (.fieldLink RX4 18 "SnailsYear$Sightings" "size" "I") (by decide +kernel)
  have hin_X4 : ∀ w ∈ wsX40, w ∈ wsX4_add := by decide +kernel
  have hf_9 := hts (.fieldLink RX4 9 "SnailsYear$Sightings" "places" "[I") (by decide +kernel)
  have hf_15 := hts (.fieldLink RX4 15 "SnailsYear$Sightings" "nights" "[I") (by decide +kernel)
  have hl : lv_has ls 3 [(0, .ref q_th), (1, .int p1), (2, .int p2)] := hl
  have hret : ∀ (r0 : Int32) (y0 : Int32) (y1 : Nat → Int32) (y2 : Nat → Int32) (H : Heap) (locs : List Loc) (ls : Array Slot) (pc : Nat), (r0 = 0 ∨ r0 = 1) → some (r0, y0, y1, y2) = some o → decode cX4_add pc = .ok (.ireturn, 1) → va_P (dC, dI) vwCl [(q_th, .inr (4, [.ref q_th_places, .ref q_th_nights, .int y0])), (q_th_places, .inl (cI, 8, .inl y1)), (q_th_nights, .inl (cI, 8, .inl y2))] H → va_D A [(q_th, .inr (4, [.ref q_th_places, .ref q_th_nights, .int y0])), (q_th_places, .inl (cI, 8, .inl y1)), (q_th_nights, .inl (cI, 8, .inl y2))] → va_S A s.heap H locs → W p l e ({ frames := 0, cells := 0, slots := 0, locals := 0 } : Room) s m args below meth c H locs 0 0 Q (F0 m pc ls [.int r0]) := by
    intro r0 y0 y1 y2 H locs ls pc hz ho hd hP hD hS
    cases ho
    exact ret0 H locs ls pc hz hd hP hD hS
  rw [fX4_add_e] at hF
  refine lv_aload_n hx hb dX4_add_0 rfl (lv_at hl 0 rfl) ?_
  refine nx_get S0 hK hP 0 2 hin_X4 hf_18 rfl rfl (by decide) rfl rfl dX4_add_1 ?_
  refine lv_if_lt (tgt := 16) hx hb dX4_add_4 (by decide) (fun hc => ?_) (fun hc => ?_)
  · have hF := ng_t hc hF
    refine lv_iconst (v := (nI 0)) hx hb dX4_add_16 (by decide) ?_
    exact hret (nI 0) th_size th_places th_nights _ _ _ _ (Or.inl rfl) hF dX4_add_17 hP hD hS
  · have hF := ng_f hc hF
    refine lv_aload_n hx hb dX4_add_7 rfl (lv_at hl 0 rfl) ?_
    refine nx_get S0 hK hP 0 2 hin_X4 hf_18 rfl rfl (by decide) rfl rfl dX4_add_8 ?_
    refine lv_bipush (v := (nI 8)) hx hb dX4_add_11 (by decide) ?_
    refine lv_icmp_lt (tgt := 18) hx hb dX4_add_13 (by decide) (fun hc => ?_) (fun hc => ?_)
    · have hF := ng_t hc hF
      refine lv_aload_n hx hb dX4_add_18 rfl (lv_at hl 0 rfl) ?_
      refine nx_get S0 hK hP 0 0 hin_X4 hf_9 rfl rfl (by decide) rfl rfl dX4_add_19 ?_
      refine lv_aload_n hx hb dX4_add_22 rfl (lv_at hl 0 rfl) ?_
      refine nx_get S0 hK hP 0 2 hin_X4 hf_18 rfl rfl (by decide) rfl rfl dX4_add_23 ?_
      refine lv_iload_n hx hb dX4_add_26 rfl (lv_at hl 1 rfl) ?_
      have hg := ng_p hF
      have hF := ng_x hF
      refine nx_iast S0 hK hP hD hS 1 rfl hg dX4_add_27 (W1 := [(q_th, .inr (4, [.ref q_th_places, .ref q_th_nights, .int th_size])), (q_th_places, .inl (cI, 8, .inl (upd th_places th_size.toNatClampNeg p1))), (q_th_nights, .inl (cI, 8, .inl th_nights))]) rfl (fun H locs hP hD hS => ?_)
      refine lv_aload_n hx hb dX4_add_28 rfl (lv_at hl 0 rfl) ?_
      refine nx_get S0 hK hP 0 1 hin_X4 hf_15 rfl rfl (by decide) rfl rfl dX4_add_29 ?_
      refine lv_aload_n hx hb dX4_add_32 rfl (lv_at hl 0 rfl) ?_
      refine nx_get S0 hK hP 0 2 hin_X4 hf_18 rfl rfl (by decide) rfl rfl dX4_add_33 ?_
      refine lv_iload_n hx hb dX4_add_36 rfl (lv_at hl 2 rfl) ?_
      have hg := ng_p hF
      have hF := ng_x hF
      refine nx_iast S0 hK hP hD hS 2 rfl hg dX4_add_37 (W1 := [(q_th, .inr (4, [.ref q_th_places, .ref q_th_nights, .int th_size])), (q_th_places, .inl (cI, 8, .inl (upd th_places th_size.toNatClampNeg p1))), (q_th_nights, .inl (cI, 8, .inl (upd th_nights th_size.toNatClampNeg p2)))]) rfl (fun H locs hP hD hS => ?_)
      refine lv_aload_n hx hb dX4_add_38 rfl (lv_at hl 0 rfl) ?_
      refine lv_dup hx hb dX4_add_39 rfl ?_
      refine nx_get S0 hK hP 0 2 hin_X4 hf_18 rfl rfl (by decide) rfl rfl dX4_add_40 ?_
      refine lv_iconst (v := (nI 1)) hx hb dX4_add_43 (by decide) ?_
      refine lv_iadd hx hb dX4_add_44 ?_
      refine nx_put S0 hK hP hD hS 0 2 hin_X4 tyX4 tyX4_ok nmX4 hf_18 rfl rfl (by decide) rfl rfl rfl rfl (Nat.le_of_ble_eq_true rfl) dX4_add_45 (W1 := [(q_th, .inr (4, [.ref q_th_places, .ref q_th_nights, .int (th_size + (nI 1))])), (q_th_places, .inl (cI, 8, .inl (upd th_places th_size.toNatClampNeg p1))), (q_th_nights, .inl (cI, 8, .inl (upd th_nights th_size.toNatClampNeg p2)))]) rfl (fun H locs hP hD hS => ?_)
      refine lv_iconst (v := (nI 1)) hx hb dX4_add_48 (by decide) ?_
      exact hret (nI 1) (th_size + (nI 1)) (upd th_places th_size.toNatClampNeg p1) (upd th_nights th_size.toNatClampNeg p2) _ _ _ _ (Or.inr rfl) hF dX4_add_49 hP hD hS
    · have hF := ng_f hc hF
      refine lv_iconst (v := (nI 0)) hx hb dX4_add_16 (by decide) ?_
      exact hret (nI 0) th_size th_places th_nights _ _ _ _ (Or.inl rfl) hF dX4_add_17 hP hD hS
theorem hdX4_agree : yX4_agree.cls ≠ "java/lang/invoke/MethodHandle" ∧ yX4_agree.cls ≠ "java/lang/invoke/VarHandle" ∧ (parseMethodDescriptor yX4_agree.desc).map (fun d => d.parameters.length) = some 2 := by decide +kernel
set_option maxHeartbeats 40000000 in
set_option maxRecDepth 100000 in
theorem kX4_agree (l : Launch) (dC : Nat → ClassId) (dI : Nat → Nat → Nat) (cI : ClassId) (q_th : Nat) (q_th_nights : Nat) (q_th_places : Nat) (sz : Nat) (th_size : Int32) (th_nights : Nat → Int32) (th_places : Nat → Int32) (p1 : Int32) (p2 : Int32) (N : Nat) (o : Int32) (hF : fX4_agree N th_size p1 p2 th_nights th_places = some o) : nx_I l yX4_agree wsX4_agree ({ frames := 0, cells := 0, slots := 0, locals := 0 } : Room) (dC, dI) cI [.ref q_th, .int p1, .int p2] [(q_th, .inr (4, [.ref q_th_places, .ref q_th_nights, .int th_size])), (q_th_nights, .inl (cI, 8, .inl th_nights)), (q_th_places, .inl (cI, 8, .inl th_places))] sz o [(q_th, .inr (4, [.ref q_th_places, .ref q_th_nights, .int th_size])), (q_th_nights, .inl (cI, 8, .inl th_nights)), (q_th_places, .inl (cI, 8, .inl th_places))] := by
  refine nx_zint (cc := cX4_agree) (maxL := 4) (by decide) rfl (Nat.le_of_ble_eq_true rfl) ?_
  intro p e s m args below meth c Q A S0 hK hN hA ret0 hP hD hS ls hl
  have S0 : CallFix p m c cX4_agree 4 s args wsX4_agree RX4 := S0
  have hx := S0.1
  have hb := S0.2.1
  have hown := S0.2.2.2.1
  have hts := S0.2.2.2.2
  have hf_18 := hts (.fieldLink RX4 18 "SnailsYear$Sightings" "size" "I") (by decide +kernel)
  have hin_X4 : ∀ w ∈ wsX40, w ∈ wsX4_agree := by decide +kernel
  have hf_15 := hts (.fieldLink RX4 15 "SnailsYear$Sightings" "nights" "[I") (by decide +kernel)
  have hf_9 := hts (.fieldLink RX4 9 "SnailsYear$Sightings" "places" "[I") (by decide +kernel)
  have hl : lv_has ls 4 [(0, .ref q_th), (1, .int p1), (2, .int p2)] := hl
  have hret : ∀ (r0 : Int32) (H : Heap) (locs : List Loc) (ls : Array Slot) (pc : Nat), (r0 = 0 ∨ r0 = 1) → some r0 = some o → decode cX4_agree pc = .ok (.ireturn, 1) → va_P (dC, dI) vwCl [(q_th, .inr (4, [.ref q_th_places, .ref q_th_nights, .int th_size])), (q_th_nights, .inl (cI, 8, .inl th_nights)), (q_th_places, .inl (cI, 8, .inl th_places))] H → va_D A [(q_th, .inr (4, [.ref q_th_places, .ref q_th_nights, .int th_size])), (q_th_nights, .inl (cI, 8, .inl th_nights)), (q_th_places, .inl (cI, 8, .inl th_places))] → va_S A s.heap H locs → W p l e ({ frames := 0, cells := 0, slots := 0, locals := 0 } : Room) s m args below meth c H locs 0 0 Q (F0 m pc ls [.int r0]) := by
    intro r0 H locs ls pc hz ho hd hP hD hS
    cases ho
    exact ret0 H locs ls pc hz hd hP hD hS
  rw [fX4_agree_e] at hF
  refine lv_iconst (v := (nI 0)) hx hb dX4_agree_0 (by decide) ?_
  have B_2 : ∀ (n_2 : Nat) (v3_2 : Int32), fX4_agree_2 th_size p1 p2 th_nights th_places n_2 v3_2 = some o → ∀ (H : Heap) (locs : List Loc) (ls : Array Slot), va_P (dC, dI) vwCl [(q_th, .inr (4, [.ref q_th_places, .ref q_th_nights, .int th_size])), (q_th_nights, .inl (cI, 8, .inl th_nights)), (q_th_places, .inl (cI, 8, .inl th_places))] H → va_D A [(q_th, .inr (4, [.ref q_th_places, .ref q_th_nights, .int th_size])), (q_th_nights, .inl (cI, 8, .inl th_nights)), (q_th_places, .inl (cI, 8, .inl th_places))] → va_S A s.heap H locs → lv_has ls 4 [(0, .ref q_th), (1, .int p1), (2, .int p2), (3, .int v3_2)] → W p l e ({ frames := 0, cells := 0, slots := 0, locals := 0 } : Room) s m args below meth c H locs 0 0 Q (F0 m 2 ls []) := by
    intro n_2
    induction n_2 with
    | zero =>
      intro v3_2 hF
      rw [fX4_agree_2_z] at hF
      cases hF
    | succ n_2 ih_2 =>
      intro v3_2 hF H locs ls hP hD hS hl
      rw [fX4_agree_2_s] at hF
      refine lv_iload_n hx hb dX4_agree_2 rfl (lv_at hl 3 rfl) ?_
      refine lv_aload_n hx hb dX4_agree_3 rfl (lv_at hl 0 rfl) ?_
      refine nx_get S0 hK hP 0 2 hin_X4 hf_18 rfl rfl (by decide) rfl rfl dX4_agree_4 ?_
      refine lv_icmp_ge (tgt := 38) hx hb dX4_agree_7 (by decide) (fun hc => ?_) (fun hc => ?_)
      · have hF := ng_t hc hF
        refine lv_iconst (v := (nI 1)) hx hb dX4_agree_38 (by decide) ?_
        exact hret (nI 1) _ _ _ _ (Or.inr rfl) hF dX4_agree_39 hP hD hS
      · have hF := ng_f hc hF
        refine lv_aload_n hx hb dX4_agree_10 rfl (lv_at hl 0 rfl) ?_
        refine nx_get S0 hK hP 0 1 hin_X4 hf_15 rfl rfl (by decide) rfl rfl dX4_agree_11 ?_
        refine lv_iload_n hx hb dX4_agree_14 rfl (lv_at hl 3 rfl) ?_
        have hg := ng_p hF
        have hF := ng_x hF
        refine nx_iald S0 hK hP 1 (v := th_nights v3_2.toNatClampNeg) rfl hg rfl dX4_agree_15 ?_
        refine lv_iload_n hx hb dX4_agree_16 rfl (lv_at hl 2 rfl) ?_
        refine lv_icmp_ne (tgt := 32) hx hb dX4_agree_17 (by decide) (fun hc => ?_) (fun hc => ?_)
        · have hF := ng_f hc hF
          refine lv_iinc (v := v3_2 + (nI 1)) (lv' := [(3, .int (v3_2 + (nI 1))), (0, .ref q_th), (1, .int p1), (2, .int p2)]) hx hb dX4_agree_32 hl (k := 3) rfl rfl (by decide) rfl (fun ls hl => ?_)
          refine lv_goto (tgt := 2) hx hb dX4_agree_35 (by decide) ?_
          exact ih_2 (v3_2 + (nI 1)) hF _ _ _ hP hD hS (lv_sub hl [1, 2, 3, 0] rfl)
        · have hF := ng_t hc hF
          refine lv_aload_n hx hb dX4_agree_20 rfl (lv_at hl 0 rfl) ?_
          refine nx_get S0 hK hP 0 0 hin_X4 hf_9 rfl rfl (by decide) rfl rfl dX4_agree_21 ?_
          refine lv_iload_n hx hb dX4_agree_24 rfl (lv_at hl 3 rfl) ?_
          have hg := ng_p hF
          have hF := ng_x hF
          refine nx_iald S0 hK hP 2 (v := th_places v3_2.toNatClampNeg) rfl hg rfl dX4_agree_25 ?_
          refine lv_iload_n hx hb dX4_agree_26 rfl (lv_at hl 1 rfl) ?_
          refine lv_icmp_eq (tgt := 32) hx hb dX4_agree_27 (by decide) (fun hc => ?_) (fun hc => ?_)
          · have hF := ng_t hc hF
            refine lv_iinc (v := v3_2 + (nI 1)) (lv' := [(3, .int (v3_2 + (nI 1))), (0, .ref q_th), (1, .int p1), (2, .int p2)]) hx hb dX4_agree_32 hl (k := 3) rfl rfl (by decide) rfl (fun ls hl => ?_)
            refine lv_goto (tgt := 2) hx hb dX4_agree_35 (by decide) ?_
            exact ih_2 (v3_2 + (nI 1)) hF _ _ _ hP hD hS (lv_sub hl [1, 2, 3, 0] rfl)
          · have hF := ng_f hc hF
            refine lv_iconst (v := (nI 0)) hx hb dX4_agree_30 (by decide) ?_
            exact hret (nI 0) _ _ _ _ (Or.inl rfl) hF dX4_agree_31 hP hD hS
  refine lv_istore_n (lv' := [(3, .int (nI 0)), (0, .ref q_th), (1, .int p1), (2, .int p2)]) hx hb dX4_agree_1 rfl hl (by decide) rfl (fun ls hl => ?_)
  exact B_2 N (nI 0) hF _ _ _ hP hD hS (lv_sub hl [1, 2, 3, 0] rfl)
theorem hdX7_stepsInto : yX7_stepsInto.cls ≠ "java/lang/invoke/MethodHandle" ∧ yX7_stepsInto.cls ≠ "java/lang/invoke/VarHandle" ∧ (parseMethodDescriptor yX7_stepsInto.desc).map (fun d => d.parameters.length) = some 2 := by decide +kernel
set_option maxHeartbeats 40000000 in
set_option maxRecDepth 100000 in
theorem kX7_stepsInto (l : Launch) (dC : Nat → ClassId) (dI : Nat → Nat → Nat) (cI : ClassId) (sz : Nat) (p0 : Int32) (p1 : Int32) (N : Nat) (o : Int32) (hF : fX7_stepsInto N p0 p1 = some o) : nx_I l yX7_stepsInto wsX7_stepsInto ({ frames := 0, cells := 0, slots := 0, locals := 0 } : Room) (dC, dI) cI [.int p0, .int p1] [] sz o [] := by
  refine nx_int (cc := cX7_stepsInto) (maxL := 2) (by decide) rfl (Nat.le_of_ble_eq_true rfl) ?_
  intro p e s m args below meth c Q A S0 hK hN hA ret0 hP hD hS ls hl
  have S0 : CallFix p m c cX7_stepsInto 2 s args wsX7_stepsInto RX7 := S0
  have hx := S0.1
  have hb := S0.2.1
  have hown := S0.2.2.2.1
  have hts := S0.2.2.2.2
  have hl : lv_has ls 2 [(0, .int p0), (1, .int p1)] := hl
  have hret : ∀ (r0 : Int32) (H : Heap) (locs : List Loc) (ls : Array Slot) (pc : Nat), some r0 = some o → decode cX7_stepsInto pc = .ok (.ireturn, 1) → va_P (dC, dI) vwCl [] H → va_D A [] → va_S A s.heap H locs → W p l e ({ frames := 0, cells := 0, slots := 0, locals := 0 } : Room) s m args below meth c H locs 0 0 Q (F0 m pc ls [.int r0]) := by
    intro r0 H locs ls pc ho hd hP hD hS
    cases ho
    exact ret0 H locs ls pc hd hP hD hS
  rw [fX7_stepsInto_e] at hF
  refine lv_iload_n hx hb dX7_stepsInto_0 rfl (lv_at hl 0 rfl) ?_
  by_cases hs_0 : p0 = (nI 1)
  · have hF := ng_t hs_0 hF
    refine lv_tableIn (off := 31) (tgt := 32) hx hb dX7_stepsInto_1 (by rw [hs_0]; decide) (by rw [hs_0]; decide) (by rw [hs_0]; decide +kernel) (by decide) ?_
    refine lv_iconst (v := (nI 3)) hx hb dX7_stepsInto_32 (by decide) ?_
    exact hret (nI 3) _ _ _ _ hF dX7_stepsInto_33 hP hD hS
  have hF := ng_f hs_0 hF
  by_cases hs_1 : p0 = (nI 2)
  · have hF := ng_t hs_1 hF
    refine lv_tableIn (off := 44) (tgt := 45) hx hb dX7_stepsInto_1 (by rw [hs_1]; decide) (by rw [hs_1]; decide) (by rw [hs_1]; decide +kernel) (by decide) ?_
    refine lv_sipush (v := (nI 1000)) hx hb dX7_stepsInto_45 (by decide) ?_
    exact hret (nI 1000) _ _ _ _ hF dX7_stepsInto_48 hP hD hS
  have hF := ng_f hs_1 hF
  by_cases hs_2 : p0 = (nI 3)
  · have hF := ng_t hs_2 hF
    refine lv_tableIn (off := 48) (tgt := 49) hx hb dX7_stepsInto_1 (by rw [hs_2]; decide) (by rw [hs_2]; decide) (by rw [hs_2]; decide +kernel) (by decide) ?_
    refine lv_iconst (v := (nI 1)) hx hb dX7_stepsInto_49 (by decide) ?_
    exact hret (nI 1) _ _ _ _ hF dX7_stepsInto_50 hP hD hS
  have hF := ng_f hs_2 hF
  by_cases hs_3 : p0 = (nI 4)
  · have hF := ng_t hs_3 hF
    refine lv_tableIn (off := 33) (tgt := 34) hx hb dX7_stepsInto_1 (by rw [hs_3]; decide) (by rw [hs_3]; decide) (by rw [hs_3]; decide +kernel) (by decide) ?_
    refine lv_iload_n hx hb dX7_stepsInto_34 rfl (lv_at hl 1 rfl) ?_
    refine lv_iconst (v := (nI 3)) hx hb dX7_stepsInto_35 (by decide) ?_
    refine lv_icmp_ge (tgt := 43) hx hb dX7_stepsInto_36 (by decide) (fun hc => ?_) (fun hc => ?_)
    · have hF := ng_t hc hF
      refine lv_iconst (v := (nI 2)) hx hb dX7_stepsInto_43 (by decide) ?_
      exact hret (nI 2) _ _ _ _ hF dX7_stepsInto_44 hP hD hS
    · have hF := ng_f hc hF
      refine lv_iconst (v := (nI 1)) hx hb dX7_stepsInto_39 (by decide) ?_
      refine lv_goto (tgt := 44) hx hb dX7_stepsInto_40 (by decide) ?_
      exact hret (nI 1) _ _ _ _ hF dX7_stepsInto_44 hP hD hS
  have hF := ng_f hs_3 hF
  have hs_0z : ¬ p0.toInt = 1 := fun h9 => hs_0 (Int32.toInt_inj.mp (h9.trans (by decide)))
  have hs_1z : ¬ p0.toInt = 2 := fun h9 => hs_1 (Int32.toInt_inj.mp (h9.trans (by decide)))
  have hs_2z : ¬ p0.toInt = 3 := fun h9 => hs_2 (Int32.toInt_inj.mp (h9.trans (by decide)))
  have hs_3z : ¬ p0.toInt = 4 := fun h9 => hs_3 (Int32.toInt_inj.mp (h9.trans (by decide)))
  refine lv_tableOut (tgt := 49) hx hb dX7_stepsInto_1 (by omega) (by decide) ?_
  refine lv_iconst (v := (nI 1)) hx hb dX7_stepsInto_49 (by decide) ?_
  exact hret (nI 1) _ _ _ _ hF dX7_stepsInto_50 hP hD hS
