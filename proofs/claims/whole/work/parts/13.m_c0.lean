theorem hdX2_isFigure : yX2_isFigure.cls ≠ "java/lang/invoke/MethodHandle" ∧ yX2_isFigure.cls ≠ "java/lang/invoke/VarHandle" ∧ (parseMethodDescriptor yX2_isFigure.desc).map (fun d => d.parameters.length) = some 1 := by decide +kernel
set_option maxHeartbeats 40000000 in
set_option maxRecDepth 100000 in
theorem kX2_isFigure (l : Launch) (dC : Nat → ClassId) (dI : Nat → Nat → Nat) (cI : ClassId) (sz : Nat) (p0 : Int32) (N : Nat) (o : Int32) (hF : fX2_isFigure N p0 = some o) : nx_I l yX2_isFigure wsX2_isFigure ({ frames := 0, cells := 0, slots := 0, locals := 0 } : Room) (dC, dI) cI [.int p0] [] sz o [] := by
  refine nx_zint (cc := cX2_isFigure) (maxL := 1) (by decide) rfl (Nat.le_of_ble_eq_true rfl) ?_
  intro p e s m args below meth c Q A S0 hK hN hA ret0 hP hD hS ls hl
  have S0 : CallFix p m c cX2_isFigure 1 s args wsX2_isFigure RX2 := S0
  have hx := S0.1
  have hb := S0.2.1
  have hown := S0.2.2.2.1
  have hts := S0.2.2.2.2
  have hl : lv_has ls 1 [(0, .int p0)] := hl
  have hret : ∀ (r0 : Int32) (H : Heap) (locs : List Loc) (ls : Array Slot) (pc : Nat), (r0 = 0 ∨ r0 = 1) → some r0 = some o → decode cX2_isFigure pc = .ok (.ireturn, 1) → va_P (dC, dI) vwCl [] H → va_D A [] → va_S A s.heap H locs → W p l e ({ frames := 0, cells := 0, slots := 0, locals := 0 } : Room) s m args below meth c H locs 0 0 Q (F0 m pc ls [.int r0]) := by
    intro r0 H locs ls pc hz ho hd hP hD hS
    cases ho
    exact ret0 H locs ls pc hz hd hP hD hS
  rw [fX2_isFigure_e] at hF
  refine lv_iload_n hx hb dX2_isFigure_0 rfl (lv_at hl 0 rfl) ?_
  refine lv_bipush (v := (nI 48)) hx hb dX2_isFigure_1 (by decide) ?_
  refine lv_icmp_lt (tgt := 16) hx hb dX2_isFigure_3 (by decide) (fun hc => ?_) (fun hc => ?_)
  · have hF := ng_t hc hF
    refine lv_iconst (v := (nI 0)) hx hb dX2_isFigure_16 (by decide) ?_
    exact hret (nI 0) _ _ _ _ (Or.inl rfl) hF dX2_isFigure_17 hP hD hS
  · have hF := ng_f hc hF
    refine lv_iload_n hx hb dX2_isFigure_6 rfl (lv_at hl 0 rfl) ?_
    refine lv_bipush (v := (nI 57)) hx hb dX2_isFigure_7 (by decide) ?_
    refine lv_icmp_gt (tgt := 16) hx hb dX2_isFigure_9 (by decide) (fun hc => ?_) (fun hc => ?_)
    · have hF := ng_t hc hF
      refine lv_iconst (v := (nI 0)) hx hb dX2_isFigure_16 (by decide) ?_
      exact hret (nI 0) _ _ _ _ (Or.inl rfl) hF dX2_isFigure_17 hP hD hS
    · have hF := ng_f hc hF
      refine lv_iconst (v := (nI 1)) hx hb dX2_isFigure_12 (by decide) ?_
      refine lv_goto (tgt := 17) hx hb dX2_isFigure_13 (by decide) ?_
      exact hret (nI 1) _ _ _ _ (Or.inr rfl) hF dX2_isFigure_17 hP hD hS
theorem hdX2_readNumber : yX2_readNumber.cls ≠ "java/lang/invoke/MethodHandle" ∧ yX2_readNumber.cls ≠ "java/lang/invoke/VarHandle" ∧ (parseMethodDescriptor yX2_readNumber.desc).map (fun d => d.parameters.length) = some 0 := by decide +kernel
set_option maxHeartbeats 40000000 in
set_option maxRecDepth 100000 in
theorem kX2_readNumber (l : Launch) (dC : Nat → ClassId) (dI : Nat → Nat → Nat) (cI : ClassId) (q_th : Nat) (q_th_text : Nat) (q_th_text_letters : Nat) (sz : Nat) (th_place : Int32) (th_first : Int32) (th_second : Int32) (th_yardIsFixed : Int32) (th_text_length : Int32) (th_text_letters : Nat → Int32) (N : Nat) (o : Int32 × Int32) (hF : fX2_readNumber N th_place th_text_length th_text_letters = some o) : nx_I l yX2_readNumber wsX2_readNumber ({ frames := 1, cells := 0, slots := 0, locals := 21 } : Room) (dC, dI) cI [.ref q_th] [(q_th, .inr (2, [.ref q_th_text, .int th_place, .int th_first, .int th_second, .int th_yardIsFixed])), (q_th_text, .inr (0, [.ref q_th_text_letters, .int th_text_length])), (q_th_text_letters, .inl (cI, 200, .inl th_text_letters))] sz o.1 [(q_th, .inr (2, [.ref q_th_text, .int o.2, .int th_first, .int th_second, .int th_yardIsFixed])), (q_th_text, .inr (0, [.ref q_th_text_letters, .int th_text_length])), (q_th_text_letters, .inl (cI, 200, .inl th_text_letters))] := by
  refine nx_int (cc := cX2_readNumber) (maxL := 4) (by decide) rfl (Nat.le_of_ble_eq_true rfl) ?_
  intro p e s m args below meth c Q A S0 hK hN hA ret0 hP hD hS ls hl
  have S0 : CallFix p m c cX2_readNumber 4 s args wsX2_readNumber RX2 := S0
  have hx := S0.1
  have hb := S0.2.1
  have hown := S0.2.2.2.1
  have hts := S0.2.2.2.2
  have hf_25 := hts (.fieldLink RX2 25 "SnailsYear$Reader" "text" "LSnailsYear$Letters;") (by decide +kernel)
  have hin_X2 : ∀ w ∈ wsX20, w ∈ wsX2_readNumber := by decide +kernel
  have hf_9 := hts (.fieldLink RX2 9 "SnailsYear$Reader" "place" "I") (by decide +kernel)
  have hl : lv_has ls 4 [(0, .ref q_th)] := hl
  have hret : ∀ (r0 : Int32) (y0 : Int32) (H : Heap) (locs : List Loc) (ls : Array Slot) (pc : Nat), some (r0, y0) = some o → decode cX2_readNumber pc = .ok (.ireturn, 1) → va_P (dC, dI) vwCl [(q_th, .inr (2, [.ref q_th_text, .int y0, .int th_first, .int th_second, .int th_yardIsFixed])), (q_th_text, .inr (0, [.ref q_th_text_letters, .int th_text_length])), (q_th_text_letters, .inl (cI, 200, .inl th_text_letters))] H → va_D A [(q_th, .inr (2, [.ref q_th_text, .int y0, .int th_first, .int th_second, .int th_yardIsFixed])), (q_th_text, .inr (0, [.ref q_th_text_letters, .int th_text_length])), (q_th_text_letters, .inl (cI, 200, .inl th_text_letters))] → va_S A s.heap H locs → W p l e ({ frames := 1, cells := 0, slots := 0, locals := 21 } : Room) s m args below meth c H locs 0 0 Q (F0 m pc ls [.int r0]) := by
    intro r0 y0 H locs ls pc ho hd hP hD hS
    cases ho
    exact ret0 H locs ls pc hd hP hD hS
  rw [fX2_readNumber_e] at hF
  refine lv_bipush (v := (-4 : Int32)) hx hb dX2_readNumber_0 (by decide) ?_
  refine lv_istore_n (lv' := [(1, .int (-4 : Int32)), (0, .ref q_th)]) hx hb dX2_readNumber_2 rfl hl (by decide) rfl (fun ls hl => ?_)
  refine lv_iconst (v := (nI 0)) hx hb dX2_readNumber_3 (by decide) ?_
  have B_5 : ∀ (n_5 : Nat) (v1_5 : Int32) (v2_5 : Int32) (th_place_5 : Int32), fX2_readNumber_5 N th_text_length th_text_letters n_5 v1_5 v2_5 th_place_5 = some o → ∀ (H : Heap) (locs : List Loc) (ls : Array Slot), va_P (dC, dI) vwCl [(q_th, .inr (2, [.ref q_th_text, .int th_place_5, .int th_first, .int th_second, .int th_yardIsFixed])), (q_th_text, .inr (0, [.ref q_th_text_letters, .int th_text_length])), (q_th_text_letters, .inl (cI, 200, .inl th_text_letters))] H → va_D A [(q_th, .inr (2, [.ref q_th_text, .int th_place_5, .int th_first, .int th_second, .int th_yardIsFixed])), (q_th_text, .inr (0, [.ref q_th_text_letters, .int th_text_length])), (q_th_text_letters, .inl (cI, 200, .inl th_text_letters))] → va_S A s.heap H locs → lv_has ls 4 [(0, .ref q_th), (1, .int v1_5), (2, .int v2_5)] → W p l e ({ frames := 1, cells := 0, slots := 0, locals := 21 } : Room) s m args below meth c H locs 0 0 Q (F0 m 5 ls []) := by
    intro n_5
    induction n_5 with
    | zero =>
      intro v1_5 v2_5 th_place_5 hF
      rw [fX2_readNumber_5_z] at hF
      cases hF
    | succ n_5 ih_5 =>
      intro v1_5 v2_5 th_place_5 hF H locs ls hP hD hS hl
      rw [fX2_readNumber_5_s] at hF
      refine lv_iload_n hx hb dX2_readNumber_5 rfl (lv_at hl 2 rfl) ?_
      refine lv_iconst (v := (nI 2)) hx hb dX2_readNumber_6 (by decide) ?_
      refine lv_icmp_ge (tgt := 73) hx hb dX2_readNumber_7 (by decide) (fun hc => ?_) (fun hc => ?_)
      · have hF := ng_t hc hF
        refine lv_iload_n hx hb dX2_readNumber_73 rfl (lv_at hl 1 rfl) ?_
        exact hret v1_5 th_place_5 _ _ _ _ hF dX2_readNumber_74 hP hD hS
      · have hF := ng_f hc hF
        refine lv_aload_n hx hb dX2_readNumber_10 rfl (lv_at hl 0 rfl) ?_
        refine nx_get S0 hK hP 0 0 hin_X2 hf_25 rfl rfl (by decide) rfl rfl dX2_readNumber_11 ?_
        refine lv_aload_n hx hb dX2_readNumber_14 rfl (lv_at hl 0 rfl) ?_
        refine nx_get S0 hK hP 0 1 hin_X2 hf_9 rfl rfl (by decide) rfl rfl dX2_readNumber_15 ?_
        obtain ⟨o18, hF1, hF⟩ := ng_b hF
        refine nx_callVi (As := [.int th_place_5]) (rest := []) (W1 := [(q_th, .inr (2, [.ref q_th_text, .int th_place_5, .int th_first, .int th_second, .int th_yardIsFixed])), (q_th_text, .inr (0, [.ref q_th_text_letters, .int th_text_length])), (q_th_text_letters, .inl (cI, 200, .inl th_text_letters))]) (wr := [(q_th, .inr (2, [.ref q_th_text, .int th_place_5, .int th_first, .int th_second, .int th_yardIsFixed]))]) S0 hK hN hA hP hD hS (kX0_at l dC dI cI q_th_text q_th_text_letters _ th_text_length th_text_letters th_place_5 N o18 hF1) (cwV 1 hts gX2_readNumber_X0_at rfl rfl rfl ⟨rfl, hdX0_at⟩ ⟨Nat.le_of_ble_eq_true rfl, Nat.le_of_ble_eq_true rfl⟩) [1, 2] [0] [0, 1, 2] rfl rfl rfl rfl 1 0 rfl rfl rfl rfl hl.1 rfl (Nat.le_of_ble_eq_true rfl) dX2_readNumber_18 (fun H locs hP hD hS => ?_)
        obtain ⟨o21, hF1, hF⟩ := ng_b hF
        refine nx_callSi (As := [.int o18]) (rest := []) (W1 := [(q_th, .inr (2, [.ref q_th_text, .int th_place_5, .int th_first, .int th_second, .int th_yardIsFixed])), (q_th_text, .inr (0, [.ref q_th_text_letters, .int th_text_length])), (q_th_text_letters, .inl (cI, 200, .inl th_text_letters))]) (wr := [(q_th, .inr (2, [.ref q_th_text, .int th_place_5, .int th_first, .int th_second, .int th_yardIsFixed])), (q_th_text, .inr (0, [.ref q_th_text_letters, .int th_text_length])), (q_th_text_letters, .inl (cI, 200, .inl th_text_letters))]) S0 hK hN hA hP hD hS (kX2_isFigure l dC dI cI _ o18 N o21 hF1) (va_cwS 1 hts gX2_readNumber_X2_isFigure rfl rfl rfl hdX2_isFigure ⟨Nat.le_of_ble_eq_true rfl, Nat.le_of_ble_eq_true rfl⟩) [] [0, 1, 2] [0, 1, 2] rfl rfl rfl rfl rfl hl.1 rfl (Nat.le_of_ble_eq_true rfl) dX2_readNumber_21 (fun H locs hP hD hS => ?_)
        refine lv_if_eq (tgt := 73) hx hb dX2_readNumber_24 (by decide) (fun hc => ?_) (fun hc => ?_)
        · have hF := ng_t hc hF
          refine lv_iload_n hx hb dX2_readNumber_73 rfl (lv_at hl 1 rfl) ?_
          exact hret v1_5 th_place_5 _ _ _ _ hF dX2_readNumber_74 hP hD hS
        · have hF := ng_f hc hF
          refine lv_aload_n hx hb dX2_readNumber_27 rfl (lv_at hl 0 rfl) ?_
          refine nx_get S0 hK hP 0 0 hin_X2 hf_25 rfl rfl (by decide) rfl rfl dX2_readNumber_28 ?_
          refine lv_aload_n hx hb dX2_readNumber_31 rfl (lv_at hl 0 rfl) ?_
          refine nx_get S0 hK hP 0 1 hin_X2 hf_9 rfl rfl (by decide) rfl rfl dX2_readNumber_32 ?_
          obtain ⟨o35, hF1, hF⟩ := ng_b hF
          refine nx_callVi (As := [.int th_place_5]) (rest := []) (W1 := [(q_th, .inr (2, [.ref q_th_text, .int th_place_5, .int th_first, .int th_second, .int th_yardIsFixed])), (q_th_text, .inr (0, [.ref q_th_text_letters, .int th_text_length])), (q_th_text_letters, .inl (cI, 200, .inl th_text_letters))]) (wr := [(q_th, .inr (2, [.ref q_th_text, .int th_place_5, .int th_first, .int th_second, .int th_yardIsFixed]))]) S0 hK hN hA hP hD hS (kX0_at l dC dI cI q_th_text q_th_text_letters _ th_text_length th_text_letters th_place_5 N o35 hF1) (cwV 1 hts gX2_readNumber_X0_at rfl rfl rfl ⟨rfl, hdX0_at⟩ ⟨Nat.le_of_ble_eq_true rfl, Nat.le_of_ble_eq_true rfl⟩) [1, 2] [0] [0, 1, 2] rfl rfl rfl rfl 1 0 rfl rfl rfl rfl hl.1 rfl (Nat.le_of_ble_eq_true rfl) dX2_readNumber_35 (fun H locs hP hD hS => ?_)
          refine lv_bipush (v := (nI 48)) hx hb dX2_readNumber_38 (by decide) ?_
          refine lv_isub hx hb dX2_readNumber_40 ?_
          refine lv_istore_n (lv' := [(3, .int (o35 - (nI 48))), (0, .ref q_th), (1, .int v1_5), (2, .int v2_5)]) hx hb dX2_readNumber_41 rfl hl (by decide) rfl (fun ls hl => ?_)
          refine lv_iload_n hx hb dX2_readNumber_42 rfl (lv_at hl 3 rfl) ?_
          have B_56 : ∀ (s0_56 : Int32), fX2_readNumber_56 v2_5 th_place_5 s0_56 (fX2_readNumber_5 N th_text_length th_text_letters n_5) = some o → ∀ (H : Heap) (locs : List Loc) (ls : Array Slot), va_P (dC, dI) vwCl [(q_th, .inr (2, [.ref q_th_text, .int th_place_5, .int th_first, .int th_second, .int th_yardIsFixed])), (q_th_text, .inr (0, [.ref q_th_text_letters, .int th_text_length])), (q_th_text_letters, .inl (cI, 200, .inl th_text_letters))] H → va_D A [(q_th, .inr (2, [.ref q_th_text, .int th_place_5, .int th_first, .int th_second, .int th_yardIsFixed])), (q_th_text, .inr (0, [.ref q_th_text_letters, .int th_text_length])), (q_th_text_letters, .inl (cI, 200, .inl th_text_letters))] → va_S A s.heap H locs → lv_has ls 4 [(0, .ref q_th), (2, .int v2_5)] → W p l e ({ frames := 1, cells := 0, slots := 0, locals := 21 } : Room) s m args below meth c H locs 0 0 Q (F0 m 56 ls [.int s0_56]) := by
            intro s0_56 hF H locs ls hP hD hS hl
            rw [fX2_readNumber_56_e] at hF
            refine lv_istore_n (lv' := [(1, .int s0_56), (0, .ref q_th), (2, .int v2_5)]) hx hb dX2_readNumber_56 rfl hl (by decide) rfl (fun ls hl => ?_)
            refine lv_aload_n hx hb dX2_readNumber_57 rfl (lv_at hl 1 rfl) ?_
            refine lv_dup hx hb dX2_readNumber_58 rfl ?_
            refine nx_get S0 hK hP 0 1 hin_X2 hf_9 rfl rfl (by decide) rfl rfl dX2_readNumber_59 ?_
            refine lv_iconst (v := (nI 1)) hx hb dX2_readNumber_62 (by decide) ?_
            refine lv_iadd hx hb dX2_readNumber_63 ?_
            refine nx_put S0 hK hP hD hS 0 1 hin_X2 tyX2 tyX2_ok nmX2 hf_9 rfl rfl (by decide) rfl rfl rfl rfl (Nat.le_of_ble_eq_true rfl) dX2_readNumber_64 (W1 := [(q_th, .inr (2, [.ref q_th_text, .int (th_place_5 + (nI 1)), .int th_first, .int th_second, .int th_yardIsFixed])), (q_th_text, .inr (0, [.ref q_th_text_letters, .int th_text_length])), (q_th_text_letters, .inl (cI, 200, .inl th_text_letters))]) rfl (fun H locs hP hD hS => ?_)
            refine lv_iinc (v := v2_5 + (nI 1)) (lv' := [(2, .int (v2_5 + (nI 1))), (1, .int s0_56), (0, .ref q_th)]) hx hb dX2_readNumber_67 hl (k := 2) rfl rfl (by decide) rfl (fun ls hl => ?_)
            refine lv_goto (tgt := 5) hx hb dX2_readNumber_70 (by decide) ?_
            exact ih_5 s0_56 (v2_5 + (nI 1)) (th_place_5 + (nI 1)) hF _ _ _ hP hD hS (lv_sub hl [2, 1, 0] rfl)
          refine lv_if_ne (tgt := 50) hx hb dX2_readNumber_43 (by decide) (fun hc => ?_) (fun hc => ?_)
          · have hF := ng_f hc hF
            refine lv_iload_n hx hb dX2_readNumber_50 rfl (lv_at hl 2 rfl) ?_
            refine lv_bipush (v := (nI 10)) hx hb dX2_readNumber_51 (by decide) ?_
            refine lv_imul hx hb dX2_readNumber_53 ?_
            refine lv_iload_n hx hb dX2_readNumber_54 rfl (lv_at hl 0 rfl) ?_
            refine lv_iadd hx hb dX2_readNumber_55 ?_
            exact B_56 ((v1_5 * (nI 10)) + (o35 - (nI 48))) hF _ _ _ hP hD hS (lv_sub hl [1, 3] rfl)
          · have hF := ng_t hc hF
            refine lv_iload_n hx hb dX2_readNumber_46 rfl (lv_at hl 0 rfl) ?_
            refine lv_goto (tgt := 56) hx hb dX2_readNumber_47 (by decide) ?_
            exact B_56 (o35 - (nI 48)) hF _ _ _ hP hD hS (lv_sub hl [1, 3] rfl)
  refine lv_istore_n (lv' := [(2, .int (nI 0)), (1, .int (-4 : Int32)), (0, .ref q_th)]) hx hb dX2_readNumber_4 rfl hl (by decide) rfl (fun ls hl => ?_)
  exact B_5 N (-4 : Int32) (nI 0) th_place hF _ _ _ hP hD hS (lv_sub hl [2, 1, 0] rfl)
theorem hdX2_readSign : yX2_readSign.cls ≠ "java/lang/invoke/MethodHandle" ∧ yX2_readSign.cls ≠ "java/lang/invoke/VarHandle" ∧ (parseMethodDescriptor yX2_readSign.desc).map (fun d => d.parameters.length) = some 1 := by decide +kernel
set_option maxHeartbeats 40000000 in
set_option maxRecDepth 100000 in
theorem kX2_readSign (l : Launch) (dC : Nat → ClassId) (dI : Nat → Nat → Nat) (cI : ClassId) (q_th : Nat) (q_th_text : Nat) (q_th_text_letters : Nat) (sz : Nat) (th_place : Int32) (th_first : Int32) (th_second : Int32) (th_yardIsFixed : Int32) (th_text_length : Int32) (th_text_letters : Nat → Int32) (p1 : Int32) (N : Nat) (o : Int32 × Int32) (hF : fX2_readSign N th_place p1 th_text_length th_text_letters = some o) : nx_I l yX2_readSign wsX2_readSign ({ frames := 1, cells := 0, slots := 0, locals := 21 } : Room) (dC, dI) cI [.ref q_th, .int p1] [(q_th, .inr (2, [.ref q_th_text, .int th_place, .int th_first, .int th_second, .int th_yardIsFixed])), (q_th_text, .inr (0, [.ref q_th_text_letters, .int th_text_length])), (q_th_text_letters, .inl (cI, 200, .inl th_text_letters))] sz o.1 [(q_th, .inr (2, [.ref q_th_text, .int o.2, .int th_first, .int th_second, .int th_yardIsFixed])), (q_th_text, .inr (0, [.ref q_th_text_letters, .int th_text_length])), (q_th_text_letters, .inl (cI, 200, .inl th_text_letters))] := by
  refine nx_zint (cc := cX2_readSign) (maxL := 3) (by decide) rfl (Nat.le_of_ble_eq_true rfl) ?_
  intro p e s m args below meth c Q A S0 hK hN hA ret0 hP hD hS ls hl
  have S0 : CallFix p m c cX2_readSign 3 s args wsX2_readSign RX2 := S0
  have hx := S0.1
  have hb := S0.2.1
  have hown := S0.2.2.2.1
  have hts := S0.2.2.2.2
  have hf_25 := hts (.fieldLink RX2 25 "SnailsYear$Reader" "text" "LSnailsYear$Letters;") (by decide +kernel)
  have hin_X2 : ∀ w ∈ wsX20, w ∈ wsX2_readSign := by decide +kernel
  have hf_9 := hts (.fieldLink RX2 9 "SnailsYear$Reader" "place" "I") (by decide +kernel)
  have hl : lv_has ls 3 [(0, .ref q_th), (1, .int p1)] := hl
  have hret : ∀ (r0 : Int32) (y0 : Int32) (H : Heap) (locs : List Loc) (ls : Array Slot) (pc : Nat), (r0 = 0 ∨ r0 = 1) → some (r0, y0) = some o → decode cX2_readSign pc = .ok (.ireturn, 1) → va_P (dC, dI) vwCl [(q_th, .inr (2, [.ref q_th_text, .int y0, .int th_first, .int th_second, .int th_yardIsFixed])), (q_th_text, .inr (0, [.ref q_th_text_letters, .int th_text_length])), (q_th_text_letters, .inl (cI, 200, .inl th_text_letters))] H → va_D A [(q_th, .inr (2, [.ref q_th_text, .int y0, .int th_first, .int th_second, .int th_yardIsFixed])), (q_th_text, .inr (0, [.ref q_th_text_letters, .int th_text_length])), (q_th_text_letters, .inl (cI, 200, .inl th_text_letters))] → va_S A s.heap H locs → W p l e ({ frames := 1, cells := 0, slots := 0, locals := 21 } : Room) s m args below meth c H locs 0 0 Q (F0 m pc ls [.int r0]) := by
    intro r0 y0 H locs ls pc hz ho hd hP hD hS
    cases ho
    exact ret0 H locs ls pc hz hd hP hD hS
  rw [fX2_readSign_e] at hF
  refine lv_aload_n hx hb dX2_readSign_0 rfl (lv_at hl 0 rfl) ?_
  refine nx_get S0 hK hP 0 0 hin_X2 hf_25 rfl rfl (by decide) rfl rfl dX2_readSign_1 ?_
  refine lv_aload_n hx hb dX2_readSign_4 rfl (lv_at hl 0 rfl) ?_
  refine nx_get S0 hK hP 0 1 hin_X2 hf_9 rfl rfl (by decide) rfl rfl dX2_readSign_5 ?_
  obtain ⟨o8, hF1, hF⟩ := ng_b hF
  refine nx_callVi (As := [.int th_place]) (rest := []) (W1 := [(q_th, .inr (2, [.ref q_th_text, .int th_place, .int th_first, .int th_second, .int th_yardIsFixed])), (q_th_text, .inr (0, [.ref q_th_text_letters, .int th_text_length])), (q_th_text_letters, .inl (cI, 200, .inl th_text_letters))]) (wr := [(q_th, .inr (2, [.ref q_th_text, .int th_place, .int th_first, .int th_second, .int th_yardIsFixed]))]) S0 hK hN hA hP hD hS (kX0_at l dC dI cI q_th_text q_th_text_letters _ th_text_length th_text_letters th_place N o8 hF1) (cwV 1 hts gX2_readSign_X0_at rfl rfl rfl ⟨rfl, hdX0_at⟩ ⟨Nat.le_of_ble_eq_true rfl, Nat.le_of_ble_eq_true rfl⟩) [1, 2] [0] [0, 1, 2] rfl rfl rfl rfl 1 0 rfl rfl rfl rfl hl.1 rfl (Nat.le_of_ble_eq_true rfl) dX2_readSign_8 (fun H locs hP hD hS => ?_)
  refine lv_iload_n hx hb dX2_readSign_11 rfl (lv_at hl 1 rfl) ?_
  have B_20 : ∀ (s0_20 : Int32), fX2_readSign_20 th_place s0_20 = some o → ∀ (H : Heap) (locs : List Loc) (ls : Array Slot), va_P (dC, dI) vwCl [(q_th, .inr (2, [.ref q_th_text, .int th_place, .int th_first, .int th_second, .int th_yardIsFixed])), (q_th_text, .inr (0, [.ref q_th_text_letters, .int th_text_length])), (q_th_text_letters, .inl (cI, 200, .inl th_text_letters))] H → va_D A [(q_th, .inr (2, [.ref q_th_text, .int th_place, .int th_first, .int th_second, .int th_yardIsFixed])), (q_th_text, .inr (0, [.ref q_th_text_letters, .int th_text_length])), (q_th_text_letters, .inl (cI, 200, .inl th_text_letters))] → va_S A s.heap H locs → lv_has ls 3 [(0, .ref q_th)] → W p l e ({ frames := 1, cells := 0, slots := 0, locals := 21 } : Room) s m args below meth c H locs 0 0 Q (F0 m 20 ls [.int s0_20]) := by
    intro s0_20 hF H locs ls hP hD hS hl
    rw [fX2_readSign_20_e] at hF
    refine lv_istore_n (lv' := [(2, .int s0_20), (0, .ref q_th)]) hx hb dX2_readSign_20 rfl hl (by decide) rfl (fun ls hl => ?_)
    refine lv_aload_n hx hb dX2_readSign_21 rfl (lv_at hl 1 rfl) ?_
    refine lv_dup hx hb dX2_readSign_22 rfl ?_
    refine nx_get S0 hK hP 0 1 hin_X2 hf_9 rfl rfl (by decide) rfl rfl dX2_readSign_23 ?_
    refine lv_iconst (v := (nI 1)) hx hb dX2_readSign_26 (by decide) ?_
    refine lv_iadd hx hb dX2_readSign_27 ?_
    refine nx_put S0 hK hP hD hS 0 1 hin_X2 tyX2 tyX2_ok nmX2 hf_9 rfl rfl (by decide) rfl rfl rfl rfl (Nat.le_of_ble_eq_true rfl) dX2_readSign_28 (W1 := [(q_th, .inr (2, [.ref q_th_text, .int (th_place + (nI 1)), .int th_first, .int th_second, .int th_yardIsFixed])), (q_th_text, .inr (0, [.ref q_th_text_letters, .int th_text_length])), (q_th_text_letters, .inl (cI, 200, .inl th_text_letters))]) rfl (fun H locs hP hD hS => ?_)
    refine lv_iload_n hx hb dX2_readSign_31 rfl (lv_at hl 0 rfl) ?_
    have hg := ng_p hF
    have hF := ng_x hF
    exact hret s0_20 (th_place + (nI 1)) _ _ _ _ hg hF dX2_readSign_32 hP hD hS
  refine lv_icmp_ne (tgt := 19) hx hb dX2_readSign_12 (by decide) (fun hc => ?_) (fun hc => ?_)
  · have hF := ng_f hc hF
    refine lv_iconst (v := (nI 0)) hx hb dX2_readSign_19 (by decide) ?_
    exact B_20 (nI 0) hF _ _ _ hP hD hS (lv_sub hl [0] rfl)
  · have hF := ng_t hc hF
    refine lv_iconst (v := (nI 1)) hx hb dX2_readSign_15 (by decide) ?_
    refine lv_goto (tgt := 20) hx hb dX2_readSign_16 (by decide) ?_
    exact B_20 (nI 1) hF _ _ _ hP hD hS (lv_sub hl [0] rfl)
theorem hdX2_readOne : yX2_readOne.cls ≠ "java/lang/invoke/MethodHandle" ∧ yX2_readOne.cls ≠ "java/lang/invoke/VarHandle" ∧ (parseMethodDescriptor yX2_readOne.desc).map (fun d => d.parameters.length) = some 0 := by decide +kernel
set_option maxHeartbeats 40000000 in
set_option maxRecDepth 100000 in
theorem kX2_readOne (l : Launch) (dC : Nat → ClassId) (dI : Nat → Nat → Nat) (cI : ClassId) (q_th : Nat) (q_th_text : Nat) (q_th_text_letters : Nat) (sz : Nat) (th_place : Int32) (th_first : Int32) (th_second : Int32) (th_yardIsFixed : Int32) (th_text_length : Int32) (th_text_letters : Nat → Int32) (N : Nat) (o : Int32 × Int32 × Int32) (hF : fX2_readOne N th_place th_text_length th_text_letters = some o) : nx_I l yX2_readOne wsX2_readOne ({ frames := 2, cells := 0, slots := 0, locals := 44 } : Room) (dC, dI) cI [.ref q_th] [(q_th, .inr (2, [.ref q_th_text, .int th_place, .int th_first, .int th_second, .int th_yardIsFixed])), (q_th_text, .inr (0, [.ref q_th_text_letters, .int th_text_length])), (q_th_text_letters, .inl (cI, 200, .inl th_text_letters))] sz o.1 [(q_th, .inr (2, [.ref q_th_text, .int o.2.1, .int o.2.2, .int th_second, .int th_yardIsFixed])), (q_th_text, .inr (0, [.ref q_th_text_letters, .int th_text_length])), (q_th_text_letters, .inl (cI, 200, .inl th_text_letters))] := by
  refine nx_zint (cc := cX2_readOne) (maxL := 1) (by decide) rfl (Nat.le_of_ble_eq_true rfl) ?_
  intro p e s m args below meth c Q A S0 hK hN hA ret0 hP hD hS ls hl
  have S0 : CallFix p m c cX2_readOne 1 s args wsX2_readOne RX2 := S0
  have hx := S0.1
  have hb := S0.2.1
  have hown := S0.2.2.2.1
  have hts := S0.2.2.2.2
  have hf_15 := hts (.fieldLink RX2 15 "SnailsYear$Reader" "first" "I") (by decide +kernel)
  have hin_X2 : ∀ w ∈ wsX20, w ∈ wsX2_readOne := by decide +kernel
  have hl : lv_has ls 1 [(0, .ref q_th)] := hl
  have hret : ∀ (r0 : Int32) (y0 : Int32) (y1 : Int32) (H : Heap) (locs : List Loc) (ls : Array Slot) (pc : Nat), (r0 = 0 ∨ r0 = 1) → some (r0, y0, y1) = some o → decode cX2_readOne pc = .ok (.ireturn, 1) → va_P (dC, dI) vwCl [(q_th, .inr (2, [.ref q_th_text, .int y0, .int y1, .int th_second, .int th_yardIsFixed])), (q_th_text, .inr (0, [.ref q_th_text_letters, .int th_text_length])), (q_th_text_letters, .inl (cI, 200, .inl th_text_letters))] H → va_D A [(q_th, .inr (2, [.ref q_th_text, .int y0, .int y1, .int th_second, .int th_yardIsFixed])), (q_th_text, .inr (0, [.ref q_th_text_letters, .int th_text_length])), (q_th_text_letters, .inl (cI, 200, .inl th_text_letters))] → va_S A s.heap H locs → W p l e ({ frames := 2, cells := 0, slots := 0, locals := 44 } : Room) s m args below meth c H locs 0 0 Q (F0 m pc ls [.int r0]) := by
    intro r0 y0 y1 H locs ls pc hz ho hd hP hD hS
    cases ho
    exact ret0 H locs ls pc hz hd hP hD hS
  rw [fX2_readOne_e] at hF
  refine lv_aload_n hx hb dX2_readOne_0 rfl (lv_at hl 0 rfl) ?_
  refine lv_aload_n hx hb dX2_readOne_1 rfl (lv_at hl 0 rfl) ?_
  obtain ⟨o2, hF1, hF⟩ := ng_b hF
  refine nx_callVi (As := []) (rest := [.ref q_th]) (W1 := [(q_th, .inr (2, [.ref q_th_text, .int o2.2, .int th_first, .int th_second, .int th_yardIsFixed])), (q_th_text, .inr (0, [.ref q_th_text_letters, .int th_text_length])), (q_th_text_letters, .inl (cI, 200, .inl th_text_letters))]) (wr := []) S0 hK hN hA hP hD hS (kX2_readNumber l dC dI cI q_th q_th_text q_th_text_letters _ th_place th_first th_second th_yardIsFixed th_text_length th_text_letters N o2 hF1) (cwV 0 hts gX2_readOne_X2_readNumber rfl rfl rfl ⟨rfl, hdX2_readNumber⟩ ⟨Nat.le_of_ble_eq_true rfl, Nat.le_of_ble_eq_true rfl⟩) [0, 1, 2] [] [0, 1, 2] rfl rfl rfl rfl 0 2 rfl rfl rfl rfl hl.1 rfl (Nat.le_of_ble_eq_true rfl) dX2_readOne_2 (fun H locs hP hD hS => ?_)
  refine nx_put S0 hK hP hD hS 0 2 hin_X2 tyX2 tyX2_ok nmX2 hf_15 rfl rfl (by decide) rfl rfl rfl rfl (Nat.le_of_ble_eq_true rfl) dX2_readOne_5 (W1 := [(q_th, .inr (2, [.ref q_th_text, .int o2.2, .int o2.1, .int th_second, .int th_yardIsFixed])), (q_th_text, .inr (0, [.ref q_th_text_letters, .int th_text_length])), (q_th_text_letters, .inl (cI, 200, .inl th_text_letters))]) rfl (fun H locs hP hD hS => ?_)
  refine lv_aload_n hx hb dX2_readOne_8 rfl (lv_at hl 0 rfl) ?_
  refine nx_get S0 hK hP 0 2 hin_X2 hf_15 rfl rfl (by decide) rfl rfl dX2_readOne_9 ?_
  refine lv_bipush (v := (-4 : Int32)) hx hb dX2_readOne_12 (by decide) ?_
  refine lv_icmp_eq (tgt := 30) hx hb dX2_readOne_14 (by decide) (fun hc => ?_) (fun hc => ?_)
  · have hF := ng_t hc hF
    refine lv_iconst (v := (nI 0)) hx hb dX2_readOne_30 (by decide) ?_
    exact hret (nI 0) o2.2 o2.1 _ _ _ _ (Or.inl rfl) hF dX2_readOne_31 hP hD hS
  · have hF := ng_f hc hF
    refine lv_aload_n hx hb dX2_readOne_17 rfl (lv_at hl 0 rfl) ?_
    refine lv_bipush (v := (nI 59)) hx hb dX2_readOne_18 (by decide) ?_
    obtain ⟨o20, hF1, hF⟩ := ng_b hF
    refine nx_callVi (As := [.int (nI 59)]) (rest := []) (W1 := [(q_th, .inr (2, [.ref q_th_text, .int o20.2, .int o2.1, .int th_second, .int th_yardIsFixed])), (q_th_text, .inr (0, [.ref q_th_text_letters, .int th_text_length])), (q_th_text_letters, .inl (cI, 200, .inl th_text_letters))]) (wr := []) S0 hK hN hA hP hD hS (kX2_readSign l dC dI cI q_th q_th_text q_th_text_letters _ o2.2 o2.1 th_second th_yardIsFixed th_text_length th_text_letters (nI 59) N o20 hF1) (cwV 1 hts gX2_readOne_X2_readSign rfl rfl rfl ⟨rfl, hdX2_readSign⟩ ⟨Nat.le_of_ble_eq_true rfl, Nat.le_of_ble_eq_true rfl⟩) [0, 1, 2] [] [0, 1, 2] rfl rfl rfl rfl 0 2 rfl rfl rfl rfl hl.1 rfl (Nat.le_of_ble_eq_true rfl) dX2_readOne_20 (fun H locs hP hD hS => ?_)
    refine lv_if_eq (tgt := 30) hx hb dX2_readOne_23 (by decide) (fun hc => ?_) (fun hc => ?_)
    · have hF := ng_t hc hF
      refine lv_iconst (v := (nI 0)) hx hb dX2_readOne_30 (by decide) ?_
      exact hret (nI 0) o20.2 o2.1 _ _ _ _ (Or.inl rfl) hF dX2_readOne_31 hP hD hS
    · have hF := ng_f hc hF
      refine lv_iconst (v := (nI 1)) hx hb dX2_readOne_26 (by decide) ?_
      refine lv_goto (tgt := 31) hx hb dX2_readOne_27 (by decide) ?_
      exact hret (nI 1) o20.2 o2.1 _ _ _ _ (Or.inr rfl) hF dX2_readOne_31 hP hD hS
theorem hdX2_readTwo : yX2_readTwo.cls ≠ "java/lang/invoke/MethodHandle" ∧ yX2_readTwo.cls ≠ "java/lang/invoke/VarHandle" ∧ (parseMethodDescriptor yX2_readTwo.desc).map (fun d => d.parameters.length) = some 0 := by decide +kernel
set_option maxHeartbeats 40000000 in
set_option maxRecDepth 100000 in
theorem kX2_readTwo (l : Launch) (dC : Nat → ClassId) (dI : Nat → Nat → Nat) (cI : ClassId) (q_th : Nat) (q_th_text : Nat) (q_th_text_letters : Nat) (sz : Nat) (th_place : Int32) (th_first : Int32) (th_second : Int32) (th_yardIsFixed : Int32) (th_text_length : Int32) (th_text_letters : Nat → Int32) (N : Nat) (o : Int32 × Int32 × Int32 × Int32) (hF : fX2_readTwo N th_place th_second th_text_length th_text_letters = some o) : nx_I l yX2_readTwo wsX2_readTwo ({ frames := 2, cells := 0, slots := 0, locals := 44 } : Room) (dC, dI) cI [.ref q_th] [(q_th, .inr (2, [.ref q_th_text, .int th_place, .int th_first, .int th_second, .int th_yardIsFixed])), (q_th_text, .inr (0, [.ref q_th_text_letters, .int th_text_length])), (q_th_text_letters, .inl (cI, 200, .inl th_text_letters))] sz o.1 [(q_th, .inr (2, [.ref q_th_text, .int o.2.1, .int o.2.2.1, .int o.2.2.2, .int th_yardIsFixed])), (q_th_text, .inr (0, [.ref q_th_text_letters, .int th_text_length])), (q_th_text_letters, .inl (cI, 200, .inl th_text_letters))] := by
  refine nx_zint (cc := cX2_readTwo) (maxL := 1) (by decide) rfl (Nat.le_of_ble_eq_true rfl) ?_
  intro p e s m args below meth c Q A S0 hK hN hA ret0 hP hD hS ls hl
  have S0 : CallFix p m c cX2_readTwo 1 s args wsX2_readTwo RX2 := S0
  have hx := S0.1
  have hb := S0.2.1
  have hown := S0.2.2.2.1
  have hts := S0.2.2.2.2
  have hf_15 := hts (.fieldLink RX2 15 "SnailsYear$Reader" "first" "I") (by decide +kernel)
  have hin_X2 : ∀ w ∈ wsX20, w ∈ wsX2_readTwo := by decide +kernel
  have hf_18 := hts (.fieldLink RX2 18 "SnailsYear$Reader" "second" "I") (by decide +kernel)
  have hl : lv_has ls 1 [(0, .ref q_th)] := hl
  have hret : ∀ (r0 : Int32) (y0 : Int32) (y1 : Int32) (y2 : Int32) (H : Heap) (locs : List Loc) (ls : Array Slot) (pc : Nat), (r0 = 0 ∨ r0 = 1) → some (r0, y0, y1, y2) = some o → decode cX2_readTwo pc = .ok (.ireturn, 1) → va_P (dC, dI) vwCl [(q_th, .inr (2, [.ref q_th_text, .int y0, .int y1, .int y2, .int th_yardIsFixed])), (q_th_text, .inr (0, [.ref q_th_text_letters, .int th_text_length])), (q_th_text_letters, .inl (cI, 200, .inl th_text_letters))] H → va_D A [(q_th, .inr (2, [.ref q_th_text, .int y0, .int y1, .int y2, .int th_yardIsFixed])), (q_th_text, .inr (0, [.ref q_th_text_letters, .int th_text_length])), (q_th_text_letters, .inl (cI, 200, .inl th_text_letters))] → va_S A s.heap H locs → W p l e ({ frames := 2, cells := 0, slots := 0, locals := 44 } : Room) s m args below meth c H locs 0 0 Q (F0 m pc ls [.int r0]) := by
    intro r0 y0 y1 y2 H locs ls pc hz ho hd hP hD hS
    cases ho
    exact ret0 H locs ls pc hz hd hP hD hS
  rw [fX2_readTwo_e] at hF
  refine lv_aload_n hx hb dX2_readTwo_0 rfl (lv_at hl 0 rfl) ?_
  refine lv_aload_n hx hb dX2_readTwo_1 rfl (lv_at hl 0 rfl) ?_
  obtain ⟨o2, hF1, hF⟩ := ng_b hF
  refine nx_callVi (As := []) (rest := [.ref q_th]) (W1 := [(q_th, .inr (2, [.ref q_th_text, .int o2.2, .int th_first, .int th_second, .int th_yardIsFixed])), (q_th_text, .inr (0, [.ref q_th_text_letters, .int th_text_length])), (q_th_text_letters, .inl (cI, 200, .inl th_text_letters))]) (wr := []) S0 hK hN hA hP hD hS (kX2_readNumber l dC dI cI q_th q_th_text q_th_text_letters _ th_place th_first th_second th_yardIsFixed th_text_length th_text_letters N o2 hF1) (cwV 0 hts gX2_readTwo_X2_readNumber rfl rfl rfl ⟨rfl, hdX2_readNumber⟩ ⟨Nat.le_of_ble_eq_true rfl, Nat.le_of_ble_eq_true rfl⟩) [0, 1, 2] [] [0, 1, 2] rfl rfl rfl rfl 0 2 rfl rfl rfl rfl hl.1 rfl (Nat.le_of_ble_eq_true rfl) dX2_readTwo_2 (fun H locs hP hD hS => ?_)
  refine nx_put S0 hK hP hD hS 0 2 hin_X2 tyX2 tyX2_ok nmX2 hf_15 rfl rfl (by decide) rfl rfl rfl rfl (Nat.le_of_ble_eq_true rfl) dX2_readTwo_5 (W1 := [(q_th, .inr (2, [.ref q_th_text, .int o2.2, .int o2.1, .int th_second, .int th_yardIsFixed])), (q_th_text, .inr (0, [.ref q_th_text_letters, .int th_text_length])), (q_th_text_letters, .inl (cI, 200, .inl th_text_letters))]) rfl (fun H locs hP hD hS => ?_)
  refine lv_aload_n hx hb dX2_readTwo_8 rfl (lv_at hl 0 rfl) ?_
  refine nx_get S0 hK hP 0 2 hin_X2 hf_15 rfl rfl (by decide) rfl rfl dX2_readTwo_9 ?_
  refine lv_bipush (v := (-4 : Int32)) hx hb dX2_readTwo_12 (by decide) ?_
  refine lv_icmp_eq (tgt := 26) hx hb dX2_readTwo_14 (by decide) (fun hc => ?_) (fun hc => ?_)
  · have hF := ng_t hc hF
    refine lv_iconst (v := (nI 0)) hx hb dX2_readTwo_26 (by decide) ?_
    exact hret (nI 0) o2.2 o2.1 th_second _ _ _ _ (Or.inl rfl) hF dX2_readTwo_27 hP hD hS
  · have hF := ng_f hc hF
    refine lv_aload_n hx hb dX2_readTwo_17 rfl (lv_at hl 0 rfl) ?_
    refine lv_bipush (v := (nI 44)) hx hb dX2_readTwo_18 (by decide) ?_
    obtain ⟨o20, hF1, hF⟩ := ng_b hF
    refine nx_callVi (As := [.int (nI 44)]) (rest := []) (W1 := [(q_th, .inr (2, [.ref q_th_text, .int o20.2, .int o2.1, .int th_second, .int th_yardIsFixed])), (q_th_text, .inr (0, [.ref q_th_text_letters, .int th_text_length])), (q_th_text_letters, .inl (cI, 200, .inl th_text_letters))]) (wr := []) S0 hK hN hA hP hD hS (kX2_readSign l dC dI cI q_th q_th_text q_th_text_letters _ o2.2 o2.1 th_second th_yardIsFixed th_text_length th_text_letters (nI 44) N o20 hF1) (cwV 1 hts gX2_readTwo_X2_readSign rfl rfl rfl ⟨rfl, hdX2_readSign⟩ ⟨Nat.le_of_ble_eq_true rfl, Nat.le_of_ble_eq_true rfl⟩) [0, 1, 2] [] [0, 1, 2] rfl rfl rfl rfl 0 2 rfl rfl rfl rfl hl.1 rfl (Nat.le_of_ble_eq_true rfl) dX2_readTwo_20 (fun H locs hP hD hS => ?_)
    refine lv_if_ne (tgt := 28) hx hb dX2_readTwo_23 (by decide) (fun hc => ?_) (fun hc => ?_)
    · have hF := ng_f hc hF
      refine lv_aload_n hx hb dX2_readTwo_28 rfl (lv_at hl 0 rfl) ?_
      refine lv_aload_n hx hb dX2_readTwo_29 rfl (lv_at hl 0 rfl) ?_
      obtain ⟨o30, hF1, hF⟩ := ng_b hF
      refine nx_callVi (As := []) (rest := [.ref q_th]) (W1 := [(q_th, .inr (2, [.ref q_th_text, .int o30.2, .int o2.1, .int th_second, .int th_yardIsFixed])), (q_th_text, .inr (0, [.ref q_th_text_letters, .int th_text_length])), (q_th_text_letters, .inl (cI, 200, .inl th_text_letters))]) (wr := []) S0 hK hN hA hP hD hS (kX2_readNumber l dC dI cI q_th q_th_text q_th_text_letters _ o20.2 o2.1 th_second th_yardIsFixed th_text_length th_text_letters N o30 hF1) (cwV 0 hts gX2_readTwo_X2_readNumber rfl rfl rfl ⟨rfl, hdX2_readNumber⟩ ⟨Nat.le_of_ble_eq_true rfl, Nat.le_of_ble_eq_true rfl⟩) [0, 1, 2] [] [0, 1, 2] rfl rfl rfl rfl 0 2 rfl rfl rfl rfl hl.1 rfl (Nat.le_of_ble_eq_true rfl) dX2_readTwo_30 (fun H locs hP hD hS => ?_)
      refine nx_put S0 hK hP hD hS 0 3 hin_X2 tyX2 tyX2_ok nmX2 hf_18 rfl rfl (by decide) rfl rfl rfl rfl (Nat.le_of_ble_eq_true rfl) dX2_readTwo_33 (W1 := [(q_th, .inr (2, [.ref q_th_text, .int o30.2, .int o2.1, .int o30.1, .int th_yardIsFixed])), (q_th_text, .inr (0, [.ref q_th_text_letters, .int th_text_length])), (q_th_text_letters, .inl (cI, 200, .inl th_text_letters))]) rfl (fun H locs hP hD hS => ?_)
      refine lv_aload_n hx hb dX2_readTwo_36 rfl (lv_at hl 0 rfl) ?_
      refine nx_get S0 hK hP 0 3 hin_X2 hf_18 rfl rfl (by decide) rfl rfl dX2_readTwo_37 ?_
      refine lv_bipush (v := (-4 : Int32)) hx hb dX2_readTwo_40 (by decide) ?_
      refine lv_icmp_eq (tgt := 58) hx hb dX2_readTwo_42 (by decide) (fun hc => ?_) (fun hc => ?_)
      · have hF := ng_t hc hF
        refine lv_iconst (v := (nI 0)) hx hb dX2_readTwo_58 (by decide) ?_
        exact hret (nI 0) o30.2 o2.1 o30.1 _ _ _ _ (Or.inl rfl) hF dX2_readTwo_59 hP hD hS
      · have hF := ng_f hc hF
        refine lv_aload_n hx hb dX2_readTwo_45 rfl (lv_at hl 0 rfl) ?_
        refine lv_bipush (v := (nI 59)) hx hb dX2_readTwo_46 (by decide) ?_
        obtain ⟨o48, hF1, hF⟩ := ng_b hF
        refine nx_callVi (As := [.int (nI 59)]) (rest := []) (W1 := [(q_th, .inr (2, [.ref q_th_text, .int o48.2, .int o2.1, .int o30.1, .int th_yardIsFixed])), (q_th_text, .inr (0, [.ref q_th_text_letters, .int th_text_length])), (q_th_text_letters, .inl (cI, 200, .inl th_text_letters))]) (wr := []) S0 hK hN hA hP hD hS (kX2_readSign l dC dI cI q_th q_th_text q_th_text_letters _ o30.2 o2.1 o30.1 th_yardIsFixed th_text_length th_text_letters (nI 59) N o48 hF1) (cwV 1 hts gX2_readTwo_X2_readSign rfl rfl rfl ⟨rfl, hdX2_readSign⟩ ⟨Nat.le_of_ble_eq_true rfl, Nat.le_of_ble_eq_true rfl⟩) [0, 1, 2] [] [0, 1, 2] rfl rfl rfl rfl 0 2 rfl rfl rfl rfl hl.1 rfl (Nat.le_of_ble_eq_true rfl) dX2_readTwo_48 (fun H locs hP hD hS => ?_)
        refine lv_if_eq (tgt := 58) hx hb dX2_readTwo_51 (by decide) (fun hc => ?_) (fun hc => ?_)
        · have hF := ng_t hc hF
          refine lv_iconst (v := (nI 0)) hx hb dX2_readTwo_58 (by decide) ?_
          exact hret (nI 0) o48.2 o2.1 o30.1 _ _ _ _ (Or.inl rfl) hF dX2_readTwo_59 hP hD hS
        · have hF := ng_f hc hF
          refine lv_iconst (v := (nI 1)) hx hb dX2_readTwo_54 (by decide) ?_
          refine lv_goto (tgt := 59) hx hb dX2_readTwo_55 (by decide) ?_
          exact hret (nI 1) o48.2 o2.1 o30.1 _ _ _ _ (Or.inr rfl) hF dX2_readTwo_59 hP hD hS
    · have hF := ng_t hc hF
      refine lv_iconst (v := (nI 0)) hx hb dX2_readTwo_26 (by decide) ?_
      exact hret (nI 0) o20.2 o2.1 th_second _ _ _ _ (Or.inl rfl) hF dX2_readTwo_27 hP hD hS
theorem hdX2_takeOne : yX2_takeOne.cls ≠ "java/lang/invoke/MethodHandle" ∧ yX2_takeOne.cls ≠ "java/lang/invoke/VarHandle" ∧ (parseMethodDescriptor yX2_takeOne.desc).map (fun d => d.parameters.length) = some 2 := by decide +kernel
set_option maxHeartbeats 40000000 in
set_option maxRecDepth 100000 in
theorem kX2_takeOne (l : Launch) (dC : Nat → ClassId) (dI : Nat → Nat → Nat) (cI : ClassId) (q_th : Nat) (q_p2 : Nat) (q_p2_damps : Nat) (q_p2_heirs : Nat) (sz : Nat) (x_th_text : Value) (th_place : Int32) (th_first : Int32) (th_second : Int32) (th_yardIsFixed : Int32) (x_p2_kinds : Value) (x_p2_column : Value) (x_p2_beside : Value) (x_p2_rentNights : Value) (x_p2_rents : Value) (p2_columns : Int32) (p2_cells : Int32) (p2_start : Int32) (p2_dampCount : Int32) (p2_rentCount : Int32) (p2_heirCount : Int32) (p2_damps : Nat → Int32) (p2_heirs : Nat → Int32) (p1 : Int32) (N : Nat) (o : Int32 × Int32 × Int32 × Int32 × Int32 × (Nat → Int32) × (Nat → Int32)) (hF : fX2_takeOne N th_first p1 p2_columns p2_start p2_dampCount p2_heirCount p2_damps p2_heirs = some o) : nx_I l yX2_takeOne wsX2_takeOne ({ frames := 1, cells := 0, slots := 0, locals := 21 } : Room) (dC, dI) cI [.ref q_th, .int p1, .ref q_p2] [(q_th, .inr (2, [x_th_text, .int th_place, .int th_first, .int th_second, .int th_yardIsFixed])), (q_p2, .inr (6, [x_p2_kinds, x_p2_column, x_p2_beside, .ref q_p2_damps, x_p2_rentNights, x_p2_rents, .ref q_p2_heirs, .int p2_columns, .int p2_cells, .int p2_start, .int p2_dampCount, .int p2_rentCount, .int p2_heirCount])), (q_p2_damps, .inl (cI, 9, .inl p2_damps)), (q_p2_heirs, .inl (cI, 4, .inl p2_heirs))] sz o.1 [(q_th, .inr (2, [x_th_text, .int th_place, .int th_first, .int th_second, .int o.2.1])), (q_p2, .inr (6, [x_p2_kinds, x_p2_column, x_p2_beside, .ref q_p2_damps, x_p2_rentNights, x_p2_rents, .ref q_p2_heirs, .int p2_columns, .int p2_cells, .int o.2.2.1, .int o.2.2.2.1, .int p2_rentCount, .int o.2.2.2.2.1])), (q_p2_damps, .inl (cI, 9, .inl o.2.2.2.2.2.1)), (q_p2_heirs, .inl (cI, 4, .inl o.2.2.2.2.2.2))] := by
  refine nx_zint (cc := cX2_takeOne) (maxL := 3) (by decide) rfl (Nat.le_of_ble_eq_true rfl) ?_
  intro p e s m args below meth c Q A S0 hK hN hA ret0 hP hD hS ls hl
  have S0 : CallFix p m c cX2_takeOne 3 s args wsX2_takeOne RX2 := S0
  have hx := S0.1
  have hb := S0.2.1
  have hown := S0.2.2.2.1
  have hts := S0.2.2.2.2
  have hf_21 := hts (.fieldLink RX2 21 "SnailsYear$Reader" "yardIsFixed" "Z") (by decide +kernel)
  have hin_X2 : ∀ w ∈ wsX20, w ∈ wsX2_takeOne := by decide +kernel
  have hf_15 := hts (.fieldLink RX2 15 "SnailsYear$Reader" "first" "I") (by decide +kernel)
  have hl : lv_has ls 3 [(0, .ref q_th), (1, .int p1), (2, .ref q_p2)] := hl
  have hret : ∀ (r0 : Int32) (y0 : Int32) (y1 : Int32) (y2 : Int32) (y3 : Int32) (y4 : Nat → Int32) (y5 : Nat → Int32) (H : Heap) (locs : List Loc) (ls : Array Slot) (pc : Nat), (r0 = 0 ∨ r0 = 1) → some (r0, y0, y1, y2, y3, y4, y5) = some o → decode cX2_takeOne pc = .ok (.ireturn, 1) → va_P (dC, dI) vwCl [(q_th, .inr (2, [x_th_text, .int th_place, .int th_first, .int th_second, .int y0])), (q_p2, .inr (6, [x_p2_kinds, x_p2_column, x_p2_beside, .ref q_p2_damps, x_p2_rentNights, x_p2_rents, .ref q_p2_heirs, .int p2_columns, .int p2_cells, .int y1, .int y2, .int p2_rentCount, .int y3])), (q_p2_damps, .inl (cI, 9, .inl y4)), (q_p2_heirs, .inl (cI, 4, .inl y5))] H → va_D A [(q_th, .inr (2, [x_th_text, .int th_place, .int th_first, .int th_second, .int y0])), (q_p2, .inr (6, [x_p2_kinds, x_p2_column, x_p2_beside, .ref q_p2_damps, x_p2_rentNights, x_p2_rents, .ref q_p2_heirs, .int p2_columns, .int p2_cells, .int y1, .int y2, .int p2_rentCount, .int y3])), (q_p2_damps, .inl (cI, 9, .inl y4)), (q_p2_heirs, .inl (cI, 4, .inl y5))] → va_S A s.heap H locs → W p l e ({ frames := 1, cells := 0, slots := 0, locals := 21 } : Room) s m args below meth c H locs 0 0 Q (F0 m pc ls [.int r0]) := by
    intro r0 y0 y1 y2 y3 y4 y5 H locs ls pc hz ho hd hP hD hS
    cases ho
    exact ret0 H locs ls pc hz hd hP hD hS
  rw [fX2_takeOne_e] at hF
  refine lv_aload_n hx hb dX2_takeOne_0 rfl (lv_at hl 0 rfl) ?_
  refine lv_iconst (v := (nI 1)) hx hb dX2_takeOne_1 (by decide) ?_
  refine nx_put S0 hK hP hD hS 0 4 hin_X2 tyX2 tyX2_ok nmX2 hf_21 rfl rfl (by decide) rfl rfl (by decide) (by decide) (Nat.le_of_ble_eq_true rfl) dX2_takeOne_2 (W1 := [(q_th, .inr (2, [x_th_text, .int th_place, .int th_first, .int th_second, .int (nI 1)])), (q_p2, .inr (6, [x_p2_kinds, x_p2_column, x_p2_beside, .ref q_p2_damps, x_p2_rentNights, x_p2_rents, .ref q_p2_heirs, .int p2_columns, .int p2_cells, .int p2_start, .int p2_dampCount, .int p2_rentCount, .int p2_heirCount])), (q_p2_damps, .inl (cI, 9, .inl p2_damps)), (q_p2_heirs, .inl (cI, 4, .inl p2_heirs))]) rfl (fun H locs hP hD hS => ?_)
  refine lv_iload_n hx hb dX2_takeOne_5 rfl (lv_at hl 1 rfl) ?_
  by_cases hs_0 : p1 = (nI 100)
  · have hF := ng_t hs_0 hF
    refine lv_lookup (off := 35) (tgt := 41) hx hb dX2_takeOne_6 (by decide +kernel) (by rw [hs_0]; decide +kernel) (by decide) ?_
    refine lv_aload_n hx hb dX2_takeOne_41 rfl (lv_at hl 2 rfl) ?_
    refine lv_aload_n hx hb dX2_takeOne_42 rfl (lv_at hl 0 rfl) ?_
    refine nx_get S0 hK hP 0 2 hin_X2 hf_15 rfl rfl (by decide) rfl rfl dX2_takeOne_43 ?_
    obtain ⟨o46, hF1, hF⟩ := ng_b hF
    refine nx_callVi (As := [.int th_first]) (rest := []) (W1 := [(q_th, .inr (2, [x_th_text, .int th_place, .int th_first, .int th_second, .int (nI 1)])), (q_p2, .inr (6, [x_p2_kinds, x_p2_column, x_p2_beside, .ref q_p2_damps, x_p2_rentNights, x_p2_rents, .ref q_p2_heirs, .int p2_columns, .int p2_cells, .int p2_start, .int o46.2.1, .int p2_rentCount, .int p2_heirCount])), (q_p2_damps, .inl (cI, 9, .inl o46.2.2)), (q_p2_heirs, .inl (cI, 4, .inl p2_heirs))]) (wr := [(q_th, .inr (2, [x_th_text, .int th_place, .int th_first, .int th_second, .int (nI 1)])), (q_p2_heirs, .inl (cI, 4, .inl p2_heirs))]) S0 hK hN hA hP hD hS (kX6_takeDamp l dC dI cI q_p2 q_p2_damps _ (x_p2_kinds) (x_p2_column) (x_p2_beside) (x_p2_rentNights) (x_p2_rents) (.ref q_p2_heirs) p2_columns p2_cells p2_start p2_dampCount p2_rentCount p2_heirCount p2_damps th_first N o46 hF1) (cwV 1 hts gX2_takeOne_X6_takeDamp rfl rfl rfl ⟨rfl, hdX6_takeDamp⟩ ⟨Nat.le_of_ble_eq_true rfl, Nat.le_of_ble_eq_true rfl⟩) [1, 2] [0, 3] [0, 2, 3, 1] rfl rfl rfl rfl 1 6 rfl rfl rfl rfl hl.1 rfl (Nat.le_of_ble_eq_true rfl) dX2_takeOne_46 (fun H locs hP hD hS => ?_)
    have hg := ng_p hF
    have hF := ng_x hF
    exact hret o46.1 (nI 1) p2_start o46.2.1 p2_heirCount o46.2.2 p2_heirs _ _ _ _ hg hF dX2_takeOne_49 hP hD hS
  have hF := ng_f hs_0 hF
  by_cases hs_1 : p1 = (nI 115)
  · have hF := ng_t hs_1 hF
    refine lv_lookup (off := 26) (tgt := 32) hx hb dX2_takeOne_6 (by decide +kernel) (by rw [hs_1]; decide +kernel) (by decide) ?_
    refine lv_aload_n hx hb dX2_takeOne_32 rfl (lv_at hl 2 rfl) ?_
    refine lv_aload_n hx hb dX2_takeOne_33 rfl (lv_at hl 0 rfl) ?_
    refine nx_get S0 hK hP 0 2 hin_X2 hf_15 rfl rfl (by decide) rfl rfl dX2_takeOne_34 ?_
    obtain ⟨o37, hF1, hF⟩ := ng_b hF
    refine nx_callVi (As := [.int th_first]) (rest := []) (W1 := [(q_th, .inr (2, [x_th_text, .int th_place, .int th_first, .int th_second, .int (nI 1)])), (q_p2, .inr (6, [x_p2_kinds, x_p2_column, x_p2_beside, .ref q_p2_damps, x_p2_rentNights, x_p2_rents, .ref q_p2_heirs, .int p2_columns, .int p2_cells, .int o37.2, .int p2_dampCount, .int p2_rentCount, .int p2_heirCount])), (q_p2_damps, .inl (cI, 9, .inl p2_damps)), (q_p2_heirs, .inl (cI, 4, .inl p2_heirs))]) (wr := [(q_th, .inr (2, [x_th_text, .int th_place, .int th_first, .int th_second, .int (nI 1)])), (q_p2_damps, .inl (cI, 9, .inl p2_damps)), (q_p2_heirs, .inl (cI, 4, .inl p2_heirs))]) S0 hK hN hA hP hD hS (kX6_takeStart l dC dI cI q_p2 _ (x_p2_kinds) (x_p2_column) (x_p2_beside) (.ref q_p2_damps) (x_p2_rentNights) (x_p2_rents) (.ref q_p2_heirs) p2_columns p2_cells p2_start p2_dampCount p2_rentCount p2_heirCount th_first N o37 hF1) (cwV 1 hts gX2_takeOne_X6_takeStart rfl rfl rfl ⟨rfl, hdX6_takeStart⟩ ⟨Nat.le_of_ble_eq_true rfl, Nat.le_of_ble_eq_true rfl⟩) [1] [0, 2, 3] [0, 3, 1, 2] rfl rfl rfl rfl 1 6 rfl rfl rfl rfl hl.1 rfl (Nat.le_of_ble_eq_true rfl) dX2_takeOne_37 (fun H locs hP hD hS => ?_)
    have hg := ng_p hF
    have hF := ng_x hF
    exact hret o37.1 (nI 1) o37.2 p2_dampCount p2_heirCount p2_damps p2_heirs _ _ _ _ hg hF dX2_takeOne_40 hP hD hS
  have hF := ng_f hs_1 hF
  have hs_0z : ¬ p1.toInt = 100 := fun h9 => hs_0 (Int32.toInt_inj.mp (h9.trans (by decide)))
  have hs_1z : ¬ p1.toInt = 115 := fun h9 => hs_1 (Int32.toInt_inj.mp (h9.trans (by decide)))
  refine lv_lookup (tgt := 50) hx hb dX2_takeOne_6 (by decide +kernel) (nx_off [100, 115] (by decide +kernel) (by intro z hz; simp only [List.mem_cons, List.not_mem_nil, or_false] at hz; rcases hz with rfl | rfl <;> assumption)) (by decide) ?_
  refine lv_aload_n hx hb dX2_takeOne_50 rfl (lv_at hl 2 rfl) ?_
  refine lv_aload_n hx hb dX2_takeOne_51 rfl (lv_at hl 0 rfl) ?_
  refine nx_get S0 hK hP 0 2 hin_X2 hf_15 rfl rfl (by decide) rfl rfl dX2_takeOne_52 ?_
  obtain ⟨o55, hF1, hF⟩ := ng_b hF
  refine nx_callVi (As := [.int th_first]) (rest := []) (W1 := [(q_th, .inr (2, [x_th_text, .int th_place, .int th_first, .int th_second, .int (nI 1)])), (q_p2, .inr (6, [x_p2_kinds, x_p2_column, x_p2_beside, .ref q_p2_damps, x_p2_rentNights, x_p2_rents, .ref q_p2_heirs, .int p2_columns, .int p2_cells, .int p2_start, .int p2_dampCount, .int p2_rentCount, .int o55.2.1])), (q_p2_damps, .inl (cI, 9, .inl p2_damps)), (q_p2_heirs, .inl (cI, 4, .inl o55.2.2))]) (wr := [(q_th, .inr (2, [x_th_text, .int th_place, .int th_first, .int th_second, .int (nI 1)])), (q_p2_damps, .inl (cI, 9, .inl p2_damps))]) S0 hK hN hA hP hD hS (kX6_takeHeir l dC dI cI q_p2 q_p2_heirs _ (x_p2_kinds) (x_p2_column) (x_p2_beside) (.ref q_p2_damps) (x_p2_rentNights) (x_p2_rents) p2_columns p2_cells p2_start p2_dampCount p2_rentCount p2_heirCount p2_heirs th_first N o55 hF1) (cwV 1 hts gX2_takeOne_X6_takeHeir rfl rfl rfl ⟨rfl, hdX6_takeHeir⟩ ⟨Nat.le_of_ble_eq_true rfl, Nat.le_of_ble_eq_true rfl⟩) [1, 3] [0, 2] [0, 2, 1, 3] rfl rfl rfl rfl 1 6 rfl rfl rfl rfl hl.1 rfl (Nat.le_of_ble_eq_true rfl) dX2_takeOne_55 (fun H locs hP hD hS => ?_)
  have hg := ng_p hF
  have hF := ng_x hF
  exact hret o55.1 (nI 1) p2_start p2_dampCount o55.2.1 p2_damps o55.2.2 _ _ _ _ hg hF dX2_takeOne_58 hP hD hS
theorem hdX2_takeTwo : yX2_takeTwo.cls ≠ "java/lang/invoke/MethodHandle" ∧ yX2_takeTwo.cls ≠ "java/lang/invoke/VarHandle" ∧ (parseMethodDescriptor yX2_takeTwo.desc).map (fun d => d.parameters.length) = some 2 := by decide +kernel
set_option maxHeartbeats 40000000 in
set_option maxRecDepth 100000 in
theorem kX2_takeTwo (l : Launch) (dC : Nat → ClassId) (dI : Nat → Nat → Nat) (cI : ClassId) (q_th : Nat) (q_p2 : Nat) (q_p2_rents : Nat) (q_p2_rentNights : Nat) (q_p2_kinds : Nat) (q_p2_column : Nat) (q_p2_beside : Nat) (sz : Nat) (x_th_text : Value) (th_place : Int32) (th_first : Int32) (th_second : Int32) (th_yardIsFixed : Int32) (x_p2_damps : Value) (x_p2_heirs : Value) (p2_columns : Int32) (p2_cells : Int32) (p2_start : Int32) (p2_dampCount : Int32) (p2_rentCount : Int32) (p2_heirCount : Int32) (p2_rents : Nat → Int32) (p2_rentNights : Nat → Int32) (p2_kinds : Nat → Int32) (p2_column : Nat → Int32) (p2_beside : Nat → Int32) (p1 : Int32) (N : Nat) (o : Int32 × Int32 × Int32 × Int32 × Int32 × (Nat → Int32) × (Nat → Int32) × (Nat → Int32) × (Nat → Int32) × (Nat → Int32)) (hF : fX2_takeTwo N th_first th_second th_yardIsFixed p1 p2_columns p2_cells p2_rentCount p2_rents p2_rentNights p2_kinds p2_column p2_beside = some o) : nx_I l yX2_takeTwo wsX2_takeTwo ({ frames := 2, cells := 0, slots := 0, locals := 43 } : Room) (dC, dI) cI [.ref q_th, .int p1, .ref q_p2] [(q_th, .inr (2, [x_th_text, .int th_place, .int th_first, .int th_second, .int th_yardIsFixed])), (q_p2, .inr (6, [.ref q_p2_kinds, .ref q_p2_column, .ref q_p2_beside, x_p2_damps, .ref q_p2_rentNights, .ref q_p2_rents, x_p2_heirs, .int p2_columns, .int p2_cells, .int p2_start, .int p2_dampCount, .int p2_rentCount, .int p2_heirCount])), (q_p2_rents, .inl (cI, 5, .inl p2_rents)), (q_p2_rentNights, .inl (cI, 5, .inl p2_rentNights)), (q_p2_kinds, .inl (cI, 25, .inl p2_kinds)), (q_p2_column, .inl (cI, 25, .inl p2_column)), (q_p2_beside, .inl (cI, 100, .inl p2_beside))] sz o.1 [(q_th, .inr (2, [x_th_text, .int th_place, .int th_first, .int th_second, .int o.2.1])), (q_p2, .inr (6, [.ref q_p2_kinds, .ref q_p2_column, .ref q_p2_beside, x_p2_damps, .ref q_p2_rentNights, .ref q_p2_rents, x_p2_heirs, .int o.2.2.1, .int o.2.2.2.1, .int p2_start, .int p2_dampCount, .int o.2.2.2.2.1, .int p2_heirCount])), (q_p2_rents, .inl (cI, 5, .inl o.2.2.2.2.2.1)), (q_p2_rentNights, .inl (cI, 5, .inl o.2.2.2.2.2.2.1)), (q_p2_kinds, .inl (cI, 25, .inl o.2.2.2.2.2.2.2.1)), (q_p2_column, .inl (cI, 25, .inl o.2.2.2.2.2.2.2.2.1)), (q_p2_beside, .inl (cI, 100, .inl o.2.2.2.2.2.2.2.2.2))] := by
  refine nx_zint (cc := cX2_takeTwo) (maxL := 3) (by decide) rfl (Nat.le_of_ble_eq_true rfl) ?_
  intro p e s m args below meth c Q A S0 hK hN hA ret0 hP hD hS ls hl
  have S0 : CallFix p m c cX2_takeTwo 3 s args wsX2_takeTwo RX2 := S0
  have hx := S0.1
  have hb := S0.2.1
  have hown := S0.2.2.2.1
  have hts := S0.2.2.2.2
  have hf_21 := hts (.fieldLink RX2 21 "SnailsYear$Reader" "yardIsFixed" "Z") (by decide +kernel)
  have hin_X2 : ∀ w ∈ wsX20, w ∈ wsX2_takeTwo := by decide +kernel
  have hf_15 := hts (.fieldLink RX2 15 "SnailsYear$Reader" "first" "I") (by decide +kernel)
  have hf_18 := hts (.fieldLink RX2 18 "SnailsYear$Reader" "second" "I") (by decide +kernel)
  have hl : lv_has ls 3 [(0, .ref q_th), (1, .int p1), (2, .ref q_p2)] := hl
  have hret : ∀ (r0 : Int32) (y0 : Int32) (y1 : Int32) (y2 : Int32) (y3 : Int32) (y4 : Nat → Int32) (y5 : Nat → Int32) (y6 : Nat → Int32) (y7 : Nat → Int32) (y8 : Nat → Int32) (H : Heap) (locs : List Loc) (ls : Array Slot) (pc : Nat), (r0 = 0 ∨ r0 = 1) → some (r0, y0, y1, y2, y3, y4, y5, y6, y7, y8) = some o → decode cX2_takeTwo pc = .ok (.ireturn, 1) → va_P (dC, dI) vwCl [(q_th, .inr (2, [x_th_text, .int th_place, .int th_first, .int th_second, .int y0])), (q_p2, .inr (6, [.ref q_p2_kinds, .ref q_p2_column, .ref q_p2_beside, x_p2_damps, .ref q_p2_rentNights, .ref q_p2_rents, x_p2_heirs, .int y1, .int y2, .int p2_start, .int p2_dampCount, .int y3, .int p2_heirCount])), (q_p2_rents, .inl (cI, 5, .inl y4)), (q_p2_rentNights, .inl (cI, 5, .inl y5)), (q_p2_kinds, .inl (cI, 25, .inl y6)), (q_p2_column, .inl (cI, 25, .inl y7)), (q_p2_beside, .inl (cI, 100, .inl y8))] H → va_D A [(q_th, .inr (2, [x_th_text, .int th_place, .int th_first, .int th_second, .int y0])), (q_p2, .inr (6, [.ref q_p2_kinds, .ref q_p2_column, .ref q_p2_beside, x_p2_damps, .ref q_p2_rentNights, .ref q_p2_rents, x_p2_heirs, .int y1, .int y2, .int p2_start, .int p2_dampCount, .int y3, .int p2_heirCount])), (q_p2_rents, .inl (cI, 5, .inl y4)), (q_p2_rentNights, .inl (cI, 5, .inl y5)), (q_p2_kinds, .inl (cI, 25, .inl y6)), (q_p2_column, .inl (cI, 25, .inl y7)), (q_p2_beside, .inl (cI, 100, .inl y8))] → va_S A s.heap H locs → W p l e ({ frames := 2, cells := 0, slots := 0, locals := 43 } : Room) s m args below meth c H locs 0 0 Q (F0 m pc ls [.int r0]) := by
    intro r0 y0 y1 y2 y3 y4 y5 y6 y7 y8 H locs ls pc hz ho hd hP hD hS
    cases ho
    exact ret0 H locs ls pc hz hd hP hD hS
  rw [fX2_takeTwo_e] at hF
  refine lv_iload_n hx hb dX2_takeTwo_0 rfl (lv_at hl 1 rfl) ?_
  refine lv_bipush (v := (nI 121)) hx hb dX2_takeTwo_1 (by decide) ?_
  refine lv_icmp_ne (tgt := 34) hx hb dX2_takeTwo_3 (by decide) (fun hc => ?_) (fun hc => ?_)
  · have hF := ng_f hc hF
    refine lv_aload_n hx hb dX2_takeTwo_34 rfl (lv_at hl 0 rfl) ?_
    refine lv_iconst (v := (nI 1)) hx hb dX2_takeTwo_35 (by decide) ?_
    refine nx_put S0 hK hP hD hS 0 4 hin_X2 tyX2 tyX2_ok nmX2 hf_21 rfl rfl (by decide) rfl rfl (by decide) (by decide) (Nat.le_of_ble_eq_true rfl) dX2_takeTwo_36 (W1 := [(q_th, .inr (2, [x_th_text, .int th_place, .int th_first, .int th_second, .int (nI 1)])), (q_p2, .inr (6, [.ref q_p2_kinds, .ref q_p2_column, .ref q_p2_beside, x_p2_damps, .ref q_p2_rentNights, .ref q_p2_rents, x_p2_heirs, .int p2_columns, .int p2_cells, .int p2_start, .int p2_dampCount, .int p2_rentCount, .int p2_heirCount])), (q_p2_rents, .inl (cI, 5, .inl p2_rents)), (q_p2_rentNights, .inl (cI, 5, .inl p2_rentNights)), (q_p2_kinds, .inl (cI, 25, .inl p2_kinds)), (q_p2_column, .inl (cI, 25, .inl p2_column)), (q_p2_beside, .inl (cI, 100, .inl p2_beside))]) rfl (fun H locs hP hD hS => ?_)
    refine lv_iload_n hx hb dX2_takeTwo_39 rfl (lv_at hl 1 rfl) ?_
    refine lv_bipush (v := (nI 107)) hx hb dX2_takeTwo_40 (by decide) ?_
    refine lv_icmp_ne (tgt := 60) hx hb dX2_takeTwo_42 (by decide) (fun hc => ?_) (fun hc => ?_)
    · have hF := ng_f hc hF
      refine lv_aload_n hx hb dX2_takeTwo_60 rfl (lv_at hl 2 rfl) ?_
      refine lv_aload_n hx hb dX2_takeTwo_61 rfl (lv_at hl 0 rfl) ?_
      refine nx_get S0 hK hP 0 2 hin_X2 hf_15 rfl rfl (by decide) rfl rfl dX2_takeTwo_62 ?_
      refine lv_aload_n hx hb dX2_takeTwo_65 rfl (lv_at hl 0 rfl) ?_
      refine nx_get S0 hK hP 0 3 hin_X2 hf_18 rfl rfl (by decide) rfl rfl dX2_takeTwo_66 ?_
      obtain ⟨o69, hF1, hF⟩ := ng_b hF
      refine nx_callVi (As := [.int th_first, .int th_second]) (rest := []) (W1 := [(q_th, .inr (2, [x_th_text, .int th_place, .int th_first, .int th_second, .int (nI 1)])), (q_p2, .inr (6, [.ref q_p2_kinds, .ref q_p2_column, .ref q_p2_beside, x_p2_damps, .ref q_p2_rentNights, .ref q_p2_rents, x_p2_heirs, .int p2_columns, .int p2_cells, .int p2_start, .int p2_dampCount, .int o69.2.1, .int p2_heirCount])), (q_p2_rents, .inl (cI, 5, .inl o69.2.2.1)), (q_p2_rentNights, .inl (cI, 5, .inl o69.2.2.2)), (q_p2_kinds, .inl (cI, 25, .inl p2_kinds)), (q_p2_column, .inl (cI, 25, .inl p2_column)), (q_p2_beside, .inl (cI, 100, .inl p2_beside))]) (wr := [(q_th, .inr (2, [x_th_text, .int th_place, .int th_first, .int th_second, .int (nI 1)])), (q_p2_kinds, .inl (cI, 25, .inl p2_kinds)), (q_p2_column, .inl (cI, 25, .inl p2_column)), (q_p2_beside, .inl (cI, 100, .inl p2_beside))]) S0 hK hN hA hP hD hS (kX6_takeRent l dC dI cI q_p2 q_p2_rents q_p2_rentNights _ (.ref q_p2_kinds) (.ref q_p2_column) (.ref q_p2_beside) (x_p2_damps) (x_p2_heirs) p2_columns p2_cells p2_start p2_dampCount p2_rentCount p2_heirCount p2_rents p2_rentNights th_first th_second N o69 hF1) (cwV 2 hts gX2_takeTwo_X6_takeRent rfl rfl rfl ⟨rfl, hdX6_takeRent⟩ ⟨Nat.le_of_ble_eq_true rfl, Nat.le_of_ble_eq_true rfl⟩) [1, 2, 3] [0, 4, 5, 6] [0, 4, 5, 6, 1, 2, 3] rfl rfl rfl rfl 1 6 rfl rfl rfl rfl hl.1 rfl (Nat.le_of_ble_eq_true rfl) dX2_takeTwo_69 (fun H locs hP hD hS => ?_)
      have hg := ng_p hF
      have hF := ng_x hF
      exact hret o69.1 (nI 1) p2_columns p2_cells o69.2.1 o69.2.2.1 o69.2.2.2 p2_kinds p2_column p2_beside _ _ _ _ hg hF dX2_takeTwo_72 hP hD hS
    · have hF := ng_t hc hF
      refine lv_aload_n hx hb dX2_takeTwo_45 rfl (lv_at hl 2 rfl) ?_
      refine lv_aload_n hx hb dX2_takeTwo_46 rfl (lv_at hl 0 rfl) ?_
      refine nx_get S0 hK hP 0 2 hin_X2 hf_15 rfl rfl (by decide) rfl rfl dX2_takeTwo_47 ?_
      refine lv_aload_n hx hb dX2_takeTwo_50 rfl (lv_at hl 0 rfl) ?_
      refine nx_get S0 hK hP 0 3 hin_X2 hf_18 rfl rfl (by decide) rfl rfl dX2_takeTwo_51 ?_
      obtain ⟨o54, hF1, hF⟩ := ng_b hF
      refine nx_callVi (As := [.int th_first, .int th_second]) (rest := []) (W1 := [(q_th, .inr (2, [x_th_text, .int th_place, .int th_first, .int th_second, .int (nI 1)])), (q_p2, .inr (6, [.ref q_p2_kinds, .ref q_p2_column, .ref q_p2_beside, x_p2_damps, .ref q_p2_rentNights, .ref q_p2_rents, x_p2_heirs, .int p2_columns, .int p2_cells, .int p2_start, .int p2_dampCount, .int p2_rentCount, .int p2_heirCount])), (q_p2_rents, .inl (cI, 5, .inl p2_rents)), (q_p2_rentNights, .inl (cI, 5, .inl p2_rentNights)), (q_p2_kinds, .inl (cI, 25, .inl o54.2)), (q_p2_column, .inl (cI, 25, .inl p2_column)), (q_p2_beside, .inl (cI, 100, .inl p2_beside))]) (wr := [(q_th, .inr (2, [x_th_text, .int th_place, .int th_first, .int th_second, .int (nI 1)])), (q_p2_rents, .inl (cI, 5, .inl p2_rents)), (q_p2_rentNights, .inl (cI, 5, .inl p2_rentNights)), (q_p2_column, .inl (cI, 25, .inl p2_column)), (q_p2_beside, .inl (cI, 100, .inl p2_beside))]) S0 hK hN hA hP hD hS (kX6_takeKind l dC dI cI q_p2 q_p2_kinds _ (.ref q_p2_column) (.ref q_p2_beside) (x_p2_damps) (.ref q_p2_rentNights) (.ref q_p2_rents) (x_p2_heirs) p2_columns p2_cells p2_start p2_dampCount p2_rentCount p2_heirCount p2_kinds th_first th_second N o54 hF1) (cwV 2 hts gX2_takeTwo_X6_takeKind rfl rfl rfl ⟨rfl, hdX6_takeKind⟩ ⟨Nat.le_of_ble_eq_true rfl, Nat.le_of_ble_eq_true rfl⟩) [1, 4] [0, 2, 3, 5, 6] [0, 5, 1, 2, 6, 3, 4] rfl rfl rfl rfl 1 6 rfl rfl rfl rfl hl.1 rfl (Nat.le_of_ble_eq_true rfl) dX2_takeTwo_54 (fun H locs hP hD hS => ?_)
      refine lv_goto (tgt := 72) hx hb dX2_takeTwo_57 (by decide) ?_
      have hg := ng_p hF
      have hF := ng_x hF
      exact hret o54.1 (nI 1) p2_columns p2_cells p2_rentCount p2_rents p2_rentNights o54.2 p2_column p2_beside _ _ _ _ hg hF dX2_takeTwo_72 hP hD hS
  · have hF := ng_t hc hF
    refine lv_aload_n hx hb dX2_takeTwo_6 rfl (lv_at hl 0 rfl) ?_
    refine nx_get S0 hK hP 0 4 hin_X2 hf_21 rfl rfl (by decide) rfl rfl dX2_takeTwo_7 ?_
    refine lv_if_ne (tgt := 32) hx hb dX2_takeTwo_10 (by decide) (fun hc => ?_) (fun hc => ?_)
    · have hF := ng_f hc hF
      refine lv_iconst (v := (nI 0)) hx hb dX2_takeTwo_32 (by decide) ?_
      exact hret (nI 0) th_yardIsFixed p2_columns p2_cells p2_rentCount p2_rents p2_rentNights p2_kinds p2_column p2_beside _ _ _ _ (Or.inl rfl) hF dX2_takeTwo_33 hP hD hS
    · have hF := ng_t hc hF
      refine lv_aload_n hx hb dX2_takeTwo_13 rfl (lv_at hl 2 rfl) ?_
      refine lv_aload_n hx hb dX2_takeTwo_14 rfl (lv_at hl 0 rfl) ?_
      refine nx_get S0 hK hP 0 2 hin_X2 hf_15 rfl rfl (by decide) rfl rfl dX2_takeTwo_15 ?_
      refine lv_aload_n hx hb dX2_takeTwo_18 rfl (lv_at hl 0 rfl) ?_
      refine nx_get S0 hK hP 0 3 hin_X2 hf_18 rfl rfl (by decide) rfl rfl dX2_takeTwo_19 ?_
      obtain ⟨o22, hF1, hF⟩ := ng_b hF
      refine nx_callVi (As := [.int th_first, .int th_second]) (rest := []) (W1 := [(q_th, .inr (2, [x_th_text, .int th_place, .int th_first, .int th_second, .int th_yardIsFixed])), (q_p2, .inr (6, [.ref q_p2_kinds, .ref q_p2_column, .ref q_p2_beside, x_p2_damps, .ref q_p2_rentNights, .ref q_p2_rents, x_p2_heirs, .int o22.2.1, .int o22.2.2.1, .int p2_start, .int p2_dampCount, .int p2_rentCount, .int p2_heirCount])), (q_p2_rents, .inl (cI, 5, .inl p2_rents)), (q_p2_rentNights, .inl (cI, 5, .inl p2_rentNights)), (q_p2_kinds, .inl (cI, 25, .inl p2_kinds)), (q_p2_column, .inl (cI, 25, .inl o22.2.2.2.1)), (q_p2_beside, .inl (cI, 100, .inl o22.2.2.2.2))]) (wr := [(q_th, .inr (2, [x_th_text, .int th_place, .int th_first, .int th_second, .int th_yardIsFixed])), (q_p2_rents, .inl (cI, 5, .inl p2_rents)), (q_p2_rentNights, .inl (cI, 5, .inl p2_rentNights)), (q_p2_kinds, .inl (cI, 25, .inl p2_kinds))]) S0 hK hN hA hP hD hS (kX6_takeShape l dC dI cI q_p2 q_p2_column q_p2_beside _ (.ref q_p2_kinds) (x_p2_damps) (.ref q_p2_rentNights) (.ref q_p2_rents) (x_p2_heirs) p2_columns p2_cells p2_start p2_dampCount p2_rentCount p2_heirCount p2_column p2_beside th_first th_second N o22 hF1) (cwV 2 hts gX2_takeTwo_X6_takeShape rfl rfl rfl ⟨rfl, hdX6_takeShape⟩ ⟨Nat.le_of_ble_eq_true rfl, Nat.le_of_ble_eq_true rfl⟩) [1, 5, 6] [0, 2, 3, 4] [0, 4, 1, 2, 3, 5, 6] rfl rfl rfl rfl 1 6 rfl rfl rfl rfl hl.1 rfl (Nat.le_of_ble_eq_true rfl) dX2_takeTwo_22 (fun H locs hP hD hS => ?_)
      refine lv_if_eq (tgt := 32) hx hb dX2_takeTwo_25 (by decide) (fun hc => ?_) (fun hc => ?_)
      · have hF := ng_t hc hF
        refine lv_iconst (v := (nI 0)) hx hb dX2_takeTwo_32 (by decide) ?_
        exact hret (nI 0) th_yardIsFixed o22.2.1 o22.2.2.1 p2_rentCount p2_rents p2_rentNights p2_kinds o22.2.2.2.1 o22.2.2.2.2 _ _ _ _ (Or.inl rfl) hF dX2_takeTwo_33 hP hD hS
      · have hF := ng_f hc hF
        refine lv_iconst (v := (nI 1)) hx hb dX2_takeTwo_28 (by decide) ?_
        refine lv_goto (tgt := 33) hx hb dX2_takeTwo_29 (by decide) ?_
        exact hret (nI 1) th_yardIsFixed o22.2.1 o22.2.2.1 p2_rentCount p2_rents p2_rentNights p2_kinds o22.2.2.2.1 o22.2.2.2.2 _ _ _ _ (Or.inr rfl) hF dX2_takeTwo_33 hP hD hS
theorem hdX2_readItem : yX2_readItem.cls ≠ "java/lang/invoke/MethodHandle" ∧ yX2_readItem.cls ≠ "java/lang/invoke/VarHandle" ∧ (parseMethodDescriptor yX2_readItem.desc).map (fun d => d.parameters.length) = some 1 := by decide +kernel
set_option maxHeartbeats 40000000 in
set_option maxRecDepth 100000 in
theorem kX2_readItem (l : Launch) (dC : Nat → ClassId) (dI : Nat → Nat → Nat) (cI : ClassId) (q_th : Nat) (q_p1 : Nat) (q_th_text : Nat) (q_th_text_letters : Nat) (q_p1_rents : Nat) (q_p1_rentNights : Nat) (q_p1_kinds : Nat) (q_p1_column : Nat) (q_p1_beside : Nat) (q_p1_damps : Nat) (q_p1_heirs : Nat) (sz : Nat) (th_place : Int32) (th_first : Int32) (th_second : Int32) (th_yardIsFixed : Int32) (p1_columns : Int32) (p1_cells : Int32) (p1_start : Int32) (p1_dampCount : Int32) (p1_rentCount : Int32) (p1_heirCount : Int32) (th_text_length : Int32) (th_text_letters : Nat → Int32) (p1_rents : Nat → Int32) (p1_rentNights : Nat → Int32) (p1_kinds : Nat → Int32) (p1_column : Nat → Int32) (p1_beside : Nat → Int32) (p1_damps : Nat → Int32) (p1_heirs : Nat → Int32) (N : Nat) (o : Int32 × Int32 × Int32 × Int32 × Int32 × Int32 × Int32 × Int32 × Int32 × Int32 × Int32 × (Nat → Int32) × (Nat → Int32) × (Nat → Int32) × (Nat → Int32) × (Nat → Int32) × (Nat → Int32) × (Nat → Int32)) (hF : fX2_readItem N th_place th_first th_second th_yardIsFixed p1_columns p1_cells p1_start p1_dampCount p1_rentCount p1_heirCount th_text_length th_text_letters p1_rents p1_rentNights p1_kinds p1_column p1_beside p1_damps p1_heirs = some o) : nx_I l yX2_readItem wsX2_readItem ({ frames := 3, cells := 0, slots := 0, locals := 65 } : Room) (dC, dI) cI [.ref q_th, .ref q_p1] [(q_th, .inr (2, [.ref q_th_text, .int th_place, .int th_first, .int th_second, .int th_yardIsFixed])), (q_p1, .inr (6, [.ref q_p1_kinds, .ref q_p1_column, .ref q_p1_beside, .ref q_p1_damps, .ref q_p1_rentNights, .ref q_p1_rents, .ref q_p1_heirs, .int p1_columns, .int p1_cells, .int p1_start, .int p1_dampCount, .int p1_rentCount, .int p1_heirCount])), (q_th_text, .inr (0, [.ref q_th_text_letters, .int th_text_length])), (q_th_text_letters, .inl (cI, 200, .inl th_text_letters)), (q_p1_rents, .inl (cI, 5, .inl p1_rents)), (q_p1_rentNights, .inl (cI, 5, .inl p1_rentNights)), (q_p1_kinds, .inl (cI, 25, .inl p1_kinds)), (q_p1_column, .inl (cI, 25, .inl p1_column)), (q_p1_beside, .inl (cI, 100, .inl p1_beside)), (q_p1_damps, .inl (cI, 9, .inl p1_damps)), (q_p1_heirs, .inl (cI, 4, .inl p1_heirs))] sz o.1 [(q_th, .inr (2, [.ref q_th_text, .int o.2.1, .int o.2.2.1, .int o.2.2.2.1, .int o.2.2.2.2.1])), (q_p1, .inr (6, [.ref q_p1_kinds, .ref q_p1_column, .ref q_p1_beside, .ref q_p1_damps, .ref q_p1_rentNights, .ref q_p1_rents, .ref q_p1_heirs, .int o.2.2.2.2.2.1, .int o.2.2.2.2.2.2.1, .int o.2.2.2.2.2.2.2.1, .int o.2.2.2.2.2.2.2.2.1, .int o.2.2.2.2.2.2.2.2.2.1, .int o.2.2.2.2.2.2.2.2.2.2.1])), (q_th_text, .inr (0, [.ref q_th_text_letters, .int th_text_length])), (q_th_text_letters, .inl (cI, 200, .inl th_text_letters)), (q_p1_rents, .inl (cI, 5, .inl o.2.2.2.2.2.2.2.2.2.2.2.1)), (q_p1_rentNights, .inl (cI, 5, .inl o.2.2.2.2.2.2.2.2.2.2.2.2.1)), (q_p1_kinds, .inl (cI, 25, .inl o.2.2.2.2.2.2.2.2.2.2.2.2.2.1)), (q_p1_column, .inl (cI, 25, .inl o.2.2.2.2.2.2.2.2.2.2.2.2.2.2.1)), (q_p1_beside, .inl (cI, 100, .inl o.2.2.2.2.2.2.2.2.2.2.2.2.2.2.2.1)), (q_p1_damps, .inl (cI, 9, .inl o.2.2.2.2.2.2.2.2.2.2.2.2.2.2.2.2.1)), (q_p1_heirs, .inl (cI, 4, .inl o.2.2.2.2.2.2.2.2.2.2.2.2.2.2.2.2.2))] := by
  refine nx_zint (cc := cX2_readItem) (maxL := 3) (by decide) rfl (Nat.le_of_ble_eq_true rfl) ?_
  intro p e s m args below meth c Q A S0 hK hN hA ret0 hP hD hS ls hl
  have S0 : CallFix p m c cX2_readItem 3 s args wsX2_readItem RX2 := S0
  have hx := S0.1
  have hb := S0.2.1
  have hown := S0.2.2.2.1
  have hts := S0.2.2.2.2
  have hf_25 := hts (.fieldLink RX2 25 "SnailsYear$Reader" "text" "LSnailsYear$Letters;") (by decide +kernel)
  have hin_X2 : ∀ w ∈ wsX20, w ∈ wsX2_readItem := by decide +kernel
  have hf_9 := hts (.fieldLink RX2 9 "SnailsYear$Reader" "place" "I") (by decide +kernel)
  have hl : lv_has ls 3 [(0, .ref q_th), (1, .ref q_p1)] := hl
  have hret : ∀ (r0 : Int32) (y0 : Int32) (y1 : Int32) (y2 : Int32) (y3 : Int32) (y4 : Int32) (y5 : Int32) (y6 : Int32) (y7 : Int32) (y8 : Int32) (y9 : Int32) (y10 : Nat → Int32) (y11 : Nat → Int32) (y12 : Nat → Int32) (y13 : Nat → Int32) (y14 : Nat → Int32) (y15 : Nat → Int32) (y16 : Nat → Int32) (H : Heap) (locs : List Loc) (ls : Array Slot) (pc : Nat), (r0 = 0 ∨ r0 = 1) → some (r0, y0, y1, y2, y3, y4, y5, y6, y7, y8, y9, y10, y11, y12, y13, y14, y15, y16) = some o → decode cX2_readItem pc = .ok (.ireturn, 1) → va_P (dC, dI) vwCl [(q_th, .inr (2, [.ref q_th_text, .int y0, .int y1, .int y2, .int y3])), (q_p1, .inr (6, [.ref q_p1_kinds, .ref q_p1_column, .ref q_p1_beside, .ref q_p1_damps, .ref q_p1_rentNights, .ref q_p1_rents, .ref q_p1_heirs, .int y4, .int y5, .int y6, .int y7, .int y8, .int y9])), (q_th_text, .inr (0, [.ref q_th_text_letters, .int th_text_length])), (q_th_text_letters, .inl (cI, 200, .inl th_text_letters)), (q_p1_rents, .inl (cI, 5, .inl y10)), (q_p1_rentNights, .inl (cI, 5, .inl y11)), (q_p1_kinds, .inl (cI, 25, .inl y12)), (q_p1_column, .inl (cI, 25, .inl y13)), (q_p1_beside, .inl (cI, 100, .inl y14)), (q_p1_damps, .inl (cI, 9, .inl y15)), (q_p1_heirs, .inl (cI, 4, .inl y16))] H → va_D A [(q_th, .inr (2, [.ref q_th_text, .int y0, .int y1, .int y2, .int y3])), (q_p1, .inr (6, [.ref q_p1_kinds, .ref q_p1_column, .ref q_p1_beside, .ref q_p1_damps, .ref q_p1_rentNights, .ref q_p1_rents, .ref q_p1_heirs, .int y4, .int y5, .int y6, .int y7, .int y8, .int y9])), (q_th_text, .inr (0, [.ref q_th_text_letters, .int th_text_length])), (q_th_text_letters, .inl (cI, 200, .inl th_text_letters)), (q_p1_rents, .inl (cI, 5, .inl y10)), (q_p1_rentNights, .inl (cI, 5, .inl y11)), (q_p1_kinds, .inl (cI, 25, .inl y12)), (q_p1_column, .inl (cI, 25, .inl y13)), (q_p1_beside, .inl (cI, 100, .inl y14)), (q_p1_damps, .inl (cI, 9, .inl y15)), (q_p1_heirs, .inl (cI, 4, .inl y16))] → va_S A s.heap H locs → W p l e ({ frames := 3, cells := 0, slots := 0, locals := 65 } : Room) s m args below meth c H locs 0 0 Q (F0 m pc ls [.int r0]) := by
    intro r0 y0 y1 y2 y3 y4 y5 y6 y7 y8 y9 y10 y11 y12 y13 y14 y15 y16 H locs ls pc hz ho hd hP hD hS
    cases ho
    exact ret0 H locs ls pc hz hd hP hD hS
  rw [fX2_readItem_e] at hF
  refine lv_aload_n hx hb dX2_readItem_0 rfl (lv_at hl 0 rfl) ?_
  refine nx_get S0 hK hP 0 0 hin_X2 hf_25 rfl rfl (by decide) rfl rfl dX2_readItem_1 ?_
  refine lv_aload_n hx hb dX2_readItem_4 rfl (lv_at hl 0 rfl) ?_
  refine nx_get S0 hK hP 0 1 hin_X2 hf_9 rfl rfl (by decide) rfl rfl dX2_readItem_5 ?_
  obtain ⟨o8, hF1, hF⟩ := ng_b hF
  refine nx_callVi (As := [.int th_place]) (rest := []) (W1 := [(q_th, .inr (2, [.ref q_th_text, .int th_place, .int th_first, .int th_second, .int th_yardIsFixed])), (q_p1, .inr (6, [.ref q_p1_kinds, .ref q_p1_column, .ref q_p1_beside, .ref q_p1_damps, .ref q_p1_rentNights, .ref q_p1_rents, .ref q_p1_heirs, .int p1_columns, .int p1_cells, .int p1_start, .int p1_dampCount, .int p1_rentCount, .int p1_heirCount])), (q_th_text, .inr (0, [.ref q_th_text_letters, .int th_text_length])), (q_th_text_letters, .inl (cI, 200, .inl th_text_letters)), (q_p1_rents, .inl (cI, 5, .inl p1_rents)), (q_p1_rentNights, .inl (cI, 5, .inl p1_rentNights)), (q_p1_kinds, .inl (cI, 25, .inl p1_kinds)), (q_p1_column, .inl (cI, 25, .inl p1_column)), (q_p1_beside, .inl (cI, 100, .inl p1_beside)), (q_p1_damps, .inl (cI, 9, .inl p1_damps)), (q_p1_heirs, .inl (cI, 4, .inl p1_heirs))]) (wr := [(q_th, .inr (2, [.ref q_th_text, .int th_place, .int th_first, .int th_second, .int th_yardIsFixed])), (q_p1, .inr (6, [.ref q_p1_kinds, .ref q_p1_column, .ref q_p1_beside, .ref q_p1_damps, .ref q_p1_rentNights, .ref q_p1_rents, .ref q_p1_heirs, .int p1_columns, .int p1_cells, .int p1_start, .int p1_dampCount, .int p1_rentCount, .int p1_heirCount])), (q_p1_rents, .inl (cI, 5, .inl p1_rents)), (q_p1_rentNights, .inl (cI, 5, .inl p1_rentNights)), (q_p1_kinds, .inl (cI, 25, .inl p1_kinds)), (q_p1_column, .inl (cI, 25, .inl p1_column)), (q_p1_beside, .inl (cI, 100, .inl p1_beside)), (q_p1_damps, .inl (cI, 9, .inl p1_damps)), (q_p1_heirs, .inl (cI, 4, .inl p1_heirs))]) S0 hK hN hA hP hD hS (kX0_at l dC dI cI q_th_text q_th_text_letters _ th_text_length th_text_letters th_place N o8 hF1) (cwV 1 hts gX2_readItem_X0_at rfl rfl rfl ⟨rfl, hdX0_at⟩ ⟨Nat.le_of_ble_eq_true rfl, Nat.le_of_ble_eq_true rfl⟩) [2, 3] [0, 1, 4, 5, 6, 7, 8, 9, 10] [0, 1, 9, 10, 2, 3, 4, 5, 6, 7, 8] rfl rfl rfl rfl 2 0 rfl rfl rfl rfl hl.1 rfl (Nat.le_of_ble_eq_true rfl) dX2_readItem_8 (fun H locs hP hD hS => ?_)
  refine lv_istore_n (lv' := [(2, .int o8), (0, .ref q_th), (1, .ref q_p1)]) hx hb dX2_readItem_11 rfl hl (by decide) rfl (fun ls hl => ?_)
  refine lv_aload_n hx hb dX2_readItem_12 rfl (lv_at hl 1 rfl) ?_
  refine lv_dup hx hb dX2_readItem_13 rfl ?_
  refine nx_get S0 hK hP 0 1 hin_X2 hf_9 rfl rfl (by decide) rfl rfl dX2_readItem_14 ?_
  refine lv_iconst (v := (nI 1)) hx hb dX2_readItem_17 (by decide) ?_
  refine lv_iadd hx hb dX2_readItem_18 ?_
  refine nx_put S0 hK hP hD hS 0 1 hin_X2 tyX2 tyX2_ok nmX2 hf_9 rfl rfl (by decide) rfl rfl rfl rfl (Nat.le_of_ble_eq_true rfl) dX2_readItem_19 (W1 := [(q_th, .inr (2, [.ref q_th_text, .int (th_place + (nI 1)), .int th_first, .int th_second, .int th_yardIsFixed])), (q_p1, .inr (6, [.ref q_p1_kinds, .ref q_p1_column, .ref q_p1_beside, .ref q_p1_damps, .ref q_p1_rentNights, .ref q_p1_rents, .ref q_p1_heirs, .int p1_columns, .int p1_cells, .int p1_start, .int p1_dampCount, .int p1_rentCount, .int p1_heirCount])), (q_th_text, .inr (0, [.ref q_th_text_letters, .int th_text_length])), (q_th_text_letters, .inl (cI, 200, .inl th_text_letters)), (q_p1_rents, .inl (cI, 5, .inl p1_rents)), (q_p1_rentNights, .inl (cI, 5, .inl p1_rentNights)), (q_p1_kinds, .inl (cI, 25, .inl p1_kinds)), (q_p1_column, .inl (cI, 25, .inl p1_column)), (q_p1_beside, .inl (cI, 100, .inl p1_beside)), (q_p1_damps, .inl (cI, 9, .inl p1_damps)), (q_p1_heirs, .inl (cI, 4, .inl p1_heirs))]) rfl (fun H locs hP hD hS => ?_)
  refine lv_iload_n hx hb dX2_readItem_22 rfl (lv_at hl 0 rfl) ?_
  by_cases hs_0 : o8 = (nI 100)
  · have hF := ng_t hs_0 hF
    refine lv_lookup (off := 79) (tgt := 102) hx hb dX2_readItem_23 (by decide +kernel) (by rw [hs_0]; decide +kernel) (by decide) ?_
    refine lv_aload_n hx hb dX2_readItem_102 rfl (lv_at hl 1 rfl) ?_
    obtain ⟨o103, hF1, hF⟩ := ng_b hF
    refine nx_callVi (As := []) (rest := []) (W1 := [(q_th, .inr (2, [.ref q_th_text, .int o103.2.1, .int o103.2.2, .int th_second, .int th_yardIsFixed])), (q_p1, .inr (6, [.ref q_p1_kinds, .ref q_p1_column, .ref q_p1_beside, .ref q_p1_damps, .ref q_p1_rentNights, .ref q_p1_rents, .ref q_p1_heirs, .int p1_columns, .int p1_cells, .int p1_start, .int p1_dampCount, .int p1_rentCount, .int p1_heirCount])), (q_th_text, .inr (0, [.ref q_th_text_letters, .int th_text_length])), (q_th_text_letters, .inl (cI, 200, .inl th_text_letters)), (q_p1_rents, .inl (cI, 5, .inl p1_rents)), (q_p1_rentNights, .inl (cI, 5, .inl p1_rentNights)), (q_p1_kinds, .inl (cI, 25, .inl p1_kinds)), (q_p1_column, .inl (cI, 25, .inl p1_column)), (q_p1_beside, .inl (cI, 100, .inl p1_beside)), (q_p1_damps, .inl (cI, 9, .inl p1_damps)), (q_p1_heirs, .inl (cI, 4, .inl p1_heirs))]) (wr := [(q_p1, .inr (6, [.ref q_p1_kinds, .ref q_p1_column, .ref q_p1_beside, .ref q_p1_damps, .ref q_p1_rentNights, .ref q_p1_rents, .ref q_p1_heirs, .int p1_columns, .int p1_cells, .int p1_start, .int p1_dampCount, .int p1_rentCount, .int p1_heirCount])), (q_p1_rents, .inl (cI, 5, .inl p1_rents)), (q_p1_rentNights, .inl (cI, 5, .inl p1_rentNights)), (q_p1_kinds, .inl (cI, 25, .inl p1_kinds)), (q_p1_column, .inl (cI, 25, .inl p1_column)), (q_p1_beside, .inl (cI, 100, .inl p1_beside)), (q_p1_damps, .inl (cI, 9, .inl p1_damps)), (q_p1_heirs, .inl (cI, 4, .inl p1_heirs))]) S0 hK hN hA hP hD hS (kX2_readOne l dC dI cI q_th q_th_text q_th_text_letters _ (th_place + (nI 1)) th_first th_second th_yardIsFixed th_text_length th_text_letters N o103 hF1) (cwV 0 hts gX2_readItem_X2_readOne rfl rfl rfl ⟨rfl, hdX2_readOne⟩ ⟨Nat.le_of_ble_eq_true rfl, Nat.le_of_ble_eq_true rfl⟩) [0, 2, 3] [1, 4, 5, 6, 7, 8, 9, 10] [8, 0, 9, 10, 1, 2, 3, 4, 5, 6, 7] rfl rfl rfl rfl 0 2 rfl rfl rfl rfl hl.1 rfl (Nat.le_of_ble_eq_true rfl) dX2_readItem_103 (fun H locs hP hD hS => ?_)
    refine lv_if_eq (tgt := 122) hx hb dX2_readItem_106 (by decide) (fun hc => ?_) (fun hc => ?_)
    · have hF := ng_t hc hF
      refine lv_iconst (v := (nI 0)) hx hb dX2_readItem_122 (by decide) ?_
      exact hret (nI 0) o103.2.1 o103.2.2 th_second th_yardIsFixed p1_columns p1_cells p1_start p1_dampCount p1_rentCount p1_heirCount p1_rents p1_rentNights p1_kinds p1_column p1_beside p1_damps p1_heirs _ _ _ _ (Or.inl rfl) hF dX2_readItem_123 hP hD hS
    · have hF := ng_f hc hF
      refine lv_aload_n hx hb dX2_readItem_109 rfl (lv_at hl 1 rfl) ?_
      refine lv_iload_n hx hb dX2_readItem_110 rfl (lv_at hl 0 rfl) ?_
      refine lv_aload_n hx hb dX2_readItem_111 rfl (lv_at hl 2 rfl) ?_
      obtain ⟨o112, hF1, hF⟩ := ng_b hF
      refine nx_callVi (As := [.int o8, .ref q_p1]) (rest := []) (W1 := [(q_th, .inr (2, [.ref q_th_text, .int o103.2.1, .int o103.2.2, .int th_second, .int o112.2.1])), (q_p1, .inr (6, [.ref q_p1_kinds, .ref q_p1_column, .ref q_p1_beside, .ref q_p1_damps, .ref q_p1_rentNights, .ref q_p1_rents, .ref q_p1_heirs, .int p1_columns, .int p1_cells, .int o112.2.2.1, .int o112.2.2.2.1, .int p1_rentCount, .int o112.2.2.2.2.1])), (q_th_text, .inr (0, [.ref q_th_text_letters, .int th_text_length])), (q_th_text_letters, .inl (cI, 200, .inl th_text_letters)), (q_p1_rents, .inl (cI, 5, .inl p1_rents)), (q_p1_rentNights, .inl (cI, 5, .inl p1_rentNights)), (q_p1_kinds, .inl (cI, 25, .inl p1_kinds)), (q_p1_column, .inl (cI, 25, .inl p1_column)), (q_p1_beside, .inl (cI, 100, .inl p1_beside)), (q_p1_damps, .inl (cI, 9, .inl o112.2.2.2.2.2.1)), (q_p1_heirs, .inl (cI, 4, .inl o112.2.2.2.2.2.2))]) (wr := [(q_th_text, .inr (0, [.ref q_th_text_letters, .int th_text_length])), (q_th_text_letters, .inl (cI, 200, .inl th_text_letters)), (q_p1_rents, .inl (cI, 5, .inl p1_rents)), (q_p1_rentNights, .inl (cI, 5, .inl p1_rentNights)), (q_p1_kinds, .inl (cI, 25, .inl p1_kinds)), (q_p1_column, .inl (cI, 25, .inl p1_column)), (q_p1_beside, .inl (cI, 100, .inl p1_beside))]) S0 hK hN hA hP hD hS (kX2_takeOne l dC dI cI q_th q_p1 q_p1_damps q_p1_heirs _ (.ref q_th_text) o103.2.1 o103.2.2 th_second th_yardIsFixed (.ref q_p1_kinds) (.ref q_p1_column) (.ref q_p1_beside) (.ref q_p1_rentNights) (.ref q_p1_rents) p1_columns p1_cells p1_start p1_dampCount p1_rentCount p1_heirCount p1_damps p1_heirs o8 N o112 hF1) (cwV 2 hts gX2_readItem_X2_takeOne rfl rfl rfl ⟨rfl, hdX2_takeOne⟩ ⟨Nat.le_of_ble_eq_true rfl, Nat.le_of_ble_eq_true rfl⟩) [0, 1, 9, 10] [2, 3, 4, 5, 6, 7, 8] [7, 8, 0, 1, 2, 3, 4, 5, 6, 9, 10] rfl rfl rfl rfl 0 2 rfl rfl rfl rfl hl.1 rfl (Nat.le_of_ble_eq_true rfl) dX2_readItem_112 (fun H locs hP hD hS => ?_)
      refine lv_if_eq (tgt := 122) hx hb dX2_readItem_115 (by decide) (fun hc => ?_) (fun hc => ?_)
      · have hF := ng_t hc hF
        refine lv_iconst (v := (nI 0)) hx hb dX2_readItem_122 (by decide) ?_
        exact hret (nI 0) o103.2.1 o103.2.2 th_second o112.2.1 p1_columns p1_cells o112.2.2.1 o112.2.2.2.1 p1_rentCount o112.2.2.2.2.1 p1_rents p1_rentNights p1_kinds p1_column p1_beside o112.2.2.2.2.2.1 o112.2.2.2.2.2.2 _ _ _ _ (Or.inl rfl) hF dX2_readItem_123 hP hD hS
      · have hF := ng_f hc hF
        refine lv_iconst (v := (nI 1)) hx hb dX2_readItem_118 (by decide) ?_
        refine lv_goto (tgt := 123) hx hb dX2_readItem_119 (by decide) ?_
        exact hret (nI 1) o103.2.1 o103.2.2 th_second o112.2.1 p1_columns p1_cells o112.2.2.1 o112.2.2.2.1 p1_rentCount o112.2.2.2.2.1 p1_rents p1_rentNights p1_kinds p1_column p1_beside o112.2.2.2.2.2.1 o112.2.2.2.2.2.2 _ _ _ _ (Or.inr rfl) hF dX2_readItem_123 hP hD hS
  have hF := ng_f hs_0 hF
  by_cases hs_1 : o8 = (nI 104)
  · have hF := ng_t hs_1 hF
    refine lv_lookup (off := 79) (tgt := 102) hx hb dX2_readItem_23 (by decide +kernel) (by rw [hs_1]; decide +kernel) (by decide) ?_
    refine lv_aload_n hx hb dX2_readItem_102 rfl (lv_at hl 1 rfl) ?_
    obtain ⟨o103, hF1, hF⟩ := ng_b hF
    refine nx_callVi (As := []) (rest := []) (W1 := [(q_th, .inr (2, [.ref q_th_text, .int o103.2.1, .int o103.2.2, .int th_second, .int th_yardIsFixed])), (q_p1, .inr (6, [.ref q_p1_kinds, .ref q_p1_column, .ref q_p1_beside, .ref q_p1_damps, .ref q_p1_rentNights, .ref q_p1_rents, .ref q_p1_heirs, .int p1_columns, .int p1_cells, .int p1_start, .int p1_dampCount, .int p1_rentCount, .int p1_heirCount])), (q_th_text, .inr (0, [.ref q_th_text_letters, .int th_text_length])), (q_th_text_letters, .inl (cI, 200, .inl th_text_letters)), (q_p1_rents, .inl (cI, 5, .inl p1_rents)), (q_p1_rentNights, .inl (cI, 5, .inl p1_rentNights)), (q_p1_kinds, .inl (cI, 25, .inl p1_kinds)), (q_p1_column, .inl (cI, 25, .inl p1_column)), (q_p1_beside, .inl (cI, 100, .inl p1_beside)), (q_p1_damps, .inl (cI, 9, .inl p1_damps)), (q_p1_heirs, .inl (cI, 4, .inl p1_heirs))]) (wr := [(q_p1, .inr (6, [.ref q_p1_kinds, .ref q_p1_column, .ref q_p1_beside, .ref q_p1_damps, .ref q_p1_rentNights, .ref q_p1_rents, .ref q_p1_heirs, .int p1_columns, .int p1_cells, .int p1_start, .int p1_dampCount, .int p1_rentCount, .int p1_heirCount])), (q_p1_rents, .inl (cI, 5, .inl p1_rents)), (q_p1_rentNights, .inl (cI, 5, .inl p1_rentNights)), (q_p1_kinds, .inl (cI, 25, .inl p1_kinds)), (q_p1_column, .inl (cI, 25, .inl p1_column)), (q_p1_beside, .inl (cI, 100, .inl p1_beside)), (q_p1_damps, .inl (cI, 9, .inl p1_damps)), (q_p1_heirs, .inl (cI, 4, .inl p1_heirs))]) S0 hK hN hA hP hD hS (kX2_readOne l dC dI cI q_th q_th_text q_th_text_letters _ (th_place + (nI 1)) th_first th_second th_yardIsFixed th_text_length th_text_letters N o103 hF1) (cwV 0 hts gX2_readItem_X2_readOne rfl rfl rfl ⟨rfl, hdX2_readOne⟩ ⟨Nat.le_of_ble_eq_true rfl, Nat.le_of_ble_eq_true rfl⟩) [0, 2, 3] [1, 4, 5, 6, 7, 8, 9, 10] [8, 0, 9, 10, 1, 2, 3, 4, 5, 6, 7] rfl rfl rfl rfl 0 2 rfl rfl rfl rfl hl.1 rfl (Nat.le_of_ble_eq_true rfl) dX2_readItem_103 (fun H locs hP hD hS => ?_)
    refine lv_if_eq (tgt := 122) hx hb dX2_readItem_106 (by decide) (fun hc => ?_) (fun hc => ?_)
    · have hF := ng_t hc hF
      refine lv_iconst (v := (nI 0)) hx hb dX2_readItem_122 (by decide) ?_
      exact hret (nI 0) o103.2.1 o103.2.2 th_second th_yardIsFixed p1_columns p1_cells p1_start p1_dampCount p1_rentCount p1_heirCount p1_rents p1_rentNights p1_kinds p1_column p1_beside p1_damps p1_heirs _ _ _ _ (Or.inl rfl) hF dX2_readItem_123 hP hD hS
    · have hF := ng_f hc hF
      refine lv_aload_n hx hb dX2_readItem_109 rfl (lv_at hl 1 rfl) ?_
      refine lv_iload_n hx hb dX2_readItem_110 rfl (lv_at hl 0 rfl) ?_
      refine lv_aload_n hx hb dX2_readItem_111 rfl (lv_at hl 2 rfl) ?_
      obtain ⟨o112, hF1, hF⟩ := ng_b hF
      refine nx_callVi (As := [.int o8, .ref q_p1]) (rest := []) (W1 := [(q_th, .inr (2, [.ref q_th_text, .int o103.2.1, .int o103.2.2, .int th_second, .int o112.2.1])), (q_p1, .inr (6, [.ref q_p1_kinds, .ref q_p1_column, .ref q_p1_beside, .ref q_p1_damps, .ref q_p1_rentNights, .ref q_p1_rents, .ref q_p1_heirs, .int p1_columns, .int p1_cells, .int o112.2.2.1, .int o112.2.2.2.1, .int p1_rentCount, .int o112.2.2.2.2.1])), (q_th_text, .inr (0, [.ref q_th_text_letters, .int th_text_length])), (q_th_text_letters, .inl (cI, 200, .inl th_text_letters)), (q_p1_rents, .inl (cI, 5, .inl p1_rents)), (q_p1_rentNights, .inl (cI, 5, .inl p1_rentNights)), (q_p1_kinds, .inl (cI, 25, .inl p1_kinds)), (q_p1_column, .inl (cI, 25, .inl p1_column)), (q_p1_beside, .inl (cI, 100, .inl p1_beside)), (q_p1_damps, .inl (cI, 9, .inl o112.2.2.2.2.2.1)), (q_p1_heirs, .inl (cI, 4, .inl o112.2.2.2.2.2.2))]) (wr := [(q_th_text, .inr (0, [.ref q_th_text_letters, .int th_text_length])), (q_th_text_letters, .inl (cI, 200, .inl th_text_letters)), (q_p1_rents, .inl (cI, 5, .inl p1_rents)), (q_p1_rentNights, .inl (cI, 5, .inl p1_rentNights)), (q_p1_kinds, .inl (cI, 25, .inl p1_kinds)), (q_p1_column, .inl (cI, 25, .inl p1_column)), (q_p1_beside, .inl (cI, 100, .inl p1_beside))]) S0 hK hN hA hP hD hS (kX2_takeOne l dC dI cI q_th q_p1 q_p1_damps q_p1_heirs _ (.ref q_th_text) o103.2.1 o103.2.2 th_second th_yardIsFixed (.ref q_p1_kinds) (.ref q_p1_column) (.ref q_p1_beside) (.ref q_p1_rentNights) (.ref q_p1_rents) p1_columns p1_cells p1_start p1_dampCount p1_rentCount p1_heirCount p1_damps p1_heirs o8 N o112 hF1) (cwV 2 hts gX2_readItem_X2_takeOne rfl rfl rfl ⟨rfl, hdX2_takeOne⟩ ⟨Nat.le_of_ble_eq_true rfl, Nat.le_of_ble_eq_true rfl⟩) [0, 1, 9, 10] [2, 3, 4, 5, 6, 7, 8] [7, 8, 0, 1, 2, 3, 4, 5, 6, 9, 10] rfl rfl rfl rfl 0 2 rfl rfl rfl rfl hl.1 rfl (Nat.le_of_ble_eq_true rfl) dX2_readItem_112 (fun H locs hP hD hS => ?_)
      refine lv_if_eq (tgt := 122) hx hb dX2_readItem_115 (by decide) (fun hc => ?_) (fun hc => ?_)
      · have hF := ng_t hc hF
        refine lv_iconst (v := (nI 0)) hx hb dX2_readItem_122 (by decide) ?_
        exact hret (nI 0) o103.2.1 o103.2.2 th_second o112.2.1 p1_columns p1_cells o112.2.2.1 o112.2.2.2.1 p1_rentCount o112.2.2.2.2.1 p1_rents p1_rentNights p1_kinds p1_column p1_beside o112.2.2.2.2.2.1 o112.2.2.2.2.2.2 _ _ _ _ (Or.inl rfl) hF dX2_readItem_123 hP hD hS
      · have hF := ng_f hc hF
        refine lv_iconst (v := (nI 1)) hx hb dX2_readItem_118 (by decide) ?_
        refine lv_goto (tgt := 123) hx hb dX2_readItem_119 (by decide) ?_
        exact hret (nI 1) o103.2.1 o103.2.2 th_second o112.2.1 p1_columns p1_cells o112.2.2.1 o112.2.2.2.1 p1_rentCount o112.2.2.2.2.1 p1_rents p1_rentNights p1_kinds p1_column p1_beside o112.2.2.2.2.2.1 o112.2.2.2.2.2.2 _ _ _ _ (Or.inr rfl) hF dX2_readItem_123 hP hD hS
  have hF := ng_f hs_1 hF
  by_cases hs_2 : o8 = (nI 107)
  · have hF := ng_t hs_2 hF
    refine lv_lookup (off := 57) (tgt := 80) hx hb dX2_readItem_23 (by decide +kernel) (by rw [hs_2]; decide +kernel) (by decide) ?_
    refine lv_aload_n hx hb dX2_readItem_80 rfl (lv_at hl 1 rfl) ?_
    obtain ⟨o81, hF1, hF⟩ := ng_b hF
    refine nx_callVi (As := []) (rest := []) (W1 := [(q_th, .inr (2, [.ref q_th_text, .int o81.2.1, .int o81.2.2.1, .int o81.2.2.2, .int th_yardIsFixed])), (q_p1, .inr (6, [.ref q_p1_kinds, .ref q_p1_column, .ref q_p1_beside, .ref q_p1_damps, .ref q_p1_rentNights, .ref q_p1_rents, .ref q_p1_heirs, .int p1_columns, .int p1_cells, .int p1_start, .int p1_dampCount, .int p1_rentCount, .int p1_heirCount])), (q_th_text, .inr (0, [.ref q_th_text_letters, .int th_text_length])), (q_th_text_letters, .inl (cI, 200, .inl th_text_letters)), (q_p1_rents, .inl (cI, 5, .inl p1_rents)), (q_p1_rentNights, .inl (cI, 5, .inl p1_rentNights)), (q_p1_kinds, .inl (cI, 25, .inl p1_kinds)), (q_p1_column, .inl (cI, 25, .inl p1_column)), (q_p1_beside, .inl (cI, 100, .inl p1_beside)), (q_p1_damps, .inl (cI, 9, .inl p1_damps)), (q_p1_heirs, .inl (cI, 4, .inl p1_heirs))]) (wr := [(q_p1, .inr (6, [.ref q_p1_kinds, .ref q_p1_column, .ref q_p1_beside, .ref q_p1_damps, .ref q_p1_rentNights, .ref q_p1_rents, .ref q_p1_heirs, .int p1_columns, .int p1_cells, .int p1_start, .int p1_dampCount, .int p1_rentCount, .int p1_heirCount])), (q_p1_rents, .inl (cI, 5, .inl p1_rents)), (q_p1_rentNights, .inl (cI, 5, .inl p1_rentNights)), (q_p1_kinds, .inl (cI, 25, .inl p1_kinds)), (q_p1_column, .inl (cI, 25, .inl p1_column)), (q_p1_beside, .inl (cI, 100, .inl p1_beside)), (q_p1_damps, .inl (cI, 9, .inl p1_damps)), (q_p1_heirs, .inl (cI, 4, .inl p1_heirs))]) S0 hK hN hA hP hD hS (kX2_readTwo l dC dI cI q_th q_th_text q_th_text_letters _ (th_place + (nI 1)) th_first th_second th_yardIsFixed th_text_length th_text_letters N o81 hF1) (cwV 0 hts gX2_readItem_X2_readTwo rfl rfl rfl ⟨rfl, hdX2_readTwo⟩ ⟨Nat.le_of_ble_eq_true rfl, Nat.le_of_ble_eq_true rfl⟩) [0, 2, 3] [1, 4, 5, 6, 7, 8, 9, 10] [8, 0, 9, 10, 1, 2, 3, 4, 5, 6, 7] rfl rfl rfl rfl 0 2 rfl rfl rfl rfl hl.1 rfl (Nat.le_of_ble_eq_true rfl) dX2_readItem_81 (fun H locs hP hD hS => ?_)
    refine lv_if_eq (tgt := 100) hx hb dX2_readItem_84 (by decide) (fun hc => ?_) (fun hc => ?_)
    · have hF := ng_t hc hF
      refine lv_iconst (v := (nI 0)) hx hb dX2_readItem_100 (by decide) ?_
      exact hret (nI 0) o81.2.1 o81.2.2.1 o81.2.2.2 th_yardIsFixed p1_columns p1_cells p1_start p1_dampCount p1_rentCount p1_heirCount p1_rents p1_rentNights p1_kinds p1_column p1_beside p1_damps p1_heirs _ _ _ _ (Or.inl rfl) hF dX2_readItem_101 hP hD hS
    · have hF := ng_f hc hF
      refine lv_aload_n hx hb dX2_readItem_87 rfl (lv_at hl 1 rfl) ?_
      refine lv_iload_n hx hb dX2_readItem_88 rfl (lv_at hl 0 rfl) ?_
      refine lv_aload_n hx hb dX2_readItem_89 rfl (lv_at hl 2 rfl) ?_
      obtain ⟨o90, hF1, hF⟩ := ng_b hF
      refine nx_callVi (As := [.int o8, .ref q_p1]) (rest := []) (W1 := [(q_th, .inr (2, [.ref q_th_text, .int o81.2.1, .int o81.2.2.1, .int o81.2.2.2, .int o90.2.1])), (q_p1, .inr (6, [.ref q_p1_kinds, .ref q_p1_column, .ref q_p1_beside, .ref q_p1_damps, .ref q_p1_rentNights, .ref q_p1_rents, .ref q_p1_heirs, .int o90.2.2.1, .int o90.2.2.2.1, .int p1_start, .int p1_dampCount, .int o90.2.2.2.2.1, .int p1_heirCount])), (q_th_text, .inr (0, [.ref q_th_text_letters, .int th_text_length])), (q_th_text_letters, .inl (cI, 200, .inl th_text_letters)), (q_p1_rents, .inl (cI, 5, .inl o90.2.2.2.2.2.1)), (q_p1_rentNights, .inl (cI, 5, .inl o90.2.2.2.2.2.2.1)), (q_p1_kinds, .inl (cI, 25, .inl o90.2.2.2.2.2.2.2.1)), (q_p1_column, .inl (cI, 25, .inl o90.2.2.2.2.2.2.2.2.1)), (q_p1_beside, .inl (cI, 100, .inl o90.2.2.2.2.2.2.2.2.2)), (q_p1_damps, .inl (cI, 9, .inl p1_damps)), (q_p1_heirs, .inl (cI, 4, .inl p1_heirs))]) (wr := [(q_th_text, .inr (0, [.ref q_th_text_letters, .int th_text_length])), (q_th_text_letters, .inl (cI, 200, .inl th_text_letters)), (q_p1_damps, .inl (cI, 9, .inl p1_damps)), (q_p1_heirs, .inl (cI, 4, .inl p1_heirs))]) S0 hK hN hA hP hD hS (kX2_takeTwo l dC dI cI q_th q_p1 q_p1_rents q_p1_rentNights q_p1_kinds q_p1_column q_p1_beside _ (.ref q_th_text) o81.2.1 o81.2.2.1 o81.2.2.2 th_yardIsFixed (.ref q_p1_damps) (.ref q_p1_heirs) p1_columns p1_cells p1_start p1_dampCount p1_rentCount p1_heirCount p1_rents p1_rentNights p1_kinds p1_column p1_beside o8 N o90 hF1) (cwV 2 hts gX2_readItem_X2_takeTwo rfl rfl rfl ⟨rfl, hdX2_takeTwo⟩ ⟨Nat.le_of_ble_eq_true rfl, Nat.le_of_ble_eq_true rfl⟩) [0, 1, 4, 5, 6, 7, 8] [2, 3, 9, 10] [4, 5, 0, 1, 6, 7, 8, 9, 10, 2, 3] rfl rfl rfl rfl 0 2 rfl rfl rfl rfl hl.1 rfl (Nat.le_of_ble_eq_true rfl) dX2_readItem_90 (fun H locs hP hD hS => ?_)
      refine lv_if_eq (tgt := 100) hx hb dX2_readItem_93 (by decide) (fun hc => ?_) (fun hc => ?_)
      · have hF := ng_t hc hF
        refine lv_iconst (v := (nI 0)) hx hb dX2_readItem_100 (by decide) ?_
        exact hret (nI 0) o81.2.1 o81.2.2.1 o81.2.2.2 o90.2.1 o90.2.2.1 o90.2.2.2.1 p1_start p1_dampCount o90.2.2.2.2.1 p1_heirCount o90.2.2.2.2.2.1 o90.2.2.2.2.2.2.1 o90.2.2.2.2.2.2.2.1 o90.2.2.2.2.2.2.2.2.1 o90.2.2.2.2.2.2.2.2.2 p1_damps p1_heirs _ _ _ _ (Or.inl rfl) hF dX2_readItem_101 hP hD hS
      · have hF := ng_f hc hF
        refine lv_iconst (v := (nI 1)) hx hb dX2_readItem_96 (by decide) ?_
        refine lv_goto (tgt := 101) hx hb dX2_readItem_97 (by decide) ?_
        exact hret (nI 1) o81.2.1 o81.2.2.1 o81.2.2.2 o90.2.1 o90.2.2.1 o90.2.2.2.1 p1_start p1_dampCount o90.2.2.2.2.1 p1_heirCount o90.2.2.2.2.2.1 o90.2.2.2.2.2.2.1 o90.2.2.2.2.2.2.2.1 o90.2.2.2.2.2.2.2.2.1 o90.2.2.2.2.2.2.2.2.2 p1_damps p1_heirs _ _ _ _ (Or.inr rfl) hF dX2_readItem_101 hP hD hS
  have hF := ng_f hs_2 hF
  by_cases hs_3 : o8 = (nI 114)
  · have hF := ng_t hs_3 hF
    refine lv_lookup (off := 57) (tgt := 80) hx hb dX2_readItem_23 (by decide +kernel) (by rw [hs_3]; decide +kernel) (by decide) ?_
    refine lv_aload_n hx hb dX2_readItem_80 rfl (lv_at hl 1 rfl) ?_
    obtain ⟨o81, hF1, hF⟩ := ng_b hF
    refine nx_callVi (As := []) (rest := []) (W1 := [(q_th, .inr (2, [.ref q_th_text, .int o81.2.1, .int o81.2.2.1, .int o81.2.2.2, .int th_yardIsFixed])), (q_p1, .inr (6, [.ref q_p1_kinds, .ref q_p1_column, .ref q_p1_beside, .ref q_p1_damps, .ref q_p1_rentNights, .ref q_p1_rents, .ref q_p1_heirs, .int p1_columns, .int p1_cells, .int p1_start, .int p1_dampCount, .int p1_rentCount, .int p1_heirCount])), (q_th_text, .inr (0, [.ref q_th_text_letters, .int th_text_length])), (q_th_text_letters, .inl (cI, 200, .inl th_text_letters)), (q_p1_rents, .inl (cI, 5, .inl p1_rents)), (q_p1_rentNights, .inl (cI, 5, .inl p1_rentNights)), (q_p1_kinds, .inl (cI, 25, .inl p1_kinds)), (q_p1_column, .inl (cI, 25, .inl p1_column)), (q_p1_beside, .inl (cI, 100, .inl p1_beside)), (q_p1_damps, .inl (cI, 9, .inl p1_damps)), (q_p1_heirs, .inl (cI, 4, .inl p1_heirs))]) (wr := [(q_p1, .inr (6, [.ref q_p1_kinds, .ref q_p1_column, .ref q_p1_beside, .ref q_p1_damps, .ref q_p1_rentNights, .ref q_p1_rents, .ref q_p1_heirs, .int p1_columns, .int p1_cells, .int p1_start, .int p1_dampCount, .int p1_rentCount, .int p1_heirCount])), (q_p1_rents, .inl (cI, 5, .inl p1_rents)), (q_p1_rentNights, .inl (cI, 5, .inl p1_rentNights)), (q_p1_kinds, .inl (cI, 25, .inl p1_kinds)), (q_p1_column, .inl (cI, 25, .inl p1_column)), (q_p1_beside, .inl (cI, 100, .inl p1_beside)), (q_p1_damps, .inl (cI, 9, .inl p1_damps)), (q_p1_heirs, .inl (cI, 4, .inl p1_heirs))]) S0 hK hN hA hP hD hS (kX2_readTwo l dC dI cI q_th q_th_text q_th_text_letters _ (th_place + (nI 1)) th_first th_second th_yardIsFixed th_text_length th_text_letters N o81 hF1) (cwV 0 hts gX2_readItem_X2_readTwo rfl rfl rfl ⟨rfl, hdX2_readTwo⟩ ⟨Nat.le_of_ble_eq_true rfl, Nat.le_of_ble_eq_true rfl⟩) [0, 2, 3] [1, 4, 5, 6, 7, 8, 9, 10] [8, 0, 9, 10, 1, 2, 3, 4, 5, 6, 7] rfl rfl rfl rfl 0 2 rfl rfl rfl rfl hl.1 rfl (Nat.le_of_ble_eq_true rfl) dX2_readItem_81 (fun H locs hP hD hS => ?_)
    refine lv_if_eq (tgt := 100) hx hb dX2_readItem_84 (by decide) (fun hc => ?_) (fun hc => ?_)
    · have hF := ng_t hc hF
      refine lv_iconst (v := (nI 0)) hx hb dX2_readItem_100 (by decide) ?_
      exact hret (nI 0) o81.2.1 o81.2.2.1 o81.2.2.2 th_yardIsFixed p1_columns p1_cells p1_start p1_dampCount p1_rentCount p1_heirCount p1_rents p1_rentNights p1_kinds p1_column p1_beside p1_damps p1_heirs _ _ _ _ (Or.inl rfl) hF dX2_readItem_101 hP hD hS
    · have hF := ng_f hc hF
      refine lv_aload_n hx hb dX2_readItem_87 rfl (lv_at hl 1 rfl) ?_
      refine lv_iload_n hx hb dX2_readItem_88 rfl (lv_at hl 0 rfl) ?_
      refine lv_aload_n hx hb dX2_readItem_89 rfl (lv_at hl 2 rfl) ?_
      obtain ⟨o90, hF1, hF⟩ := ng_b hF
      refine nx_callVi (As := [.int o8, .ref q_p1]) (rest := []) (W1 := [(q_th, .inr (2, [.ref q_th_text, .int o81.2.1, .int o81.2.2.1, .int o81.2.2.2, .int o90.2.1])), (q_p1, .inr (6, [.ref q_p1_kinds, .ref q_p1_column, .ref q_p1_beside, .ref q_p1_damps, .ref q_p1_rentNights, .ref q_p1_rents, .ref q_p1_heirs, .int o90.2.2.1, .int o90.2.2.2.1, .int p1_start, .int p1_dampCount, .int o90.2.2.2.2.1, .int p1_heirCount])), (q_th_text, .inr (0, [.ref q_th_text_letters, .int th_text_length])), (q_th_text_letters, .inl (cI, 200, .inl th_text_letters)), (q_p1_rents, .inl (cI, 5, .inl o90.2.2.2.2.2.1)), (q_p1_rentNights, .inl (cI, 5, .inl o90.2.2.2.2.2.2.1)), (q_p1_kinds, .inl (cI, 25, .inl o90.2.2.2.2.2.2.2.1)), (q_p1_column, .inl (cI, 25, .inl o90.2.2.2.2.2.2.2.2.1)), (q_p1_beside, .inl (cI, 100, .inl o90.2.2.2.2.2.2.2.2.2)), (q_p1_damps, .inl (cI, 9, .inl p1_damps)), (q_p1_heirs, .inl (cI, 4, .inl p1_heirs))]) (wr := [(q_th_text, .inr (0, [.ref q_th_text_letters, .int th_text_length])), (q_th_text_letters, .inl (cI, 200, .inl th_text_letters)), (q_p1_damps, .inl (cI, 9, .inl p1_damps)), (q_p1_heirs, .inl (cI, 4, .inl p1_heirs))]) S0 hK hN hA hP hD hS (kX2_takeTwo l dC dI cI q_th q_p1 q_p1_rents q_p1_rentNights q_p1_kinds q_p1_column q_p1_beside _ (.ref q_th_text) o81.2.1 o81.2.2.1 o81.2.2.2 th_yardIsFixed (.ref q_p1_damps) (.ref q_p1_heirs) p1_columns p1_cells p1_start p1_dampCount p1_rentCount p1_heirCount p1_rents p1_rentNights p1_kinds p1_column p1_beside o8 N o90 hF1) (cwV 2 hts gX2_readItem_X2_takeTwo rfl rfl rfl ⟨rfl, hdX2_takeTwo⟩ ⟨Nat.le_of_ble_eq_true rfl, Nat.le_of_ble_eq_true rfl⟩) [0, 1, 4, 5, 6, 7, 8] [2, 3, 9, 10] [4, 5, 0, 1, 6, 7, 8, 9, 10, 2, 3] rfl rfl rfl rfl 0 2 rfl rfl rfl rfl hl.1 rfl (Nat.le_of_ble_eq_true rfl) dX2_readItem_90 (fun H locs hP hD hS => ?_)
      refine lv_if_eq (tgt := 100) hx hb dX2_readItem_93 (by decide) (fun hc => ?_) (fun hc => ?_)
      · have hF := ng_t hc hF
        refine lv_iconst (v := (nI 0)) hx hb dX2_readItem_100 (by decide) ?_
        exact hret (nI 0) o81.2.1 o81.2.2.1 o81.2.2.2 o90.2.1 o90.2.2.1 o90.2.2.2.1 p1_start p1_dampCount o90.2.2.2.2.1 p1_heirCount o90.2.2.2.2.2.1 o90.2.2.2.2.2.2.1 o90.2.2.2.2.2.2.2.1 o90.2.2.2.2.2.2.2.2.1 o90.2.2.2.2.2.2.2.2.2 p1_damps p1_heirs _ _ _ _ (Or.inl rfl) hF dX2_readItem_101 hP hD hS
      · have hF := ng_f hc hF
        refine lv_iconst (v := (nI 1)) hx hb dX2_readItem_96 (by decide) ?_
        refine lv_goto (tgt := 101) hx hb dX2_readItem_97 (by decide) ?_
        exact hret (nI 1) o81.2.1 o81.2.2.1 o81.2.2.2 o90.2.1 o90.2.2.1 o90.2.2.2.1 p1_start p1_dampCount o90.2.2.2.2.1 p1_heirCount o90.2.2.2.2.2.1 o90.2.2.2.2.2.2.1 o90.2.2.2.2.2.2.2.1 o90.2.2.2.2.2.2.2.2.1 o90.2.2.2.2.2.2.2.2.2 p1_damps p1_heirs _ _ _ _ (Or.inr rfl) hF dX2_readItem_101 hP hD hS
  have hF := ng_f hs_3 hF
  by_cases hs_4 : o8 = (nI 115)
  · have hF := ng_t hs_4 hF
    refine lv_lookup (off := 79) (tgt := 102) hx hb dX2_readItem_23 (by decide +kernel) (by rw [hs_4]; decide +kernel) (by decide) ?_
    refine lv_aload_n hx hb dX2_readItem_102 rfl (lv_at hl 1 rfl) ?_
    obtain ⟨o103, hF1, hF⟩ := ng_b hF
    refine nx_callVi (As := []) (rest := []) (W1 := [(q_th, .inr (2, [.ref q_th_text, .int o103.2.1, .int o103.2.2, .int th_second, .int th_yardIsFixed])), (q_p1, .inr (6, [.ref q_p1_kinds, .ref q_p1_column, .ref q_p1_beside, .ref q_p1_damps, .ref q_p1_rentNights, .ref q_p1_rents, .ref q_p1_heirs, .int p1_columns, .int p1_cells, .int p1_start, .int p1_dampCount, .int p1_rentCount, .int p1_heirCount])), (q_th_text, .inr (0, [.ref q_th_text_letters, .int th_text_length])), (q_th_text_letters, .inl (cI, 200, .inl th_text_letters)), (q_p1_rents, .inl (cI, 5, .inl p1_rents)), (q_p1_rentNights, .inl (cI, 5, .inl p1_rentNights)), (q_p1_kinds, .inl (cI, 25, .inl p1_kinds)), (q_p1_column, .inl (cI, 25, .inl p1_column)), (q_p1_beside, .inl (cI, 100, .inl p1_beside)), (q_p1_damps, .inl (cI, 9, .inl p1_damps)), (q_p1_heirs, .inl (cI, 4, .inl p1_heirs))]) (wr := [(q_p1, .inr (6, [.ref q_p1_kinds, .ref q_p1_column, .ref q_p1_beside, .ref q_p1_damps, .ref q_p1_rentNights, .ref q_p1_rents, .ref q_p1_heirs, .int p1_columns, .int p1_cells, .int p1_start, .int p1_dampCount, .int p1_rentCount, .int p1_heirCount])), (q_p1_rents, .inl (cI, 5, .inl p1_rents)), (q_p1_rentNights, .inl (cI, 5, .inl p1_rentNights)), (q_p1_kinds, .inl (cI, 25, .inl p1_kinds)), (q_p1_column, .inl (cI, 25, .inl p1_column)), (q_p1_beside, .inl (cI, 100, .inl p1_beside)), (q_p1_damps, .inl (cI, 9, .inl p1_damps)), (q_p1_heirs, .inl (cI, 4, .inl p1_heirs))]) S0 hK hN hA hP hD hS (kX2_readOne l dC dI cI q_th q_th_text q_th_text_letters _ (th_place + (nI 1)) th_first th_second th_yardIsFixed th_text_length th_text_letters N o103 hF1) (cwV 0 hts gX2_readItem_X2_readOne rfl rfl rfl ⟨rfl, hdX2_readOne⟩ ⟨Nat.le_of_ble_eq_true rfl, Nat.le_of_ble_eq_true rfl⟩) [0, 2, 3] [1, 4, 5, 6, 7, 8, 9, 10] [8, 0, 9, 10, 1, 2, 3, 4, 5, 6, 7] rfl rfl rfl rfl 0 2 rfl rfl rfl rfl hl.1 rfl (Nat.le_of_ble_eq_true rfl) dX2_readItem_103 (fun H locs hP hD hS => ?_)
    refine lv_if_eq (tgt := 122) hx hb dX2_readItem_106 (by decide) (fun hc => ?_) (fun hc => ?_)
    · have hF := ng_t hc hF
      refine lv_iconst (v := (nI 0)) hx hb dX2_readItem_122 (by decide) ?_
      exact hret (nI 0) o103.2.1 o103.2.2 th_second th_yardIsFixed p1_columns p1_cells p1_start p1_dampCount p1_rentCount p1_heirCount p1_rents p1_rentNights p1_kinds p1_column p1_beside p1_damps p1_heirs _ _ _ _ (Or.inl rfl) hF dX2_readItem_123 hP hD hS
    · have hF := ng_f hc hF
      refine lv_aload_n hx hb dX2_readItem_109 rfl (lv_at hl 1 rfl) ?_
      refine lv_iload_n hx hb dX2_readItem_110 rfl (lv_at hl 0 rfl) ?_
      refine lv_aload_n hx hb dX2_readItem_111 rfl (lv_at hl 2 rfl) ?_
      obtain ⟨o112, hF1, hF⟩ := ng_b hF
      refine nx_callVi (As := [.int o8, .ref q_p1]) (rest := []) (W1 := [(q_th, .inr (2, [.ref q_th_text, .int o103.2.1, .int o103.2.2, .int th_second, .int o112.2.1])), (q_p1, .inr (6, [.ref q_p1_kinds, .ref q_p1_column, .ref q_p1_beside, .ref q_p1_damps, .ref q_p1_rentNights, .ref q_p1_rents, .ref q_p1_heirs, .int p1_columns, .int p1_cells, .int o112.2.2.1, .int o112.2.2.2.1, .int p1_rentCount, .int o112.2.2.2.2.1])), (q_th_text, .inr (0, [.ref q_th_text_letters, .int th_text_length])), (q_th_text_letters, .inl (cI, 200, .inl th_text_letters)), (q_p1_rents, .inl (cI, 5, .inl p1_rents)), (q_p1_rentNights, .inl (cI, 5, .inl p1_rentNights)), (q_p1_kinds, .inl (cI, 25, .inl p1_kinds)), (q_p1_column, .inl (cI, 25, .inl p1_column)), (q_p1_beside, .inl (cI, 100, .inl p1_beside)), (q_p1_damps, .inl (cI, 9, .inl o112.2.2.2.2.2.1)), (q_p1_heirs, .inl (cI, 4, .inl o112.2.2.2.2.2.2))]) (wr := [(q_th_text, .inr (0, [.ref q_th_text_letters, .int th_text_length])), (q_th_text_letters, .inl (cI, 200, .inl th_text_letters)), (q_p1_rents, .inl (cI, 5, .inl p1_rents)), (q_p1_rentNights, .inl (cI, 5, .inl p1_rentNights)), (q_p1_kinds, .inl (cI, 25, .inl p1_kinds)), (q_p1_column, .inl (cI, 25, .inl p1_column)), (q_p1_beside, .inl (cI, 100, .inl p1_beside))]) S0 hK hN hA hP hD hS (kX2_takeOne l dC dI cI q_th q_p1 q_p1_damps q_p1_heirs _ (.ref q_th_text) o103.2.1 o103.2.2 th_second th_yardIsFixed (.ref q_p1_kinds) (.ref q_p1_column) (.ref q_p1_beside) (.ref q_p1_rentNights) (.ref q_p1_rents) p1_columns p1_cells p1_start p1_dampCount p1_rentCount p1_heirCount p1_damps p1_heirs o8 N o112 hF1) (cwV 2 hts gX2_readItem_X2_takeOne rfl rfl rfl ⟨rfl, hdX2_takeOne⟩ ⟨Nat.le_of_ble_eq_true rfl, Nat.le_of_ble_eq_true rfl⟩) [0, 1, 9, 10] [2, 3, 4, 5, 6, 7, 8] [7, 8, 0, 1, 2, 3, 4, 5, 6, 9, 10] rfl rfl rfl rfl 0 2 rfl rfl rfl rfl hl.1 rfl (Nat.le_of_ble_eq_true rfl) dX2_readItem_112 (fun H locs hP hD hS => ?_)
      refine lv_if_eq (tgt := 122) hx hb dX2_readItem_115 (by decide) (fun hc => ?_) (fun hc => ?_)
      · have hF := ng_t hc hF
        refine lv_iconst (v := (nI 0)) hx hb dX2_readItem_122 (by decide) ?_
        exact hret (nI 0) o103.2.1 o103.2.2 th_second o112.2.1 p1_columns p1_cells o112.2.2.1 o112.2.2.2.1 p1_rentCount o112.2.2.2.2.1 p1_rents p1_rentNights p1_kinds p1_column p1_beside o112.2.2.2.2.2.1 o112.2.2.2.2.2.2 _ _ _ _ (Or.inl rfl) hF dX2_readItem_123 hP hD hS
      · have hF := ng_f hc hF
        refine lv_iconst (v := (nI 1)) hx hb dX2_readItem_118 (by decide) ?_
        refine lv_goto (tgt := 123) hx hb dX2_readItem_119 (by decide) ?_
        exact hret (nI 1) o103.2.1 o103.2.2 th_second o112.2.1 p1_columns p1_cells o112.2.2.1 o112.2.2.2.1 p1_rentCount o112.2.2.2.2.1 p1_rents p1_rentNights p1_kinds p1_column p1_beside o112.2.2.2.2.2.1 o112.2.2.2.2.2.2 _ _ _ _ (Or.inr rfl) hF dX2_readItem_123 hP hD hS
  have hF := ng_f hs_4 hF
  by_cases hs_5 : o8 = (nI 121)
  · have hF := ng_t hs_5 hF
    refine lv_lookup (off := 57) (tgt := 80) hx hb dX2_readItem_23 (by decide +kernel) (by rw [hs_5]; decide +kernel) (by decide) ?_
    refine lv_aload_n hx hb dX2_readItem_80 rfl (lv_at hl 1 rfl) ?_
    obtain ⟨o81, hF1, hF⟩ := ng_b hF
    refine nx_callVi (As := []) (rest := []) (W1 := [(q_th, .inr (2, [.ref q_th_text, .int o81.2.1, .int o81.2.2.1, .int o81.2.2.2, .int th_yardIsFixed])), (q_p1, .inr (6, [.ref q_p1_kinds, .ref q_p1_column, .ref q_p1_beside, .ref q_p1_damps, .ref q_p1_rentNights, .ref q_p1_rents, .ref q_p1_heirs, .int p1_columns, .int p1_cells, .int p1_start, .int p1_dampCount, .int p1_rentCount, .int p1_heirCount])), (q_th_text, .inr (0, [.ref q_th_text_letters, .int th_text_length])), (q_th_text_letters, .inl (cI, 200, .inl th_text_letters)), (q_p1_rents, .inl (cI, 5, .inl p1_rents)), (q_p1_rentNights, .inl (cI, 5, .inl p1_rentNights)), (q_p1_kinds, .inl (cI, 25, .inl p1_kinds)), (q_p1_column, .inl (cI, 25, .inl p1_column)), (q_p1_beside, .inl (cI, 100, .inl p1_beside)), (q_p1_damps, .inl (cI, 9, .inl p1_damps)), (q_p1_heirs, .inl (cI, 4, .inl p1_heirs))]) (wr := [(q_p1, .inr (6, [.ref q_p1_kinds, .ref q_p1_column, .ref q_p1_beside, .ref q_p1_damps, .ref q_p1_rentNights, .ref q_p1_rents, .ref q_p1_heirs, .int p1_columns, .int p1_cells, .int p1_start, .int p1_dampCount, .int p1_rentCount, .int p1_heirCount])), (q_p1_rents, .inl (cI, 5, .inl p1_rents)), (q_p1_rentNights, .inl (cI, 5, .inl p1_rentNights)), (q_p1_kinds, .inl (cI, 25, .inl p1_kinds)), (q_p1_column, .inl (cI, 25, .inl p1_column)), (q_p1_beside, .inl (cI, 100, .inl p1_beside)), (q_p1_damps, .inl (cI, 9, .inl p1_damps)), (q_p1_heirs, .inl (cI, 4, .inl p1_heirs))]) S0 hK hN hA hP hD hS (kX2_readTwo l dC dI cI q_th q_th_text q_th_text_letters _ (th_place + (nI 1)) th_first th_second th_yardIsFixed th_text_length th_text_letters N o81 hF1) (cwV 0 hts gX2_readItem_X2_readTwo rfl rfl rfl ⟨rfl, hdX2_readTwo⟩ ⟨Nat.le_of_ble_eq_true rfl, Nat.le_of_ble_eq_true rfl⟩) [0, 2, 3] [1, 4, 5, 6, 7, 8, 9, 10] [8, 0, 9, 10, 1, 2, 3, 4, 5, 6, 7] rfl rfl rfl rfl 0 2 rfl rfl rfl rfl hl.1 rfl (Nat.le_of_ble_eq_true rfl) dX2_readItem_81 (fun H locs hP hD hS => ?_)
    refine lv_if_eq (tgt := 100) hx hb dX2_readItem_84 (by decide) (fun hc => ?_) (fun hc => ?_)
    · have hF := ng_t hc hF
      refine lv_iconst (v := (nI 0)) hx hb dX2_readItem_100 (by decide) ?_
      exact hret (nI 0) o81.2.1 o81.2.2.1 o81.2.2.2 th_yardIsFixed p1_columns p1_cells p1_start p1_dampCount p1_rentCount p1_heirCount p1_rents p1_rentNights p1_kinds p1_column p1_beside p1_damps p1_heirs _ _ _ _ (Or.inl rfl) hF dX2_readItem_101 hP hD hS
    · have hF := ng_f hc hF
      refine lv_aload_n hx hb dX2_readItem_87 rfl (lv_at hl 1 rfl) ?_
      refine lv_iload_n hx hb dX2_readItem_88 rfl (lv_at hl 0 rfl) ?_
      refine lv_aload_n hx hb dX2_readItem_89 rfl (lv_at hl 2 rfl) ?_
      obtain ⟨o90, hF1, hF⟩ := ng_b hF
      refine nx_callVi (As := [.int o8, .ref q_p1]) (rest := []) (W1 := [(q_th, .inr (2, [.ref q_th_text, .int o81.2.1, .int o81.2.2.1, .int o81.2.2.2, .int o90.2.1])), (q_p1, .inr (6, [.ref q_p1_kinds, .ref q_p1_column, .ref q_p1_beside, .ref q_p1_damps, .ref q_p1_rentNights, .ref q_p1_rents, .ref q_p1_heirs, .int o90.2.2.1, .int o90.2.2.2.1, .int p1_start, .int p1_dampCount, .int o90.2.2.2.2.1, .int p1_heirCount])), (q_th_text, .inr (0, [.ref q_th_text_letters, .int th_text_length])), (q_th_text_letters, .inl (cI, 200, .inl th_text_letters)), (q_p1_rents, .inl (cI, 5, .inl o90.2.2.2.2.2.1)), (q_p1_rentNights, .inl (cI, 5, .inl o90.2.2.2.2.2.2.1)), (q_p1_kinds, .inl (cI, 25, .inl o90.2.2.2.2.2.2.2.1)), (q_p1_column, .inl (cI, 25, .inl o90.2.2.2.2.2.2.2.2.1)), (q_p1_beside, .inl (cI, 100, .inl o90.2.2.2.2.2.2.2.2.2)), (q_p1_damps, .inl (cI, 9, .inl p1_damps)), (q_p1_heirs, .inl (cI, 4, .inl p1_heirs))]) (wr := [(q_th_text, .inr (0, [.ref q_th_text_letters, .int th_text_length])), (q_th_text_letters, .inl (cI, 200, .inl th_text_letters)), (q_p1_damps, .inl (cI, 9, .inl p1_damps)), (q_p1_heirs, .inl (cI, 4, .inl p1_heirs))]) S0 hK hN hA hP hD hS (kX2_takeTwo l dC dI cI q_th q_p1 q_p1_rents q_p1_rentNights q_p1_kinds q_p1_column q_p1_beside _ (.ref q_th_text) o81.2.1 o81.2.2.1 o81.2.2.2 th_yardIsFixed (.ref q_p1_damps) (.ref q_p1_heirs) p1_columns p1_cells p1_start p1_dampCount p1_rentCount p1_heirCount p1_rents p1_rentNights p1_kinds p1_column p1_beside o8 N o90 hF1) (cwV 2 hts gX2_readItem_X2_takeTwo rfl rfl rfl ⟨rfl, hdX2_takeTwo⟩ ⟨Nat.le_of_ble_eq_true rfl, Nat.le_of_ble_eq_true rfl⟩) [0, 1, 4, 5, 6, 7, 8] [2, 3, 9, 10] [4, 5, 0, 1, 6, 7, 8, 9, 10, 2, 3] rfl rfl rfl rfl 0 2 rfl rfl rfl rfl hl.1 rfl (Nat.le_of_ble_eq_true rfl) dX2_readItem_90 (fun H locs hP hD hS => ?_)
      refine lv_if_eq (tgt := 100) hx hb dX2_readItem_93 (by decide) (fun hc => ?_) (fun hc => ?_)
      · have hF := ng_t hc hF
        refine lv_iconst (v := (nI 0)) hx hb dX2_readItem_100 (by decide) ?_
        exact hret (nI 0) o81.2.1 o81.2.2.1 o81.2.2.2 o90.2.1 o90.2.2.1 o90.2.2.2.1 p1_start p1_dampCount o90.2.2.2.2.1 p1_heirCount o90.2.2.2.2.2.1 o90.2.2.2.2.2.2.1 o90.2.2.2.2.2.2.2.1 o90.2.2.2.2.2.2.2.2.1 o90.2.2.2.2.2.2.2.2.2 p1_damps p1_heirs _ _ _ _ (Or.inl rfl) hF dX2_readItem_101 hP hD hS
      · have hF := ng_f hc hF
        refine lv_iconst (v := (nI 1)) hx hb dX2_readItem_96 (by decide) ?_
        refine lv_goto (tgt := 101) hx hb dX2_readItem_97 (by decide) ?_
        exact hret (nI 1) o81.2.1 o81.2.2.1 o81.2.2.2 o90.2.1 o90.2.2.1 o90.2.2.2.1 p1_start p1_dampCount o90.2.2.2.2.1 p1_heirCount o90.2.2.2.2.2.1 o90.2.2.2.2.2.2.1 o90.2.2.2.2.2.2.2.1 o90.2.2.2.2.2.2.2.2.1 o90.2.2.2.2.2.2.2.2.2 p1_damps p1_heirs _ _ _ _ (Or.inr rfl) hF dX2_readItem_101 hP hD hS
  have hF := ng_f hs_5 hF
  have hs_0z : ¬ o8.toInt = 100 := fun h9 => hs_0 (Int32.toInt_inj.mp (h9.trans (by decide)))
  have hs_1z : ¬ o8.toInt = 104 := fun h9 => hs_1 (Int32.toInt_inj.mp (h9.trans (by decide)))
  have hs_2z : ¬ o8.toInt = 107 := fun h9 => hs_2 (Int32.toInt_inj.mp (h9.trans (by decide)))
  have hs_3z : ¬ o8.toInt = 114 := fun h9 => hs_3 (Int32.toInt_inj.mp (h9.trans (by decide)))
  have hs_4z : ¬ o8.toInt = 115 := fun h9 => hs_4 (Int32.toInt_inj.mp (h9.trans (by decide)))
  have hs_5z : ¬ o8.toInt = 121 := fun h9 => hs_5 (Int32.toInt_inj.mp (h9.trans (by decide)))
  refine lv_lookup (tgt := 124) hx hb dX2_readItem_23 (by decide +kernel) (nx_off [100, 104, 107, 114, 115, 121] (by decide +kernel) (by intro z hz; simp only [List.mem_cons, List.not_mem_nil, or_false] at hz; rcases hz with rfl | rfl | rfl | rfl | rfl | rfl <;> assumption)) (by decide) ?_
  refine lv_iconst (v := (nI 0)) hx hb dX2_readItem_124 (by decide) ?_
  exact hret (nI 0) (th_place + (nI 1)) th_first th_second th_yardIsFixed p1_columns p1_cells p1_start p1_dampCount p1_rentCount p1_heirCount p1_rents p1_rentNights p1_kinds p1_column p1_beside p1_damps p1_heirs _ _ _ _ (Or.inl rfl) hF dX2_readItem_125 hP hD hS
theorem hdX2_readInto : yX2_readInto.cls ≠ "java/lang/invoke/MethodHandle" ∧ yX2_readInto.cls ≠ "java/lang/invoke/VarHandle" ∧ (parseMethodDescriptor yX2_readInto.desc).map (fun d => d.parameters.length) = some 1 := by decide +kernel
set_option maxHeartbeats 40000000 in
set_option maxRecDepth 100000 in
theorem kX2_readInto (l : Launch) (dC : Nat → ClassId) (dI : Nat → Nat → Nat) (cI : ClassId) (q_th : Nat) (q_p1 : Nat) (q_p1_kinds : Nat) (q_p1_column : Nat) (q_p1_beside : Nat) (q_th_text : Nat) (q_th_text_letters : Nat) (q_p1_rents : Nat) (q_p1_rentNights : Nat) (q_p1_damps : Nat) (q_p1_heirs : Nat) (sz : Nat) (th_place : Int32) (th_first : Int32) (th_second : Int32) (th_yardIsFixed : Int32) (p1_columns : Int32) (p1_cells : Int32) (p1_start : Int32) (p1_dampCount : Int32) (p1_rentCount : Int32) (p1_heirCount : Int32) (p1_kinds : Nat → Int32) (p1_column : Nat → Int32) (p1_beside : Nat → Int32) (th_text_length : Int32) (th_text_letters : Nat → Int32) (p1_rents : Nat → Int32) (p1_rentNights : Nat → Int32) (p1_damps : Nat → Int32) (p1_heirs : Nat → Int32) (N : Nat) (o : Int32 × Int32 × Int32 × Int32 × Int32 × Int32 × Int32 × Int32 × Int32 × Int32 × Int32 × (Nat → Int32) × (Nat → Int32) × (Nat → Int32) × (Nat → Int32) × (Nat → Int32) × (Nat → Int32) × (Nat → Int32)) (hF : fX2_readInto N th_first th_second p1_columns p1_cells p1_kinds p1_column p1_beside th_text_length th_text_letters p1_rents p1_rentNights p1_damps p1_heirs = some o) : nx_I l yX2_readInto wsX2_readInto ({ frames := 4, cells := 0, slots := 0, locals := 87 } : Room) (dC, dI) cI [.ref q_th, .ref q_p1] [(q_th, .inr (2, [.ref q_th_text, .int th_place, .int th_first, .int th_second, .int th_yardIsFixed])), (q_p1, .inr (6, [.ref q_p1_kinds, .ref q_p1_column, .ref q_p1_beside, .ref q_p1_damps, .ref q_p1_rentNights, .ref q_p1_rents, .ref q_p1_heirs, .int p1_columns, .int p1_cells, .int p1_start, .int p1_dampCount, .int p1_rentCount, .int p1_heirCount])), (q_p1_kinds, .inl (cI, 25, .inl p1_kinds)), (q_p1_column, .inl (cI, 25, .inl p1_column)), (q_p1_beside, .inl (cI, 100, .inl p1_beside)), (q_th_text, .inr (0, [.ref q_th_text_letters, .int th_text_length])), (q_th_text_letters, .inl (cI, 200, .inl th_text_letters)), (q_p1_rents, .inl (cI, 5, .inl p1_rents)), (q_p1_rentNights, .inl (cI, 5, .inl p1_rentNights)), (q_p1_damps, .inl (cI, 9, .inl p1_damps)), (q_p1_heirs, .inl (cI, 4, .inl p1_heirs))] sz o.1 [(q_th, .inr (2, [.ref q_th_text, .int o.2.1, .int o.2.2.1, .int o.2.2.2.1, .int o.2.2.2.2.1])), (q_p1, .inr (6, [.ref q_p1_kinds, .ref q_p1_column, .ref q_p1_beside, .ref q_p1_damps, .ref q_p1_rentNights, .ref q_p1_rents, .ref q_p1_heirs, .int o.2.2.2.2.2.1, .int o.2.2.2.2.2.2.1, .int o.2.2.2.2.2.2.2.1, .int o.2.2.2.2.2.2.2.2.1, .int o.2.2.2.2.2.2.2.2.2.1, .int o.2.2.2.2.2.2.2.2.2.2.1])), (q_p1_kinds, .inl (cI, 25, .inl o.2.2.2.2.2.2.2.2.2.2.2.1)), (q_p1_column, .inl (cI, 25, .inl o.2.2.2.2.2.2.2.2.2.2.2.2.1)), (q_p1_beside, .inl (cI, 100, .inl o.2.2.2.2.2.2.2.2.2.2.2.2.2.1)), (q_th_text, .inr (0, [.ref q_th_text_letters, .int th_text_length])), (q_th_text_letters, .inl (cI, 200, .inl th_text_letters)), (q_p1_rents, .inl (cI, 5, .inl o.2.2.2.2.2.2.2.2.2.2.2.2.2.2.1)), (q_p1_rentNights, .inl (cI, 5, .inl o.2.2.2.2.2.2.2.2.2.2.2.2.2.2.2.1)), (q_p1_damps, .inl (cI, 9, .inl o.2.2.2.2.2.2.2.2.2.2.2.2.2.2.2.2.1)), (q_p1_heirs, .inl (cI, 4, .inl o.2.2.2.2.2.2.2.2.2.2.2.2.2.2.2.2.2))] := by
  refine nx_int (cc := cX2_readInto) (maxL := 4) (by decide) rfl (Nat.le_of_ble_eq_true rfl) ?_
  intro p e s m args below meth c Q A S0 hK hN hA ret0 hP hD hS ls hl
  have S0 : CallFix p m c cX2_readInto 4 s args wsX2_readInto RX2 := S0
  have hx := S0.1
  have hb := S0.2.1
  have hown := S0.2.2.2.1
  have hts := S0.2.2.2.2
  have hf_9 := hts (.fieldLink RX2 9 "SnailsYear$Reader" "place" "I") (by decide +kernel)
  have hin_X2 : ∀ w ∈ wsX20, w ∈ wsX2_readInto := by decide +kernel
  have hf_21 := hts (.fieldLink RX2 21 "SnailsYear$Reader" "yardIsFixed" "Z") (by decide +kernel)
  have hf_25 := hts (.fieldLink RX2 25 "SnailsYear$Reader" "text" "LSnailsYear$Letters;") (by decide +kernel)
  have hf_34 := hN.f (args := args) (a := "SnailsYear$Reader") (i := 34) (b := "SnailsYear$Letters") (n := "length") (d := "I") (k := "SnailsYear") (by decide +kernel)
  have hin_X0 : ∀ w ∈ wsX00, w ∈ wsX2_readInto := by decide +kernel
  have hl : lv_has ls 4 [(0, .ref q_th), (1, .ref q_p1)] := hl
  have hret : ∀ (r0 : Int32) (y0 : Int32) (y1 : Int32) (y2 : Int32) (y3 : Int32) (y4 : Int32) (y5 : Int32) (y6 : Int32) (y7 : Int32) (y8 : Int32) (y9 : Int32) (y10 : Nat → Int32) (y11 : Nat → Int32) (y12 : Nat → Int32) (y13 : Nat → Int32) (y14 : Nat → Int32) (y15 : Nat → Int32) (y16 : Nat → Int32) (H : Heap) (locs : List Loc) (ls : Array Slot) (pc : Nat), some (r0, y0, y1, y2, y3, y4, y5, y6, y7, y8, y9, y10, y11, y12, y13, y14, y15, y16) = some o → decode cX2_readInto pc = .ok (.ireturn, 1) → va_P (dC, dI) vwCl [(q_th, .inr (2, [.ref q_th_text, .int y0, .int y1, .int y2, .int y3])), (q_p1, .inr (6, [.ref q_p1_kinds, .ref q_p1_column, .ref q_p1_beside, .ref q_p1_damps, .ref q_p1_rentNights, .ref q_p1_rents, .ref q_p1_heirs, .int y4, .int y5, .int y6, .int y7, .int y8, .int y9])), (q_p1_kinds, .inl (cI, 25, .inl y10)), (q_p1_column, .inl (cI, 25, .inl y11)), (q_p1_beside, .inl (cI, 100, .inl y12)), (q_th_text, .inr (0, [.ref q_th_text_letters, .int th_text_length])), (q_th_text_letters, .inl (cI, 200, .inl th_text_letters)), (q_p1_rents, .inl (cI, 5, .inl y13)), (q_p1_rentNights, .inl (cI, 5, .inl y14)), (q_p1_damps, .inl (cI, 9, .inl y15)), (q_p1_heirs, .inl (cI, 4, .inl y16))] H → va_D A [(q_th, .inr (2, [.ref q_th_text, .int y0, .int y1, .int y2, .int y3])), (q_p1, .inr (6, [.ref q_p1_kinds, .ref q_p1_column, .ref q_p1_beside, .ref q_p1_damps, .ref q_p1_rentNights, .ref q_p1_rents, .ref q_p1_heirs, .int y4, .int y5, .int y6, .int y7, .int y8, .int y9])), (q_p1_kinds, .inl (cI, 25, .inl y10)), (q_p1_column, .inl (cI, 25, .inl y11)), (q_p1_beside, .inl (cI, 100, .inl y12)), (q_th_text, .inr (0, [.ref q_th_text_letters, .int th_text_length])), (q_th_text_letters, .inl (cI, 200, .inl th_text_letters)), (q_p1_rents, .inl (cI, 5, .inl y13)), (q_p1_rentNights, .inl (cI, 5, .inl y14)), (q_p1_damps, .inl (cI, 9, .inl y15)), (q_p1_heirs, .inl (cI, 4, .inl y16))] → va_S A s.heap H locs → W p l e ({ frames := 4, cells := 0, slots := 0, locals := 87 } : Room) s m args below meth c H locs 0 0 Q (F0 m pc ls [.int r0]) := by
    intro r0 y0 y1 y2 y3 y4 y5 y6 y7 y8 y9 y10 y11 y12 y13 y14 y15 y16 H locs ls pc ho hd hP hD hS
    cases ho
    exact ret0 H locs ls pc hd hP hD hS
  rw [fX2_readInto_e] at hF
  refine lv_aload_n hx hb dX2_readInto_0 rfl (lv_at hl 0 rfl) ?_
  refine lv_iconst (v := (nI 0)) hx hb dX2_readInto_1 (by decide) ?_
  refine nx_put S0 hK hP hD hS 0 1 hin_X2 tyX2 tyX2_ok nmX2 hf_9 rfl rfl (by decide) rfl rfl rfl rfl (Nat.le_of_ble_eq_true rfl) dX2_readInto_2 (W1 := [(q_th, .inr (2, [.ref q_th_text, .int (nI 0), .int th_first, .int th_second, .int th_yardIsFixed])), (q_p1, .inr (6, [.ref q_p1_kinds, .ref q_p1_column, .ref q_p1_beside, .ref q_p1_damps, .ref q_p1_rentNights, .ref q_p1_rents, .ref q_p1_heirs, .int p1_columns, .int p1_cells, .int p1_start, .int p1_dampCount, .int p1_rentCount, .int p1_heirCount])), (q_p1_kinds, .inl (cI, 25, .inl p1_kinds)), (q_p1_column, .inl (cI, 25, .inl p1_column)), (q_p1_beside, .inl (cI, 100, .inl p1_beside)), (q_th_text, .inr (0, [.ref q_th_text_letters, .int th_text_length])), (q_th_text_letters, .inl (cI, 200, .inl th_text_letters)), (q_p1_rents, .inl (cI, 5, .inl p1_rents)), (q_p1_rentNights, .inl (cI, 5, .inl p1_rentNights)), (q_p1_damps, .inl (cI, 9, .inl p1_damps)), (q_p1_heirs, .inl (cI, 4, .inl p1_heirs))]) rfl (fun H locs hP hD hS => ?_)
  refine lv_aload_n hx hb dX2_readInto_5 rfl (lv_at hl 0 rfl) ?_
  refine lv_iconst (v := (nI 0)) hx hb dX2_readInto_6 (by decide) ?_
  refine nx_put S0 hK hP hD hS 0 4 hin_X2 tyX2 tyX2_ok nmX2 hf_21 rfl rfl (by decide) rfl rfl (by decide) (by decide) (Nat.le_of_ble_eq_true rfl) dX2_readInto_7 (W1 := [(q_th, .inr (2, [.ref q_th_text, .int (nI 0), .int th_first, .int th_second, .int (nI 0)])), (q_p1, .inr (6, [.ref q_p1_kinds, .ref q_p1_column, .ref q_p1_beside, .ref q_p1_damps, .ref q_p1_rentNights, .ref q_p1_rents, .ref q_p1_heirs, .int p1_columns, .int p1_cells, .int p1_start, .int p1_dampCount, .int p1_rentCount, .int p1_heirCount])), (q_p1_kinds, .inl (cI, 25, .inl p1_kinds)), (q_p1_column, .inl (cI, 25, .inl p1_column)), (q_p1_beside, .inl (cI, 100, .inl p1_beside)), (q_th_text, .inr (0, [.ref q_th_text_letters, .int th_text_length])), (q_th_text_letters, .inl (cI, 200, .inl th_text_letters)), (q_p1_rents, .inl (cI, 5, .inl p1_rents)), (q_p1_rentNights, .inl (cI, 5, .inl p1_rentNights)), (q_p1_damps, .inl (cI, 9, .inl p1_damps)), (q_p1_heirs, .inl (cI, 4, .inl p1_heirs))]) rfl (fun H locs hP hD hS => ?_)
  refine lv_aload_n hx hb dX2_readInto_10 rfl (lv_at hl 1 rfl) ?_
  obtain ⟨o11, hF1, hF⟩ := ng_b hF
  refine nx_callVv (As := []) (rest := []) (W1 := [(q_th, .inr (2, [.ref q_th_text, .int (nI 0), .int th_first, .int th_second, .int (nI 0)])), (q_p1, .inr (6, [.ref q_p1_kinds, .ref q_p1_column, .ref q_p1_beside, .ref q_p1_damps, .ref q_p1_rentNights, .ref q_p1_rents, .ref q_p1_heirs, .int o11.1, .int o11.2.1, .int o11.2.2.1, .int o11.2.2.2.1, .int o11.2.2.2.2.1, .int o11.2.2.2.2.2.1])), (q_p1_kinds, .inl (cI, 25, .inl o11.2.2.2.2.2.2.1)), (q_p1_column, .inl (cI, 25, .inl o11.2.2.2.2.2.2.2.1)), (q_p1_beside, .inl (cI, 100, .inl o11.2.2.2.2.2.2.2.2)), (q_th_text, .inr (0, [.ref q_th_text_letters, .int th_text_length])), (q_th_text_letters, .inl (cI, 200, .inl th_text_letters)), (q_p1_rents, .inl (cI, 5, .inl p1_rents)), (q_p1_rentNights, .inl (cI, 5, .inl p1_rentNights)), (q_p1_damps, .inl (cI, 9, .inl p1_damps)), (q_p1_heirs, .inl (cI, 4, .inl p1_heirs))]) (wr := [(q_th, .inr (2, [.ref q_th_text, .int (nI 0), .int th_first, .int th_second, .int (nI 0)])), (q_th_text, .inr (0, [.ref q_th_text_letters, .int th_text_length])), (q_th_text_letters, .inl (cI, 200, .inl th_text_letters)), (q_p1_rents, .inl (cI, 5, .inl p1_rents)), (q_p1_rentNights, .inl (cI, 5, .inl p1_rentNights)), (q_p1_damps, .inl (cI, 9, .inl p1_damps)), (q_p1_heirs, .inl (cI, 4, .inl p1_heirs))]) S0 hK hN hA hP hD hS (kX6_clear l dC dI cI q_p1 q_p1_kinds q_p1_column q_p1_beside _ (.ref q_p1_damps) (.ref q_p1_rentNights) (.ref q_p1_rents) (.ref q_p1_heirs) p1_columns p1_cells p1_start p1_dampCount p1_rentCount p1_heirCount p1_kinds p1_column p1_beside N o11 hF1) (cwV 0 hts gX2_readInto_X6_clear rfl rfl rfl ⟨rfl, hdX6_clear⟩ ⟨Nat.le_of_ble_eq_true rfl, Nat.le_of_ble_eq_true rfl⟩) [1, 2, 3, 4] [0, 5, 6, 7, 8, 9, 10] [0, 7, 8, 9, 10, 1, 2, 3, 4, 5, 6] rfl rfl rfl rfl 1 6 rfl rfl rfl rfl hl.1 rfl (Nat.le_of_ble_eq_true rfl) dX2_readInto_11 (fun H locs hP hD hS => ?_)
  refine lv_iconst (v := (nI 0)) hx hb dX2_readInto_14 (by decide) ?_
  have B_16 : ∀ (n_16 : Nat) (v2_16 : Int32) (th_place_16 : Int32) (th_first_16 : Int32) (th_second_16 : Int32) (th_yardIsFixed_16 : Int32) (p1_columns_16 : Int32) (p1_cells_16 : Int32) (p1_start_16 : Int32) (p1_dampCount_16 : Int32) (p1_rentCount_16 : Int32) (p1_heirCount_16 : Int32) (p1_kinds_16 : Nat → Int32) (p1_column_16 : Nat → Int32) (p1_beside_16 : Nat → Int32) (p1_rents_16 : Nat → Int32) (p1_rentNights_16 : Nat → Int32) (p1_damps_16 : Nat → Int32) (p1_heirs_16 : Nat → Int32), fX2_readInto_16 N th_text_length th_text_letters n_16 v2_16 th_place_16 th_first_16 th_second_16 th_yardIsFixed_16 p1_columns_16 p1_cells_16 p1_start_16 p1_dampCount_16 p1_rentCount_16 p1_heirCount_16 p1_kinds_16 p1_column_16 p1_beside_16 p1_rents_16 p1_rentNights_16 p1_damps_16 p1_heirs_16 = some o → ∀ (H : Heap) (locs : List Loc) (ls : Array Slot), va_P (dC, dI) vwCl [(q_th, .inr (2, [.ref q_th_text, .int th_place_16, .int th_first_16, .int th_second_16, .int th_yardIsFixed_16])), (q_p1, .inr (6, [.ref q_p1_kinds, .ref q_p1_column, .ref q_p1_beside, .ref q_p1_damps, .ref q_p1_rentNights, .ref q_p1_rents, .ref q_p1_heirs, .int p1_columns_16, .int p1_cells_16, .int p1_start_16, .int p1_dampCount_16, .int p1_rentCount_16, .int p1_heirCount_16])), (q_p1_kinds, .inl (cI, 25, .inl p1_kinds_16)), (q_p1_column, .inl (cI, 25, .inl p1_column_16)), (q_p1_beside, .inl (cI, 100, .inl p1_beside_16)), (q_th_text, .inr (0, [.ref q_th_text_letters, .int th_text_length])), (q_th_text_letters, .inl (cI, 200, .inl th_text_letters)), (q_p1_rents, .inl (cI, 5, .inl p1_rents_16)), (q_p1_rentNights, .inl (cI, 5, .inl p1_rentNights_16)), (q_p1_damps, .inl (cI, 9, .inl p1_damps_16)), (q_p1_heirs, .inl (cI, 4, .inl p1_heirs_16))] H → va_D A [(q_th, .inr (2, [.ref q_th_text, .int th_place_16, .int th_first_16, .int th_second_16, .int th_yardIsFixed_16])), (q_p1, .inr (6, [.ref q_p1_kinds, .ref q_p1_column, .ref q_p1_beside, .ref q_p1_damps, .ref q_p1_rentNights, .ref q_p1_rents, .ref q_p1_heirs, .int p1_columns_16, .int p1_cells_16, .int p1_start_16, .int p1_dampCount_16, .int p1_rentCount_16, .int p1_heirCount_16])), (q_p1_kinds, .inl (cI, 25, .inl p1_kinds_16)), (q_p1_column, .inl (cI, 25, .inl p1_column_16)), (q_p1_beside, .inl (cI, 100, .inl p1_beside_16)), (q_th_text, .inr (0, [.ref q_th_text_letters, .int th_text_length])), (q_th_text_letters, .inl (cI, 200, .inl th_text_letters)), (q_p1_rents, .inl (cI, 5, .inl p1_rents_16)), (q_p1_rentNights, .inl (cI, 5, .inl p1_rentNights_16)), (q_p1_damps, .inl (cI, 9, .inl p1_damps_16)), (q_p1_heirs, .inl (cI, 4, .inl p1_heirs_16))] → va_S A s.heap H locs → lv_has ls 4 [(0, .ref q_th), (1, .ref q_p1), (2, .int v2_16)] → W p l e ({ frames := 4, cells := 0, slots := 0, locals := 87 } : Room) s m args below meth c H locs 0 0 Q (F0 m 16 ls []) := by
    intro n_16
    induction n_16 with
    | zero =>
      intro v2_16 th_place_16 th_first_16 th_second_16 th_yardIsFixed_16 p1_columns_16 p1_cells_16 p1_start_16 p1_dampCount_16 p1_rentCount_16 p1_heirCount_16 p1_kinds_16 p1_column_16 p1_beside_16 p1_rents_16 p1_rentNights_16 p1_damps_16 p1_heirs_16 hF
      rw [fX2_readInto_16_z] at hF
      cases hF
    | succ n_16 ih_16 =>
      intro v2_16 th_place_16 th_first_16 th_second_16 th_yardIsFixed_16 p1_columns_16 p1_cells_16 p1_start_16 p1_dampCount_16 p1_rentCount_16 p1_heirCount_16 p1_kinds_16 p1_column_16 p1_beside_16 p1_rents_16 p1_rentNights_16 p1_damps_16 p1_heirs_16 hF H locs ls hP hD hS hl
      rw [fX2_readInto_16_s] at hF
      refine lv_iload_n hx hb dX2_readInto_16 rfl (lv_at hl 2 rfl) ?_
      refine lv_sipush (v := (nI 200)) hx hb dX2_readInto_17 (by decide) ?_
      have B_58 : fX2_readInto_58 N th_place_16 th_first_16 th_second_16 th_yardIsFixed_16 p1_columns_16 p1_cells_16 p1_start_16 p1_dampCount_16 p1_rentCount_16 p1_heirCount_16 p1_kinds_16 p1_column_16 p1_beside_16 p1_rents_16 p1_rentNights_16 p1_damps_16 p1_heirs_16 = some o → ∀ (H : Heap) (locs : List Loc) (ls : Array Slot), va_P (dC, dI) vwCl [(q_th, .inr (2, [.ref q_th_text, .int th_place_16, .int th_first_16, .int th_second_16, .int th_yardIsFixed_16])), (q_p1, .inr (6, [.ref q_p1_kinds, .ref q_p1_column, .ref q_p1_beside, .ref q_p1_damps, .ref q_p1_rentNights, .ref q_p1_rents, .ref q_p1_heirs, .int p1_columns_16, .int p1_cells_16, .int p1_start_16, .int p1_dampCount_16, .int p1_rentCount_16, .int p1_heirCount_16])), (q_p1_kinds, .inl (cI, 25, .inl p1_kinds_16)), (q_p1_column, .inl (cI, 25, .inl p1_column_16)), (q_p1_beside, .inl (cI, 100, .inl p1_beside_16)), (q_th_text, .inr (0, [.ref q_th_text_letters, .int th_text_length])), (q_th_text_letters, .inl (cI, 200, .inl th_text_letters)), (q_p1_rents, .inl (cI, 5, .inl p1_rents_16)), (q_p1_rentNights, .inl (cI, 5, .inl p1_rentNights_16)), (q_p1_damps, .inl (cI, 9, .inl p1_damps_16)), (q_p1_heirs, .inl (cI, 4, .inl p1_heirs_16))] H → va_D A [(q_th, .inr (2, [.ref q_th_text, .int th_place_16, .int th_first_16, .int th_second_16, .int th_yardIsFixed_16])), (q_p1, .inr (6, [.ref q_p1_kinds, .ref q_p1_column, .ref q_p1_beside, .ref q_p1_damps, .ref q_p1_rentNights, .ref q_p1_rents, .ref q_p1_heirs, .int p1_columns_16, .int p1_cells_16, .int p1_start_16, .int p1_dampCount_16, .int p1_rentCount_16, .int p1_heirCount_16])), (q_p1_kinds, .inl (cI, 25, .inl p1_kinds_16)), (q_p1_column, .inl (cI, 25, .inl p1_column_16)), (q_p1_beside, .inl (cI, 100, .inl p1_beside_16)), (q_th_text, .inr (0, [.ref q_th_text_letters, .int th_text_length])), (q_th_text_letters, .inl (cI, 200, .inl th_text_letters)), (q_p1_rents, .inl (cI, 5, .inl p1_rents_16)), (q_p1_rentNights, .inl (cI, 5, .inl p1_rentNights_16)), (q_p1_damps, .inl (cI, 9, .inl p1_damps_16)), (q_p1_heirs, .inl (cI, 4, .inl p1_heirs_16))] → va_S A s.heap H locs → lv_has ls 4 [(1, .ref q_p1)] → W p l e ({ frames := 4, cells := 0, slots := 0, locals := 87 } : Room) s m args below meth c H locs 0 0 Q (F0 m 58 ls []) := by
        intro  hF H locs ls hP hD hS hl
        rw [fX2_readInto_58_e] at hF
        refine lv_aload_n hx hb dX2_readInto_58 rfl (lv_at hl 0 rfl) ?_
        obtain ⟨o59, hF1, hF⟩ := ng_b hF
        refine nx_callVv (As := []) (rest := []) (W1 := [(q_th, .inr (2, [.ref q_th_text, .int th_place_16, .int th_first_16, .int th_second_16, .int th_yardIsFixed_16])), (q_p1, .inr (6, [.ref q_p1_kinds, .ref q_p1_column, .ref q_p1_beside, .ref q_p1_damps, .ref q_p1_rentNights, .ref q_p1_rents, .ref q_p1_heirs, .int p1_columns_16, .int p1_cells_16, .int p1_start_16, .int p1_dampCount_16, .int p1_rentCount_16, .int p1_heirCount_16])), (q_p1_kinds, .inl (cI, 25, .inl o59)), (q_p1_column, .inl (cI, 25, .inl p1_column_16)), (q_p1_beside, .inl (cI, 100, .inl p1_beside_16)), (q_th_text, .inr (0, [.ref q_th_text_letters, .int th_text_length])), (q_th_text_letters, .inl (cI, 200, .inl th_text_letters)), (q_p1_rents, .inl (cI, 5, .inl p1_rents_16)), (q_p1_rentNights, .inl (cI, 5, .inl p1_rentNights_16)), (q_p1_damps, .inl (cI, 9, .inl p1_damps_16)), (q_p1_heirs, .inl (cI, 4, .inl p1_heirs_16))]) (wr := [(q_th, .inr (2, [.ref q_th_text, .int th_place_16, .int th_first_16, .int th_second_16, .int th_yardIsFixed_16])), (q_p1_column, .inl (cI, 25, .inl p1_column_16)), (q_p1_beside, .inl (cI, 100, .inl p1_beside_16)), (q_th_text, .inr (0, [.ref q_th_text_letters, .int th_text_length])), (q_th_text_letters, .inl (cI, 200, .inl th_text_letters)), (q_p1_rents, .inl (cI, 5, .inl p1_rents_16)), (q_p1_rentNights, .inl (cI, 5, .inl p1_rentNights_16)), (q_p1_damps, .inl (cI, 9, .inl p1_damps_16)), (q_p1_heirs, .inl (cI, 4, .inl p1_heirs_16))]) S0 hK hN hA hP hD hS (kX6_letOff l dC dI cI q_p1 q_p1_kinds _ (.ref q_p1_column) (.ref q_p1_beside) (.ref q_p1_damps) (.ref q_p1_rentNights) (.ref q_p1_rents) (.ref q_p1_heirs) p1_columns_16 p1_cells_16 p1_start_16 p1_dampCount_16 p1_rentCount_16 p1_heirCount_16 p1_kinds_16 N o59 hF1) (cwV 0 hts gX2_readInto_X6_letOff rfl rfl rfl ⟨rfl, hdX6_letOff⟩ ⟨Nat.le_of_ble_eq_true rfl, Nat.le_of_ble_eq_true rfl⟩) [1, 2] [0, 3, 4, 5, 6, 7, 8, 9, 10] [0, 9, 10, 1, 2, 3, 4, 5, 6, 7, 8] rfl rfl rfl rfl 1 6 rfl rfl rfl rfl hl.1 rfl (Nat.le_of_ble_eq_true rfl) dX2_readInto_59 (fun H locs hP hD hS => ?_)
        refine lv_bipush (v := (-4 : Int32)) hx hb dX2_readInto_62 (by decide) ?_
        exact hret (-4 : Int32) th_place_16 th_first_16 th_second_16 th_yardIsFixed_16 p1_columns_16 p1_cells_16 p1_start_16 p1_dampCount_16 p1_rentCount_16 p1_heirCount_16 o59 p1_column_16 p1_beside_16 p1_rents_16 p1_rentNights_16 p1_damps_16 p1_heirs_16 _ _ _ _ hF dX2_readInto_64 hP hD hS
      refine lv_icmp_ge (tgt := 58) hx hb dX2_readInto_20 (by decide) (fun hc => ?_) (fun hc => ?_)
      · have hF := ng_t hc hF
        exact B_58  hF _ _ _ hP hD hS (lv_sub hl [1] rfl)
      · have hF := ng_f hc hF
        refine lv_aload_n hx hb dX2_readInto_23 rfl (lv_at hl 0 rfl) ?_
        refine nx_get S0 hK hP 0 1 hin_X2 hf_9 rfl rfl (by decide) rfl rfl dX2_readInto_24 ?_
        refine lv_aload_n hx hb dX2_readInto_27 rfl (lv_at hl 0 rfl) ?_
        refine nx_get S0 hK hP 0 0 hin_X2 hf_25 rfl rfl (by decide) rfl rfl dX2_readInto_28 ?_
        refine nx_getN S0 hK hP 5 1 hin_X0 hf_34 rfl rfl (by decide) rfl rfl dX2_readInto_31 ?_
        refine lv_icmp_ge (tgt := 58) hx hb dX2_readInto_34 (by decide) (fun hc => ?_) (fun hc => ?_)
        · have hF := ng_t hc hF
          exact B_58  hF _ _ _ hP hD hS (lv_sub hl [1] rfl)
        · have hF := ng_f hc hF
          refine lv_aload_n hx hb dX2_readInto_37 rfl (lv_at hl 0 rfl) ?_
          refine nx_get S0 hK hP 0 1 hin_X2 hf_9 rfl rfl (by decide) rfl rfl dX2_readInto_38 ?_
          refine lv_istore_n (lv' := [(3, .int th_place_16), (0, .ref q_th), (1, .ref q_p1), (2, .int v2_16)]) hx hb dX2_readInto_41 rfl hl (by decide) rfl (fun ls hl => ?_)
          refine lv_aload_n hx hb dX2_readInto_42 rfl (lv_at hl 1 rfl) ?_
          refine lv_aload_n hx hb dX2_readInto_43 rfl (lv_at hl 2 rfl) ?_
          obtain ⟨o44, hF1, hF⟩ := ng_b hF
          refine nx_callVi (As := [.ref q_p1]) (rest := []) (W1 := [(q_th, .inr (2, [.ref q_th_text, .int o44.2.1, .int o44.2.2.1, .int o44.2.2.2.1, .int o44.2.2.2.2.1])), (q_p1, .inr (6, [.ref q_p1_kinds, .ref q_p1_column, .ref q_p1_beside, .ref q_p1_damps, .ref q_p1_rentNights, .ref q_p1_rents, .ref q_p1_heirs, .int o44.2.2.2.2.2.1, .int o44.2.2.2.2.2.2.1, .int o44.2.2.2.2.2.2.2.1, .int o44.2.2.2.2.2.2.2.2.1, .int o44.2.2.2.2.2.2.2.2.2.1, .int o44.2.2.2.2.2.2.2.2.2.2.1])), (q_p1_kinds, .inl (cI, 25, .inl o44.2.2.2.2.2.2.2.2.2.2.2.2.2.1)), (q_p1_column, .inl (cI, 25, .inl o44.2.2.2.2.2.2.2.2.2.2.2.2.2.2.1)), (q_p1_beside, .inl (cI, 100, .inl o44.2.2.2.2.2.2.2.2.2.2.2.2.2.2.2.1)), (q_th_text, .inr (0, [.ref q_th_text_letters, .int th_text_length])), (q_th_text_letters, .inl (cI, 200, .inl th_text_letters)), (q_p1_rents, .inl (cI, 5, .inl o44.2.2.2.2.2.2.2.2.2.2.2.1)), (q_p1_rentNights, .inl (cI, 5, .inl o44.2.2.2.2.2.2.2.2.2.2.2.2.1)), (q_p1_damps, .inl (cI, 9, .inl o44.2.2.2.2.2.2.2.2.2.2.2.2.2.2.2.2.1)), (q_p1_heirs, .inl (cI, 4, .inl o44.2.2.2.2.2.2.2.2.2.2.2.2.2.2.2.2.2))]) (wr := []) S0 hK hN hA hP hD hS (kX2_readItem l dC dI cI q_th q_p1 q_th_text q_th_text_letters q_p1_rents q_p1_rentNights q_p1_kinds q_p1_column q_p1_beside q_p1_damps q_p1_heirs _ th_place_16 th_first_16 th_second_16 th_yardIsFixed_16 p1_columns_16 p1_cells_16 p1_start_16 p1_dampCount_16 p1_rentCount_16 p1_heirCount_16 th_text_length th_text_letters p1_rents_16 p1_rentNights_16 p1_kinds_16 p1_column_16 p1_beside_16 p1_damps_16 p1_heirs_16 N o44 hF1) (cwV 1 hts gX2_readInto_X2_readItem rfl rfl rfl ⟨rfl, hdX2_readItem⟩ ⟨Nat.le_of_ble_eq_true rfl, Nat.le_of_ble_eq_true rfl⟩) [0, 1, 5, 6, 7, 8, 2, 3, 4, 9, 10] [] [0, 1, 6, 7, 8, 2, 3, 4, 5, 9, 10] rfl rfl rfl rfl 0 2 rfl rfl rfl rfl hl.1 rfl (Nat.le_of_ble_eq_true rfl) dX2_readInto_44 (fun H locs hP hD hS => ?_)
          refine lv_if_ne (tgt := 52) hx hb dX2_readInto_47 (by decide) (fun hc => ?_) (fun hc => ?_)
          · have hF := ng_f hc hF
            refine lv_iinc (v := v2_16 + (nI 1)) (lv' := [(2, .int (v2_16 + (nI 1))), (3, .int th_place_16), (0, .ref q_th), (1, .ref q_p1)]) hx hb dX2_readInto_52 hl (k := 3) rfl rfl (by decide) rfl (fun ls hl => ?_)
            refine lv_goto (tgt := 16) hx hb dX2_readInto_55 (by decide) ?_
            exact ih_16 (v2_16 + (nI 1)) o44.2.1 o44.2.2.1 o44.2.2.2.1 o44.2.2.2.2.1 o44.2.2.2.2.2.1 o44.2.2.2.2.2.2.1 o44.2.2.2.2.2.2.2.1 o44.2.2.2.2.2.2.2.2.1 o44.2.2.2.2.2.2.2.2.2.1 o44.2.2.2.2.2.2.2.2.2.2.1 o44.2.2.2.2.2.2.2.2.2.2.2.2.2.1 o44.2.2.2.2.2.2.2.2.2.2.2.2.2.2.1 o44.2.2.2.2.2.2.2.2.2.2.2.2.2.2.2.1 o44.2.2.2.2.2.2.2.2.2.2.2.1 o44.2.2.2.2.2.2.2.2.2.2.2.2.1 o44.2.2.2.2.2.2.2.2.2.2.2.2.2.2.2.2.1 o44.2.2.2.2.2.2.2.2.2.2.2.2.2.2.2.2.2 hF _ _ _ hP hD hS (lv_sub hl [2, 3, 0] rfl)
          · have hF := ng_t hc hF
            refine lv_iload_n hx hb dX2_readInto_50 rfl (lv_at hl 0 rfl) ?_
            exact hret th_place_16 o44.2.1 o44.2.2.1 o44.2.2.2.1 o44.2.2.2.2.1 o44.2.2.2.2.2.1 o44.2.2.2.2.2.2.1 o44.2.2.2.2.2.2.2.1 o44.2.2.2.2.2.2.2.2.1 o44.2.2.2.2.2.2.2.2.2.1 o44.2.2.2.2.2.2.2.2.2.2.1 o44.2.2.2.2.2.2.2.2.2.2.2.2.2.1 o44.2.2.2.2.2.2.2.2.2.2.2.2.2.2.1 o44.2.2.2.2.2.2.2.2.2.2.2.2.2.2.2.1 o44.2.2.2.2.2.2.2.2.2.2.2.1 o44.2.2.2.2.2.2.2.2.2.2.2.2.1 o44.2.2.2.2.2.2.2.2.2.2.2.2.2.2.2.2.1 o44.2.2.2.2.2.2.2.2.2.2.2.2.2.2.2.2.2 _ _ _ _ hF dX2_readInto_51 hP hD hS
  refine lv_istore_n (lv' := [(2, .int (nI 0)), (0, .ref q_th), (1, .ref q_p1)]) hx hb dX2_readInto_15 rfl hl (by decide) rfl (fun ls hl => ?_)
  exact B_16 N (nI 0) (nI 0) th_first th_second (nI 0) o11.1 o11.2.1 o11.2.2.1 o11.2.2.2.1 o11.2.2.2.2.1 o11.2.2.2.2.2.1 o11.2.2.2.2.2.2.1 o11.2.2.2.2.2.2.2.1 o11.2.2.2.2.2.2.2.2 p1_rents p1_rentNights p1_damps p1_heirs hF _ _ _ hP hD hS (lv_sub hl [1, 2, 0] rfl)
