/-! ===== the String constant: what its cells hold, and the JDK's methods over it ===== -/
def st_N : Nat → Prop := fun _ => False
def st_l : List Int32 := [121, 53, 44, 52, 59, 107, 53, 44, 49, 59, 107, 54, 44, 50, 59, 107, 57, 44, 52, 59, 107, 49, 49, 44, 51, 59, 107, 49, 50, 44, 49, 59, 107, 49, 52, 44, 49, 59, 115, 49, 59, 100, 52, 59, 100, 48, 59, 100, 50, 59, 114, 51, 44, 49, 48, 59, 114, 53, 44, 52, 59, 114, 57, 44, 55, 59, 104, 48, 59, 104, 51, 59]
def st_b (k : Nat) : Int32 := st_l.getD k 0
def st_K (qs qv : Nat) (A : Nat → Prop) (U : State) (H : Heap) : Prop :=
  va_O "java/lang/String" qs A U H ∧ va_OF "java/lang/String" "coder" "B" (.int 0) qs A U H ∧ va_OF "java/lang/String" "value" "[B" (.ref qv) qs A U H ∧ va_T .byte qv 72 (fun j => .int (st_b j)) A U H ∧ va_Z "java/lang/String" "COMPACT_STRINGS" "Z" (.int 1) A U H ∧ va_Zq "jdk/internal/util/Preconditions" "SIOOBE_FORMATTER" "Ljava/util/function/BiFunction;" A U H
theorem st_K.moved {qs qv : Nat} {A : Nat → Prop} {u U : State} {H : Heap} (hvm : u.vm.Alike U.vm) (h : st_K qs qv A u H) : st_K qs qv A U H := ⟨va_O.moved hvm h.1, va_OF.moved hvm h.2.1, va_OF.moved hvm h.2.2.1, va_T.moved hvm h.2.2.2.1, va_Z.moved hvm h.2.2.2.2.1, va_Zq.moved hvm h.2.2.2.2.2⟩
theorem st_K.kept {qs qv : Nat} {A : Nat → Prop} {U : State} {H H1 : Heap} (h : st_K qs qv A U H) (hq : ∀ a : Nat, a < H.size → ¬ A a → H1[a]? = H[a]?) : st_K qs qv A U H1 := ⟨h.1.kept hq, h.2.1.kept hq, h.2.2.1.kept hq, h.2.2.2.1.kept hq, h.2.2.2.2.1.kept hq, h.2.2.2.2.2.kept hq⟩
theorem st_K.narrow {qs qv : Nat} {A B : Nat → Prop} {U : State} {H : Heap} (h : st_K qs qv A U H) (hAB : ∀ q, B q → A q) : st_K qs qv B U H := ⟨h.1.narrow hAB, h.2.1.narrow hAB, h.2.2.1.narrow hAB, h.2.2.2.1.narrow hAB, h.2.2.2.2.1.narrow hAB, h.2.2.2.2.2.narrow hAB⟩
theorem st_K.use {qs qv : Nat} {A : Nat → Prop} {s : State} {H : Heap} {locs : List Loc} (h : st_K qs qv A s s.heap) (hS : va_S A s.heap H locs) {U : State} (hU : U.heap = H) (hW : s.WarmedH U.vm) : st_K qs qv st_N U U.heap := by
  rw [hU]
  exact ((h.kept hS.2.1).moved hW.alike).narrow (fun _ h => h.elim)
/-- a method that only reads, and answers r -/
def st_I (l : Launch) (y : MethodName) (ws : List Cond) (rm : Room) (av : List Value) (qs qv : Nat) (r : Int32) : Prop := Met l y ws rm (va_Pc av (fun U => st_K qs qv st_N U U.heap)) (va_Qi (fun r' (_ : Unit) => r' = r) (fun _ _ => True) st_N) 0 0 st_N
def st_V (l : Launch) (y : MethodName) (ws : List Cond) (rm : Room) (av : List Value) (qs qv : Nat) : Prop := Met l y ws rm (va_Pc av (fun U => st_K qs qv st_N U U.heap)) (va_Qv (fun (_ : Unit) => True) (fun _ _ => True) st_N) 0 0 st_N
theorem st_blind {av : List Value} {qs qv : Nat} : FrameBlind (va_Pc av (fun U => st_K qs qv st_N U U.heap)) := fun a U g mk q => ⟨q.1, st_K.moved (u := U) (U := U.calling g mk a) (Vm.Alike.refl U.vm) q.2⟩
set_option maxHeartbeats 4000000 in
theorem st_int {l : Launch} {y : MethodName} {ws ws' : List Cond} {rm : Room} {cc : ByteArray} {maxL : Nat} {av : List Value} {qs qv : Nat} {ro : Int32} {ty : FieldType} (hn : narrow ty (.int ro) = .int ro)
  (hy : plainName y.cls = true) (hw : ws = Cond.code y cc maxL (some ty) :: ws') (hav : (lg_sl av).length ≤ maxL)
  (body : ∀ (p : Program) (e : Env) (s : State) (m : MethodId) (args : Array Value) (below : List Frame) (meth : Method) (c : Code) (Q : State → Prop), CallFix p m c cc maxL s args ws y.cls → st_K qs qv st_N s s.heap →
    (∀ (H : Heap) (locs : List Loc) (ls : Array Slot) (pc : Nat), decode cc pc = .ok (.ireturn, 1) → va_S st_N s.heap H locs → W p l e rm s m args below meth c H locs 0 0 Q (F0 m pc ls [.int ro])) →
    va_S st_N s.heap s.heap [] → ∀ ls : Array Slot, lv_has ls maxL (lv_args 0 av) → W p l e rm s m args below meth c s.heap [] 0 0 Q (F0 m 0 ls [])) : st_I l y ws rm av qs qv ro := by
  refine Met.ofW (cc := cc) (maxL := maxL) (ret := (some ty)) hy hw ?_
  intro p e s m args below meth c s₁ B hml hv
  obtain ⟨rfl, hZ⟩ := hv
  rw [lg_entry_eq]
  refine body p e s m _ below meth c _ ⟨B.exec, B.bytes, hml, findClass_of_methodNamed B.named, atoms_spec (ws := ws) B.pre⟩ hZ ?_ va_S.rf _ (lv_entry av hav)
  intro H locs ls pc hd hS
  have hlocks := B.notSynchronized
  exact W.zret (v := ro) B.exec B.bytes B.returns hn (fun t ht hW => ⟨⟨ro, (), rfl, rfl, trivial⟩, hS.F ht⟩) hS.2.2 hd
set_option maxHeartbeats 4000000 in
theorem st_void {l : Launch} {y : MethodName} {ws ws' : List Cond} {rm : Room} {cc : ByteArray} {maxL : Nat} {av : List Value} {qs qv : Nat} 
  (hy : plainName y.cls = true) (hw : ws = Cond.code y cc maxL none :: ws') (hav : (lg_sl av).length ≤ maxL)
  (body : ∀ (p : Program) (e : Env) (s : State) (m : MethodId) (args : Array Value) (below : List Frame) (meth : Method) (c : Code) (Q : State → Prop), CallFix p m c cc maxL s args ws y.cls → st_K qs qv st_N s s.heap →
    (∀ (H : Heap) (locs : List Loc) (ls : Array Slot) (pc : Nat), decode cc pc = .ok (.return_, 1) → va_S st_N s.heap H locs → W p l e rm s m args below meth c H locs 0 0 Q (F0 m pc ls [])) →
    va_S st_N s.heap s.heap [] → ∀ ls : Array Slot, lv_has ls maxL (lv_args 0 av) → W p l e rm s m args below meth c s.heap [] 0 0 Q (F0 m 0 ls [])) : st_V l y ws rm av qs qv := by
  refine Met.ofW (cc := cc) (maxL := maxL) (ret := none) hy hw ?_
  intro p e s m args below meth c s₁ B hml hv
  obtain ⟨rfl, hZ⟩ := hv
  rw [lg_entry_eq]
  refine body p e s m _ below meth c _ ⟨B.exec, B.bytes, hml, findClass_of_methodNamed B.named, atoms_spec (ws := ws) B.pre⟩ hZ ?_ va_S.rf _ (lv_entry av hav)
  intro H locs ls pc hd hS
  have hlocks := B.notSynchronized
  exact W.vret B.exec B.bytes B.returns (fun t ht hW => ⟨⟨(), rfl, trivial, trivial⟩, hS.F ht⟩) hS.2.2 hd
set_option maxHeartbeats 4000000 in
theorem st_callVi {p : Program} {l : Launch} {e : Env} {R : Room} {s : State} {m : MethodId} {args : Array Value} {below : List Frame} {meth : Method} {c : Code} {H : Heap} {locs : List Loc} {cells slots : Nat} {Q : State → Prop} {Ts ws : List Cond} {cc bytes : ByteArray} {nL maxL index n : Nat} {own : String} {y : MethodName} {ret : Option FieldType} {rm : Room} {qs qv : Nat} {A : Nat → Prop} {As rest st0 : List Value} {pc : Nat} {ls : Array Slot} {C : String} {b : Nat} {ro : Int32} (S : CallFix p m c cc nL s args Ts own) (hZ : st_K qs qv A s s.heap) (hS : va_S A s.heap H locs) (hM : st_I l y ws rm (.ref b :: As) qs qv ro) (cw : CallW R s args own C index y bytes maxL ret ws rm 0 0 n) (hr : ∃ cell : Cell, H[b]? = some cell ∧ cell.vm.isStatics = false ∧ s.vm.findClass C = some cell.cls) (hn : As.length = n) (hsize : ls.size = nL) (hstack : st0 = As.reverse ++ .ref b :: rest) (hroom : (rest.map fun v => v.category).sum ≤ 8) (hdg : decode cc pc = .ok (.invokevirtual index, 3)) (hf : cells ≤ R.cells ∧ slots ≤ R.slots)
  (kk : ∀ (H1 : Heap) (locs1 : List Loc), (∀ q : Nat, q < H.size → H1[q]? = H[q]?) → va_S A s.heap H1 locs1 → W p l e R s m args below meth c H1 locs1 cells slots Q (F0 m (pc + 3) ls (.int ro :: rest))) : W p l e R s m args below meth c H locs cells slots Q (F0 m pc ls st0) := by
  refine va_calli (va_runV (As := As) (rest := rest) S hM cw ⟨st_blind, hr, fun U hU hW => ⟨rfl, hZ.use hS hU hW⟩⟩ rfl hn hsize hstack (lv_room hroom) hdg hf) hS (fun q _ h => h.elim) (fun q h => h.elim) (fun r u t H1 locs1 ht hvm hw hB hz1 hk1 hS1 => ?_)
  subst hw
  exact kk H1 locs1 (fun q hq => hk1 q hq (fun h => h)) hS1
set_option maxHeartbeats 4000000 in
theorem st_callSi {p : Program} {l : Launch} {e : Env} {R : Room} {s : State} {m : MethodId} {args : Array Value} {below : List Frame} {meth : Method} {c : Code} {H : Heap} {locs : List Loc} {cells slots : Nat} {Q : State → Prop} {Ts ws : List Cond} {cc bytes : ByteArray} {nL maxL index n : Nat} {own : String} {y : MethodName} {ret : Option FieldType} {rm : Room} {qs qv : Nat} {A : Nat → Prop} {As rest st0 : List Value} {pc : Nat} {ls : Array Slot} {ro : Int32} (S : CallFix p m c cc nL s args Ts own) (hZ : st_K qs qv A s s.heap) (hS : va_S A s.heap H locs) (hM : st_I l y ws rm As qs qv ro) (cw : CallB R s args own index y bytes maxL ret ws rm 0 0 n ∧ (Cond.static y).before args s = true) (hn : As.length = n) (hsize : ls.size = nL) (hstack : st0 = As.reverse ++ rest) (hroom : (rest.map fun v => v.category).sum ≤ 8) (hdg : decode cc pc = .ok (.invokestatic index, 3)) (hf : cells ≤ R.cells ∧ slots ≤ R.slots)
  (kk : ∀ (H1 : Heap) (locs1 : List Loc), (∀ q : Nat, q < H.size → H1[q]? = H[q]?) → va_S A s.heap H1 locs1 → W p l e R s m args below meth c H1 locs1 cells slots Q (F0 m (pc + 3) ls (.int ro :: rest))) : W p l e R s m args below meth c H locs cells slots Q (F0 m pc ls st0) := by
  refine va_calli (va_runS (As := As) (rest := rest) S hM cw ⟨st_blind, fun U hU hW => ⟨rfl, hZ.use hS hU hW⟩⟩ rfl hn hsize hstack (lv_room hroom) hdg hf) hS (fun q _ h => h.elim) (fun q h => h.elim) (fun r u t H1 locs1 ht hvm hw hB hz1 hk1 hS1 => ?_)
  subst hw
  exact kk H1 locs1 (fun q hq => hk1 q hq (fun h => h)) hS1
set_option maxHeartbeats 4000000 in
theorem st_callSv {p : Program} {l : Launch} {e : Env} {R : Room} {s : State} {m : MethodId} {args : Array Value} {below : List Frame} {meth : Method} {c : Code} {H : Heap} {locs : List Loc} {cells slots : Nat} {Q : State → Prop} {Ts ws : List Cond} {cc bytes : ByteArray} {nL maxL index n : Nat} {own : String} {y : MethodName} {ret : Option FieldType} {rm : Room} {qs qv : Nat} {A : Nat → Prop} {As rest st0 : List Value} {pc : Nat} {ls : Array Slot} (S : CallFix p m c cc nL s args Ts own) (hZ : st_K qs qv A s s.heap) (hS : va_S A s.heap H locs) (hM : st_V l y ws rm As qs qv) (cw : CallB R s args own index y bytes maxL ret ws rm 0 0 n ∧ (Cond.static y).before args s = true) (hn : As.length = n) (hsize : ls.size = nL) (hstack : st0 = As.reverse ++ rest) (hroom : (rest.map fun v => v.category).sum ≤ 8) (hdg : decode cc pc = .ok (.invokestatic index, 3)) (hf : cells ≤ R.cells ∧ slots ≤ R.slots)
  (kk : ∀ (H1 : Heap) (locs1 : List Loc), (∀ q : Nat, q < H.size → H1[q]? = H[q]?) → va_S A s.heap H1 locs1 → W p l e R s m args below meth c H1 locs1 cells slots Q (F0 m (pc + 3) ls (rest))) : W p l e R s m args below meth c H locs cells slots Q (F0 m pc ls st0) := by
  refine va_callv (va_runS (As := As) (rest := rest) S hM cw ⟨st_blind, fun U hU hW => ⟨rfl, hZ.use hS hU hW⟩⟩ rfl hn hsize hstack (lv_room hroom) hdg hf) hS (fun q _ h => h.elim) (fun q h => h.elim) (fun u t H1 locs1 ht hvm hw hB hz1 hk1 hS1 => ?_)
  skip
  exact kk H1 locs1 (fun q hq => hk1 q hq (fun h => h)) hS1
theorem hdJ0_coder_7d493 : yJ0_coder_7d493.cls ≠ "java/lang/invoke/MethodHandle" ∧ yJ0_coder_7d493.cls ≠ "java/lang/invoke/VarHandle" ∧ (parseMethodDescriptor yJ0_coder_7d493.desc).map (fun d => d.parameters.length) = some 0 := by decide +kernel
theorem hdJ0_isLatin1_aae02 : yJ0_isLatin1_aae02.cls ≠ "java/lang/invoke/MethodHandle" ∧ yJ0_isLatin1_aae02.cls ≠ "java/lang/invoke/VarHandle" ∧ (parseMethodDescriptor yJ0_isLatin1_aae02.desc).map (fun d => d.parameters.length) = some 0 := by decide +kernel
theorem hdJ0_length_8abf5 : yJ0_length_8abf5.cls ≠ "java/lang/invoke/MethodHandle" ∧ yJ0_length_8abf5.cls ≠ "java/lang/invoke/VarHandle" ∧ (parseMethodDescriptor yJ0_length_8abf5.desc).map (fun d => d.parameters.length) = some 0 := by decide +kernel
theorem hdJ0_charAt_5068e : yJ0_charAt_5068e.cls ≠ "java/lang/invoke/MethodHandle" ∧ yJ0_charAt_5068e.cls ≠ "java/lang/invoke/VarHandle" ∧ (parseMethodDescriptor yJ0_charAt_5068e.desc).map (fun d => d.parameters.length) = some 1 := by decide +kernel
theorem hdJ0_checkIndex_df160 : yJ0_checkIndex_df160.cls ≠ "java/lang/invoke/MethodHandle" ∧ yJ0_checkIndex_df160.cls ≠ "java/lang/invoke/VarHandle" ∧ (parseMethodDescriptor yJ0_checkIndex_df160.desc).map (fun d => d.parameters.length) = some 2 := by decide +kernel
theorem hdJ1_charAt_3b067 : yJ1_charAt_3b067.cls ≠ "java/lang/invoke/MethodHandle" ∧ yJ1_charAt_3b067.cls ≠ "java/lang/invoke/VarHandle" ∧ (parseMethodDescriptor yJ1_charAt_3b067.desc).map (fun d => d.parameters.length) = some 2 := by decide +kernel
theorem hdJ3_checkIndex_8e157 : yJ3_checkIndex_8e157.cls ≠ "java/lang/invoke/MethodHandle" ∧ yJ3_checkIndex_8e157.cls ≠ "java/lang/invoke/VarHandle" ∧ (parseMethodDescriptor yJ3_checkIndex_8e157.desc).map (fun d => d.parameters.length) = some 3 := by decide +kernel
set_option maxHeartbeats 4000000 in
set_option maxRecDepth 100000 in
theorem kJ0_coder_7d493 (l : Launch) (qs qv : Nat) : st_I l yJ0_coder_7d493 wsJ0_coder_7d493 ({ frames := 0, cells := 0, slots := 0, locals := 0 } : Room) [.ref qs] qs qv 0 := by
  refine st_int (cc := cJ0_coder_7d493) (maxL := 1) (ty := .byte) (by decide +kernel) (by decide) rfl (Nat.le_of_ble_eq_true rfl) ?_
  intro p e s m args below meth c Q S0 hZ ret0 hS ls hl
  have S0 : CallFix p m c cJ0_coder_7d493 1 s args wsJ0_coder_7d493 RJ0 := S0
  have hx := S0.1
  have hb := S0.2.1
  have hown := S0.2.2.2.1
  have hts := S0.2.2.2.2
  have hl : lv_has ls 1 [(0, .ref qs)] := hl
  refine va_gets hx hb hZ.2.2.2.2.1 hS hown (hts (.fieldLink RJ0 38 "java/lang/String" "COMPACT_STRINGS" "Z") (by decide +kernel)) (fun _ h => h) dJ0_coder_7d493_0 ?_
  refine lv_if_eq (tgt := 13) hx hb dJ0_coder_7d493_3 (by decide) (fun hc => absurd hc (by decide)) (fun hc => ?_)
  refine lv_aload_n hx hb dJ0_coder_7d493_6 rfl (lv_at hl 0 rfl) ?_
  refine vk_getf hx hb hZ.2.1 hS hown (hts (.fieldLink RJ0 15 "java/lang/String" "coder" "B") (by decide +kernel)) (fun _ h => h) dJ0_coder_7d493_7 ?_
  refine lv_goto (tgt := 14) hx hb dJ0_coder_7d493_10 (by decide) ?_
  exact ret0 _ _ _ _ dJ0_coder_7d493_14 hS
set_option maxHeartbeats 4000000 in
set_option maxRecDepth 100000 in
theorem kJ0_isLatin1_aae02 (l : Launch) (qs qv : Nat) : st_I l yJ0_isLatin1_aae02 wsJ0_isLatin1_aae02 ({ frames := 0, cells := 0, slots := 0, locals := 0 } : Room) [.ref qs] qs qv 1 := by
  refine st_int (cc := cJ0_isLatin1_aae02) (maxL := 1) (ty := .boolean) (by decide +kernel) (by decide) rfl (Nat.le_of_ble_eq_true rfl) ?_
  intro p e s m args below meth c Q S0 hZ ret0 hS ls hl
  have S0 : CallFix p m c cJ0_isLatin1_aae02 1 s args wsJ0_isLatin1_aae02 RJ0 := S0
  have hx := S0.1
  have hb := S0.2.1
  have hown := S0.2.2.2.1
  have hts := S0.2.2.2.2
  have hl : lv_has ls 1 [(0, .ref qs)] := hl
  refine va_gets hx hb hZ.2.2.2.2.1 hS hown (hts (.fieldLink RJ0 38 "java/lang/String" "COMPACT_STRINGS" "Z") (by decide +kernel)) (fun _ h => h) dJ0_isLatin1_aae02_0 ?_
  refine lv_if_eq (tgt := 17) hx hb dJ0_isLatin1_aae02_3 (by decide) (fun hc => absurd hc (by decide)) (fun hc => ?_)
  refine lv_aload_n hx hb dJ0_isLatin1_aae02_6 rfl (lv_at hl 0 rfl) ?_
  refine vk_getf hx hb hZ.2.1 hS hown (hts (.fieldLink RJ0 15 "java/lang/String" "coder" "B") (by decide +kernel)) (fun _ h => h) dJ0_isLatin1_aae02_7 ?_
  refine lv_if_ne (tgt := 17) hx hb dJ0_isLatin1_aae02_10 (by decide) (fun hc => absurd rfl hc) (fun hc => ?_)
  refine lv_iconst (v := 1) hx hb dJ0_isLatin1_aae02_13 (by decide) ?_
  refine lv_goto (tgt := 18) hx hb dJ0_isLatin1_aae02_14 (by decide) ?_
  exact ret0 _ _ _ _ dJ0_isLatin1_aae02_18 hS
set_option maxHeartbeats 4000000 in
set_option maxRecDepth 100000 in
theorem kJ0_length_8abf5 (l : Launch) (qs qv : Nat) : st_I l yJ0_length_8abf5 wsJ0_length_8abf5 ({ frames := 1, cells := 0, slots := 0, locals := 20 } : Room) [.ref qs] qs qv (nI 72) := by
  refine st_int (cc := cJ0_length_8abf5) (maxL := 1) (ty := .int) rfl (by decide) rfl (Nat.le_of_ble_eq_true rfl) ?_
  intro p e s m args below meth c Q S0 hZ ret0 hS ls hl
  have S0 : CallFix p m c cJ0_length_8abf5 1 s args wsJ0_length_8abf5 RJ0 := S0
  have hx := S0.1
  have hb := S0.2.1
  have hown := S0.2.2.2.1
  have hts := S0.2.2.2.2
  have hl : lv_has ls 1 [(0, .ref qs)] := hl
  refine lv_aload_n hx hb dJ0_length_8abf5_0 rfl (lv_at hl 0 rfl) ?_
  refine vk_getf hx hb hZ.2.2.1 hS hown (hts (.fieldLink RJ0 9 "java/lang/String" "value" "[B") (by decide +kernel)) (fun _ h => h) dJ0_length_8abf5_1 ?_
  refine va_tlen (v := nI 72) hx hb hZ.2.2.2.1 hS rfl dJ0_length_8abf5_4 ?_
  refine lv_aload_n hx hb dJ0_length_8abf5_5 rfl (lv_at hl 0 rfl) ?_
  refine st_callVi (As := []) (rest := [.int (nI 72)]) S0 hZ hS (kJ0_coder_7d493 l qs qv) (cwV 0 hts gJ0_length_8abf5_J0_coder_7d493 rfl rfl rfl ⟨rfl, hdJ0_coder_7d493⟩ ⟨Nat.le_of_ble_eq_true rfl, Nat.le_of_ble_eq_true rfl⟩) (by obtain ⟨cell, h1, h2, h3, -⟩ := hZ.1.kept hS.2.1; exact ⟨cell, h1, h2, h3⟩) rfl hl.1 rfl (Nat.le_of_ble_eq_true rfl) dJ0_length_8abf5_6 ⟨Nat.zero_le _, Nat.zero_le _⟩ (fun H locs hk hS => ?_)
  refine lv_ishr hx hb dJ0_length_8abf5_9 ?_
  rw [show (nI 72 >>> ((0 : Int32) &&& 31)) = nI 72 from by decide +kernel]
  exact ret0 _ _ _ _ dJ0_length_8abf5_10 hS
set_option maxHeartbeats 4000000 in
set_option maxRecDepth 100000 in
theorem kJ3_checkIndex_n (l : Launch) (qs qv : Nat) (i n : Int32) (h0 : ¬ i < 0) (h1 : i < n) : st_I l yJ3_checkIndex_8e157 wsJ3_checkIndex_8e157 ({ frames := 0, cells := 0, slots := 0, locals := 0 } : Room) [.int i, .int n, .null] qs qv i := by
  refine st_int (cc := cJ3_checkIndex_8e157) (maxL := 3) (ty := .int) rfl (by decide) rfl (Nat.le_of_ble_eq_true rfl) ?_
  intro p e s m args below meth c Q S0 hZ ret0 hS ls hl
  have S0 : CallFix p m c cJ3_checkIndex_8e157 3 s args wsJ3_checkIndex_8e157 RJ3 := S0
  have hx := S0.1
  have hb := S0.2.1
  have hown := S0.2.2.2.1
  have hts := S0.2.2.2.2
  have hl : lv_has ls 3 [(0, .int i), (1, .int n), (2, .null)] := hl
  refine lv_iload_n hx hb dJ3_checkIndex_8e157_0 rfl (lv_at hl 0 rfl) ?_
  refine lv_if_lt (tgt := 9) hx hb dJ3_checkIndex_8e157_1 (by decide) (fun hc => absurd hc h0) (fun hc => ?_)
  refine lv_iload_n hx hb dJ3_checkIndex_8e157_4 rfl (lv_at hl 0 rfl) ?_
  refine lv_iload_n hx hb dJ3_checkIndex_8e157_5 rfl (lv_at hl 1 rfl) ?_
  refine lv_icmp_lt (tgt := 16) hx hb dJ3_checkIndex_8e157_6 (by decide) (fun hc => ?_) (fun hc => absurd h1 hc)
  refine lv_iload_n hx hb dJ3_checkIndex_8e157_16 rfl (lv_at hl 0 rfl) ?_
  exact ret0 _ _ _ _ dJ3_checkIndex_8e157_17 hS
set_option maxHeartbeats 4000000 in
set_option maxRecDepth 100000 in
theorem kJ3_checkIndex_r (l : Launch) (qs qv : Nat) (i n : Int32) (t : Nat) (h0 : ¬ i < 0) (h1 : i < n) : st_I l yJ3_checkIndex_8e157 wsJ3_checkIndex_8e157 ({ frames := 0, cells := 0, slots := 0, locals := 0 } : Room) [.int i, .int n, .ref t] qs qv i := by
  refine st_int (cc := cJ3_checkIndex_8e157) (maxL := 3) (ty := .int) rfl (by decide) rfl (Nat.le_of_ble_eq_true rfl) ?_
  intro p e s m args below meth c Q S0 hZ ret0 hS ls hl
  have S0 : CallFix p m c cJ3_checkIndex_8e157 3 s args wsJ3_checkIndex_8e157 RJ3 := S0
  have hx := S0.1
  have hb := S0.2.1
  have hown := S0.2.2.2.1
  have hts := S0.2.2.2.2
  have hl : lv_has ls 3 [(0, .int i), (1, .int n), (2, .ref t)] := hl
  refine lv_iload_n hx hb dJ3_checkIndex_8e157_0 rfl (lv_at hl 0 rfl) ?_
  refine lv_if_lt (tgt := 9) hx hb dJ3_checkIndex_8e157_1 (by decide) (fun hc => absurd hc h0) (fun hc => ?_)
  refine lv_iload_n hx hb dJ3_checkIndex_8e157_4 rfl (lv_at hl 0 rfl) ?_
  refine lv_iload_n hx hb dJ3_checkIndex_8e157_5 rfl (lv_at hl 1 rfl) ?_
  refine lv_icmp_lt (tgt := 16) hx hb dJ3_checkIndex_8e157_6 (by decide) (fun hc => ?_) (fun hc => absurd h1 hc)
  refine lv_iload_n hx hb dJ3_checkIndex_8e157_16 rfl (lv_at hl 0 rfl) ?_
  exact ret0 _ _ _ _ dJ3_checkIndex_8e157_17 hS
set_option maxHeartbeats 4000000 in
set_option maxRecDepth 100000 in
theorem kJ0_checkIndex_df160 (l : Launch) (qs qv : Nat) (i n : Int32) (h0 : ¬ i < 0) (h1 : i < n) : st_V l yJ0_checkIndex_df160 wsJ0_checkIndex_df160 ({ frames := 1, cells := 0, slots := 0, locals := 22 } : Room) [.int i, .int n] qs qv := by
  refine st_void (cc := cJ0_checkIndex_df160) (maxL := 2) (by decide) rfl (Nat.le_of_ble_eq_true rfl) ?_
  intro p e s m args below meth c Q S0 hZ ret0 hS ls hl
  have S0 : CallFix p m c cJ0_checkIndex_df160 2 s args wsJ0_checkIndex_df160 RJ0 := S0
  have hx := S0.1
  have hb := S0.2.1
  have hown := S0.2.2.2.1
  have hts := S0.2.2.2.2
  have hl : lv_has ls 2 [(0, .int i), (1, .int n)] := hl
  refine lv_iload_n hx hb dJ0_checkIndex_df160_0 rfl (lv_at hl 0 rfl) ?_
  refine lv_iload_n hx hb dJ0_checkIndex_df160_1 rfl (lv_at hl 1 rfl) ?_
  rcases hZ.2.2.2.2.2 with hz | ⟨t, hz⟩
  · refine va_gets hx hb hz hS hown (hts (.fieldLink RJ0 1053 "jdk/internal/util/Preconditions" "SIOOBE_FORMATTER" "Ljava/util/function/BiFunction;") (by decide +kernel)) (fun _ h => h) dJ0_checkIndex_df160_2 ?_
    refine st_callSi (As := [.int i, .int n, .null]) (rest := []) S0 hZ hS (kJ3_checkIndex_n l qs qv i n h0 h1) (va_cwS 3 hts gJ0_checkIndex_df160_J3_checkIndex_8e157 rfl rfl rfl hdJ3_checkIndex_8e157 ⟨Nat.le_of_ble_eq_true rfl, Nat.le_of_ble_eq_true rfl⟩) rfl hl.1 rfl (Nat.le_of_ble_eq_true rfl) dJ0_checkIndex_df160_5 ⟨Nat.zero_le _, Nat.zero_le _⟩ (fun H locs hk hS => ?_)
    refine lv_pop hx hb dJ0_checkIndex_df160_8 rfl ?_
    exact ret0 _ _ _ _ dJ0_checkIndex_df160_9 hS
  · refine va_gets hx hb hz hS hown (hts (.fieldLink RJ0 1053 "jdk/internal/util/Preconditions" "SIOOBE_FORMATTER" "Ljava/util/function/BiFunction;") (by decide +kernel)) (fun _ h => h) dJ0_checkIndex_df160_2 ?_
    refine st_callSi (As := [.int i, .int n, .ref t]) (rest := []) S0 hZ hS (kJ3_checkIndex_r l qs qv i n t h0 h1) (va_cwS 3 hts gJ0_checkIndex_df160_J3_checkIndex_8e157 rfl rfl rfl hdJ3_checkIndex_8e157 ⟨Nat.le_of_ble_eq_true rfl, Nat.le_of_ble_eq_true rfl⟩) rfl hl.1 rfl (Nat.le_of_ble_eq_true rfl) dJ0_checkIndex_df160_5 ⟨Nat.zero_le _, Nat.zero_le _⟩ (fun H locs hk hS => ?_)
    refine lv_pop hx hb dJ0_checkIndex_df160_8 rfl ?_
    exact ret0 _ _ _ _ dJ0_checkIndex_df160_9 hS
theorem st_ok : ∀ k, k < 72 → ((st_b k &&& 255).toUInt32 % 65536).toInt32 = st_b k ∧ narrow .char (.int (st_b k)) = .int (st_b k) := by decide +kernel
theorem st_in : ∀ k, k < 72 → ¬ nI k < 0 ∧ nI k < nI 72 ∧ vp_in (nI k) 72 ∧ (nI k).toNatClampNeg = k := by
  intro k hk
  have h : vp_in (nI k) 72 := vp_in_nI hk (by omega)
  refine ⟨fun q => h (Or.inl q), ?_, h, nI_clamp (by omega)⟩
  rw [Int32.lt_iff_toInt_lt, nI_toInt (by omega), nI_toInt (by omega)]
  omega
set_option maxHeartbeats 4000000 in
set_option maxRecDepth 100000 in
theorem kJ1_charAt_3b067 (l : Launch) (qs qv k : Nat) (hk : k < 72) : st_I l yJ1_charAt_3b067 wsJ1_charAt_3b067 ({ frames := 2, cells := 0, slots := 0, locals := 43 } : Room) [.ref qv, .int (nI k)] qs qv (st_b k) := by
  obtain ⟨g0, g1, g2, g3⟩ := st_in k hk
  refine st_int (cc := cJ1_charAt_3b067) (maxL := 2) (ty := .char) (st_ok k hk).2 (by decide) rfl (Nat.le_of_ble_eq_true rfl) ?_
  intro p e s m args below meth c Q S0 hZ ret0 hS ls hl
  have S0 : CallFix p m c cJ1_charAt_3b067 2 s args wsJ1_charAt_3b067 RJ1 := S0
  have hx := S0.1
  have hb := S0.2.1
  have hown := S0.2.2.2.1
  have hts := S0.2.2.2.2
  have hl : lv_has ls 2 [(0, .ref qv), (1, .int (nI k))] := hl
  refine lv_iload_n hx hb dJ1_charAt_3b067_0 rfl (lv_at hl 1 rfl) ?_
  refine lv_aload_n hx hb dJ1_charAt_3b067_1 rfl (lv_at hl 0 rfl) ?_
  refine va_tlen (v := nI 72) hx hb hZ.2.2.2.1 hS rfl dJ1_charAt_3b067_2 ?_
  refine st_callSv (As := [.int (nI k), .int (nI 72)]) (rest := []) S0 hZ hS (kJ0_checkIndex_df160 l qs qv (nI k) (nI 72) g0 g1) (va_cwS 2 hts gJ1_charAt_3b067_J0_checkIndex_df160 rfl rfl rfl hdJ0_checkIndex_df160 ⟨Nat.le_of_ble_eq_true rfl, Nat.le_of_ble_eq_true rfl⟩) rfl hl.1 rfl (Nat.le_of_ble_eq_true rfl) dJ1_charAt_3b067_3 ⟨Nat.zero_le _, Nat.zero_le _⟩ (fun H locs hk9 hS => ?_)
  refine lv_aload_n hx hb dJ1_charAt_3b067_6 rfl (lv_at hl 0 rfl) ?_
  refine lv_iload_n hx hb dJ1_charAt_3b067_7 rfl (lv_at hl 1 rfl) ?_
  refine va_tb (v := .int (st_b k)) hx hb hZ.2.2.2.1 hS g2 (by rw [g3]) dJ1_charAt_3b067_8 ?_
  refine lv_sipush (v := 255) hx hb dJ1_charAt_3b067_9 (by decide) ?_
  refine lv_iand hx hb dJ1_charAt_3b067_12 ?_
  refine lv_i2c hx hb dJ1_charAt_3b067_13 (st_ok k hk).1 ?_
  exact ret0 _ _ _ _ dJ1_charAt_3b067_14 hS
set_option maxHeartbeats 4000000 in
set_option maxRecDepth 100000 in
theorem kJ0_charAt_5068e (l : Launch) (qs qv k : Nat) (hk : k < 72) : st_I l yJ0_charAt_5068e wsJ0_charAt_5068e ({ frames := 3, cells := 0, slots := 0, locals := 64 } : Room) [.ref qs, .int (nI k)] qs qv (st_b k) := by
  refine st_int (cc := cJ0_charAt_5068e) (maxL := 2) (ty := .char) (st_ok k hk).2 (by decide) rfl (Nat.le_of_ble_eq_true rfl) ?_
  intro p e s m args below meth c Q S0 hZ ret0 hS ls hl
  have S0 : CallFix p m c cJ0_charAt_5068e 2 s args wsJ0_charAt_5068e RJ0 := S0
  have hx := S0.1
  have hb := S0.2.1
  have hown := S0.2.2.2.1
  have hts := S0.2.2.2.2
  have hl : lv_has ls 2 [(0, .ref qs), (1, .int (nI k))] := hl
  refine lv_aload_n hx hb dJ0_charAt_5068e_0 rfl (lv_at hl 0 rfl) ?_
  refine st_callVi (As := []) (rest := []) S0 hZ hS (kJ0_isLatin1_aae02 l qs qv) (cwV 0 hts gJ0_charAt_5068e_J0_isLatin1_aae02 rfl rfl rfl ⟨rfl, hdJ0_isLatin1_aae02⟩ ⟨Nat.le_of_ble_eq_true rfl, Nat.le_of_ble_eq_true rfl⟩) (by obtain ⟨cell, h1, h2, h3, -⟩ := hZ.1.kept hS.2.1; exact ⟨cell, h1, h2, h3⟩) rfl hl.1 rfl (Nat.le_of_ble_eq_true rfl) dJ0_charAt_5068e_1 ⟨Nat.zero_le _, Nat.zero_le _⟩ (fun H locs hk9 hS => ?_)
  refine lv_if_eq (tgt := 16) hx hb dJ0_charAt_5068e_4 (by decide) (fun hc => absurd hc (by decide)) (fun hc => ?_)
  refine lv_aload_n hx hb dJ0_charAt_5068e_7 rfl (lv_at hl 0 rfl) ?_
  refine vk_getf hx hb hZ.2.2.1 hS hown (hts (.fieldLink RJ0 9 "java/lang/String" "value" "[B") (by decide +kernel)) (fun _ h => h) dJ0_charAt_5068e_8 ?_
  refine lv_iload_n hx hb dJ0_charAt_5068e_11 rfl (lv_at hl 1 rfl) ?_
  refine st_callSi (As := [.ref qv, .int (nI k)]) (rest := []) S0 hZ hS (kJ1_charAt_3b067 l qs qv k hk) (va_cwS 2 hts gJ0_charAt_5068e_J1_charAt_3b067 rfl rfl rfl hdJ1_charAt_3b067 ⟨Nat.le_of_ble_eq_true rfl, Nat.le_of_ble_eq_true rfl⟩) rfl hl.1 rfl (Nat.le_of_ble_eq_true rfl) dJ0_charAt_5068e_12 ⟨Nat.zero_le _, Nat.zero_le _⟩ (fun H locs hk9 hS => ?_)
  exact ret0 _ _ _ _ dJ0_charAt_5068e_15 hS
