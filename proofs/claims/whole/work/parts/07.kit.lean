/-- the nest mates' words (they ride on the state, not in the word lists) -/
def nx_fs : List (String × Nat × String × String × String × String) := [("SnailsYear", 102, "SnailsYear$Sightings", "size", "I", "SnailsYear"), ("SnailsYear", 105, "SnailsYear$Pile", "size", "I", "SnailsYear"), ("SnailsYear", 106, "SnailsYear$Yard", "cells", "I", "SnailsYear"), ("SnailsYear", 116, "SnailsYear$Scene", "night", "I", "SnailsYear"), ("SnailsYear", 143, "SnailsYear$Scene", "snail", "I", "SnailsYear"), ("SnailsYear", 157, "SnailsYear$Scene", "begunOn", "I", "SnailsYear"), ("SnailsYear", 183, "SnailsYear$Yard", "start", "I", "SnailsYear"), ("SnailsYear", 214, "SnailsYear$Yard", "columns", "I", "SnailsYear"), ("SnailsYear", 217, "SnailsYear$Yard", "rentCount", "I", "SnailsYear"), ("SnailsYear", 220, "SnailsYear$Yard", "heirCount", "I", "SnailsYear"), ("SnailsYear", 95, "SnailsYear$Letters", "length", "I", "SnailsYear"), ("SnailsYear$Reader", 34, "SnailsYear$Letters", "length", "I", "SnailsYear"), ("SnailsYear$Scene", 25, "SnailsYear$Yard", "kinds", "[I", "SnailsYear"), ("SnailsYear$Scene", 34, "SnailsYear$Yard", "start", "I", "SnailsYear"), ("SnailsYear$Walker", 40, "SnailsYear$Scene", "night", "I", "SnailsYear"), ("SnailsYear$Walker", 44, "SnailsYear$Scene", "snail", "I", "SnailsYear"), ("SnailsYear$Walker", 57, "SnailsYear$Scene", "begunOn", "I", "SnailsYear"), ("SnailsYear$Walker", 74, "SnailsYear$Yard", "cells", "I", "SnailsYear")]
def nx_ms : List (String × Nat × MethodName × String) := [("SnailsYear", 27, ⟨"SnailsYear$Walker", "<init>", "()V"⟩, "SnailsYear"), ("SnailsYear", 34, ⟨"SnailsYear$Scene", "<init>", "()V"⟩, "SnailsYear"), ("SnailsYear", 56, ⟨"SnailsYear$Sightings", "<init>", "()V"⟩, "SnailsYear"), ("SnailsYear", 67, ⟨"SnailsYear$Yard", "<init>", "()V"⟩, "SnailsYear"), ("SnailsYear", 9, ⟨"SnailsYear$Letters", "<init>", "()V"⟩, "SnailsYear"), ("SnailsYear$Walker", 32, ⟨"SnailsYear", "stepsInto", "(II)I"⟩, "SnailsYear")]

def nx_NW (U : State) : Prop := (∀ q ∈ nx_fs, va_Nw (.fieldLinkNest q.1 q.2.1 q.2.2.1 q.2.2.2.1 q.2.2.2.2.1 q.2.2.2.2.2) U) ∧ ∀ q ∈ nx_ms, va_Nw (.methodLinkNest q.1 q.2.1 q.2.2.1 q.2.2.2) U
theorem nx_NW.warm {s U : State} (hW : s.WarmedH U.vm) (h : nx_NW s) : nx_NW U := ⟨fun q hq => va_Nw.warmF hW (h.1 q hq), fun q hq => va_Nw.warmM hW (h.2 q hq)⟩
theorem nx_NW.same {s U : State} (hv : s.vm = U.vm) (h : nx_NW s) : nx_NW U := ⟨fun q hq => va_Nw.same rfl hv (h.1 q hq), fun q hq => va_Nw.same rfl hv (h.2 q hq)⟩
theorem nx_NW.f {s : State} {args : Array Value} (h : nx_NW s) {a : String} {i : Nat} {b n d k : String} (hq : (a, i, b, n, d, k) ∈ nx_fs) : (Cond.fieldLinkNest a i b n d k).before args s = true := va_Nw.use rfl (h.1 _ hq)
theorem ng_p {c : Prop} [Decidable c] {α : Type} {x : Option α} {y : α} (h : (if c then x else none) = some y) : c := by
  by_cases hc : c
  · exact hc
  · rw [if_neg hc] at h; cases h
theorem ng_x {c : Prop} [Decidable c] {α : Type} {x : Option α} {y : α} (h : (if c then x else none) = some y) : x = some y := by
  rw [if_pos (ng_p h)] at h; exact h
theorem ng_t {c : Prop} [Decidable c] {α : Type} {a b : Option α} {y : α} (hc : c) (h : (if c then a else b) = some y) : a = some y := by
  rw [if_pos hc] at h; exact h
theorem ng_f {c : Prop} [Decidable c] {α : Type} {a b : Option α} {y : α} (hc : ¬ c) (h : (if c then a else b) = some y) : b = some y := by
  rw [if_neg hc] at h; exact h
theorem ng_b {α β : Type} {x : Option α} {f : α → Option β} {y : β} (h : Option.bind x f = some y) : ∃ o, x = some o ∧ f o = some y := by
  cases x with
  | none => cases h
  | some o => exact ⟨o, rfl, h⟩
theorem ng_sub {ws ws' : va_W} {is : List Nat} (h : is.map (fun i => ws[i]?) = ws'.map some) : is.filterMap (fun i => ws[i]?) = ws' := by
  have h1 : is.filterMap (fun i => ws[i]?) = (is.map (fun i => ws[i]?)).filterMap id := by rw [List.filterMap_map]; rfl
  rw [h1, h, List.filterMap_map]
  simp
theorem nx_bool {v : Int32} (h : v = 0 ∨ v = 1) : narrow .boolean (.int v) = .int v := by rcases h with rfl | rfl <;> decide +kernel
theorem nx_boolf {v : Int32} (h : v = 0 ∨ v = 1) : fits .boolean (.int v) = true := by rcases h with rfl | rfl <;> decide +kernel
/-- what holds at a call: the heap's size, the cells, the classes, the nest's words -/
def nx_U (D : va_G) (cI : ClassId) (wc : va_W) (sz : Nat) : State → Prop := fun U => U.heap.size = sz ∧ va_P D vwCl wc U.heap ∧ va_K D vwCl [(cI, .int)] U ∧ va_D (fun _ => True) wc ∧ nx_NW U
/-- a method that makes nothing and answers ro: from the cells wc to the cells w1 -/
def nx_I (l : Launch) (y : MethodName) (ws : List Cond) (rm : Room) (D : va_G) (cI : ClassId) (av : List Value) (wc : va_W) (sz : Nat) (ro : Int32) (w1 : va_W) : Prop :=
  Met l y ws rm (va_Pc av (nx_U D cI wc sz)) (va_Qi (fun r (_ : Unit) => r = ro) (fun _ t => va_P D vwCl w1 t.heap ∧ va_D (va_A wc sz) w1) (va_A wc sz)) 0 0 (va_A wc sz)
def nx_V (l : Launch) (y : MethodName) (ws : List Cond) (rm : Room) (D : va_G) (cI : ClassId) (av : List Value) (wc : va_W) (sz : Nat) (w1 : va_W) : Prop :=
  Met l y ws rm (va_Pc av (nx_U D cI wc sz)) (va_Qv (fun (_ : Unit) => True) (fun _ t => va_P D vwCl w1 t.heap ∧ va_D (va_A wc sz) w1) (va_A wc sz)) 0 0 (va_A wc sz)
theorem nx_blind {D : va_G} {cI : ClassId} {av : List Value} {wc : va_W} {sz : Nat} : FrameBlind (va_Pc av (nx_U D cI wc sz)) := fun a U g mk q => by
  obtain ⟨q0, q1, qP, qK, qD, qN⟩ := q
  exact ⟨q0, q1, qP, va_K.moved (u := U) (U := U.calling g mk a) (Vm.Alike.refl U.vm) qK, qD, nx_NW.same (s := U) (U := U.calling g mk a) rfl qN⟩


set_option maxHeartbeats 4000000 in
theorem nx_int {l : Launch} {y : MethodName} {ws ws' : List Cond} {rm : Room} {cc : ByteArray} {maxL : Nat} {D : va_G} {cI : ClassId} {av : List Value} {wc w1 : va_W} {sz : Nat} {ro : Int32}
  (hy : plainName y.cls = true) (hw : ws = Cond.code y cc maxL (some .int) :: ws') (hav : (lg_sl av).length ≤ maxL)
  (body : ∀ (p : Program) (e : Env) (s : State) (m : MethodId) (args : Array Value) (below : List Frame) (meth : Method) (c : Code) (Q : State → Prop) (A : Nat → Prop), CallFix p m c cc maxL s args ws y.cls → va_K D vwCl [(cI, .int)] s → nx_NW s → (∀ q : Nat, s.heap.size ≤ q → A q) →
    (∀ (H : Heap) (locs : List Loc) (ls : Array Slot) (pc : Nat),  decode cc pc = .ok (.ireturn, 1) → va_P D vwCl w1 H → va_D A w1 → va_S A s.heap H locs → W p l e rm s m args below meth c H locs 0 0 Q (F0 m pc ls [.int ro])) →
    va_P D vwCl wc s.heap → va_D A wc → va_S A s.heap s.heap [] → ∀ ls : Array Slot, lv_has ls maxL (lv_args 0 av) → W p l e rm s m args below meth c s.heap [] 0 0 Q (F0 m 0 ls [])) :
  nx_I l y ws rm D cI av wc sz ro w1 := by
  refine Met.ofW (cc := cc) (maxL := maxL) (ret := (some .int)) hy hw ?_
  intro p e s m args below meth c s₁ B hml hv
  obtain ⟨rfl, hsz, hP, hK, hD0, hN⟩ := hv
  subst hsz
  have hD := hD0.self (sz := s.heap.size)
  rw [lg_entry_eq]
  refine body p e s m _ below meth c _ (va_A wc s.heap.size) ⟨B.exec, B.bytes, hml, findClass_of_methodNamed B.named, atoms_spec (ws := ws) B.pre⟩ hK hN (fun q h => Or.inr h) ?_ hP hD va_S.rf _ (lv_entry av hav)
  intro H locs ls pc  hd hP1 hD1 hS
  have hlocks := B.notSynchronized
  exact W.iret (v := ro) B.exec B.bytes B.returns (fun t ht hW => ⟨⟨ro, (), rfl, rfl, by rw [ht]; exact hP1, hD1⟩, hS.F ht⟩) hS.2.2 hd


set_option maxHeartbeats 4000000 in
theorem nx_zint {l : Launch} {y : MethodName} {ws ws' : List Cond} {rm : Room} {cc : ByteArray} {maxL : Nat} {D : va_G} {cI : ClassId} {av : List Value} {wc w1 : va_W} {sz : Nat} {ro : Int32}
  (hy : plainName y.cls = true) (hw : ws = Cond.code y cc maxL (some .boolean) :: ws') (hav : (lg_sl av).length ≤ maxL)
  (body : ∀ (p : Program) (e : Env) (s : State) (m : MethodId) (args : Array Value) (below : List Frame) (meth : Method) (c : Code) (Q : State → Prop) (A : Nat → Prop), CallFix p m c cc maxL s args ws y.cls → va_K D vwCl [(cI, .int)] s → nx_NW s → (∀ q : Nat, s.heap.size ≤ q → A q) →
    (∀ (H : Heap) (locs : List Loc) (ls : Array Slot) (pc : Nat), ro = 0 ∨ ro = 1 → decode cc pc = .ok (.ireturn, 1) → va_P D vwCl w1 H → va_D A w1 → va_S A s.heap H locs → W p l e rm s m args below meth c H locs 0 0 Q (F0 m pc ls [.int ro])) →
    va_P D vwCl wc s.heap → va_D A wc → va_S A s.heap s.heap [] → ∀ ls : Array Slot, lv_has ls maxL (lv_args 0 av) → W p l e rm s m args below meth c s.heap [] 0 0 Q (F0 m 0 ls [])) :
  nx_I l y ws rm D cI av wc sz ro w1 := by
  refine Met.ofW (cc := cc) (maxL := maxL) (ret := (some .boolean)) hy hw ?_
  intro p e s m args below meth c s₁ B hml hv
  obtain ⟨rfl, hsz, hP, hK, hD0, hN⟩ := hv
  subst hsz
  have hD := hD0.self (sz := s.heap.size)
  rw [lg_entry_eq]
  refine body p e s m _ below meth c _ (va_A wc s.heap.size) ⟨B.exec, B.bytes, hml, findClass_of_methodNamed B.named, atoms_spec (ws := ws) B.pre⟩ hK hN (fun q h => Or.inr h) ?_ hP hD va_S.rf _ (lv_entry av hav)
  intro H locs ls pc hz hd hP1 hD1 hS
  have hlocks := B.notSynchronized
  exact W.zret (v := ro) B.exec B.bytes B.returns (nx_bool hz) (fun t ht hW => ⟨⟨ro, (), rfl, rfl, by rw [ht]; exact hP1, hD1⟩, hS.F ht⟩) hS.2.2 hd


set_option maxHeartbeats 4000000 in
theorem nx_void {l : Launch} {y : MethodName} {ws ws' : List Cond} {rm : Room} {cc : ByteArray} {maxL : Nat} {D : va_G} {cI : ClassId} {av : List Value} {wc w1 : va_W} {sz : Nat} 
  (hy : plainName y.cls = true) (hw : ws = Cond.code y cc maxL none :: ws') (hav : (lg_sl av).length ≤ maxL)
  (body : ∀ (p : Program) (e : Env) (s : State) (m : MethodId) (args : Array Value) (below : List Frame) (meth : Method) (c : Code) (Q : State → Prop) (A : Nat → Prop), CallFix p m c cc maxL s args ws y.cls → va_K D vwCl [(cI, .int)] s → nx_NW s → (∀ q : Nat, s.heap.size ≤ q → A q) →
    (∀ (H : Heap) (locs : List Loc) (ls : Array Slot) (pc : Nat),  decode cc pc = .ok (.return_, 1) → va_P D vwCl w1 H → va_D A w1 → va_S A s.heap H locs → W p l e rm s m args below meth c H locs 0 0 Q (F0 m pc ls [])) →
    va_P D vwCl wc s.heap → va_D A wc → va_S A s.heap s.heap [] → ∀ ls : Array Slot, lv_has ls maxL (lv_args 0 av) → W p l e rm s m args below meth c s.heap [] 0 0 Q (F0 m 0 ls [])) :
  nx_V l y ws rm D cI av wc sz w1 := by
  refine Met.ofW (cc := cc) (maxL := maxL) (ret := none) hy hw ?_
  intro p e s m args below meth c s₁ B hml hv
  obtain ⟨rfl, hsz, hP, hK, hD0, hN⟩ := hv
  subst hsz
  have hD := hD0.self (sz := s.heap.size)
  rw [lg_entry_eq]
  refine body p e s m _ below meth c _ (va_A wc s.heap.size) ⟨B.exec, B.bytes, hml, findClass_of_methodNamed B.named, atoms_spec (ws := ws) B.pre⟩ hK hN (fun q h => Or.inr h) ?_ hP hD va_S.rf _ (lv_entry av hav)
  intro H locs ls pc  hd hP1 hD1 hS
  have hlocks := B.notSynchronized
  exact W.vret B.exec B.bytes B.returns (fun t ht hW => ⟨⟨(), rfl, trivial, by rw [ht]; exact hP1, hD1⟩, hS.F ht⟩) hS.2.2 hd


set_option maxHeartbeats 4000000 in
theorem nx_callVi {p : Program} {l : Launch} {e : Env} {R : Room} {s : State} {m : MethodId} {args : Array Value} {below : List Frame} {meth : Method} {c : Code} {H : Heap} {locs : List Loc} {Q : State → Prop} {Ts ws : List Cond} {cc bytes : ByteArray} {nL maxL index n : Nat} {own : String} {y : MethodName} {ret : Option FieldType} {rm : Room} {D : va_G} {cI : ClassId} {wc w1 wr W0 W1 : va_W} {A : Nat → Prop} {H0 : Heap} {As rest st0 : List Value} {pc : Nat} {ls : Array Slot} {C : String} {b : Nat} {ro : Int32} (S : CallFix p m c cc nL s args Ts own) (hK : va_K D vwCl [(cI, .int)] s) (hN : nx_NW s) (hA : ∀ q : Nat, H0.size ≤ q → A q) (hP : va_P D vwCl W0 H) (hD : va_D A W0) (hS : va_S A H0 H locs)
  (hM : nx_I l y ws rm D cI (.ref b :: As) wc H.size ro w1) (cw : CallW R s args own C index y bytes maxL ret ws rm 0 0 n)
  (isC isR isW : List Nat) (hC : isC.map (fun i => W0[i]?) = wc.map some) (hR : isR.map (fun i => W0[i]?) = wr.map some) (hnd : (va_nd isC && va_nd isR && va_nd isW && isR.all (fun i => !isC.contains i)) = true) (hW1 : isW.map (fun i => (wr ++ w1)[i]?) = W1.map some)
  (q0 ci : Nat) {q : vw_C} (hc : vwCl[ci]? = some q) (hq : q.1 = C) {fs : List Value} (he : W0[q0]? = some (b, .inr (ci, fs))) (hn : As.length = n) (hsize : ls.size = nL) (hstack : st0 = As.reverse ++ .ref b :: rest) (hroom : (rest.map fun v => v.category).sum ≤ 8) (hdg : decode cc pc = .ok (.invokevirtual index, 3))
  (kk : ∀ (H1 : Heap) (locs1 : List Loc), va_P D vwCl W1 H1 → va_D A W1 → va_S A H0 H1 locs1 → W p l e R s m args below meth c H1 locs1 0 0 Q (F0 m (pc + 3) ls (.int ro :: rest))) :
  W p l e R s m args below meth c H locs 0 0 Q (F0 m pc ls st0) := by
  simp only [Bool.and_eq_true, List.all_eq_true, Bool.not_eq_true', List.contains_eq_mem, decide_eq_false_iff_not] at hnd
  obtain ⟨⟨⟨h1, h2⟩, h3⟩, h4⟩ := hnd
  have hPc := hP.sub isC (ng_sub hC)
  have hDc := hD.sub isC h1 hC
  have hFc := va_free (wc := wc) hD hS hA isC hC
  refine va_calli (va_runV (As := As) (rest := rest) S hM cw ⟨nx_blind, (hq ▸ va_recv hK hP hc he), fun U hU hW => ⟨rfl, by rw [hU], by rw [hU]; exact hPc, va_K.moved hW.alike hK, hDc.weaken (fun _ _ _ _ => trivial), hN.warm hW⟩⟩ rfl hn hsize hstack (lv_room hroom) hdg ⟨Nat.zero_le _, Nat.zero_le _⟩) hS (fun q _ h => hFc q h) hFc (fun r u t H1 locs1 ht hvm hw hB hz1 hk1 hS1 => ?_)
  obtain ⟨hP1, hD1⟩ := hB
  rw [ht] at hP1
  obtain ⟨hP2, hD2⟩ := va_join (wr := wr) (w1 := w1) hP hD isC isR hC hR h2 h4 hk1 hFc hP1 hD1
  subst hw
  exact kk H1 locs1 (hP2.sub isW (ng_sub hW1)) (hD2.sub isW h3 hW1) hS1


set_option maxHeartbeats 4000000 in
theorem nx_callVv {p : Program} {l : Launch} {e : Env} {R : Room} {s : State} {m : MethodId} {args : Array Value} {below : List Frame} {meth : Method} {c : Code} {H : Heap} {locs : List Loc} {Q : State → Prop} {Ts ws : List Cond} {cc bytes : ByteArray} {nL maxL index n : Nat} {own : String} {y : MethodName} {ret : Option FieldType} {rm : Room} {D : va_G} {cI : ClassId} {wc w1 wr W0 W1 : va_W} {A : Nat → Prop} {H0 : Heap} {As rest st0 : List Value} {pc : Nat} {ls : Array Slot} {C : String} {b : Nat} (S : CallFix p m c cc nL s args Ts own) (hK : va_K D vwCl [(cI, .int)] s) (hN : nx_NW s) (hA : ∀ q : Nat, H0.size ≤ q → A q) (hP : va_P D vwCl W0 H) (hD : va_D A W0) (hS : va_S A H0 H locs)
  (hM : nx_V l y ws rm D cI (.ref b :: As) wc H.size w1) (cw : CallW R s args own C index y bytes maxL ret ws rm 0 0 n)
  (isC isR isW : List Nat) (hC : isC.map (fun i => W0[i]?) = wc.map some) (hR : isR.map (fun i => W0[i]?) = wr.map some) (hnd : (va_nd isC && va_nd isR && va_nd isW && isR.all (fun i => !isC.contains i)) = true) (hW1 : isW.map (fun i => (wr ++ w1)[i]?) = W1.map some)
  (q0 ci : Nat) {q : vw_C} (hc : vwCl[ci]? = some q) (hq : q.1 = C) {fs : List Value} (he : W0[q0]? = some (b, .inr (ci, fs))) (hn : As.length = n) (hsize : ls.size = nL) (hstack : st0 = As.reverse ++ .ref b :: rest) (hroom : (rest.map fun v => v.category).sum ≤ 8) (hdg : decode cc pc = .ok (.invokevirtual index, 3))
  (kk : ∀ (H1 : Heap) (locs1 : List Loc), va_P D vwCl W1 H1 → va_D A W1 → va_S A H0 H1 locs1 → W p l e R s m args below meth c H1 locs1 0 0 Q (F0 m (pc + 3) ls (rest))) :
  W p l e R s m args below meth c H locs 0 0 Q (F0 m pc ls st0) := by
  simp only [Bool.and_eq_true, List.all_eq_true, Bool.not_eq_true', List.contains_eq_mem, decide_eq_false_iff_not] at hnd
  obtain ⟨⟨⟨h1, h2⟩, h3⟩, h4⟩ := hnd
  have hPc := hP.sub isC (ng_sub hC)
  have hDc := hD.sub isC h1 hC
  have hFc := va_free (wc := wc) hD hS hA isC hC
  refine va_callv (va_runV (As := As) (rest := rest) S hM cw ⟨nx_blind, (hq ▸ va_recv hK hP hc he), fun U hU hW => ⟨rfl, by rw [hU], by rw [hU]; exact hPc, va_K.moved hW.alike hK, hDc.weaken (fun _ _ _ _ => trivial), hN.warm hW⟩⟩ rfl hn hsize hstack (lv_room hroom) hdg ⟨Nat.zero_le _, Nat.zero_le _⟩) hS (fun q _ h => hFc q h) hFc (fun u t H1 locs1 ht hvm hw hB hz1 hk1 hS1 => ?_)
  obtain ⟨hP1, hD1⟩ := hB
  rw [ht] at hP1
  obtain ⟨hP2, hD2⟩ := va_join (wr := wr) (w1 := w1) hP hD isC isR hC hR h2 h4 hk1 hFc hP1 hD1
  skip
  exact kk H1 locs1 (hP2.sub isW (ng_sub hW1)) (hD2.sub isW h3 hW1) hS1


set_option maxHeartbeats 4000000 in
theorem nx_callSi {p : Program} {l : Launch} {e : Env} {R : Room} {s : State} {m : MethodId} {args : Array Value} {below : List Frame} {meth : Method} {c : Code} {H : Heap} {locs : List Loc} {Q : State → Prop} {Ts ws : List Cond} {cc bytes : ByteArray} {nL maxL index n : Nat} {own : String} {y : MethodName} {ret : Option FieldType} {rm : Room} {D : va_G} {cI : ClassId} {wc w1 wr W0 W1 : va_W} {A : Nat → Prop} {H0 : Heap} {As rest st0 : List Value} {pc : Nat} {ls : Array Slot} {ro : Int32} (S : CallFix p m c cc nL s args Ts own) (hK : va_K D vwCl [(cI, .int)] s) (hN : nx_NW s) (hA : ∀ q : Nat, H0.size ≤ q → A q) (hP : va_P D vwCl W0 H) (hD : va_D A W0) (hS : va_S A H0 H locs)
  (hM : nx_I l y ws rm D cI As wc H.size ro w1) (cw : CallB R s args own index y bytes maxL ret ws rm 0 0 n ∧ (Cond.static y).before args s = true)
  (isC isR isW : List Nat) (hC : isC.map (fun i => W0[i]?) = wc.map some) (hR : isR.map (fun i => W0[i]?) = wr.map some) (hnd : (va_nd isC && va_nd isR && va_nd isW && isR.all (fun i => !isC.contains i)) = true) (hW1 : isW.map (fun i => (wr ++ w1)[i]?) = W1.map some)
   (hn : As.length = n) (hsize : ls.size = nL) (hstack : st0 = As.reverse ++ rest) (hroom : (rest.map fun v => v.category).sum ≤ 8) (hdg : decode cc pc = .ok (.invokestatic index, 3))
  (kk : ∀ (H1 : Heap) (locs1 : List Loc), va_P D vwCl W1 H1 → va_D A W1 → va_S A H0 H1 locs1 → W p l e R s m args below meth c H1 locs1 0 0 Q (F0 m (pc + 3) ls (.int ro :: rest))) :
  W p l e R s m args below meth c H locs 0 0 Q (F0 m pc ls st0) := by
  simp only [Bool.and_eq_true, List.all_eq_true, Bool.not_eq_true', List.contains_eq_mem, decide_eq_false_iff_not] at hnd
  obtain ⟨⟨⟨h1, h2⟩, h3⟩, h4⟩ := hnd
  have hPc := hP.sub isC (ng_sub hC)
  have hDc := hD.sub isC h1 hC
  have hFc := va_free (wc := wc) hD hS hA isC hC
  refine va_calli (va_runS (As := As) (rest := rest) S hM cw ⟨nx_blind, fun U hU hW => ⟨rfl, by rw [hU], by rw [hU]; exact hPc, va_K.moved hW.alike hK, hDc.weaken (fun _ _ _ _ => trivial), hN.warm hW⟩⟩ rfl hn hsize hstack (lv_room hroom) hdg ⟨Nat.zero_le _, Nat.zero_le _⟩) hS (fun q _ h => hFc q h) hFc (fun r u t H1 locs1 ht hvm hw hB hz1 hk1 hS1 => ?_)
  obtain ⟨hP1, hD1⟩ := hB
  rw [ht] at hP1
  obtain ⟨hP2, hD2⟩ := va_join (wr := wr) (w1 := w1) hP hD isC isR hC hR h2 h4 hk1 hFc hP1 hD1
  subst hw
  exact kk H1 locs1 (hP2.sub isW (ng_sub hW1)) (hD2.sub isW h3 hW1) hS1


set_option maxHeartbeats 4000000 in
theorem nx_callSv {p : Program} {l : Launch} {e : Env} {R : Room} {s : State} {m : MethodId} {args : Array Value} {below : List Frame} {meth : Method} {c : Code} {H : Heap} {locs : List Loc} {Q : State → Prop} {Ts ws : List Cond} {cc bytes : ByteArray} {nL maxL index n : Nat} {own : String} {y : MethodName} {ret : Option FieldType} {rm : Room} {D : va_G} {cI : ClassId} {wc w1 wr W0 W1 : va_W} {A : Nat → Prop} {H0 : Heap} {As rest st0 : List Value} {pc : Nat} {ls : Array Slot} (S : CallFix p m c cc nL s args Ts own) (hK : va_K D vwCl [(cI, .int)] s) (hN : nx_NW s) (hA : ∀ q : Nat, H0.size ≤ q → A q) (hP : va_P D vwCl W0 H) (hD : va_D A W0) (hS : va_S A H0 H locs)
  (hM : nx_V l y ws rm D cI As wc H.size w1) (cw : CallB R s args own index y bytes maxL ret ws rm 0 0 n ∧ (Cond.static y).before args s = true)
  (isC isR isW : List Nat) (hC : isC.map (fun i => W0[i]?) = wc.map some) (hR : isR.map (fun i => W0[i]?) = wr.map some) (hnd : (va_nd isC && va_nd isR && va_nd isW && isR.all (fun i => !isC.contains i)) = true) (hW1 : isW.map (fun i => (wr ++ w1)[i]?) = W1.map some)
   (hn : As.length = n) (hsize : ls.size = nL) (hstack : st0 = As.reverse ++ rest) (hroom : (rest.map fun v => v.category).sum ≤ 8) (hdg : decode cc pc = .ok (.invokestatic index, 3))
  (kk : ∀ (H1 : Heap) (locs1 : List Loc), va_P D vwCl W1 H1 → va_D A W1 → va_S A H0 H1 locs1 → W p l e R s m args below meth c H1 locs1 0 0 Q (F0 m (pc + 3) ls (rest))) :
  W p l e R s m args below meth c H locs 0 0 Q (F0 m pc ls st0) := by
  simp only [Bool.and_eq_true, List.all_eq_true, Bool.not_eq_true', List.contains_eq_mem, decide_eq_false_iff_not] at hnd
  obtain ⟨⟨⟨h1, h2⟩, h3⟩, h4⟩ := hnd
  have hPc := hP.sub isC (ng_sub hC)
  have hDc := hD.sub isC h1 hC
  have hFc := va_free (wc := wc) hD hS hA isC hC
  refine va_callv (va_runS (As := As) (rest := rest) S hM cw ⟨nx_blind, fun U hU hW => ⟨rfl, by rw [hU], by rw [hU]; exact hPc, va_K.moved hW.alike hK, hDc.weaken (fun _ _ _ _ => trivial), hN.warm hW⟩⟩ rfl hn hsize hstack (lv_room hroom) hdg ⟨Nat.zero_le _, Nat.zero_le _⟩) hS (fun q _ h => hFc q h) hFc (fun u t H1 locs1 ht hvm hw hB hz1 hk1 hS1 => ?_)
  obtain ⟨hP1, hD1⟩ := hB
  rw [ht] at hP1
  obtain ⟨hP2, hD2⟩ := va_join (wr := wr) (w1 := w1) hP hD isC isR hC hR h2 h4 hk1 hFc hP1 hD1
  skip
  exact kk H1 locs1 (hP2.sub isW (ng_sub hW1)) (hD2.sub isW h3 hW1) hS1


set_option maxHeartbeats 4000000 in
theorem nx_callNi {p : Program} {l : Launch} {e : Env} {R : Room} {s : State} {m : MethodId} {args : Array Value} {below : List Frame} {meth : Method} {c : Code} {H : Heap} {locs : List Loc} {Q : State → Prop} {Ts ws : List Cond} {cc bytes : ByteArray} {nL maxL index n : Nat} {own : String} {y : MethodName} {ret : Option FieldType} {rm : Room} {D : va_G} {cI : ClassId} {wc w1 wr W0 W1 : va_W} {A : Nat → Prop} {H0 : Heap} {As rest st0 : List Value} {pc : Nat} {ls : Array Slot} {ro : Int32} {host : String} (S : CallFix p m c cc nL s args Ts own) (hK : va_K D vwCl [(cI, .int)] s) (hN : nx_NW s) (hA : ∀ q : Nat, H0.size ≤ q → A q) (hP : va_P D vwCl W0 H) (hD : va_D A W0) (hS : va_S A H0 H locs)
  (hM : nx_I l y ws rm D cI As wc H.size ro w1) (cw : va_CN R s args own index y host bytes maxL ret ws rm 0 0 n ∧ (Cond.static y).before args s = true ∧ True)
  (isC isR isW : List Nat) (hC : isC.map (fun i => W0[i]?) = wc.map some) (hR : isR.map (fun i => W0[i]?) = wr.map some) (hnd : (va_nd isC && va_nd isR && va_nd isW && isR.all (fun i => !isC.contains i)) = true) (hW1 : isW.map (fun i => (wr ++ w1)[i]?) = W1.map some)
   (hn : As.length = n) (hsize : ls.size = nL) (hstack : st0 = As.reverse ++ rest) (hroom : (rest.map fun v => v.category).sum ≤ 8) (hdg : decode cc pc = .ok (.invokestatic index, 3))
  (kk : ∀ (H1 : Heap) (locs1 : List Loc), va_P D vwCl W1 H1 → va_D A W1 → va_S A H0 H1 locs1 → W p l e R s m args below meth c H1 locs1 0 0 Q (F0 m (pc + 3) ls (.int ro :: rest))) :
  W p l e R s m args below meth c H locs 0 0 Q (F0 m pc ls st0) := by
  simp only [Bool.and_eq_true, List.all_eq_true, Bool.not_eq_true', List.contains_eq_mem, decide_eq_false_iff_not] at hnd
  obtain ⟨⟨⟨h1, h2⟩, h3⟩, h4⟩ := hnd
  have hPc := hP.sub isC (ng_sub hC)
  have hDc := hD.sub isC h1 hC
  have hFc := va_free (wc := wc) hD hS hA isC hC
  refine va_calli (va_runSN (As := As) (rest := rest) S hM cw ⟨nx_blind, fun U hU hW => ⟨rfl, by rw [hU], by rw [hU]; exact hPc, va_K.moved hW.alike hK, hDc.weaken (fun _ _ _ _ => trivial), hN.warm hW⟩⟩ rfl hn hsize hstack (lv_room hroom) hdg ⟨Nat.zero_le _, Nat.zero_le _⟩) hS (fun q _ h => hFc q h) hFc (fun r u t H1 locs1 ht hvm hw hB hz1 hk1 hS1 => ?_)
  obtain ⟨hP1, hD1⟩ := hB
  rw [ht] at hP1
  obtain ⟨hP2, hD2⟩ := va_join (wr := wr) (w1 := w1) hP hD isC isR hC hR h2 h4 hk1 hFc hP1 hD1
  subst hw
  exact kk H1 locs1 (hP2.sub isW (ng_sub hW1)) (hD2.sub isW h3 hW1) hS1


set_option maxHeartbeats 4000000 in
theorem nx_callNv {p : Program} {l : Launch} {e : Env} {R : Room} {s : State} {m : MethodId} {args : Array Value} {below : List Frame} {meth : Method} {c : Code} {H : Heap} {locs : List Loc} {Q : State → Prop} {Ts ws : List Cond} {cc bytes : ByteArray} {nL maxL index n : Nat} {own : String} {y : MethodName} {ret : Option FieldType} {rm : Room} {D : va_G} {cI : ClassId} {wc w1 wr W0 W1 : va_W} {A : Nat → Prop} {H0 : Heap} {As rest st0 : List Value} {pc : Nat} {ls : Array Slot} {host : String} (S : CallFix p m c cc nL s args Ts own) (hK : va_K D vwCl [(cI, .int)] s) (hN : nx_NW s) (hA : ∀ q : Nat, H0.size ≤ q → A q) (hP : va_P D vwCl W0 H) (hD : va_D A W0) (hS : va_S A H0 H locs)
  (hM : nx_V l y ws rm D cI As wc H.size w1) (cw : va_CN R s args own index y host bytes maxL ret ws rm 0 0 n ∧ (Cond.static y).before args s = true ∧ True)
  (isC isR isW : List Nat) (hC : isC.map (fun i => W0[i]?) = wc.map some) (hR : isR.map (fun i => W0[i]?) = wr.map some) (hnd : (va_nd isC && va_nd isR && va_nd isW && isR.all (fun i => !isC.contains i)) = true) (hW1 : isW.map (fun i => (wr ++ w1)[i]?) = W1.map some)
   (hn : As.length = n) (hsize : ls.size = nL) (hstack : st0 = As.reverse ++ rest) (hroom : (rest.map fun v => v.category).sum ≤ 8) (hdg : decode cc pc = .ok (.invokestatic index, 3))
  (kk : ∀ (H1 : Heap) (locs1 : List Loc), va_P D vwCl W1 H1 → va_D A W1 → va_S A H0 H1 locs1 → W p l e R s m args below meth c H1 locs1 0 0 Q (F0 m (pc + 3) ls (rest))) :
  W p l e R s m args below meth c H locs 0 0 Q (F0 m pc ls st0) := by
  simp only [Bool.and_eq_true, List.all_eq_true, Bool.not_eq_true', List.contains_eq_mem, decide_eq_false_iff_not] at hnd
  obtain ⟨⟨⟨h1, h2⟩, h3⟩, h4⟩ := hnd
  have hPc := hP.sub isC (ng_sub hC)
  have hDc := hD.sub isC h1 hC
  have hFc := va_free (wc := wc) hD hS hA isC hC
  refine va_callv (va_runSN (As := As) (rest := rest) S hM cw ⟨nx_blind, fun U hU hW => ⟨rfl, by rw [hU], by rw [hU]; exact hPc, va_K.moved hW.alike hK, hDc.weaken (fun _ _ _ _ => trivial), hN.warm hW⟩⟩ rfl hn hsize hstack (lv_room hroom) hdg ⟨Nat.zero_le _, Nat.zero_le _⟩) hS (fun q _ h => hFc q h) hFc (fun u t H1 locs1 ht hvm hw hB hz1 hk1 hS1 => ?_)
  obtain ⟨hP1, hD1⟩ := hB
  rw [ht] at hP1
  obtain ⟨hP2, hD2⟩ := va_join (wr := wr) (w1 := w1) hP hD isC isR hC hR h2 h4 hk1 hFc hP1 hD1
  skip
  exact kk H1 locs1 (hP2.sub isW (ng_sub hW1)) (hD2.sub isW h3 hW1) hS1


theorem nx_get {p : Program} {l : Launch} {e : Env} {R : Room} {s : State} {m : MethodId} {args : Array Value} {below : List Frame} {meth : Method} {c : Code} {H : Heap} {locs : List Loc} {cells slots : Nat} {Q : State → Prop} {Ts : List Cond} {cc : ByteArray} {nL : Nat} {own : String} {D : va_G} {cI : ClassId} {W0 : va_W} {a : Nat} {rest : List Value} {pc : Nat} {ls : Array Slot} {C : String} (S : CallFix p m c cc nL s args Ts own) (hK : va_K D vwCl [(cI, .int)] s) (hP : va_P D vwCl W0 H) {T : u_T} {NF ci index : Nat} (q0 k : Nat) (hin : ∀ w ∈ u_ws C T NF, w ∈ Ts) (hlink : (Cond.fieldLink own index C (T k).2.1 (T k).2.2.1).before args s = true) {fs : List Value} (he : W0[q0]? = some (a, .inr (ci, fs))) (hc : vwCl[ci]? = some (C, T, NF)) (hk : k < NF) (hr : (T k).1 = C) {v : Value} (hv : fs[k]? = some v) (hdg : decode cc pc = .ok (.getfield index, 3)) (kk : W p l e R s m args below meth c H locs cells slots Q (F0 m (pc + 3) ls (v :: rest))) : W p l e R s m args below meth c H locs cells slots Q (F0 m pc ls (.ref a :: rest)) :=
  va_get (D := D) S.1 S.2.1 S.2.2.2.2 hin S.2.2.2.1 hK hP q0 he hc k hk hlink (fun x h => by rw [hr] at h; exact h) hv hdg kk
theorem nx_put {p : Program} {l : Launch} {e : Env} {R : Room} {s : State} {m : MethodId} {args : Array Value} {below : List Frame} {meth : Method} {c : Code} {H : Heap} {locs : List Loc} {cells slots : Nat} {Q : State → Prop} {Ts : List Cond} {cc : ByteArray} {nL : Nat} {own : String} {D : va_G} {cI : ClassId} {W0 : va_W} {a : Nat} {rest : List Value} {pc : Nat} {ls : Array Slot} {C : String} {A : Nat → Prop} {H0 : Heap} (S : CallFix p m c cc nL s args Ts own) (hK : va_K D vwCl [(cI, .int)] s) (hP : va_P D vwCl W0 H) (hD : va_D A W0) (hS : va_S A H0 H locs) {T : u_T} {NF ci index : Nat} (q0 k : Nat) (hin : ∀ w ∈ u_ws C T NF, w ∈ Ts) (ty0 : Nat → FieldType) (hty : ∀ k, k < NF → parseFieldDescriptor (T k).2.2.1 = some (ty0 k)) (hnm : ∀ a, a < NF → ∀ b, b < NF → a ≠ b → (T a).2.1 ≠ (T b).2.1) (hlink : (Cond.fieldLink own index C (T k).2.1 (T k).2.2.1).before args s = true) {fs : List Value} (he : W0[q0]? = some (a, .inr (ci, fs))) (hc : vwCl[ci]? = some (C, T, NF)) (hk : k < NF) (hr : (T k).1 = C) (hfin : (T k).2.2.2 = false) {v : Value} (hn : narrow (ty0 k) v = v) (hfit : fits (ty0 k) v = true) (hl : k < fs.length) (hdg : decode cc pc = .ok (.putfield index, 3)) {W1 : va_W} (hW : W0.set q0 (a, .inr (ci, fs.set k v)) = W1)
  (kk : ∀ (H1 : Heap) (locs1 : List Loc), va_P D vwCl W1 H1 → va_D A W1 → va_S A H0 H1 locs1 → W p l e R s m args below meth c H1 locs1 cells slots Q (F0 m (pc + 3) ls rest)) : W p l e R s m args below meth c H locs cells slots Q (F0 m pc ls (v :: .ref a :: rest)) :=
  va_put (D := D) S.1 S.2.1 S.2.2.2.2 hin ty0 hty hnm S.2.2.2.1 hK hP hD hS q0 he hc k hk hlink (fun x h => by rw [hr] at h; exact h) hfin (hty k hk) hn hfit hl hdg (fun H1 locs1 h1 h2 h3 => kk H1 locs1 (hW ▸ h1) (hW ▸ h2) h3)


theorem nx_getN {p : Program} {l : Launch} {e : Env} {R : Room} {s : State} {m : MethodId} {args : Array Value} {below : List Frame} {meth : Method} {c : Code} {H : Heap} {locs : List Loc} {cells slots : Nat} {Q : State → Prop} {Ts : List Cond} {cc : ByteArray} {nL : Nat} {own : String} {D : va_G} {cI : ClassId} {W0 : va_W} {a : Nat} {rest : List Value} {pc : Nat} {ls : Array Slot} {host : String} {C : String} (S : CallFix p m c cc nL s args Ts own) (hK : va_K D vwCl [(cI, .int)] s) (hP : va_P D vwCl W0 H) {T : u_T} {NF ci index : Nat} (q0 k : Nat) (hin : ∀ w ∈ u_ws C T NF, w ∈ Ts) (hlink : (Cond.fieldLinkNest own index C (T k).2.1 (T k).2.2.1 host).before args s = true) {fs : List Value} (he : W0[q0]? = some (a, .inr (ci, fs))) (hc : vwCl[ci]? = some (C, T, NF)) (hk : k < NF) (hr : (T k).1 = C) {v : Value} (hv : fs[k]? = some v) (hdg : decode cc pc = .ok (.getfield index, 3)) (kk : W p l e R s m args below meth c H locs cells slots Q (F0 m (pc + 3) ls (v :: rest))) : W p l e R s m args below meth c H locs cells slots Q (F0 m pc ls (.ref a :: rest)) :=
  va_getN (D := D) S.1 S.2.1 S.2.2.2.2 hin S.2.2.2.1 hK hP q0 he hc k hk hlink (fun x h => by rw [hr] at h; exact h) hv hdg kk
theorem nx_putN {p : Program} {l : Launch} {e : Env} {R : Room} {s : State} {m : MethodId} {args : Array Value} {below : List Frame} {meth : Method} {c : Code} {H : Heap} {locs : List Loc} {cells slots : Nat} {Q : State → Prop} {Ts : List Cond} {cc : ByteArray} {nL : Nat} {own : String} {D : va_G} {cI : ClassId} {W0 : va_W} {a : Nat} {rest : List Value} {pc : Nat} {ls : Array Slot} {host : String} {C : String} {A : Nat → Prop} {H0 : Heap} (S : CallFix p m c cc nL s args Ts own) (hK : va_K D vwCl [(cI, .int)] s) (hP : va_P D vwCl W0 H) (hD : va_D A W0) (hS : va_S A H0 H locs) {T : u_T} {NF ci index : Nat} (q0 k : Nat) (hin : ∀ w ∈ u_ws C T NF, w ∈ Ts) (ty0 : Nat → FieldType) (hty : ∀ k, k < NF → parseFieldDescriptor (T k).2.2.1 = some (ty0 k)) (hnm : ∀ a, a < NF → ∀ b, b < NF → a ≠ b → (T a).2.1 ≠ (T b).2.1) (hlink : (Cond.fieldLinkNest own index C (T k).2.1 (T k).2.2.1 host).before args s = true) {fs : List Value} (he : W0[q0]? = some (a, .inr (ci, fs))) (hc : vwCl[ci]? = some (C, T, NF)) (hk : k < NF) (hr : (T k).1 = C) (hfin : (T k).2.2.2 = false) {v : Value} (hn : narrow (ty0 k) v = v) (hfit : fits (ty0 k) v = true) (hl : k < fs.length) (hdg : decode cc pc = .ok (.putfield index, 3)) {W1 : va_W} (hW : W0.set q0 (a, .inr (ci, fs.set k v)) = W1)
  (kk : ∀ (H1 : Heap) (locs1 : List Loc), va_P D vwCl W1 H1 → va_D A W1 → va_S A H0 H1 locs1 → W p l e R s m args below meth c H1 locs1 cells slots Q (F0 m (pc + 3) ls rest)) : W p l e R s m args below meth c H locs cells slots Q (F0 m pc ls (v :: .ref a :: rest)) :=
  va_putN (D := D) S.1 S.2.1 S.2.2.2.2 hin ty0 hty hnm S.2.2.2.1 hK hP hD hS q0 he hc k hk hlink (fun x h => by rw [hr] at h; exact h) hfin (hty k hk) hn hfit hl hdg (fun H1 locs1 h1 h2 h3 => kk H1 locs1 (hW ▸ h1) (hW ▸ h2) h3)


theorem nx_iald {p : Program} {l : Launch} {e : Env} {R : Room} {s : State} {m : MethodId} {args : Array Value} {below : List Frame} {meth : Method} {c : Code} {H : Heap} {locs : List Loc} {cells slots : Nat} {Q : State → Prop} {Ts : List Cond} {cc : ByteArray} {nL : Nat} {own : String} {D : va_G} {cI : ClassId} {W0 : va_W} {a : Nat} {rest : List Value} {pc : Nat} {ls : Array Slot} (S : CallFix p m c cc nL s args Ts own) (hK : va_K D vwCl [(cI, .int)] s) (hP : va_P D vwCl W0 H) (q0 : Nat) {n : Nat} {f : Nat → Int32} {v : Int32} (ha : W0[q0]? = some (a, .inl (cI, n, .inl f))) {i : Int32} (hin : ¬ (i < 0 ∨ n ≤ i.toNatClampNeg)) (hv : f i.toNatClampNeg = v) (hdg : decode cc pc = .ok (.iaload, 1)) (kk : W p l e R s m args below meth c H locs cells slots Q (F0 m (pc + 1) ls (.int v :: rest))) : W p l e R s m args below meth c H locs cells slots Q (F0 m pc ls (.int i :: .ref a :: rest)) :=
  va_iald S.1 S.2.1 hK hP q0 0 ha rfl hin hdg (hv ▸ kk)
theorem nx_iast {p : Program} {l : Launch} {e : Env} {R : Room} {s : State} {m : MethodId} {args : Array Value} {below : List Frame} {meth : Method} {c : Code} {H : Heap} {locs : List Loc} {cells slots : Nat} {Q : State → Prop} {Ts : List Cond} {cc : ByteArray} {nL : Nat} {own : String} {D : va_G} {cI : ClassId} {W0 : va_W} {a : Nat} {rest : List Value} {pc : Nat} {ls : Array Slot} {A : Nat → Prop} {H0 : Heap} (S : CallFix p m c cc nL s args Ts own) (hK : va_K D vwCl [(cI, .int)] s) (hP : va_P D vwCl W0 H) (hD : va_D A W0) (hS : va_S A H0 H locs) (q0 : Nat) {n : Nat} {f : Nat → Int32} (ha : W0[q0]? = some (a, .inl (cI, n, .inl f))) {i x : Int32} (hin : ¬ (i < 0 ∨ n ≤ i.toNatClampNeg)) (hdg : decode cc pc = .ok (.iastore, 1)) {W1 : va_W} (hW : W0.set q0 (a, .inl (cI, n, .inl (upd f i.toNatClampNeg x))) = W1)
  (kk : ∀ (H1 : Heap) (locs1 : List Loc), va_P D vwCl W1 H1 → va_D A W1 → va_S A H0 H1 locs1 → W p l e R s m args below meth c H1 locs1 cells slots Q (F0 m (pc + 1) ls rest)) : W p l e R s m args below meth c H locs cells slots Q (F0 m pc ls (.int x :: .int i :: .ref a :: rest)) :=
  va_iast S.1 S.2.1 hK hP hD hS q0 0 ha rfl hin hdg (fun H1 locs1 h1 h2 h3 => kk H1 locs1 (hW ▸ h1) (hW ▸ h2) h3)
theorem nx_alen {p : Program} {l : Launch} {e : Env} {R : Room} {s : State} {m : MethodId} {args : Array Value} {below : List Frame} {meth : Method} {c : Code} {H : Heap} {locs : List Loc} {cells slots : Nat} {Q : State → Prop} {Ts : List Cond} {cc : ByteArray} {nL : Nat} {own : String} {D : va_G} {cI : ClassId} {W0 : va_W} {a : Nat} {rest : List Value} {pc : Nat} {ls : Array Slot} (S : CallFix p m c cc nL s args Ts own) (hK : va_K D vwCl [(cI, .int)] s) (hP : va_P D vwCl W0 H) (q0 : Nat) {n : Nat} {f : Nat → Int32} {v : Int32} (ha : W0[q0]? = some (a, .inl (cI, n, .inl f))) (hv : Int32.ofNat n = v) (hdg : decode cc pc = .ok (.arraylength, 1)) (kk : W p l e R s m args below meth c H locs cells slots Q (F0 m (pc + 1) ls (.int v :: rest))) : W p l e R s m args below meth c H locs cells slots Q (F0 m pc ls (.ref a :: rest)) :=
  va_alen S.1 S.2.1 hK hP q0 0 ha rfl hv hdg kk


theorem nx_copy {p : Program} {l : Launch} {e : Env} {R : Room} {s : State} {m : MethodId} {args : Array Value} {below : List Frame} {meth : Method} {c : Code} {H : Heap} {locs : List Loc} {cells slots : Nat} {Q : State → Prop} {Ts : List Cond} {cc : ByteArray} {nL : Nat} {own : String} {D : va_G} {cI : ClassId} {W0 : va_W} {a : Nat} {rest : List Value} {pc : Nat} {ls : Array Slot} {A : Nat → Prop} {H0 : Heap} (S : CallFix p m c cc nL s args Ts own) (hK : va_K D vwCl [(cI, .int)] s) (hP : va_P D vwCl W0 H) (hD : va_D A W0) (hS : va_S A H0 H locs) {lv : List (Nat × Value)} (hl : lv_has ls nL lv) {index : Nat} (hlink : (Cond.methodLink own index arraycopyName).before args s = true) (hnat : (Cond.native arraycopyName).before args s = true) (hstat : (Cond.static arraycopyName).before args s = true) (hini : (Cond.initialized "java/lang/System").before args s = true) (q0 q1 : Nat) {a0 n0 n1 : Nat} {f g : Nat → Int32} (ha0 : W0[q0]? = some (a0, .inl (cI, n0, .inl f))) (ha1 : W0[q1]? = some (a, .inl (cI, n1, .inl g))) {sp dp n : Int32} (hg : ¬ sp < 0 ∧ ¬ dp < 0 ∧ ¬ n < 0 ∧ sp.toNatClampNeg + n.toNatClampNeg ≤ n0 ∧ dp.toNatClampNeg + n.toNatClampNeg ≤ n1) (hframes : 1 ≤ R.frames) (hlocals : (rest.map fun v => v.category).sum + (nativeFrameWords "java/lang/System" "arraycopy" 5 + 11) ≤ R.locals) (hdg : decode cc pc = .ok (.invokestatic index, 3)) {W1 : va_W} (hW : W0.set q1 (a, .inl (cI, n1, .inl (va_cpy f g sp.toNatClampNeg dp.toNatClampNeg n.toNatClampNeg))) = W1)
  (kk : ∀ (H1 : Heap) (locs1 : List Loc), va_P D vwCl W1 H1 → va_D A W1 → va_S A H0 H1 locs1 → W p l e R s m args below meth c H1 locs1 cells slots Q (F0 m (pc + 3) ls rest)) : W p l e R s m args below meth c H locs cells slots Q (F0 m pc ls (.int n :: .int dp :: .ref a :: .int sp :: .ref a0 :: rest)) :=
  va_copyi S.1 S.2.1 (S.2.2.1.trans hl.1.symm) S.2.2.2.1 hlink hnat hstat hini hK hP hD hS q0 q1 0 0 ha0 ha1 rfl rfl rfl hg.1 hg.2.1 hg.2.2.1 hg.2.2.2.1 hg.2.2.2.2 (fun _ _ => rfl) hframes hlocals hdg (fun H1 locs1 h1 h2 h3 => kk H1 locs1 (hW ▸ h1) (hW ▸ h2) h3)
theorem nx_off {ps : List (Int × Int)} {dflt k : Int} (vs : List Int) (h1 : ps.map (fun q => q.1) = vs) (h2 : ∀ z ∈ vs, ¬ k = z) : Op.lookupswitch.offset ps dflt k = dflt := by
  subst h1
  induction ps with
  | nil => rfl
  | cons a r ih =>
    obtain ⟨x, y⟩ := a
    rw [Op.lookupswitch.offset_cons, if_neg (fun h => h2 x List.mem_cons_self h.symm)]
    exact ih (fun z hz => h2 z (List.mem_cons_of_mem _ hz))
