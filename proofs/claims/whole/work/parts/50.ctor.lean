/-! ===== what makes cells ===== -/
theorem nx_newa {p : Program} {l : Launch} {e : Env} {R : Room} {s : State} {m : MethodId} {args : Array Value} {below : List Frame} {meth : Method} {c : Code} {H : Heap} {locs : List Loc} {cells slots : Nat} {Q : State → Prop} {Ts : List Cond} {cc : ByteArray} {nL : Nat} {own : String} {D : va_G} {cI : ClassId} {W0 : va_W} {rest : List Value} {pc : Nat} {ls : Array Slot} {A : Nat → Prop} {H0 : Heap} (S : CallFix p m c cc nL s args Ts own) (hK : va_K D vwCl [(cI, .int)] s) (hP : va_P D vwCl W0 H) (hD : va_D A W0) (hS : va_S A H0 H locs) (hA : ∀ q : Nat, H0.size ≤ q → A q) (harr : (Cond.arrayClass .int).before args s = true) {n : Int32} {N' : Nat} (hn : ¬ n < 0) (hN : n.toNatClampNeg = N') (hbytes : N' ≤ 100000) (hcells : cells + 1 ≤ R.cells) (hslots : slots + N' ≤ R.slots) (hdg : decode cc pc = .ok (.newarray .int, 2))
  (kk : ∀ (q : Nat) (H1 : Heap), va_P D vwCl (W0 ++ [(q, .inl (cI, N', .inl fun _ => 0))]) H1 → va_D A (W0 ++ [(q, .inl (cI, N', .inl fun _ => 0))]) → va_S A H0 H1 locs → W p l e R s m args below meth c H1 locs (cells + 1) (slots + N') Q (F0 m (pc + 2) ls (.ref q :: rest))) : W p l e R s m args below meth c H locs cells slots Q (F0 m pc ls (.int n :: rest)) := by
  refine va_newa (D := D) (cl := vwCl) (ws := W0) (a0 := (N', .inl fun _ => 0)) (N' := N') S.1 S.2.1 (atype := .int) harr rfl hK hP hD hS hA (fun cA => rfl) hn hN (by show N' * 4 ≤ _; omega) hcells hslots hdg ?_
  intro q cA H1 hK1 hP1 hD1 hS1
  have e : cA = cI := by
    have h1 : s.vm.findClass ("[" ++ FieldType.int.toString) = some cI := (hK1.2 0 (cI, .int) rfl).2
    have h2 : s.vm.findClass ("[" ++ FieldType.int.toString) = some cA := (hK1.2 1 (cA, .int) rfl).2
    rw [h1] at h2
    injection h2 with h3
    exact h3.symm
  subst e
  exact kk q H1 hP1 hD1 hS1
