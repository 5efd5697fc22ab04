section MK
variable {p : Program} {l : Launch} {e : Env} {R : Room} {s : State} {m : MethodId} {args : Array Value} {below : List Frame} {meth : Method} {c : Code} {H : Heap} {locs : List Loc} {cells slots : Nat} {Q : State → Prop}
variable {cc : ByteArray} {pc nL : Nat} {ls : Array Slot} {rest st0 : List Value} {Ts : List Cond} {own : String} {g : Gx} {ws : va_W} {A : Nat → Prop} {H0 : Heap} {a : Nat}
theorem Met_roi {y : MethodName} {tw ws' : List Cond} {rm : Room} {As : List Value} {r : Int32} {maxL : Nat} (hy : plainName y.cls = true) (hw : tw = Cond.code y cc maxL (some .int) :: ws') (hAs : (lg_sl As).length ≤ maxL)
    (body : ∀ (p : Program) (e : Env) (s : State) (m : MethodId) (args : Array Value) (below : List Frame) (meth : Method) (c : Code) (Q : State → Prop), CallFix p m c cc maxL s args tw y.cls → (∀ (ls : Array Slot) (pc : Nat) (v : Int32) , decode cc pc = .ok (.ireturn, 1) → v = r → W p l e rm s m args below meth c s.heap [] 0 0 Q (F0 m pc ls [.int v])) → va_K g.1 vwCl (tyl g) s → va_P g.1 vwCl ws s.heap → ∀ ls : Array Slot, lv_has ls maxL (lv_args 0 As) → W p l e rm s m args below meth c s.heap [] 0 0 Q (F0 m 0 ls [])) : Met l y tw rm (va_Pc As (RO g ws)) (vp_Si (fun x => x = r)) 0 0 (fun _ => False) := by
  refine Met.ofW (cc := cc) (maxL := maxL) (ret := (some .int)) hy hw ?_
  intro p e s m args below meth c s₁ B hml hv
  obtain ⟨rfl, hP, hK⟩ := hv
  have hl := lv_entry As (n := maxL) hAs
  rw [lg_entry_eq]
  exact body p e s m _ below meth c _ ⟨B.exec, B.bytes, hml, findClass_of_methodNamed B.named, atoms_spec (ws := tw) B.pre⟩ (fun ls pc v hd hv => W.iret B.exec B.bytes B.returns (fun t ht hW => ⟨v, rfl, hv, ht⟩) (fun _ h => nomatch h) hd B.notSynchronized) hK hP _ hl
theorem Met_roz {y : MethodName} {tw ws' : List Cond} {rm : Room} {As : List Value} {r : Int32} {maxL : Nat} (hy : plainName y.cls = true) (hw : tw = Cond.code y cc maxL (some .boolean) :: ws') (hAs : (lg_sl As).length ≤ maxL)
    (body : ∀ (p : Program) (e : Env) (s : State) (m : MethodId) (args : Array Value) (below : List Frame) (meth : Method) (c : Code) (Q : State → Prop), CallFix p m c cc maxL s args tw y.cls → (∀ (ls : Array Slot) (pc : Nat) (v : Int32) , decode cc pc = .ok (.ireturn, 1) → narrow .boolean (.int v) = .int v → v = r → W p l e rm s m args below meth c s.heap [] 0 0 Q (F0 m pc ls [.int v])) → va_K g.1 vwCl (tyl g) s → va_P g.1 vwCl ws s.heap → ∀ ls : Array Slot, lv_has ls maxL (lv_args 0 As) → W p l e rm s m args below meth c s.heap [] 0 0 Q (F0 m 0 ls [])) : Met l y tw rm (va_Pc As (RO g ws)) (vp_Si (fun x => x = r)) 0 0 (fun _ => False) := by
  refine Met.ofW (cc := cc) (maxL := maxL) (ret := (some .boolean)) hy hw ?_
  intro p e s m args below meth c s₁ B hml hv
  obtain ⟨rfl, hP, hK⟩ := hv
  have hl := lv_entry As (n := maxL) hAs
  rw [lg_entry_eq]
  exact body p e s m _ below meth c _ ⟨B.exec, B.bytes, hml, findClass_of_methodNamed B.named, atoms_spec (ws := tw) B.pre⟩ (fun ls pc v hd hn hv => W.zret B.exec B.bytes B.returns hn (fun t ht hW => ⟨v, rfl, hv, ht⟩) (fun _ h => nomatch h) hd B.notSynchronized) hK hP _ hl
theorem Met_rol {y : MethodName} {tw ws' : List Cond} {rm : Room} {As : List Value} {r : Int64} {maxL : Nat} (hy : plainName y.cls = true) (hw : tw = Cond.code y cc maxL (some .long) :: ws') (hAs : (lg_sl As).length ≤ maxL)
    (body : ∀ (p : Program) (e : Env) (s : State) (m : MethodId) (args : Array Value) (below : List Frame) (meth : Method) (c : Code) (Q : State → Prop), CallFix p m c cc maxL s args tw y.cls → (∀ (ls : Array Slot) (pc : Nat) (v : Int64) , decode cc pc = .ok (.lreturn, 1) → v = r → W p l e rm s m args below meth c s.heap [] 0 0 Q (F0 m pc ls [.long v])) → va_K g.1 vwCl (tyl g) s → va_P g.1 vwCl ws s.heap → ∀ ls : Array Slot, lv_has ls maxL (lv_args 0 As) → W p l e rm s m args below meth c s.heap [] 0 0 Q (F0 m 0 ls [])) : Met l y tw rm (va_Pc As (RO g ws)) (vp_Sl (fun x => x = r)) 0 0 (fun _ => False) := by
  refine Met.ofW (cc := cc) (maxL := maxL) (ret := (some .long)) hy hw ?_
  intro p e s m args below meth c s₁ B hml hv
  obtain ⟨rfl, hP, hK⟩ := hv
  have hl := lv_entry As (n := maxL) hAs
  rw [lg_entry_eq]
  exact body p e s m _ below meth c _ ⟨B.exec, B.bytes, hml, findClass_of_methodNamed B.named, atoms_spec (ws := tw) B.pre⟩ (fun ls pc v hd hv => W.lret B.exec B.bytes B.returns (fun t ht hW => ⟨v, rfl, hv, ht⟩) (fun _ h => nomatch h) hd B.notSynchronized) hK hP _ hl
theorem Met_sti {y : MethodName} {tw ws' : List Cond} {rm : Room} {As : List Value} {r : Int32} {maxL : Nat} (hy : plainName y.cls = true) (hw : tw = Cond.code y cc maxL (some .int) :: ws') (hAs : (lg_sl As).length ≤ maxL)
    (body : ∀ (p : Program) (e : Env) (s : State) (m : MethodId) (args : Array Value) (below : List Frame) (meth : Method) (c : Code) (Q : State → Prop), CallFix p m c cc maxL s args tw y.cls → (∀ (ls : Array Slot) (pc : Nat) (v : Int32) , decode cc pc = .ok (.ireturn, 1) → v = r → W p l e rm s m args below meth c s.heap [] 0 0 Q (F0 m pc ls [.int v])) → ∀ ls : Array Slot, lv_has ls maxL (lv_args 0 As) → W p l e rm s m args below meth c s.heap [] 0 0 Q (F0 m 0 ls [])) : Met l y tw rm (va_Pc As (fun _ => True)) (vp_Si (fun x => x = r)) 0 0 (fun _ => False) := by
  refine Met.ofW (cc := cc) (maxL := maxL) (ret := (some .int)) hy hw ?_
  intro p e s m args below meth c s₁ B hml hv
  obtain ⟨rfl, -⟩ := hv
  have hl := lv_entry As (n := maxL) hAs
  rw [lg_entry_eq]
  exact body p e s m _ below meth c _ ⟨B.exec, B.bytes, hml, findClass_of_methodNamed B.named, atoms_spec (ws := tw) B.pre⟩ (fun ls pc v hd hv => W.iret B.exec B.bytes B.returns (fun t ht hW => ⟨v, rfl, hv, ht⟩) (fun _ h => nomatch h) hd B.notSynchronized) _ hl
theorem Met_stz {y : MethodName} {tw ws' : List Cond} {rm : Room} {As : List Value} {r : Int32} {maxL : Nat} (hy : plainName y.cls = true) (hw : tw = Cond.code y cc maxL (some .boolean) :: ws') (hAs : (lg_sl As).length ≤ maxL)
    (body : ∀ (p : Program) (e : Env) (s : State) (m : MethodId) (args : Array Value) (below : List Frame) (meth : Method) (c : Code) (Q : State → Prop), CallFix p m c cc maxL s args tw y.cls → (∀ (ls : Array Slot) (pc : Nat) (v : Int32) , decode cc pc = .ok (.ireturn, 1) → narrow .boolean (.int v) = .int v → v = r → W p l e rm s m args below meth c s.heap [] 0 0 Q (F0 m pc ls [.int v])) → ∀ ls : Array Slot, lv_has ls maxL (lv_args 0 As) → W p l e rm s m args below meth c s.heap [] 0 0 Q (F0 m 0 ls [])) : Met l y tw rm (va_Pc As (fun _ => True)) (vp_Si (fun x => x = r)) 0 0 (fun _ => False) := by
  refine Met.ofW (cc := cc) (maxL := maxL) (ret := (some .boolean)) hy hw ?_
  intro p e s m args below meth c s₁ B hml hv
  obtain ⟨rfl, -⟩ := hv
  have hl := lv_entry As (n := maxL) hAs
  rw [lg_entry_eq]
  exact body p e s m _ below meth c _ ⟨B.exec, B.bytes, hml, findClass_of_methodNamed B.named, atoms_spec (ws := tw) B.pre⟩ (fun ls pc v hd hn hv => W.zret B.exec B.bytes B.returns hn (fun t ht hW => ⟨v, rfl, hv, ht⟩) (fun _ h => nomatch h) hd B.notSynchronized) _ hl
theorem Met_stl {y : MethodName} {tw ws' : List Cond} {rm : Room} {As : List Value} {r : Int64} {maxL : Nat} (hy : plainName y.cls = true) (hw : tw = Cond.code y cc maxL (some .long) :: ws') (hAs : (lg_sl As).length ≤ maxL)
    (body : ∀ (p : Program) (e : Env) (s : State) (m : MethodId) (args : Array Value) (below : List Frame) (meth : Method) (c : Code) (Q : State → Prop), CallFix p m c cc maxL s args tw y.cls → (∀ (ls : Array Slot) (pc : Nat) (v : Int64) , decode cc pc = .ok (.lreturn, 1) → v = r → W p l e rm s m args below meth c s.heap [] 0 0 Q (F0 m pc ls [.long v])) → ∀ ls : Array Slot, lv_has ls maxL (lv_args 0 As) → W p l e rm s m args below meth c s.heap [] 0 0 Q (F0 m 0 ls [])) : Met l y tw rm (va_Pc As (fun _ => True)) (vp_Sl (fun x => x = r)) 0 0 (fun _ => False) := by
  refine Met.ofW (cc := cc) (maxL := maxL) (ret := (some .long)) hy hw ?_
  intro p e s m args below meth c s₁ B hml hv
  obtain ⟨rfl, -⟩ := hv
  have hl := lv_entry As (n := maxL) hAs
  rw [lg_entry_eq]
  exact body p e s m _ below meth c _ ⟨B.exec, B.bytes, hml, findClass_of_methodNamed B.named, atoms_spec (ws := tw) B.pre⟩ (fun ls pc v hd hv => W.lret B.exec B.bytes B.returns (fun t ht hW => ⟨v, rfl, hv, ht⟩) (fun _ h => nomatch h) hd B.notSynchronized) _ hl
theorem Met_rwi {y : MethodName} {tw ws' : List Cond} {rm : Room} {As : List Value} {r : Int32} {sz : Nat} {w1 : va_W} {maxL : Nat} (hy : plainName y.cls = true) (hw : tw = Cond.code y cc maxL (some .int) :: ws') (hAs : (lg_sl As).length ≤ maxL)
    (body : ∀ (p : Program) (e : Env) (s : State) (m : MethodId) (args : Array Value) (below : List Frame) (meth : Method) (c : Code) (A : Nat → Prop) (Q : State → Prop), CallFix p m c cc maxL s args tw y.cls → va_K g.1 vwCl (tyl g) s → (∀ q : Nat, s.heap.size ≤ q → A q) → (∀ (H : Heap) (locs : List Loc) (ls : Array Slot) (pc : Nat) (v : Int32) , decode cc pc = .ok (.ireturn, 1) → v = r → Wd g A s.heap w1 H locs → W p l e rm s m args below meth c H locs 0 0 Q (F0 m pc ls [.int v])) → Wd g A s.heap ws s.heap [] → ∀ ls : Array Slot, lv_has ls maxL (lv_args 0 As) → W p l e rm s m args below meth c s.heap [] 0 0 Q (F0 m 0 ls [])) : Met l y tw rm (va_Pc As (RWp g sz ws)) (va_Qi (fun x (_ : Unit) => x = r) (fun _ => RWq g (va_A ws sz) w1) (va_A ws sz)) 0 0 (va_A ws sz) := by
  refine Met.ofW (cc := cc) (maxL := maxL) (ret := (some .int)) hy hw ?_
  intro p e s m args below meth c s₁ B hml hv
  obtain ⟨rfl, hsz, hP, hK, hD0⟩ := hv
  subst hsz
  have hl := lv_entry As (n := maxL) hAs
  rw [lg_entry_eq]
  exact body p e s m _ below meth c (va_A ws s.heap.size) _ ⟨B.exec, B.bytes, hml, findClass_of_methodNamed B.named, atoms_spec (ws := tw) B.pre⟩ hK (fun q h => Or.inr h) (fun H locs ls pc v hd hv w => W.iret B.exec B.bytes B.returns (fun t ht hW => ⟨⟨v, (), rfl, hv, by rw [ht]; exact w.1, va_K.moved hW.alike hK, w.2.1⟩, w.2.2.F ht⟩) w.2.2.2.2 hd B.notSynchronized) ⟨hP, hD0.self, va_S.rf⟩ _ hl
theorem Met_rwz {y : MethodName} {tw ws' : List Cond} {rm : Room} {As : List Value} {r : Int32} {sz : Nat} {w1 : va_W} {maxL : Nat} (hy : plainName y.cls = true) (hw : tw = Cond.code y cc maxL (some .boolean) :: ws') (hAs : (lg_sl As).length ≤ maxL)
    (body : ∀ (p : Program) (e : Env) (s : State) (m : MethodId) (args : Array Value) (below : List Frame) (meth : Method) (c : Code) (A : Nat → Prop) (Q : State → Prop), CallFix p m c cc maxL s args tw y.cls → va_K g.1 vwCl (tyl g) s → (∀ q : Nat, s.heap.size ≤ q → A q) → (∀ (H : Heap) (locs : List Loc) (ls : Array Slot) (pc : Nat) (v : Int32) , decode cc pc = .ok (.ireturn, 1) → narrow .boolean (.int v) = .int v → v = r → Wd g A s.heap w1 H locs → W p l e rm s m args below meth c H locs 0 0 Q (F0 m pc ls [.int v])) → Wd g A s.heap ws s.heap [] → ∀ ls : Array Slot, lv_has ls maxL (lv_args 0 As) → W p l e rm s m args below meth c s.heap [] 0 0 Q (F0 m 0 ls [])) : Met l y tw rm (va_Pc As (RWp g sz ws)) (va_Qi (fun x (_ : Unit) => x = r) (fun _ => RWq g (va_A ws sz) w1) (va_A ws sz)) 0 0 (va_A ws sz) := by
  refine Met.ofW (cc := cc) (maxL := maxL) (ret := (some .boolean)) hy hw ?_
  intro p e s m args below meth c s₁ B hml hv
  obtain ⟨rfl, hsz, hP, hK, hD0⟩ := hv
  subst hsz
  have hl := lv_entry As (n := maxL) hAs
  rw [lg_entry_eq]
  exact body p e s m _ below meth c (va_A ws s.heap.size) _ ⟨B.exec, B.bytes, hml, findClass_of_methodNamed B.named, atoms_spec (ws := tw) B.pre⟩ hK (fun q h => Or.inr h) (fun H locs ls pc v hd hn hv w => W.zret B.exec B.bytes B.returns hn (fun t ht hW => ⟨⟨v, (), rfl, hv, by rw [ht]; exact w.1, va_K.moved hW.alike hK, w.2.1⟩, w.2.2.F ht⟩) w.2.2.2.2 hd B.notSynchronized) ⟨hP, hD0.self, va_S.rf⟩ _ hl
theorem Met_rwl {y : MethodName} {tw ws' : List Cond} {rm : Room} {As : List Value} {r : Int64} {sz : Nat} {w1 : va_W} {maxL : Nat} (hy : plainName y.cls = true) (hw : tw = Cond.code y cc maxL (some .long) :: ws') (hAs : (lg_sl As).length ≤ maxL)
    (body : ∀ (p : Program) (e : Env) (s : State) (m : MethodId) (args : Array Value) (below : List Frame) (meth : Method) (c : Code) (A : Nat → Prop) (Q : State → Prop), CallFix p m c cc maxL s args tw y.cls → va_K g.1 vwCl (tyl g) s → (∀ q : Nat, s.heap.size ≤ q → A q) → (∀ (H : Heap) (locs : List Loc) (ls : Array Slot) (pc : Nat) (v : Int64) , decode cc pc = .ok (.lreturn, 1) → v = r → Wd g A s.heap w1 H locs → W p l e rm s m args below meth c H locs 0 0 Q (F0 m pc ls [.long v])) → Wd g A s.heap ws s.heap [] → ∀ ls : Array Slot, lv_has ls maxL (lv_args 0 As) → W p l e rm s m args below meth c s.heap [] 0 0 Q (F0 m 0 ls [])) : Met l y tw rm (va_Pc As (RWp g sz ws)) (va_Ql (fun x (_ : Unit) => x = r) (fun _ => RWq g (va_A ws sz) w1) (va_A ws sz)) 0 0 (va_A ws sz) := by
  refine Met.ofW (cc := cc) (maxL := maxL) (ret := (some .long)) hy hw ?_
  intro p e s m args below meth c s₁ B hml hv
  obtain ⟨rfl, hsz, hP, hK, hD0⟩ := hv
  subst hsz
  have hl := lv_entry As (n := maxL) hAs
  rw [lg_entry_eq]
  exact body p e s m _ below meth c (va_A ws s.heap.size) _ ⟨B.exec, B.bytes, hml, findClass_of_methodNamed B.named, atoms_spec (ws := tw) B.pre⟩ hK (fun q h => Or.inr h) (fun H locs ls pc v hd hv w => W.lret B.exec B.bytes B.returns (fun t ht hW => ⟨⟨v, (), rfl, hv, by rw [ht]; exact w.1, va_K.moved hW.alike hK, w.2.1⟩, w.2.2.F ht⟩) w.2.2.2.2 hd B.notSynchronized) ⟨hP, hD0.self, va_S.rf⟩ _ hl
theorem Met_rwv {y : MethodName} {tw ws' : List Cond} {rm : Room} {As : List Value} {sz : Nat} {w1 : va_W} {maxL : Nat} (hy : plainName y.cls = true) (hw : tw = Cond.code y cc maxL none :: ws') (hAs : (lg_sl As).length ≤ maxL)
    (body : ∀ (p : Program) (e : Env) (s : State) (m : MethodId) (args : Array Value) (below : List Frame) (meth : Method) (c : Code) (A : Nat → Prop) (Q : State → Prop), CallFix p m c cc maxL s args tw y.cls → va_K g.1 vwCl (tyl g) s → (∀ q : Nat, s.heap.size ≤ q → A q) → (∀ (H : Heap) (locs : List Loc) (ls : Array Slot) (pc : Nat) , decode cc pc = .ok (.return_, 1) → Wd g A s.heap w1 H locs → W p l e rm s m args below meth c H locs 0 0 Q (F0 m pc ls [])) → Wd g A s.heap ws s.heap [] → ∀ ls : Array Slot, lv_has ls maxL (lv_args 0 As) → W p l e rm s m args below meth c s.heap [] 0 0 Q (F0 m 0 ls [])) : Met l y tw rm (va_Pc As (RWp g sz ws)) (va_Qv (fun _ : Unit => True) (fun _ => RWq g (va_A ws sz) w1) (va_A ws sz)) 0 0 (va_A ws sz) := by
  refine Met.ofW (cc := cc) (maxL := maxL) (ret := none) hy hw ?_
  intro p e s m args below meth c s₁ B hml hv
  obtain ⟨rfl, hsz, hP, hK, hD0⟩ := hv
  subst hsz
  have hl := lv_entry As (n := maxL) hAs
  rw [lg_entry_eq]
  exact body p e s m _ below meth c (va_A ws s.heap.size) _ ⟨B.exec, B.bytes, hml, findClass_of_methodNamed B.named, atoms_spec (ws := tw) B.pre⟩ hK (fun q h => Or.inr h) (fun H locs ls pc hd w => W.vret B.exec B.bytes B.returns (fun t ht hW => ⟨⟨(), rfl, trivial, by rw [ht]; exact w.1, va_K.moved hW.alike hK, w.2.1⟩, w.2.2.F ht⟩) w.2.2.2.2 hd B.notSynchronized) ⟨hP, hD0.self, va_S.rf⟩ _ hl
theorem r_get (C : CallFix p m c cc nL s args Ts own) (hK : va_K g.1 vwCl (tyl g) s) (hP : va_P g.1 vwCl ws H) {Cn : String} {T : u_T} {N ci index : Nat} (hin : ∀ w ∈ u_ws Cn T N, w ∈ Ts) (q0 : Nat) {fs : List Value} (he : ws[q0]? = some (a, .inr (ci, fs))) (hc : vwCl[ci]? = some (Cn, T, N)) (k : Nat) (hk : k < N) (hlink : Cond.fieldLink own index (T k).1 (T k).2.1 (T k).2.2.1 ∈ Ts) {v : Value} (hv : fs[k]? = some v) (hdg : decode cc pc = .ok (.getfield index, 3))
    (kk : W p l e R s m args below meth c H locs cells slots Q (F0 m (pc + 3) ls (v :: rest))) : W p l e R s m args below meth c H locs cells slots Q (F0 m pc ls (.ref a :: rest)) :=
  va_get C.1 C.2.1 C.2.2.2.2 hin C.2.2.2.1 hK hP q0 he hc k hk (C.2.2.2.2 _ hlink) (fun _ h => h) hv hdg kk
theorem r_put (C : CallFix p m c cc nL s args Ts own) (hK : va_K g.1 vwCl (tyl g) s) (w : Wd g A H0 ws H locs) {Cn : String} {T : u_T} {N ci index : Nat} (hin : ∀ w ∈ u_ws Cn T N, w ∈ Ts) (ty0 : Nat → FieldType) (hty : ∀ k, k < N → parseFieldDescriptor (T k).2.2.1 = some (ty0 k)) (hnm : ∀ a, a < N → ∀ b, b < N → a ≠ b → (T a).2.1 ≠ (T b).2.1) (q0 : Nat) {fs : List Value} (he : ws[q0]? = some (a, .inr (ci, fs))) (hc : vwCl[ci]? = some (Cn, T, N)) (k : Nat) (hk : k < N) (hlink : Cond.fieldLink own index (T k).1 (T k).2.1 (T k).2.2.1 ∈ Ts) (hfin : (T k).2.2.2 = false) {v : Value} (hn : narrow (ty0 k) v = v) (hfit : fits (ty0 k) v = true) (hl : k < fs.length) (hdg : decode cc pc = .ok (.putfield index, 3))
    (kk : ∀ (H1 : Heap) (locs1 : List Loc), Wd g A H0 (ws.set q0 (a, .inr (ci, fs.set k v))) H1 locs1 → W p l e R s m args below meth c H1 locs1 cells slots Q (F0 m (pc + 3) ls rest)) : W p l e R s m args below meth c H locs cells slots Q (F0 m pc ls (v :: .ref a :: rest)) :=
  va_put C.1 C.2.1 C.2.2.2.2 hin ty0 hty hnm C.2.2.2.1 hK w.1 w.2.1 w.2.2 q0 he hc k hk (C.2.2.2.2 _ hlink) (fun _ h => h) hfin (hty k hk) hn hfit hl hdg (fun H1 l1 h1 h2 h3 => kk H1 l1 ⟨h1, h2, h3⟩)
theorem r_iald {k : Nat} (C : CallFix p m c cc nL s args Ts own) (hK : va_K g.1 vwCl (tyl g) s) (hP : va_P g.1 vwCl ws H) (q0 : Nat) {n : Nat} {f : AI} (ha : ws[q0]? = some (arI g a n f)) {i : Int32} (hin : vp_in i n) (hik : i.toNatClampNeg = k) (hdg : decode cc pc = .ok (.iaload, 1))
    (kk : W p l e R s m args below meth c H locs cells slots Q (F0 m (pc + 1) ls (.int (f k) :: rest))) : W p l e R s m args below meth c H locs cells slots Q (F0 m pc ls (.int i :: .ref a :: rest)) :=
  va_iald C.1 C.2.1 hK hP q0 0 ha rfl hin hdg (by rw [hik]; exact kk)
theorem r_zald {k : Nat} (C : CallFix p m c cc nL s args Ts own) (hK : va_K g.1 vwCl (tyl g) s) (hP : va_P g.1 vwCl ws H) (q0 : Nat) {n : Nat} {f : AI} (ha : ws[q0]? = some (arZ g a n f)) {i : Int32} (hin : vp_in i n) (hik : i.toNatClampNeg = k) (hdg : decode cc pc = .ok (.baload, 1))
    (kk : W p l e R s m args below meth c H locs cells slots Q (F0 m (pc + 1) ls (.int (f k) :: rest))) : W p l e R s m args below meth c H locs cells slots Q (F0 m pc ls (.int i :: .ref a :: rest)) :=
  va_zald C.1 C.2.1 hK hP q0 1 ha rfl hin hdg (by rw [hik]; exact kk)
theorem r_bald {k : Nat} (C : CallFix p m c cc nL s args Ts own) (hK : va_K g.1 vwCl (tyl g) s) (hP : va_P g.1 vwCl ws H) (q0 : Nat) {n : Nat} {f : AI} (ha : ws[q0]? = some (arB g a n f)) {i : Int32} (hin : vp_in i n) (hik : i.toNatClampNeg = k) (hdg : decode cc pc = .ok (.baload, 1))
    (kk : W p l e R s m args below meth c H locs cells slots Q (F0 m (pc + 1) ls (.int (f k) :: rest))) : W p l e R s m args below meth c H locs cells slots Q (F0 m pc ls (.int i :: .ref a :: rest)) :=
  va_bald C.1 C.2.1 hK hP q0 2 ha rfl hin hdg (by rw [hik]; exact kk)
theorem r_iast {k : Nat} (C : CallFix p m c cc nL s args Ts own) (hK : va_K g.1 vwCl (tyl g) s) (w : Wd g A H0 ws H locs) (q0 : Nat) {n : Nat} {f : AI} (ha : ws[q0]? = some (arI g a n f)) {i x : Int32} (hin : vp_in i n) (hik : i.toNatClampNeg = k) (hdg : decode cc pc = .ok (.iastore, 1))
    (kk : ∀ (H1 : Heap) (locs1 : List Loc), Wd g A H0 (ws.set q0 (arI g a n (upd f k x))) H1 locs1 → W p l e R s m args below meth c H1 locs1 cells slots Q (F0 m (pc + 1) ls rest)) : W p l e R s m args below meth c H locs cells slots Q (F0 m pc ls (.int x :: .int i :: .ref a :: rest)) :=
  va_iast C.1 C.2.1 hK w.1 w.2.1 w.2.2 q0 0 ha rfl hin hdg (fun H1 l1 h1 h2 h3 => by rw [hik] at h1 h2; exact kk H1 l1 ⟨h1, h2, h3⟩)
theorem r_zast {k : Nat} (C : CallFix p m c cc nL s args Ts own) (hK : va_K g.1 vwCl (tyl g) s) (w : Wd g A H0 ws H locs) (q0 : Nat) {n : Nat} {f : AI} (ha : ws[q0]? = some (arZ g a n f)) {i x : Int32} (hin : vp_in i n) (hik : i.toNatClampNeg = k) (hdg : decode cc pc = .ok (.bastore, 1))
    (kk : ∀ (H1 : Heap) (locs1 : List Loc), Wd g A H0 (ws.set q0 (arZ g a n (upd f k (vp_nar .boolean x)))) H1 locs1 → W p l e R s m args below meth c H1 locs1 cells slots Q (F0 m (pc + 1) ls rest)) : W p l e R s m args below meth c H locs cells slots Q (F0 m pc ls (.int x :: .int i :: .ref a :: rest)) :=
  va_zast C.1 C.2.1 hK w.1 w.2.1 w.2.2 q0 1 ha rfl hin hdg (fun H1 l1 h1 h2 h3 => by rw [hik] at h1 h2; exact kk H1 l1 ⟨h1, h2, h3⟩)
theorem r_bast {k : Nat} (C : CallFix p m c cc nL s args Ts own) (hK : va_K g.1 vwCl (tyl g) s) (w : Wd g A H0 ws H locs) (q0 : Nat) {n : Nat} {f : AI} (ha : ws[q0]? = some (arB g a n f)) {i x : Int32} (hin : vp_in i n) (hik : i.toNatClampNeg = k) (hdg : decode cc pc = .ok (.bastore, 1))
    (kk : ∀ (H1 : Heap) (locs1 : List Loc), Wd g A H0 (ws.set q0 (arB g a n (upd f k (vp_nar .byte x)))) H1 locs1 → W p l e R s m args below meth c H1 locs1 cells slots Q (F0 m (pc + 1) ls rest)) : W p l e R s m args below meth c H locs cells slots Q (F0 m pc ls (.int x :: .int i :: .ref a :: rest)) :=
  va_bast C.1 C.2.1 hK w.1 w.2.1 w.2.2 q0 2 ha rfl hin hdg (fun H1 l1 h1 h2 h3 => by rw [hik] at h1 h2; exact kk H1 l1 ⟨h1, h2, h3⟩)
theorem r_aldr (C : CallFix p m c cc nL s args Ts own) (hK : va_K g.1 vwCl (tyl g) s) (hP : va_P g.1 vwCl ws H) (q0 : Nat) {n b : Nat} {f : Nat → Option Nat} (ha : ws[q0]? = some (arR (g.2 3) a n f)) {i : Int32} (hin : vp_in i n) (hb : f i.toNatClampNeg = some b) (hdg : decode cc pc = .ok (.aaload, 1))
    (kk : W p l e R s m args below meth c H locs cells slots Q (F0 m (pc + 1) ls (.ref b :: rest))) : W p l e R s m args below meth c H locs cells slots Q (F0 m pc ls (.int i :: .ref a :: rest)) := by
  have hlt : i.toNatClampNeg < n := Nat.not_le.mp fun q => hin (Or.inr q)
  exact W.aald (v := .ref b) (ty := .array .int) C.1 C.2.1 (hP q0 _ ha) ((hK.2 3 _ rfl).1 n (fun j => va_rf (f j))) rfl (fun q => by cases q) (by show ¬ (i < 0 ∨ (arrV _ _ _).slots.size ≤ _); rw [arrV_size]; exact hin) (by show (arrV _ _ _).slots[_]? = _; rw [arrV_read _ _ hlt, hb]; rfl) rfl rfl hdg kk
theorem r_aldc (C : CallFix p m c cc nL s args Ts own) (hK : va_K g.1 vwCl (tyl g) s) (hP : va_P g.1 vwCl ws H) (q0 : Nat) {n b : Nat} {f : Nat → Option Nat} (ha : ws[q0]? = some (arR (g.2 4) a n f)) {i : Int32} (hin : vp_in i n) (hb : f i.toNatClampNeg = some b) (hdg : decode cc pc = .ok (.aaload, 1))
    (kk : W p l e R s m args below meth c H locs cells slots Q (F0 m (pc + 1) ls (.ref b :: rest))) : W p l e R s m args below meth c H locs cells slots Q (F0 m pc ls (.int i :: .ref a :: rest)) :=
  va_aldq C.1 C.2.1 hK hP q0 4 ha rfl hin hdg (by rw [hb]; exact kk)
theorem r_alds (C : CallFix p m c cc nL s args Ts own) (hK : va_K g.1 vwCl (tyl g) s) (hP : va_P g.1 vwCl ws H) (q0 : Nat) {n b : Nat} {f : Nat → Option Nat} (ha : ws[q0]? = some (arR (g.2 5) a n f)) {i : Int32} (hin : vp_in i n) (hb : f i.toNatClampNeg = some b) (hdg : decode cc pc = .ok (.aaload, 1))
    (kk : W p l e R s m args below meth c H locs cells slots Q (F0 m (pc + 1) ls (.ref b :: rest))) : W p l e R s m args below meth c H locs cells slots Q (F0 m pc ls (.int i :: .ref a :: rest)) :=
  va_aldq C.1 C.2.1 hK hP q0 5 ha rfl hin hdg (by rw [hb]; exact kk)
/-- System.arraycopy of ints, both rows in the world -/
theorem r_copy (C : CallFix p m c cc nL s args Ts own) (hK : va_K g.1 vwCl (tyl g) s) (w : Wd g A H0 ws H locs) (hml : ls.size = nL) {index : Nat} (hlink : Cond.methodLink own index arraycopyName ∈ Ts) (hnat : Cond.native arraycopyName ∈ Ts) (hstat : Cond.static arraycopyName ∈ Ts) (hini : Cond.initialized "java/lang/System" ∈ Ts)
    (q0 q1 : Nat) {a0 n0 n1 : Nat} {f f1 : AI} (ha0 : ws[q0]? = some (arI g a0 n0 f)) (ha1 : ws[q1]? = some (arI g a n1 f1)) {sp dp n : Int32} (h1 : ¬ sp < 0) (h2 : ¬ dp < 0) (h3 : ¬ n < 0) (h4 : sp.toNatClampNeg + n.toNatClampNeg ≤ n0) (h5 : dp.toNatClampNeg + n.toNatClampNeg ≤ n1)
    (hframes : 1 ≤ R.frames) (hlocals : (rest.map fun v => v.category).sum + (nativeFrameWords "java/lang/System" "arraycopy" 5 + 11) ≤ R.locals) (hdg : decode cc pc = .ok (.invokestatic index, 3))
    (kk : ∀ (H1 : Heap) (locs1 : List Loc), Wd g A H0 (ws.set q1 (arI g a n1 (va_cpy f f1 sp.toNatClampNeg dp.toNatClampNeg n.toNatClampNeg))) H1 locs1 → W p l e R s m args below meth c H1 locs1 cells slots Q (F0 m (pc + 3) ls rest)) : W p l e R s m args below meth c H locs cells slots Q (F0 m pc ls (.int n :: .int dp :: .ref a :: .int sp :: .ref a0 :: rest)) :=
  va_copyi (ty := .int) C.1 C.2.1 (C.2.2.1.trans hml.symm) C.2.2.2.1 (C.2.2.2.2 _ hlink) (C.2.2.2.2 _ hnat) (C.2.2.2.2 _ hstat) (C.2.2.2.2 _ hini) hK w.1 w.2.1 w.2.2 q0 q1 0 0 ha0 ha1 rfl rfl rfl h1 h2 h3 h4 h5 (fun _ _ => rfl) hframes hlocals hdg (fun H1 l1 g1 g2 g3 => kk H1 l1 ⟨g1, g2, g3⟩)
variable {y : MethodName} {wsc : List Cond} {rm : Room} {As : List Value} {wc w1 : va_W} {b : Addr} {Cn : String} {bytes : ByteArray} {maxL n index ci : Nat} {ret : Option FieldType} {T : u_T} {N : Nat} {fs : List Value}
/-- calls of methods that read alone -/
theorem r_roV {r : Int32} (C : CallFix p m c cc nL s args Ts own) (hM : Met l y wsc rm (va_Pc (.ref b :: As) (RO g wc)) (vp_Si (fun x => x = r)) 0 0 (fun _ => False)) (cw : CallW R s args own Cn index y bytes maxL ret wsc rm 0 0 n) (hK : va_K g.1 vwCl (tyl g) s) (hPc : va_P g.1 vwCl wc H) (he : wc[0]? = some (b, .inr (ci, fs))) (hc : vwCl[ci]? = some (Cn, T, N)) (hn : As.length = n) (hsz : ls.size = nL) (hst : st0 = As.reverse ++ .ref b :: rest) (hW : (rest.map fun v => v.category).sum ≤ 8) (hcs : cells ≤ R.cells ∧ slots ≤ R.slots) (hdg : decode cc pc = .ok (.invokevirtual index, 3))
    (kk : W p l e R s m args below meth c H locs cells slots Q (F0 m (pc + 3) ls (.int r :: rest))) : W p l e R s m args below meth c H locs cells slots Q (F0 m pc ls st0) :=
  vp_callSi (W.runV (g := F0 m pc ls st0) C hM cw ⟨RO_blind, va_recv hK hPc hc he, fun U hU hW => ⟨rfl, by rw [hU]; exact hPc, va_K.moved hW.alike hK⟩⟩ rfl hn hsz hst (lv_room hW) hdg hcs) (fun x hx => by subst hx; exact kk)
theorem r_roVl {r : Int64} (C : CallFix p m c cc nL s args Ts own) (hM : Met l y wsc rm (va_Pc (.ref b :: As) (RO g wc)) (vp_Sl (fun x => x = r)) 0 0 (fun _ => False)) (cw : CallW R s args own Cn index y bytes maxL ret wsc rm 0 0 n) (hK : va_K g.1 vwCl (tyl g) s) (hPc : va_P g.1 vwCl wc H) (he : wc[0]? = some (b, .inr (ci, fs))) (hc : vwCl[ci]? = some (Cn, T, N)) (hn : As.length = n) (hsz : ls.size = nL) (hst : st0 = As.reverse ++ .ref b :: rest) (hW : (rest.map fun v => v.category).sum ≤ 8) (hcs : cells ≤ R.cells ∧ slots ≤ R.slots) (hdg : decode cc pc = .ok (.invokevirtual index, 3))
    (kk : W p l e R s m args below meth c H locs cells slots Q (F0 m (pc + 3) ls (.long r :: rest))) : W p l e R s m args below meth c H locs cells slots Q (F0 m pc ls st0) :=
  vp_callSl (W.runV (g := F0 m pc ls st0) C hM cw ⟨RO_blind, va_recv hK hPc hc he, fun U hU hW => ⟨rfl, by rw [hU]; exact hPc, va_K.moved hW.alike hK⟩⟩ rfl hn hsz hst (lv_room hW) hdg hcs) (fun x hx => by subst hx; exact kk)
/-- calls of static methods without a world -/
theorem r_st {r : Int32} (C : CallFix p m c cc nL s args Ts own) (hM : Met l y wsc rm (va_Pc As (fun _ => True)) (vp_Si (fun x => x = r)) 0 0 (fun _ => False)) (cw : CallB R s args own index y bytes maxL ret wsc rm 0 0 n ∧ (Cond.static y).before args s = true) (hn : As.length = n) (hsz : ls.size = nL) (hst : st0 = As.reverse ++ rest) (hW : (rest.map fun v => v.category).sum ≤ 8) (hcs : cells ≤ R.cells ∧ slots ≤ R.slots) (hdg : decode cc pc = .ok (.invokestatic index, 3))
    (kk : W p l e R s m args below meth c H locs cells slots Q (F0 m (pc + 3) ls (.int r :: rest))) : W p l e R s m args below meth c H locs cells slots Q (F0 m pc ls st0) :=
  vp_callSi (W.runS (g := F0 m pc ls st0) C hM cw ⟨TT_blind, fun U hU hW => ⟨rfl, trivial⟩⟩ rfl hn hsz hst (lv_room hW) hdg hcs) (fun x hx => by subst hx; exact kk)
theorem r_stl {r : Int64} (C : CallFix p m c cc nL s args Ts own) (hM : Met l y wsc rm (va_Pc As (fun _ => True)) (vp_Sl (fun x => x = r)) 0 0 (fun _ => False)) (cw : CallB R s args own index y bytes maxL ret wsc rm 0 0 n ∧ (Cond.static y).before args s = true) (hn : As.length = n) (hsz : ls.size = nL) (hst : st0 = As.reverse ++ rest) (hW : (rest.map fun v => v.category).sum ≤ 8) (hcs : cells ≤ R.cells ∧ slots ≤ R.slots) (hdg : decode cc pc = .ok (.invokestatic index, 3))
    (kk : W p l e R s m args below meth c H locs cells slots Q (F0 m (pc + 3) ls (.long r :: rest))) : W p l e R s m args below meth c H locs cells slots Q (F0 m pc ls st0) :=
  vp_callSl (W.runS (g := F0 m pc ls st0) C hM cw ⟨TT_blind, fun U hU hW => ⟨rfl, trivial⟩⟩ rfl hn hsz hst (lv_room hW) hdg hcs) (fun x hx => by subst hx; exact kk)
/-- behind a call that changed the part wc of the world ws into w1: the whole world, in its own order -/
theorem Wd_back {ws' wr : va_W} {H1 : Heap} {locs1 : List Loc} {t : State} (w : Wd g A H0 ws H locs) (isC isR isP : List Nat) (hC : isC.map (fun i => ws[i]?) = wc.map some) (hR : isR.map (fun i => ws[i]?) = wr.map some) (hn : va_nd isR = true) (hdis : ∀ i ∈ isR, i ∉ isC) (hPm : isP.map (fun i => (wr ++ w1)[i]?) = ws'.map some) (hnP : va_nd isP = true) (hA : ∀ q, H0.size ≤ q → A q) (ht : t.heap = H1) (hB : RWq g (va_A wc H.size) w1 t) (hk : ∀ q : Nat, q < H.size → ¬ va_A wc H.size q → H1[q]? = H[q]?) (hS : va_S A H0 H1 locs1) : Wd g A H0 ws' H1 locs1 := by
  obtain ⟨hP1, -, hD1⟩ := hB
  rw [ht] at hP1
  obtain ⟨hP, hD⟩ := va_join (wr := wr) (w1 := w1) w.1 w.2.1 isC isR hC hR hn hdis hk (va_free w.2.1 w.2.2 hA isC hC) hP1 hD1
  refine ⟨fun k q hq => ?_, hD.sub isP hnP hPm, hS⟩
  have h1 : (isP.map (fun i => (wr ++ w1)[i]?))[k]? = some (some q) := by rw [hPm, List.getElem?_map, hq]; rfl
  rw [List.getElem?_map] at h1
  cases hi : isP[k]? with
  | none => rw [hi] at h1; cases h1
  | some i => rw [hi] at h1; exact hP i q (Option.some.inj h1)
theorem Wd_pre (w : Wd g A H0 ws H locs) (isC : List Nat) (hnC : va_nd isC = true) (hC : isC.map (fun i => ws[i]?) = wc.map some) : va_P g.1 vwCl wc H ∧ va_D (fun _ => True) wc := by
  refine ⟨fun k q hq => ?_, (w.2.1.sub isC hnC hC).weaken (fun _ _ _ _ => trivial)⟩
  have h1 : (isC.map (fun i => ws[i]?))[k]? = some (some q) := by rw [hC, List.getElem?_map, hq]; rfl
  rw [List.getElem?_map] at h1
  cases hi : isC[k]? with
  | none => rw [hi] at h1; cases h1
  | some i => rw [hi] at h1; exact w.1 i q (Option.some.inj h1)
/-- calls of methods that change their world: it is cut out of the caller's, and put back -/
theorem r_rwv {ws' wr : va_W} (C : CallFix p m c cc nL s args Ts own) (hM : Met l y wsc rm (va_Pc (.ref b :: As) (RWp g H.size wc)) (va_Qv (fun _ : Unit => True) (fun _ => RWq g (va_A wc H.size) w1) (va_A wc H.size)) 0 0 (va_A wc H.size)) (cw : CallW R s args own Cn index y bytes maxL ret wsc rm 0 0 n) (hK : va_K g.1 vwCl (tyl g) s) (w : Wd g A H0 ws H locs) (hA : ∀ q, H0.size ≤ q → A q) (isC isR isP : List Nat) (hnC : va_nd isC = true) (hC : isC.map (fun i => ws[i]?) = wc.map some) (hR : isR.map (fun i => ws[i]?) = wr.map some) (hnR : va_nd isR = true) (hdis : ∀ i ∈ isR, i ∉ isC) (hPm : isP.map (fun i => (wr ++ w1)[i]?) = ws'.map some) (hnP : va_nd isP = true) (he : wc[0]? = some (b, .inr (ci, fs))) (hc : vwCl[ci]? = some (Cn, T, N)) (hn : As.length = n) (hsz : ls.size = nL) (hst : st0 = As.reverse ++ .ref b :: rest) (hW : (rest.map fun v => v.category).sum ≤ 8) (hcs : cells ≤ R.cells ∧ slots ≤ R.slots) (hdg : decode cc pc = .ok (.invokevirtual index, 3))
    (kk : ∀ (H1 : Heap) (locs1 : List Loc), Wd g A H0 ws' H1 locs1 → W p l e R s m args below meth c H1 locs1 cells slots Q (F0 m (pc + 3) ls rest)) : W p l e R s m args below meth c H locs cells slots Q (F0 m pc ls st0) := by
  obtain ⟨hPc, hDc⟩ := Wd_pre w isC hnC hC
  have hF := va_free w.2.1 w.2.2 hA isC hC
  refine va_callv (va_runV (g := F0 m pc ls st0) C hM cw ⟨RW_blind, va_recv hK hPc hc he, fun U hU hW => ⟨rfl, by rw [hU], by rw [hU]; exact hPc, va_K.moved hW.alike hK, hDc⟩⟩ rfl hn hsz hst (lv_room hW) hdg hcs) w.2.2 (fun q _ h => hF q h) hF (fun _ t H1 locs1 ht hvm _ hB _ hk hS => ?_)
  exact kk H1 locs1 (Wd_back w isC isR isP hC hR hnR hdis hPm hnP hA ht hB hk hS)
theorem r_rwi {ws' wr : va_W} {r : Int32} (C : CallFix p m c cc nL s args Ts own) (hM : Met l y wsc rm (va_Pc (.ref b :: As) (RWp g H.size wc)) (va_Qi (fun x (_ : Unit) => x = r) (fun _ => RWq g (va_A wc H.size) w1) (va_A wc H.size)) 0 0 (va_A wc H.size)) (cw : CallW R s args own Cn index y bytes maxL ret wsc rm 0 0 n) (hK : va_K g.1 vwCl (tyl g) s) (w : Wd g A H0 ws H locs) (hA : ∀ q, H0.size ≤ q → A q) (isC isR isP : List Nat) (hnC : va_nd isC = true) (hC : isC.map (fun i => ws[i]?) = wc.map some) (hR : isR.map (fun i => ws[i]?) = wr.map some) (hnR : va_nd isR = true) (hdis : ∀ i ∈ isR, i ∉ isC) (hPm : isP.map (fun i => (wr ++ w1)[i]?) = ws'.map some) (hnP : va_nd isP = true) (he : wc[0]? = some (b, .inr (ci, fs))) (hc : vwCl[ci]? = some (Cn, T, N)) (hn : As.length = n) (hsz : ls.size = nL) (hst : st0 = As.reverse ++ .ref b :: rest) (hW : (rest.map fun v => v.category).sum ≤ 8) (hcs : cells ≤ R.cells ∧ slots ≤ R.slots) (hdg : decode cc pc = .ok (.invokevirtual index, 3))
    (kk : ∀ (H1 : Heap) (locs1 : List Loc), Wd g A H0 ws' H1 locs1 → W p l e R s m args below meth c H1 locs1 cells slots Q (F0 m (pc + 3) ls (.int r :: rest))) : W p l e R s m args below meth c H locs cells slots Q (F0 m pc ls st0) := by
  obtain ⟨hPc, hDc⟩ := Wd_pre w isC hnC hC
  have hF := va_free w.2.1 w.2.2 hA isC hC
  refine va_calli (va_runV (g := F0 m pc ls st0) C hM cw ⟨RW_blind, va_recv hK hPc hc he, fun U hU hW => ⟨rfl, by rw [hU], by rw [hU]; exact hPc, va_K.moved hW.alike hK, hDc⟩⟩ rfl hn hsz hst (lv_room hW) hdg hcs) w.2.2 (fun q _ h => hF q h) hF (fun x _ t H1 locs1 ht hvm hx hB _ hk hS => ?_)
  subst hx
  exact kk H1 locs1 (Wd_back w isC isR isP hC hR hnR hdis hPm hnP hA ht hB hk hS)
theorem r_rwl {ws' wr : va_W} {r : Int64} (C : CallFix p m c cc nL s args Ts own) (hM : Met l y wsc rm (va_Pc (.ref b :: As) (RWp g H.size wc)) (va_Ql (fun x (_ : Unit) => x = r) (fun _ => RWq g (va_A wc H.size) w1) (va_A wc H.size)) 0 0 (va_A wc H.size)) (cw : CallW R s args own Cn index y bytes maxL ret wsc rm 0 0 n) (hK : va_K g.1 vwCl (tyl g) s) (w : Wd g A H0 ws H locs) (hA : ∀ q, H0.size ≤ q → A q) (isC isR isP : List Nat) (hnC : va_nd isC = true) (hC : isC.map (fun i => ws[i]?) = wc.map some) (hR : isR.map (fun i => ws[i]?) = wr.map some) (hnR : va_nd isR = true) (hdis : ∀ i ∈ isR, i ∉ isC) (hPm : isP.map (fun i => (wr ++ w1)[i]?) = ws'.map some) (hnP : va_nd isP = true) (he : wc[0]? = some (b, .inr (ci, fs))) (hc : vwCl[ci]? = some (Cn, T, N)) (hn : As.length = n) (hsz : ls.size = nL) (hst : st0 = As.reverse ++ .ref b :: rest) (hW : (rest.map fun v => v.category).sum ≤ 8) (hcs : cells ≤ R.cells ∧ slots ≤ R.slots) (hdg : decode cc pc = .ok (.invokevirtual index, 3))
    (kk : ∀ (H1 : Heap) (locs1 : List Loc), Wd g A H0 ws' H1 locs1 → W p l e R s m args below meth c H1 locs1 cells slots Q (F0 m (pc + 3) ls (.long r :: rest))) : W p l e R s m args below meth c H locs cells slots Q (F0 m pc ls st0) := by
  obtain ⟨hPc, hDc⟩ := Wd_pre w isC hnC hC
  have hF := va_free w.2.1 w.2.2 hA isC hC
  refine va_calll (va_runV (g := F0 m pc ls st0) C hM cw ⟨RW_blind, va_recv hK hPc hc he, fun U hU hW => ⟨rfl, by rw [hU], by rw [hU]; exact hPc, va_K.moved hW.alike hK, hDc⟩⟩ rfl hn hsz hst (lv_room hW) hdg hcs) w.2.2 (fun q _ h => hF q h) hF (fun x _ t H1 locs1 ht hvm hx hB _ hk hS => ?_)
  subst hx
  exact kk H1 locs1 (Wd_back w isC isR isP hC hR hnR hdis hPm hnP hA ht hB hk hS)
theorem in_c {i : Int32} {n : Nat} (h : ¬ (i < 0 ∨ n ≤ i.toNatClampNeg)) : vp_in i n := h
end MK
