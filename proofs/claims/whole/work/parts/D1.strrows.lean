section MS2
variable {p : Program} {l : Launch} {e : Env} {R : Room} {s : State} {m : MethodId} {args : Array Value} {below : List Frame} {meth : Method} {c : Code} {H : Heap} {locs : List Loc} {cells slots : Nat} {Q : State → Prop}
variable {cc : ByteArray} {pc nL : Nat} {ls : Array Slot} {rest st0 : List Value} {Ts : List Cond} {own : String} {g : Gx} {ws : va_W} {A : Nat → Prop} {H0 : Heap} {a : Nat} {sg : SG}
theorem Met_rwiS {y : MethodName} {tw ws' : List Cond} {rm : Room} {As : List Value} {r : Int32} {sz : Nat} {w1 : va_W} {maxL : Nat} (hy : plainName y.cls = true) (hw : tw = Cond.code y cc maxL (some .int) :: ws') (hAs : (lg_sl As).length ≤ maxL)
    (body : ∀ (p : Program) (e : Env) (s : State) (m : MethodId) (args : Array Value) (below : List Frame) (meth : Method) (c : Code) (A : Nat → Prop) (Q : State → Prop), CallFix p m c cc maxL s args tw y.cls → va_K g.1 vwCl (tyl g) s → (∀ q : Nat, s.heap.size ≤ q → A q) → (∀ (H : Heap) (locs : List Loc) (ls : Array Slot) (pc : Nat) (v : Int32) , decode cc pc = .ok (.ireturn, 1) → v = r → Wd g A s.heap w1 H locs → W p l e rm s m args below meth c H locs 0 0 Q (F0 m pc ls [.int v])) → Wd g A s.heap ws s.heap [] → SE sg A s s.heap → ∀ ls : Array Slot, lv_has ls maxL (lv_args 0 As) → W p l e rm s m args below meth c s.heap [] 0 0 Q (F0 m 0 ls [])) : Met l y tw rm (va_Pc As (RWs g sz ws sg)) (va_Qi (fun x (_ : Unit) => x = r) (fun _ => RWq g (va_A ws sz) w1) (va_A ws sz)) 0 0 (va_A ws sz) := by
  refine Met.ofW (cc := cc) (maxL := maxL) (ret := (some .int)) hy hw ?_
  intro p e s m args below meth c s₁ B hml hv
  obtain ⟨rfl, ⟨hsz, hP, hK, hD0⟩, hSE⟩ := hv
  subst hsz
  have hl := lv_entry As (n := maxL) hAs
  rw [lg_entry_eq]
  exact body p e s m _ below meth c (va_A ws s.heap.size) _ ⟨B.exec, B.bytes, hml, findClass_of_methodNamed B.named, atoms_spec (ws := tw) B.pre⟩ hK (fun q h => Or.inr h) (fun H locs ls pc v hd hv w => W.iret B.exec B.bytes B.returns (fun t ht hW => ⟨⟨v, (), rfl, hv, by rw [ht]; exact w.1, va_K.moved hW.alike hK, w.2.1⟩, w.2.2.F ht⟩) w.2.2.2.2 hd B.notSynchronized) ⟨hP, hD0.self, va_S.rf⟩ hSE _ hl
theorem Met_rwzS {y : MethodName} {tw ws' : List Cond} {rm : Room} {As : List Value} {r : Int32} {sz : Nat} {w1 : va_W} {maxL : Nat} (hy : plainName y.cls = true) (hw : tw = Cond.code y cc maxL (some .boolean) :: ws') (hAs : (lg_sl As).length ≤ maxL)
    (body : ∀ (p : Program) (e : Env) (s : State) (m : MethodId) (args : Array Value) (below : List Frame) (meth : Method) (c : Code) (A : Nat → Prop) (Q : State → Prop), CallFix p m c cc maxL s args tw y.cls → va_K g.1 vwCl (tyl g) s → (∀ q : Nat, s.heap.size ≤ q → A q) → (∀ (H : Heap) (locs : List Loc) (ls : Array Slot) (pc : Nat) (v : Int32) , decode cc pc = .ok (.ireturn, 1) → narrow .boolean (.int v) = .int v → v = r → Wd g A s.heap w1 H locs → W p l e rm s m args below meth c H locs 0 0 Q (F0 m pc ls [.int v])) → Wd g A s.heap ws s.heap [] → SE sg A s s.heap → ∀ ls : Array Slot, lv_has ls maxL (lv_args 0 As) → W p l e rm s m args below meth c s.heap [] 0 0 Q (F0 m 0 ls [])) : Met l y tw rm (va_Pc As (RWs g sz ws sg)) (va_Qi (fun x (_ : Unit) => x = r) (fun _ => RWq g (va_A ws sz) w1) (va_A ws sz)) 0 0 (va_A ws sz) := by
  refine Met.ofW (cc := cc) (maxL := maxL) (ret := (some .boolean)) hy hw ?_
  intro p e s m args below meth c s₁ B hml hv
  obtain ⟨rfl, ⟨hsz, hP, hK, hD0⟩, hSE⟩ := hv
  subst hsz
  have hl := lv_entry As (n := maxL) hAs
  rw [lg_entry_eq]
  exact body p e s m _ below meth c (va_A ws s.heap.size) _ ⟨B.exec, B.bytes, hml, findClass_of_methodNamed B.named, atoms_spec (ws := tw) B.pre⟩ hK (fun q h => Or.inr h) (fun H locs ls pc v hd hn hv w => W.zret B.exec B.bytes B.returns hn (fun t ht hW => ⟨⟨v, (), rfl, hv, by rw [ht]; exact w.1, va_K.moved hW.alike hK, w.2.1⟩, w.2.2.F ht⟩) w.2.2.2.2 hd B.notSynchronized) ⟨hP, hD0.self, va_S.rf⟩ hSE _ hl
variable {y : MethodName} {wsc : List Cond} {rm : Room} {As : List Value} {wc w1 : va_W} {b : Addr} {Cn : String} {bytes : ByteArray} {maxL n index ci : Nat} {ret : Option FieldType} {T : u_T} {N : Nat} {fs : List Value}
theorem r_rwiS {ws' wr : va_W} {r : Int32} (C : CallFix p m c cc nL s args Ts own) (hM : Met l y wsc rm (va_Pc (.ref b :: As) (RWs g H.size wc sg)) (va_Qi (fun x (_ : Unit) => x = r) (fun _ => RWq g (va_A wc H.size) w1) (va_A wc H.size)) 0 0 (va_A wc H.size)) (cw : CallW R s args own Cn index y bytes maxL ret wsc rm 0 0 n) (hK : va_K g.1 vwCl (tyl g) s) (w : Wd g A s.heap ws H locs) (hSE : SE sg A s s.heap) (hA : ∀ q, s.heap.size ≤ q → A q) (isC isR isP : List Nat) (hnC : va_nd isC = true) (hC : isC.map (fun i => ws[i]?) = wc.map some) (hR : isR.map (fun i => ws[i]?) = wr.map some) (hnR : va_nd isR = true) (hdis : ∀ i ∈ isR, i ∉ isC) (hPm : isP.map (fun i => (wr ++ w1)[i]?) = ws'.map some) (hnP : va_nd isP = true) (he : wc[0]? = some (b, .inr (ci, fs))) (hc : vwCl[ci]? = some (Cn, T, N)) (hn : As.length = n) (hsz : ls.size = nL) (hst : st0 = As.reverse ++ .ref b :: rest) (hW : (rest.map fun v => v.category).sum ≤ 8) (hcs : cells ≤ R.cells ∧ slots ≤ R.slots) (hdg : decode cc pc = .ok (.invokevirtual index, 3))
    (kk : ∀ (H1 : Heap) (locs1 : List Loc), Wd g A s.heap ws' H1 locs1 → W p l e R s m args below meth c H1 locs1 cells slots Q (F0 m (pc + 3) ls (.int r :: rest))) : W p l e R s m args below meth c H locs cells slots Q (F0 m pc ls st0) := by
  obtain ⟨hPc, hDc⟩ := Wd_pre w isC hnC hC
  have hF := va_free w.2.1 w.2.2 hA isC hC
  refine va_calli (va_runV (g := F0 m pc ls st0) C hM cw ⟨RWs_blind, va_recv hK hPc hc he, fun U hU hW => ⟨rfl, ⟨by rw [hU], by rw [hU]; exact hPc, va_K.moved hW.alike hK, hDc⟩, by rw [hU]; exact SE.warm hW ((hSE.kept w.2.2.2.1).narrow hF)⟩⟩ rfl hn hsz hst (lv_room hW) hdg hcs) w.2.2 (fun q _ h => hF q h) hF (fun x _ t H1 locs1 ht hvm hx hB _ hk hS => ?_)
  subst hx
  exact kk H1 locs1 (Wd_back w isC isR isP hC hR hnR hdis hPm hnP hA ht hB hk hS)
theorem SE_ro (hSE : SE sg A s s.heap) (w : Wd g A s.heap ws H locs) : ∀ U : State, U.heap = H → s.WarmedH U.vm → SEp sg U := fun U hU hW => by
  rw [SEp, hU]
  exact SE.warm hW ((hSE.kept w.2.2.2.1).narrow (fun _ h => h.elim))
end MS2
theorem nameOf_lt {p : Int32} {i : Nat} (h : fX2_nameOf p = some i) : i < 7 := by
  unfold fX2_nameOf at h
  split at h
  · cases h; decide
  · split at h
    · cases h; decide
    · split at h
      · cases h; decide
      · split at h
        · cases h; decide
        · split at h
          · cases h; decide
          · split at h <;> cases h <;> decide
