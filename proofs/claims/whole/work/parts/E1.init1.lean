section MI
variable {p : Program} {l : Launch} {e : Env} {R : Room} {s : State} {m : MethodId} {args : Array Value} {below : List Frame} {meth : Method} {c : Code} {H : Heap} {locs : List Loc} {cells slots : Nat} {Q : State → Prop}
variable {cc : ByteArray} {pc nL : Nat} {ls : Array Slot} {rest st0 : List Value} {Ts : List Cond} {own : String} {g : Gx} {ws : va_W} {A : Nat → Prop} {H0 : Heap} {a : Nat}
theorem Wd_sub {ws' : va_W} (w : Wd g A H0 ws H locs) (is : List Nat) (hn : va_nd is = true) (h : is.map (fun i => ws[i]?) = ws'.map some) : Wd g A H0 ws' H locs := ⟨(Wd_pre w is hn h).1, w.2.1.sub is hn h, w.2.2⟩
theorem Met_in {I : Type} {pk : I → Nat} {Wf : I → va_W} {Bx : State → Prop} {y : MethodName} {tw ws' : List Cond} {rm : Room} {b0 sz maxL mc ms : Nat} (hy : plainName y.cls = true) (hy1 : y.name = "<init>") (hw : tw = Cond.code y cc maxL none :: ws') (hAs : (lg_sl [.ref b0]).length ≤ maxL)
    (body : ∀ (p : Program) (e : Env) (s : State) (m : MethodId) (args : Array Value) (below : List Frame) (meth : Method) (c : Code) (A : Nat → Prop) (Q : State → Prop), CallFix p m c cc maxL s args tw y.cls → meth.name = "<init>" → va_K g.1 vwCl (tyl g) s → Bx s → (∀ q : Nat, s.heap.size ≤ q → A q) → (∀ (H : Heap) (locs : List Loc) (ls : Array Slot) (pc : Nat) (i : I), decode cc pc = .ok (.return_, 1) → pk i = b0 → Wd g A s.heap (Wf i) H locs → W p l e rm s m args below meth c H locs mc ms Q (F0 m pc ls [])) → Wd g A s.heap ws s.heap [] → ∀ ls : Array Slot, lv_has ls maxL (lv_args 0 [.ref b0]) → W p l e rm s m args below meth c s.heap [] 0 0 Q (F0 m 0 ls [])) : Met l y tw rm (va_Pc [.ref b0] (fun U => RWp g sz ws U ∧ Bx U)) (va_Qv (fun _ : Unit => True) (fun _ t => ∃ i : I, pk i = b0 ∧ RWq g (va_A ws sz) (Wf i) t) (va_A ws sz)) mc ms (va_A ws sz) := by
  refine Met.ofW (cc := cc) (maxL := maxL) (ret := none) hy hw ?_
  intro p e s m args below meth c s₁ B hml hv
  obtain ⟨rfl, ⟨hsz, hP, hK, hD0⟩, hB⟩ := hv
  subst hsz
  have hl := lv_entry [.ref b0] (n := maxL) hAs
  rw [lg_entry_eq]
  exact body p e s m _ below meth c (va_A ws s.heap.size) _ ⟨B.exec, B.bytes, hml, findClass_of_methodNamed B.named, atoms_spec (ws := tw) B.pre⟩ (by rw [(name_of_methodNamed B.named B.method).1, hy1]) hK hB (fun q h => Or.inr h) (fun H locs ls pc i hd hi w => W.vret B.exec B.bytes B.returns (fun t ht hW => ⟨⟨(), rfl, trivial, i, hi, by rw [ht]; exact w.1, va_K.moved hW.alike hK, w.2.1⟩, w.2.2.F ht⟩) w.2.2.2.2 hd B.notSynchronized) ⟨hP, hD0.self, va_S.rf⟩ _ hl
theorem r_oi (C : CallFix p m c cc nL s args Ts own) {idx : Nat} (hlink : Cond.methodLink own idx Lib.objectInit ∈ Ts) (hinst : Cond.instanceMethod Lib.objectInit ∈ Ts) (hcode : Cond.code Lib.objectInit ⟨#[0xb1]⟩ 1 none ∈ Ts) (hsz : ls.size = nL) (hd : decode cc pc = .ok (.invokespecial idx, 3)) (hframes : 1 ≤ R.frames) (hlocals : 12 ≤ R.locals)
    (kk : W p l e R s m args below meth c H locs cells slots Q (F0 m (pc + 3) ls [])) : W p l e R s m args below meth c H locs cells slots Q (F0 m pc ls [.ref a]) :=
  W.objInit (g := F0 m pc ls [.ref a]) C.1 C.2.1 C.2.2.2.1 (C.2.2.2.2 _ hlink) (C.2.2.2.2 _ hinst) (C.2.2.2.2 _ hcode) rfl (by rw [C.2.2.1]; exact hsz) rfl hd hframes hlocals (W.eq (g2 := F0 m (pc + 3) ls []) rfl kk)
theorem r_putF (C : CallFix p m c cc nL s args Ts own) (hin2 : meth.name = "<init>") (hK : va_K g.1 vwCl (tyl g) s) (w : Wd g A H0 ws H locs) {Cn : String} {T : u_T} {N ci index : Nat} (hin : ∀ w ∈ u_ws Cn T N, w ∈ Ts) (ty0 : Nat → FieldType) (hty : ∀ k, k < N → parseFieldDescriptor (T k).2.2.1 = some (ty0 k)) (hnm : ∀ a, a < N → ∀ b, b < N → a ≠ b → (T a).2.1 ≠ (T b).2.1) (q0 : Nat) {fs : List Value} (he : ws[q0]? = some (a, .inr (ci, fs))) (hc : vwCl[ci]? = some (Cn, T, N)) (k : Nat) (hk : k < N) (hlink : Cond.fieldLink own index (T k).1 (T k).2.1 (T k).2.2.1 ∈ Ts) (hfin : (T k).2.2.2 = true) (hdecl : (T k).1 = own) {v : Value} (hn : narrow (ty0 k) v = v) (hfit : fits (ty0 k) v = true) (hl : k < fs.length) (hdg : decode cc pc = .ok (.putfield index, 3))
    (kk : ∀ (H1 : Heap) (locs1 : List Loc), Wd g A H0 (ws.set q0 (a, .inr (ci, fs.set k v))) H1 locs1 → W p l e R s m args below meth c H1 locs1 cells slots Q (F0 m (pc + 3) ls rest)) : W p l e R s m args below meth c H locs cells slots Q (F0 m pc ls (v :: .ref a :: rest)) :=
  va_putF C.1 C.2.1 C.2.2.2.2 hin ty0 hty hnm C.2.2.2.1 hK w.1 w.2.1 w.2.2 q0 he hc k hk (C.2.2.2.2 _ hlink) (fun _ h => h) hfin hin2 hdecl (hty k hk) hn hfit hl hdg (fun H1 l1 h1 h2 h3 => kk H1 l1 ⟨h1, h2, h3⟩)
theorem r_new (C : CallFix p m c cc nL s args Ts own) (hK : va_K g.1 vwCl (tyl g) s) (w : Wd g A H0 ws H locs) (hA : ∀ q, H0.size ≤ q → A q) {Cn : String} {T : u_T} {N ci index : Nat} (hin : ∀ w ∈ u_ws Cn T N, w ∈ Ts) (ty : Nat → FieldType) (hty : ∀ k, k < N → parseFieldDescriptor (T k).2.2.1 = some (ty k)) (hcl : Cond.classLink own index Cn ∈ Ts) (hinst : Cond.instantiable Cn N ∈ Ts) (hini : Cond.initialized Cn ∈ Ts) (hc : vwCl[ci]? = some (Cn, T, N)) {fs : List Value} (hfs : ∀ j, j < N → defaultValue (ty j) = vp_V fs j) (hcells : cells + 1 ≤ R.cells) (hslots : slots + N ≤ R.slots) (hdg : decode cc pc = .ok (.new index, 3))
    (kk : ∀ (q : Nat) (H1 : Heap), Wd g A H0 (ws ++ [(q, .inr (ci, fs))]) H1 locs → W p l e R s m args below meth c H1 locs (cells + 1) (slots + N) Q (F0 m (pc + 3) ls (.ref q :: rest))) : W p l e R s m args below meth c H locs cells slots Q (F0 m pc ls rest) :=
  va_new C.1 C.2.1 C.2.2.2.2 hin ty hty C.2.2.2.1 (C.2.2.2.2 _ hcl) (C.2.2.2.2 _ hinst) (C.2.2.2.2 _ hini) hK w.1 w.2.1 w.2.2 hA hc hfs hcells hslots hdg (fun q H1 h1 h2 h3 => kk q H1 ⟨h1, h2, h3⟩)
theorem cls_eq {ty : FieldType} {cA cB : ClassId} {tys : List (ClassId × FieldType)} {D : va_G} {cl : List vw_C} {k : Nat} (hty : ∀ C, ty ≠ .object C) (hK : va_K D cl tys s) (h : tys[k]? = some (cB, ty)) (hK1 : va_K D cl (tys ++ [(cA, ty)]) s) : cA = cB := by
  have h1 := (hK.2 k _ h).2
  have h2 := (hK1.2 tys.length (cA, ty) (by rw [List.getElem?_append_right (Nat.le_refl _), Nat.sub_self]; rfl)).2
  cases ty with
  | object C => exact absurd rfl (hty C)
  | _ =>
    have g1 : s.vm.findClass _ = some cB := h1
    have g2 : s.vm.findClass _ = some cA := h2
    exact Option.some.inj (g2.symm.trans g1)
theorem cls_eqO {Cn : String} {cA cB : ClassId} {tys : List (ClassId × FieldType)} {D : va_G} {cl : List vw_C} {k : Nat} (hK : va_K D cl tys s) (h : tys[k]? = some (cB, .object Cn)) (hK1 : va_K D cl (tys ++ [(cA, .object Cn)]) s) : cA = cB := by
  have h1 := (hK.2 k _ h).2
  have h2 := (hK1.2 tys.length (cA, .object Cn) (by rw [List.getElem?_append_right (Nat.le_refl _), Nat.sub_self]; rfl)).2
  obtain ⟨-, -, -, -, -, g1⟩ := h1
  obtain ⟨-, -, -, -, -, g2⟩ := h2
  exact Option.some.inj (g2.symm.trans g1)
theorem r_newI (C : CallFix p m c cc nL s args Ts own) (hK : va_K g.1 vwCl (tyl g) s) (w : Wd g A H0 ws H locs) (hA : ∀ q, H0.size ≤ q → A q) (harr : Cond.arrayClass .int ∈ Ts) {n : Int32} {N' : Nat} (hn : ¬ n < 0) (hN : n.toNatClampNeg = N') (hb : N' * 4 ≤ 536870912) (hcells : cells + 1 ≤ R.cells) (hslots : slots + N' ≤ R.slots) (hdg : decode cc pc = .ok (.newarray .int, 2))
    (kk : ∀ (q : Nat) (H1 : Heap), Wd g A H0 (ws ++ [arI g q N' (fun _ => 0)]) H1 locs → W p l e R s m args below meth c H1 locs (cells + 1) (slots + N') Q (F0 m (pc + 2) ls (.ref q :: rest))) : W p l e R s m args below meth c H locs cells slots Q (F0 m pc ls (.int n :: rest)) := by
  refine va_newa (atype := .int) (ty := .int) (a0 := (N', .inl (fun _ => 0))) C.1 C.2.1 (C.2.2.2.2 _ harr) rfl hK w.1 w.2.1 w.2.2 hA (fun _ => rfl) hn hN hb hcells hslots hdg (fun q cA H1 h0 h1 h2 h3 => ?_)
  have e := cls_eq (k := 0) (cB := g.2 0) (fun _ h => by cases h) hK rfl h0
  subst e
  exact kk q H1 ⟨h1, h2, h3⟩
theorem r_newZ (C : CallFix p m c cc nL s args Ts own) (hK : va_K g.1 vwCl (tyl g) s) (w : Wd g A H0 ws H locs) (hA : ∀ q, H0.size ≤ q → A q) (harr : Cond.arrayClass .boolean ∈ Ts) {n : Int32} {N' : Nat} (hn : ¬ n < 0) (hN : n.toNatClampNeg = N') (hb : N' * 1 ≤ 536870912) (hcells : cells + 1 ≤ R.cells) (hslots : slots + N' ≤ R.slots) (hdg : decode cc pc = .ok (.newarray .boolean, 2))
    (kk : ∀ (q : Nat) (H1 : Heap), Wd g A H0 (ws ++ [arZ g q N' (fun _ => 0)]) H1 locs → W p l e R s m args below meth c H1 locs (cells + 1) (slots + N') Q (F0 m (pc + 2) ls (.ref q :: rest))) : W p l e R s m args below meth c H locs cells slots Q (F0 m pc ls (.int n :: rest)) := by
  refine va_newa (atype := .boolean) (ty := .boolean) (a0 := (N', .inl (fun _ => 0))) C.1 C.2.1 (C.2.2.2.2 _ harr) rfl hK w.1 w.2.1 w.2.2 hA (fun _ => rfl) hn hN hb hcells hslots hdg (fun q cA H1 h0 h1 h2 h3 => ?_)
  have e := cls_eq (k := 1) (cB := g.2 1) (fun _ h => by cases h) hK rfl h0
  subst e
  exact kk q H1 ⟨h1, h2, h3⟩
theorem r_newB (C : CallFix p m c cc nL s args Ts own) (hK : va_K g.1 vwCl (tyl g) s) (w : Wd g A H0 ws H locs) (hA : ∀ q, H0.size ≤ q → A q) (harr : Cond.arrayClass .byte ∈ Ts) {n : Int32} {N' : Nat} (hn : ¬ n < 0) (hN : n.toNatClampNeg = N') (hb : N' * 1 ≤ 536870912) (hcells : cells + 1 ≤ R.cells) (hslots : slots + N' ≤ R.slots) (hdg : decode cc pc = .ok (.newarray .byte, 2))
    (kk : ∀ (q : Nat) (H1 : Heap), Wd g A H0 (ws ++ [arB g q N' (fun _ => 0)]) H1 locs → W p l e R s m args below meth c H1 locs (cells + 1) (slots + N') Q (F0 m (pc + 2) ls (.ref q :: rest))) : W p l e R s m args below meth c H locs cells slots Q (F0 m pc ls (.int n :: rest)) := by
  refine va_newa (atype := .byte) (ty := .byte) (a0 := (N', .inl (fun _ => 0))) C.1 C.2.1 (C.2.2.2.2 _ harr) rfl hK w.1 w.2.1 w.2.2 hA (fun _ => rfl) hn hN hb hcells hslots hdg (fun q cA H1 h0 h1 h2 h3 => ?_)
  have e := cls_eq (k := 2) (cB := g.2 2) (fun _ h => by cases h) hK rfl h0
  subst e
  exact kk q H1 ⟨h1, h2, h3⟩
theorem r_newQ (C : CallFix p m c cc nL s args Ts own) (hK : va_K g.1 vwCl (tyl g) s) (w : Wd g A H0 ws H locs) (hA : ∀ q, H0.size ≤ q → A q) {Cn : String} {index t : Nat} (ht : (tyl g)[t]? = some (g.2 t, .object Cn)) (hcl : Cond.classLink own index Cn ∈ Ts) (hover : va_AO Cn s) {n : Int32} {N' : Nat} (hn : ¬ n < 0) (hN : n.toNatClampNeg = N') (hb : N' * 4 ≤ 536870912) (hcells : cells + 1 ≤ R.cells) (hslots : slots + N' ≤ R.slots) (hdg : decode cc pc = .ok (.anewarray index, 3))
    (kk : ∀ (q : Nat) (H1 : Heap), Wd g A H0 (ws ++ [arR (g.2 t) q N' (fun _ => none)]) H1 locs → W p l e R s m args below meth c H1 locs (cells + 1) (slots + N') Q (F0 m (pc + 3) ls (.ref q :: rest))) : W p l e R s m args below meth c H locs cells slots Q (F0 m pc ls (.int n :: rest)) := by
  refine va_newq C.1 C.2.1 C.2.2.2.1 (C.2.2.2.2 _ hcl) hover hK w.1 w.2.1 w.2.2 hA hn hN hb hcells hslots hdg (fun q cA H1 h0 h1 h2 h3 => ?_)
  have e := cls_eqO hK ht h0
  subst e
  exact kk q H1 ⟨h1, h2, h3⟩
theorem r_ast (C : CallFix p m c cc nL s args Ts own) (hK : va_K g.1 vwCl (tyl g) s) (w : Wd g A H0 ws H locs) (q0 t qk ci : Nat) {r : vw_C} {n v k : Nat} {vs : List Value} {f : Nat → Option Nat} (ha : ws[q0]? = some (arR (g.2 t) a n f)) (ht : (tyl g)[t]? = some (g.2 t, .object r.1)) (hv : ws[qk]? = some (v, .inr (ci, vs))) (hc : vwCl[ci]? = some r) {i : Int32} (hin : vp_in i n) (hik : i.toNatClampNeg = k) (hdg : decode cc pc = .ok (.aastore, 1))
    (kk : ∀ (H1 : Heap) (locs1 : List Loc), Wd g A H0 (ws.set q0 (arR (g.2 t) a n (va_up f k (some v)))) H1 locs1 → W p l e R s m args below meth c H1 locs1 cells slots Q (F0 m (pc + 1) ls rest)) : W p l e R s m args below meth c H locs cells slots Q (F0 m pc ls (.ref v :: .int i :: .ref a :: rest)) :=
  va_astq C.1 C.2.1 hK w.1 w.2.1 w.2.2 q0 t qk ci ha ht hv hc hin hdg (fun H1 l1 h1 h2 h3 => by rw [hik] at h1 h2; exact kk H1 l1 ⟨h1, h2, h3⟩)
variable {y : MethodName} {wsc : List Cond} {rm : Room} {wc w1 : va_W} {b : Addr} {Cn : String} {bytes : ByteArray} {maxL n index ci mc ms : Nat} {T : u_T} {N : Nat} {fs : List Value} {Bx : State → Prop}
/-- behind a call that made the part w1 of the part wc -/
theorem Wd_grow {wr : va_W} {H1 : Heap} {locs1 : List Loc} {t : State} (w : Wd g A H0 ws H locs) (isC isR : List Nat) (hC : isC.map (fun i => ws[i]?) = wc.map some) (hR : isR.map (fun i => ws[i]?) = wr.map some) (hn : va_nd isR = true) (hdis : ∀ i ∈ isR, i ∉ isC) (hA : ∀ q, H0.size ≤ q → A q) (ht : t.heap = H1) (hB : RWq g (va_A wc H.size) w1 t) (hk : ∀ q : Nat, q < H.size → ¬ va_A wc H.size q → H1[q]? = H[q]?) (hS : va_S A H0 H1 locs1) : Wd g A H0 (wr ++ w1) H1 locs1 := by
  obtain ⟨hP1, -, hD1⟩ := hB
  rw [ht] at hP1
  obtain ⟨hP, hD⟩ := va_join (wr := wr) (w1 := w1) w.1 w.2.1 isC isR hC hR hn hdis hk (va_free w.2.1 w.2.2 hA isC hC) hP1 hD1
  exact ⟨hP, hD, hS⟩
theorem r_ini {I : Type} {pk : I → Nat} {Wf : I → va_W} {wr : va_W} (C : CallFix p m c cc nL s args Ts own) (hM : Met l y wsc rm (va_Pc [.ref b] (fun U => RWp g H.size wc U ∧ Bx U)) (va_Qv (fun _ : Unit => True) (fun _ t => ∃ i : I, pk i = b ∧ RWq g (va_A wc H.size) (Wf i) t) (va_A wc H.size)) mc ms (va_A wc H.size)) (cw : CallB R s args own index y bytes maxL none wsc rm mc ms 0 ∧ y.name = "<init>" ∧ (Cond.instanceMethod y).before args s = true) (hbl : ∀ (a : Array Value) (U : State) (q : JFrame) (mk : MethodId), Bx U → Bx (U.calling q mk a)) (hBx : ∀ U : State, s.WarmedH U.vm → Bx U) (hK : va_K g.1 vwCl (tyl g) s) (w : Wd g A H0 ws H locs) (hA : ∀ q, H0.size ≤ q → A q) (isC isR : List Nat) (hnC : va_nd isC = true) (hC : isC.map (fun i => ws[i]?) = wc.map some) (hR : isR.map (fun i => ws[i]?) = wr.map some) (hnR : va_nd isR = true) (hdis : ∀ i ∈ isR, i ∉ isC) (hsz : ls.size = nL) (hst : st0 = .ref b :: rest) (hW : (rest.map fun v => v.category).sum ≤ 8) (hcs : cells + mc ≤ R.cells ∧ slots + ms ≤ R.slots) (hdg : decode cc pc = .ok (.invokespecial index, 3))
    (kk : ∀ (i : I) (H1 : Heap) (locs1 : List Loc), pk i = b → Wd g A H0 (wr ++ Wf i) H1 locs1 → W p l e R s m args below meth c H1 locs1 (cells + mc) (slots + ms) Q (F0 m (pc + 3) ls rest)) : W p l e R s m args below meth c H locs cells slots Q (F0 m pc ls st0) := by
  obtain ⟨hPc, hDc⟩ := Wd_pre w isC hnC hC
  have hF := va_free w.2.1 w.2.2 hA isC hC
  refine va_callv (va_runI (g := F0 m pc ls st0) (As := []) (rest := rest) C hM cw ⟨fun a U q mk h => ⟨h.1, (RW_blind (As := [.ref b]) a U q mk ⟨h.1, h.2.1⟩).2, hbl a U q mk h.2.2⟩, fun U hU hW => ⟨rfl, ⟨by rw [hU], by rw [hU]; exact hPc, va_K.moved hW.alike hK, hDc⟩, hBx U hW⟩⟩ rfl rfl hsz hst (lv_room hW) hdg hcs) w.2.2 (fun q _ h => hF q h) hF (fun _ t H1 locs1 ht hvm _ hB _ hk hS => ?_)
  obtain ⟨i, hi, hB⟩ := hB
  exact kk i H1 locs1 hi (Wd_grow w isC isR hC hR hnR hdis hA ht hB hk hS)
theorem r_iniN {I : Type} {pk : I → Nat} {Wf : I → va_W} {wr : va_W} {host : String} (C : CallFix p m c cc nL s args Ts own) (hM : Met l y wsc rm (va_Pc [.ref b] (fun U => RWp g H.size wc U ∧ Bx U)) (va_Qv (fun _ : Unit => True) (fun _ t => ∃ i : I, pk i = b ∧ RWq g (va_A wc H.size) (Wf i) t) (va_A wc H.size)) mc ms (va_A wc H.size)) (cw : va_CN R s args own index y host bytes maxL none wsc rm mc ms 0 ∧ y.name = "<init>" ∧ (Cond.instanceMethod y).before args s = true) (hbl : ∀ (a : Array Value) (U : State) (q : JFrame) (mk : MethodId), Bx U → Bx (U.calling q mk a)) (hBx : ∀ U : State, s.WarmedH U.vm → Bx U) (hK : va_K g.1 vwCl (tyl g) s) (w : Wd g A H0 ws H locs) (hA : ∀ q, H0.size ≤ q → A q) (isC isR : List Nat) (hnC : va_nd isC = true) (hC : isC.map (fun i => ws[i]?) = wc.map some) (hR : isR.map (fun i => ws[i]?) = wr.map some) (hnR : va_nd isR = true) (hdis : ∀ i ∈ isR, i ∉ isC) (hsz : ls.size = nL) (hst : st0 = .ref b :: rest) (hW : (rest.map fun v => v.category).sum ≤ 8) (hcs : cells + mc ≤ R.cells ∧ slots + ms ≤ R.slots) (hdg : decode cc pc = .ok (.invokespecial index, 3))
    (kk : ∀ (i : I) (H1 : Heap) (locs1 : List Loc), pk i = b → Wd g A H0 (wr ++ Wf i) H1 locs1 → W p l e R s m args below meth c H1 locs1 (cells + mc) (slots + ms) Q (F0 m (pc + 3) ls rest)) : W p l e R s m args below meth c H locs cells slots Q (F0 m pc ls st0) := by
  obtain ⟨hPc, hDc⟩ := Wd_pre w isC hnC hC
  have hF := va_free w.2.1 w.2.2 hA isC hC
  refine va_callv (va_runIN (g := F0 m pc ls st0) (As := []) (rest := rest) C hM cw ⟨fun a U q mk h => ⟨h.1, (RW_blind (As := [.ref b]) a U q mk ⟨h.1, h.2.1⟩).2, hbl a U q mk h.2.2⟩, fun U hU hW => ⟨rfl, ⟨by rw [hU], by rw [hU]; exact hPc, va_K.moved hW.alike hK, hDc⟩, hBx U hW⟩⟩ rfl rfl hsz hst (lv_room hW) hdg hcs) w.2.2 (fun q _ h => hF q h) hF (fun _ t H1 locs1 ht hvm _ hB _ hk hS => ?_)
  obtain ⟨i, hi, hB⟩ := hB
  exact kk i H1 locs1 hi (Wd_grow w isC isR hC hR hnR hdis hA ht hB hk hS)
end MI
section MI2
variable {p : Program} {R : Room} {s : State} {m : MethodId} {args : Array Value} {c : Code} {cc bytes : ByteArray} {nL index maxL fr lo mc ms : Nat} {c0 : Cond} {own Cn host : String} {y : MethodName}
theorem g_self {c0 cd : Cond} (hcd : cd ∈ wsL_law) : GoodIn (c0 :: wsL_law) (cd :: wsL_law) := g_cons (pre := []) (fun _ h => absurd h List.not_mem_nil) hcd
theorem cwI0 (C : CallFix p m c cc nL s args (c0 :: wsL_law) own) (hl : Cond.methodLink own index y ∈ wsL_law) (mw : Cond.instanceMethod y ∈ wsL_law ∧ Cond.initialized y.cls ∈ wsL_law ∧ Cond.code y bytes maxL none ∈ wsL_law) (hy : y.name = "<init>") (hd : y.cls ≠ "java/lang/invoke/MethodHandle" ∧ y.cls ≠ "java/lang/invoke/VarHandle" ∧ (parseMethodDescriptor y.desc).map (fun d => d.parameters.length) = some 0) (hR : fr + 1 ≤ R.frames ∧ 8 + (maxL + 11) + lo ≤ R.locals) : CallB R s args own index y bytes maxL none (Cond.code y bytes maxL none :: wsL_law) { frames := fr, cells := mc, slots := ms, locals := lo } mc ms 0 ∧ y.name = "<init>" ∧ (Cond.instanceMethod y).before args s = true :=
  cwI 0 C.2.2.2.2 (g_self mw.2.2) rfl rfl rfl (C.2.2.2.2 _ (List.mem_cons_of_mem _ mw.2.1)) (C.2.2.2.2 _ (List.mem_cons_of_mem _ hl)) (C.2.2.2.2 _ (List.mem_cons_of_mem _ mw.1)) hy hd hR
theorem cwN0 (C : CallFix p m c cc nL s args (c0 :: wsL_law) own) (hl : va_Nw (.methodLinkNest own index y host) s) (mw : Cond.instanceMethod y ∈ wsL_law ∧ Cond.initialized y.cls ∈ wsL_law ∧ Cond.code y bytes maxL none ∈ wsL_law) (hy : y.name = "<init>") (hd : y.cls ≠ "java/lang/invoke/MethodHandle" ∧ y.cls ≠ "java/lang/invoke/VarHandle" ∧ (parseMethodDescriptor y.desc).map (fun d => d.parameters.length) = some 0) (hR : fr + 1 ≤ R.frames ∧ 8 + (maxL + 11) + lo ≤ R.locals) : va_CN R s args own index y host bytes maxL none (Cond.code y bytes maxL none :: wsL_law) { frames := fr, cells := mc, slots := ms, locals := lo } mc ms 0 ∧ y.name = "<init>" ∧ (Cond.instanceMethod y).before args s = true :=
  ⟨va_cnB 0 C.2.2.2.2 (g_self mw.2.2) rfl rfl rfl hl (C.2.2.2.2 _ (List.mem_cons_of_mem _ mw.2.1)) hd hR, hy, C.2.2.2.2 _ (List.mem_cons_of_mem _ mw.1)⟩
end MI2
