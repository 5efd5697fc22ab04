-- String constants: what the Statement gives of them, and the JDK's own methods that are asked
abbrev SG : Type := (Nat → Nat) × (Nat → Nat) × Option Nat
def SE (sg : SG) (A : Nat → Prop) (U : State) (H : Heap) : Prop := vk_S 7 lenS bytS sg.1 sg.2.1 A U H ∧ va_Z "java/lang/String" "COMPACT_STRINGS" "Z" (.int 1) A U H ∧ va_Z "jdk/internal/util/Preconditions" "SIOOBE_FORMATTER" "Ljava/util/function/BiFunction;" (va_rf sg.2.2) A U H ∧ vk_R RX2 140 "plain" (sg.1 0) U ∧ vk_R RX2 142 "small" (sg.1 1) U ∧ vk_R RX2 144 "sermon" (sg.1 2) U ∧ vk_R RX2 146 "proposal" (sg.1 3) U ∧ vk_R RX2 148 "wall" (sg.1 4) U ∧ vk_R RX2 150 "wind" (sg.1 5) U ∧ vk_R RX2 152 "hearer" (sg.1 6) U
theorem SE.warm {sg : SG} {A : Nat → Prop} {u U : State} {H : Heap} (hW : u.WarmedH U.vm) (h : SE sg A u H) : SE sg A U H :=
  ⟨h.1.moved hW.alike, h.2.1.moved hW.alike, h.2.2.1.moved hW.alike, h.2.2.2.1.warm hW, h.2.2.2.2.1.warm hW, h.2.2.2.2.2.1.warm hW, h.2.2.2.2.2.2.1.warm hW, h.2.2.2.2.2.2.2.1.warm hW, h.2.2.2.2.2.2.2.2.1.warm hW, h.2.2.2.2.2.2.2.2.2.warm hW⟩
theorem SE.same {sg : SG} {A : Nat → Prop} {u U : State} {H : Heap} (hv : U.vm = u.vm) (h : SE sg A u H) : SE sg A U H := by
  have ha : u.vm.Alike U.vm := by rw [hv]; exact Vm.Alike.refl u.vm
  exact ⟨h.1.moved ha, h.2.1.moved ha, h.2.2.1.moved ha, h.2.2.2.1.same hv, h.2.2.2.2.1.same hv, h.2.2.2.2.2.1.same hv, h.2.2.2.2.2.2.1.same hv, h.2.2.2.2.2.2.2.1.same hv, h.2.2.2.2.2.2.2.2.1.same hv, h.2.2.2.2.2.2.2.2.2.same hv⟩
theorem SE.kept {sg : SG} {A : Nat → Prop} {U : State} {H H1 : Heap} (h : SE sg A U H) (hq : ∀ a : Nat, a < H.size → ¬ A a → H1[a]? = H[a]?) : SE sg A U H1 := ⟨h.1.kept hq, h.2.1.kept hq, h.2.2.1.kept hq, h.2.2.2⟩
theorem SE.narrow {sg : SG} {A B : Nat → Prop} {U : State} {H : Heap} (h : SE sg A U H) (hAB : ∀ q, B q → A q) : SE sg B U H := ⟨h.1.narrow hAB, h.2.1.narrow hAB, h.2.2.1.narrow hAB, h.2.2.2⟩
/-- the strings alone; with a world that is read; with one that is changed -/
def SEp (sg : SG) (U : State) : Prop := SE sg (fun _ => False) U U.heap
def ROs (g : Gx) (ws : va_W) (sg : SG) (U : State) : Prop := RO g ws U ∧ SEp sg U
def RWs (g : Gx) (sz : Nat) (ws : va_W) (sg : SG) (U : State) : Prop := RWp g sz ws U ∧ SE sg (va_A ws sz) U U.heap
theorem SE_blind {sg : SG} {As : List Value} : FrameBlind (va_Pc As (SEp sg)) := fun a U q mk h => ⟨h.1, SE.same (u := U) (U := U.calling q mk a) rfl h.2⟩
theorem ROs_blind {g : Gx} {ws : va_W} {sg : SG} {As : List Value} : FrameBlind (va_Pc As (ROs g ws sg)) := fun a U q mk h => ⟨h.1, (RO_blind (As := As) a U q mk ⟨h.1, h.2.1⟩).2, SE.same (u := U) (U := U.calling q mk a) rfl h.2.2⟩
theorem RWs_blind {g : Gx} {sz : Nat} {ws : va_W} {sg : SG} {As : List Value} : FrameBlind (va_Pc As (RWs g sz ws sg)) := fun a U q mk h => ⟨h.1, (RW_blind (As := As) a U q mk ⟨h.1, h.2.1⟩).2, SE.same (u := U) (U := U.calling q mk a) rfl h.2.2⟩
section MS
variable {p : Program} {l : Launch} {e : Env} {R : Room} {s : State} {m : MethodId} {args : Array Value} {below : List Frame} {meth : Method} {c : Code} {H : Heap} {locs : List Loc} {cells slots : Nat} {Q : State → Prop}
variable {cc : ByteArray} {pc nL : Nat} {ls : Array Slot} {rest st0 : List Value} {Ts : List Cond} {own : String} {g : Gx} {ws : va_W} {A : Nat → Prop} {H0 : Heap} {a : Nat}
theorem Met_px {y : MethodName} {tw ws' : List Cond} {rm : Room} {As : List Value} {r : Int32} {maxL : Nat} {ty : FieldType} {Bp : State → Prop} (hy : plainName y.cls = true) (hw : tw = Cond.code y cc maxL (some ty) :: ws') (hAs : (lg_sl As).length ≤ maxL)
    (body : ∀ (p : Program) (e : Env) (s : State) (m : MethodId) (args : Array Value) (below : List Frame) (meth : Method) (c : Code) (Q : State → Prop), CallFix p m c cc maxL s args tw y.cls → (∀ (ls : Array Slot) (pc : Nat) (v : Int32), decode cc pc = .ok (.ireturn, 1) → narrow ty (.int v) = .int v → v = r → W p l e rm s m args below meth c s.heap [] 0 0 Q (F0 m pc ls [.int v])) → Bp s → ∀ ls : Array Slot, lv_has ls maxL (lv_args 0 As) → W p l e rm s m args below meth c s.heap [] 0 0 Q (F0 m 0 ls [])) : Met l y tw rm (va_Pc As Bp) (vp_Si (fun x => x = r)) 0 0 (fun _ => False) := by
  refine Met.ofW (cc := cc) (maxL := maxL) (ret := (some ty)) hy hw ?_
  intro p e s m args below meth c s₁ B hml hv
  obtain ⟨rfl, hB⟩ := hv
  have hl := lv_entry As (n := maxL) hAs
  rw [lg_entry_eq]
  exact body p e s m _ below meth c _ ⟨B.exec, B.bytes, hml, findClass_of_methodNamed B.named, atoms_spec (ws := tw) B.pre⟩ (fun ls pc v hd hn hv => W.zret B.exec B.bytes B.returns hn (fun t ht hW => ⟨v, rfl, hv, ht⟩) (fun _ h => nomatch h) hd B.notSynchronized) hB _ hl
theorem Met_pv {y : MethodName} {tw ws' : List Cond} {rm : Room} {As : List Value} {maxL : Nat} {Bp : State → Prop} (hy : plainName y.cls = true) (hw : tw = Cond.code y cc maxL none :: ws') (hAs : (lg_sl As).length ≤ maxL)
    (body : ∀ (p : Program) (e : Env) (s : State) (m : MethodId) (args : Array Value) (below : List Frame) (meth : Method) (c : Code) (Q : State → Prop), CallFix p m c cc maxL s args tw y.cls → (∀ (ls : Array Slot) (pc : Nat), decode cc pc = .ok (.return_, 1) → W p l e rm s m args below meth c s.heap [] 0 0 Q (F0 m pc ls [])) → Bp s → ∀ ls : Array Slot, lv_has ls maxL (lv_args 0 As) → W p l e rm s m args below meth c s.heap [] 0 0 Q (F0 m 0 ls [])) : Met l y tw rm (va_Pc As Bp) (va_Sv (fun _ => True)) 0 0 (fun _ => False) := by
  refine Met.ofW (cc := cc) (maxL := maxL) (ret := none) hy hw ?_
  intro p e s m args below meth c s₁ B hml hv
  obtain ⟨rfl, hB⟩ := hv
  have hl := lv_entry As (n := maxL) hAs
  rw [lg_entry_eq]
  exact body p e s m _ below meth c _ ⟨B.exec, B.bytes, hml, findClass_of_methodNamed B.named, atoms_spec (ws := tw) B.pre⟩ (fun ls pc hd => W.vret B.exec B.bytes B.returns (fun t ht hW => ⟨rfl, trivial, ht⟩) (fun _ h => nomatch h) hd B.notSynchronized) hB _ hl
theorem Met_pr {y : MethodName} {tw ws' : List Cond} {rm : Room} {As : List Value} {i : Nat} {ad : Nat → Nat} {maxL : Nat} {tyn : String} {Bp : State → Prop} (hy : plainName y.cls = true) (hw : tw = Cond.code y cc maxL (some (.object tyn)) :: ws') (hAs : (lg_sl As).length ≤ maxL)
    (body : ∀ (p : Program) (e : Env) (s : State) (m : MethodId) (args : Array Value) (below : List Frame) (meth : Method) (c : Code) (Q : State → Prop), CallFix p m c cc maxL s args tw y.cls → (∀ (ls : Array Slot) (pc k : Nat), decode cc pc = .ok (.areturn, 1) → k = i → W p l e rm s m args below meth c s.heap [] 0 0 Q (F0 m pc ls [.ref (ad k)])) → Bp s → ∀ ls : Array Slot, lv_has ls maxL (lv_args 0 As) → W p l e rm s m args below meth c s.heap [] 0 0 Q (F0 m 0 ls [])) : Met l y tw rm (va_Pc As Bp) (va_Sr (fun k => k = i) (fun k => .ref (ad k))) 0 0 (fun _ => False) := by
  refine Met.ofW (cc := cc) (maxL := maxL) (ret := (some (.object tyn))) hy hw ?_
  intro p e s m args below meth c s₁ B hml hv
  obtain ⟨rfl, hB⟩ := hv
  have hl := lv_entry As (n := maxL) hAs
  rw [lg_entry_eq]
  exact body p e s m _ below meth c _ ⟨B.exec, B.bytes, hml, findClass_of_methodNamed B.named, atoms_spec (ws := tw) B.pre⟩ (fun ls pc k hd hk => W.aret (v := .ref (ad k)) B.exec B.bytes B.returns (Or.inl ⟨_, rfl⟩) (Or.inr ⟨_, rfl⟩) (fun t ht hW => ⟨k, rfl, hk, ht⟩) (fun _ h => nomatch h) hd B.notSynchronized) hB _ hl
variable {y : MethodName} {wsc : List Cond} {rm : Room} {As : List Value} {wc w1 : va_W} {b : Addr} {Cn : String} {bytes : ByteArray} {maxL n index ci : Nat} {ret : Option FieldType} {T : u_T} {N : Nat} {fs : List Value} {Bp : State → Prop}
theorem r_pxV {r : Int32} (C : CallFix p m c cc nL s args Ts own) (hM : Met l y wsc rm (va_Pc (.ref b :: As) Bp) (vp_Si (fun x => x = r)) 0 0 (fun _ => False)) (cw : CallW R s args own Cn index y bytes maxL ret wsc rm 0 0 n) (hbl : FrameBlind (va_Pc (.ref b :: As) Bp)) (hrec : ∃ cellB : Cell, H[b]? = some cellB ∧ cellB.vm.isStatics = false ∧ s.vm.findClass Cn = some cellB.cls) (hpre : ∀ U : State, U.heap = H → s.WarmedH U.vm → Bp U) (hn : As.length = n) (hsz : ls.size = nL) (hst : st0 = As.reverse ++ .ref b :: rest) (hW : (rest.map fun v => v.category).sum ≤ 8) (hcs : cells ≤ R.cells ∧ slots ≤ R.slots) (hdg : decode cc pc = .ok (.invokevirtual index, 3))
    (kk : W p l e R s m args below meth c H locs cells slots Q (F0 m (pc + 3) ls (.int r :: rest))) : W p l e R s m args below meth c H locs cells slots Q (F0 m pc ls st0) :=
  vp_callSi (W.runV (g := F0 m pc ls st0) C hM cw ⟨hbl, hrec, fun U hU hW => ⟨rfl, hpre U hU hW⟩⟩ rfl hn hsz hst (lv_room hW) hdg hcs) (fun x hx => by subst hx; exact kk)
theorem r_pxS {r : Int32} (C : CallFix p m c cc nL s args Ts own) (hM : Met l y wsc rm (va_Pc As Bp) (vp_Si (fun x => x = r)) 0 0 (fun _ => False)) (cw : CallB R s args own index y bytes maxL ret wsc rm 0 0 n ∧ (Cond.static y).before args s = true) (hbl : FrameBlind (va_Pc As Bp)) (hpre : ∀ U : State, U.heap = H → s.WarmedH U.vm → Bp U) (hn : As.length = n) (hsz : ls.size = nL) (hst : st0 = As.reverse ++ rest) (hW : (rest.map fun v => v.category).sum ≤ 8) (hcs : cells ≤ R.cells ∧ slots ≤ R.slots) (hdg : decode cc pc = .ok (.invokestatic index, 3))
    (kk : W p l e R s m args below meth c H locs cells slots Q (F0 m (pc + 3) ls (.int r :: rest))) : W p l e R s m args below meth c H locs cells slots Q (F0 m pc ls st0) :=
  vp_callSi (W.runS (g := F0 m pc ls st0) C hM cw ⟨hbl, fun U hU hW => ⟨rfl, hpre U hU hW⟩⟩ rfl hn hsz hst (lv_room hW) hdg hcs) (fun x hx => by subst hx; exact kk)
theorem r_pvS (C : CallFix p m c cc nL s args Ts own) (hM : Met l y wsc rm (va_Pc As Bp) (va_Sv (fun _ => True)) 0 0 (fun _ => False)) (cw : CallB R s args own index y bytes maxL ret wsc rm 0 0 n ∧ (Cond.static y).before args s = true) (hbl : FrameBlind (va_Pc As Bp)) (hpre : ∀ U : State, U.heap = H → s.WarmedH U.vm → Bp U) (hn : As.length = n) (hsz : ls.size = nL) (hst : st0 = As.reverse ++ rest) (hW : (rest.map fun v => v.category).sum ≤ 8) (hcs : cells ≤ R.cells ∧ slots ≤ R.slots) (hdg : decode cc pc = .ok (.invokestatic index, 3))
    (kk : W p l e R s m args below meth c H locs cells slots Q (F0 m (pc + 3) ls rest)) : W p l e R s m args below meth c H locs cells slots Q (F0 m pc ls st0) :=
  va_csv (W.runS (g := F0 m pc ls st0) C hM cw ⟨hbl, fun U hU hW => ⟨rfl, hpre U hU hW⟩⟩ rfl hn hsz hst (lv_room hW) hdg hcs) (fun _ => kk)
theorem r_prS {i : Nat} {ad : Nat → Nat} (C : CallFix p m c cc nL s args Ts own) (hM : Met l y wsc rm (va_Pc As Bp) (va_Sr (fun k => k = i) (fun k => .ref (ad k))) 0 0 (fun _ => False)) (cw : CallB R s args own index y bytes maxL ret wsc rm 0 0 n ∧ (Cond.static y).before args s = true) (hbl : FrameBlind (va_Pc As Bp)) (hpre : ∀ U : State, U.heap = H → s.WarmedH U.vm → Bp U) (hn : As.length = n) (hsz : ls.size = nL) (hst : st0 = As.reverse ++ rest) (hW : (rest.map fun v => v.category).sum ≤ 8) (hcs : cells ≤ R.cells ∧ slots ≤ R.slots) (hdg : decode cc pc = .ok (.invokestatic index, 3))
    (kk : W p l e R s m args below meth c H locs cells slots Q (F0 m (pc + 3) ls (.ref (ad i) :: rest))) : W p l e R s m args below meth c H locs cells slots Q (F0 m pc ls st0) :=
  va_csr (W.runS (g := F0 m pc ls st0) C hM cw ⟨hbl, fun U hU hW => ⟨rfl, hpre U hU hW⟩⟩ rfl hn hsz hst (lv_room hW) hdg hcs) (fun x hx => by subst hx; exact kk)
end MS

abbrev tbJ0_coder_7d493 : List (Nat × Instr × Nat) := [(0, .getstatic 38, 3), (3, .ifCond .eq 10, 3), (6, .aload_n 0, 1), (7, .getfield 15, 3), (10, .goto 4, 3), (13, .iconst 1, 1), (14, .ireturn, 1)]
theorem dkJ0_coder_7d493 : dk cJ0_coder_7d493 tbJ0_coder_7d493 := dk_of (by decide +kernel)
abbrev cdJ0_coder_7d493 : Cond := Cond.code yJ0_coder_7d493 cJ0_coder_7d493 1 (some .byte)
abbrev rmJ0_coder_7d493 : Room := { frames := 0, cells := 0, slots := 0, locals := 0 }
theorem mwJ0_coder_7d493 : Cond.instanceMethod yJ0_coder_7d493 ∈ wsL_law ∧ Cond.selects RJ0 yJ0_coder_7d493 yJ0_coder_7d493 ∈ wsL_law ∧ Cond.initialized RJ0 ∈ wsL_law ∧ cdJ0_coder_7d493 ∈ wsL_law := ⟨inr8 _ (List.mem_of_getElem? (i := 10) rfl), inr8 _ (List.mem_of_getElem? (i := 11) rfl), inr8 _ (List.mem_of_getElem? (i := 6) rfl), inr8 _ (List.mem_of_getElem? (i := 12) rfl)⟩
theorem hdJ0_coder_7d493 : yJ0_coder_7d493.cls = RJ0 ∧ yJ0_coder_7d493.cls ≠ "java/lang/invoke/MethodHandle" ∧ yJ0_coder_7d493.cls ≠ "java/lang/invoke/VarHandle" ∧ (parseMethodDescriptor yJ0_coder_7d493.desc).map (fun d => d.parameters.length) = some 0 := by decide +kernel

theorem kJ0_coder_7d493 (l : Launch) (sg : SG) (i : Nat) (hi : i < 7) : Met l yJ0_coder_7d493 (cdJ0_coder_7d493 :: wsL_law) rmJ0_coder_7d493 (va_Pc [.ref (sg.1 i)] (SEp sg)) (vp_Si (fun x => x = 0)) 0 0 (fun _ => False) := by
  refine Met_px (cc := cJ0_coder_7d493) (maxL := 1) (by decide) rfl (Nat.le_of_ble_eq_true rfl) ?_
  intro P E Z Mi AR BE ME CO Q C fin hS ls hl
  have hl : lv_has ls 1 [(0, .ref (sg.1 i))] := hl
  refine va_gets C.1 C.2.1 hS.2.1 va_S.rf C.2.2.2.1 (C.2.2.2.2 _ (List.mem_cons_of_mem _ (inr8 _ (List.mem_of_getElem? (i := 13) rfl)))) (fun _ h => h) (dk_at dkJ0_coder_7d493 0 rfl) ?_
  refine lv_if_eq (tgt := 13) C.1 C.2.1 (dk_at dkJ0_coder_7d493 1 rfl) (by decide) (fun c1 => absurd c1 (by decide)) (fun c1 => ?_)
  refine lv_aload_n C.1 C.2.1 (dk_at dkJ0_coder_7d493 2 rfl) rfl (lv_at hl 0 rfl) ?_
  refine vk_getf C.1 C.2.1 (hS.1.1 i hi).2.1 va_S.rf C.2.2.2.1 (C.2.2.2.2 _ (List.mem_cons_of_mem _ (inr8 _ (List.mem_of_getElem? (i := 14) rfl)))) (fun _ h => h) (dk_at dkJ0_coder_7d493 3 rfl) ?_
  refine lv_goto (tgt := 14) C.1 C.2.1 (dk_at dkJ0_coder_7d493 4 rfl) (by decide) ?_
  exact fin _ _ _ (dk_at dkJ0_coder_7d493 6 rfl) rfl rfl

abbrev tbJ0_isLatin1_aae02 : List (Nat × Instr × Nat) := [(0, .getstatic 38, 3), (3, .ifCond .eq 14, 3), (6, .aload_n 0, 1), (7, .getfield 15, 3), (10, .ifCond .ne 7, 3), (13, .iconst 1, 1), (14, .goto 4, 3), (17, .iconst 0, 1), (18, .ireturn, 1)]
theorem dkJ0_isLatin1_aae02 : dk cJ0_isLatin1_aae02 tbJ0_isLatin1_aae02 := dk_of (by decide +kernel)
abbrev cdJ0_isLatin1_aae02 : Cond := Cond.code yJ0_isLatin1_aae02 cJ0_isLatin1_aae02 1 (some .boolean)
abbrev rmJ0_isLatin1_aae02 : Room := { frames := 0, cells := 0, slots := 0, locals := 0 }
theorem mwJ0_isLatin1_aae02 : Cond.instanceMethod yJ0_isLatin1_aae02 ∈ wsL_law ∧ Cond.selects RJ0 yJ0_isLatin1_aae02 yJ0_isLatin1_aae02 ∈ wsL_law ∧ Cond.initialized RJ0 ∈ wsL_law ∧ cdJ0_isLatin1_aae02 ∈ wsL_law := ⟨inr8 _ (List.mem_of_getElem? (i := 20) rfl), inr8 _ (List.mem_of_getElem? (i := 21) rfl), inr8 _ (List.mem_of_getElem? (i := 6) rfl), inr8 _ (List.mem_of_getElem? (i := 22) rfl)⟩
theorem hdJ0_isLatin1_aae02 : yJ0_isLatin1_aae02.cls = RJ0 ∧ yJ0_isLatin1_aae02.cls ≠ "java/lang/invoke/MethodHandle" ∧ yJ0_isLatin1_aae02.cls ≠ "java/lang/invoke/VarHandle" ∧ (parseMethodDescriptor yJ0_isLatin1_aae02.desc).map (fun d => d.parameters.length) = some 0 := by decide +kernel

theorem kJ0_isLatin1_aae02 (l : Launch) (sg : SG) (i : Nat) (hi : i < 7) : Met l yJ0_isLatin1_aae02 (cdJ0_isLatin1_aae02 :: wsL_law) rmJ0_isLatin1_aae02 (va_Pc [.ref (sg.1 i)] (SEp sg)) (vp_Si (fun x => x = 1)) 0 0 (fun _ => False) := by
  refine Met_px (cc := cJ0_isLatin1_aae02) (maxL := 1) (by decide) rfl (Nat.le_of_ble_eq_true rfl) ?_
  intro P E Z Mi AR BE ME CO Q C fin hS ls hl
  have hl : lv_has ls 1 [(0, .ref (sg.1 i))] := hl
  refine va_gets C.1 C.2.1 hS.2.1 va_S.rf C.2.2.2.1 (C.2.2.2.2 _ (List.mem_cons_of_mem _ (inr8 _ (List.mem_of_getElem? (i := 13) rfl)))) (fun _ h => h) (dk_at dkJ0_isLatin1_aae02 0 rfl) ?_
  refine lv_if_eq (tgt := 17) C.1 C.2.1 (dk_at dkJ0_isLatin1_aae02 1 rfl) (by decide) (fun c1 => absurd c1 (by decide)) (fun c1 => ?_)
  refine lv_aload_n C.1 C.2.1 (dk_at dkJ0_isLatin1_aae02 2 rfl) rfl (lv_at hl 0 rfl) ?_
  refine vk_getf C.1 C.2.1 (hS.1.1 i hi).2.1 va_S.rf C.2.2.2.1 (C.2.2.2.2 _ (List.mem_cons_of_mem _ (inr8 _ (List.mem_of_getElem? (i := 14) rfl)))) (fun _ h => h) (dk_at dkJ0_isLatin1_aae02 3 rfl) ?_
  refine lv_if_ne (tgt := 17) C.1 C.2.1 (dk_at dkJ0_isLatin1_aae02 4 rfl) (by decide) (fun c1 => absurd rfl c1) (fun c1 => ?_)
  refine lv_iconst (v := 1) C.1 C.2.1 (dk_at dkJ0_isLatin1_aae02 5 rfl) (by decide) ?_
  refine lv_goto (tgt := 18) C.1 C.2.1 (dk_at dkJ0_isLatin1_aae02 6 rfl) (by decide) ?_
  exact fin _ _ _ (dk_at dkJ0_isLatin1_aae02 8 rfl) rfl rfl

abbrev tbJ0_length_8abf5 : List (Nat × Instr × Nat) := [(0, .aload_n 0, 1), (1, .getfield 9, 3), (4, .arraylength, 1), (5, .aload_n 0, 1), (6, .invokevirtual 335, 3), (9, .ishr, 1), (10, .ireturn, 1)]
theorem dkJ0_length_8abf5 : dk cJ0_length_8abf5 tbJ0_length_8abf5 := dk_of (by decide +kernel)
abbrev cdJ0_length_8abf5 : Cond := Cond.code yJ0_length_8abf5 cJ0_length_8abf5 1 (some .int)
abbrev rmJ0_length_8abf5 : Room := { frames := 1, cells := 0, slots := 0, locals := 20 }
theorem mwJ0_length_8abf5 : Cond.instanceMethod yJ0_length_8abf5 ∈ wsL_law ∧ Cond.selects RJ0 yJ0_length_8abf5 yJ0_length_8abf5 ∈ wsL_law ∧ Cond.initialized RJ0 ∈ wsL_law ∧ cdJ0_length_8abf5 ∈ wsL_law := ⟨inr8 _ (List.mem_of_getElem? (i := 4) rfl), inr8 _ (List.mem_of_getElem? (i := 5) rfl), inr8 _ (List.mem_of_getElem? (i := 6) rfl), inr8 _ (List.mem_of_getElem? (i := 7) rfl)⟩
theorem hdJ0_length_8abf5 : yJ0_length_8abf5.cls = RJ0 ∧ yJ0_length_8abf5.cls ≠ "java/lang/invoke/MethodHandle" ∧ yJ0_length_8abf5.cls ≠ "java/lang/invoke/VarHandle" ∧ (parseMethodDescriptor yJ0_length_8abf5.desc).map (fun d => d.parameters.length) = some 0 := by decide +kernel

theorem slen_lt : ∀ i, i < 7 → slen i < 16 := by decide
theorem kJ0_length_8abf5 (l : Launch) (sg : SG) (i : Nat) (hi : i < 7) : Met l yJ0_length_8abf5 (cdJ0_length_8abf5 :: wsL_law) rmJ0_length_8abf5 (va_Pc [.ref (sg.1 i)] (SEp sg)) (vp_Si (fun x => x = nI (slen i))) 0 0 (fun _ => False) := by
  refine Met_px (cc := cJ0_length_8abf5) (maxL := 1) (by decide) rfl (Nat.le_of_ble_eq_true rfl) ?_
  intro P E Z Mi AR BE ME CO Q C fin hS ls hl
  have hl : lv_has ls 1 [(0, .ref (sg.1 i))] := hl
  refine lv_aload_n C.1 C.2.1 (dk_at dkJ0_length_8abf5 0 rfl) rfl (lv_at hl 0 rfl) ?_
  refine vk_getf C.1 C.2.1 (hS.1.1 i hi).2.2.1 va_S.rf C.2.2.2.1 (C.2.2.2.2 _ (List.mem_cons_of_mem _ (inr8 _ (List.mem_of_getElem? (i := 8) rfl)))) (fun _ h => h) (dk_at dkJ0_length_8abf5 1 rfl) ?_
  refine va_tlen (v := nI (slen i)) C.1 C.2.1 (hS.1.1 i hi).2.2.2 va_S.rf rfl (dk_at dkJ0_length_8abf5 2 rfl) ?_
  refine lv_aload_n C.1 C.2.1 (dk_at dkJ0_length_8abf5 3 rfl) rfl (lv_at hl 0 rfl) ?_
  refine r_pxV (As := []) (rest := [.int (nI (slen i))]) C (kJ0_coder_7d493 l sg i hi) (cwV0 C (inr8 _ (List.mem_of_getElem? (i := 9) rfl)) mwJ0_coder_7d493 hdJ0_coder_7d493 ⟨Nat.le_of_ble_eq_true rfl, Nat.le_of_ble_eq_true rfl⟩) SE_blind (vk_recv (locs := []) hS.1 hi va_S.rf) (fun U hU hW => by have q := SE.warm hW hS; rw [SEp, hU]; exact q) rfl hl.1 rfl (Nat.le_of_ble_eq_true rfl) ⟨Nat.zero_le _, Nat.zero_le _⟩ (dk_at dkJ0_length_8abf5 4 rfl) ?_
  refine lv_ishr C.1 C.2.1 (dk_at dkJ0_length_8abf5 5 rfl) ?_
  exact fin _ _ _ (dk_at dkJ0_length_8abf5 6 rfl) rfl (sb_shr0 _)

abbrev tbJ3_checkIndex_8e157 : List (Nat × Instr × Nat) := [(0, .iload_n 0, 1), (1, .ifCond .lt 8, 3), (4, .iload_n 0, 1), (5, .iload_n 1, 1), (6, .if_icmp .lt 10, 3), (9, .aload_n 2, 1), (10, .iload_n 0, 1), (11, .iload_n 1, 1), (12, .invokestatic 95, 3), (15, .athrow, 1), (16, .iload_n 0, 1), (17, .ireturn, 1)]
theorem dkJ3_checkIndex_8e157 : dk cJ3_checkIndex_8e157 tbJ3_checkIndex_8e157 := dk_of (by decide +kernel)
abbrev cdJ3_checkIndex_8e157 : Cond := Cond.code yJ3_checkIndex_8e157 cJ3_checkIndex_8e157 3 (some .int)
abbrev rmJ3_checkIndex_8e157 : Room := { frames := 0, cells := 0, slots := 0, locals := 0 }
theorem mwJ3_checkIndex_8e157 : Cond.static yJ3_checkIndex_8e157 ∈ wsL_law ∧ Cond.initialized yJ3_checkIndex_8e157.cls ∈ wsL_law ∧ cdJ3_checkIndex_8e157 ∈ wsL_law := ⟨inr9 _ (List.mem_of_getElem? (i := 8) rfl), inr9 _ (List.mem_of_getElem? (i := 9) rfl), inr9 _ (List.mem_of_getElem? (i := 10) rfl)⟩
theorem hdJ3_checkIndex_8e157 : yJ3_checkIndex_8e157.cls ≠ "java/lang/invoke/MethodHandle" ∧ yJ3_checkIndex_8e157.cls ≠ "java/lang/invoke/VarHandle" ∧ (parseMethodDescriptor yJ3_checkIndex_8e157.desc).map (fun d => d.parameters.length) = some 3 := by decide +kernel

theorem kJ3_checkIndex_8e157 (l : Launch) (k n : Int32) (t : Nat) (h1 : ¬ k < 0) (h2 : k < n) : Met l yJ3_checkIndex_8e157 (cdJ3_checkIndex_8e157 :: wsL_law) rmJ3_checkIndex_8e157 (va_Pc [.int k, .int n, .ref t] (fun _ => True)) (vp_Si (fun x => x = k)) 0 0 (fun _ => False) := by
  refine Met_px (cc := cJ3_checkIndex_8e157) (maxL := 3) (by decide) rfl (Nat.le_of_ble_eq_true rfl) ?_
  intro P E Z Mi AR BE ME CO Q C fin hS ls hl
  have hl : lv_has ls 3 [(0, .int k), (1, .int n), (2, .ref t)] := hl
  refine lv_iload_n C.1 C.2.1 (dk_at dkJ3_checkIndex_8e157 0 rfl) rfl (lv_at hl 0 rfl) ?_
  refine lv_if_lt (tgt := 9) C.1 C.2.1 (dk_at dkJ3_checkIndex_8e157 1 rfl) (by decide) (fun c1 => absurd c1 h1) (fun c1 => ?_)
  refine lv_iload_n C.1 C.2.1 (dk_at dkJ3_checkIndex_8e157 2 rfl) rfl (lv_at hl 0 rfl) ?_
  refine lv_iload_n C.1 C.2.1 (dk_at dkJ3_checkIndex_8e157 3 rfl) rfl (lv_at hl 1 rfl) ?_
  refine lv_icmp_lt (tgt := 16) C.1 C.2.1 (dk_at dkJ3_checkIndex_8e157 4 rfl) (by decide) (fun c1 => ?_) (fun c1 => absurd h2 c1)
  refine lv_iload_n C.1 C.2.1 (dk_at dkJ3_checkIndex_8e157 10 rfl) rfl (lv_at hl 0 rfl) ?_
  exact fin _ _ _ (dk_at dkJ3_checkIndex_8e157 11 rfl) rfl rfl

theorem kJ3_checkIndex_8e157n (l : Launch) (k n : Int32) (h1 : ¬ k < 0) (h2 : k < n) : Met l yJ3_checkIndex_8e157 (cdJ3_checkIndex_8e157 :: wsL_law) rmJ3_checkIndex_8e157 (va_Pc [.int k, .int n, .null] (fun _ => True)) (vp_Si (fun x => x = k)) 0 0 (fun _ => False) := by
  refine Met_px (cc := cJ3_checkIndex_8e157) (maxL := 3) (by decide) rfl (Nat.le_of_ble_eq_true rfl) ?_
  intro P E Z Mi AR BE ME CO Q C fin hS ls hl
  have hl : lv_has ls 3 [(0, .int k), (1, .int n), (2, .null)] := hl
  refine lv_iload_n C.1 C.2.1 (dk_at dkJ3_checkIndex_8e157 0 rfl) rfl (lv_at hl 0 rfl) ?_
  refine lv_if_lt (tgt := 9) C.1 C.2.1 (dk_at dkJ3_checkIndex_8e157 1 rfl) (by decide) (fun c1 => absurd c1 h1) (fun c1 => ?_)
  refine lv_iload_n C.1 C.2.1 (dk_at dkJ3_checkIndex_8e157 2 rfl) rfl (lv_at hl 0 rfl) ?_
  refine lv_iload_n C.1 C.2.1 (dk_at dkJ3_checkIndex_8e157 3 rfl) rfl (lv_at hl 1 rfl) ?_
  refine lv_icmp_lt (tgt := 16) C.1 C.2.1 (dk_at dkJ3_checkIndex_8e157 4 rfl) (by decide) (fun c1 => ?_) (fun c1 => absurd h2 c1)
  refine lv_iload_n C.1 C.2.1 (dk_at dkJ3_checkIndex_8e157 10 rfl) rfl (lv_at hl 0 rfl) ?_
  exact fin _ _ _ (dk_at dkJ3_checkIndex_8e157 11 rfl) rfl rfl

abbrev tbJ0_checkIndex_df160 : List (Nat × Instr × Nat) := [(0, .iload_n 0, 1), (1, .iload_n 1, 1), (2, .getstatic 1053, 3), (5, .invokestatic 1059, 3), (8, .pop, 1), (9, .return_, 1)]
theorem dkJ0_checkIndex_df160 : dk cJ0_checkIndex_df160 tbJ0_checkIndex_df160 := dk_of (by decide +kernel)
abbrev cdJ0_checkIndex_df160 : Cond := Cond.code yJ0_checkIndex_df160 cJ0_checkIndex_df160 2 none
abbrev rmJ0_checkIndex_df160 : Room := { frames := 1, cells := 0, slots := 0, locals := 22 }
theorem mwJ0_checkIndex_df160 : Cond.static yJ0_checkIndex_df160 ∈ wsL_law ∧ Cond.initialized yJ0_checkIndex_df160.cls ∈ wsL_law ∧ cdJ0_checkIndex_df160 ∈ wsL_law := ⟨inr9 _ (List.mem_of_getElem? (i := 4) rfl), inr8 _ (List.mem_of_getElem? (i := 6) rfl), inr9 _ (List.mem_of_getElem? (i := 5) rfl)⟩
theorem hdJ0_checkIndex_df160 : yJ0_checkIndex_df160.cls ≠ "java/lang/invoke/MethodHandle" ∧ yJ0_checkIndex_df160.cls ≠ "java/lang/invoke/VarHandle" ∧ (parseMethodDescriptor yJ0_checkIndex_df160.desc).map (fun d => d.parameters.length) = some 2 := by decide +kernel

theorem kJ0_checkIndex_df160 (l : Launch) (sg : SG) (k n : Int32) (h1 : ¬ k < 0) (h2 : k < n) : Met l yJ0_checkIndex_df160 (cdJ0_checkIndex_df160 :: wsL_law) rmJ0_checkIndex_df160 (va_Pc [.int k, .int n] (SEp sg)) (va_Sv (fun _ => True)) 0 0 (fun _ => False) := by
  refine Met_pv (cc := cJ0_checkIndex_df160) (maxL := 2) (by decide) rfl (Nat.le_of_ble_eq_true rfl) ?_
  intro P E Z Mi AR BE ME CO Q C fin hS ls hl
  have hl : lv_has ls 2 [(0, .int k), (1, .int n)] := hl
  refine lv_iload_n C.1 C.2.1 (dk_at dkJ0_checkIndex_df160 0 rfl) rfl (lv_at hl 0 rfl) ?_
  refine lv_iload_n C.1 C.2.1 (dk_at dkJ0_checkIndex_df160 1 rfl) rfl (lv_at hl 1 rfl) ?_
  refine va_gets C.1 C.2.1 hS.2.2.1 va_S.rf C.2.2.2.1 (C.2.2.2.2 _ (List.mem_cons_of_mem _ (inr9 _ (List.mem_of_getElem? (i := 6) rfl)))) (fun _ h => h) (dk_at dkJ0_checkIndex_df160 2 rfl) ?_
  obtain ⟨s1, s2, t⟩ := sg
  cases t with
  | none =>
    refine r_pxS (As := [.int k, .int n, .null]) (rest := []) C (kJ3_checkIndex_8e157n l k n h1 h2) (cwS0 C (inr9 _ (List.mem_of_getElem? (i := 7) rfl)) mwJ3_checkIndex_8e157 hdJ3_checkIndex_8e157 ⟨Nat.le_of_ble_eq_true rfl, Nat.le_of_ble_eq_true rfl⟩) TT_blind (fun _ _ _ => trivial) rfl hl.1 rfl (Nat.le_of_ble_eq_true rfl) ⟨Nat.zero_le _, Nat.zero_le _⟩ (dk_at dkJ0_checkIndex_df160 3 rfl) ?_
    refine lv_pop C.1 C.2.1 (dk_at dkJ0_checkIndex_df160 4 rfl) rfl ?_
    exact fin _ _ (dk_at dkJ0_checkIndex_df160 5 rfl)
  | some t =>
    refine r_pxS (As := [.int k, .int n, .ref t]) (rest := []) C (kJ3_checkIndex_8e157 l k n t h1 h2) (cwS0 C (inr9 _ (List.mem_of_getElem? (i := 7) rfl)) mwJ3_checkIndex_8e157 hdJ3_checkIndex_8e157 ⟨Nat.le_of_ble_eq_true rfl, Nat.le_of_ble_eq_true rfl⟩) TT_blind (fun _ _ _ => trivial) rfl hl.1 rfl (Nat.le_of_ble_eq_true rfl) ⟨Nat.zero_le _, Nat.zero_le _⟩ (dk_at dkJ0_checkIndex_df160 3 rfl) ?_
    refine lv_pop C.1 C.2.1 (dk_at dkJ0_checkIndex_df160 4 rfl) rfl ?_
    exact fin _ _ (dk_at dkJ0_checkIndex_df160 5 rfl)

abbrev tbJ1_charAt_3b067 : List (Nat × Instr × Nat) := [(0, .iload_n 1, 1), (1, .aload_n 0, 1), (2, .arraylength, 1), (3, .invokestatic 9, 3), (6, .aload_n 0, 1), (7, .iload_n 1, 1), (8, .baload, 1), (9, .sipush 255, 3), (12, .iand, 1), (13, .i2c, 1), (14, .ireturn, 1)]
theorem dkJ1_charAt_3b067 : dk cJ1_charAt_3b067 tbJ1_charAt_3b067 := dk_of (by decide +kernel)
abbrev cdJ1_charAt_3b067 : Cond := Cond.code yJ1_charAt_3b067 cJ1_charAt_3b067 2 (some .char)
abbrev rmJ1_charAt_3b067 : Room := { frames := 2, cells := 0, slots := 0, locals := 43 }
theorem mwJ1_charAt_3b067 : Cond.static yJ1_charAt_3b067 ∈ wsL_law ∧ Cond.initialized yJ1_charAt_3b067.cls ∈ wsL_law ∧ cdJ1_charAt_3b067 ∈ wsL_law := ⟨inr9 _ (List.mem_of_getElem? (i := 0) rfl), inr9 _ (List.mem_of_getElem? (i := 1) rfl), inr9 _ (List.mem_of_getElem? (i := 2) rfl)⟩
theorem hdJ1_charAt_3b067 : yJ1_charAt_3b067.cls ≠ "java/lang/invoke/MethodHandle" ∧ yJ1_charAt_3b067.cls ≠ "java/lang/invoke/VarHandle" ∧ (parseMethodDescriptor yJ1_charAt_3b067.desc).map (fun d => d.parameters.length) = some 2 := by decide +kernel

theorem sch_ok : ∀ i, i < 7 → ∀ k, k < slen i → ((sch i k &&& 255).toUInt32 % 65536).toInt32 = sch i k ∧ narrow .char (.int (sch i k)) = .int (sch i k) := by decide +kernel
theorem kJ1_charAt_3b067 (l : Launch) (sg : SG) (i : Nat) (hi : i < 7) (k : Int32) (hk : vp_in k (slen i)) : Met l yJ1_charAt_3b067 (cdJ1_charAt_3b067 :: wsL_law) rmJ1_charAt_3b067 (va_Pc [.ref (sg.2.1 i), .int k] (SEp sg)) (vp_Si (fun x => x = sch i k.toNatClampNeg)) 0 0 (fun _ => False) := by
  have hs := slen_lt i hi
  obtain ⟨j, hj, ej⟩ := vp_in_of hk (by omega)
  have h1 : ¬ k < 0 := by rw [ej]; exact nI_pos (by omega)
  have h2 : k < nI (slen i) := by rw [ej]; exact nI_lt hj (by omega)
  have hcl : k.toNatClampNeg = j := by rw [ej]; exact nI_clamp (by omega)
  refine Met_px (cc := cJ1_charAt_3b067) (maxL := 2) (by decide) rfl (Nat.le_of_ble_eq_true rfl) ?_
  intro P E Z Mi AR BE ME CO Q C fin hS ls hl
  have hl : lv_has ls 2 [(0, .ref (sg.2.1 i)), (1, .int k)] := hl
  refine lv_iload_n C.1 C.2.1 (dk_at dkJ1_charAt_3b067 0 rfl) rfl (lv_at hl 1 rfl) ?_
  refine lv_aload_n C.1 C.2.1 (dk_at dkJ1_charAt_3b067 1 rfl) rfl (lv_at hl 0 rfl) ?_
  refine va_tlen (v := nI (slen i)) C.1 C.2.1 (hS.1.1 i hi).2.2.2 va_S.rf rfl (dk_at dkJ1_charAt_3b067 2 rfl) ?_
  refine r_pvS (As := [.int k, .int (nI (slen i))]) (rest := []) C (kJ0_checkIndex_df160 l sg k (nI (slen i)) h1 h2) (cwS0 C (inr9 _ (List.mem_of_getElem? (i := 3) rfl)) mwJ0_checkIndex_df160 hdJ0_checkIndex_df160 ⟨Nat.le_of_ble_eq_true rfl, Nat.le_of_ble_eq_true rfl⟩) SE_blind (fun U hU hW => by have q := SE.warm hW hS; rw [SEp, hU]; exact q) rfl hl.1 rfl (Nat.le_of_ble_eq_true rfl) ⟨Nat.zero_le _, Nat.zero_le _⟩ (dk_at dkJ1_charAt_3b067 3 rfl) ?_
  refine lv_aload_n C.1 C.2.1 (dk_at dkJ1_charAt_3b067 4 rfl) rfl (lv_at hl 0 rfl) ?_
  refine lv_iload_n C.1 C.2.1 (dk_at dkJ1_charAt_3b067 5 rfl) rfl (lv_at hl 1 rfl) ?_
  refine va_tb (v := .int (sch i k.toNatClampNeg)) C.1 C.2.1 (hS.1.1 i hi).2.2.2 va_S.rf hk rfl (dk_at dkJ1_charAt_3b067 6 rfl) ?_
  refine lv_sipush (v := 255) C.1 C.2.1 (dk_at dkJ1_charAt_3b067 7 rfl) (by decide) ?_
  refine lv_iand C.1 C.2.1 (dk_at dkJ1_charAt_3b067 8 rfl) ?_
  refine lv_i2c C.1 C.2.1 (dk_at dkJ1_charAt_3b067 9 rfl) rfl ?_
  obtain ⟨g1, g2⟩ := sch_ok i hi j hj
  refine fin _ _ _ (dk_at dkJ1_charAt_3b067 10 rfl) ?_ ?_
  · rw [hcl, g1]; exact g2
  · rw [hcl]; exact g1

abbrev tbJ0_charAt_5068e : List (Nat × Instr × Nat) := [(0, .aload_n 0, 1), (1, .invokevirtual 492, 3), (4, .ifCond .eq 12, 3), (7, .aload_n 0, 1), (8, .getfield 9, 3), (11, .iload_n 1, 1), (12, .invokestatic 495, 3), (15, .ireturn, 1), (16, .aload_n 0, 1), (17, .getfield 9, 3), (20, .iload_n 1, 1), (21, .invokestatic 498, 3), (24, .ireturn, 1)]
theorem dkJ0_charAt_5068e : dk cJ0_charAt_5068e tbJ0_charAt_5068e := dk_of (by decide +kernel)
abbrev cdJ0_charAt_5068e : Cond := Cond.code yJ0_charAt_5068e cJ0_charAt_5068e 2 (some .char)
abbrev rmJ0_charAt_5068e : Room := { frames := 3, cells := 0, slots := 0, locals := 64 }
theorem mwJ0_charAt_5068e : Cond.instanceMethod yJ0_charAt_5068e ∈ wsL_law ∧ Cond.selects RJ0 yJ0_charAt_5068e yJ0_charAt_5068e ∈ wsL_law ∧ Cond.initialized RJ0 ∈ wsL_law ∧ cdJ0_charAt_5068e ∈ wsL_law := ⟨inr8 _ (List.mem_of_getElem? (i := 16) rfl), inr8 _ (List.mem_of_getElem? (i := 17) rfl), inr8 _ (List.mem_of_getElem? (i := 6) rfl), inr8 _ (List.mem_of_getElem? (i := 18) rfl)⟩
theorem hdJ0_charAt_5068e : yJ0_charAt_5068e.cls = RJ0 ∧ yJ0_charAt_5068e.cls ≠ "java/lang/invoke/MethodHandle" ∧ yJ0_charAt_5068e.cls ≠ "java/lang/invoke/VarHandle" ∧ (parseMethodDescriptor yJ0_charAt_5068e.desc).map (fun d => d.parameters.length) = some 1 := by decide +kernel

theorem kJ0_charAt_5068e (l : Launch) (sg : SG) (i : Nat) (hi : i < 7) (k : Int32) (hk : vp_in k (slen i)) : Met l yJ0_charAt_5068e (cdJ0_charAt_5068e :: wsL_law) rmJ0_charAt_5068e (va_Pc [.ref (sg.1 i), .int k] (SEp sg)) (vp_Si (fun x => x = sch i k.toNatClampNeg)) 0 0 (fun _ => False) := by
  have hs := slen_lt i hi
  obtain ⟨j, hj, ej⟩ := vp_in_of hk (by omega)
  have hcl : k.toNatClampNeg = j := by rw [ej]; exact nI_clamp (by omega)
  refine Met_px (cc := cJ0_charAt_5068e) (maxL := 2) (by decide) rfl (Nat.le_of_ble_eq_true rfl) ?_
  intro P E Z Mi AR BE ME CO Q C fin hS ls hl
  have hl : lv_has ls 2 [(0, .ref (sg.1 i)), (1, .int k)] := hl
  refine lv_aload_n C.1 C.2.1 (dk_at dkJ0_charAt_5068e 0 rfl) rfl (lv_at hl 0 rfl) ?_
  refine r_pxV (As := []) (rest := []) C (kJ0_isLatin1_aae02 l sg i hi) (cwV0 C (inr8 _ (List.mem_of_getElem? (i := 19) rfl)) mwJ0_isLatin1_aae02 hdJ0_isLatin1_aae02 ⟨Nat.le_of_ble_eq_true rfl, Nat.le_of_ble_eq_true rfl⟩) SE_blind (vk_recv (locs := []) hS.1 hi va_S.rf) (fun U hU hW => by have q := SE.warm hW hS; rw [SEp, hU]; exact q) rfl hl.1 rfl (Nat.le_of_ble_eq_true rfl) ⟨Nat.zero_le _, Nat.zero_le _⟩ (dk_at dkJ0_charAt_5068e 1 rfl) ?_
  refine lv_if_eq (tgt := 16) C.1 C.2.1 (dk_at dkJ0_charAt_5068e 2 rfl) (by decide) (fun c1 => absurd c1 (by decide)) (fun c1 => ?_)
  refine lv_aload_n C.1 C.2.1 (dk_at dkJ0_charAt_5068e 3 rfl) rfl (lv_at hl 0 rfl) ?_
  refine vk_getf C.1 C.2.1 (hS.1.1 i hi).2.2.1 va_S.rf C.2.2.2.1 (C.2.2.2.2 _ (List.mem_cons_of_mem _ (inr8 _ (List.mem_of_getElem? (i := 8) rfl)))) (fun _ h => h) (dk_at dkJ0_charAt_5068e 4 rfl) ?_
  refine lv_iload_n C.1 C.2.1 (dk_at dkJ0_charAt_5068e 5 rfl) rfl (lv_at hl 1 rfl) ?_
  refine r_pxS (As := [.ref (sg.2.1 i), .int k]) (rest := []) C (kJ1_charAt_3b067 l sg i hi k hk) (cwS0 C (inr8 _ (List.mem_of_getElem? (i := 23) rfl)) mwJ1_charAt_3b067 hdJ1_charAt_3b067 ⟨Nat.le_of_ble_eq_true rfl, Nat.le_of_ble_eq_true rfl⟩) SE_blind (fun U hU hW => by have q := SE.warm hW hS; rw [SEp, hU]; exact q) rfl hl.1 rfl (Nat.le_of_ble_eq_true rfl) ⟨Nat.zero_le _, Nat.zero_le _⟩ (dk_at dkJ0_charAt_5068e 6 rfl) ?_
  exact fin _ _ _ (dk_at dkJ0_charAt_5068e 7 rfl) (by rw [hcl]; exact (sch_ok i hi j hj).2) rfl

abbrev tbX2_nameOf : List (Nat × Instr × Nat) := [(0, .iload_n 0, 1), (1, .tableswitch 57 0 5 #[39, 42, 45, 48, 51, 54], 39), (40, .ldc 140, 2), (42, .areturn, 1), (43, .ldc 142, 2), (45, .areturn, 1), (46, .ldc 144, 2), (48, .areturn, 1), (49, .ldc 146, 2), (51, .areturn, 1), (52, .ldc 148, 2), (54, .areturn, 1), (55, .ldc 150, 2), (57, .areturn, 1), (58, .ldc 152, 2), (60, .areturn, 1)]
theorem dkX2_nameOf : dk cX2_nameOf tbX2_nameOf := dk_of (by decide +kernel)
abbrev cdX2_nameOf : Cond := Cond.code yX2_nameOf cX2_nameOf 1 (some (.object "java/lang/String"))
abbrev rmX2_nameOf : Room := { frames := 0, cells := 0, slots := 0, locals := 0 }
theorem mwX2_nameOf : Cond.static yX2_nameOf ∈ wsL_law ∧ Cond.initialized yX2_nameOf.cls ∈ wsL_law ∧ cdX2_nameOf ∈ wsL_law := ⟨inr7 _ (List.mem_of_getElem? (i := 21) rfl), inr1 _ (List.mem_of_getElem? (i := 14) rfl), inr7 _ (List.mem_of_getElem? (i := 22) rfl)⟩
theorem hdX2_nameOf : yX2_nameOf.cls ≠ "java/lang/invoke/MethodHandle" ∧ yX2_nameOf.cls ≠ "java/lang/invoke/VarHandle" ∧ (parseMethodDescriptor yX2_nameOf.desc).map (fun d => d.parameters.length) = some 1 := by decide +kernel

theorem kX2_nameOf (l : Launch) (sg : SG) (p1 : Int32) (i : Nat) (hf : fX2_nameOf p1 = some i) : Met l yX2_nameOf (cdX2_nameOf :: wsL_law) rmX2_nameOf (va_Pc [.int p1] (SEp sg)) (va_Sr (fun k => k = i) (fun k => .ref (sg.1 k))) 0 0 (fun _ => False) := by
  refine Met_pr (cc := cX2_nameOf) (maxL := 1) (by decide) rfl (Nat.le_of_ble_eq_true rfl) ?_
  intro P E Z Mi AR BE ME CO Q C fin hS ls hl
  have hl : lv_has ls 1 [(0, .int p1)] := hl
  unfold fX2_nameOf at hf
  refine lv_iload_n C.1 C.2.1 (dk_at dkX2_nameOf 0 rfl) rfl (lv_at hl 0 rfl) ?_
  by_cases c0 : p1 = 0
  · have hf := (if_pos c0).symm.trans hf
    refine lv_tableIn (tgt := 40) C.1 C.2.1 (dk_at dkX2_nameOf 1 rfl) (by rw [c0]; decide) (by rw [c0]; decide) (by rw [c0]; rfl) (by decide) ?_
    refine va_ldcS C.1 C.2.1 C.2.2.2.1 hS.2.2.2.1 (dk_at dkX2_nameOf 2 rfl) ?_
    exact fin _ _ 0 (dk_at dkX2_nameOf 3 rfl) (Option.some.inj hf)
  have hf := (if_neg c0).symm.trans hf
  by_cases c1 : p1 = 1
  · have hf := (if_pos c1).symm.trans hf
    refine lv_tableIn (tgt := 43) C.1 C.2.1 (dk_at dkX2_nameOf 1 rfl) (by rw [c1]; decide) (by rw [c1]; decide) (by rw [c1]; rfl) (by decide) ?_
    refine va_ldcS C.1 C.2.1 C.2.2.2.1 hS.2.2.2.2.1 (dk_at dkX2_nameOf 4 rfl) ?_
    exact fin _ _ 1 (dk_at dkX2_nameOf 5 rfl) (Option.some.inj hf)
  have hf := (if_neg c1).symm.trans hf
  by_cases c2 : p1 = 2
  · have hf := (if_pos c2).symm.trans hf
    refine lv_tableIn (tgt := 46) C.1 C.2.1 (dk_at dkX2_nameOf 1 rfl) (by rw [c2]; decide) (by rw [c2]; decide) (by rw [c2]; rfl) (by decide) ?_
    refine va_ldcS C.1 C.2.1 C.2.2.2.1 hS.2.2.2.2.2.1 (dk_at dkX2_nameOf 6 rfl) ?_
    exact fin _ _ 2 (dk_at dkX2_nameOf 7 rfl) (Option.some.inj hf)
  have hf := (if_neg c2).symm.trans hf
  by_cases c3 : p1 = 3
  · have hf := (if_pos c3).symm.trans hf
    refine lv_tableIn (tgt := 49) C.1 C.2.1 (dk_at dkX2_nameOf 1 rfl) (by rw [c3]; decide) (by rw [c3]; decide) (by rw [c3]; rfl) (by decide) ?_
    refine va_ldcS C.1 C.2.1 C.2.2.2.1 hS.2.2.2.2.2.2.1 (dk_at dkX2_nameOf 8 rfl) ?_
    exact fin _ _ 3 (dk_at dkX2_nameOf 9 rfl) (Option.some.inj hf)
  have hf := (if_neg c3).symm.trans hf
  by_cases c4 : p1 = 4
  · have hf := (if_pos c4).symm.trans hf
    refine lv_tableIn (tgt := 52) C.1 C.2.1 (dk_at dkX2_nameOf 1 rfl) (by rw [c4]; decide) (by rw [c4]; decide) (by rw [c4]; rfl) (by decide) ?_
    refine va_ldcS C.1 C.2.1 C.2.2.2.1 hS.2.2.2.2.2.2.2.1 (dk_at dkX2_nameOf 10 rfl) ?_
    exact fin _ _ 4 (dk_at dkX2_nameOf 11 rfl) (Option.some.inj hf)
  have hf := (if_neg c4).symm.trans hf
  by_cases c5 : p1 = 5
  · have hf := (if_pos c5).symm.trans hf
    refine lv_tableIn (tgt := 55) C.1 C.2.1 (dk_at dkX2_nameOf 1 rfl) (by rw [c5]; decide) (by rw [c5]; decide) (by rw [c5]; rfl) (by decide) ?_
    refine va_ldcS C.1 C.2.1 C.2.2.2.1 hS.2.2.2.2.2.2.2.2.1 (dk_at dkX2_nameOf 12 rfl) ?_
    exact fin _ _ 5 (dk_at dkX2_nameOf 13 rfl) (Option.some.inj hf)
  have hf := (if_neg c5).symm.trans hf
  have n0 : p1.toInt ≠ 0 := fun q => c0 (by rw [← Int32.ofInt_toInt p1, q]; rfl)
  have n1 : p1.toInt ≠ 1 := fun q => c1 (by rw [← Int32.ofInt_toInt p1, q]; rfl)
  have n2 : p1.toInt ≠ 2 := fun q => c2 (by rw [← Int32.ofInt_toInt p1, q]; rfl)
  have n3 : p1.toInt ≠ 3 := fun q => c3 (by rw [← Int32.ofInt_toInt p1, q]; rfl)
  have n4 : p1.toInt ≠ 4 := fun q => c4 (by rw [← Int32.ofInt_toInt p1, q]; rfl)
  have n5 : p1.toInt ≠ 5 := fun q => c5 (by rw [← Int32.ofInt_toInt p1, q]; rfl)
  refine lv_tableOut (tgt := 58) C.1 C.2.1 (dk_at dkX2_nameOf 1 rfl) (by omega) (by decide) ?_
  refine va_ldcS C.1 C.2.1 C.2.2.2.1 hS.2.2.2.2.2.2.2.2.2 (dk_at dkX2_nameOf 14 rfl) ?_
  exact fin _ _ 6 (dk_at dkX2_nameOf 15 rfl) (Option.some.inj hf)
