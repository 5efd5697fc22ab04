-- the constructors
def cInit : CT := (0, (fun _ => 4), (fun _ _ => 0), 0, (fun _ => 0), 0, (fun _ => 0), (fun _ => 0), 0)
abbrev rInit : RT := ((fun _ => 0), 0, 0, 0, 0, 0, 0, 0, 0)
abbrev dInit : DT := ((fun _ => 0), (fun _ => 0), (fun _ => 0), 0, (fun _ => 0), (fun _ => 0), 0)
abbrev sInit : ST := (0, 0, 0, (fun _ => 0))
abbrev vInit : VT := ((fun _ => 0), (fun _ => 0), 0)
abbrev cZero : CT := (0, (fun _ => 0), (fun _ _ => 0), 0, (fun _ => 0), 0, (fun _ => 0), (fun _ => 0), 0)
theorem va_at_q {D : va_G} {cl : List vw_C} {cA : ClassId} {a n : Nat} {f f' : Nat → Option Nat} {H : Heap} (h : ∀ k, k < n → f k = f' k) (hp : va_at D cl (arR cA a n f) H) : va_at D cl (arR cA a n f') H := by
  have e : vp_cell cA (n, .inr (.inr (.inr (.inr f)))) = vp_cell cA (n, .inr (.inr (.inr (.inr f')))) := by
    rw [vp_cell_q, vp_cell_q]
    unfold arrV
    congr 1
    congr 1
    funext j
    show va_rf (f j.val) = va_rf (f' j.val)
    rw [h j.val j.isLt]
  show H[a]? = some (vp_cell cA (n, .inr (.inr (.inr (.inr f')))))
  rw [← e]
  exact hp
theorem Wd_at {g : Gx} {A : Nat → Prop} {H0 H : Heap} {locs : List Loc} {ws : va_W} (w : Wd g A H0 ws H locs) (k : Nat) {x x' : Nat × va_E} (hk : ws[k]? = some x) (e : x'.1 = x.1) (h : va_at g.1 vwCl x H → va_at g.1 vwCl x' H) : Wd g A H0 (ws.set k x') H locs := by
  have hl : k < ws.length := (List.getElem?_eq_some_iff.mp hk).1
  refine ⟨fun j q hq => ?_, va_D_fst ?_ w.2.1, w.2.2⟩
  · by_cases hj : j = k
    · subst hj
      rw [List.getElem?_set_self hl] at hq
      cases hq
      exact h (w.1 j x hk)
    · rw [List.getElem?_set_ne (Ne.symm hj)] at hq
      exact w.1 j q hq
  · rw [List.map_set, e]
    apply List.ext_getElem?
    intro j
    by_cases hj : j = k
    · subst hj
      rw [List.getElem?_set_self (by rw [List.length_map]; exact hl), List.getElem?_map, hk]; rfl
    · rw [List.getElem?_set_ne (Ne.symm hj)]
section MNA
variable {p : Program} {l : Launch} {e : Env} {R : Room} {s : State} {m : MethodId} {args : Array Value} {below : List Frame} {meth : Method} {c : Code} {H : Heap} {locs : List Loc} {cells slots : Nat} {Q : State → Prop}
variable {cc : ByteArray} {pc nL : Nat} {ls : Array Slot} {rest st0 : List Value} {Ts : List Cond} {own : String} {g : Gx} {ws : va_W} {A : Nat → Prop} {H0 : Heap} {a : Nat}
theorem r_mna (C : CallFix p m c cc nL s args Ts own) (hK : va_K g.1 vwCl (tyl g) s) (w : Wd g A H0 ws H locs) (hA : ∀ q, H0.size ≤ q → A q) {index : Nat} (hcl : Cond.classLink own index "[[I" ∈ Ts) (hover : va_AOA .int s) (harr : Cond.arrayClass .int ∈ Ts) (hcells : cells + (1 + 5) ≤ R.cells) (hslots : slots + (5 + 5 * 5) ≤ R.slots) (hdg : decode cc pc = .ok (.multianewarray index 2, 4))
    (kk : ∀ (q : Nat) (r : Nat → Nat) (H1 : Heap), Wd g A H0 (ws ++ [arR (g.2 3) q 5 (fun k => some (r k)), arI g (r 0) 5 (fun _ => 0), arI g (r 1) 5 (fun _ => 0), arI g (r 2) 5 (fun _ => 0), arI g (r 3) 5 (fun _ => 0), arI g (r 4) 5 (fun _ => 0)]) H1 locs → W p l e R s m args below meth c H1 locs (cells + 1 + 5) (slots + 5 + 5 * 5) Q (F0 m (pc + 4) ls (.ref q :: rest))) : W p l e R s m args below meth c H locs cells slots Q (F0 m pc ls (.int 5 :: .int 5 :: rest)) := by
  have hcy : s.vm.findClass (FieldType.array .int).toString = some (g.2 0) := (hK.2 0 _ rfl).2
  have hP0 : va_P g.1 vwCl (ws ++ va_pl [] (fun _ => .inr (0, []))) H := by
    show va_P g.1 vwCl (ws ++ []) H
    rw [List.append_nil]; exact w.1
  have hD0 : va_D A (ws ++ va_pl [] (fun _ => .inr (0, []))) := by
    show va_D A (ws ++ [])
    rw [List.append_nil]; exact w.2.1
  refine va_mna (ty := .int) (z := (5, .inl (fun _ => 0))) (N' := 5) (K' := 5) C.1 C.2.1 C.2.2.2.1 (C.2.2.2.2 _ hcl) hover (C.2.2.2.2 _ harr) hcy hK hP0 hD0 w.2.2 hA (by decide) (by decide) (by decide) (by decide) (by decide) (by decide) (by decide) rfl rfl hcells hslots (fun c => ?_) hdg (fun q r cA H1 h0 h1 hK1 hP1 hD1 hS1 => ?_)
  · rw [vp_cell_i, ← arrV_new]; rfl
  · have e := cls_eq (k := 3) (cB := g.2 3) (fun _ h => by cases h) hK rfl hK1
    subst e
    have rows : va_pl ([] ++ (List.range 5).map r) (vr_up (fun _ => .inr (0, [])) ((List.range 5).map r) (.inl (g.2 0, 5, .inl (fun _ => 0)))) = [arI g (r 0) 5 (fun _ => 0), arI g (r 1) 5 (fun _ => 0), arI g (r 2) 5 (fun _ => 0), arI g (r 3) 5 (fun _ => 0), arI g (r 4) 5 (fun _ => 0)] := by
      rw [← vr_rows (L := []) (fun _ _ h => by cases h)]
      rfl
    rw [rows] at hP1 hD1
    rw [List.append_assoc] at hP1 hD1
    have w1 : Wd g A H0 _ H1 locs := ⟨hP1, hD1, hS1⟩
    have hw : (ws ++ ([(q, Sum.inl (g.2 3, 5, Sum.inr (Sum.inr (Sum.inr (Sum.inr fun i => if i < 5 then some (r i) else none)))))] ++ [arI g (r 0) 5 (fun _ => 0), arI g (r 1) 5 (fun _ => 0), arI g (r 2) 5 (fun _ => 0), arI g (r 3) 5 (fun _ => 0), arI g (r 4) 5 (fun _ => 0)]))[ws.length]? = some (arR (g.2 3) q 5 (fun i => if i < 5 then some (r i) else none)) := by
      rw [List.getElem?_append_right (Nat.le_refl _), Nat.sub_self]; rfl
    have w2 := Wd_at (x' := arR (g.2 3) q 5 (fun k => some (r k))) w1 ws.length hw rfl (va_at_q (fun k hk => if_pos hk))
    refine kk q r H1 ?_
    rw [List.set_append_right _ _ (Nat.le_refl _), Nat.sub_self] at w2
    exact w2
end MNA
theorem wC_in {g : Gx} {A : Nat → Prop} {H0 H : Heap} {locs : List Loc} (b : Nat → Nat) (x : CT) (f : Nat → Option Nat) (hf : ∀ k, k < 5 → f k = some (b (3 + k))) (w : Wd g A H0 ((wC g b x).set 2 (arR (g.2 3) (b 2) 5 f)) H locs) : Wd g A H0 (wC g b x) H locs := by
  have w2 := Wd_at (x' := arR (g.2 3) (b 2) 5 (fun k => some (b (3 + k)))) w 2 (x := arR (g.2 3) (b 2) 5 f) rfl rfl (va_at_q hf)
  exact w2
theorem clear_loop (K : Int32 → CT → Option CT) : ∀ (k n : Nat) (v : Int32) (c : CT), k ≤ 10 → 11 ≤ n + k → v = nI k → (∀ i, i < k → cWi c i = 4) → ∃ (v' : Int32) (c' : CT), fX0_clear_L22 K n v c = K v' c' ∧ (∀ i, i < 10 → cWi c' i = 4) ∧ cW c' = cW c ∧ cTo c' = cTo c ∧ cSa c' = cSa c ∧ cHe c' = cHe c ∧ cSe c' = cSe c ∧ cAt c' = cAt c ∧ cSs c' = cSs c ∧ cSp c' = cSp c := by
  intro k
  induction hd : 10 - k generalizing k with
  | zero =>
    intro n v c hk hn hv hc
    have : k = 10 := by omega
    subst this
    cases n with
    | zero => omega
    | succ n =>
      rw [fX0_clear_L22, if_pos (by rw [hv]; decide)]
      exact ⟨v, c, rfl, hc, rfl, rfl, rfl, rfl, rfl, rfl, rfl, rfl⟩
  | succ d ih =>
    intro n v c hk hn hv hc
    have hk5 : k < 10 := by omega
    cases n with
    | zero => omega
    | succ n =>
      have hcl : v.toNatClampNeg = k := by rw [hv]; exact nI_clamp (by omega)
      have hin : ¬ (v < 0 ∨ 10 ≤ v.toNatClampNeg) := by rw [hv]; exact nI_in hk5 (by decide)
      have h5 : ¬ (10 : Int32) ≤ v := by rw [hv]; exact nI_ge (b := 10) hk5 (by decide)
      rw [fX0_clear_L22, if_neg h5]
      unfold gd
      rw [if_neg hin]
      unfold nm
      obtain ⟨v', c', e, h1, h2⟩ := ih (k + 1) (by omega) n (v + 1) (cWi' c (upd (cWi c) v.toNatClampNeg 4)) (by omega) (by omega) (by rw [hv]; exact nI_1 k) (by
        intro i hi
        show upd (cWi c) v.toNatClampNeg 4 i = 4
        rw [hcl]
        by_cases e : i = k
        · subst e; exact pk_us
        · rw [pk_un e]; exact hc i (by omega))
      exact ⟨v', c', e, h1, h2⟩
theorem nm_eq {α β : Type} (e : α) (k : α → β) : nm e k = k e := by
  have h : nm e k = k e := rfl
  exact h.symm.symm
theorem clear_gen (c : CT) : ∃ c1, fX0_clear c = some c1 ∧ (∀ i, i < 10 → cWi c1 i = 4) ∧ cW c1 = 0 ∧ cTo c1 = cTo c ∧ cSa c1 = 0 ∧ cHe c1 = 0 ∧ cSe c1 = 0 ∧ cAt c1 = cAt c ∧ cSs c1 = cSs c ∧ cSp c1 = cSp c := by
  rw [fX0_clear, nm_eq, nm_eq, nm_eq, nm_eq]
  obtain ⟨v', c', e, h⟩ := clear_loop (fun _ c_7 => some c_7) 0 4096 0 (cSe' (cHe' (cSa' (cW' c 0) 0) 0) 0) (by decide) (by decide) rfl (fun i hi => by omega)
  exact ⟨c', e, h⟩
theorem clear_ok : ∃ c1, fX0_clear cZero = some c1 ∧ cEq c1 cInit := by
  obtain ⟨c1, e, h1, h2, h3, h4, h5, h6, h7, h8, h9⟩ := clear_gen cZero
  refine ⟨c1, e, h2, h4, h5, h6, fun k hk => h1 k hk, fun i _ k _ => ?_, fun k _ => ?_, fun k _ => ?_, fun k _ => ?_⟩
  · rw [h3]; rfl
  · rw [h7]; rfl
  · rw [h8]; rfl
  · rw [h9]; rfl

-- X4.init
abbrev tbX4_init : List (Nat × Instr × Nat) := [(0, .aload_n 0, 1), (1, .invokespecial 3, 3), (4, .aload_n 0, 1), (5, .bipush 40, 2), (7, .newarray .int, 2), (9, .putfield 9, 3), (12, .return_, 1)]
theorem dkX4_init : dk cX4_init tbX4_init := dk_of (by decide +kernel)
abbrev cdX4_init : Cond := Cond.code yX4_init cX4_init 1 none
abbrev rmX4_init : Room := { frames := 1, cells := 1, slots := 40, locals := 12 }
theorem mwX4_init : Cond.instanceMethod yX4_init ∈ wsL_law ∧ Cond.initialized yX4_init.cls ∈ wsL_law ∧ cdX4_init ∈ wsL_law := ⟨inr3 _ (List.mem_of_getElem? (i := 20) rfl), inr2 _ (List.mem_of_getElem? (i := 9) rfl), inr3 _ (List.mem_of_getElem? (i := 21) rfl)⟩
theorem hdX4_init : yX4_init.cls ≠ "java/lang/invoke/MethodHandle" ∧ yX4_init.cls ≠ "java/lang/invoke/VarHandle" ∧ (parseMethodDescriptor yX4_init.desc).map (fun d => d.parameters.length) = some 0 := by decide +kernel
set_option maxHeartbeats 4000000 in
set_option maxRecDepth 100000 in
theorem kX4_init (l : Launch) (g : Gx) (sz b0 : Nat) : Met l yX4_init (cdX4_init :: wsL_law) rmX4_init (va_Pc [.ref b0] (fun U => RWp g sz [(b0, .inr (3, [.int 0, .int 0, .int 0, .null]))] U ∧ (fun _ => True) U)) (va_Qv (fun _ : Unit => True) (fun _ t => ∃ i : (Nat → Nat), (fun a => a 0) i = b0 ∧ RWq g (va_A [(b0, .inr (3, [.int 0, .int 0, .int 0, .null]))] sz) ((fun a => wS g a sInit) i) t) (va_A [(b0, .inr (3, [.int 0, .int 0, .int 0, .null]))] sz)) 1 40 (va_A [(b0, .inr (3, [.int 0, .int 0, .int 0, .null]))] sz) := by
  refine Met_in (I := (Nat → Nat)) (pk := fun a => a 0) (Wf := fun a => wS g a sInit) (Bx := (fun _ => True)) (cc := cX4_init) (maxL := 1) (by decide) rfl rfl (Nat.le_of_ble_eq_true rfl) ?_
  intro P E Z Mi AR BE ME CO A Q C hin hK hB hA fin w ls hl
  have hl : lv_has ls 1 [(0, .ref b0)] := hl
  refine lv_aload_n C.1 C.2.1 (dk_at dkX4_init 0 rfl) rfl (lv_at hl 0 rfl) ?_
  refine r_oi C (List.mem_cons_of_mem _ (inr3 _ (List.mem_of_getElem? (i := 22) rfl))) (List.mem_cons_of_mem _ (inr1 _ (List.mem_of_getElem? (i := 10) rfl))) (List.mem_cons_of_mem _ (inr1 _ (List.mem_of_getElem? (i := 11) rfl))) hl.1 (dk_at dkX4_init 1 rfl) (Nat.le_of_ble_eq_true rfl) (Nat.le_of_ble_eq_true rfl) ?_
  refine lv_aload_n C.1 C.2.1 (dk_at dkX4_init 2 rfl) rfl (lv_at hl 0 rfl) ?_
  refine lv_bipush (v := 40) C.1 C.2.1 (dk_at dkX4_init 3 rfl) (by decide) ?_
  refine r_newI (N' := 40) C hK w hA (List.mem_cons_of_mem _ (inr2 _ (List.mem_of_getElem? (i := 1) rfl))) (by decide) (by decide) (by decide) (Nat.le_of_ble_eq_true rfl) (Nat.le_of_ble_eq_true rfl) (dk_at dkX4_init 4 rfl) (fun q1 H w => ?_)
  have w : Wd g A Z.heap ([(b0, .inr (3, [.int 0, .int 0, .int 0, .null])), arI g q1 40 (fun _ => 0)]) H _ := w
  refine r_putF (v := .ref q1) C hin hK w (fun w h => List.mem_cons_of_mem _ (inlX4 w h)) tyX4 tyX4_ok nmX4 0 rfl rfl 3 (by decide) (List.mem_cons_of_mem _ (inr3 _ (List.mem_of_getElem? (i := 23) rfl))) rfl rfl rfl rfl (Nat.le_of_ble_eq_true rfl) (dk_at dkX4_init 5 rfl) (fun H locs w => ?_)
  have w : Wd g A Z.heap ([(b0, .inr (3, [.int 0, .int 0, .int 0, .ref q1])), arI g q1 40 (fun _ => 0)]) H _ := w
  exact fin _ _ _ _ (fun k => [b0, q1].getD k 0) (dk_at dkX4_init 6 rfl) rfl w

-- X1.init
abbrev tbX1_init : List (Nat × Instr × Nat) := [(0, .aload_n 0, 1), (1, .invokespecial 3, 3), (4, .aload_n 0, 1), (5, .iconst 5, 1), (6, .newarray .int, 2), (8, .putfield 9, 3), (11, .aload_n 0, 1), (12, .iconst 5, 1), (13, .newarray .int, 2), (15, .putfield 15, 3), (18, .aload_n 0, 1), (19, .iconst 5, 1), (20, .newarray .int, 2), (22, .putfield 18, 3), (25, .aload_n 0, 1), (26, .bipush 10, 2), (28, .newarray .int, 2), (30, .putfield 21, 3), (33, .aload_n 0, 1), (34, .iconst 5, 1), (35, .newarray .int, 2), (37, .putfield 24, 3), (40, .return_, 1)]
theorem dkX1_init : dk cX1_init tbX1_init := dk_of (by decide +kernel)
abbrev cdX1_init : Cond := Cond.code yX1_init cX1_init 1 none
abbrev rmX1_init : Room := { frames := 1, cells := 5, slots := 30, locals := 12 }
theorem mwX1_init : Cond.instanceMethod yX1_init ∈ wsL_law ∧ Cond.initialized yX1_init.cls ∈ wsL_law ∧ cdX1_init ∈ wsL_law := ⟨inr3 _ (List.mem_of_getElem? (i := 12) rfl), inr1 _ (List.mem_of_getElem? (i := 23) rfl), inr3 _ (List.mem_of_getElem? (i := 13) rfl)⟩
theorem hdX1_init : yX1_init.cls ≠ "java/lang/invoke/MethodHandle" ∧ yX1_init.cls ≠ "java/lang/invoke/VarHandle" ∧ (parseMethodDescriptor yX1_init.desc).map (fun d => d.parameters.length) = some 0 := by decide +kernel
set_option maxHeartbeats 4000000 in
set_option maxRecDepth 100000 in
theorem kX1_init (l : Launch) (g : Gx) (sz b0 : Nat) : Met l yX1_init (cdX1_init :: wsL_law) rmX1_init (va_Pc [.ref b0] (fun U => RWp g sz [(b0, .inr (1, [.null, .null, .null, .long 0, .null, .null, .int 0]))] U ∧ (fun _ => True) U)) (va_Qv (fun _ : Unit => True) (fun _ t => ∃ i : (Nat → Nat), (fun a => a 0) i = b0 ∧ RWq g (va_A [(b0, .inr (1, [.null, .null, .null, .long 0, .null, .null, .int 0]))] sz) ((fun a => wD g a dInit) i) t) (va_A [(b0, .inr (1, [.null, .null, .null, .long 0, .null, .null, .int 0]))] sz)) 5 30 (va_A [(b0, .inr (1, [.null, .null, .null, .long 0, .null, .null, .int 0]))] sz) := by
  refine Met_in (I := (Nat → Nat)) (pk := fun a => a 0) (Wf := fun a => wD g a dInit) (Bx := (fun _ => True)) (cc := cX1_init) (maxL := 1) (by decide) rfl rfl (Nat.le_of_ble_eq_true rfl) ?_
  intro P E Z Mi AR BE ME CO A Q C hin hK hB hA fin w ls hl
  have hl : lv_has ls 1 [(0, .ref b0)] := hl
  refine lv_aload_n C.1 C.2.1 (dk_at dkX1_init 0 rfl) rfl (lv_at hl 0 rfl) ?_
  refine r_oi C (List.mem_cons_of_mem _ (inr3 _ (List.mem_of_getElem? (i := 14) rfl))) (List.mem_cons_of_mem _ (inr1 _ (List.mem_of_getElem? (i := 10) rfl))) (List.mem_cons_of_mem _ (inr1 _ (List.mem_of_getElem? (i := 11) rfl))) hl.1 (dk_at dkX1_init 1 rfl) (Nat.le_of_ble_eq_true rfl) (Nat.le_of_ble_eq_true rfl) ?_
  refine lv_aload_n C.1 C.2.1 (dk_at dkX1_init 2 rfl) rfl (lv_at hl 0 rfl) ?_
  refine lv_iconst (v := 5) C.1 C.2.1 (dk_at dkX1_init 3 rfl) (by decide) ?_
  refine r_newI (N' := 5) C hK w hA (List.mem_cons_of_mem _ (inr2 _ (List.mem_of_getElem? (i := 1) rfl))) (by decide) (by decide) (by decide) (Nat.le_of_ble_eq_true rfl) (Nat.le_of_ble_eq_true rfl) (dk_at dkX1_init 4 rfl) (fun q1 H w => ?_)
  have w : Wd g A Z.heap ([(b0, .inr (1, [.null, .null, .null, .long 0, .null, .null, .int 0])), arI g q1 5 (fun _ => 0)]) H _ := w
  refine r_putF (v := .ref q1) C hin hK w (fun w h => List.mem_cons_of_mem _ (inlX1 w h)) tyX1 tyX1_ok nmX1 0 rfl rfl 0 (by decide) (List.mem_cons_of_mem _ (inr3 _ (List.mem_of_getElem? (i := 15) rfl))) rfl rfl rfl rfl (Nat.le_of_ble_eq_true rfl) (dk_at dkX1_init 5 rfl) (fun H locs w => ?_)
  have w : Wd g A Z.heap ([(b0, .inr (1, [.ref q1, .null, .null, .long 0, .null, .null, .int 0])), arI g q1 5 (fun _ => 0)]) H _ := w
  refine lv_aload_n C.1 C.2.1 (dk_at dkX1_init 6 rfl) rfl (lv_at hl 0 rfl) ?_
  refine lv_iconst (v := 5) C.1 C.2.1 (dk_at dkX1_init 7 rfl) (by decide) ?_
  refine r_newI (N' := 5) C hK w hA (List.mem_cons_of_mem _ (inr2 _ (List.mem_of_getElem? (i := 1) rfl))) (by decide) (by decide) (by decide) (Nat.le_of_ble_eq_true rfl) (Nat.le_of_ble_eq_true rfl) (dk_at dkX1_init 8 rfl) (fun q2 H w => ?_)
  have w : Wd g A Z.heap ([(b0, .inr (1, [.ref q1, .null, .null, .long 0, .null, .null, .int 0])), arI g q1 5 (fun _ => 0), arI g q2 5 (fun _ => 0)]) H _ := w
  refine r_putF (v := .ref q2) C hin hK w (fun w h => List.mem_cons_of_mem _ (inlX1 w h)) tyX1 tyX1_ok nmX1 0 rfl rfl 1 (by decide) (List.mem_cons_of_mem _ (inr3 _ (List.mem_of_getElem? (i := 16) rfl))) rfl rfl rfl rfl (Nat.le_of_ble_eq_true rfl) (dk_at dkX1_init 9 rfl) (fun H locs w => ?_)
  have w : Wd g A Z.heap ([(b0, .inr (1, [.ref q1, .ref q2, .null, .long 0, .null, .null, .int 0])), arI g q1 5 (fun _ => 0), arI g q2 5 (fun _ => 0)]) H _ := w
  refine lv_aload_n C.1 C.2.1 (dk_at dkX1_init 10 rfl) rfl (lv_at hl 0 rfl) ?_
  refine lv_iconst (v := 5) C.1 C.2.1 (dk_at dkX1_init 11 rfl) (by decide) ?_
  refine r_newI (N' := 5) C hK w hA (List.mem_cons_of_mem _ (inr2 _ (List.mem_of_getElem? (i := 1) rfl))) (by decide) (by decide) (by decide) (Nat.le_of_ble_eq_true rfl) (Nat.le_of_ble_eq_true rfl) (dk_at dkX1_init 12 rfl) (fun q3 H w => ?_)
  have w : Wd g A Z.heap ([(b0, .inr (1, [.ref q1, .ref q2, .null, .long 0, .null, .null, .int 0])), arI g q1 5 (fun _ => 0), arI g q2 5 (fun _ => 0), arI g q3 5 (fun _ => 0)]) H _ := w
  refine r_putF (v := .ref q3) C hin hK w (fun w h => List.mem_cons_of_mem _ (inlX1 w h)) tyX1 tyX1_ok nmX1 0 rfl rfl 2 (by decide) (List.mem_cons_of_mem _ (inr3 _ (List.mem_of_getElem? (i := 17) rfl))) rfl rfl rfl rfl (Nat.le_of_ble_eq_true rfl) (dk_at dkX1_init 13 rfl) (fun H locs w => ?_)
  have w : Wd g A Z.heap ([(b0, .inr (1, [.ref q1, .ref q2, .ref q3, .long 0, .null, .null, .int 0])), arI g q1 5 (fun _ => 0), arI g q2 5 (fun _ => 0), arI g q3 5 (fun _ => 0)]) H _ := w
  refine lv_aload_n C.1 C.2.1 (dk_at dkX1_init 14 rfl) rfl (lv_at hl 0 rfl) ?_
  refine lv_bipush (v := 10) C.1 C.2.1 (dk_at dkX1_init 15 rfl) (by decide) ?_
  refine r_newI (N' := 10) C hK w hA (List.mem_cons_of_mem _ (inr2 _ (List.mem_of_getElem? (i := 1) rfl))) (by decide) (by decide) (by decide) (Nat.le_of_ble_eq_true rfl) (Nat.le_of_ble_eq_true rfl) (dk_at dkX1_init 16 rfl) (fun q4 H w => ?_)
  have w : Wd g A Z.heap ([(b0, .inr (1, [.ref q1, .ref q2, .ref q3, .long 0, .null, .null, .int 0])), arI g q1 5 (fun _ => 0), arI g q2 5 (fun _ => 0), arI g q3 5 (fun _ => 0), arI g q4 10 (fun _ => 0)]) H _ := w
  refine r_putF (v := .ref q4) C hin hK w (fun w h => List.mem_cons_of_mem _ (inlX1 w h)) tyX1 tyX1_ok nmX1 0 rfl rfl 4 (by decide) (List.mem_cons_of_mem _ (inr3 _ (List.mem_of_getElem? (i := 18) rfl))) rfl rfl rfl rfl (Nat.le_of_ble_eq_true rfl) (dk_at dkX1_init 17 rfl) (fun H locs w => ?_)
  have w : Wd g A Z.heap ([(b0, .inr (1, [.ref q1, .ref q2, .ref q3, .long 0, .ref q4, .null, .int 0])), arI g q1 5 (fun _ => 0), arI g q2 5 (fun _ => 0), arI g q3 5 (fun _ => 0), arI g q4 10 (fun _ => 0)]) H _ := w
  refine lv_aload_n C.1 C.2.1 (dk_at dkX1_init 18 rfl) rfl (lv_at hl 0 rfl) ?_
  refine lv_iconst (v := 5) C.1 C.2.1 (dk_at dkX1_init 19 rfl) (by decide) ?_
  refine r_newI (N' := 5) C hK w hA (List.mem_cons_of_mem _ (inr2 _ (List.mem_of_getElem? (i := 1) rfl))) (by decide) (by decide) (by decide) (Nat.le_of_ble_eq_true rfl) (Nat.le_of_ble_eq_true rfl) (dk_at dkX1_init 20 rfl) (fun q5 H w => ?_)
  have w : Wd g A Z.heap ([(b0, .inr (1, [.ref q1, .ref q2, .ref q3, .long 0, .ref q4, .null, .int 0])), arI g q1 5 (fun _ => 0), arI g q2 5 (fun _ => 0), arI g q3 5 (fun _ => 0), arI g q4 10 (fun _ => 0), arI g q5 5 (fun _ => 0)]) H _ := w
  refine r_putF (v := .ref q5) C hin hK w (fun w h => List.mem_cons_of_mem _ (inlX1 w h)) tyX1 tyX1_ok nmX1 0 rfl rfl 5 (by decide) (List.mem_cons_of_mem _ (inr3 _ (List.mem_of_getElem? (i := 19) rfl))) rfl rfl rfl rfl (Nat.le_of_ble_eq_true rfl) (dk_at dkX1_init 21 rfl) (fun H locs w => ?_)
  have w : Wd g A Z.heap ([(b0, .inr (1, [.ref q1, .ref q2, .ref q3, .long 0, .ref q4, .ref q5, .int 0])), arI g q1 5 (fun _ => 0), arI g q2 5 (fun _ => 0), arI g q3 5 (fun _ => 0), arI g q4 10 (fun _ => 0), arI g q5 5 (fun _ => 0)]) H _ := w
  exact fin _ _ _ _ (fun k => [b0, q1, q2, q3, q4, q5].getD k 0) (dk_at dkX1_init 22 rfl) rfl w

-- X0.init
abbrev tbX0_init : List (Nat × Instr × Nat) := [(0, .aload_n 0, 1), (1, .invokespecial 3, 3), (4, .aload_n 0, 1), (5, .bipush 10, 2), (7, .newarray .int, 2), (9, .putfield 9, 3), (12, .aload_n 0, 1), (13, .iconst 5, 1), (14, .iconst 5, 1), (15, .multianewarray 15 2, 4), (19, .putfield 17, 3), (22, .aload_n 0, 1), (23, .iconst 4, 1), (24, .newarray .int, 2), (26, .putfield 20, 3), (29, .aload_n 0, 1), (30, .bipush 6, 2), (32, .newarray .int, 2), (34, .putfield 23, 3), (37, .aload_n 0, 1), (38, .bipush 6, 2), (40, .newarray .int, 2), (42, .putfield 26, 3), (45, .aload_n 0, 1), (46, .invokevirtual 29, 3), (49, .return_, 1)]
theorem dkX0_init : dk cX0_init tbX0_init := dk_of (by decide +kernel)
abbrev cdX0_init : Cond := Cond.code yX0_init cX0_init 1 none
abbrev rmX0_init : Room := { frames := 1, cells := 10, slots := 56, locals := 21 }
theorem mwX0_init : Cond.instanceMethod yX0_init ∈ wsL_law ∧ Cond.initialized yX0_init.cls ∈ wsL_law ∧ cdX0_init ∈ wsL_law := ⟨inr2 _ (List.mem_of_getElem? (i := 18) rfl), inr1 _ (List.mem_of_getElem? (i := 18) rfl), inr2 _ (List.mem_of_getElem? (i := 19) rfl)⟩
theorem hdX0_init : yX0_init.cls ≠ "java/lang/invoke/MethodHandle" ∧ yX0_init.cls ≠ "java/lang/invoke/VarHandle" ∧ (parseMethodDescriptor yX0_init.desc).map (fun d => d.parameters.length) = some 0 := by decide +kernel
set_option maxHeartbeats 4000000 in
set_option maxRecDepth 100000 in
theorem kX0_init (l : Launch) (g : Gx) (sz b0 : Nat) : Met l yX0_init (cdX0_init :: wsL_law) rmX0_init (va_Pc [.ref b0] (fun U => RWp g sz [(b0, .inr (0, [.long 0, .null, .null, .int 0, .null, .int 0, .null, .null, .int 0]))] U ∧ (va_AOA .int) U)) (va_Qv (fun _ : Unit => True) (fun _ t => ∃ i : (Nat → Nat), (fun a => a 0) i = b0 ∧ RWq g (va_A [(b0, .inr (0, [.long 0, .null, .null, .int 0, .null, .int 0, .null, .null, .int 0]))] sz) ((fun a => wC g a cInit) i) t) (va_A [(b0, .inr (0, [.long 0, .null, .null, .int 0, .null, .int 0, .null, .null, .int 0]))] sz)) 10 56 (va_A [(b0, .inr (0, [.long 0, .null, .null, .int 0, .null, .int 0, .null, .null, .int 0]))] sz) := by
  refine Met_in (I := (Nat → Nat)) (pk := fun a => a 0) (Wf := fun a => wC g a cInit) (Bx := (va_AOA .int)) (cc := cX0_init) (maxL := 1) (by decide) rfl rfl (Nat.le_of_ble_eq_true rfl) ?_
  intro P E Z Mi AR BE ME CO A Q C hin hK hB hA fin w ls hl
  have hl : lv_has ls 1 [(0, .ref b0)] := hl
  refine lv_aload_n C.1 C.2.1 (dk_at dkX0_init 0 rfl) rfl (lv_at hl 0 rfl) ?_
  refine r_oi C (List.mem_cons_of_mem _ (inr2 _ (List.mem_of_getElem? (i := 20) rfl))) (List.mem_cons_of_mem _ (inr1 _ (List.mem_of_getElem? (i := 10) rfl))) (List.mem_cons_of_mem _ (inr1 _ (List.mem_of_getElem? (i := 11) rfl))) hl.1 (dk_at dkX0_init 1 rfl) (Nat.le_of_ble_eq_true rfl) (Nat.le_of_ble_eq_true rfl) ?_
  refine lv_aload_n C.1 C.2.1 (dk_at dkX0_init 2 rfl) rfl (lv_at hl 0 rfl) ?_
  refine lv_bipush (v := 10) C.1 C.2.1 (dk_at dkX0_init 3 rfl) (by decide) ?_
  refine r_newI (N' := 10) C hK w hA (List.mem_cons_of_mem _ (inr2 _ (List.mem_of_getElem? (i := 1) rfl))) (by decide) (by decide) (by decide) (Nat.le_of_ble_eq_true rfl) (Nat.le_of_ble_eq_true rfl) (dk_at dkX0_init 4 rfl) (fun q1 H w => ?_)
  have w : Wd g A Z.heap ([(b0, .inr (0, [.long 0, .null, .null, .int 0, .null, .int 0, .null, .null, .int 0])), arI g q1 10 (fun _ => 0)]) H _ := w
  refine r_putF (v := .ref q1) C hin hK w (fun w h => List.mem_cons_of_mem _ (inlX0 w h)) tyX0 tyX0_ok nmX0 0 rfl rfl 1 (by decide) (List.mem_cons_of_mem _ (inr2 _ (List.mem_of_getElem? (i := 21) rfl))) rfl rfl rfl rfl (Nat.le_of_ble_eq_true rfl) (dk_at dkX0_init 5 rfl) (fun H locs w => ?_)
  have w : Wd g A Z.heap ([(b0, .inr (0, [.long 0, .ref q1, .null, .int 0, .null, .int 0, .null, .null, .int 0])), arI g q1 10 (fun _ => 0)]) H _ := w
  refine lv_aload_n C.1 C.2.1 (dk_at dkX0_init 6 rfl) rfl (lv_at hl 0 rfl) ?_
  refine lv_iconst (v := 5) C.1 C.2.1 (dk_at dkX0_init 7 rfl) (by decide) ?_
  refine lv_iconst (v := 5) C.1 C.2.1 (dk_at dkX0_init 8 rfl) (by decide) ?_
  refine r_mna C hK w hA (List.mem_cons_of_mem _ (inr2 _ (List.mem_of_getElem? (i := 22) rfl))) hB (List.mem_cons_of_mem _ (inr2 _ (List.mem_of_getElem? (i := 1) rfl))) (Nat.le_of_ble_eq_true rfl) (Nat.le_of_ble_eq_true rfl) (dk_at dkX0_init 9 rfl) (fun q2 r3 H w => ?_)
  have w : Wd g A Z.heap ([(b0, .inr (0, [.long 0, .ref q1, .null, .int 0, .null, .int 0, .null, .null, .int 0])), arI g q1 10 (fun _ => 0), arR (g.2 3) q2 5 (fun k => some (r3 k)), arI g (r3 0) 5 (fun _ => 0), arI g (r3 1) 5 (fun _ => 0), arI g (r3 2) 5 (fun _ => 0), arI g (r3 3) 5 (fun _ => 0), arI g (r3 4) 5 (fun _ => 0)]) H _ := w
  refine r_putF (v := .ref q2) C hin hK w (fun w h => List.mem_cons_of_mem _ (inlX0 w h)) tyX0 tyX0_ok nmX0 0 rfl rfl 2 (by decide) (List.mem_cons_of_mem _ (inr2 _ (List.mem_of_getElem? (i := 23) rfl))) rfl rfl rfl rfl (Nat.le_of_ble_eq_true rfl) (dk_at dkX0_init 10 rfl) (fun H locs w => ?_)
  have w : Wd g A Z.heap ([(b0, .inr (0, [.long 0, .ref q1, .ref q2, .int 0, .null, .int 0, .null, .null, .int 0])), arI g q1 10 (fun _ => 0), arR (g.2 3) q2 5 (fun k => some (r3 k)), arI g (r3 0) 5 (fun _ => 0), arI g (r3 1) 5 (fun _ => 0), arI g (r3 2) 5 (fun _ => 0), arI g (r3 3) 5 (fun _ => 0), arI g (r3 4) 5 (fun _ => 0)]) H _ := w
  refine lv_aload_n C.1 C.2.1 (dk_at dkX0_init 11 rfl) rfl (lv_at hl 0 rfl) ?_
  refine lv_iconst (v := 4) C.1 C.2.1 (dk_at dkX0_init 12 rfl) (by decide) ?_
  refine r_newI (N' := 4) C hK w hA (List.mem_cons_of_mem _ (inr2 _ (List.mem_of_getElem? (i := 1) rfl))) (by decide) (by decide) (by decide) (Nat.le_of_ble_eq_true rfl) (Nat.le_of_ble_eq_true rfl) (dk_at dkX0_init 13 rfl) (fun q4 H w => ?_)
  have w : Wd g A Z.heap ([(b0, .inr (0, [.long 0, .ref q1, .ref q2, .int 0, .null, .int 0, .null, .null, .int 0])), arI g q1 10 (fun _ => 0), arR (g.2 3) q2 5 (fun k => some (r3 k)), arI g (r3 0) 5 (fun _ => 0), arI g (r3 1) 5 (fun _ => 0), arI g (r3 2) 5 (fun _ => 0), arI g (r3 3) 5 (fun _ => 0), arI g (r3 4) 5 (fun _ => 0), arI g q4 4 (fun _ => 0)]) H _ := w
  refine r_putF (v := .ref q4) C hin hK w (fun w h => List.mem_cons_of_mem _ (inlX0 w h)) tyX0 tyX0_ok nmX0 0 rfl rfl 4 (by decide) (List.mem_cons_of_mem _ (inr3 _ (List.mem_of_getElem? (i := 0) rfl))) rfl rfl rfl rfl (Nat.le_of_ble_eq_true rfl) (dk_at dkX0_init 14 rfl) (fun H locs w => ?_)
  have w : Wd g A Z.heap ([(b0, .inr (0, [.long 0, .ref q1, .ref q2, .int 0, .ref q4, .int 0, .null, .null, .int 0])), arI g q1 10 (fun _ => 0), arR (g.2 3) q2 5 (fun k => some (r3 k)), arI g (r3 0) 5 (fun _ => 0), arI g (r3 1) 5 (fun _ => 0), arI g (r3 2) 5 (fun _ => 0), arI g (r3 3) 5 (fun _ => 0), arI g (r3 4) 5 (fun _ => 0), arI g q4 4 (fun _ => 0)]) H _ := w
  refine lv_aload_n C.1 C.2.1 (dk_at dkX0_init 15 rfl) rfl (lv_at hl 0 rfl) ?_
  refine lv_bipush (v := 6) C.1 C.2.1 (dk_at dkX0_init 16 rfl) (by decide) ?_
  refine r_newI (N' := 6) C hK w hA (List.mem_cons_of_mem _ (inr2 _ (List.mem_of_getElem? (i := 1) rfl))) (by decide) (by decide) (by decide) (Nat.le_of_ble_eq_true rfl) (Nat.le_of_ble_eq_true rfl) (dk_at dkX0_init 17 rfl) (fun q5 H w => ?_)
  have w : Wd g A Z.heap ([(b0, .inr (0, [.long 0, .ref q1, .ref q2, .int 0, .ref q4, .int 0, .null, .null, .int 0])), arI g q1 10 (fun _ => 0), arR (g.2 3) q2 5 (fun k => some (r3 k)), arI g (r3 0) 5 (fun _ => 0), arI g (r3 1) 5 (fun _ => 0), arI g (r3 2) 5 (fun _ => 0), arI g (r3 3) 5 (fun _ => 0), arI g (r3 4) 5 (fun _ => 0), arI g q4 4 (fun _ => 0), arI g q5 6 (fun _ => 0)]) H _ := w
  refine r_putF (v := .ref q5) C hin hK w (fun w h => List.mem_cons_of_mem _ (inlX0 w h)) tyX0 tyX0_ok nmX0 0 rfl rfl 6 (by decide) (List.mem_cons_of_mem _ (inr3 _ (List.mem_of_getElem? (i := 1) rfl))) rfl rfl rfl rfl (Nat.le_of_ble_eq_true rfl) (dk_at dkX0_init 18 rfl) (fun H locs w => ?_)
  have w : Wd g A Z.heap ([(b0, .inr (0, [.long 0, .ref q1, .ref q2, .int 0, .ref q4, .int 0, .ref q5, .null, .int 0])), arI g q1 10 (fun _ => 0), arR (g.2 3) q2 5 (fun k => some (r3 k)), arI g (r3 0) 5 (fun _ => 0), arI g (r3 1) 5 (fun _ => 0), arI g (r3 2) 5 (fun _ => 0), arI g (r3 3) 5 (fun _ => 0), arI g (r3 4) 5 (fun _ => 0), arI g q4 4 (fun _ => 0), arI g q5 6 (fun _ => 0)]) H _ := w
  refine lv_aload_n C.1 C.2.1 (dk_at dkX0_init 19 rfl) rfl (lv_at hl 0 rfl) ?_
  refine lv_bipush (v := 6) C.1 C.2.1 (dk_at dkX0_init 20 rfl) (by decide) ?_
  refine r_newI (N' := 6) C hK w hA (List.mem_cons_of_mem _ (inr2 _ (List.mem_of_getElem? (i := 1) rfl))) (by decide) (by decide) (by decide) (Nat.le_of_ble_eq_true rfl) (Nat.le_of_ble_eq_true rfl) (dk_at dkX0_init 21 rfl) (fun q6 H w => ?_)
  have w : Wd g A Z.heap ([(b0, .inr (0, [.long 0, .ref q1, .ref q2, .int 0, .ref q4, .int 0, .ref q5, .null, .int 0])), arI g q1 10 (fun _ => 0), arR (g.2 3) q2 5 (fun k => some (r3 k)), arI g (r3 0) 5 (fun _ => 0), arI g (r3 1) 5 (fun _ => 0), arI g (r3 2) 5 (fun _ => 0), arI g (r3 3) 5 (fun _ => 0), arI g (r3 4) 5 (fun _ => 0), arI g q4 4 (fun _ => 0), arI g q5 6 (fun _ => 0), arI g q6 6 (fun _ => 0)]) H _ := w
  refine r_putF (v := .ref q6) C hin hK w (fun w h => List.mem_cons_of_mem _ (inlX0 w h)) tyX0 tyX0_ok nmX0 0 rfl rfl 7 (by decide) (List.mem_cons_of_mem _ (inr3 _ (List.mem_of_getElem? (i := 2) rfl))) rfl rfl rfl rfl (Nat.le_of_ble_eq_true rfl) (dk_at dkX0_init 22 rfl) (fun H locs w => ?_)
  have w : Wd g A Z.heap ([(b0, .inr (0, [.long 0, .ref q1, .ref q2, .int 0, .ref q4, .int 0, .ref q5, .ref q6, .int 0])), arI g q1 10 (fun _ => 0), arR (g.2 3) q2 5 (fun k => some (r3 k)), arI g (r3 0) 5 (fun _ => 0), arI g (r3 1) 5 (fun _ => 0), arI g (r3 2) 5 (fun _ => 0), arI g (r3 3) 5 (fun _ => 0), arI g (r3 4) 5 (fun _ => 0), arI g q4 4 (fun _ => 0), arI g q5 6 (fun _ => 0), arI g q6 6 (fun _ => 0)]) H _ := w
  refine lv_aload_n C.1 C.2.1 (dk_at dkX0_init 23 rfl) rfl (lv_at hl 0 rfl) ?_
  obtain ⟨al, eal⟩ : ∃ z : Nat → Nat, z = (fun k => [b0, q1, q2, r3 0, r3 1, r3 2, r3 3, r3 4, q4, q5, q6].getD k 0) := ⟨_, rfl⟩
  have w : Wd g A Z.heap (wC g al cZero) H locs := wC_in al cZero (fun k => some (r3 k)) (by rw [eal]; intro k hk; rcases lt5 hk with h | h | h | h | h <;> subst h <;> rfl) (by rw [eal]; exact w)
  obtain ⟨c1, hc1, hce⟩ := clear_ok
  have eb : al 0 = b0 := by rw [eal]; rfl
  rw [← eb]
  refine r_rwv (As := []) (rest := []) (wr := []) (ws' := wC g al c1) C (kX0_clear l g _ al cZero c1 hc1) (cwV0 C (inr3 _ (List.mem_of_getElem? (i := 3) rfl)) mwX0_clear hdX0_clear ⟨Nat.le_of_ble_eq_true rfl, Nat.le_of_ble_eq_true rfl⟩) hK w hA [0, 1, 2, 3, 4, 5, 6, 7, 8, 9, 10] [] [0, 1, 2, 3, 4, 5, 6, 7, 8, 9, 10] (by decide) rfl rfl (by decide) (by decide) rfl (by decide) rfl rfl rfl hl.1 rfl (Nat.le_of_ble_eq_true rfl) ⟨Nat.le_of_ble_eq_true rfl, Nat.le_of_ble_eq_true rfl⟩ (dk_at dkX0_init 24 rfl) (fun H locs w => ?_)
  exact fin _ _ _ _ al (dk_at dkX0_init 25 rfl) eb ⟨cEq_P hce w.1, va_D_fst (wC_fst g al c1 cInit) w.2.1, w.2.2⟩

-- X2.init
abbrev tbX2_init : List (Nat × Instr × Nat) := [(0, .aload_n 0, 1), (1, .invokespecial 3, 3), (4, .aload_n 0, 1), (5, .sipush 160, 3), (8, .newarray .byte, 2), (10, .putfield 9, 3), (13, .aload_n 0, 1), (14, .new 15, 3), (17, .dup, 1), (18, .invokespecial 17, 3), (21, .putfield 18, 3), (24, .return_, 1)]
theorem dkX2_init : dk cX2_init tbX2_init := dk_of (by decide +kernel)
abbrev cdX2_init : Cond := Cond.code yX2_init cX2_init 1 none
abbrev rmX2_init : Room := { frames := 2, cells := 12, slots := 225, locals := 41 }
theorem mwX2_init : Cond.instanceMethod yX2_init ∈ wsL_law ∧ Cond.initialized yX2_init.cls ∈ wsL_law ∧ cdX2_init ∈ wsL_law := ⟨inr2 _ (List.mem_of_getElem? (i := 10) rfl), inr1 _ (List.mem_of_getElem? (i := 14) rfl), inr2 _ (List.mem_of_getElem? (i := 11) rfl)⟩
theorem hdX2_init : yX2_init.cls ≠ "java/lang/invoke/MethodHandle" ∧ yX2_init.cls ≠ "java/lang/invoke/VarHandle" ∧ (parseMethodDescriptor yX2_init.desc).map (fun d => d.parameters.length) = some 0 := by decide +kernel
set_option maxHeartbeats 4000000 in
set_option maxRecDepth 100000 in
theorem kX2_init (l : Launch) (g : Gx) (sz b0 : Nat) : Met l yX2_init (cdX2_init :: wsL_law) rmX2_init (va_Pc [.ref b0] (fun U => RWp g sz [(b0, .inr (2, [.null, .int 0, .null, .int 0, .int 0, .int 0, .int 0, .int 0, .int 0, .int 0]))] U ∧ (va_AOA .int) U)) (va_Qv (fun _ : Unit => True) (fun _ t => ∃ i : ((Nat → Nat) × (Nat → Nat)), (fun a => a.1 0) i = b0 ∧ RWq g (va_A [(b0, .inr (2, [.null, .int 0, .null, .int 0, .int 0, .int 0, .int 0, .int 0, .int 0, .int 0]))] sz) ((fun a => wR g a.1 a.2 rInit ++ wC g a.2 cInit) i) t) (va_A [(b0, .inr (2, [.null, .int 0, .null, .int 0, .int 0, .int 0, .int 0, .int 0, .int 0, .int 0]))] sz)) 12 225 (va_A [(b0, .inr (2, [.null, .int 0, .null, .int 0, .int 0, .int 0, .int 0, .int 0, .int 0, .int 0]))] sz) := by
  refine Met_in (I := ((Nat → Nat) × (Nat → Nat))) (pk := fun a => a.1 0) (Wf := fun a => wR g a.1 a.2 rInit ++ wC g a.2 cInit) (Bx := (va_AOA .int)) (cc := cX2_init) (maxL := 1) (by decide) rfl rfl (Nat.le_of_ble_eq_true rfl) ?_
  intro P E Z Mi AR BE ME CO A Q C hin hK hB hA fin w ls hl
  have hl : lv_has ls 1 [(0, .ref b0)] := hl
  refine lv_aload_n C.1 C.2.1 (dk_at dkX2_init 0 rfl) rfl (lv_at hl 0 rfl) ?_
  refine r_oi C (List.mem_cons_of_mem _ (inr2 _ (List.mem_of_getElem? (i := 12) rfl))) (List.mem_cons_of_mem _ (inr1 _ (List.mem_of_getElem? (i := 10) rfl))) (List.mem_cons_of_mem _ (inr1 _ (List.mem_of_getElem? (i := 11) rfl))) hl.1 (dk_at dkX2_init 1 rfl) (Nat.le_of_ble_eq_true rfl) (Nat.le_of_ble_eq_true rfl) ?_
  refine lv_aload_n C.1 C.2.1 (dk_at dkX2_init 2 rfl) rfl (lv_at hl 0 rfl) ?_
  refine lv_sipush (v := 160) C.1 C.2.1 (dk_at dkX2_init 3 rfl) (by decide) ?_
  refine r_newB (N' := 160) C hK w hA (List.mem_cons_of_mem _ (inr2 _ (List.mem_of_getElem? (i := 13) rfl))) (by decide) (by decide) (by decide) (Nat.le_of_ble_eq_true rfl) (Nat.le_of_ble_eq_true rfl) (dk_at dkX2_init 4 rfl) (fun q1 H w => ?_)
  have w : Wd g A Z.heap ([(b0, .inr (2, [.null, .int 0, .null, .int 0, .int 0, .int 0, .int 0, .int 0, .int 0, .int 0])), arB g q1 160 (fun _ => 0)]) H _ := w
  refine r_putF (v := .ref q1) C hin hK w (fun w h => List.mem_cons_of_mem _ (inlX2 w h)) tyX2 tyX2_ok nmX2 0 rfl rfl 0 (by decide) (List.mem_cons_of_mem _ (inr2 _ (List.mem_of_getElem? (i := 14) rfl))) rfl rfl rfl rfl (Nat.le_of_ble_eq_true rfl) (dk_at dkX2_init 5 rfl) (fun H locs w => ?_)
  have w : Wd g A Z.heap ([(b0, .inr (2, [.ref q1, .int 0, .null, .int 0, .int 0, .int 0, .int 0, .int 0, .int 0, .int 0])), arB g q1 160 (fun _ => 0)]) H _ := w
  refine lv_aload_n C.1 C.2.1 (dk_at dkX2_init 6 rfl) rfl (lv_at hl 0 rfl) ?_
  refine r_new (ci := 0) (fs := [.long 0, .null, .null, .int 0, .null, .int 0, .null, .null, .int 0]) C hK w hA (fun w h => List.mem_cons_of_mem _ (inlX0 w h)) tyX0 tyX0_ok (List.mem_cons_of_mem _ (inr2 _ (List.mem_of_getElem? (i := 15) rfl))) (List.mem_cons_of_mem _ (inr1 _ (List.mem_of_getElem? (i := 17) rfl))) (List.mem_cons_of_mem _ (inr1 _ (List.mem_of_getElem? (i := 18) rfl))) rfl (fun j hj => by rcases (show j = 0 ∨ j = 1 ∨ j = 2 ∨ j = 3 ∨ j = 4 ∨ j = 5 ∨ j = 6 ∨ j = 7 ∨ j = 8 by omega) with rfl | rfl | rfl | rfl | rfl | rfl | rfl | rfl | rfl <;> rfl) (Nat.le_of_ble_eq_true rfl) (Nat.le_of_ble_eq_true rfl) (dk_at dkX2_init 7 rfl) (fun q2 H w => ?_)
  have w : Wd g A Z.heap ([(b0, .inr (2, [.ref q1, .int 0, .null, .int 0, .int 0, .int 0, .int 0, .int 0, .int 0, .int 0])), arB g q1 160 (fun _ => 0), (q2, .inr (0, [.long 0, .null, .null, .int 0, .null, .int 0, .null, .null, .int 0]))]) H _ := w
  refine lv_dup C.1 C.2.1 (dk_at dkX2_init 8 rfl) rfl ?_
  refine r_ini (rest := [.ref q2, .ref b0]) (wr := [(b0, .inr (2, [.ref q1, .int 0, .null, .int 0, .int 0, .int 0, .int 0, .int 0, .int 0, .int 0])), arB g q1 160 (fun _ => 0)]) C (kX0_init l g _ q2) (cwI0 C (inr2 _ (List.mem_of_getElem? (i := 17) rfl)) mwX0_init rfl hdX0_init ⟨Nat.le_of_ble_eq_true rfl, Nat.le_of_ble_eq_true rfl⟩) (fun _ U _ _ h => va_AOA.moved (Vm.Alike.refl U.vm) h) (fun _ hW => va_AOA.moved hW.alike hB) hK w hA [2] [0, 1] (by decide) rfl rfl (by decide) (by decide) hl.1 rfl (Nat.le_of_ble_eq_true rfl) ⟨Nat.le_of_ble_eq_true rfl, Nat.le_of_ble_eq_true rfl⟩ (dk_at dkX2_init 9 rfl) (fun a3 H locs ea3 w9 => ?_)
  try dsimp only at ea3
  subst ea3
  have w : Wd g A Z.heap ([(b0, .inr (2, [.ref q1, .int 0, .null, .int 0, .int 0, .int 0, .int 0, .int 0, .int 0, .int 0])), arB g q1 160 (fun _ => 0)] ++ wC g a3 cInit) H _ := w9
  refine r_putF (v := .ref (a3 0)) C hin hK w (fun w h => List.mem_cons_of_mem _ (inlX2 w h)) tyX2 tyX2_ok nmX2 0 rfl rfl 2 (by decide) (List.mem_cons_of_mem _ (inr2 _ (List.mem_of_getElem? (i := 16) rfl))) rfl rfl rfl rfl (Nat.le_of_ble_eq_true rfl) (dk_at dkX2_init 10 rfl) (fun H locs w => ?_)
  have w : Wd g A Z.heap ([(b0, .inr (2, [.ref q1, .int 0, .ref (a3 0), .int 0, .int 0, .int 0, .int 0, .int 0, .int 0, .int 0])), arB g q1 160 (fun _ => 0)] ++ wC g a3 cInit) H _ := w
  exact fin _ _ _ _ ((fun k => [b0, q1].getD k 0), a3) (dk_at dkX2_init 11 rfl) rfl w

def BxV (U : State) : Prop := va_AOA .int U ∧ va_AO "VoiceFall$Coast" U ∧ va_AO "VoiceFall$Sheet" U ∧ va_Nw (.methodLinkNest RX5 9 yX2_init "VoiceFall") U ∧ va_Nw (.methodLinkNest RX5 28 yX1_init "VoiceFall") U ∧ va_Nw (.methodLinkNest RX5 51 yX4_init "VoiceFall") U
theorem BxV_blind : ∀ (a : Array Value) (U : State) (q : JFrame) (mk : MethodId), BxV U → BxV (U.calling q mk a) := fun a U q mk h => ⟨va_AOA.moved (u := U) (Vm.Alike.refl U.vm) h.1, va_AO.moved (u := U) (Vm.Alike.refl U.vm) h.2.1, va_AO.moved (u := U) (Vm.Alike.refl U.vm) h.2.2.1, va_Nw.same (u := U) rfl rfl h.2.2.2.1, va_Nw.same (u := U) rfl rfl h.2.2.2.2.1, va_Nw.same (u := U) rfl rfl h.2.2.2.2.2⟩
theorem BxV_warm {s : State} (h : BxV s) : ∀ U : State, s.WarmedH U.vm → BxV U := fun U hW => ⟨va_AOA.moved hW.alike h.1, va_AO.moved hW.alike h.2.1, va_AO.moved hW.alike h.2.2.1, h.2.2.2.1.warmM hW, h.2.2.2.2.1.warmM hW, h.2.2.2.2.2.warmM hW⟩

-- X6.init
abbrev tbX6_init : List (Nat × Instr × Nat) := [(0, .aload_n 0, 1), (1, .invokespecial 1, 3), (4, .aload_n 0, 1), (5, .sipush 183, 3), (8, .newarray .int, 2), (10, .putfield 7, 3), (13, .aload_n 0, 1), (14, .bipush 61, 2), (16, .newarray .int, 2), (18, .putfield 13, 3), (21, .aload_n 0, 1), (22, .iconst 2, 1), (23, .newarray .boolean, 2), (25, .putfield 16, 3), (28, .aload_n 0, 1), (29, .bipush 61, 2), (31, .newarray .int, 2), (33, .putfield 20, 3), (36, .aload_n 0, 1), (37, .sipush 160, 3), (40, .newarray .int, 2), (42, .putfield 23, 3), (45, .aload_n 0, 1), (46, .iconst 5, 1), (47, .newarray .int, 2), (49, .putfield 26, 3), (52, .aload_n 0, 1), (53, .iconst 5, 1), (54, .newarray .int, 2), (56, .putfield 29, 3), (59, .aload_n 0, 1), (60, .iconst 5, 1), (61, .newarray .int, 2), (63, .putfield 32, 3), (66, .aload_n 0, 1), (67, .bipush 80, 2), (69, .newarray .boolean, 2), (71, .putfield 35, 3), (74, .aload_n 0, 1), (75, .bipush 80, 2), (77, .newarray .boolean, 2), (79, .putfield 38, 3), (82, .aload_n 0, 1), (83, .bipush 80, 2), (85, .newarray .boolean, 2), (87, .putfield 41, 3), (90, .aload_n 0, 1), (91, .sipush 400, 3), (94, .newarray .int, 2), (96, .putfield 44, 3), (99, .aload_n 0, 1), (100, .bipush 10, 2), (102, .newarray .int, 2), (104, .putfield 47, 3), (107, .aload_n 0, 1), (108, .iconst 4, 1), (109, .newarray .int, 2), (111, .putfield 50, 3), (114, .aload_n 0, 1), (115, .iconst 4, 1), (116, .newarray .int, 2), (118, .putfield 53, 3), (121, .aload_n 0, 1), (122, .sipush 160, 3), (125, .newarray .int, 2), (127, .putfield 56, 3), (130, .aload_n 0, 1), (131, .bipush 61, 2), (133, .newarray .int, 2), (135, .putfield 59, 3), (138, .iconst 0, 1), (139, .istore_n 1, 1), (140, .iload_n 1, 1), (141, .iconst 4, 1), (142, .if_icmp .ge 17, 3), (145, .aload_n 0, 1), (146, .getfield 50, 3), (149, .iload_n 1, 1), (150, .bipush (-4), 2), (152, .iastore, 1), (153, .iinc 1 1, 3), (156, .goto (-16), 3), (159, .aload_n 0, 1), (160, .invokevirtual 62, 3), (163, .aload_n 0, 1), (164, .invokevirtual 65, 3), (167, .return_, 1)]
theorem dkX6_init : dk cX6_init tbX6_init := dk_of (by decide +kernel)
abbrev cdX6_init : Cond := Cond.code yX6_init cX6_init 2 none
abbrev rmX6_init : Room := { frames := 1, cells := 17, slots := 1361, locals := 21 }
theorem mwX6_init : Cond.instanceMethod yX6_init ∈ wsL_law ∧ Cond.initialized yX6_init.cls ∈ wsL_law ∧ cdX6_init ∈ wsL_law := ⟨inr4 _ (List.mem_of_getElem? (i := 1) rfl), inr1 _ (List.mem_of_getElem? (i := 5) rfl), inr4 _ (List.mem_of_getElem? (i := 2) rfl)⟩
theorem hdX6_init : yX6_init.cls ≠ "java/lang/invoke/MethodHandle" ∧ yX6_init.cls ≠ "java/lang/invoke/VarHandle" ∧ (parseMethodDescriptor yX6_init.desc).map (fun d => d.parameters.length) = some 0 := by decide +kernel
set_option maxHeartbeats 4000000 in
set_option maxRecDepth 100000 in
theorem kX6_init (l : Launch) (g : Gx) (sz b0 : Nat) (draft_1 : AI) (dHearers_1 : Int32) (dWalls_1 : Int32) (toldWinds_1 : Int32) (hf1 : fX6_firstDraft (fun _ => 0) 0 0 0 = some (draft_1, dHearers_1, dWalls_1, toldWinds_1)) (st_2 : AI) (isKept_2 : AI) (hearers_2 : Int32) (hf2 : fX6_keepDraft (fun _ => 0) (fun _ => 0) 0 draft_1 dHearers_1 = some (st_2, isKept_2, hearers_2)) : Met l yX6_init (cdX6_init :: wsL_law) rmX6_init (va_Pc [.ref b0] (fun U => RWp g sz [(b0, .inr (5, [.null, .null, .null, .int 0, .null, .int 0, .int 0, .int 0, .null, .int 0, .int 0, .int 0, .int 0, .int 0, .int 0, .int 0, .null, .null, .null, .null, .null, .null, .long 0, .long 0, .long 0, .null, .null, .null, .null, .null, .int 0, .null]))] U ∧ (fun _ => True) U)) (va_Qv (fun _ : Unit => True) (fun _ t => ∃ i : (Nat → Nat), (fun a => a 0) i = b0 ∧ RWq g (va_A [(b0, .inr (5, [.null, .null, .null, .int 0, .null, .int 0, .int 0, .int 0, .null, .int 0, .int 0, .int 0, .int 0, .int 0, .int 0, .int 0, .null, .null, .null, .null, .null, .null, .long 0, .long 0, .long 0, .null, .null, .null, .null, .null, .int 0, .null]))] sz) ((fun a => wM g a st_2 (fun _ => 0) isKept_2 hearers_2 draft_1 dHearers_1 dWalls_1 toldWinds_1 (fun _ => 0) 0 0 0 0 0 0 0 (fun _ => 0) (fun _ => 0) (fun _ => 0) (fun _ => 0) (fun _ => 0) (fun _ => 0) 0 0 0 (fun _ => 0) (fun _ => 0) (upd (upd (upd (upd (fun _ => 0) 0 (-4)) 1 (-4)) 2 (-4)) 3 (-4)) (fun _ => 0) (fun _ => 0) 0 (fun _ => 0)) i) t) (va_A [(b0, .inr (5, [.null, .null, .null, .int 0, .null, .int 0, .int 0, .int 0, .null, .int 0, .int 0, .int 0, .int 0, .int 0, .int 0, .int 0, .null, .null, .null, .null, .null, .null, .long 0, .long 0, .long 0, .null, .null, .null, .null, .null, .int 0, .null]))] sz)) 17 1361 (va_A [(b0, .inr (5, [.null, .null, .null, .int 0, .null, .int 0, .int 0, .int 0, .null, .int 0, .int 0, .int 0, .int 0, .int 0, .int 0, .int 0, .null, .null, .null, .null, .null, .null, .long 0, .long 0, .long 0, .null, .null, .null, .null, .null, .int 0, .null]))] sz) := by
  refine Met_in (I := (Nat → Nat)) (pk := fun a => a 0) (Wf := fun a => wM g a st_2 (fun _ => 0) isKept_2 hearers_2 draft_1 dHearers_1 dWalls_1 toldWinds_1 (fun _ => 0) 0 0 0 0 0 0 0 (fun _ => 0) (fun _ => 0) (fun _ => 0) (fun _ => 0) (fun _ => 0) (fun _ => 0) 0 0 0 (fun _ => 0) (fun _ => 0) (upd (upd (upd (upd (fun _ => 0) 0 (-4)) 1 (-4)) 2 (-4)) 3 (-4)) (fun _ => 0) (fun _ => 0) 0 (fun _ => 0)) (Bx := (fun _ => True)) (cc := cX6_init) (maxL := 2) (by decide) rfl rfl (Nat.le_of_ble_eq_true rfl) ?_
  intro P E Z Mi AR BE ME CO A Q C hin hK hB hA fin w ls hl
  have hl : lv_has ls 2 [(0, .ref b0)] := hl
  refine lv_aload_n C.1 C.2.1 (dk_at dkX6_init 0 rfl) rfl (lv_at hl 0 rfl) ?_
  refine r_oi C (List.mem_cons_of_mem _ (inr4 _ (List.mem_of_getElem? (i := 3) rfl))) (List.mem_cons_of_mem _ (inr1 _ (List.mem_of_getElem? (i := 10) rfl))) (List.mem_cons_of_mem _ (inr1 _ (List.mem_of_getElem? (i := 11) rfl))) hl.1 (dk_at dkX6_init 1 rfl) (Nat.le_of_ble_eq_true rfl) (Nat.le_of_ble_eq_true rfl) ?_
  refine lv_aload_n C.1 C.2.1 (dk_at dkX6_init 2 rfl) rfl (lv_at hl 0 rfl) ?_
  refine lv_sipush (v := 183) C.1 C.2.1 (dk_at dkX6_init 3 rfl) (by decide) ?_
  refine r_newI (N' := 183) C hK w hA (List.mem_cons_of_mem _ (inr2 _ (List.mem_of_getElem? (i := 1) rfl))) (by decide) (by decide) (by decide) (Nat.le_of_ble_eq_true rfl) (Nat.le_of_ble_eq_true rfl) (dk_at dkX6_init 4 rfl) (fun q1 H w => ?_)
  have w : Wd g A Z.heap ([(b0, .inr (5, [.null, .null, .null, .int 0, .null, .int 0, .int 0, .int 0, .null, .int 0, .int 0, .int 0, .int 0, .int 0, .int 0, .int 0, .null, .null, .null, .null, .null, .null, .long 0, .long 0, .long 0, .null, .null, .null, .null, .null, .int 0, .null])), arI g q1 183 (fun _ => 0)]) H _ := w
  refine r_putF (v := .ref q1) C hin hK w (fun w h => List.mem_cons_of_mem _ (inlX6 w h)) tyX6 tyX6_ok nmX6 0 rfl rfl 0 (by decide) (List.mem_cons_of_mem _ (inr4 _ (List.mem_of_getElem? (i := 4) rfl))) rfl rfl rfl rfl (Nat.le_of_ble_eq_true rfl) (dk_at dkX6_init 5 rfl) (fun H locs w => ?_)
  have w : Wd g A Z.heap ([(b0, .inr (5, [.ref q1, .null, .null, .int 0, .null, .int 0, .int 0, .int 0, .null, .int 0, .int 0, .int 0, .int 0, .int 0, .int 0, .int 0, .null, .null, .null, .null, .null, .null, .long 0, .long 0, .long 0, .null, .null, .null, .null, .null, .int 0, .null])), arI g q1 183 (fun _ => 0)]) H _ := w
  refine lv_aload_n C.1 C.2.1 (dk_at dkX6_init 6 rfl) rfl (lv_at hl 0 rfl) ?_
  refine lv_bipush (v := 61) C.1 C.2.1 (dk_at dkX6_init 7 rfl) (by decide) ?_
  refine r_newI (N' := 61) C hK w hA (List.mem_cons_of_mem _ (inr2 _ (List.mem_of_getElem? (i := 1) rfl))) (by decide) (by decide) (by decide) (Nat.le_of_ble_eq_true rfl) (Nat.le_of_ble_eq_true rfl) (dk_at dkX6_init 8 rfl) (fun q2 H w => ?_)
  have w : Wd g A Z.heap ([(b0, .inr (5, [.ref q1, .null, .null, .int 0, .null, .int 0, .int 0, .int 0, .null, .int 0, .int 0, .int 0, .int 0, .int 0, .int 0, .int 0, .null, .null, .null, .null, .null, .null, .long 0, .long 0, .long 0, .null, .null, .null, .null, .null, .int 0, .null])), arI g q1 183 (fun _ => 0), arI g q2 61 (fun _ => 0)]) H _ := w
  refine r_putF (v := .ref q2) C hin hK w (fun w h => List.mem_cons_of_mem _ (inlX6 w h)) tyX6 tyX6_ok nmX6 0 rfl rfl 1 (by decide) (List.mem_cons_of_mem _ (inr4 _ (List.mem_of_getElem? (i := 5) rfl))) rfl rfl rfl rfl (Nat.le_of_ble_eq_true rfl) (dk_at dkX6_init 9 rfl) (fun H locs w => ?_)
  have w : Wd g A Z.heap ([(b0, .inr (5, [.ref q1, .ref q2, .null, .int 0, .null, .int 0, .int 0, .int 0, .null, .int 0, .int 0, .int 0, .int 0, .int 0, .int 0, .int 0, .null, .null, .null, .null, .null, .null, .long 0, .long 0, .long 0, .null, .null, .null, .null, .null, .int 0, .null])), arI g q1 183 (fun _ => 0), arI g q2 61 (fun _ => 0)]) H _ := w
  refine lv_aload_n C.1 C.2.1 (dk_at dkX6_init 10 rfl) rfl (lv_at hl 0 rfl) ?_
  refine lv_iconst (v := 2) C.1 C.2.1 (dk_at dkX6_init 11 rfl) (by decide) ?_
  refine r_newZ (N' := 2) C hK w hA (List.mem_cons_of_mem _ (inr2 _ (List.mem_of_getElem? (i := 4) rfl))) (by decide) (by decide) (by decide) (Nat.le_of_ble_eq_true rfl) (Nat.le_of_ble_eq_true rfl) (dk_at dkX6_init 12 rfl) (fun q3 H w => ?_)
  have w : Wd g A Z.heap ([(b0, .inr (5, [.ref q1, .ref q2, .null, .int 0, .null, .int 0, .int 0, .int 0, .null, .int 0, .int 0, .int 0, .int 0, .int 0, .int 0, .int 0, .null, .null, .null, .null, .null, .null, .long 0, .long 0, .long 0, .null, .null, .null, .null, .null, .int 0, .null])), arI g q1 183 (fun _ => 0), arI g q2 61 (fun _ => 0), arZ g q3 2 (fun _ => 0)]) H _ := w
  refine r_putF (v := .ref q3) C hin hK w (fun w h => List.mem_cons_of_mem _ (inlX6 w h)) tyX6 tyX6_ok nmX6 0 rfl rfl 2 (by decide) (List.mem_cons_of_mem _ (inr4 _ (List.mem_of_getElem? (i := 6) rfl))) rfl rfl rfl rfl (Nat.le_of_ble_eq_true rfl) (dk_at dkX6_init 13 rfl) (fun H locs w => ?_)
  have w : Wd g A Z.heap ([(b0, .inr (5, [.ref q1, .ref q2, .ref q3, .int 0, .null, .int 0, .int 0, .int 0, .null, .int 0, .int 0, .int 0, .int 0, .int 0, .int 0, .int 0, .null, .null, .null, .null, .null, .null, .long 0, .long 0, .long 0, .null, .null, .null, .null, .null, .int 0, .null])), arI g q1 183 (fun _ => 0), arI g q2 61 (fun _ => 0), arZ g q3 2 (fun _ => 0)]) H _ := w
  refine lv_aload_n C.1 C.2.1 (dk_at dkX6_init 14 rfl) rfl (lv_at hl 0 rfl) ?_
  refine lv_bipush (v := 61) C.1 C.2.1 (dk_at dkX6_init 15 rfl) (by decide) ?_
  refine r_newI (N' := 61) C hK w hA (List.mem_cons_of_mem _ (inr2 _ (List.mem_of_getElem? (i := 1) rfl))) (by decide) (by decide) (by decide) (Nat.le_of_ble_eq_true rfl) (Nat.le_of_ble_eq_true rfl) (dk_at dkX6_init 16 rfl) (fun q4 H w => ?_)
  have w : Wd g A Z.heap ([(b0, .inr (5, [.ref q1, .ref q2, .ref q3, .int 0, .null, .int 0, .int 0, .int 0, .null, .int 0, .int 0, .int 0, .int 0, .int 0, .int 0, .int 0, .null, .null, .null, .null, .null, .null, .long 0, .long 0, .long 0, .null, .null, .null, .null, .null, .int 0, .null])), arI g q1 183 (fun _ => 0), arI g q2 61 (fun _ => 0), arZ g q3 2 (fun _ => 0), arI g q4 61 (fun _ => 0)]) H _ := w
  refine r_putF (v := .ref q4) C hin hK w (fun w h => List.mem_cons_of_mem _ (inlX6 w h)) tyX6 tyX6_ok nmX6 0 rfl rfl 4 (by decide) (List.mem_cons_of_mem _ (inr4 _ (List.mem_of_getElem? (i := 7) rfl))) rfl rfl rfl rfl (Nat.le_of_ble_eq_true rfl) (dk_at dkX6_init 17 rfl) (fun H locs w => ?_)
  have w : Wd g A Z.heap ([(b0, .inr (5, [.ref q1, .ref q2, .ref q3, .int 0, .ref q4, .int 0, .int 0, .int 0, .null, .int 0, .int 0, .int 0, .int 0, .int 0, .int 0, .int 0, .null, .null, .null, .null, .null, .null, .long 0, .long 0, .long 0, .null, .null, .null, .null, .null, .int 0, .null])), arI g q1 183 (fun _ => 0), arI g q2 61 (fun _ => 0), arZ g q3 2 (fun _ => 0), arI g q4 61 (fun _ => 0)]) H _ := w
  refine lv_aload_n C.1 C.2.1 (dk_at dkX6_init 18 rfl) rfl (lv_at hl 0 rfl) ?_
  refine lv_sipush (v := 160) C.1 C.2.1 (dk_at dkX6_init 19 rfl) (by decide) ?_
  refine r_newI (N' := 160) C hK w hA (List.mem_cons_of_mem _ (inr2 _ (List.mem_of_getElem? (i := 1) rfl))) (by decide) (by decide) (by decide) (Nat.le_of_ble_eq_true rfl) (Nat.le_of_ble_eq_true rfl) (dk_at dkX6_init 20 rfl) (fun q5 H w => ?_)
  have w : Wd g A Z.heap ([(b0, .inr (5, [.ref q1, .ref q2, .ref q3, .int 0, .ref q4, .int 0, .int 0, .int 0, .null, .int 0, .int 0, .int 0, .int 0, .int 0, .int 0, .int 0, .null, .null, .null, .null, .null, .null, .long 0, .long 0, .long 0, .null, .null, .null, .null, .null, .int 0, .null])), arI g q1 183 (fun _ => 0), arI g q2 61 (fun _ => 0), arZ g q3 2 (fun _ => 0), arI g q4 61 (fun _ => 0), arI g q5 160 (fun _ => 0)]) H _ := w
  refine r_putF (v := .ref q5) C hin hK w (fun w h => List.mem_cons_of_mem _ (inlX6 w h)) tyX6 tyX6_ok nmX6 0 rfl rfl 8 (by decide) (List.mem_cons_of_mem _ (inr4 _ (List.mem_of_getElem? (i := 8) rfl))) rfl rfl rfl rfl (Nat.le_of_ble_eq_true rfl) (dk_at dkX6_init 21 rfl) (fun H locs w => ?_)
  have w : Wd g A Z.heap ([(b0, .inr (5, [.ref q1, .ref q2, .ref q3, .int 0, .ref q4, .int 0, .int 0, .int 0, .ref q5, .int 0, .int 0, .int 0, .int 0, .int 0, .int 0, .int 0, .null, .null, .null, .null, .null, .null, .long 0, .long 0, .long 0, .null, .null, .null, .null, .null, .int 0, .null])), arI g q1 183 (fun _ => 0), arI g q2 61 (fun _ => 0), arZ g q3 2 (fun _ => 0), arI g q4 61 (fun _ => 0), arI g q5 160 (fun _ => 0)]) H _ := w
  refine lv_aload_n C.1 C.2.1 (dk_at dkX6_init 22 rfl) rfl (lv_at hl 0 rfl) ?_
  refine lv_iconst (v := 5) C.1 C.2.1 (dk_at dkX6_init 23 rfl) (by decide) ?_
  refine r_newI (N' := 5) C hK w hA (List.mem_cons_of_mem _ (inr2 _ (List.mem_of_getElem? (i := 1) rfl))) (by decide) (by decide) (by decide) (Nat.le_of_ble_eq_true rfl) (Nat.le_of_ble_eq_true rfl) (dk_at dkX6_init 24 rfl) (fun q6 H w => ?_)
  have w : Wd g A Z.heap ([(b0, .inr (5, [.ref q1, .ref q2, .ref q3, .int 0, .ref q4, .int 0, .int 0, .int 0, .ref q5, .int 0, .int 0, .int 0, .int 0, .int 0, .int 0, .int 0, .null, .null, .null, .null, .null, .null, .long 0, .long 0, .long 0, .null, .null, .null, .null, .null, .int 0, .null])), arI g q1 183 (fun _ => 0), arI g q2 61 (fun _ => 0), arZ g q3 2 (fun _ => 0), arI g q4 61 (fun _ => 0), arI g q5 160 (fun _ => 0), arI g q6 5 (fun _ => 0)]) H _ := w
  refine r_putF (v := .ref q6) C hin hK w (fun w h => List.mem_cons_of_mem _ (inlX6 w h)) tyX6 tyX6_ok nmX6 0 rfl rfl 16 (by decide) (List.mem_cons_of_mem _ (inr4 _ (List.mem_of_getElem? (i := 9) rfl))) rfl rfl rfl rfl (Nat.le_of_ble_eq_true rfl) (dk_at dkX6_init 25 rfl) (fun H locs w => ?_)
  have w : Wd g A Z.heap ([(b0, .inr (5, [.ref q1, .ref q2, .ref q3, .int 0, .ref q4, .int 0, .int 0, .int 0, .ref q5, .int 0, .int 0, .int 0, .int 0, .int 0, .int 0, .int 0, .ref q6, .null, .null, .null, .null, .null, .long 0, .long 0, .long 0, .null, .null, .null, .null, .null, .int 0, .null])), arI g q1 183 (fun _ => 0), arI g q2 61 (fun _ => 0), arZ g q3 2 (fun _ => 0), arI g q4 61 (fun _ => 0), arI g q5 160 (fun _ => 0), arI g q6 5 (fun _ => 0)]) H _ := w
  refine lv_aload_n C.1 C.2.1 (dk_at dkX6_init 26 rfl) rfl (lv_at hl 0 rfl) ?_
  refine lv_iconst (v := 5) C.1 C.2.1 (dk_at dkX6_init 27 rfl) (by decide) ?_
  refine r_newI (N' := 5) C hK w hA (List.mem_cons_of_mem _ (inr2 _ (List.mem_of_getElem? (i := 1) rfl))) (by decide) (by decide) (by decide) (Nat.le_of_ble_eq_true rfl) (Nat.le_of_ble_eq_true rfl) (dk_at dkX6_init 28 rfl) (fun q7 H w => ?_)
  have w : Wd g A Z.heap ([(b0, .inr (5, [.ref q1, .ref q2, .ref q3, .int 0, .ref q4, .int 0, .int 0, .int 0, .ref q5, .int 0, .int 0, .int 0, .int 0, .int 0, .int 0, .int 0, .ref q6, .null, .null, .null, .null, .null, .long 0, .long 0, .long 0, .null, .null, .null, .null, .null, .int 0, .null])), arI g q1 183 (fun _ => 0), arI g q2 61 (fun _ => 0), arZ g q3 2 (fun _ => 0), arI g q4 61 (fun _ => 0), arI g q5 160 (fun _ => 0), arI g q6 5 (fun _ => 0), arI g q7 5 (fun _ => 0)]) H _ := w
  refine r_putF (v := .ref q7) C hin hK w (fun w h => List.mem_cons_of_mem _ (inlX6 w h)) tyX6 tyX6_ok nmX6 0 rfl rfl 17 (by decide) (List.mem_cons_of_mem _ (inr4 _ (List.mem_of_getElem? (i := 10) rfl))) rfl rfl rfl rfl (Nat.le_of_ble_eq_true rfl) (dk_at dkX6_init 29 rfl) (fun H locs w => ?_)
  have w : Wd g A Z.heap ([(b0, .inr (5, [.ref q1, .ref q2, .ref q3, .int 0, .ref q4, .int 0, .int 0, .int 0, .ref q5, .int 0, .int 0, .int 0, .int 0, .int 0, .int 0, .int 0, .ref q6, .ref q7, .null, .null, .null, .null, .long 0, .long 0, .long 0, .null, .null, .null, .null, .null, .int 0, .null])), arI g q1 183 (fun _ => 0), arI g q2 61 (fun _ => 0), arZ g q3 2 (fun _ => 0), arI g q4 61 (fun _ => 0), arI g q5 160 (fun _ => 0), arI g q6 5 (fun _ => 0), arI g q7 5 (fun _ => 0)]) H _ := w
  refine lv_aload_n C.1 C.2.1 (dk_at dkX6_init 30 rfl) rfl (lv_at hl 0 rfl) ?_
  refine lv_iconst (v := 5) C.1 C.2.1 (dk_at dkX6_init 31 rfl) (by decide) ?_
  refine r_newI (N' := 5) C hK w hA (List.mem_cons_of_mem _ (inr2 _ (List.mem_of_getElem? (i := 1) rfl))) (by decide) (by decide) (by decide) (Nat.le_of_ble_eq_true rfl) (Nat.le_of_ble_eq_true rfl) (dk_at dkX6_init 32 rfl) (fun q8 H w => ?_)
  have w : Wd g A Z.heap ([(b0, .inr (5, [.ref q1, .ref q2, .ref q3, .int 0, .ref q4, .int 0, .int 0, .int 0, .ref q5, .int 0, .int 0, .int 0, .int 0, .int 0, .int 0, .int 0, .ref q6, .ref q7, .null, .null, .null, .null, .long 0, .long 0, .long 0, .null, .null, .null, .null, .null, .int 0, .null])), arI g q1 183 (fun _ => 0), arI g q2 61 (fun _ => 0), arZ g q3 2 (fun _ => 0), arI g q4 61 (fun _ => 0), arI g q5 160 (fun _ => 0), arI g q6 5 (fun _ => 0), arI g q7 5 (fun _ => 0), arI g q8 5 (fun _ => 0)]) H _ := w
  refine r_putF (v := .ref q8) C hin hK w (fun w h => List.mem_cons_of_mem _ (inlX6 w h)) tyX6 tyX6_ok nmX6 0 rfl rfl 18 (by decide) (List.mem_cons_of_mem _ (inr4 _ (List.mem_of_getElem? (i := 11) rfl))) rfl rfl rfl rfl (Nat.le_of_ble_eq_true rfl) (dk_at dkX6_init 33 rfl) (fun H locs w => ?_)
  have w : Wd g A Z.heap ([(b0, .inr (5, [.ref q1, .ref q2, .ref q3, .int 0, .ref q4, .int 0, .int 0, .int 0, .ref q5, .int 0, .int 0, .int 0, .int 0, .int 0, .int 0, .int 0, .ref q6, .ref q7, .ref q8, .null, .null, .null, .long 0, .long 0, .long 0, .null, .null, .null, .null, .null, .int 0, .null])), arI g q1 183 (fun _ => 0), arI g q2 61 (fun _ => 0), arZ g q3 2 (fun _ => 0), arI g q4 61 (fun _ => 0), arI g q5 160 (fun _ => 0), arI g q6 5 (fun _ => 0), arI g q7 5 (fun _ => 0), arI g q8 5 (fun _ => 0)]) H _ := w
  refine lv_aload_n C.1 C.2.1 (dk_at dkX6_init 34 rfl) rfl (lv_at hl 0 rfl) ?_
  refine lv_bipush (v := 80) C.1 C.2.1 (dk_at dkX6_init 35 rfl) (by decide) ?_
  refine r_newZ (N' := 80) C hK w hA (List.mem_cons_of_mem _ (inr2 _ (List.mem_of_getElem? (i := 4) rfl))) (by decide) (by decide) (by decide) (Nat.le_of_ble_eq_true rfl) (Nat.le_of_ble_eq_true rfl) (dk_at dkX6_init 36 rfl) (fun q9 H w => ?_)
  have w : Wd g A Z.heap ([(b0, .inr (5, [.ref q1, .ref q2, .ref q3, .int 0, .ref q4, .int 0, .int 0, .int 0, .ref q5, .int 0, .int 0, .int 0, .int 0, .int 0, .int 0, .int 0, .ref q6, .ref q7, .ref q8, .null, .null, .null, .long 0, .long 0, .long 0, .null, .null, .null, .null, .null, .int 0, .null])), arI g q1 183 (fun _ => 0), arI g q2 61 (fun _ => 0), arZ g q3 2 (fun _ => 0), arI g q4 61 (fun _ => 0), arI g q5 160 (fun _ => 0), arI g q6 5 (fun _ => 0), arI g q7 5 (fun _ => 0), arI g q8 5 (fun _ => 0), arZ g q9 80 (fun _ => 0)]) H _ := w
  refine r_putF (v := .ref q9) C hin hK w (fun w h => List.mem_cons_of_mem _ (inlX6 w h)) tyX6 tyX6_ok nmX6 0 rfl rfl 19 (by decide) (List.mem_cons_of_mem _ (inr4 _ (List.mem_of_getElem? (i := 12) rfl))) rfl rfl rfl rfl (Nat.le_of_ble_eq_true rfl) (dk_at dkX6_init 37 rfl) (fun H locs w => ?_)
  have w : Wd g A Z.heap ([(b0, .inr (5, [.ref q1, .ref q2, .ref q3, .int 0, .ref q4, .int 0, .int 0, .int 0, .ref q5, .int 0, .int 0, .int 0, .int 0, .int 0, .int 0, .int 0, .ref q6, .ref q7, .ref q8, .ref q9, .null, .null, .long 0, .long 0, .long 0, .null, .null, .null, .null, .null, .int 0, .null])), arI g q1 183 (fun _ => 0), arI g q2 61 (fun _ => 0), arZ g q3 2 (fun _ => 0), arI g q4 61 (fun _ => 0), arI g q5 160 (fun _ => 0), arI g q6 5 (fun _ => 0), arI g q7 5 (fun _ => 0), arI g q8 5 (fun _ => 0), arZ g q9 80 (fun _ => 0)]) H _ := w
  refine lv_aload_n C.1 C.2.1 (dk_at dkX6_init 38 rfl) rfl (lv_at hl 0 rfl) ?_
  refine lv_bipush (v := 80) C.1 C.2.1 (dk_at dkX6_init 39 rfl) (by decide) ?_
  refine r_newZ (N' := 80) C hK w hA (List.mem_cons_of_mem _ (inr2 _ (List.mem_of_getElem? (i := 4) rfl))) (by decide) (by decide) (by decide) (Nat.le_of_ble_eq_true rfl) (Nat.le_of_ble_eq_true rfl) (dk_at dkX6_init 40 rfl) (fun q10 H w => ?_)
  have w : Wd g A Z.heap ([(b0, .inr (5, [.ref q1, .ref q2, .ref q3, .int 0, .ref q4, .int 0, .int 0, .int 0, .ref q5, .int 0, .int 0, .int 0, .int 0, .int 0, .int 0, .int 0, .ref q6, .ref q7, .ref q8, .ref q9, .null, .null, .long 0, .long 0, .long 0, .null, .null, .null, .null, .null, .int 0, .null])), arI g q1 183 (fun _ => 0), arI g q2 61 (fun _ => 0), arZ g q3 2 (fun _ => 0), arI g q4 61 (fun _ => 0), arI g q5 160 (fun _ => 0), arI g q6 5 (fun _ => 0), arI g q7 5 (fun _ => 0), arI g q8 5 (fun _ => 0), arZ g q9 80 (fun _ => 0), arZ g q10 80 (fun _ => 0)]) H _ := w
  refine r_putF (v := .ref q10) C hin hK w (fun w h => List.mem_cons_of_mem _ (inlX6 w h)) tyX6 tyX6_ok nmX6 0 rfl rfl 20 (by decide) (List.mem_cons_of_mem _ (inr4 _ (List.mem_of_getElem? (i := 13) rfl))) rfl rfl rfl rfl (Nat.le_of_ble_eq_true rfl) (dk_at dkX6_init 41 rfl) (fun H locs w => ?_)
  have w : Wd g A Z.heap ([(b0, .inr (5, [.ref q1, .ref q2, .ref q3, .int 0, .ref q4, .int 0, .int 0, .int 0, .ref q5, .int 0, .int 0, .int 0, .int 0, .int 0, .int 0, .int 0, .ref q6, .ref q7, .ref q8, .ref q9, .ref q10, .null, .long 0, .long 0, .long 0, .null, .null, .null, .null, .null, .int 0, .null])), arI g q1 183 (fun _ => 0), arI g q2 61 (fun _ => 0), arZ g q3 2 (fun _ => 0), arI g q4 61 (fun _ => 0), arI g q5 160 (fun _ => 0), arI g q6 5 (fun _ => 0), arI g q7 5 (fun _ => 0), arI g q8 5 (fun _ => 0), arZ g q9 80 (fun _ => 0), arZ g q10 80 (fun _ => 0)]) H _ := w
  refine lv_aload_n C.1 C.2.1 (dk_at dkX6_init 42 rfl) rfl (lv_at hl 0 rfl) ?_
  refine lv_bipush (v := 80) C.1 C.2.1 (dk_at dkX6_init 43 rfl) (by decide) ?_
  refine r_newZ (N' := 80) C hK w hA (List.mem_cons_of_mem _ (inr2 _ (List.mem_of_getElem? (i := 4) rfl))) (by decide) (by decide) (by decide) (Nat.le_of_ble_eq_true rfl) (Nat.le_of_ble_eq_true rfl) (dk_at dkX6_init 44 rfl) (fun q11 H w => ?_)
  have w : Wd g A Z.heap ([(b0, .inr (5, [.ref q1, .ref q2, .ref q3, .int 0, .ref q4, .int 0, .int 0, .int 0, .ref q5, .int 0, .int 0, .int 0, .int 0, .int 0, .int 0, .int 0, .ref q6, .ref q7, .ref q8, .ref q9, .ref q10, .null, .long 0, .long 0, .long 0, .null, .null, .null, .null, .null, .int 0, .null])), arI g q1 183 (fun _ => 0), arI g q2 61 (fun _ => 0), arZ g q3 2 (fun _ => 0), arI g q4 61 (fun _ => 0), arI g q5 160 (fun _ => 0), arI g q6 5 (fun _ => 0), arI g q7 5 (fun _ => 0), arI g q8 5 (fun _ => 0), arZ g q9 80 (fun _ => 0), arZ g q10 80 (fun _ => 0), arZ g q11 80 (fun _ => 0)]) H _ := w
  refine r_putF (v := .ref q11) C hin hK w (fun w h => List.mem_cons_of_mem _ (inlX6 w h)) tyX6 tyX6_ok nmX6 0 rfl rfl 21 (by decide) (List.mem_cons_of_mem _ (inr4 _ (List.mem_of_getElem? (i := 14) rfl))) rfl rfl rfl rfl (Nat.le_of_ble_eq_true rfl) (dk_at dkX6_init 45 rfl) (fun H locs w => ?_)
  have w : Wd g A Z.heap ([(b0, .inr (5, [.ref q1, .ref q2, .ref q3, .int 0, .ref q4, .int 0, .int 0, .int 0, .ref q5, .int 0, .int 0, .int 0, .int 0, .int 0, .int 0, .int 0, .ref q6, .ref q7, .ref q8, .ref q9, .ref q10, .ref q11, .long 0, .long 0, .long 0, .null, .null, .null, .null, .null, .int 0, .null])), arI g q1 183 (fun _ => 0), arI g q2 61 (fun _ => 0), arZ g q3 2 (fun _ => 0), arI g q4 61 (fun _ => 0), arI g q5 160 (fun _ => 0), arI g q6 5 (fun _ => 0), arI g q7 5 (fun _ => 0), arI g q8 5 (fun _ => 0), arZ g q9 80 (fun _ => 0), arZ g q10 80 (fun _ => 0), arZ g q11 80 (fun _ => 0)]) H _ := w
  refine lv_aload_n C.1 C.2.1 (dk_at dkX6_init 46 rfl) rfl (lv_at hl 0 rfl) ?_
  refine lv_sipush (v := 400) C.1 C.2.1 (dk_at dkX6_init 47 rfl) (by decide) ?_
  refine r_newI (N' := 400) C hK w hA (List.mem_cons_of_mem _ (inr2 _ (List.mem_of_getElem? (i := 1) rfl))) (by decide) (by decide) (by decide) (Nat.le_of_ble_eq_true rfl) (Nat.le_of_ble_eq_true rfl) (dk_at dkX6_init 48 rfl) (fun q12 H w => ?_)
  have w : Wd g A Z.heap ([(b0, .inr (5, [.ref q1, .ref q2, .ref q3, .int 0, .ref q4, .int 0, .int 0, .int 0, .ref q5, .int 0, .int 0, .int 0, .int 0, .int 0, .int 0, .int 0, .ref q6, .ref q7, .ref q8, .ref q9, .ref q10, .ref q11, .long 0, .long 0, .long 0, .null, .null, .null, .null, .null, .int 0, .null])), arI g q1 183 (fun _ => 0), arI g q2 61 (fun _ => 0), arZ g q3 2 (fun _ => 0), arI g q4 61 (fun _ => 0), arI g q5 160 (fun _ => 0), arI g q6 5 (fun _ => 0), arI g q7 5 (fun _ => 0), arI g q8 5 (fun _ => 0), arZ g q9 80 (fun _ => 0), arZ g q10 80 (fun _ => 0), arZ g q11 80 (fun _ => 0), arI g q12 400 (fun _ => 0)]) H _ := w
  refine r_putF (v := .ref q12) C hin hK w (fun w h => List.mem_cons_of_mem _ (inlX6 w h)) tyX6 tyX6_ok nmX6 0 rfl rfl 25 (by decide) (List.mem_cons_of_mem _ (inr4 _ (List.mem_of_getElem? (i := 15) rfl))) rfl rfl rfl rfl (Nat.le_of_ble_eq_true rfl) (dk_at dkX6_init 49 rfl) (fun H locs w => ?_)
  have w : Wd g A Z.heap ([(b0, .inr (5, [.ref q1, .ref q2, .ref q3, .int 0, .ref q4, .int 0, .int 0, .int 0, .ref q5, .int 0, .int 0, .int 0, .int 0, .int 0, .int 0, .int 0, .ref q6, .ref q7, .ref q8, .ref q9, .ref q10, .ref q11, .long 0, .long 0, .long 0, .ref q12, .null, .null, .null, .null, .int 0, .null])), arI g q1 183 (fun _ => 0), arI g q2 61 (fun _ => 0), arZ g q3 2 (fun _ => 0), arI g q4 61 (fun _ => 0), arI g q5 160 (fun _ => 0), arI g q6 5 (fun _ => 0), arI g q7 5 (fun _ => 0), arI g q8 5 (fun _ => 0), arZ g q9 80 (fun _ => 0), arZ g q10 80 (fun _ => 0), arZ g q11 80 (fun _ => 0), arI g q12 400 (fun _ => 0)]) H _ := w
  refine lv_aload_n C.1 C.2.1 (dk_at dkX6_init 50 rfl) rfl (lv_at hl 0 rfl) ?_
  refine lv_bipush (v := 10) C.1 C.2.1 (dk_at dkX6_init 51 rfl) (by decide) ?_
  refine r_newI (N' := 10) C hK w hA (List.mem_cons_of_mem _ (inr2 _ (List.mem_of_getElem? (i := 1) rfl))) (by decide) (by decide) (by decide) (Nat.le_of_ble_eq_true rfl) (Nat.le_of_ble_eq_true rfl) (dk_at dkX6_init 52 rfl) (fun q13 H w => ?_)
  have w : Wd g A Z.heap ([(b0, .inr (5, [.ref q1, .ref q2, .ref q3, .int 0, .ref q4, .int 0, .int 0, .int 0, .ref q5, .int 0, .int 0, .int 0, .int 0, .int 0, .int 0, .int 0, .ref q6, .ref q7, .ref q8, .ref q9, .ref q10, .ref q11, .long 0, .long 0, .long 0, .ref q12, .null, .null, .null, .null, .int 0, .null])), arI g q1 183 (fun _ => 0), arI g q2 61 (fun _ => 0), arZ g q3 2 (fun _ => 0), arI g q4 61 (fun _ => 0), arI g q5 160 (fun _ => 0), arI g q6 5 (fun _ => 0), arI g q7 5 (fun _ => 0), arI g q8 5 (fun _ => 0), arZ g q9 80 (fun _ => 0), arZ g q10 80 (fun _ => 0), arZ g q11 80 (fun _ => 0), arI g q12 400 (fun _ => 0), arI g q13 10 (fun _ => 0)]) H _ := w
  refine r_putF (v := .ref q13) C hin hK w (fun w h => List.mem_cons_of_mem _ (inlX6 w h)) tyX6 tyX6_ok nmX6 0 rfl rfl 26 (by decide) (List.mem_cons_of_mem _ (inr4 _ (List.mem_of_getElem? (i := 16) rfl))) rfl rfl rfl rfl (Nat.le_of_ble_eq_true rfl) (dk_at dkX6_init 53 rfl) (fun H locs w => ?_)
  have w : Wd g A Z.heap ([(b0, .inr (5, [.ref q1, .ref q2, .ref q3, .int 0, .ref q4, .int 0, .int 0, .int 0, .ref q5, .int 0, .int 0, .int 0, .int 0, .int 0, .int 0, .int 0, .ref q6, .ref q7, .ref q8, .ref q9, .ref q10, .ref q11, .long 0, .long 0, .long 0, .ref q12, .ref q13, .null, .null, .null, .int 0, .null])), arI g q1 183 (fun _ => 0), arI g q2 61 (fun _ => 0), arZ g q3 2 (fun _ => 0), arI g q4 61 (fun _ => 0), arI g q5 160 (fun _ => 0), arI g q6 5 (fun _ => 0), arI g q7 5 (fun _ => 0), arI g q8 5 (fun _ => 0), arZ g q9 80 (fun _ => 0), arZ g q10 80 (fun _ => 0), arZ g q11 80 (fun _ => 0), arI g q12 400 (fun _ => 0), arI g q13 10 (fun _ => 0)]) H _ := w
  refine lv_aload_n C.1 C.2.1 (dk_at dkX6_init 54 rfl) rfl (lv_at hl 0 rfl) ?_
  refine lv_iconst (v := 4) C.1 C.2.1 (dk_at dkX6_init 55 rfl) (by decide) ?_
  refine r_newI (N' := 4) C hK w hA (List.mem_cons_of_mem _ (inr2 _ (List.mem_of_getElem? (i := 1) rfl))) (by decide) (by decide) (by decide) (Nat.le_of_ble_eq_true rfl) (Nat.le_of_ble_eq_true rfl) (dk_at dkX6_init 56 rfl) (fun q14 H w => ?_)
  have w : Wd g A Z.heap ([(b0, .inr (5, [.ref q1, .ref q2, .ref q3, .int 0, .ref q4, .int 0, .int 0, .int 0, .ref q5, .int 0, .int 0, .int 0, .int 0, .int 0, .int 0, .int 0, .ref q6, .ref q7, .ref q8, .ref q9, .ref q10, .ref q11, .long 0, .long 0, .long 0, .ref q12, .ref q13, .null, .null, .null, .int 0, .null])), arI g q1 183 (fun _ => 0), arI g q2 61 (fun _ => 0), arZ g q3 2 (fun _ => 0), arI g q4 61 (fun _ => 0), arI g q5 160 (fun _ => 0), arI g q6 5 (fun _ => 0), arI g q7 5 (fun _ => 0), arI g q8 5 (fun _ => 0), arZ g q9 80 (fun _ => 0), arZ g q10 80 (fun _ => 0), arZ g q11 80 (fun _ => 0), arI g q12 400 (fun _ => 0), arI g q13 10 (fun _ => 0), arI g q14 4 (fun _ => 0)]) H _ := w
  refine r_putF (v := .ref q14) C hin hK w (fun w h => List.mem_cons_of_mem _ (inlX6 w h)) tyX6 tyX6_ok nmX6 0 rfl rfl 27 (by decide) (List.mem_cons_of_mem _ (inr4 _ (List.mem_of_getElem? (i := 17) rfl))) rfl rfl rfl rfl (Nat.le_of_ble_eq_true rfl) (dk_at dkX6_init 57 rfl) (fun H locs w => ?_)
  have w : Wd g A Z.heap ([(b0, .inr (5, [.ref q1, .ref q2, .ref q3, .int 0, .ref q4, .int 0, .int 0, .int 0, .ref q5, .int 0, .int 0, .int 0, .int 0, .int 0, .int 0, .int 0, .ref q6, .ref q7, .ref q8, .ref q9, .ref q10, .ref q11, .long 0, .long 0, .long 0, .ref q12, .ref q13, .ref q14, .null, .null, .int 0, .null])), arI g q1 183 (fun _ => 0), arI g q2 61 (fun _ => 0), arZ g q3 2 (fun _ => 0), arI g q4 61 (fun _ => 0), arI g q5 160 (fun _ => 0), arI g q6 5 (fun _ => 0), arI g q7 5 (fun _ => 0), arI g q8 5 (fun _ => 0), arZ g q9 80 (fun _ => 0), arZ g q10 80 (fun _ => 0), arZ g q11 80 (fun _ => 0), arI g q12 400 (fun _ => 0), arI g q13 10 (fun _ => 0), arI g q14 4 (fun _ => 0)]) H _ := w
  refine lv_aload_n C.1 C.2.1 (dk_at dkX6_init 58 rfl) rfl (lv_at hl 0 rfl) ?_
  refine lv_iconst (v := 4) C.1 C.2.1 (dk_at dkX6_init 59 rfl) (by decide) ?_
  refine r_newI (N' := 4) C hK w hA (List.mem_cons_of_mem _ (inr2 _ (List.mem_of_getElem? (i := 1) rfl))) (by decide) (by decide) (by decide) (Nat.le_of_ble_eq_true rfl) (Nat.le_of_ble_eq_true rfl) (dk_at dkX6_init 60 rfl) (fun q15 H w => ?_)
  have w : Wd g A Z.heap ([(b0, .inr (5, [.ref q1, .ref q2, .ref q3, .int 0, .ref q4, .int 0, .int 0, .int 0, .ref q5, .int 0, .int 0, .int 0, .int 0, .int 0, .int 0, .int 0, .ref q6, .ref q7, .ref q8, .ref q9, .ref q10, .ref q11, .long 0, .long 0, .long 0, .ref q12, .ref q13, .ref q14, .null, .null, .int 0, .null])), arI g q1 183 (fun _ => 0), arI g q2 61 (fun _ => 0), arZ g q3 2 (fun _ => 0), arI g q4 61 (fun _ => 0), arI g q5 160 (fun _ => 0), arI g q6 5 (fun _ => 0), arI g q7 5 (fun _ => 0), arI g q8 5 (fun _ => 0), arZ g q9 80 (fun _ => 0), arZ g q10 80 (fun _ => 0), arZ g q11 80 (fun _ => 0), arI g q12 400 (fun _ => 0), arI g q13 10 (fun _ => 0), arI g q14 4 (fun _ => 0), arI g q15 4 (fun _ => 0)]) H _ := w
  refine r_putF (v := .ref q15) C hin hK w (fun w h => List.mem_cons_of_mem _ (inlX6 w h)) tyX6 tyX6_ok nmX6 0 rfl rfl 28 (by decide) (List.mem_cons_of_mem _ (inr4 _ (List.mem_of_getElem? (i := 18) rfl))) rfl rfl rfl rfl (Nat.le_of_ble_eq_true rfl) (dk_at dkX6_init 61 rfl) (fun H locs w => ?_)
  have w : Wd g A Z.heap ([(b0, .inr (5, [.ref q1, .ref q2, .ref q3, .int 0, .ref q4, .int 0, .int 0, .int 0, .ref q5, .int 0, .int 0, .int 0, .int 0, .int 0, .int 0, .int 0, .ref q6, .ref q7, .ref q8, .ref q9, .ref q10, .ref q11, .long 0, .long 0, .long 0, .ref q12, .ref q13, .ref q14, .ref q15, .null, .int 0, .null])), arI g q1 183 (fun _ => 0), arI g q2 61 (fun _ => 0), arZ g q3 2 (fun _ => 0), arI g q4 61 (fun _ => 0), arI g q5 160 (fun _ => 0), arI g q6 5 (fun _ => 0), arI g q7 5 (fun _ => 0), arI g q8 5 (fun _ => 0), arZ g q9 80 (fun _ => 0), arZ g q10 80 (fun _ => 0), arZ g q11 80 (fun _ => 0), arI g q12 400 (fun _ => 0), arI g q13 10 (fun _ => 0), arI g q14 4 (fun _ => 0), arI g q15 4 (fun _ => 0)]) H _ := w
  refine lv_aload_n C.1 C.2.1 (dk_at dkX6_init 62 rfl) rfl (lv_at hl 0 rfl) ?_
  refine lv_sipush (v := 160) C.1 C.2.1 (dk_at dkX6_init 63 rfl) (by decide) ?_
  refine r_newI (N' := 160) C hK w hA (List.mem_cons_of_mem _ (inr2 _ (List.mem_of_getElem? (i := 1) rfl))) (by decide) (by decide) (by decide) (Nat.le_of_ble_eq_true rfl) (Nat.le_of_ble_eq_true rfl) (dk_at dkX6_init 64 rfl) (fun q16 H w => ?_)
  have w : Wd g A Z.heap ([(b0, .inr (5, [.ref q1, .ref q2, .ref q3, .int 0, .ref q4, .int 0, .int 0, .int 0, .ref q5, .int 0, .int 0, .int 0, .int 0, .int 0, .int 0, .int 0, .ref q6, .ref q7, .ref q8, .ref q9, .ref q10, .ref q11, .long 0, .long 0, .long 0, .ref q12, .ref q13, .ref q14, .ref q15, .null, .int 0, .null])), arI g q1 183 (fun _ => 0), arI g q2 61 (fun _ => 0), arZ g q3 2 (fun _ => 0), arI g q4 61 (fun _ => 0), arI g q5 160 (fun _ => 0), arI g q6 5 (fun _ => 0), arI g q7 5 (fun _ => 0), arI g q8 5 (fun _ => 0), arZ g q9 80 (fun _ => 0), arZ g q10 80 (fun _ => 0), arZ g q11 80 (fun _ => 0), arI g q12 400 (fun _ => 0), arI g q13 10 (fun _ => 0), arI g q14 4 (fun _ => 0), arI g q15 4 (fun _ => 0), arI g q16 160 (fun _ => 0)]) H _ := w
  refine r_putF (v := .ref q16) C hin hK w (fun w h => List.mem_cons_of_mem _ (inlX6 w h)) tyX6 tyX6_ok nmX6 0 rfl rfl 29 (by decide) (List.mem_cons_of_mem _ (inr4 _ (List.mem_of_getElem? (i := 19) rfl))) rfl rfl rfl rfl (Nat.le_of_ble_eq_true rfl) (dk_at dkX6_init 65 rfl) (fun H locs w => ?_)
  have w : Wd g A Z.heap ([(b0, .inr (5, [.ref q1, .ref q2, .ref q3, .int 0, .ref q4, .int 0, .int 0, .int 0, .ref q5, .int 0, .int 0, .int 0, .int 0, .int 0, .int 0, .int 0, .ref q6, .ref q7, .ref q8, .ref q9, .ref q10, .ref q11, .long 0, .long 0, .long 0, .ref q12, .ref q13, .ref q14, .ref q15, .ref q16, .int 0, .null])), arI g q1 183 (fun _ => 0), arI g q2 61 (fun _ => 0), arZ g q3 2 (fun _ => 0), arI g q4 61 (fun _ => 0), arI g q5 160 (fun _ => 0), arI g q6 5 (fun _ => 0), arI g q7 5 (fun _ => 0), arI g q8 5 (fun _ => 0), arZ g q9 80 (fun _ => 0), arZ g q10 80 (fun _ => 0), arZ g q11 80 (fun _ => 0), arI g q12 400 (fun _ => 0), arI g q13 10 (fun _ => 0), arI g q14 4 (fun _ => 0), arI g q15 4 (fun _ => 0), arI g q16 160 (fun _ => 0)]) H _ := w
  refine lv_aload_n C.1 C.2.1 (dk_at dkX6_init 66 rfl) rfl (lv_at hl 0 rfl) ?_
  refine lv_bipush (v := 61) C.1 C.2.1 (dk_at dkX6_init 67 rfl) (by decide) ?_
  refine r_newI (N' := 61) C hK w hA (List.mem_cons_of_mem _ (inr2 _ (List.mem_of_getElem? (i := 1) rfl))) (by decide) (by decide) (by decide) (Nat.le_of_ble_eq_true rfl) (Nat.le_of_ble_eq_true rfl) (dk_at dkX6_init 68 rfl) (fun q17 H w => ?_)
  have w : Wd g A Z.heap ([(b0, .inr (5, [.ref q1, .ref q2, .ref q3, .int 0, .ref q4, .int 0, .int 0, .int 0, .ref q5, .int 0, .int 0, .int 0, .int 0, .int 0, .int 0, .int 0, .ref q6, .ref q7, .ref q8, .ref q9, .ref q10, .ref q11, .long 0, .long 0, .long 0, .ref q12, .ref q13, .ref q14, .ref q15, .ref q16, .int 0, .null])), arI g q1 183 (fun _ => 0), arI g q2 61 (fun _ => 0), arZ g q3 2 (fun _ => 0), arI g q4 61 (fun _ => 0), arI g q5 160 (fun _ => 0), arI g q6 5 (fun _ => 0), arI g q7 5 (fun _ => 0), arI g q8 5 (fun _ => 0), arZ g q9 80 (fun _ => 0), arZ g q10 80 (fun _ => 0), arZ g q11 80 (fun _ => 0), arI g q12 400 (fun _ => 0), arI g q13 10 (fun _ => 0), arI g q14 4 (fun _ => 0), arI g q15 4 (fun _ => 0), arI g q16 160 (fun _ => 0), arI g q17 61 (fun _ => 0)]) H _ := w
  refine r_putF (v := .ref q17) C hin hK w (fun w h => List.mem_cons_of_mem _ (inlX6 w h)) tyX6 tyX6_ok nmX6 0 rfl rfl 31 (by decide) (List.mem_cons_of_mem _ (inr4 _ (List.mem_of_getElem? (i := 20) rfl))) rfl rfl rfl rfl (Nat.le_of_ble_eq_true rfl) (dk_at dkX6_init 69 rfl) (fun H locs w => ?_)
  have w : Wd g A Z.heap ([(b0, .inr (5, [.ref q1, .ref q2, .ref q3, .int 0, .ref q4, .int 0, .int 0, .int 0, .ref q5, .int 0, .int 0, .int 0, .int 0, .int 0, .int 0, .int 0, .ref q6, .ref q7, .ref q8, .ref q9, .ref q10, .ref q11, .long 0, .long 0, .long 0, .ref q12, .ref q13, .ref q14, .ref q15, .ref q16, .int 0, .ref q17])), arI g q1 183 (fun _ => 0), arI g q2 61 (fun _ => 0), arZ g q3 2 (fun _ => 0), arI g q4 61 (fun _ => 0), arI g q5 160 (fun _ => 0), arI g q6 5 (fun _ => 0), arI g q7 5 (fun _ => 0), arI g q8 5 (fun _ => 0), arZ g q9 80 (fun _ => 0), arZ g q10 80 (fun _ => 0), arZ g q11 80 (fun _ => 0), arI g q12 400 (fun _ => 0), arI g q13 10 (fun _ => 0), arI g q14 4 (fun _ => 0), arI g q15 4 (fun _ => 0), arI g q16 160 (fun _ => 0), arI g q17 61 (fun _ => 0)]) H _ := w
  refine lv_iconst (v := 0) C.1 C.2.1 (dk_at dkX6_init 70 rfl) (by decide) ?_
  refine lv_istore_n (lv' := [(1, .int 0), (0, .ref b0)]) C.1 C.2.1 (dk_at dkX6_init 71 rfl) rfl hl (by decide) rfl (fun ls hl => ?_)
  refine lv_iload_n C.1 C.2.1 (dk_at dkX6_init 72 rfl) rfl (lv_at hl 0 rfl) ?_
  refine lv_iconst (v := 4) C.1 C.2.1 (dk_at dkX6_init 73 rfl) (by decide) ?_
  refine lv_icmp_ge (tgt := 159) C.1 C.2.1 (dk_at dkX6_init 74 rfl) (by decide) (fun c1 => absurd c1 (by decide)) (fun _ => ?_)
  refine lv_aload_n C.1 C.2.1 (dk_at dkX6_init 75 rfl) rfl (lv_at hl 1 rfl) ?_
  refine r_get (v := .ref q14) C hK w.1 (fun w h => List.mem_cons_of_mem _ (inlX6 w h)) 0 rfl rfl 27 (by decide) (List.mem_cons_of_mem _ (inr4 _ (List.mem_of_getElem? (i := 17) rfl))) rfl (dk_at dkX6_init 76 rfl) ?_
  refine lv_iload_n C.1 C.2.1 (dk_at dkX6_init 77 rfl) rfl (lv_at hl 0 rfl) ?_
  refine lv_bipush (v := (-4)) C.1 C.2.1 (dk_at dkX6_init 78 rfl) (by decide) ?_
  refine r_iast (k := 0) (f := (fun _ => 0)) C hK w 14 rfl (in_c (by decide)) (by decide) (dk_at dkX6_init 79 rfl) (fun H locs w => ?_)
  have w : Wd g A Z.heap ([(b0, .inr (5, [.ref q1, .ref q2, .ref q3, .int 0, .ref q4, .int 0, .int 0, .int 0, .ref q5, .int 0, .int 0, .int 0, .int 0, .int 0, .int 0, .int 0, .ref q6, .ref q7, .ref q8, .ref q9, .ref q10, .ref q11, .long 0, .long 0, .long 0, .ref q12, .ref q13, .ref q14, .ref q15, .ref q16, .int 0, .ref q17])), arI g q1 183 (fun _ => 0), arI g q2 61 (fun _ => 0), arZ g q3 2 (fun _ => 0), arI g q4 61 (fun _ => 0), arI g q5 160 (fun _ => 0), arI g q6 5 (fun _ => 0), arI g q7 5 (fun _ => 0), arI g q8 5 (fun _ => 0), arZ g q9 80 (fun _ => 0), arZ g q10 80 (fun _ => 0), arZ g q11 80 (fun _ => 0), arI g q12 400 (fun _ => 0), arI g q13 10 (fun _ => 0), arI g q14 4 (upd (fun _ => 0) 0 (-4)), arI g q15 4 (fun _ => 0), arI g q16 160 (fun _ => 0), arI g q17 61 (fun _ => 0)]) H _ := w
  refine lv_iinc (v := 1) (lv' := [(1, .int 1), (0, .ref b0)]) C.1 C.2.1 (dk_at dkX6_init 80 rfl) hl (k := 0) rfl (by decide) (by decide) rfl (fun ls hl => ?_)
  refine lv_goto (tgt := 140) C.1 C.2.1 (dk_at dkX6_init 81 rfl) (by decide) ?_
  refine lv_iload_n C.1 C.2.1 (dk_at dkX6_init 72 rfl) rfl (lv_at hl 0 rfl) ?_
  refine lv_iconst (v := 4) C.1 C.2.1 (dk_at dkX6_init 73 rfl) (by decide) ?_
  refine lv_icmp_ge (tgt := 159) C.1 C.2.1 (dk_at dkX6_init 74 rfl) (by decide) (fun c1 => absurd c1 (by decide)) (fun _ => ?_)
  refine lv_aload_n C.1 C.2.1 (dk_at dkX6_init 75 rfl) rfl (lv_at hl 1 rfl) ?_
  refine r_get (v := .ref q14) C hK w.1 (fun w h => List.mem_cons_of_mem _ (inlX6 w h)) 0 rfl rfl 27 (by decide) (List.mem_cons_of_mem _ (inr4 _ (List.mem_of_getElem? (i := 17) rfl))) rfl (dk_at dkX6_init 76 rfl) ?_
  refine lv_iload_n C.1 C.2.1 (dk_at dkX6_init 77 rfl) rfl (lv_at hl 0 rfl) ?_
  refine lv_bipush (v := (-4)) C.1 C.2.1 (dk_at dkX6_init 78 rfl) (by decide) ?_
  refine r_iast (k := 1) (f := (upd (fun _ => 0) 0 (-4))) C hK w 14 rfl (in_c (by decide)) (by decide) (dk_at dkX6_init 79 rfl) (fun H locs w => ?_)
  have w : Wd g A Z.heap ([(b0, .inr (5, [.ref q1, .ref q2, .ref q3, .int 0, .ref q4, .int 0, .int 0, .int 0, .ref q5, .int 0, .int 0, .int 0, .int 0, .int 0, .int 0, .int 0, .ref q6, .ref q7, .ref q8, .ref q9, .ref q10, .ref q11, .long 0, .long 0, .long 0, .ref q12, .ref q13, .ref q14, .ref q15, .ref q16, .int 0, .ref q17])), arI g q1 183 (fun _ => 0), arI g q2 61 (fun _ => 0), arZ g q3 2 (fun _ => 0), arI g q4 61 (fun _ => 0), arI g q5 160 (fun _ => 0), arI g q6 5 (fun _ => 0), arI g q7 5 (fun _ => 0), arI g q8 5 (fun _ => 0), arZ g q9 80 (fun _ => 0), arZ g q10 80 (fun _ => 0), arZ g q11 80 (fun _ => 0), arI g q12 400 (fun _ => 0), arI g q13 10 (fun _ => 0), arI g q14 4 (upd (upd (fun _ => 0) 0 (-4)) 1 (-4)), arI g q15 4 (fun _ => 0), arI g q16 160 (fun _ => 0), arI g q17 61 (fun _ => 0)]) H _ := w
  refine lv_iinc (v := 2) (lv' := [(1, .int 2), (0, .ref b0)]) C.1 C.2.1 (dk_at dkX6_init 80 rfl) hl (k := 0) rfl (by decide) (by decide) rfl (fun ls hl => ?_)
  refine lv_goto (tgt := 140) C.1 C.2.1 (dk_at dkX6_init 81 rfl) (by decide) ?_
  refine lv_iload_n C.1 C.2.1 (dk_at dkX6_init 72 rfl) rfl (lv_at hl 0 rfl) ?_
  refine lv_iconst (v := 4) C.1 C.2.1 (dk_at dkX6_init 73 rfl) (by decide) ?_
  refine lv_icmp_ge (tgt := 159) C.1 C.2.1 (dk_at dkX6_init 74 rfl) (by decide) (fun c1 => absurd c1 (by decide)) (fun _ => ?_)
  refine lv_aload_n C.1 C.2.1 (dk_at dkX6_init 75 rfl) rfl (lv_at hl 1 rfl) ?_
  refine r_get (v := .ref q14) C hK w.1 (fun w h => List.mem_cons_of_mem _ (inlX6 w h)) 0 rfl rfl 27 (by decide) (List.mem_cons_of_mem _ (inr4 _ (List.mem_of_getElem? (i := 17) rfl))) rfl (dk_at dkX6_init 76 rfl) ?_
  refine lv_iload_n C.1 C.2.1 (dk_at dkX6_init 77 rfl) rfl (lv_at hl 0 rfl) ?_
  refine lv_bipush (v := (-4)) C.1 C.2.1 (dk_at dkX6_init 78 rfl) (by decide) ?_
  refine r_iast (k := 2) (f := (upd (upd (fun _ => 0) 0 (-4)) 1 (-4))) C hK w 14 rfl (in_c (by decide)) (by decide) (dk_at dkX6_init 79 rfl) (fun H locs w => ?_)
  have w : Wd g A Z.heap ([(b0, .inr (5, [.ref q1, .ref q2, .ref q3, .int 0, .ref q4, .int 0, .int 0, .int 0, .ref q5, .int 0, .int 0, .int 0, .int 0, .int 0, .int 0, .int 0, .ref q6, .ref q7, .ref q8, .ref q9, .ref q10, .ref q11, .long 0, .long 0, .long 0, .ref q12, .ref q13, .ref q14, .ref q15, .ref q16, .int 0, .ref q17])), arI g q1 183 (fun _ => 0), arI g q2 61 (fun _ => 0), arZ g q3 2 (fun _ => 0), arI g q4 61 (fun _ => 0), arI g q5 160 (fun _ => 0), arI g q6 5 (fun _ => 0), arI g q7 5 (fun _ => 0), arI g q8 5 (fun _ => 0), arZ g q9 80 (fun _ => 0), arZ g q10 80 (fun _ => 0), arZ g q11 80 (fun _ => 0), arI g q12 400 (fun _ => 0), arI g q13 10 (fun _ => 0), arI g q14 4 (upd (upd (upd (fun _ => 0) 0 (-4)) 1 (-4)) 2 (-4)), arI g q15 4 (fun _ => 0), arI g q16 160 (fun _ => 0), arI g q17 61 (fun _ => 0)]) H _ := w
  refine lv_iinc (v := 3) (lv' := [(1, .int 3), (0, .ref b0)]) C.1 C.2.1 (dk_at dkX6_init 80 rfl) hl (k := 0) rfl (by decide) (by decide) rfl (fun ls hl => ?_)
  refine lv_goto (tgt := 140) C.1 C.2.1 (dk_at dkX6_init 81 rfl) (by decide) ?_
  refine lv_iload_n C.1 C.2.1 (dk_at dkX6_init 72 rfl) rfl (lv_at hl 0 rfl) ?_
  refine lv_iconst (v := 4) C.1 C.2.1 (dk_at dkX6_init 73 rfl) (by decide) ?_
  refine lv_icmp_ge (tgt := 159) C.1 C.2.1 (dk_at dkX6_init 74 rfl) (by decide) (fun c1 => absurd c1 (by decide)) (fun _ => ?_)
  refine lv_aload_n C.1 C.2.1 (dk_at dkX6_init 75 rfl) rfl (lv_at hl 1 rfl) ?_
  refine r_get (v := .ref q14) C hK w.1 (fun w h => List.mem_cons_of_mem _ (inlX6 w h)) 0 rfl rfl 27 (by decide) (List.mem_cons_of_mem _ (inr4 _ (List.mem_of_getElem? (i := 17) rfl))) rfl (dk_at dkX6_init 76 rfl) ?_
  refine lv_iload_n C.1 C.2.1 (dk_at dkX6_init 77 rfl) rfl (lv_at hl 0 rfl) ?_
  refine lv_bipush (v := (-4)) C.1 C.2.1 (dk_at dkX6_init 78 rfl) (by decide) ?_
  refine r_iast (k := 3) (f := (upd (upd (upd (fun _ => 0) 0 (-4)) 1 (-4)) 2 (-4))) C hK w 14 rfl (in_c (by decide)) (by decide) (dk_at dkX6_init 79 rfl) (fun H locs w => ?_)
  have w : Wd g A Z.heap ([(b0, .inr (5, [.ref q1, .ref q2, .ref q3, .int 0, .ref q4, .int 0, .int 0, .int 0, .ref q5, .int 0, .int 0, .int 0, .int 0, .int 0, .int 0, .int 0, .ref q6, .ref q7, .ref q8, .ref q9, .ref q10, .ref q11, .long 0, .long 0, .long 0, .ref q12, .ref q13, .ref q14, .ref q15, .ref q16, .int 0, .ref q17])), arI g q1 183 (fun _ => 0), arI g q2 61 (fun _ => 0), arZ g q3 2 (fun _ => 0), arI g q4 61 (fun _ => 0), arI g q5 160 (fun _ => 0), arI g q6 5 (fun _ => 0), arI g q7 5 (fun _ => 0), arI g q8 5 (fun _ => 0), arZ g q9 80 (fun _ => 0), arZ g q10 80 (fun _ => 0), arZ g q11 80 (fun _ => 0), arI g q12 400 (fun _ => 0), arI g q13 10 (fun _ => 0), arI g q14 4 (upd (upd (upd (upd (fun _ => 0) 0 (-4)) 1 (-4)) 2 (-4)) 3 (-4)), arI g q15 4 (fun _ => 0), arI g q16 160 (fun _ => 0), arI g q17 61 (fun _ => 0)]) H _ := w
  refine lv_iinc (v := 4) (lv' := [(1, .int 4), (0, .ref b0)]) C.1 C.2.1 (dk_at dkX6_init 80 rfl) hl (k := 0) rfl (by decide) (by decide) rfl (fun ls hl => ?_)
  refine lv_goto (tgt := 140) C.1 C.2.1 (dk_at dkX6_init 81 rfl) (by decide) ?_
  refine lv_iload_n C.1 C.2.1 (dk_at dkX6_init 72 rfl) rfl (lv_at hl 0 rfl) ?_
  refine lv_iconst (v := 4) C.1 C.2.1 (dk_at dkX6_init 73 rfl) (by decide) ?_
  refine lv_icmp_ge (tgt := 159) C.1 C.2.1 (dk_at dkX6_init 74 rfl) (by decide) (fun _ => ?_) (fun c1 => absurd (by decide) c1)
  refine lv_aload_n C.1 C.2.1 (dk_at dkX6_init 82 rfl) rfl (lv_at hl 1 rfl) ?_
  obtain ⟨al, eal⟩ : ∃ z : Nat → Nat, z = (fun k => [b0, q1, q2, q3, q4, q5, q6, q7, q8, q9, q10, q11, q12, q13, q14, q15, q16, q17].getD k 0) := ⟨_, rfl⟩
  have w : Wd g A Z.heap (wM g al (fun _ => 0) (fun _ => 0) (fun _ => 0) 0 (fun _ => 0) 0 0 0 (fun _ => 0) 0 0 0 0 0 0 0 (fun _ => 0) (fun _ => 0) (fun _ => 0) (fun _ => 0) (fun _ => 0) (fun _ => 0) 0 0 0 (fun _ => 0) (fun _ => 0) (upd (upd (upd (upd (fun _ => 0) 0 (-4)) 1 (-4)) 2 (-4)) 3 (-4)) (fun _ => 0) (fun _ => 0) 0 (fun _ => 0)) H locs := by rw [eal]; exact w
  have eb : al 0 = b0 := by rw [eal]; rfl
  rw [← eb] at hl ⊢
  refine r_rwv (As := []) (rest := []) (wr := []) (ws' := wM g al (fun _ => 0) (fun _ => 0) (fun _ => 0) 0 draft_1 dHearers_1 dWalls_1 toldWinds_1 (fun _ => 0) 0 0 0 0 0 0 0 (fun _ => 0) (fun _ => 0) (fun _ => 0) (fun _ => 0) (fun _ => 0) (fun _ => 0) 0 0 0 (fun _ => 0) (fun _ => 0) (upd (upd (upd (upd (fun _ => 0) 0 (-4)) 1 (-4)) 2 (-4)) 3 (-4)) (fun _ => 0) (fun _ => 0) 0 (fun _ => 0)) C (kX6_firstDraft l g _ al (fun _ => 0) (fun _ => 0) (fun _ => 0) 0 (fun _ => 0) 0 0 0 (fun _ => 0) 0 0 0 0 0 0 0 (fun _ => 0) (fun _ => 0) (fun _ => 0) (fun _ => 0) (fun _ => 0) (fun _ => 0) 0 0 0 (fun _ => 0) (fun _ => 0) (upd (upd (upd (upd (fun _ => 0) 0 (-4)) 1 (-4)) 2 (-4)) 3 (-4)) (fun _ => 0) (fun _ => 0) 0 (fun _ => 0) draft_1 dHearers_1 dWalls_1 toldWinds_1 hf1) (cwV0 C (inr4 _ (List.mem_of_getElem? (i := 21) rfl)) mwX6_firstDraft hdX6_firstDraft ⟨Nat.le_of_ble_eq_true rfl, Nat.le_of_ble_eq_true rfl⟩) hK w hA [0, 1, 2, 3, 4, 5, 6, 7, 8, 9, 10, 11, 12, 13, 14, 15, 16, 17] [] [0, 1, 2, 3, 4, 5, 6, 7, 8, 9, 10, 11, 12, 13, 14, 15, 16, 17] (by decide) rfl rfl (by decide) (by decide) rfl (by decide) rfl rfl rfl hl.1 rfl (Nat.le_of_ble_eq_true rfl) ⟨Nat.le_of_ble_eq_true rfl, Nat.le_of_ble_eq_true rfl⟩ (dk_at dkX6_init 83 rfl) (fun H locs w => ?_)
  refine lv_aload_n C.1 C.2.1 (dk_at dkX6_init 84 rfl) rfl (lv_at hl 1 rfl) ?_
  refine r_rwv (As := []) (rest := []) (wr := []) (ws' := wM g al st_2 (fun _ => 0) isKept_2 hearers_2 draft_1 dHearers_1 dWalls_1 toldWinds_1 (fun _ => 0) 0 0 0 0 0 0 0 (fun _ => 0) (fun _ => 0) (fun _ => 0) (fun _ => 0) (fun _ => 0) (fun _ => 0) 0 0 0 (fun _ => 0) (fun _ => 0) (upd (upd (upd (upd (fun _ => 0) 0 (-4)) 1 (-4)) 2 (-4)) 3 (-4)) (fun _ => 0) (fun _ => 0) 0 (fun _ => 0)) C (kX6_keepDraft l g _ al (fun _ => 0) (fun _ => 0) (fun _ => 0) 0 draft_1 dHearers_1 dWalls_1 toldWinds_1 (fun _ => 0) 0 0 0 0 0 0 0 (fun _ => 0) (fun _ => 0) (fun _ => 0) (fun _ => 0) (fun _ => 0) (fun _ => 0) 0 0 0 (fun _ => 0) (fun _ => 0) (upd (upd (upd (upd (fun _ => 0) 0 (-4)) 1 (-4)) 2 (-4)) 3 (-4)) (fun _ => 0) (fun _ => 0) 0 (fun _ => 0) st_2 isKept_2 hearers_2 hf2) (cwV0 C (inr5 _ (List.mem_of_getElem? (i := 4) rfl)) mwX6_keepDraft hdX6_keepDraft ⟨Nat.le_of_ble_eq_true rfl, Nat.le_of_ble_eq_true rfl⟩) hK w hA [0, 1, 2, 3, 4, 5, 6, 7, 8, 9, 10, 11, 12, 13, 14, 15, 16, 17] [] [0, 1, 2, 3, 4, 5, 6, 7, 8, 9, 10, 11, 12, 13, 14, 15, 16, 17] (by decide) rfl rfl (by decide) (by decide) rfl (by decide) rfl rfl rfl hl.1 rfl (Nat.le_of_ble_eq_true rfl) ⟨Nat.le_of_ble_eq_true rfl, Nat.le_of_ble_eq_true rfl⟩ (dk_at dkX6_init 85 rfl) (fun H locs w => ?_)
  exact fin _ _ _ _ al (dk_at dkX6_init 86 rfl) eb w
